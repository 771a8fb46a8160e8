section
-- ===== PART A: goes FIRST, ahead of the names: the tables' words, and 'selects' of the private methods out of them =====
/-- a private method of a class that the tables say can be made, by its rows of tables_1 -/
def lw_okq (q : MethodName × Nat) : Prop := (q.1.cls ≠ "java/lang/invoke/MethodHandle" ∧ q.1.cls ≠ "java/lang/invoke/VarHandle") ∧ Cond.instantiable q.1.cls q.2 ∈ tables_1 ∧ Cond.privateMethod q.1 ∈ tables_1 ∧ Cond.instanceMethod q.1 ∈ tables_1
theorem lw_p0 : lw_okq (⟨"PaidToGoAway$Reader", "read", "([CILPaidToGoAway$River;)I"⟩, 1) := ⟨⟨by decide +kernel, by decide +kernel⟩, List.mem_of_getElem? (i := 23) (by decide +kernel), List.mem_of_getElem? (i := 196) (by decide +kernel), List.mem_of_getElem? (i := 197) (by decide +kernel)⟩
theorem lw_p1 : lw_okq (⟨"PaidToGoAway$River", "clear", "()V"⟩, 4) := ⟨⟨by decide +kernel, by decide +kernel⟩, List.mem_of_getElem? (i := 38) (by decide +kernel), List.mem_of_getElem? (i := 200) (by decide +kernel), List.mem_of_getElem? (i := 201) (by decide +kernel)⟩
theorem lw_p2 : lw_okq (⟨"PaidToGoAway$Reader", "itemEnd", "([CII)I"⟩, 1) := ⟨⟨by decide +kernel, by decide +kernel⟩, List.mem_of_getElem? (i := 23) (by decide +kernel), List.mem_of_getElem? (i := 207) (by decide +kernel), List.mem_of_getElem? (i := 208) (by decide +kernel)⟩
theorem lw_p3 : lw_okq (⟨"PaidToGoAway$Reader", "takes", "(CLPaidToGoAway$River;)Z"⟩, 1) := ⟨⟨by decide +kernel, by decide +kernel⟩, List.mem_of_getElem? (i := 23) (by decide +kernel), List.mem_of_getElem? (i := 223) (by decide +kernel), List.mem_of_getElem? (i := 224) (by decide +kernel)⟩
theorem lw_p4 : lw_okq (⟨"PaidToGoAway$River", "settle", "(IIII)Z"⟩, 4) := ⟨⟨by decide +kernel, by decide +kernel⟩, List.mem_of_getElem? (i := 38) (by decide +kernel), List.mem_of_getElem? (i := 227) (by decide +kernel), List.mem_of_getElem? (i := 228) (by decide +kernel)⟩
theorem lw_p5 : lw_okq (⟨"PaidToGoAway$River", "townsThere", "()I"⟩, 4) := ⟨⟨by decide +kernel, by decide +kernel⟩, List.mem_of_getElem? (i := 38) (by decide +kernel), List.mem_of_getElem? (i := 231) (by decide +kernel), List.mem_of_getElem? (i := 232) (by decide +kernel)⟩
theorem lw_p6 : lw_okq (⟨"PaidToGoAway$River", "man", "(II)Z"⟩, 4) := ⟨⟨by decide +kernel, by decide +kernel⟩, List.mem_of_getElem? (i := 38) (by decide +kernel), List.mem_of_getElem? (i := 235) (by decide +kernel), List.mem_of_getElem? (i := 236) (by decide +kernel)⟩
theorem lw_p7 : lw_okq (⟨"PaidToGoAway$River", "crewsThere", "()I"⟩, 4) := ⟨⟨by decide +kernel, by decide +kernel⟩, List.mem_of_getElem? (i := 38) (by decide +kernel), List.mem_of_getElem? (i := 239) (by decide +kernel), List.mem_of_getElem? (i := 240) (by decide +kernel)⟩
theorem lw_p8 : lw_okq (⟨"PaidToGoAway$Crew", "believe", "(II)V"⟩, 6) := ⟨⟨by decide +kernel, by decide +kernel⟩, List.mem_of_getElem? (i := 96) (by decide +kernel), List.mem_of_getElem? (i := 243) (by decide +kernel), List.mem_of_getElem? (i := 244) (by decide +kernel)⟩
theorem lw_p9 : lw_okq (⟨"PaidToGoAway$River", "goWay", "(II)Z"⟩, 4) := ⟨⟨by decide +kernel, by decide +kernel⟩, List.mem_of_getElem? (i := 38) (by decide +kernel), List.mem_of_getElem? (i := 247) (by decide +kernel), List.mem_of_getElem? (i := 248) (by decide +kernel)⟩
theorem lw_p10 : lw_okq (⟨"PaidToGoAway$River", "townAt", "(I)LPaidToGoAway$Town;"⟩, 4) := ⟨⟨by decide +kernel, by decide +kernel⟩, List.mem_of_getElem? (i := 38) (by decide +kernel), List.mem_of_getElem? (i := 251) (by decide +kernel), List.mem_of_getElem? (i := 252) (by decide +kernel)⟩
theorem lw_p11 : lw_okq (⟨"PaidToGoAway$River", "costWalls", "(I)Z"⟩, 4) := ⟨⟨by decide +kernel, by decide +kernel⟩, List.mem_of_getElem? (i := 38) (by decide +kernel), List.mem_of_getElem? (i := 255) (by decide +kernel), List.mem_of_getElem? (i := 256) (by decide +kernel)⟩
theorem lw_p12 : lw_okq (⟨"PaidToGoAway$River", "copy", "(LPaidToGoAway$River;)V"⟩, 4) := ⟨⟨by decide +kernel, by decide +kernel⟩, List.mem_of_getElem? (i := 38) (by decide +kernel), List.mem_of_getElem? (i := 352) (by decide +kernel), List.mem_of_getElem? (i := 353) (by decide +kernel)⟩
theorem lw_p13 : lw_okq (⟨"PaidToGoAway$Town", "copy", "(LPaidToGoAway$Town;)V"⟩, 8) := ⟨⟨by decide +kernel, by decide +kernel⟩, List.mem_of_getElem? (i := 47) (by decide +kernel), List.mem_of_getElem? (i := 356) (by decide +kernel), List.mem_of_getElem? (i := 357) (by decide +kernel)⟩
theorem lw_p14 : lw_okq (⟨"PaidToGoAway$Crew", "copy", "(LPaidToGoAway$Crew;)V"⟩, 6) := ⟨⟨by decide +kernel, by decide +kernel⟩, List.mem_of_getElem? (i := 96) (by decide +kernel), List.mem_of_getElem? (i := 360) (by decide +kernel), List.mem_of_getElem? (i := 361) (by decide +kernel)⟩
theorem lw_p15 : lw_okq (⟨"PaidToGoAway$Crew", "beliefOf", "(I)I"⟩, 6) := ⟨⟨by decide +kernel, by decide +kernel⟩, List.mem_of_getElem? (i := 96) (by decide +kernel), List.mem_of_getElem? (i := 364) (by decide +kernel), List.mem_of_getElem? (i := 365) (by decide +kernel)⟩
def lw_privs_1 : List (MethodName × Nat) := [(⟨"PaidToGoAway$Reader", "read", "([CILPaidToGoAway$River;)I"⟩, 1), (⟨"PaidToGoAway$River", "clear", "()V"⟩, 4), (⟨"PaidToGoAway$Reader", "itemEnd", "([CII)I"⟩, 1), (⟨"PaidToGoAway$Reader", "takes", "(CLPaidToGoAway$River;)Z"⟩, 1), (⟨"PaidToGoAway$River", "settle", "(IIII)Z"⟩, 4), (⟨"PaidToGoAway$River", "townsThere", "()I"⟩, 4), (⟨"PaidToGoAway$River", "man", "(II)Z"⟩, 4), (⟨"PaidToGoAway$River", "crewsThere", "()I"⟩, 4), (⟨"PaidToGoAway$Crew", "believe", "(II)V"⟩, 6), (⟨"PaidToGoAway$River", "goWay", "(II)Z"⟩, 4), (⟨"PaidToGoAway$River", "townAt", "(I)LPaidToGoAway$Town;"⟩, 4), (⟨"PaidToGoAway$River", "costWalls", "(I)Z"⟩, 4), (⟨"PaidToGoAway$River", "copy", "(LPaidToGoAway$River;)V"⟩, 4), (⟨"PaidToGoAway$Town", "copy", "(LPaidToGoAway$Town;)V"⟩, 8), (⟨"PaidToGoAway$Crew", "copy", "(LPaidToGoAway$Crew;)V"⟩, 6), (⟨"PaidToGoAway$Crew", "beliefOf", "(I)I"⟩, 6)]
theorem lw_r1 : ∀ q ∈ lw_privs_1, lw_okq q := List.forall_mem_cons.mpr ⟨lw_p0, List.forall_mem_cons.mpr ⟨lw_p1, List.forall_mem_cons.mpr ⟨lw_p2, List.forall_mem_cons.mpr ⟨lw_p3, List.forall_mem_cons.mpr ⟨lw_p4, List.forall_mem_cons.mpr ⟨lw_p5, List.forall_mem_cons.mpr ⟨lw_p6, List.forall_mem_cons.mpr ⟨lw_p7, List.forall_mem_cons.mpr ⟨lw_p8, List.forall_mem_cons.mpr ⟨lw_p9, List.forall_mem_cons.mpr ⟨lw_p10, List.forall_mem_cons.mpr ⟨lw_p11, List.forall_mem_cons.mpr ⟨lw_p12, List.forall_mem_cons.mpr ⟨lw_p13, List.forall_mem_cons.mpr ⟨lw_p14, List.forall_mem_cons.mpr ⟨lw_p15, fun _ h => absurd h List.not_mem_nil⟩⟩⟩⟩⟩⟩⟩⟩⟩⟩⟩⟩⟩⟩⟩⟩
theorem lw_p16 : lw_okq (⟨"PaidToGoAway$River", "crewAt", "(I)LPaidToGoAway$Crew;"⟩, 4) := ⟨⟨by decide +kernel, by decide +kernel⟩, List.mem_of_getElem? (i := 38) (by decide +kernel), List.mem_of_getElem? (i := 377) (by decide +kernel), List.mem_of_getElem? (i := 378) (by decide +kernel)⟩
theorem lw_p17 : lw_okq (⟨"PaidToGoAway$Crew", "wouldAsk", "(LPaidToGoAway$Town;I)I"⟩, 6) := ⟨⟨by decide +kernel, by decide +kernel⟩, List.mem_of_getElem? (i := 96) (by decide +kernel), List.mem_of_getElem? (i := 390) (by decide +kernel), List.mem_of_getElem? (i := 391) (by decide +kernel)⟩
theorem lw_p18 : lw_okq (⟨"PaidToGoAway$Shelf", "put", "(LPaidToGoAway$River;)V"⟩, 2) := ⟨⟨by decide +kernel, by decide +kernel⟩, List.mem_of_getElem? (i := 259) (by decide +kernel), List.mem_of_getElem? (i := 399) (by decide +kernel), List.mem_of_getElem? (i := 400) (by decide +kernel)⟩
theorem lw_p19 : lw_okq (⟨"PaidToGoAway$Shelf", "dropOldest", "()V"⟩, 2) := ⟨⟨by decide +kernel, by decide +kernel⟩, List.mem_of_getElem? (i := 259) (by decide +kernel), List.mem_of_getElem? (i := 403) (by decide +kernel), List.mem_of_getElem? (i := 404) (by decide +kernel)⟩
theorem lw_p20 : lw_okq (⟨"PaidToGoAway$River", "goBy", "(I)V"⟩, 4) := ⟨⟨by decide +kernel, by decide +kernel⟩, List.mem_of_getElem? (i := 38) (by decide +kernel), List.mem_of_getElem? (i := 408) (by decide +kernel), List.mem_of_getElem? (i := 409) (by decide +kernel)⟩
theorem lw_p21 : lw_okq (⟨"PaidToGoAway$River", "earnAndBuild", "()V"⟩, 4) := ⟨⟨by decide +kernel, by decide +kernel⟩, List.mem_of_getElem? (i := 38) (by decide +kernel), List.mem_of_getElem? (i := 412) (by decide +kernel), List.mem_of_getElem? (i := 413) (by decide +kernel)⟩
theorem lw_p22 : lw_okq (⟨"PaidToGoAway$Town", "stands", "()Z"⟩, 8) := ⟨⟨by decide +kernel, by decide +kernel⟩, List.mem_of_getElem? (i := 47) (by decide +kernel), List.mem_of_getElem? (i := 416) (by decide +kernel), List.mem_of_getElem? (i := 417) (by decide +kernel)⟩
theorem lw_p23 : lw_okq (⟨"PaidToGoAway$Town", "earn", "()V"⟩, 8) := ⟨⟨by decide +kernel, by decide +kernel⟩, List.mem_of_getElem? (i := 47) (by decide +kernel), List.mem_of_getElem? (i := 420) (by decide +kernel), List.mem_of_getElem? (i := 421) (by decide +kernel)⟩
theorem lw_p24 : lw_okq (⟨"PaidToGoAway$Town", "build", "(I)V"⟩, 8) := ⟨⟨by decide +kernel, by decide +kernel⟩, List.mem_of_getElem? (i := 47) (by decide +kernel), List.mem_of_getElem? (i := 425) (by decide +kernel), List.mem_of_getElem? (i := 426) (by decide +kernel)⟩
theorem lw_p25 : lw_okq (⟨"PaidToGoAway$Crew", "sails", "()Z"⟩, 6) := ⟨⟨by decide +kernel, by decide +kernel⟩, List.mem_of_getElem? (i := 96) (by decide +kernel), List.mem_of_getElem? (i := 429) (by decide +kernel), List.mem_of_getElem? (i := 430) (by decide +kernel)⟩
theorem lw_p26 : lw_okq (⟨"PaidToGoAway$River", "comeUp", "(LPaidToGoAway$Crew;)V"⟩, 4) := ⟨⟨by decide +kernel, by decide +kernel⟩, List.mem_of_getElem? (i := 38) (by decide +kernel), List.mem_of_getElem? (i := 433) (by decide +kernel), List.mem_of_getElem? (i := 434) (by decide +kernel)⟩
theorem lw_p27 : lw_okq (⟨"PaidToGoAway$Crew", "takePay", "(LPaidToGoAway$Town;II)V"⟩, 6) := ⟨⟨by decide +kernel, by decide +kernel⟩, List.mem_of_getElem? (i := 96) (by decide +kernel), List.mem_of_getElem? (i := 441) (by decide +kernel), List.mem_of_getElem? (i := 442) (by decide +kernel)⟩
theorem lw_p28 : lw_okq (⟨"PaidToGoAway$Town", "give", "(I)V"⟩, 8) := ⟨⟨by decide +kernel, by decide +kernel⟩, List.mem_of_getElem? (i := 47) (by decide +kernel), List.mem_of_getElem? (i := 445) (by decide +kernel), List.mem_of_getElem? (i := 446) (by decide +kernel)⟩
theorem lw_p29 : lw_okq (⟨"PaidToGoAway$Town", "menHeldOff", "()I"⟩, 8) := ⟨⟨by decide +kernel, by decide +kernel⟩, List.mem_of_getElem? (i := 47) (by decide +kernel), List.mem_of_getElem? (i := 450) (by decide +kernel), List.mem_of_getElem? (i := 451) (by decide +kernel)⟩
theorem lw_p30 : lw_okq (⟨"PaidToGoAway$Crew", "burn", "(LPaidToGoAway$Town;I)V"⟩, 6) := ⟨⟨by decide +kernel, by decide +kernel⟩, List.mem_of_getElem? (i := 96) (by decide +kernel), List.mem_of_getElem? (i := 454) (by decide +kernel), List.mem_of_getElem? (i := 455) (by decide +kernel)⟩
theorem lw_p31 : lw_okq (⟨"PaidToGoAway$Crew", "goHome", "()V"⟩, 6) := ⟨⟨by decide +kernel, by decide +kernel⟩, List.mem_of_getElem? (i := 96) (by decide +kernel), List.mem_of_getElem? (i := 459) (by decide +kernel), List.mem_of_getElem? (i := 460) (by decide +kernel)⟩
def lw_privs_2 : List (MethodName × Nat) := [(⟨"PaidToGoAway$River", "crewAt", "(I)LPaidToGoAway$Crew;"⟩, 4), (⟨"PaidToGoAway$Crew", "wouldAsk", "(LPaidToGoAway$Town;I)I"⟩, 6), (⟨"PaidToGoAway$Shelf", "put", "(LPaidToGoAway$River;)V"⟩, 2), (⟨"PaidToGoAway$Shelf", "dropOldest", "()V"⟩, 2), (⟨"PaidToGoAway$River", "goBy", "(I)V"⟩, 4), (⟨"PaidToGoAway$River", "earnAndBuild", "()V"⟩, 4), (⟨"PaidToGoAway$Town", "stands", "()Z"⟩, 8), (⟨"PaidToGoAway$Town", "earn", "()V"⟩, 8), (⟨"PaidToGoAway$Town", "build", "(I)V"⟩, 8), (⟨"PaidToGoAway$Crew", "sails", "()Z"⟩, 6), (⟨"PaidToGoAway$River", "comeUp", "(LPaidToGoAway$Crew;)V"⟩, 4), (⟨"PaidToGoAway$Crew", "takePay", "(LPaidToGoAway$Town;II)V"⟩, 6), (⟨"PaidToGoAway$Town", "give", "(I)V"⟩, 8), (⟨"PaidToGoAway$Town", "menHeldOff", "()I"⟩, 8), (⟨"PaidToGoAway$Crew", "burn", "(LPaidToGoAway$Town;I)V"⟩, 6), (⟨"PaidToGoAway$Crew", "goHome", "()V"⟩, 6)]
theorem lw_r2 : ∀ q ∈ lw_privs_2, lw_okq q := List.forall_mem_cons.mpr ⟨lw_p16, List.forall_mem_cons.mpr ⟨lw_p17, List.forall_mem_cons.mpr ⟨lw_p18, List.forall_mem_cons.mpr ⟨lw_p19, List.forall_mem_cons.mpr ⟨lw_p20, List.forall_mem_cons.mpr ⟨lw_p21, List.forall_mem_cons.mpr ⟨lw_p22, List.forall_mem_cons.mpr ⟨lw_p23, List.forall_mem_cons.mpr ⟨lw_p24, List.forall_mem_cons.mpr ⟨lw_p25, List.forall_mem_cons.mpr ⟨lw_p26, List.forall_mem_cons.mpr ⟨lw_p27, List.forall_mem_cons.mpr ⟨lw_p28, List.forall_mem_cons.mpr ⟨lw_p29, List.forall_mem_cons.mpr ⟨lw_p30, List.forall_mem_cons.mpr ⟨lw_p31, fun _ h => absurd h List.not_mem_nil⟩⟩⟩⟩⟩⟩⟩⟩⟩⟩⟩⟩⟩⟩⟩⟩
theorem lw_p32 : lw_okq (⟨"PaidToGoAway$Crew", "grow", "(I)V"⟩, 6) := ⟨⟨by decide +kernel, by decide +kernel⟩, List.mem_of_getElem? (i := 96) (by decide +kernel), List.mem_of_getElem? (i := 463) (by decide +kernel), List.mem_of_getElem? (i := 464) (by decide +kernel)⟩
theorem lw_p33 : lw_okq (⟨"PaidToGoAway$Crew", "fightLosing", "(I)V"⟩, 6) := ⟨⟨by decide +kernel, by decide +kernel⟩, List.mem_of_getElem? (i := 96) (by decide +kernel), List.mem_of_getElem? (i := 477) (by decide +kernel), List.mem_of_getElem? (i := 478) (by decide +kernel)⟩
theorem lw_p34 : lw_okq (⟨"PaidToGoAway$Shelf", "takeInto", "(LPaidToGoAway$River;)V"⟩, 2) := ⟨⟨by decide +kernel, by decide +kernel⟩, List.mem_of_getElem? (i := 259) (by decide +kernel), List.mem_of_getElem? (i := 494) (by decide +kernel), List.mem_of_getElem? (i := 495) (by decide +kernel)⟩
theorem lw_p35 : lw_okq (⟨"PaidToGoAway$River", "firstBurntSince", "(LPaidToGoAway$River;)I"⟩, 4) := ⟨⟨by decide +kernel, by decide +kernel⟩, List.mem_of_getElem? (i := 38) (by decide +kernel), List.mem_of_getElem? (i := 506) (by decide +kernel), List.mem_of_getElem? (i := 507) (by decide +kernel)⟩
theorem lw_p36 : lw_okq (⟨"PaidToGoAway$River", "standsAt", "(I)Z"⟩, 4) := ⟨⟨by decide +kernel, by decide +kernel⟩, List.mem_of_getElem? (i := 38) (by decide +kernel), List.mem_of_getElem? (i := 510) (by decide +kernel), List.mem_of_getElem? (i := 511) (by decide +kernel)⟩
theorem lw_p37 : lw_okq (⟨"PaidToGoAway", "silverByRow", "(III)I"⟩, 11) := ⟨⟨by decide +kernel, by decide +kernel⟩, List.mem_of_getElem? (i := 15) (by decide +kernel), List.mem_of_getElem? (i := 518) (by decide +kernel), List.mem_of_getElem? (i := 519) (by decide +kernel)⟩
theorem lw_p38 : lw_okq (⟨"PaidToGoAway", "trySpringOf", "(III)V"⟩, 11) := ⟨⟨by decide +kernel, by decide +kernel⟩, List.mem_of_getElem? (i := 15) (by decide +kernel), List.mem_of_getElem? (i := 530) (by decide +kernel), List.mem_of_getElem? (i := 531) (by decide +kernel)⟩
theorem lw_p39 : lw_okq (⟨"PaidToGoAway", "isRest", "(I)Z"⟩, 11) := ⟨⟨by decide +kernel, by decide +kernel⟩, List.mem_of_getElem? (i := 15) (by decide +kernel), List.mem_of_getElem? (i := 534) (by decide +kernel), List.mem_of_getElem? (i := 535) (by decide +kernel)⟩
theorem lw_p40 : lw_okq (⟨"PaidToGoAway", "standsWith", "(III)Z"⟩, 11) := ⟨⟨by decide +kernel, by decide +kernel⟩, List.mem_of_getElem? (i := 15) (by decide +kernel), List.mem_of_getElem? (i := 545) (by decide +kernel), List.mem_of_getElem? (i := 546) (by decide +kernel)⟩
theorem lw_p41 : lw_okq (⟨"PaidToGoAway$River", "silverOfAll", "()I"⟩, 4) := ⟨⟨by decide +kernel, by decide +kernel⟩, List.mem_of_getElem? (i := 38) (by decide +kernel), List.mem_of_getElem? (i := 553) (by decide +kernel), List.mem_of_getElem? (i := 554) (by decide +kernel)⟩
theorem lw_p42 : lw_okq (⟨"PaidToGoAway$River", "askedOfAll", "()I"⟩, 4) := ⟨⟨by decide +kernel, by decide +kernel⟩, List.mem_of_getElem? (i := 38) (by decide +kernel), List.mem_of_getElem? (i := 557) (by decide +kernel), List.mem_of_getElem? (i := 558) (by decide +kernel)⟩
theorem lw_p43 : lw_okq (⟨"PaidToGoAway$Finds", "add", "(III)Z"⟩, 4) := ⟨⟨by decide +kernel, by decide +kernel⟩, List.mem_of_getElem? (i := 280) (by decide +kernel), List.mem_of_getElem? (i := 568) (by decide +kernel), List.mem_of_getElem? (i := 569) (by decide +kernel)⟩
theorem lw_p44 : lw_okq (⟨"PaidToGoAway", "wouldBeFound", "(II)Z"⟩, 11) := ⟨⟨by decide +kernel, by decide +kernel⟩, List.mem_of_getElem? (i := 15) (by decide +kernel), List.mem_of_getElem? (i := 580) (by decide +kernel), List.mem_of_getElem? (i := 581) (by decide +kernel)⟩
theorem lw_p45 : lw_okq (⟨"PaidToGoAway$Finds", "lastSpring", "()I"⟩, 4) := ⟨⟨by decide +kernel, by decide +kernel⟩, List.mem_of_getElem? (i := 280) (by decide +kernel), List.mem_of_getElem? (i := 584) (by decide +kernel), List.mem_of_getElem? (i := 585) (by decide +kernel)⟩
theorem lw_p46 : lw_okq (⟨"PaidToGoAway$Finds", "agree", "(LPaidToGoAway$River;I)Z"⟩, 4) := ⟨⟨by decide +kernel, by decide +kernel⟩, List.mem_of_getElem? (i := 280) (by decide +kernel), List.mem_of_getElem? (i := 589) (by decide +kernel), List.mem_of_getElem? (i := 590) (by decide +kernel)⟩
theorem lw_p47 : lw_okq (⟨"PaidToGoAway", "paidToOnly", "(III)I"⟩, 11) := ⟨⟨by decide +kernel, by decide +kernel⟩, List.mem_of_getElem? (i := 15) (by decide +kernel), List.mem_of_getElem? (i := 598) (by decide +kernel), List.mem_of_getElem? (i := 599) (by decide +kernel)⟩
def lw_privs_3 : List (MethodName × Nat) := [(⟨"PaidToGoAway$Crew", "grow", "(I)V"⟩, 6), (⟨"PaidToGoAway$Crew", "fightLosing", "(I)V"⟩, 6), (⟨"PaidToGoAway$Shelf", "takeInto", "(LPaidToGoAway$River;)V"⟩, 2), (⟨"PaidToGoAway$River", "firstBurntSince", "(LPaidToGoAway$River;)I"⟩, 4), (⟨"PaidToGoAway$River", "standsAt", "(I)Z"⟩, 4), (⟨"PaidToGoAway", "silverByRow", "(III)I"⟩, 11), (⟨"PaidToGoAway", "trySpringOf", "(III)V"⟩, 11), (⟨"PaidToGoAway", "isRest", "(I)Z"⟩, 11), (⟨"PaidToGoAway", "standsWith", "(III)Z"⟩, 11), (⟨"PaidToGoAway$River", "silverOfAll", "()I"⟩, 4), (⟨"PaidToGoAway$River", "askedOfAll", "()I"⟩, 4), (⟨"PaidToGoAway$Finds", "add", "(III)Z"⟩, 4), (⟨"PaidToGoAway", "wouldBeFound", "(II)Z"⟩, 11), (⟨"PaidToGoAway$Finds", "lastSpring", "()I"⟩, 4), (⟨"PaidToGoAway$Finds", "agree", "(LPaidToGoAway$River;I)Z"⟩, 4), (⟨"PaidToGoAway", "paidToOnly", "(III)I"⟩, 11)]
theorem lw_r3 : ∀ q ∈ lw_privs_3, lw_okq q := List.forall_mem_cons.mpr ⟨lw_p32, List.forall_mem_cons.mpr ⟨lw_p33, List.forall_mem_cons.mpr ⟨lw_p34, List.forall_mem_cons.mpr ⟨lw_p35, List.forall_mem_cons.mpr ⟨lw_p36, List.forall_mem_cons.mpr ⟨lw_p37, List.forall_mem_cons.mpr ⟨lw_p38, List.forall_mem_cons.mpr ⟨lw_p39, List.forall_mem_cons.mpr ⟨lw_p40, List.forall_mem_cons.mpr ⟨lw_p41, List.forall_mem_cons.mpr ⟨lw_p42, List.forall_mem_cons.mpr ⟨lw_p43, List.forall_mem_cons.mpr ⟨lw_p44, List.forall_mem_cons.mpr ⟨lw_p45, List.forall_mem_cons.mpr ⟨lw_p46, List.forall_mem_cons.mpr ⟨lw_p47, fun _ h => absurd h List.not_mem_nil⟩⟩⟩⟩⟩⟩⟩⟩⟩⟩⟩⟩⟩⟩⟩⟩
theorem lw_p48 : lw_okq (⟨"PaidToGoAway$River", "leaveOnly", "(I)V"⟩, 4) := ⟨⟨by decide +kernel, by decide +kernel⟩, List.mem_of_getElem? (i := 38) (by decide +kernel), List.mem_of_getElem? (i := 602) (by decide +kernel), List.mem_of_getElem? (i := 603) (by decide +kernel)⟩
theorem lw_p49 : lw_okq (⟨"PaidToGoAway$River", "joinDrawn", "(II)V"⟩, 4) := ⟨⟨by decide +kernel, by decide +kernel⟩, List.mem_of_getElem? (i := 38) (by decide +kernel), List.mem_of_getElem? (i := 610) (by decide +kernel), List.mem_of_getElem? (i := 611) (by decide +kernel)⟩
theorem lw_p50 : lw_okq (⟨"PaidToGoAway$River", "townsBurnt", "()I"⟩, 4) := ⟨⟨by decide +kernel, by decide +kernel⟩, List.mem_of_getElem? (i := 38) (by decide +kernel), List.mem_of_getElem? (i := 621) (by decide +kernel), List.mem_of_getElem? (i := 622) (by decide +kernel)⟩
theorem lw_p51 : lw_okq (⟨"PaidToGoAway$River", "crewsGone", "()I"⟩, 4) := ⟨⟨by decide +kernel, by decide +kernel⟩, List.mem_of_getElem? (i := 38) (by decide +kernel), List.mem_of_getElem? (i := 637) (by decide +kernel), List.mem_of_getElem? (i := 638) (by decide +kernel)⟩
theorem lw_p52 : lw_okq (⟨"PaidToGoAwayModel", "layTown", "(IIIIII)V"⟩, 26) := ⟨⟨by decide +kernel, by decide +kernel⟩, List.mem_of_getElem? (i := 641) (by decide +kernel), List.mem_of_getElem? (i := 647) (by decide +kernel), List.mem_of_getElem? (i := 648) (by decide +kernel)⟩
theorem lw_p53 : lw_okq (⟨"PaidToGoAwayModel", "isRead", "()Z"⟩, 26) := ⟨⟨by decide +kernel, by decide +kernel⟩, List.mem_of_getElem? (i := 641) (by decide +kernel), List.mem_of_getElem? (i := 748) (by decide +kernel), List.mem_of_getElem? (i := 749) (by decide +kernel)⟩
theorem lw_p54 : lw_okq (⟨"PaidToGoAwayModel", "isItem", "()Z"⟩, 26) := ⟨⟨by decide +kernel, by decide +kernel⟩, List.mem_of_getElem? (i := 641) (by decide +kernel), List.mem_of_getElem? (i := 752) (by decide +kernel), List.mem_of_getElem? (i := 753) (by decide +kernel)⟩
theorem lw_p55 : lw_okq (⟨"PaidToGoAwayModel", "letterAt", "(I)I"⟩, 26) := ⟨⟨by decide +kernel, by decide +kernel⟩, List.mem_of_getElem? (i := 641) (by decide +kernel), List.mem_of_getElem? (i := 756) (by decide +kernel), List.mem_of_getElem? (i := 757) (by decide +kernel)⟩
theorem lw_p56 : lw_okq (⟨"PaidToGoAwayModel", "isRow", "(I)Z"⟩, 26) := ⟨⟨by decide +kernel, by decide +kernel⟩, List.mem_of_getElem? (i := 641) (by decide +kernel), List.mem_of_getElem? (i := 760) (by decide +kernel), List.mem_of_getElem? (i := 761) (by decide +kernel)⟩
theorem lw_p57 : lw_okq (⟨"PaidToGoAwayModel", "isTown", "(I)Z"⟩, 26) := ⟨⟨by decide +kernel, by decide +kernel⟩, List.mem_of_getElem? (i := 641) (by decide +kernel), List.mem_of_getElem? (i := 772) (by decide +kernel), List.mem_of_getElem? (i := 773) (by decide +kernel)⟩
theorem lw_p58 : lw_okq (⟨"PaidToGoAwayModel", "isCrew", "(I)Z"⟩, 26) := ⟨⟨by decide +kernel, by decide +kernel⟩, List.mem_of_getElem? (i := 641) (by decide +kernel), List.mem_of_getElem? (i := 780) (by decide +kernel), List.mem_of_getElem? (i := 781) (by decide +kernel)⟩
theorem lw_p59 : lw_okq (⟨"PaidToGoAwayModel", "askOf", "([III)I"⟩, 26) := ⟨⟨by decide +kernel, by decide +kernel⟩, List.mem_of_getElem? (i := 641) (by decide +kernel), List.mem_of_getElem? (i := 792) (by decide +kernel), List.mem_of_getElem? (i := 793) (by decide +kernel)⟩
theorem lw_p60 : lw_okq (⟨"PaidToGoAwayModel", "note", "()V"⟩, 26) := ⟨⟨by decide +kernel, by decide +kernel⟩, List.mem_of_getElem? (i := 641) (by decide +kernel), List.mem_of_getElem? (i := 800) (by decide +kernel), List.mem_of_getElem? (i := 801) (by decide +kernel)⟩
theorem lw_p61 : lw_okq (⟨"PaidToGoAwayModel", "spring", "([I)V"⟩, 26) := ⟨⟨by decide +kernel, by decide +kernel⟩, List.mem_of_getElem? (i := 641) (by decide +kernel), List.mem_of_getElem? (i := 804) (by decide +kernel), List.mem_of_getElem? (i := 805) (by decide +kernel)⟩
theorem lw_p62 : lw_okq (⟨"PaidToGoAwayModel", "comeUp", "([II)V"⟩, 26) := ⟨⟨by decide +kernel, by decide +kernel⟩, List.mem_of_getElem? (i := 641) (by decide +kernel), List.mem_of_getElem? (i := 808) (by decide +kernel), List.mem_of_getElem? (i := 809) (by decide +kernel)⟩
theorem lw_p63 : lw_okq (⟨"PaidToGoAwayModel", "pays", "([IIII)I"⟩, 26) := ⟨⟨by decide +kernel, by decide +kernel⟩, List.mem_of_getElem? (i := 641) (by decide +kernel), List.mem_of_getElem? (i := 812) (by decide +kernel), List.mem_of_getElem? (i := 813) (by decide +kernel)⟩
def lw_privs_4 : List (MethodName × Nat) := [(⟨"PaidToGoAway$River", "leaveOnly", "(I)V"⟩, 4), (⟨"PaidToGoAway$River", "joinDrawn", "(II)V"⟩, 4), (⟨"PaidToGoAway$River", "townsBurnt", "()I"⟩, 4), (⟨"PaidToGoAway$River", "crewsGone", "()I"⟩, 4), (⟨"PaidToGoAwayModel", "layTown", "(IIIIII)V"⟩, 26), (⟨"PaidToGoAwayModel", "isRead", "()Z"⟩, 26), (⟨"PaidToGoAwayModel", "isItem", "()Z"⟩, 26), (⟨"PaidToGoAwayModel", "letterAt", "(I)I"⟩, 26), (⟨"PaidToGoAwayModel", "isRow", "(I)Z"⟩, 26), (⟨"PaidToGoAwayModel", "isTown", "(I)Z"⟩, 26), (⟨"PaidToGoAwayModel", "isCrew", "(I)Z"⟩, 26), (⟨"PaidToGoAwayModel", "askOf", "([III)I"⟩, 26), (⟨"PaidToGoAwayModel", "note", "()V"⟩, 26), (⟨"PaidToGoAwayModel", "spring", "([I)V"⟩, 26), (⟨"PaidToGoAwayModel", "comeUp", "([II)V"⟩, 26), (⟨"PaidToGoAwayModel", "pays", "([IIII)I"⟩, 26)]
theorem lw_r4 : ∀ q ∈ lw_privs_4, lw_okq q := List.forall_mem_cons.mpr ⟨lw_p48, List.forall_mem_cons.mpr ⟨lw_p49, List.forall_mem_cons.mpr ⟨lw_p50, List.forall_mem_cons.mpr ⟨lw_p51, List.forall_mem_cons.mpr ⟨lw_p52, List.forall_mem_cons.mpr ⟨lw_p53, List.forall_mem_cons.mpr ⟨lw_p54, List.forall_mem_cons.mpr ⟨lw_p55, List.forall_mem_cons.mpr ⟨lw_p56, List.forall_mem_cons.mpr ⟨lw_p57, List.forall_mem_cons.mpr ⟨lw_p58, List.forall_mem_cons.mpr ⟨lw_p59, List.forall_mem_cons.mpr ⟨lw_p60, List.forall_mem_cons.mpr ⟨lw_p61, List.forall_mem_cons.mpr ⟨lw_p62, List.forall_mem_cons.mpr ⟨lw_p63, fun _ h => absurd h List.not_mem_nil⟩⟩⟩⟩⟩⟩⟩⟩⟩⟩⟩⟩⟩⟩⟩⟩
theorem lw_p64 : lw_okq (⟨"PaidToGoAwayModel", "tryOn", "([II)V"⟩, 26) := ⟨⟨by decide +kernel, by decide +kernel⟩, List.mem_of_getElem? (i := 641) (by decide +kernel), List.mem_of_getElem? (i := 840) (by decide +kernel), List.mem_of_getElem? (i := 841) (by decide +kernel)⟩
theorem lw_p65 : lw_okq (⟨"PaidToGoAwayModel", "layBest", "(II)I"⟩, 26) := ⟨⟨by decide +kernel, by decide +kernel⟩, List.mem_of_getElem? (i := 641) (by decide +kernel), List.mem_of_getElem? (i := 852) (by decide +kernel), List.mem_of_getElem? (i := 853) (by decide +kernel)⟩
theorem lw_p66 : lw_okq (⟨"PaidToGoAwayModel", "silverBy", "(IIIII)I"⟩, 26) := ⟨⟨by decide +kernel, by decide +kernel⟩, List.mem_of_getElem? (i := 641) (by decide +kernel), List.mem_of_getElem? (i := 860) (by decide +kernel), List.mem_of_getElem? (i := 861) (by decide +kernel)⟩
theorem lw_p67 : lw_okq (⟨"PaidToGoAwayModel", "isSo", "(II)Z"⟩, 26) := ⟨⟨by decide +kernel, by decide +kernel⟩, List.mem_of_getElem? (i := 641) (by decide +kernel), List.mem_of_getElem? (i := 884) (by decide +kernel), List.mem_of_getElem? (i := 885) (by decide +kernel)⟩
theorem lw_p68 : lw_okq (⟨"PaidToGoAwayModel", "burntOf", "([I)I"⟩, 26) := ⟨⟨by decide +kernel, by decide +kernel⟩, List.mem_of_getElem? (i := 641) (by decide +kernel), List.mem_of_getElem? (i := 902) (by decide +kernel), List.mem_of_getElem? (i := 903) (by decide +kernel)⟩
theorem lw_p69 : lw_okq (⟨"PaidToGoAwayModel", "silverOf", "([I)I"⟩, 26) := ⟨⟨by decide +kernel, by decide +kernel⟩, List.mem_of_getElem? (i := 641) (by decide +kernel), List.mem_of_getElem? (i := 906) (by decide +kernel), List.mem_of_getElem? (i := 907) (by decide +kernel)⟩
def lw_privs_5 : List (MethodName × Nat) := [(⟨"PaidToGoAwayModel", "tryOn", "([II)V"⟩, 26), (⟨"PaidToGoAwayModel", "layBest", "(II)I"⟩, 26), (⟨"PaidToGoAwayModel", "silverBy", "(IIIII)I"⟩, 26), (⟨"PaidToGoAwayModel", "isSo", "(II)Z"⟩, 26), (⟨"PaidToGoAwayModel", "burntOf", "([I)I"⟩, 26), (⟨"PaidToGoAwayModel", "silverOf", "([I)I"⟩, 26)]
theorem lw_r5 : ∀ q ∈ lw_privs_5, lw_okq q := List.forall_mem_cons.mpr ⟨lw_p64, List.forall_mem_cons.mpr ⟨lw_p65, List.forall_mem_cons.mpr ⟨lw_p66, List.forall_mem_cons.mpr ⟨lw_p67, List.forall_mem_cons.mpr ⟨lw_p68, List.forall_mem_cons.mpr ⟨lw_p69, fun _ h => absurd h List.not_mem_nil⟩⟩⟩⟩⟩⟩
def lw_privs : List (MethodName × Nat) := lw_privs_1 ++ (lw_privs_2 ++ (lw_privs_3 ++ (lw_privs_4 ++ (lw_privs_5))))
def lw_tbl : List Cond := k2_sels lw_privs ++ tables_1
theorem lw_privs_ok : ∀ q ∈ lw_privs, lw_okq q := by
  show ∀ q ∈ lw_privs_1 ++ (lw_privs_2 ++ (lw_privs_3 ++ (lw_privs_4 ++ (lw_privs_5)))), lw_okq q
  exact List.forall_mem_append.mpr ⟨lw_r1, List.forall_mem_append.mpr ⟨lw_r2, List.forall_mem_append.mpr ⟨lw_r3, List.forall_mem_append.mpr ⟨lw_r4, lw_r5⟩⟩⟩⟩
end
section
def RX0 : String := "PaidToGoAway$Crew"
def TX0 : u_T := fun k => match k with
  | 0 => ("PaidToGoAway$Crew", "there", "Z", false)
  | 1 => ("PaidToGoAway$Crew", "gone", "Z", false)
  | 2 => ("PaidToGoAway$Crew", "men", "I", false)
  | 3 => ("PaidToGoAway$Crew", "hunger", "I", false)
  | 4 => ("PaidToGoAway$Crew", "spoils", "I", false)
  | _ => ("PaidToGoAway$Crew", "beliefs", "[I", true)
def tyX0 : Nat → FieldType := fun k => match k with
  | 0 => .boolean
  | 1 => .boolean
  | 2 => .int
  | 3 => .int
  | 4 => .int
  | _ => .array .int
abbrev wsX00 : List Cond := u_ws RX0 TX0 6
theorem nmX0 : ∀ a, a < 6 → ∀ b, b < 6 → a ≠ b → (TX0 a).2.1 ≠ (TX0 b).2.1 := by decide +kernel
theorem tyX0_ok : ∀ k, k < 6 → parseFieldDescriptor (TX0 k).2.2.1 = some (tyX0 k) := by decide +kernel
abbrev cX0_init : ByteArray := prog_2_method_1_code
def yX0_init : MethodName := ⟨RX0, "<init>", "()V"⟩
abbrev cX0_copy : ByteArray := prog_2_method_2_code
def yX0_copy : MethodName := ⟨RX0, "copy", "(LPaidToGoAway$Crew;)V"⟩
abbrev cX0_sails : ByteArray := prog_2_method_3_code
def yX0_sails : MethodName := ⟨RX0, "sails", "()Z"⟩
abbrev cX0_beliefOf : ByteArray := prog_2_method_4_code
def yX0_beliefOf : MethodName := ⟨RX0, "beliefOf", "(I)I"⟩
abbrev cX0_believe : ByteArray := prog_2_method_5_code
def yX0_believe : MethodName := ⟨RX0, "believe", "(II)V"⟩
abbrev cX0_wouldAsk : ByteArray := prog_2_method_6_code
def yX0_wouldAsk : MethodName := ⟨RX0, "wouldAsk", "(LPaidToGoAway$Town;I)I"⟩
abbrev cX0_takePay : ByteArray := prog_2_method_7_code
def yX0_takePay : MethodName := ⟨RX0, "takePay", "(LPaidToGoAway$Town;II)V"⟩
abbrev cX0_burn : ByteArray := prog_2_method_8_code
def yX0_burn : MethodName := ⟨RX0, "burn", "(LPaidToGoAway$Town;I)V"⟩
abbrev cX0_goHome : ByteArray := prog_2_method_9_code
def yX0_goHome : MethodName := ⟨RX0, "goHome", "()V"⟩
abbrev cX0_grow : ByteArray := prog_2_method_10_code
def yX0_grow : MethodName := ⟨RX0, "grow", "(I)V"⟩
abbrev cX0_fightLosing : ByteArray := prog_2_method_11_code
def yX0_fightLosing : MethodName := ⟨RX0, "fightLosing", "(I)V"⟩
def RX1 : String := "PaidToGoAway$Finds"
def TX1 : u_T := fun k => match k with
  | 0 => ("PaidToGoAway$Finds", "towns", "[I", true)
  | 1 => ("PaidToGoAway$Finds", "springs", "[I", true)
  | 2 => ("PaidToGoAway$Finds", "silvers", "[I", true)
  | _ => ("PaidToGoAway$Finds", "many", "I", false)
def tyX1 : Nat → FieldType := fun k => match k with
  | 0 => .array .int
  | 1 => .array .int
  | 2 => .array .int
  | _ => .int
abbrev wsX10 : List Cond := u_ws RX1 TX1 4
theorem nmX1 : ∀ a, a < 4 → ∀ b, b < 4 → a ≠ b → (TX1 a).2.1 ≠ (TX1 b).2.1 := by decide +kernel
theorem tyX1_ok : ∀ k, k < 4 → parseFieldDescriptor (TX1 k).2.2.1 = some (tyX1 k) := by decide +kernel
abbrev cX1_init : ByteArray := prog_3_method_1_code
def yX1_init : MethodName := ⟨RX1, "<init>", "()V"⟩
abbrev cX1_add : ByteArray := prog_3_method_2_code
def yX1_add : MethodName := ⟨RX1, "add", "(III)Z"⟩
abbrev cX1_lastSpring : ByteArray := prog_3_method_3_code
def yX1_lastSpring : MethodName := ⟨RX1, "lastSpring", "()I"⟩
abbrev cX1_agree : ByteArray := prog_3_method_4_code
def yX1_agree : MethodName := ⟨RX1, "agree", "(LPaidToGoAway$River;I)Z"⟩
def RX2 : String := "PaidToGoAway$Reader"
def TX2 : u_T := fun k => match k with
  | _ => ("PaidToGoAway$Reader", "numbers", "[I", true)
def tyX2 : Nat → FieldType := fun k => match k with
  | _ => .array .int
abbrev wsX20 : List Cond := u_ws RX2 TX2 1
theorem nmX2 : ∀ a, a < 1 → ∀ b, b < 1 → a ≠ b → (TX2 a).2.1 ≠ (TX2 b).2.1 := by decide +kernel
theorem tyX2_ok : ∀ k, k < 1 → parseFieldDescriptor (TX2 k).2.2.1 = some (tyX2 k) := by decide +kernel
abbrev cX2_init : ByteArray := prog_4_method_1_code
def yX2_init : MethodName := ⟨RX2, "<init>", "()V"⟩
abbrev cX2_read : ByteArray := prog_4_method_2_code
def yX2_read : MethodName := ⟨RX2, "read", "([CILPaidToGoAway$River;)I"⟩
abbrev cX2_itemEnd : ByteArray := prog_4_method_3_code
def yX2_itemEnd : MethodName := ⟨RX2, "itemEnd", "([CII)I"⟩
abbrev cX2_numbersBehind : ByteArray := prog_4_method_4_code
def yX2_numbersBehind : MethodName := ⟨RX2, "numbersBehind", "(C)I"⟩
abbrev cX2_figuresAt : ByteArray := prog_4_method_5_code
def yX2_figuresAt : MethodName := ⟨RX2, "figuresAt", "([CII)I"⟩
abbrev cX2_isFigure : ByteArray := prog_4_method_6_code
def yX2_isFigure : MethodName := ⟨RX2, "isFigure", "([CII)Z"⟩
abbrev cX2_numberAt : ByteArray := prog_4_method_7_code
def yX2_numberAt : MethodName := ⟨RX2, "numberAt", "([CIII)I"⟩
abbrev cX2_takes : ByteArray := prog_4_method_8_code
def yX2_takes : MethodName := ⟨RX2, "takes", "(CLPaidToGoAway$River;)Z"⟩
def RX3 : String := "PaidToGoAway$River"
def TX3 : u_T := fun k => match k with
  | 0 => ("PaidToGoAway$River", "towns", "[LPaidToGoAway$Town;", true)
  | 1 => ("PaidToGoAway$River", "crews", "[LPaidToGoAway$Crew;", true)
  | 2 => ("PaidToGoAway$River", "wallCost", "I", false)
  | _ => ("PaidToGoAway$River", "springsGone", "I", false)
def tyX3 : Nat → FieldType := fun k => match k with
  | 0 => .array (.object "PaidToGoAway$Town")
  | 1 => .array (.object "PaidToGoAway$Crew")
  | 2 => .int
  | _ => .int
abbrev wsX30 : List Cond := u_ws RX3 TX3 4
theorem nmX3 : ∀ a, a < 4 → ∀ b, b < 4 → a ≠ b → (TX3 a).2.1 ≠ (TX3 b).2.1 := by decide +kernel
theorem tyX3_ok : ∀ k, k < 4 → parseFieldDescriptor (TX3 k).2.2.1 = some (tyX3 k) := by decide +kernel
abbrev cX3_init : ByteArray := prog_5_method_1_code
def yX3_init : MethodName := ⟨RX3, "<init>", "()V"⟩
abbrev cX3_copy : ByteArray := prog_5_method_2_code
def yX3_copy : MethodName := ⟨RX3, "copy", "(LPaidToGoAway$River;)V"⟩
abbrev cX3_clear : ByteArray := prog_5_method_3_code
def yX3_clear : MethodName := ⟨RX3, "clear", "()V"⟩
abbrev cX3_townAt : ByteArray := prog_5_method_4_code
def yX3_townAt : MethodName := ⟨RX3, "townAt", "(I)LPaidToGoAway$Town;"⟩
abbrev cX3_crewAt : ByteArray := prog_5_method_5_code
def yX3_crewAt : MethodName := ⟨RX3, "crewAt", "(I)LPaidToGoAway$Crew;"⟩
abbrev cX3_standsAt : ByteArray := prog_5_method_6_code
def yX3_standsAt : MethodName := ⟨RX3, "standsAt", "(I)Z"⟩
abbrev cX3_settle : ByteArray := prog_5_method_7_code
def yX3_settle : MethodName := ⟨RX3, "settle", "(IIII)Z"⟩
abbrev cX3_man : ByteArray := prog_5_method_8_code
def yX3_man : MethodName := ⟨RX3, "man", "(II)Z"⟩
abbrev cX3_goWay : ByteArray := prog_5_method_9_code
def yX3_goWay : MethodName := ⟨RX3, "goWay", "(II)Z"⟩
abbrev cX3_costWalls : ByteArray := prog_5_method_10_code
def yX3_costWalls : MethodName := ⟨RX3, "costWalls", "(I)Z"⟩
abbrev cX3_leaveOnly : ByteArray := prog_5_method_11_code
def yX3_leaveOnly : MethodName := ⟨RX3, "leaveOnly", "(I)V"⟩
abbrev cX3_goBy : ByteArray := prog_5_method_12_code
def yX3_goBy : MethodName := ⟨RX3, "goBy", "(I)V"⟩
abbrev cX3_earnAndBuild : ByteArray := prog_5_method_13_code
def yX3_earnAndBuild : MethodName := ⟨RX3, "earnAndBuild", "()V"⟩
abbrev cX3_comeUp : ByteArray := prog_5_method_14_code
def yX3_comeUp : MethodName := ⟨RX3, "comeUp", "(LPaidToGoAway$Crew;)V"⟩
abbrev cX3_sendsHome : ByteArray := prog_5_method_15_code
def yX3_sendsHome : MethodName := ⟨RX3, "sendsHome", "(LPaidToGoAway$Town;ILPaidToGoAway$Crew;)Z"⟩
abbrev cX3_joinDrawn : ByteArray := prog_5_method_16_code
def yX3_joinDrawn : MethodName := ⟨RX3, "joinDrawn", "(II)V"⟩
abbrev cX3_firstBurntSince : ByteArray := prog_5_method_17_code
def yX3_firstBurntSince : MethodName := ⟨RX3, "firstBurntSince", "(LPaidToGoAway$River;)I"⟩
abbrev cX3_askedOfAll : ByteArray := prog_5_method_18_code
def yX3_askedOfAll : MethodName := ⟨RX3, "askedOfAll", "()I"⟩
abbrev cX3_silverOfAll : ByteArray := prog_5_method_19_code
def yX3_silverOfAll : MethodName := ⟨RX3, "silverOfAll", "()I"⟩
abbrev cX3_townsThere : ByteArray := prog_5_method_20_code
def yX3_townsThere : MethodName := ⟨RX3, "townsThere", "()I"⟩
abbrev cX3_townsBurnt : ByteArray := prog_5_method_21_code
def yX3_townsBurnt : MethodName := ⟨RX3, "townsBurnt", "()I"⟩
abbrev cX3_crewsThere : ByteArray := prog_5_method_22_code
def yX3_crewsThere : MethodName := ⟨RX3, "crewsThere", "()I"⟩
abbrev cX3_crewsGone : ByteArray := prog_5_method_23_code
def yX3_crewsGone : MethodName := ⟨RX3, "crewsGone", "()I"⟩
def RX4 : String := "PaidToGoAway$Shelf"
def TX4 : u_T := fun k => match k with
  | 0 => ("PaidToGoAway$Shelf", "rivers", "[LPaidToGoAway$River;", true)
  | _ => ("PaidToGoAway$Shelf", "many", "I", false)
def tyX4 : Nat → FieldType := fun k => match k with
  | 0 => .array (.object "PaidToGoAway$River")
  | _ => .int
abbrev wsX40 : List Cond := u_ws RX4 TX4 2
theorem nmX4 : ∀ a, a < 2 → ∀ b, b < 2 → a ≠ b → (TX4 a).2.1 ≠ (TX4 b).2.1 := by decide +kernel
theorem tyX4_ok : ∀ k, k < 2 → parseFieldDescriptor (TX4 k).2.2.1 = some (tyX4 k) := by decide +kernel
abbrev cX4_init : ByteArray := prog_6_method_1_code
def yX4_init : MethodName := ⟨RX4, "<init>", "(I)V"⟩
abbrev cX4_put : ByteArray := prog_6_method_2_code
def yX4_put : MethodName := ⟨RX4, "put", "(LPaidToGoAway$River;)V"⟩
abbrev cX4_dropOldest : ByteArray := prog_6_method_3_code
def yX4_dropOldest : MethodName := ⟨RX4, "dropOldest", "()V"⟩
abbrev cX4_takeInto : ByteArray := prog_6_method_4_code
def yX4_takeInto : MethodName := ⟨RX4, "takeInto", "(LPaidToGoAway$River;)V"⟩
def RX5 : String := "PaidToGoAway$Town"
def TX5 : u_T := fun k => match k with
  | 0 => ("PaidToGoAway$Town", "there", "Z", false)
  | 1 => ("PaidToGoAway$Town", "burnt", "Z", false)
  | 2 => ("PaidToGoAway$Town", "kind", "I", false)
  | 3 => ("PaidToGoAway$Town", "silver", "I", false)
  | 4 => ("PaidToGoAway$Town", "income", "I", false)
  | 5 => ("PaidToGoAway$Town", "walls", "I", false)
  | 6 => ("PaidToGoAway$Town", "way", "I", false)
  | _ => ("PaidToGoAway$Town", "paid", "I", false)
def tyX5 : Nat → FieldType := fun k => match k with
  | 0 => .boolean
  | 1 => .boolean
  | 2 => .int
  | 3 => .int
  | 4 => .int
  | 5 => .int
  | 6 => .int
  | _ => .int
abbrev wsX50 : List Cond := u_ws RX5 TX5 8
theorem nmX5 : ∀ a, a < 8 → ∀ b, b < 8 → a ≠ b → (TX5 a).2.1 ≠ (TX5 b).2.1 := by decide +kernel
theorem tyX5_ok : ∀ k, k < 8 → parseFieldDescriptor (TX5 k).2.2.1 = some (tyX5 k) := by decide +kernel
abbrev cX5_init : ByteArray := prog_7_method_1_code
def yX5_init : MethodName := ⟨RX5, "<init>", "()V"⟩
abbrev cX5_copy : ByteArray := prog_7_method_2_code
def yX5_copy : MethodName := ⟨RX5, "copy", "(LPaidToGoAway$Town;)V"⟩
abbrev cX5_stands : ByteArray := prog_7_method_3_code
def yX5_stands : MethodName := ⟨RX5, "stands", "()Z"⟩
abbrev cX5_earn : ByteArray := prog_7_method_4_code
def yX5_earn : MethodName := ⟨RX5, "earn", "()V"⟩
abbrev cX5_build : ByteArray := prog_7_method_5_code
def yX5_build : MethodName := ⟨RX5, "build", "(I)V"⟩
abbrev cX5_give : ByteArray := prog_7_method_6_code
def yX5_give : MethodName := ⟨RX5, "give", "(I)V"⟩
abbrev cX5_menHeldOff : ByteArray := prog_7_method_7_code
def yX5_menHeldOff : MethodName := ⟨RX5, "menHeldOff", "()I"⟩
def RX6 : String := "PaidToGoAway"
def TX6 : u_T := fun k => match k with
  | 0 => ("PaidToGoAway", "letters", "[C", true)
  | 1 => ("PaidToGoAway", "length", "I", false)
  | 2 => ("PaidToGoAway", "reader", "LPaidToGoAway$Reader;", true)
  | 3 => ("PaidToGoAway", "laid", "LPaidToGoAway$River;", true)
  | 4 => ("PaidToGoAway", "now", "LPaidToGoAway$River;", true)
  | 5 => ("PaidToGoAway", "trial", "LPaidToGoAway$River;", true)
  | 6 => ("PaidToGoAway", "past", "LPaidToGoAway$Shelf;", true)
  | 7 => ("PaidToGoAway", "kept", "LPaidToGoAway$Shelf;", true)
  | 8 => ("PaidToGoAway", "finds", "LPaidToGoAway$Finds;", true)
  | 9 => ("PaidToGoAway", "oneHas", "[I", true)
  | _ => ("PaidToGoAway", "otherHas", "[I", true)
def tyX6 : Nat → FieldType := fun k => match k with
  | 0 => .array .char
  | 1 => .int
  | 2 => .object "PaidToGoAway$Reader"
  | 3 => .object "PaidToGoAway$River"
  | 4 => .object "PaidToGoAway$River"
  | 5 => .object "PaidToGoAway$River"
  | 6 => .object "PaidToGoAway$Shelf"
  | 7 => .object "PaidToGoAway$Shelf"
  | 8 => .object "PaidToGoAway$Finds"
  | 9 => .array .int
  | _ => .array .int
abbrev wsX60 : List Cond := u_ws RX6 TX6 11
theorem nmX6 : ∀ a, a < 11 → ∀ b, b < 11 → a ≠ b → (TX6 a).2.1 ≠ (TX6 b).2.1 := by decide +kernel
theorem tyX6_ok : ∀ k, k < 11 → parseFieldDescriptor (TX6 k).2.2.1 = some (tyX6 k) := by decide +kernel
abbrev cX6_init : ByteArray := prog_1_method_1_code
def yX6_init : MethodName := ⟨RX6, "<init>", "()V"⟩
abbrev cX6_firstRiver : ByteArray := prog_1_method_2_code
def yX6_firstRiver : MethodName := ⟨RX6, "firstRiver", "()LPaidToGoAway$River;"⟩
abbrev cX6_write : ByteArray := prog_1_method_3_code
def yX6_write : MethodName := ⟨RX6, "write", "(I)I"⟩
abbrev cX6_wipe : ByteArray := prog_1_method_4_code
def yX6_wipe : MethodName := ⟨RX6, "wipe", "()I"⟩
abbrev cX6_fault : ByteArray := prog_1_method_5_code
def yX6_fault : MethodName := ⟨RX6, "fault", "()I"⟩
abbrev cX6_lay : ByteArray := prog_1_method_6_code
def yX6_lay : MethodName := ⟨RX6, "lay", "()I"⟩
abbrev cX6_town : ByteArray := prog_1_method_7_code
def yX6_town : MethodName := ⟨RX6, "town", "(II)I"⟩
abbrev cX6_crew : ByteArray := prog_1_method_8_code
def yX6_crew : MethodName := ⟨RX6, "crew", "(II)I"⟩
abbrev cX6_believes : ByteArray := prog_1_method_9_code
def yX6_believes : MethodName := ⟨RX6, "believes", "(II)I"⟩
abbrev cX6_asks : ByteArray := prog_1_method_10_code
def yX6_asks : MethodName := ⟨RX6, "asks", "(II)I"⟩
abbrev cX6_pass : ByteArray := prog_1_method_11_code
def yX6_pass : MethodName := ⟨RX6, "pass", "(I)I"⟩
abbrev cX6_way : ByteArray := prog_1_method_12_code
def yX6_way : MethodName := ⟨RX6, "way", "(II)I"⟩
abbrev cX6_hire : ByteArray := prog_1_method_13_code
def yX6_hire : MethodName := ⟨RX6, "hire", "(III)I"⟩
abbrev cX6_land : ByteArray := prog_1_method_14_code
def yX6_land : MethodName := ⟨RX6, "land", "(II)I"⟩
abbrev cX6_raise : ByteArray := prog_1_method_15_code
def yX6_raise : MethodName := ⟨RX6, "raise", "(II)I"⟩
abbrev cX6_undo : ByteArray := prog_1_method_16_code
def yX6_undo : MethodName := ⟨RX6, "undo", "()I"⟩
abbrev cX6_behind : ByteArray := prog_1_method_17_code
def yX6_behind : MethodName := ⟨RX6, "behind", "(III)I"⟩
abbrev cX6_fire : ByteArray := prog_1_method_18_code
def yX6_fire : MethodName := ⟨RX6, "fire", "(I)I"⟩
abbrev cX6_best : ByteArray := prog_1_method_19_code
def yX6_best : MethodName := ⟨RX6, "best", "(III)I"⟩
abbrev cX6_rests : ByteArray := prog_1_method_20_code
def yX6_rests : MethodName := ⟨RX6, "rests", "(III)I"⟩
abbrev cX6_walled : ByteArray := prog_1_method_21_code
def yX6_walled : MethodName := ⟨RX6, "walled", "(II)I"⟩
abbrev cX6_together : ByteArray := prog_1_method_22_code
def yX6_together : MethodName := ⟨RX6, "together", "(II)I"⟩
abbrev cX6_found : ByteArray := prog_1_method_23_code
def yX6_found : MethodName := ⟨RX6, "found", "(III)I"⟩
abbrev cX6_forget : ByteArray := prog_1_method_24_code
def yX6_forget : MethodName := ⟨RX6, "forget", "()I"⟩
abbrev cX6_hoard : ByteArray := prog_1_method_25_code
def yX6_hoard : MethodName := ⟨RX6, "hoard", "(II)I"⟩
abbrev cX6_whose : ByteArray := prog_1_method_26_code
def yX6_whose : MethodName := ⟨RX6, "whose", "(III)I"⟩
abbrev cX6_springs : ByteArray := prog_1_method_27_code
def yX6_springs : MethodName := ⟨RX6, "springs", "(III)I"⟩
abbrev cX6_keep : ByteArray := prog_1_method_28_code
def yX6_keep : MethodName := ⟨RX6, "keep", "()I"⟩
abbrev cX6_back : ByteArray := prog_1_method_29_code
def yX6_back : MethodName := ⟨RX6, "back", "()I"⟩
abbrev cX6_count : ByteArray := prog_1_method_30_code
def yX6_count : MethodName := ⟨RX6, "count", "(I)I"⟩
abbrev cX6_silverByRow : ByteArray := prog_1_method_31_code
def yX6_silverByRow : MethodName := ⟨RX6, "silverByRow", "(III)I"⟩
abbrev cX6_wayInRow : ByteArray := prog_1_method_32_code
def yX6_wayInRow : MethodName := ⟨RX6, "wayInRow", "(III)I"⟩
abbrev cX6_trySpringOf : ByteArray := prog_1_method_33_code
def yX6_trySpringOf : MethodName := ⟨RX6, "trySpringOf", "(III)V"⟩
abbrev cX6_isRest : ByteArray := prog_1_method_34_code
def yX6_isRest : MethodName := ⟨RX6, "isRest", "(I)Z"⟩
abbrev cX6_hasMore : ByteArray := prog_1_method_35_code
def yX6_hasMore : MethodName := ⟨RX6, "hasMore", "([III)Z"⟩
abbrev cX6_standsWith : ByteArray := prog_1_method_36_code
def yX6_standsWith : MethodName := ⟨RX6, "standsWith", "(III)Z"⟩
abbrev cX6_wouldBeFound : ByteArray := prog_1_method_37_code
def yX6_wouldBeFound : MethodName := ⟨RX6, "wouldBeFound", "(II)Z"⟩
abbrev cX6_paidToOnly : ByteArray := prog_1_method_38_code
def yX6_paidToOnly : MethodName := ⟨RX6, "paidToOnly", "(III)I"⟩
abbrev cX6_commonDivisor : ByteArray := prog_1_method_39_code
def yX6_commonDivisor : MethodName := ⟨RX6, "commonDivisor", "(II)I"⟩
def RX7 : String := "PaidToGoAwayModel"
def TX7 : u_T := fun k => match k with
  | 0 => ("PaidToGoAwayModel", "letters", "I", false)
  | 1 => ("PaidToGoAwayModel", "text", "[I", true)
  | 2 => ("PaidToGoAwayModel", "position", "I", false)
  | 3 => ("PaidToGoAwayModel", "numbers", "[I", true)
  | 4 => ("PaidToGoAwayModel", "faultAt", "I", false)
  | 5 => ("PaidToGoAwayModel", "readTowns", "I", false)
  | 6 => ("PaidToGoAwayModel", "readCrews", "I", false)
  | 7 => ("PaidToGoAwayModel", "readCost", "I", false)
  | 8 => ("PaidToGoAwayModel", "kindRead", "[I", true)
  | 9 => ("PaidToGoAwayModel", "read", "[I", true)
  | 10 => ("PaidToGoAwayModel", "towns", "I", false)
  | 11 => ("PaidToGoAwayModel", "crews", "I", false)
  | 12 => ("PaidToGoAwayModel", "cost", "I", false)
  | 13 => ("PaidToGoAwayModel", "kind", "[I", true)
  | 14 => ("PaidToGoAwayModel", "now", "[I", true)
  | 15 => ("PaidToGoAwayModel", "laid", "[I", true)
  | 16 => ("PaidToGoAwayModel", "tried", "[I", true)
  | 17 => ("PaidToGoAwayModel", "backOf", "[I", true)
  | 18 => ("PaidToGoAwayModel", "backs", "I", false)
  | 19 => ("PaidToGoAwayModel", "image", "[I", true)
  | 20 => ("PaidToGoAwayModel", "keptMany", "I", false)
  | 21 => ("PaidToGoAwayModel", "finds", "I", false)
  | 22 => ("PaidToGoAwayModel", "find", "[I", true)
  | 23 => ("PaidToGoAwayModel", "row", "[I", true)
  | 24 => ("PaidToGoAwayModel", "bestRow", "[I", true)
  | _ => ("PaidToGoAwayModel", "safe", "I", false)
def tyX7 : Nat → FieldType := fun k => match k with
  | 0 => .int
  | 1 => .array .int
  | 2 => .int
  | 3 => .array .int
  | 4 => .int
  | 5 => .int
  | 6 => .int
  | 7 => .int
  | 8 => .array .int
  | 9 => .array .int
  | 10 => .int
  | 11 => .int
  | 12 => .int
  | 13 => .array .int
  | 14 => .array .int
  | 15 => .array .int
  | 16 => .array .int
  | 17 => .array .int
  | 18 => .int
  | 19 => .array .int
  | 20 => .int
  | 21 => .int
  | 22 => .array .int
  | 23 => .array .int
  | 24 => .array .int
  | _ => .int
abbrev wsX70 : List Cond := u_ws RX7 TX7 26
theorem nmX7 : ∀ a, a < 26 → ∀ b, b < 26 → a ≠ b → (TX7 a).2.1 ≠ (TX7 b).2.1 := by decide +kernel
theorem tyX7_ok : ∀ k, k < 26 → parseFieldDescriptor (TX7 k).2.2.1 = some (tyX7 k) := by decide +kernel
abbrev cX7_init : ByteArray := prog_9_method_1_code
def yX7_init : MethodName := ⟨RX7, "<init>", "()V"⟩
abbrev cX7_layTown : ByteArray := prog_9_method_2_code
def yX7_layTown : MethodName := ⟨RX7, "layTown", "(IIIIII)V"⟩
abbrev cX7_in : ByteArray := prog_9_method_3_code
def yX7_in : MethodName := ⟨RX7, "in", "(III)Z"⟩
abbrev cX7_copy : ByteArray := prog_9_method_4_code
def yX7_copy : MethodName := ⟨RX7, "copy", "([II[II)V"⟩
abbrev cX7_isTown : ByteArray := prog_9_method_5_code
def yX7_isTown : MethodName := ⟨RX7, "isTown", "(I)Z"⟩
abbrev cX7_isCrew : ByteArray := prog_9_method_6_code
def yX7_isCrew : MethodName := ⟨RX7, "isCrew", "(I)Z"⟩
abbrev cX7_write : ByteArray := prog_9_method_7_code
def yX7_write : MethodName := ⟨RX7, "write", "(I)I"⟩
abbrev cX7_wipe : ByteArray := prog_9_method_8_code
def yX7_wipe : MethodName := ⟨RX7, "wipe", "()I"⟩
abbrev cX7_letterAt : ByteArray := prog_9_method_9_code
def yX7_letterAt : MethodName := ⟨RX7, "letterAt", "(I)I"⟩
abbrev cX7_isRow : ByteArray := prog_9_method_10_code
def yX7_isRow : MethodName := ⟨RX7, "isRow", "(I)Z"⟩
abbrev cX7_isItem : ByteArray := prog_9_method_11_code
def yX7_isItem : MethodName := ⟨RX7, "isItem", "()Z"⟩
abbrev cX7_isRead : ByteArray := prog_9_method_12_code
def yX7_isRead : MethodName := ⟨RX7, "isRead", "()Z"⟩
abbrev cX7_fault : ByteArray := prog_9_method_13_code
def yX7_fault : MethodName := ⟨RX7, "fault", "()I"⟩
abbrev cX7_lay : ByteArray := prog_9_method_14_code
def yX7_lay : MethodName := ⟨RX7, "lay", "()I"⟩
abbrev cX7_town : ByteArray := prog_9_method_15_code
def yX7_town : MethodName := ⟨RX7, "town", "(II)I"⟩
abbrev cX7_crew : ByteArray := prog_9_method_16_code
def yX7_crew : MethodName := ⟨RX7, "crew", "(II)I"⟩
abbrev cX7_believes : ByteArray := prog_9_method_17_code
def yX7_believes : MethodName := ⟨RX7, "believes", "(II)I"⟩
abbrev cX7_askOf : ByteArray := prog_9_method_18_code
def yX7_askOf : MethodName := ⟨RX7, "askOf", "([III)I"⟩
abbrev cX7_asks : ByteArray := prog_9_method_19_code
def yX7_asks : MethodName := ⟨RX7, "asks", "(II)I"⟩
abbrev cX7_pays : ByteArray := prog_9_method_20_code
def yX7_pays : MethodName := ⟨RX7, "pays", "([IIII)I"⟩
abbrev cX7_comeUp : ByteArray := prog_9_method_21_code
def yX7_comeUp : MethodName := ⟨RX7, "comeUp", "([II)V"⟩
abbrev cX7_spring : ByteArray := prog_9_method_22_code
def yX7_spring : MethodName := ⟨RX7, "spring", "([I)V"⟩
abbrev cX7_note : ByteArray := prog_9_method_23_code
def yX7_note : MethodName := ⟨RX7, "note", "()V"⟩
abbrev cX7_pass : ByteArray := prog_9_method_24_code
def yX7_pass : MethodName := ⟨RX7, "pass", "(I)I"⟩
abbrev cX7_way : ByteArray := prog_9_method_25_code
def yX7_way : MethodName := ⟨RX7, "way", "(II)I"⟩
abbrev cX7_hire : ByteArray := prog_9_method_26_code
def yX7_hire : MethodName := ⟨RX7, "hire", "(III)I"⟩
abbrev cX7_land : ByteArray := prog_9_method_27_code
def yX7_land : MethodName := ⟨RX7, "land", "(II)I"⟩
abbrev cX7_raise : ByteArray := prog_9_method_28_code
def yX7_raise : MethodName := ⟨RX7, "raise", "(II)I"⟩
abbrev cX7_undo : ByteArray := prog_9_method_29_code
def yX7_undo : MethodName := ⟨RX7, "undo", "()I"⟩
abbrev cX7_tryOn : ByteArray := prog_9_method_30_code
def yX7_tryOn : MethodName := ⟨RX7, "tryOn", "([II)V"⟩
abbrev cX7_behind : ByteArray := prog_9_method_31_code
def yX7_behind : MethodName := ⟨RX7, "behind", "(III)I"⟩
abbrev cX7_fire : ByteArray := prog_9_method_32_code
def yX7_fire : MethodName := ⟨RX7, "fire", "(I)I"⟩
abbrev cX7_layBest : ByteArray := prog_9_method_33_code
def yX7_layBest : MethodName := ⟨RX7, "layBest", "(II)I"⟩
abbrev cX7_best : ByteArray := prog_9_method_34_code
def yX7_best : MethodName := ⟨RX7, "best", "(III)I"⟩
abbrev cX7_silverBy : ByteArray := prog_9_method_35_code
def yX7_silverBy : MethodName := ⟨RX7, "silverBy", "(IIIII)I"⟩
abbrev cX7_rests : ByteArray := prog_9_method_36_code
def yX7_rests : MethodName := ⟨RX7, "rests", "(III)I"⟩
abbrev cX7_walled : ByteArray := prog_9_method_37_code
def yX7_walled : MethodName := ⟨RX7, "walled", "(II)I"⟩
abbrev cX7_together : ByteArray := prog_9_method_38_code
def yX7_together : MethodName := ⟨RX7, "together", "(II)I"⟩
abbrev cX7_found : ByteArray := prog_9_method_39_code
def yX7_found : MethodName := ⟨RX7, "found", "(III)I"⟩
abbrev cX7_forget : ByteArray := prog_9_method_40_code
def yX7_forget : MethodName := ⟨RX7, "forget", "()I"⟩
abbrev cX7_isSo : ByteArray := prog_9_method_41_code
def yX7_isSo : MethodName := ⟨RX7, "isSo", "(II)Z"⟩
abbrev cX7_hoard : ByteArray := prog_9_method_42_code
def yX7_hoard : MethodName := ⟨RX7, "hoard", "(II)I"⟩
abbrev cX7_whose : ByteArray := prog_9_method_43_code
def yX7_whose : MethodName := ⟨RX7, "whose", "(III)I"⟩
abbrev cX7_burntOf : ByteArray := prog_9_method_44_code
def yX7_burntOf : MethodName := ⟨RX7, "burntOf", "([I)I"⟩
abbrev cX7_silverOf : ByteArray := prog_9_method_45_code
def yX7_silverOf : MethodName := ⟨RX7, "silverOf", "([I)I"⟩
abbrev cX7_springs : ByteArray := prog_9_method_46_code
def yX7_springs : MethodName := ⟨RX7, "springs", "(III)I"⟩
abbrev cX7_keep : ByteArray := prog_9_method_47_code
def yX7_keep : MethodName := ⟨RX7, "keep", "()I"⟩
abbrev cX7_back : ByteArray := prog_9_method_48_code
def yX7_back : MethodName := ⟨RX7, "back", "()I"⟩
abbrev cX7_count : ByteArray := prog_9_method_49_code
def yX7_count : MethodName := ⟨RX7, "count", "(I)I"⟩
def RJ9 : String := "java/lang/Math"
def TJ9 : u_T := fun k => match k with
  | _ => ("", "", "", false)
def tyJ9 : Nat → FieldType := fun k => match k with
  | _ => .int
abbrev wsJ90 : List Cond := u_ws RJ9 TJ9 0
theorem nmJ9 : ∀ a, a < 0 → ∀ b, b < 0 → a ≠ b → (TJ9 a).2.1 ≠ (TJ9 b).2.1 := by decide +kernel
theorem tyJ9_ok : ∀ k, k < 0 → parseFieldDescriptor (TJ9 k).2.2.1 = some (tyJ9 k) := by decide +kernel
abbrev cJ9_max_7cf53 : ByteArray := prog_10_method_65_code
def yJ9_max_7cf53 : MethodName := ⟨RJ9, "max", "(II)I"⟩
abbrev cJ9_min_7cf53 : ByteArray := prog_10_method_69_code
def yJ9_min_7cf53 : MethodName := ⟨RJ9, "min", "(II)I"⟩
def RJ0 : String := "java/lang/String"
def TJ0 : u_T := fun k => match k with
  | _ => ("", "", "", false)
def tyJ0 : Nat → FieldType := fun k => match k with
  | _ => .int
abbrev wsJ00 : List Cond := u_ws RJ0 TJ0 0
theorem nmJ0 : ∀ a, a < 0 → ∀ b, b < 0 → a ≠ b → (TJ0 a).2.1 ≠ (TJ0 b).2.1 := by decide +kernel
theorem tyJ0_ok : ∀ k, k < 0 → parseFieldDescriptor (TJ0 k).2.2.1 = some (tyJ0 k) := by decide +kernel
abbrev cJ0_length_8abf5 : ByteArray := prog_11_method_54_code
def yJ0_length_8abf5 : MethodName := ⟨RJ0, "length", "()I"⟩
abbrev cJ0_toCharArray_70df3 : ByteArray := prog_11_method_129_code
def yJ0_toCharArray_70df3 : MethodName := ⟨RJ0, "toCharArray", "()[C"⟩
abbrev cJ0_coder_7d493 : ByteArray := prog_11_method_152_code
def yJ0_coder_7d493 : MethodName := ⟨RJ0, "coder", "()B"⟩
abbrev cJ0_isLatin1_aae02 : ByteArray := prog_11_method_154_code
def yJ0_isLatin1_aae02 : MethodName := ⟨RJ0, "isLatin1", "()Z"⟩
abbrev cJ0_checkBoundsOffCount_cabcc : ByteArray := prog_11_method_157_code
def yJ0_checkBoundsOffCount_cabcc : MethodName := ⟨RJ0, "checkBoundsOffCount", "(III)I"⟩
def RJ1 : String := "java/lang/StringLatin1"
def TJ1 : u_T := fun k => match k with
  | _ => ("", "", "", false)
def tyJ1 : Nat → FieldType := fun k => match k with
  | _ => .int
abbrev wsJ10 : List Cond := u_ws RJ1 TJ1 0
theorem nmJ1 : ∀ a, a < 0 → ∀ b, b < 0 → a ≠ b → (TJ1 a).2.1 ≠ (TJ1 b).2.1 := by decide +kernel
theorem tyJ1_ok : ∀ k, k < 0 → parseFieldDescriptor (TJ1 k).2.2.1 = some (tyJ1 k) := by decide +kernel
abbrev cJ1_toChars_9d188 : ByteArray := prog_12_method_9_code
def yJ1_toChars_9d188 : MethodName := ⟨RJ1, "toChars", "([B)[C"⟩
abbrev cJ1_inflate_03870 : ByteArray := prog_12_method_49_code
def yJ1_inflate_03870 : MethodName := ⟨RJ1, "inflate", "([BI[CII)V"⟩
def RJ2 : String := "java/lang/StringUTF16"
def TJ2 : u_T := fun k => match k with
  | _ => ("", "", "", false)
def tyJ2 : Nat → FieldType := fun k => match k with
  | _ => .int
abbrev wsJ20 : List Cond := u_ws RJ2 TJ2 0
theorem nmJ2 : ∀ a, a < 0 → ∀ b, b < 0 → a ≠ b → (TJ2 a).2.1 ≠ (TJ2 b).2.1 := by decide +kernel
theorem tyJ2_ok : ∀ k, k < 0 → parseFieldDescriptor (TJ2 k).2.2.1 = some (tyJ2 k) := by decide +kernel
abbrev cJ2_getChar_3b067 : ByteArray := prog_13_method_5_code
def yJ2_getChar_3b067 : MethodName := ⟨RJ2, "getChar", "([BI)C"⟩
abbrev cJ2_length_9d52b : ByteArray := prog_13_method_6_code
def yJ2_length_9d52b : MethodName := ⟨RJ2, "length", "([B)I"⟩
abbrev cJ2_toChars_9d188 : ByteArray := prog_13_method_13_code
def yJ2_toChars_9d188 : MethodName := ⟨RJ2, "toChars", "([B)[C"⟩
abbrev cJ2_getChars_a1a8b : ByteArray := prog_13_method_26_code
def yJ2_getChars_a1a8b : MethodName := ⟨RJ2, "getChars", "([BII[CI)V"⟩
abbrev cJ2_checkBoundsOffCount_d044e : ByteArray := prog_13_method_94_code
def yJ2_checkBoundsOffCount_d044e : MethodName := ⟨RJ2, "checkBoundsOffCount", "(II[B)V"⟩
def RJ3 : String := "jdk/internal/util/Preconditions"
def TJ3 : u_T := fun k => match k with
  | _ => ("", "", "", false)
def tyJ3 : Nat → FieldType := fun k => match k with
  | _ => .int
abbrev wsJ30 : List Cond := u_ws RJ3 TJ3 0
theorem nmJ3 : ∀ a, a < 0 → ∀ b, b < 0 → a ≠ b → (TJ3 a).2.1 ≠ (TJ3 b).2.1 := by decide +kernel
theorem tyJ3_ok : ∀ k, k < 0 → parseFieldDescriptor (TJ3 k).2.2.1 = some (tyJ3 k) := by decide +kernel
abbrev cJ3_checkFromIndexSize_8c36e : ByteArray := prog_14_method_13_code
def yJ3_checkFromIndexSize_8c36e : MethodName := ⟨RJ3, "checkFromIndexSize", "(IIILjava/util/function/BiFunction;)I"⟩
def RL : String := "PaidToGoAwayLaw"
abbrev cL_law : ByteArray := code
def yL_law : MethodName := ⟨RL, "law", "([I)Z"⟩
abbrev vwCl : List vw_C := [(RX0, TX0, 6), (RX1, TX1, 4), (RX2, TX2, 1), (RX3, TX3, 4), (RX4, TX4, 2), (RX5, TX5, 8), (RX6, TX6, 11), (RX7, TX7, 26)]
end
section
/-! the walk's own judgement: W with its frame and its sizes inside; locals as a list; a decode row that names the next place -/
abbrev CX : Type := Program × Launch × Env × Room × State × MethodId × Array Value × List Frame × Method × Code
def WG (x : CX) (A : Nat → Prop) (Q : State → Prop) (H : Heap) (cells slots : Nat) (pc : Nat) (ls : List Slot) (st : List Value) : Prop :=
  match x with
  | (p, l, e, R, s, m, args, below, meth, c) => ∀ locs : List Loc, va_S A s.heap H locs → H.size = s.heap.size + cells → W p l e R s m args below meth c H locs cells slots Q (F0 m pc ls.toArray st)
/-- class numbers: of the classes, of the arrays' classes -/
abbrev DD : Type := va_G × (Nat → ClassId)
def tysOf (D : DD) : List (ClassId × FieldType) := [(D.2 0, .char), (D.2 1, .int), (D.2 2, .object RX5), (D.2 3, .object RX0), (D.2 4, .object RX3)]
def isNest : Cond → Bool
  | .fieldLinkNest _ _ _ _ _ _ => true
  | .methodLinkNest _ _ _ _ => true
  | _ => false
/-- the tables' words that a warmed state keeps -/
def lwt : List Cond := lw_tbl.filter (fun w => goodWord w || isNest w)
theorem wd_of {w : Cond} (i : Nat) (h : lw_tbl[i]? = some w) (h2 : (goodWord w || isNest w) = true) : w ∈ lwt := List.mem_filter.mpr ⟨List.mem_of_getElem? h, h2⟩
def KK (D : DD) (U : State) : Prop := va_K D.1 vwCl (tysOf D) U ∧ (∀ w ∈ lwt, w.before #[] U = true) ∧ va_AO RX5 U ∧ va_AO RX0 U ∧ va_AO RX3 U
theorem tbl_good {w : Cond} (h : w ∈ lwt) : (goodWord w || isNest w) = true := (List.mem_filter.mp h).2
theorem kk_warm {D : DD} {s U : State} (hW : s.WarmedH U.vm) (h : KK D s) : KK D U := by
  refine ⟨va_K.moved hW.alike h.1, fun w hw => ?_, va_AO.moved hW.alike h.2.2.1, va_AO.moved hW.alike h.2.2.2.1, va_AO.moved hW.alike h.2.2.2.2⟩
  have h1 := tbl_good hw
  rcases Bool.or_eq_true _ _ ▸ h1 with h2 | h2
  · exact word_at hW (good_of_word h2) (h.2.1 w hw)
  · cases w <;> first | exact va_Nw.warmF hW (h.2.1 _ hw) | exact va_Nw.warmM hW (h.2.1 _ hw) | cases h2
theorem kk_args {D : DD} {s : State} (h : KK D s) (args : Array Value) : ∀ w ∈ lwt, w.before args s = true := by
  intro w hw
  have h1 := tbl_good hw
  rcases Bool.or_eq_true _ _ ▸ h1 with h2 | h2
  · exact word_at (State.WarmedH.refl s) (good_of_word h2) (h.2.1 w hw)
  · cases w <;> first | exact va_Nw.use rfl (h.2.1 _ hw) | cases h2
def Cx (x : CX) (own : String) (cc : ByteArray) (nL : Nat) (D : DD) (ret : Option FieldType) (rm : Room) : Prop :=
  match x with
  | (p, _, _, R, s, m, _, _, meth, c) => p.tables.exec = Jvm.exec ∧ c.code = cc ∧ c.maxLocals = nL ∧ s.vm.findClass own = some m.cls ∧ KK D s ∧ meth.sig.returnType = ret ∧ meth.locks = false ∧ R = rm
def dec (cc : ByteArray) (pc : Nat) (i : Instr) (k n : Nat) : Prop := decode cc pc = .ok (i, k) ∧ pc + k = n
def decJ (cc : ByteArray) (pc : Nat) (i : Int → Instr) (k n tgt : Nat) : Prop := ∃ off : Int, decode cc pc = .ok (i off, k) ∧ pc + k = n ∧ (pc : Int) + off = (tgt : Int)
section RW
variable {x : CX} {own : String} {cc : ByteArray} {nL : Nat} {D : DD} {ret : Option FieldType} {rm : Room} {A : Nat → Prop} {Q : State → Prop} {H : Heap} {cs sl pc n tgt : Nat} {ls : List Slot} {rest : List Value}
theorem r_iconst (C : Cx x own cc nL D ret rm) {k : Int} (d : dec cc pc (.iconst k) 1 n) (v : Int32) (hv : Int32.ofInt k = v) (kk : WG x A Q H cs sl n ls (.int v :: rest)) : WG x A Q H cs sl pc ls rest := by
  obtain ⟨p, l, e, R, s, m, args, below, meth, c⟩ := x
  obtain ⟨d, rfl⟩ := d
  intro locs hS hz
  exact lv_iconst C.1 C.2.1 d hv (kk locs hS hz)
theorem r_bipush (C : Cx x own cc nL D ret rm) {k : Int} (d : dec cc pc (.bipush k) 2 n) (v : Int32) (hv : (Int8.ofInt k).toInt32 = v) (kk : WG x A Q H cs sl n ls (.int v :: rest)) : WG x A Q H cs sl pc ls rest := by
  obtain ⟨p, l, e, R, s, m, args, below, meth, c⟩ := x
  obtain ⟨d, rfl⟩ := d
  intro locs hS hz
  exact lv_bipush C.1 C.2.1 d hv (kk locs hS hz)
theorem r_sipush (C : Cx x own cc nL D ret rm) {k : Int} (d : dec cc pc (.sipush k) 3 n) (v : Int32) (hv : (Int16.ofInt k).toInt32 = v) (kk : WG x A Q H cs sl n ls (.int v :: rest)) : WG x A Q H cs sl pc ls rest := by
  obtain ⟨p, l, e, R, s, m, args, below, meth, c⟩ := x
  obtain ⟨d, rfl⟩ := d
  intro locs hS hz
  exact lv_sipush C.1 C.2.1 d hv (kk locs hS hz)
theorem r_iload_n (C : Cx x own cc nL D ret rm) {k : Fin 4} (d : dec cc pc (.iload_n k) 1 n) {v : Int32} (hl : ls[(k : Nat)]? = some (.val (.int v))) (kk : WG x A Q H cs sl n ls (.int v :: rest)) : WG x A Q H cs sl pc ls rest := by
  obtain ⟨p, l, e, R, s, m, args, below, meth, c⟩ := x
  obtain ⟨d, rfl⟩ := d
  intro locs hS hz
  exact lv_iload_n C.1 C.2.1 d rfl (by rw [List.getElem?_toArray]; exact hl) (kk locs hS hz)
theorem r_iload (C : Cx x own cc nL D ret rm) {k : Nat} (d : dec cc pc (.iload k) 2 n) {v : Int32} (hl : ls[k]? = some (.val (.int v))) (kk : WG x A Q H cs sl n ls (.int v :: rest)) : WG x A Q H cs sl pc ls rest := by
  obtain ⟨p, l, e, R, s, m, args, below, meth, c⟩ := x
  obtain ⟨d, rfl⟩ := d
  intro locs hS hz
  exact lv_iload C.1 C.2.1 d (by rw [List.getElem?_toArray]; exact hl) (kk locs hS hz)
theorem r_lload (C : Cx x own cc nL D ret rm) {k : Nat} (d : dec cc pc (.lload k) 2 n) {v : Int64} (hl : ls[k]? = some (.val (.long v))) (kk : WG x A Q H cs sl n ls (.long v :: rest)) : WG x A Q H cs sl pc ls rest := by
  obtain ⟨p, l, e, R, s, m, args, below, meth, c⟩ := x
  obtain ⟨d, rfl⟩ := d
  intro locs hS hz
  exact lv_lload C.1 C.2.1 d (by rw [List.getElem?_toArray]; exact hl) (kk locs hS hz)
theorem r_aload_n (C : Cx x own cc nL D ret rm) {k : Fin 4} (d : dec cc pc (.aload_n k) 1 n) {v : Nat} (hl : ls[(k : Nat)]? = some (.val (.ref v))) (kk : WG x A Q H cs sl n ls (.ref v :: rest)) : WG x A Q H cs sl pc ls rest := by
  obtain ⟨p, l, e, R, s, m, args, below, meth, c⟩ := x
  obtain ⟨d, rfl⟩ := d
  intro locs hS hz
  exact lv_aload_n C.1 C.2.1 d rfl (by rw [List.getElem?_toArray]; exact hl) (kk locs hS hz)
theorem r_aload (C : Cx x own cc nL D ret rm) {k : Nat} (d : dec cc pc (.aload k) 2 n) {v : Nat} (hl : ls[k]? = some (.val (.ref v))) (kk : WG x A Q H cs sl n ls (.ref v :: rest)) : WG x A Q H cs sl pc ls rest := by
  obtain ⟨p, l, e, R, s, m, args, below, meth, c⟩ := x
  obtain ⟨d, rfl⟩ := d
  intro locs hS hz
  exact lv_aload C.1 C.2.1 d (by rw [List.getElem?_toArray]; exact hl) (kk locs hS hz)
theorem r_aload_nN (C : Cx x own cc nL D ret rm) {k : Fin 4} (d : dec cc pc (.aload_n k) 1 n) (hl : ls[(k : Nat)]? = some (.val .null)) (kk : WG x A Q H cs sl n ls (.null :: rest)) : WG x A Q H cs sl pc ls rest := by
  obtain ⟨p, l, e, R, s, m, args, below, meth, c⟩ := x
  obtain ⟨d, rfl⟩ := d
  have hl' : ls.toArray[(k : Nat)]? = some (.val .null) := by rw [List.getElem?_toArray]; exact hl
  intro locs hS hz T hT X
  obtain ⟨t, a, b⟩ := kk locs hS hz T hT X
  refine ⟨t, ?_, b⟩
  jvm_step X.here [X.here.top, C.1, C.2.1, d, hl']
  exact ⟨rfl, a⟩
theorem r_aloadN (C : Cx x own cc nL D ret rm) {k : Nat} (d : dec cc pc (.aload k) 2 n) (hl : ls[k]? = some (.val .null)) (kk : WG x A Q H cs sl n ls (.null :: rest)) : WG x A Q H cs sl pc ls rest := by
  obtain ⟨p, l, e, R, s, m, args, below, meth, c⟩ := x
  obtain ⟨d, rfl⟩ := d
  have hl' : ls.toArray[k]? = some (.val .null) := by rw [List.getElem?_toArray]; exact hl
  intro locs hS hz T hT X
  obtain ⟨t, a, b⟩ := kk locs hS hz T hT X
  refine ⟨t, ?_, b⟩
  jvm_step X.here [X.here.top, C.1, C.2.1, d, hl']
  exact ⟨rfl, a⟩
def slot1 (z : Slot) : Prop := match z with | .second => False | .val old => old.category = 1 | .unset => True
theorem st_set {z : Slot} {i : Nat} {v : Value} (hl : ls[i]? = some z) (hz : slot1 z) (hv : v.category = 1) : storeLocals ls.toArray i v = some (ls.set i (.val v)).toArray := by
  have h : ls.toArray[i]? = some z := by rw [List.getElem?_toArray]; exact hl
  cases z with
  | second => exact hz.elim
  | val old => rw [storeLocals_cat1 h hv hz]; simp
  | unset => rw [storeLocals_cat1 h hv trivial]; simp
theorem r_istore_n (C : Cx x own cc nL D ret rm) {k : Fin 4} (d : dec cc pc (.istore_n k) 1 n) {v : Int32} {z : Slot} (hl : ls[(k : Nat)]? = some z) (hz : slot1 z) {ls' : List Slot} (he : ls.set k (.val (.int v)) = ls') (kk : WG x A Q H cs sl n ls' rest) : WG x A Q H cs sl pc ls (.int v :: rest) := by
  obtain ⟨p, l, e, R, s, m, args, below, meth, c⟩ := x
  obtain ⟨d, rfl⟩ := d
  subst he
  have e' := st_set (v := .int v) hl hz rfl
  intro locs hS hz T hT X
  obtain ⟨t, a, b⟩ := kk locs hS hz T hT X
  refine ⟨t, ?_, b⟩
  jvm_step X.here [X.here.top, ↓top_set X.here.top, C.1, C.2.1, d, e']
  exact a
theorem r_istore (C : Cx x own cc nL D ret rm) {k : Nat} (d : dec cc pc (.istore k) 2 n) {v : Int32} {z : Slot} (hl : ls[k]? = some z) (hz : slot1 z) {ls' : List Slot} (he : ls.set k (.val (.int v)) = ls') (kk : WG x A Q H cs sl n ls' rest) : WG x A Q H cs sl pc ls (.int v :: rest) := by
  obtain ⟨p, l, e, R, s, m, args, below, meth, c⟩ := x
  obtain ⟨d, rfl⟩ := d
  subst he
  have e' := st_set (v := .int v) hl hz rfl
  intro locs hS hz T hT X
  obtain ⟨t, a, b⟩ := kk locs hS hz T hT X
  refine ⟨t, ?_, b⟩
  jvm_step X.here [X.here.top, ↓top_set X.here.top, C.1, C.2.1, d, e']
  exact a
theorem r_astore_n (C : Cx x own cc nL D ret rm) {k : Fin 4} (d : dec cc pc (.astore_n k) 1 n) {v : Nat} {z : Slot} (hl : ls[(k : Nat)]? = some z) (hz : slot1 z) {ls' : List Slot} (he : ls.set k (.val (.ref v)) = ls') (kk : WG x A Q H cs sl n ls' rest) : WG x A Q H cs sl pc ls (.ref v :: rest) := by
  obtain ⟨p, l, e, R, s, m, args, below, meth, c⟩ := x
  obtain ⟨d, rfl⟩ := d
  subst he
  have e' := st_set (v := .ref v) hl hz rfl
  intro locs hS hz T hT X
  obtain ⟨t, a, b⟩ := kk locs hS hz T hT X
  refine ⟨t, ?_, b⟩
  jvm_step X.here [X.here.top, ↓top_set X.here.top, C.1, C.2.1, d, e']
  exact ⟨rfl, a⟩
theorem r_astore (C : Cx x own cc nL D ret rm) {k : Nat} (d : dec cc pc (.astore k) 2 n) {v : Nat} {z : Slot} (hl : ls[k]? = some z) (hz : slot1 z) {ls' : List Slot} (he : ls.set k (.val (.ref v)) = ls') (kk : WG x A Q H cs sl n ls' rest) : WG x A Q H cs sl pc ls (.ref v :: rest) := by
  obtain ⟨p, l, e, R, s, m, args, below, meth, c⟩ := x
  obtain ⟨d, rfl⟩ := d
  subst he
  have e' := st_set (v := .ref v) hl hz rfl
  intro locs hS hz T hT X
  obtain ⟨t, a, b⟩ := kk locs hS hz T hT X
  refine ⟨t, ?_, b⟩
  jvm_step X.here [X.here.top, ↓top_set X.here.top, C.1, C.2.1, d, e']
  exact ⟨rfl, a⟩
theorem r_astore_nN (C : Cx x own cc nL D ret rm) {k : Fin 4} (d : dec cc pc (.astore_n k) 1 n) {z : Slot} (hl : ls[(k : Nat)]? = some z) (hz : slot1 z) {ls' : List Slot} (he : ls.set k (.val .null) = ls') (kk : WG x A Q H cs sl n ls' rest) : WG x A Q H cs sl pc ls (.null :: rest) := by
  obtain ⟨p, l, e, R, s, m, args, below, meth, c⟩ := x
  obtain ⟨d, rfl⟩ := d
  subst he
  have e' := st_set (v := .null) hl hz rfl
  intro locs hS hz T hT X
  obtain ⟨t, a, b⟩ := kk locs hS hz T hT X
  refine ⟨t, ?_, b⟩
  jvm_step X.here [X.here.top, ↓top_set X.here.top, C.1, C.2.1, d, e']
  exact ⟨rfl, a⟩
theorem r_astoreN (C : Cx x own cc nL D ret rm) {k : Nat} (d : dec cc pc (.astore k) 2 n) {z : Slot} (hl : ls[k]? = some z) (hz : slot1 z) {ls' : List Slot} (he : ls.set k (.val .null) = ls') (kk : WG x A Q H cs sl n ls' rest) : WG x A Q H cs sl pc ls (.null :: rest) := by
  obtain ⟨p, l, e, R, s, m, args, below, meth, c⟩ := x
  obtain ⟨d, rfl⟩ := d
  subst he
  have e' := st_set (v := .null) hl hz rfl
  intro locs hS hz T hT X
  obtain ⟨t, a, b⟩ := kk locs hS hz T hT X
  refine ⟨t, ?_, b⟩
  jvm_step X.here [X.here.top, ↓top_set X.here.top, C.1, C.2.1, d, e']
  exact ⟨rfl, a⟩
theorem r_lstore (C : Cx x own cc nL D ret rm) {k : Nat} (d : dec cc pc (.lstore k) 2 n) {v : Int64} {ls' : List Slot} (he : storeLocals ls.toArray k (.long v) = some ls'.toArray) (kk : WG x A Q H cs sl n ls' rest) : WG x A Q H cs sl pc ls (.long v :: rest) := by
  obtain ⟨p, l, e, R, s, m, args, below, meth, c⟩ := x
  obtain ⟨d, rfl⟩ := d
  intro locs hS hz T hT X
  obtain ⟨t, a, b⟩ := kk locs hS hz T hT X
  refine ⟨t, ?_, b⟩
  jvm_step X.here [X.here.top, ↓top_set X.here.top, C.1, C.2.1, d, he]
  exact a
theorem r_iinc (C : Cx x own cc nL D ret rm) {k : Nat} {j : Int} (d : dec cc pc (.iinc k j) 3 n) {y : Int32} (v : Int32) (hl : ls[k]? = some (.val (.int y))) (hv : y + Int32.ofInt j = v) {ls' : List Slot} (he : ls.set k (.val (.int v)) = ls') (kk : WG x A Q H cs sl n ls' rest) : WG x A Q H cs sl pc ls rest := by
  obtain ⟨p, l, e, R, s, m, args, below, meth, c⟩ := x
  obtain ⟨d, rfl⟩ := d
  subst he
  subst hv
  have e' := st_set (v := .int (y + Int32.ofInt j)) hl rfl rfl
  have hg : ls.toArray[k]? = some (.val (.int y)) := by rw [List.getElem?_toArray]; exact hl
  intro locs hS hz T hT X
  obtain ⟨t, a, b⟩ := kk locs hS hz T hT X
  refine ⟨t, ?_, b⟩
  jvm_step X.here [X.here.top, ↓top_set X.here.top, C.1, C.2.1, d, hg, e']
  exact a
theorem r_iadd (C : Cx x own cc nL D ret rm) {a b : Int32} (d : dec cc pc .iadd 1 n) (kk : WG x A Q H cs sl n ls (.int (a + b) :: rest)) : WG x A Q H cs sl pc ls (.int b :: .int a :: rest) := by
  obtain ⟨p, l, e, R, s, m, args, below, meth, c⟩ := x
  obtain ⟨d, rfl⟩ := d
  intro locs hS hz
  exact lv_iadd C.1 C.2.1 d (kk locs hS hz)
theorem r_isub (C : Cx x own cc nL D ret rm) {a b : Int32} (d : dec cc pc .isub 1 n) (kk : WG x A Q H cs sl n ls (.int (a - b) :: rest)) : WG x A Q H cs sl pc ls (.int b :: .int a :: rest) := by
  obtain ⟨p, l, e, R, s, m, args, below, meth, c⟩ := x
  obtain ⟨d, rfl⟩ := d
  intro locs hS hz
  exact lv_isub C.1 C.2.1 d (kk locs hS hz)
theorem r_imul (C : Cx x own cc nL D ret rm) {a b : Int32} (d : dec cc pc .imul 1 n) (kk : WG x A Q H cs sl n ls (.int (a * b) :: rest)) : WG x A Q H cs sl pc ls (.int b :: .int a :: rest) := by
  obtain ⟨p, l, e, R, s, m, args, below, meth, c⟩ := x
  obtain ⟨d, rfl⟩ := d
  intro locs hS hz
  exact lv_imul C.1 C.2.1 d (kk locs hS hz)
theorem r_iand (C : Cx x own cc nL D ret rm) {a b : Int32} (d : dec cc pc .iand 1 n) (kk : WG x A Q H cs sl n ls (.int (a &&& b) :: rest)) : WG x A Q H cs sl pc ls (.int b :: .int a :: rest) := by
  obtain ⟨p, l, e, R, s, m, args, below, meth, c⟩ := x
  obtain ⟨d, rfl⟩ := d
  intro locs hS hz
  exact lv_iand C.1 C.2.1 d (kk locs hS hz)
theorem r_ior (C : Cx x own cc nL D ret rm) {a b : Int32} (d : dec cc pc .ior 1 n) (kk : WG x A Q H cs sl n ls (.int (a ||| b) :: rest)) : WG x A Q H cs sl pc ls (.int b :: .int a :: rest) := by
  obtain ⟨p, l, e, R, s, m, args, below, meth, c⟩ := x
  obtain ⟨d, rfl⟩ := d
  intro locs hS hz
  exact lv_ior C.1 C.2.1 d (kk locs hS hz)
theorem r_idiv (C : Cx x own cc nL D ret rm) {a b : Int32} (d : dec cc pc .idiv 1 n) (hne : ¬ b = 0) (kk : WG x A Q H cs sl n ls (.int (a / b) :: rest)) : WG x A Q H cs sl pc ls (.int b :: .int a :: rest) := by
  obtain ⟨p, l, e, R, s, m, args, below, meth, c⟩ := x
  obtain ⟨d, rfl⟩ := d
  intro locs hS hz
  exact lv_idiv C.1 C.2.1 d hne (kk locs hS hz)
theorem r_irem (C : Cx x own cc nL D ret rm) {a b : Int32} (d : dec cc pc .irem 1 n) (hne : ¬ b = 0) (kk : WG x A Q H cs sl n ls (.int (a - a / b * b) :: rest)) : WG x A Q H cs sl pc ls (.int b :: .int a :: rest) := by
  obtain ⟨p, l, e, R, s, m, args, below, meth, c⟩ := x
  obtain ⟨d, rfl⟩ := d
  intro locs hS hz
  exact lv_irem C.1 C.2.1 d hne (kk locs hS hz)
theorem r_ishl (C : Cx x own cc nL D ret rm) {a b : Int32} (d : dec cc pc .ishl 1 n) (kk : WG x A Q H cs sl n ls (.int (a <<< (b &&& 31)) :: rest)) : WG x A Q H cs sl pc ls (.int b :: .int a :: rest) := by
  obtain ⟨p, l, e, R, s, m, args, below, meth, c⟩ := x
  obtain ⟨d, rfl⟩ := d
  intro locs hS hz
  exact lv_ishl C.1 C.2.1 d (kk locs hS hz)
theorem r_ishr (C : Cx x own cc nL D ret rm) {a b : Int32} (d : dec cc pc .ishr 1 n) (kk : WG x A Q H cs sl n ls (.int (a >>> (b &&& 31)) :: rest)) : WG x A Q H cs sl pc ls (.int b :: .int a :: rest) := by
  obtain ⟨p, l, e, R, s, m, args, below, meth, c⟩ := x
  obtain ⟨d, rfl⟩ := d
  intro locs hS hz
  exact lv_ishr C.1 C.2.1 d (kk locs hS hz)
theorem r_ladd (C : Cx x own cc nL D ret rm) {a b : Int64} (d : dec cc pc .ladd 1 n) (kk : WG x A Q H cs sl n ls (.long (a + b) :: rest)) : WG x A Q H cs sl pc ls (.long b :: .long a :: rest) := by
  obtain ⟨p, l, e, R, s, m, args, below, meth, c⟩ := x
  obtain ⟨d, rfl⟩ := d
  intro locs hS hz
  exact lv_ladd C.1 C.2.1 d (kk locs hS hz)
theorem r_lmul (C : Cx x own cc nL D ret rm) {a b : Int64} (d : dec cc pc .lmul 1 n) (kk : WG x A Q H cs sl n ls (.long (a * b) :: rest)) : WG x A Q H cs sl pc ls (.long b :: .long a :: rest) := by
  obtain ⟨p, l, e, R, s, m, args, below, meth, c⟩ := x
  obtain ⟨d, rfl⟩ := d
  intro locs hS hz
  exact lv_lmul C.1 C.2.1 d (kk locs hS hz)
theorem r_ldiv (C : Cx x own cc nL D ret rm) {a b : Int64} (d : dec cc pc .ldiv 1 n) (hne : ¬ b = 0) (kk : WG x A Q H cs sl n ls (.long (a / b) :: rest)) : WG x A Q H cs sl pc ls (.long b :: .long a :: rest) := by
  obtain ⟨p, l, e, R, s, m, args, below, meth, c⟩ := x
  obtain ⟨d, rfl⟩ := d
  intro locs hS hz
  exact lv_ldiv C.1 C.2.1 d hne (kk locs hS hz)
theorem r_lrem (C : Cx x own cc nL D ret rm) {a b : Int64} (d : dec cc pc .lrem 1 n) (hne : ¬ b = 0) (kk : WG x A Q H cs sl n ls (.long (a - a / b * b) :: rest)) : WG x A Q H cs sl pc ls (.long b :: .long a :: rest) := by
  obtain ⟨p, l, e, R, s, m, args, below, meth, c⟩ := x
  obtain ⟨d, rfl⟩ := d
  intro locs hS hz
  exact lv_lrem C.1 C.2.1 d hne (kk locs hS hz)
theorem r_i2l (C : Cx x own cc nL D ret rm) {a : Int32} (d : dec cc pc .i2l 1 n) (kk : WG x A Q H cs sl n ls (.long a.toInt64 :: rest)) : WG x A Q H cs sl pc ls (.int a :: rest) := by
  obtain ⟨p, l, e, R, s, m, args, below, meth, c⟩ := x
  obtain ⟨d, rfl⟩ := d
  intro locs hS hz
  exact lv_i2l C.1 C.2.1 d rfl (kk locs hS hz)
theorem r_l2i (C : Cx x own cc nL D ret rm) {a : Int64} (d : dec cc pc .l2i 1 n) (kk : WG x A Q H cs sl n ls (.int a.toInt32 :: rest)) : WG x A Q H cs sl pc ls (.long a :: rest) := by
  obtain ⟨p, l, e, R, s, m, args, below, meth, c⟩ := x
  obtain ⟨d, rfl⟩ := d
  intro locs hS hz
  exact lv_l2i C.1 C.2.1 d rfl (kk locs hS hz)
theorem r_i2c (C : Cx x own cc nL D ret rm) {a : Int32} (d : dec cc pc .i2c 1 n) (kk : WG x A Q H cs sl n ls (.int (a.toUInt32 % 65536).toInt32 :: rest)) : WG x A Q H cs sl pc ls (.int a :: rest) := by
  obtain ⟨p, l, e, R, s, m, args, below, meth, c⟩ := x
  obtain ⟨d, rfl⟩ := d
  intro locs hS hz
  exact lv_i2c C.1 C.2.1 d rfl (kk locs hS hz)
theorem r_lconst1 (C : Cx x own cc nL D ret rm) (d : dec cc pc (.lconst 1) 1 n) (kk : WG x A Q H cs sl n ls (.long 1 :: rest)) : WG x A Q H cs sl pc ls (rest) := by
  obtain ⟨p, l, e, R, s, m, args, below, meth, c⟩ := x
  obtain ⟨d, rfl⟩ := d
  intro locs hS hz
  exact lv_lconst C.1 C.2.1 d rfl (kk locs hS hz)
theorem r_dup (C : Cx x own cc nL D ret rm) {a : Value} (d : dec cc pc .dup 1 n) (ha : a.category = 1) (kk : WG x A Q H cs sl n ls (a :: a :: rest)) : WG x A Q H cs sl pc ls (a :: rest) := by
  obtain ⟨p, l, e, R, s, m, args, below, meth, c⟩ := x
  obtain ⟨d, rfl⟩ := d
  intro locs hS hz
  exact lv_dup C.1 C.2.1 d ha (kk locs hS hz)
theorem r_dup2 (C : Cx x own cc nL D ret rm) {a b : Value} (d : dec cc pc .dup2 1 n) (ha : a.category = 1) (hb : b.category = 1) (kk : WG x A Q H cs sl n ls (a :: b :: a :: b :: rest)) : WG x A Q H cs sl pc ls (a :: b :: rest) := by
  obtain ⟨p, l, e, R, s, m, args, below, meth, c⟩ := x
  obtain ⟨d, rfl⟩ := d
  intro locs hS hz
  exact lv_dup2_11 C.1 C.2.1 d ha hb (kk locs hS hz)
theorem r_dup2l (C : Cx x own cc nL D ret rm) {a : Int64} (d : dec cc pc .dup2 1 n) (kk : WG x A Q H cs sl n ls (.long a :: .long a :: rest)) : WG x A Q H cs sl pc ls (.long a :: rest) := by
  obtain ⟨p, l, e, R, s, m, args, below, meth, c⟩ := x
  obtain ⟨d, rfl⟩ := d
  intro locs hS hz
  exact lv_dup2_2 C.1 C.2.1 d rfl (kk locs hS hz)
theorem r_pop (C : Cx x own cc nL D ret rm) {a : Value} (d : dec cc pc .pop 1 n) (ha : a.category = 1) (kk : WG x A Q H cs sl n ls (rest)) : WG x A Q H cs sl pc ls (a :: rest) := by
  obtain ⟨p, l, e, R, s, m, args, below, meth, c⟩ := x
  obtain ⟨d, rfl⟩ := d
  intro locs hS hz
  exact lv_pop C.1 C.2.1 d ha (kk locs hS hz)
theorem r_if_eq (C : Cx x own cc nL D ret rm) {a : Int32} (d : decJ cc pc (.ifCond .eq) 3 n tgt) (kt : a = 0 → WG x A Q H cs sl tgt ls rest) (kf : ¬ (a = 0) → WG x A Q H cs sl n ls rest) : WG x A Q H cs sl pc ls (.int a :: rest) := by
  obtain ⟨p, l, e, R, s, m, args, below, meth, c⟩ := x
  obtain ⟨off, d, rfl, ht⟩ := d
  intro locs hS hz
  exact lv_if_eq C.1 C.2.1 d ht (fun h => kt h locs hS hz) (fun h => kf h locs hS hz)
theorem r_ic_eq (C : Cx x own cc nL D ret rm) {a b : Int32} (d : decJ cc pc (.if_icmp .eq) 3 n tgt) (kt : a = b → WG x A Q H cs sl tgt ls rest) (kf : ¬ (a = b) → WG x A Q H cs sl n ls rest) : WG x A Q H cs sl pc ls (.int b :: .int a :: rest) := by
  obtain ⟨p, l, e, R, s, m, args, below, meth, c⟩ := x
  obtain ⟨off, d, rfl, ht⟩ := d
  intro locs hS hz
  exact lv_icmp_eq C.1 C.2.1 d ht (fun h => kt h locs hS hz) (fun h => kf h locs hS hz)
theorem r_if_ne (C : Cx x own cc nL D ret rm) {a : Int32} (d : decJ cc pc (.ifCond .ne) 3 n tgt) (kt : ¬ a = 0 → WG x A Q H cs sl tgt ls rest) (kf : a = 0 → WG x A Q H cs sl n ls rest) : WG x A Q H cs sl pc ls (.int a :: rest) := by
  obtain ⟨p, l, e, R, s, m, args, below, meth, c⟩ := x
  obtain ⟨off, d, rfl, ht⟩ := d
  intro locs hS hz
  exact lv_if_ne C.1 C.2.1 d ht (fun h => kt h locs hS hz) (fun h => kf h locs hS hz)
theorem r_ic_ne (C : Cx x own cc nL D ret rm) {a b : Int32} (d : decJ cc pc (.if_icmp .ne) 3 n tgt) (kt : ¬ a = b → WG x A Q H cs sl tgt ls rest) (kf : a = b → WG x A Q H cs sl n ls rest) : WG x A Q H cs sl pc ls (.int b :: .int a :: rest) := by
  obtain ⟨p, l, e, R, s, m, args, below, meth, c⟩ := x
  obtain ⟨off, d, rfl, ht⟩ := d
  intro locs hS hz
  exact lv_icmp_ne C.1 C.2.1 d ht (fun h => kt h locs hS hz) (fun h => kf h locs hS hz)
theorem r_if_lt (C : Cx x own cc nL D ret rm) {a : Int32} (d : decJ cc pc (.ifCond .lt) 3 n tgt) (kt : a < 0 → WG x A Q H cs sl tgt ls rest) (kf : ¬ (a < 0) → WG x A Q H cs sl n ls rest) : WG x A Q H cs sl pc ls (.int a :: rest) := by
  obtain ⟨p, l, e, R, s, m, args, below, meth, c⟩ := x
  obtain ⟨off, d, rfl, ht⟩ := d
  intro locs hS hz
  exact lv_if_lt C.1 C.2.1 d ht (fun h => kt h locs hS hz) (fun h => kf h locs hS hz)
theorem r_ic_lt (C : Cx x own cc nL D ret rm) {a b : Int32} (d : decJ cc pc (.if_icmp .lt) 3 n tgt) (kt : a < b → WG x A Q H cs sl tgt ls rest) (kf : ¬ (a < b) → WG x A Q H cs sl n ls rest) : WG x A Q H cs sl pc ls (.int b :: .int a :: rest) := by
  obtain ⟨p, l, e, R, s, m, args, below, meth, c⟩ := x
  obtain ⟨off, d, rfl, ht⟩ := d
  intro locs hS hz
  exact lv_icmp_lt C.1 C.2.1 d ht (fun h => kt h locs hS hz) (fun h => kf h locs hS hz)
theorem r_if_ge (C : Cx x own cc nL D ret rm) {a : Int32} (d : decJ cc pc (.ifCond .ge) 3 n tgt) (kt : 0 ≤ a → WG x A Q H cs sl tgt ls rest) (kf : ¬ (0 ≤ a) → WG x A Q H cs sl n ls rest) : WG x A Q H cs sl pc ls (.int a :: rest) := by
  obtain ⟨p, l, e, R, s, m, args, below, meth, c⟩ := x
  obtain ⟨off, d, rfl, ht⟩ := d
  intro locs hS hz
  exact lv_if_ge C.1 C.2.1 d ht (fun h => kt h locs hS hz) (fun h => kf h locs hS hz)
theorem r_ic_ge (C : Cx x own cc nL D ret rm) {a b : Int32} (d : decJ cc pc (.if_icmp .ge) 3 n tgt) (kt : b ≤ a → WG x A Q H cs sl tgt ls rest) (kf : ¬ (b ≤ a) → WG x A Q H cs sl n ls rest) : WG x A Q H cs sl pc ls (.int b :: .int a :: rest) := by
  obtain ⟨p, l, e, R, s, m, args, below, meth, c⟩ := x
  obtain ⟨off, d, rfl, ht⟩ := d
  intro locs hS hz
  exact lv_icmp_ge C.1 C.2.1 d ht (fun h => kt h locs hS hz) (fun h => kf h locs hS hz)
theorem r_if_gt (C : Cx x own cc nL D ret rm) {a : Int32} (d : decJ cc pc (.ifCond .gt) 3 n tgt) (kt : 0 < a → WG x A Q H cs sl tgt ls rest) (kf : ¬ (0 < a) → WG x A Q H cs sl n ls rest) : WG x A Q H cs sl pc ls (.int a :: rest) := by
  obtain ⟨p, l, e, R, s, m, args, below, meth, c⟩ := x
  obtain ⟨off, d, rfl, ht⟩ := d
  intro locs hS hz
  exact lv_if_gt C.1 C.2.1 d ht (fun h => kt h locs hS hz) (fun h => kf h locs hS hz)
theorem r_ic_gt (C : Cx x own cc nL D ret rm) {a b : Int32} (d : decJ cc pc (.if_icmp .gt) 3 n tgt) (kt : b < a → WG x A Q H cs sl tgt ls rest) (kf : ¬ (b < a) → WG x A Q H cs sl n ls rest) : WG x A Q H cs sl pc ls (.int b :: .int a :: rest) := by
  obtain ⟨p, l, e, R, s, m, args, below, meth, c⟩ := x
  obtain ⟨off, d, rfl, ht⟩ := d
  intro locs hS hz
  exact lv_icmp_gt C.1 C.2.1 d ht (fun h => kt h locs hS hz) (fun h => kf h locs hS hz)
theorem r_if_le (C : Cx x own cc nL D ret rm) {a : Int32} (d : decJ cc pc (.ifCond .le) 3 n tgt) (kt : a ≤ 0 → WG x A Q H cs sl tgt ls rest) (kf : ¬ (a ≤ 0) → WG x A Q H cs sl n ls rest) : WG x A Q H cs sl pc ls (.int a :: rest) := by
  obtain ⟨p, l, e, R, s, m, args, below, meth, c⟩ := x
  obtain ⟨off, d, rfl, ht⟩ := d
  intro locs hS hz
  exact lv_if_le C.1 C.2.1 d ht (fun h => kt h locs hS hz) (fun h => kf h locs hS hz)
theorem r_ic_le (C : Cx x own cc nL D ret rm) {a b : Int32} (d : decJ cc pc (.if_icmp .le) 3 n tgt) (kt : a ≤ b → WG x A Q H cs sl tgt ls rest) (kf : ¬ (a ≤ b) → WG x A Q H cs sl n ls rest) : WG x A Q H cs sl pc ls (.int b :: .int a :: rest) := by
  obtain ⟨p, l, e, R, s, m, args, below, meth, c⟩ := x
  obtain ⟨off, d, rfl, ht⟩ := d
  intro locs hS hz
  exact lv_icmp_le C.1 C.2.1 d ht (fun h => kt h locs hS hz) (fun h => kf h locs hS hz)
theorem r_goto (C : Cx x own cc nL D ret rm) (d : decJ cc pc .goto 3 n tgt) (kk : WG x A Q H cs sl tgt ls rest) : WG x A Q H cs sl pc ls rest := by
  obtain ⟨p, l, e, R, s, m, args, below, meth, c⟩ := x
  obtain ⟨off, d, rfl, ht⟩ := d
  intro locs hS hz
  exact lv_goto C.1 C.2.1 d ht (kk locs hS hz)
theorem r_ifnonnull (C : Cx x own cc nL D ret rm) {a : Nat} (d : decJ cc pc .ifnonnull 3 n tgt) (kk : WG x A Q H cs sl tgt ls rest) : WG x A Q H cs sl pc ls (.ref a :: rest) := by
  obtain ⟨p, l, e, R, s, m, args, below, meth, c⟩ := x
  obtain ⟨off, d, rfl, ht⟩ := d
  intro locs hS hz
  exact lv_ifnonnull C.1 C.2.1 d ht (kk locs hS hz)
theorem r_ifnonnullN (C : Cx x own cc nL D ret rm) (d : decJ cc pc .ifnonnull 3 n tgt) (kk : WG x A Q H cs sl n ls rest) : WG x A Q H cs sl pc ls (.null :: rest) := by
  obtain ⟨p, l, e, R, s, m, args, below, meth, c⟩ := x
  obtain ⟨off, d, rfl, ht⟩ := d
  intro locs hS hz
  exact lv_ifnonnullN C.1 C.2.1 d (kk locs hS hz)
theorem r_ifnull (C : Cx x own cc nL D ret rm) {a : Nat} (d : decJ cc pc .ifnull 3 n tgt) (kk : WG x A Q H cs sl n ls rest) : WG x A Q H cs sl pc ls (.ref a :: rest) := by
  obtain ⟨p, l, e, R, s, m, args, below, meth, c⟩ := x
  obtain ⟨off, d, rfl, ht⟩ := d
  intro locs hS hz
  exact lv_ifnull C.1 C.2.1 d (kk locs hS hz)
theorem r_ifnullN (C : Cx x own cc nL D ret rm) (d : decJ cc pc .ifnull 3 n tgt) (kk : WG x A Q H cs sl tgt ls rest) : WG x A Q H cs sl pc ls (.null :: rest) := by
  obtain ⟨p, l, e, R, s, m, args, below, meth, c⟩ := x
  obtain ⟨off, d, rfl, ht⟩ := d
  intro locs hS hz
  exact lv_ifnullN C.1 C.2.1 d ht (kk locs hS hz)
theorem r_aconst_null (C : Cx x own cc nL D ret rm) (d : dec cc pc .aconst_null 1 n) (kk : WG x A Q H cs sl n ls (.null :: rest)) : WG x A Q H cs sl pc ls rest := by
  obtain ⟨p, l, e, R, s, m, args, below, meth, c⟩ := x
  obtain ⟨d, rfl⟩ := d
  intro locs hS hz T hT X
  obtain ⟨t, a, b⟩ := kk locs hS hz T hT X
  refine ⟨t, ?_, b⟩
  jvm_step X.here [X.here.top, C.1, C.2.1, d]
  exact a
theorem r_ldc2 (C : Cx x own cc nL D ret rm) {idx : Nat} {v : Int64} (d : dec cc pc (.ldc2_w idx) 3 n) (hw : Cond.constantLong own idx v ∈ lwt) (kk : WG x A Q H cs sl n ls (.long v :: rest)) : WG x A Q H cs sl pc ls rest := by
  obtain ⟨p, l, e, R, s, m, args, below, meth, c⟩ := x
  obtain ⟨d, rfl⟩ := d
  intro locs hS hz
  exact lv_ldc2 C.1 C.2.1 C.2.2.2.1 (kk_args C.2.2.2.2.1 args _ hw) d (kk locs hS hz)
end RW
end
section
/-! cells, blocks of cells, rows that read and write them, contracts, calls -/
def bl (z : Int32) : Prop := z = 0 ∨ z = 1
/-- an object's slots, out of its class's place, its address and its numbers; what it refers to lies at fixed places behind it -/
def vals (t a : Nat) (v : Nat → Int32) : List Value := match t with
  | 0 => [.int (v 0), .int (v 1), .int (v 2), .int (v 3), .int (v 4), .ref (a + 1)]
  | 1 => [.ref (a + 1), .ref (a + 2), .ref (a + 3), .int (v 3)]
  | 2 => [.ref (a + 1)]
  | 3 => [.ref (a + 1), .ref (a + 2), .int (v 2), .int (v 3)]
  | 4 => [.ref (a + 1), .int (v 1)]
  | 5 => [.int (v 0), .int (v 1), .int (v 2), .int (v 3), .int (v 4), .int (v 5), .int (v 6), .int (v 7)]
  | 6 => [.ref (a + 1), .int (v 1), .ref (a + 2), .ref (a + 4), .ref (a + 22), .ref (a + 40), .ref (a + 55), .ref (a + 177), .ref (a + 209), .ref (a + 213), .ref (a + 214)]
  | _ => [.int (v 0), .ref (a + 1), .int (v 2), .ref (a + 2), .int (v 4), .int (v 5), .int (v 6), .int (v 7), .ref (a + 3), .ref (a + 4), .int (v 10), .int (v 11), .int (v 12), .ref (a + 5), .ref (a + 6), .ref (a + 7), .ref (a + 8), .ref (a + 9), .int (v 18), .ref (a + 10), .int (v 20), .int (v 21), .ref (a + 11), .ref (a + 12), .ref (a + 13), .int (v 25)]
def bools (t : Nat) (v : Nat → Int32) : Prop := match t with
  | 0 => bl (v 0) ∧ bl (v 1)
  | 5 => bl (v 0) ∧ bl (v 1)
  | _ => True
/-- what a cell of a kind holds: (8, n) n ints, (9, n) n chars, (10, _) the six towns behind it, (11, _) the three crews, (12, n) n rivers in some order; (t, _) an object of class t -/
def cel (D : DD) (K : Nat × Nat) (a : Nat) (v : Nat → Int32) (H : Heap) : Prop := match K.1 with
  | 8 => va_at D.1 vwCl (a, .inl (D.2 1, K.2, .inl v)) H
  | 9 => va_at D.1 vwCl (a, .inl (D.2 0, K.2, .inl v)) H
  | 10 => va_at D.1 vwCl (a, .inl (D.2 2, 6, .inr (.inr (.inr (.inr (fun t => some (a + 2 + t))))))) H
  | 11 => va_at D.1 vwCl (a, .inl (D.2 3, 3, .inr (.inr (.inr (.inr (fun c => some (a + 7 + 2 * c))))))) H
  | 12 => va_at D.1 vwCl (a, .inl (D.2 4, K.2, .inr (.inr (.inr (.inr (fun j => some (a + 1 + 15 * (v j).toNatClampNeg))))))) H
  | t => va_at D.1 vwCl (a, .inr (t, vals t a v)) H ∧ bools t v
theorem cel_8 {D : DD} {m a : Nat} {v : Nat → Int32} {H : Heap} : cel D (8, m) a v H ↔ va_at D.1 vwCl (a, .inl (D.2 1, m, .inl v)) H := Iff.rfl
theorem cel_9 {D : DD} {m a : Nat} {v : Nat → Int32} {H : Heap} : cel D (9, m) a v H ↔ va_at D.1 vwCl (a, .inl (D.2 0, m, .inl v)) H := Iff.rfl
theorem cel_10 {D : DD} {m a : Nat} {v : Nat → Int32} {H : Heap} : cel D (10, m) a v H ↔ va_at D.1 vwCl (a, .inl (D.2 2, 6, .inr (.inr (.inr (.inr (fun t => some (a + 2 + t))))))) H := Iff.rfl
theorem cel_11 {D : DD} {m a : Nat} {v : Nat → Int32} {H : Heap} : cel D (11, m) a v H ↔ va_at D.1 vwCl (a, .inl (D.2 3, 3, .inr (.inr (.inr (.inr (fun c => some (a + 7 + 2 * c))))))) H := Iff.rfl
theorem cel_12 {D : DD} {m a : Nat} {v : Nat → Int32} {H : Heap} : cel D (12, m) a v H ↔ va_at D.1 vwCl (a, .inl (D.2 4, m, .inr (.inr (.inr (.inr (fun j => some (a + 1 + 15 * (v j).toNatClampNeg))))))) H := Iff.rfl
abbrev celO (t : Nat) : Prop := ∀ (v : Nat → Int32) (a : Nat) (H : Heap) (D : DD), cel D (t, 0) a v H = (va_at D.1 vwCl (a, .inr (t, vals t a v)) H ∧ bools t v)
theorem celO_0 : celO 0 := fun _ _ _ _ => rfl
theorem celO_1 : celO 1 := fun _ _ _ _ => rfl
theorem celO_2 : celO 2 := fun _ _ _ _ => rfl
theorem celO_3 : celO 3 := fun _ _ _ _ => rfl
theorem celO_4 : celO 4 := fun _ _ _ _ => rfl
theorem celO_5 : celO 5 := fun _ _ _ _ => rfl
theorem celO_6 : celO 6 := fun _ _ _ _ => rfl
theorem celO_7 : celO 7 := fun _ _ _ _ => rfl
theorem cel_kept {D : DD} {K : Nat × Nat} {a : Nat} {v : Nat → Int32} {H H1 : Heap} (h : cel D K a v H) (hq : H1[a]? = H[a]?) : cel D K a v H1 := by
  unfold cel at *
  split at h <;> first | exact va_at.kept h hq | exact ⟨va_at.kept h.1 hq, h.2⟩
theorem cel_lt {D : DD} {K : Nat × Nat} {a : Nat} {v : Nat → Int32} {H : Heap} (h : cel D K a v H) : a < H.size := by
  unfold cel at h
  split at h <;> first | exact va_at.lt h | exact va_at.lt h.1
def blk (D : DD) (ks : List (Nat × Nat)) (o : Nat) (R : Nat → Nat → Int32) (H : Heap) : Prop := ∀ (k : Nat) (K : Nat × Nat), ks[k]? = some K → cel D K (o + k) (R k) H
theorem blk_kept {D : DD} {ks : List (Nat × Nat)} {o : Nat} {R : Nat → Nat → Int32} {H H1 : Heap} (h : blk D ks o R H) {n : Nat} (hn : ks.length = n) (hq : ∀ q, o ≤ q → q < o + n → H1[q]? = H[q]?) : blk D ks o R H1 := by
  subst hn
  exact fun k K hk => cel_kept (h k K hk) (hq _ (Nat.le_add_right _ _) (Nat.add_lt_add_left (List.getElem?_eq_some_iff.mp hk).1 _))
theorem blk_put {D : DD} {ks : List (Nat × Nat)} {o : Nat} {R : Nat → Nat → Int32} {H H1 : Heap} (h : blk D ks o R H) {k : Nat} {K : Nat × Nat} {v : Nat → Int32} (hk : ks[k]? = some K) (hc : cel D K (o + k) v H1) (hq : ∀ q, q ≠ o + k → H1[q]? = H[q]?) : blk D ks o (va_up R k v) H1 := by
  intro j J hj
  by_cases e : j = k
  · subst e
    cases hk.symm.trans hj
    simp only [va_up, if_true]
    exact hc
  · simp only [va_up, if_neg e]
    exact cel_kept (h j J hj) (hq _ (by omega))
/-- a block inside another one -/
def shf (R : Nat → Nat → Int32) (i : Nat) : Nat → Nat → Int32 := fun k => R (i + k)
def spl (R : Nat → Nat → Int32) (i n : Nat) (R' : Nat → Nat → Int32) : Nat → Nat → Int32 := fun k => if i ≤ k ∧ k < i + n then R' (k - i) else R k
theorem blk_sub {D : DD} {ks ks' : List (Nat × Nat)} {o o' : Nat} {R : Nat → Nat → Int32} {H : Heap} (h : blk D ks o R H) (i n : Nat) (he : (ks.drop i).take n = ks') (ho : o' = o + i) : blk D ks' o' (shf R i) H := by
  subst he; subst ho
  intro k K hk
  have h1 : ks[i + k]? = some K := by
    rw [List.getElem?_take] at hk
    split at hk
    · rw [List.getElem?_drop] at hk; exact hk
    · cases hk
  rw [Nat.add_assoc]
  exact h (i + k) K h1
theorem blk_spl {D : DD} {ks ks' : List (Nat × Nat)} {o o' : Nat} {R R' : Nat → Nat → Int32} {H H1 : Heap} (h : blk D ks o R H) (i n : Nat) (he : (ks.drop i).take n = ks') (ho : o' = o + i) (h1 : blk D ks' o' R' H1) (hq : ∀ q, ¬ (o' ≤ q ∧ q < o' + n) → H1[q]? = H[q]?) : blk D ks o (spl R i n R') H1 := by
  subst he; subst ho
  intro k K hk
  by_cases e : i ≤ k ∧ k < i + n
  · simp only [spl, if_pos e]
    have h2 : ((ks.drop i).take n)[k - i]? = some K := by
      rw [List.getElem?_take, if_pos (by omega), List.getElem?_drop, show i + (k - i) = k by omega]
      exact hk
    have h3 := h1 (k - i) K h2
    rw [show o + i + (k - i) = o + k by omega] at h3
    exact h3
  · simp only [spl, if_neg e]
    exact cel_kept (h k K hk) (hq _ (by omega))
theorem blk_spl2 {D : DD} {ks ks1 ks2 : List (Nat × Nat)} {o o1 o2 : Nat} {R R1 R2 : Nat → Nat → Int32} {H H1 : Heap} (h : blk D ks o R H) (i n : Nat) (he1 : (ks.drop i).take n = ks1) (ho1 : o1 = o + i) (h1 : blk D ks1 o1 R1 H1) (j m : Nat) (he2 : (ks.drop j).take m = ks2) (ho2 : o2 = o + j) (h2 : blk D ks2 o2 R2 H1) (hq : ∀ q, ¬ ((o1 ≤ q ∧ q < o1 + n) ∨ (o2 ≤ q ∧ q < o2 + m)) → H1[q]? = H[q]?) : blk D ks o (spl (spl R i n R1) j m R2) H1 := by
  subst he1; subst ho1; subst he2; subst ho2
  intro k K hk
  by_cases e : j ≤ k ∧ k < j + m
  · simp only [spl, if_pos e]
    have h3 := h2 (k - j) K (by rw [List.getElem?_take, if_pos (by omega), List.getElem?_drop, show j + (k - j) = k by omega]; exact hk)
    rw [show o + j + (k - j) = o + k by omega] at h3
    exact h3
  · by_cases e' : i ≤ k ∧ k < i + n
    · simp only [spl, if_neg e, if_pos e']
      have h3 := h1 (k - i) K (by rw [List.getElem?_take, if_pos (by omega), List.getElem?_drop, show i + (k - i) = k by omega]; exact hk)
      rw [show o + i + (k - i) = o + k by omega] at h3
      exact h3
    · simp only [spl, if_neg e, if_neg e']
      exact cel_kept (h k K hk) (hq _ (by omega))
/-- one number of one cell is written -/
def pt (R : Nat → Nat → Int32) (k j : Nat) (z : Int32) : Nat → Nat → Int32 := va_up R k (upd (R k) j z)
def imax (a b : Int32) : Int32 := if a < b then b else a
def imin (a b : Int32) : Int32 := if b < a then b else a
/-- a field's words: of the class of the place t, its slot j, from a class 'own' through the pool's row idx -/
def FW (own : String) (idx t j : Nat) : Prop := ∃ (C : String) (T : u_T) (N : Nat), vwCl[t]? = some (C, T, N) ∧ (∀ w ∈ u_ws C T N, w ∈ lwt) ∧ j < N ∧ (T j).1 = C ∧ (Cond.fieldLink own idx C (T j).2.1 (T j).2.2.1 ∈ lwt ∨ ∃ host, Cond.fieldLinkNest own idx C (T j).2.1 (T j).2.2.1 host ∈ lwt)
/-- of a field that is written: what it says more -/
def FP (t j : Nat) (ty : FieldType) : Prop := ∃ (C : String) (T : u_T) (N : Nat) (ty0 : Nat → FieldType), vwCl[t]? = some (C, T, N) ∧ (∀ k, k < N → parseFieldDescriptor (T k).2.2.1 = some (ty0 k)) ∧ (∀ a, a < N → ∀ b, b < N → a ≠ b → (T a).2.1 ≠ (T b).2.1) ∧ (T j).2.2.2 = false ∧ parseFieldDescriptor (T j).2.2.1 = some ty ∧ (∀ (a : Nat) (v : Nat → Int32) (z : Int32), (vals t a v).set j (.int z) = vals t a (upd v j z)) ∧ (∀ a v, j < (vals t a v).length) ∧ ((∀ (v : Nat → Int32) (z : Int32), (ty = .boolean → bl z) → bools t v → bools t (upd v j z))) ∧ ∀ (v : Nat → Int32) (a : Nat) (H : Heap) (D : DD), cel D (t, 0) a v H = (va_at D.1 vwCl (a, .inr (t, vals t a v)) H ∧ bools t v)
theorem bl_nar {z : Int32} (h : bl z) : narrow .boolean (.int z) = .int z ∧ fits .boolean (.int z) = true := by
  rcases h with rfl | rfl <;> exact ⟨rfl, rfl⟩
section RH
variable {x : CX} {own : String} {cc : ByteArray} {nL : Nat} {D : DD} {ret : Option FieldType} {rm : Room} {A : Nat → Prop} {Q : State → Prop} {H : Heap} {cs sl pc n tgt : Nat} {ls : List Slot} {rest : List Value} {ks : List (Nat × Nat)} {o : Nat} {R : Nat → Nat → Int32}
theorem r_get (C : Cx x own cc nL D ret rm) {idx t j a k : Nat} (hb : blk D ks o R H) (hk : ks[k]? = some (t, 0)) (ha : a = o + k) (ht : celO t) (fw : FW own idx t j) {z : Value} (hv : (vals t a (R k))[j]? = some z) (d : dec cc pc (.getfield idx) 3 n) (kk : WG x A Q H cs sl n ls (z :: rest)) : WG x A Q H cs sl pc ls (.ref a :: rest) := by
  subst ha
  obtain ⟨p, l, e, R0, s, m, args, below, meth, c⟩ := x
  obtain ⟨d, rfl⟩ := d
  obtain ⟨C0, T, N, hc, hin, hj, ho, hlink⟩ := fw
  have h0 := hb k _ hk
  rw [ht] at h0
  have hts := kk_args C.2.2.2.2.1 args
  intro locs hS hz
  have hP : va_P D.1 vwCl [(o + k, .inr (t, vals t (o + k) (R k)))] H := by
    intro i q hq
    have : i = 0 := by
      have := (List.getElem?_eq_some_iff.mp hq).1
      simpa using this
    subst this
    cases hq
    exact h0.1
  rcases hlink with hl | ⟨host, hl⟩
  · exact va_get (T := T) (N := N) C.1 C.2.1 hts hin C.2.2.2.1 C.2.2.2.2.1.1 hP 0 rfl hc j hj (hts _ hl) (fun _ h => by rw [ho] at h; exact h) hv d (kk locs hS hz)
  · exact va_getN (T := T) (N := N) C.1 C.2.1 hts hin C.2.2.2.1 C.2.2.2.2.1.1 hP 0 rfl hc j hj (hts _ hl) (fun _ h => by rw [ho] at h; exact h) hv d (kk locs hS hz)
theorem r_put (C : Cx x own cc nL D ret rm) {idx t j a k : Nat} {ty : FieldType} {z : Int32} (hb : blk D ks o R H) (hk : ks[k]? = some (t, 0)) (ha : a = o + k) (hA : A a) (fw : FW own idx t j) (fp : FP t j ty) (hz0 : (ty = .boolean ∧ bl z) ∨ ty = .int) (d : dec cc pc (.putfield idx) 3 n) (kk : ∀ H1 : Heap, blk D ks o (pt R k j z) H1 → (∀ q, q ≠ a → H1[q]? = H[q]?) → WG x A Q H1 cs sl n ls rest) : WG x A Q H cs sl pc ls (.int z :: .ref a :: rest) := by
  subst ha
  obtain ⟨p, l, e, R0, s, m, args, below, meth, c⟩ := x
  obtain ⟨d, rfl⟩ := d
  obtain ⟨C0, T, N, hc, hin, hj, ho, hlink⟩ := fw
  obtain ⟨C1, T1, N1, ty0, hc1, hty, hnm, hfin, hd, hset, hlen, hbo, ht⟩ := fp
  cases hc.symm.trans hc1
  have h0 := hb k _ hk
  rw [ht] at h0
  have hts := kk_args C.2.2.2.2.1 args
  intro locs hS hz
  have hap := va_apart (own := own) hts hin ty0 hty hnm C.2.2.2.2.1.1 hc
  obtain ⟨⟨r, h1, cell, q1, q2, q3, q4⟩, hbl⟩ := h0
  have hr : r = (C0, T, N) := Option.some.inj (h1.symm.trans hc)
  subst hr
  obtain ⟨hSl, hfc, kC, hkC, hkind⟩ := C.2.2.2.2.1.1.1 t _ hc
  obtain ⟨cf, kf, fi, f, hi, hsl⟩ := hSl j hj
  have hlay := hts _ (hin _ (u_in_lay hj))
  unfold u_lay at hlay
  rw [if_neg (by rw [hfin]; decide)] at hlay
  have hst := (u_facts hfc hkC (u_lays hts hin hj) hi).1
  have hnf : narrow ty (.int z) = .int z ∧ fits ty (.int z) = true := by
    rcases hz0 with ⟨rfl, h⟩ | rfl
    · exact bl_nar h
    · exact ⟨rfl, rfl⟩
  have h6 := u_store hfc hkC hkind hlay hi hd hnf.1 hnf.2
  rw [ho] at hi
  have fin : ∀ H' : Heap, H'[o + k]? = some (cell.setSlot f.slot (.int z)) → H'.size = H.size → (∀ q, q ≠ o + k → H'[q]? = H[q]?) → W p l e R0 s m args below meth c H' (locs ++ [⟨o + k, f.slot⟩]) cs sl Q (F0 m (pc + 3) ls.toArray rest) := by
    intro H' e1 e2 e3
    rw [hsl] at e1
    refine kk H' ?_ e3 _ (hS.put e2 e3 hA) (by rw [e2]; exact hz)
    refine blk_put hb hk ?_ e3
    rw [ht]
    refine ⟨⟨_, hc, ?_⟩, hbo _ _ (fun h => by rcases hz0 with ⟨-, h'⟩ | h'; exact h'; rw [h] at h'; cases h') hbl⟩
    show t_OB (o + k) _ _ _ _ (vp_V (vals t (o + k) (upd (R k) j z)))
    rw [← hset]
    exact t_OB.to (V := updV (vp_V (vals t (o + k) (R k))) j (.int z)) ⟨_, e1, q2, q3, t_set q4 hap hj _⟩ (fun i _ => vp_updV_set (hlen _ _) _ i)
  rcases hlink with hl | ⟨host, hl⟩
  · exact W.putK C.1 C.2.1 (f := f) ⟨C.2.2.2.1, hts _ hl, ⟨_, _, _, hi⟩, hst⟩ (by rw [q2]; exact h6) q1 q3 (by rw [hsl]; exact k2_hasslot (q4 j hj)) rfl rfl d fin
  · exact va_WputK C.1 C.2.1 (f := f) C.2.2.2.1 (hts _ hl) hi hst (by rw [q2]; exact h6) q1 q3 (by rw [hsl]; exact k2_hasslot (q4 j hj)) rfl rfl d fin
end RH
end
section
/-! arrays, Math, returns, contracts, calls -/
theorem frame0 {A' : Nat → Prop} {H H1 : Heap} (hz : H1.size = H.size + 0) (hq : ∀ q, q < H.size → ¬ A' q → H1[q]? = H[q]?) : ∀ q, ¬ A' q → H1[q]? = H[q]? := by
  intro q hA
  by_cases h : q < H.size
  · exact hq q h hA
  · rw [Array.getElem?_eq_none (by omega), Array.getElem?_eq_none (by omega)]
section RA
variable {x : CX} {own : String} {cc : ByteArray} {nL : Nat} {D : DD} {ret : Option FieldType} {rm : Room} {A : Nat → Prop} {Q : State → Prop} {H : Heap} {cs sl pc n tgt : Nat} {ls : List Slot} {rest : List Value} {ks : List (Nat × Nat)} {o : Nat} {R : Nat → Nat → Int32}
theorem one_P {G : va_G} {a : Nat} {e : va_E} {H : Heap} (h : va_at G vwCl (a, e) H) : va_P G vwCl [(a, e)] H := by
  intro i q hq
  have : i = 0 := by
    have := (List.getElem?_eq_some_iff.mp hq).1
    simpa using this
  subst this
  cases hq
  exact h
theorem r_alen (C : Cx x own cc nL D ret rm) {a k m t : Nat} (hb : blk D ks o R H) (hk : ks[k]? = some (t, m)) (ha : a = o + k) (N : Nat) (hN : (t = 8 ∧ m = N) ∨ (t = 9 ∧ m = N) ∨ (t = 10 ∧ N = 6) ∨ (t = 11 ∧ N = 3) ∨ (t = 12 ∧ m = N)) (d : dec cc pc .arraylength 1 n) (kk : WG x A Q H cs sl n ls (.int (nI N) :: rest)) : WG x A Q H cs sl pc ls (.ref a :: rest) := by
  subst ha
  obtain ⟨p, l, e, R0, s, m0, args, below, meth, c⟩ := x
  obtain ⟨d, rfl⟩ := d
  have h0 := hb k _ hk
  intro locs hS hz
  rcases hN with ⟨rfl, rfl⟩ | ⟨rfl, rfl⟩ | ⟨rfl, rfl⟩ | ⟨rfl, rfl⟩ | ⟨rfl, rfl⟩
  · exact va_alen C.1 C.2.1 C.2.2.2.2.1.1 (one_P (cel_8.mp h0)) 0 1 rfl rfl rfl d (kk locs hS hz)
  · exact va_alen C.1 C.2.1 C.2.2.2.2.1.1 (one_P (cel_9.mp h0)) 0 0 rfl rfl rfl d (kk locs hS hz)
  · exact va_alen C.1 C.2.1 C.2.2.2.2.1.1 (one_P (cel_10.mp h0)) 0 2 rfl rfl rfl d (kk locs hS hz)
  · exact va_alen C.1 C.2.1 C.2.2.2.2.1.1 (one_P (cel_11.mp h0)) 0 3 rfl rfl rfl d (kk locs hS hz)
  · exact va_alen C.1 C.2.1 C.2.2.2.2.1.1 (one_P (cel_12.mp h0)) 0 4 rfl rfl rfl d (kk locs hS hz)
theorem r_iald (C : Cx x own cc nL D ret rm) {a k m : Nat} {i : Int32} (hb : blk D ks o R H) (hk : ks[k]? = some (8, m)) (ha : a = o + k) (hin : vp_in i m) {j : Nat} (hj : i.toNatClampNeg = j) (d : dec cc pc .iaload 1 n) (kk : WG x A Q H cs sl n ls (.int (R k j) :: rest)) : WG x A Q H cs sl pc ls (.int i :: .ref a :: rest) := by
  subst ha; subst hj
  obtain ⟨p, l, e, R0, s, m0, args, below, meth, c⟩ := x
  obtain ⟨d, rfl⟩ := d
  have h0 := hb k _ hk
  intro locs hS hz
  exact va_iald C.1 C.2.1 C.2.2.2.2.1.1 (one_P (cel_8.mp h0)) 0 1 rfl rfl hin d (kk locs hS hz)
theorem r_cald (C : Cx x own cc nL D ret rm) {a k m : Nat} {i : Int32} (hb : blk D ks o R H) (hk : ks[k]? = some (9, m)) (ha : a = o + k) (hin : vp_in i m) {j : Nat} (hj : i.toNatClampNeg = j) (d : dec cc pc .caload 1 n) (kk : WG x A Q H cs sl n ls (.int (R k j) :: rest)) : WG x A Q H cs sl pc ls (.int i :: .ref a :: rest) := by
  subst ha; subst hj
  obtain ⟨p, l, e, R0, s, m0, args, below, meth, c⟩ := x
  obtain ⟨d, rfl⟩ := d
  have h0 := hb k _ hk
  intro locs hS hz
  exact va_cald C.1 C.2.1 C.2.2.2.2.1.1 (one_P (cel_9.mp h0)) 0 0 rfl rfl hin d (kk locs hS hz)
theorem r_aaldT (C : Cx x own cc nL D ret rm) {a k m : Nat} {i : Int32} (hb : blk D ks o R H) (hk : ks[k]? = some (10, m)) (ha : a = o + k) (hin : vp_in i 6) {j : Nat} (hj : i.toNatClampNeg = j) (d : dec cc pc .aaload 1 n) (kk : WG x A Q H cs sl n ls (.ref (a + 2 + j) :: rest)) : WG x A Q H cs sl pc ls (.int i :: .ref a :: rest) := by
  subst ha; subst hj
  obtain ⟨p, l, e, R0, s, m0, args, below, meth, c⟩ := x
  obtain ⟨d, rfl⟩ := d
  have h0 := hb k _ hk
  intro locs hS hz
  exact va_aldq C.1 C.2.1 C.2.2.2.2.1.1 (one_P (cel_10.mp h0)) 0 2 rfl rfl hin d (kk locs hS hz)
theorem r_aaldC (C : Cx x own cc nL D ret rm) {a k m : Nat} {i : Int32} (hb : blk D ks o R H) (hk : ks[k]? = some (11, m)) (ha : a = o + k) (hin : vp_in i 3) {j : Nat} (hj : i.toNatClampNeg = j) (d : dec cc pc .aaload 1 n) (kk : WG x A Q H cs sl n ls (.ref (a + 7 + 2 * j) :: rest)) : WG x A Q H cs sl pc ls (.int i :: .ref a :: rest) := by
  subst ha; subst hj
  obtain ⟨p, l, e, R0, s, m0, args, below, meth, c⟩ := x
  obtain ⟨d, rfl⟩ := d
  have h0 := hb k _ hk
  intro locs hS hz
  exact va_aldq C.1 C.2.1 C.2.2.2.2.1.1 (one_P (cel_11.mp h0)) 0 3 rfl rfl hin d (kk locs hS hz)
theorem r_aaldS (C : Cx x own cc nL D ret rm) {a k m : Nat} {i : Int32} (hb : blk D ks o R H) (hk : ks[k]? = some (12, m)) (ha : a = o + k) (hin : vp_in i m) {j : Nat} (hj : i.toNatClampNeg = j) (d : dec cc pc .aaload 1 n) (kk : WG x A Q H cs sl n ls (.ref (a + 1 + 15 * (R k j).toNatClampNeg) :: rest)) : WG x A Q H cs sl pc ls (.int i :: .ref a :: rest) := by
  subst ha; subst hj
  obtain ⟨p, l, e, R0, s, m0, args, below, meth, c⟩ := x
  obtain ⟨d, rfl⟩ := d
  have h0 := hb k _ hk
  intro locs hS hz
  exact va_aldq C.1 C.2.1 C.2.2.2.2.1.1 (one_P (cel_12.mp h0)) 0 4 rfl rfl hin d (kk locs hS hz)
theorem r_iast (C : Cx x own cc nL D ret rm) {a k m : Nat} {i z : Int32} (hb : blk D ks o R H) (hk : ks[k]? = some (8, m)) (ha : a = o + k) (hA : A a) (hin : vp_in i m) {j : Nat} (hj : i.toNatClampNeg = j) (d : dec cc pc .iastore 1 n) (kk : ∀ H1 : Heap, blk D ks o (pt R k j z) H1 → (∀ q, q ≠ a → H1[q]? = H[q]?) → WG x A Q H1 cs sl n ls rest) : WG x A Q H cs sl pc ls (.int z :: .int i :: .ref a :: rest) := by
  subst ha; subst hj
  obtain ⟨p, l, e, R0, s, m0, args, below, meth, c⟩ := x
  obtain ⟨d, rfl⟩ := d
  have h0 := hb k _ hk
  intro locs hS hz
  refine W.iast C.1 C.2.1 (cel_8.mp h0) ((C.2.2.2.2.1.1.2 1 _ rfl).1 m (fun j => .int (R k j))) (fun q => by cases q) (by show ¬ (i < 0 ∨ (arrV _ _ _).slots.size ≤ _); rw [arrV_size]; exact hin) rfl rfl d fun H1 e1 e2 e3 => ?_
  refine kk H1 (blk_put hb hk ?_ e3) e3 _ (hS.put e2 e3 hA) (by rw [e2]; exact hz)
  show H1[o + k]? = some (vp_cell _ _)
  rw [e1, vp_cell_i, vp_cell_i, arrV_store]
  congr 2
  funext j
  by_cases hj : j = i.toNatClampNeg
  · subst hj; simp [updV, upd]
  · simp [updV, upd, hj]
theorem r_cast (C : Cx x own cc nL D ret rm) {a k m : Nat} {i z : Int32} (hb : blk D ks o R H) (hk : ks[k]? = some (9, m)) (ha : a = o + k) (hA : A a) (hin : vp_in i m) {j : Nat} (hj : i.toNatClampNeg = j) (d : dec cc pc .castore 1 n) (kk : ∀ H1 : Heap, blk D ks o (pt R k j (vp_nar .char z)) H1 → (∀ q, q ≠ a → H1[q]? = H[q]?) → WG x A Q H1 cs sl n ls rest) : WG x A Q H cs sl pc ls (.int z :: .int i :: .ref a :: rest) := by
  subst ha; subst hj
  obtain ⟨p, l, e, R0, s, m0, args, below, meth, c⟩ := x
  obtain ⟨d, rfl⟩ := d
  have h0 := hb k _ hk
  intro locs hS hz
  refine W.cast C.1 C.2.1 (cel_9.mp h0) ((C.2.2.2.2.1.1.2 0 _ rfl).1 m (fun j => .int (R k j))) (fun q => by cases q) (by show ¬ (i < 0 ∨ (arrV _ _ _).slots.size ≤ _); rw [arrV_size]; exact hin) rfl rfl d fun H1 e1 e2 e3 => ?_
  refine kk H1 (blk_put hb hk ?_ e3) e3 _ (hS.put e2 e3 hA) (by rw [e2]; exact hz)
  show H1[o + k]? = some (vp_cell _ _)
  rw [e1, vp_cell_i, vp_cell_i, arrV_store]
  congr 2
  funext j
  by_cases hj : j = i.toNatClampNeg
  · subst hj; simp [updV, upd]; rfl
  · simp [updV, upd, hj]
/-- a shelf's row of rivers: the river of the place w is put at the place j -/
theorem r_aastS (C : Cx x own cc nL D ret rm) {a k m b : Nat} {i w : Int32} (hb : blk D ks o R H) (hk : ks[k]? = some (12, m)) (ha : a = o + k) (hA : A a) (hin : vp_in i m) {j : Nat} (hj : i.toNatClampNeg = j) {k2 : Nat} (hk2 : ks[k2]? = some (3, 0)) (hb2 : b = o + k2) (hw : b = a + 1 + 15 * w.toNatClampNeg) (d : dec cc pc .aastore 1 n) (kk : ∀ H1 : Heap, blk D ks o (pt R k j w) H1 → (∀ q, q ≠ a → H1[q]? = H[q]?) → WG x A Q H1 cs sl n ls rest) : WG x A Q H cs sl pc ls (.ref b :: .int i :: .ref a :: rest) := by
  subst ha; subst hj; subst hb2
  obtain ⟨p, l, e, R0, s, m0, args, below, meth, c⟩ := x
  obtain ⟨d, rfl⟩ := d
  have h0 := hb k _ hk
  have hr := hb k2 _ hk2
  intro locs hS hz
  have hlt : i.toNatClampNeg < m := Nat.not_le.mp fun q => hin (Or.inr q)
  have h0' : ¬ i < 0 := fun q => hin (Or.inl q)
  obtain ⟨r', hr', cellV, g1, g2, g3, -⟩ := hr.1
  have hcls := (C.2.2.2.2.1.1.1 3 (RX3, TX3, 4) rfl).2
  obtain ⟨kA, comp, k1, k2', k3, -⟩ := (C.2.2.2.2.1.1.2 4 (D.2 4, .object RX3) rfl).2
  have hcomp : comp = D.1.1 3 := Option.some.inj (k3.symm.trans hcls.1)
  subst hcomp
  obtain ⟨kC, hkC, -⟩ := hcls.2
  refine W.aast C.1 C.2.1 (cel_12.mp h0) (fun q h => by cases h) (fun h => by cases h) k1 k2' rfl hkC ⟨h0', by show _ < (arrV _ _ _).slots.size; rw [arrV_size]; exact hlt⟩ g1 (fun q h => by rw [g3] at h; cases h) (by rw [g2]; exact hkC) (by rw [g2]; exact va_assign hcls) rfl rfl d fun H1 e1 e2 e3 => ?_
  refine kk H1 (blk_put hb hk (cel_12.mpr ?_) e3) e3 _ (hS.put e2 e3 hA) (by rw [e2]; exact hz)
  show H1[o + k]? = some (vp_cell _ _)
  rw [e1, vp_cell_q, vp_cell_q, arrV_store]
  congr 2
  funext q
  by_cases hq : q = i.toNatClampNeg
  · subst hq; simp [updV, upd, va_rf, hw]
  · simp [updV, upd, hq]
/-- Math.max, Math.min through the pool's row idx -/
def MW (own : String) (idx : Nat) (y : MethodName) (b : ByteArray) : Prop := Cond.methodLink own idx y ∈ lwt ∧ Cond.static y ∈ lwt ∧ Cond.initialized "java/lang/Math" ∈ lwt ∧ Cond.code y b 2 (some .int) ∈ lwt
theorem r_mmax (C : Cx x own cc nL D ret rm) {idx : Nat} (w : MW own idx Lib.Math.max.name Lib.Math.max.code) (hl : ls.length = nL) (hR : 1 ≤ rm.frames ∧ (rest.map fun v => v.category).sum + 13 ≤ rm.locals ∧ cs ≤ rm.cells ∧ sl ≤ rm.slots) {a b : Int32} (d : dec cc pc (.invokestatic idx) 3 n) (kk : WG x A Q H cs sl n ls (.int (imax a b) :: rest)) : WG x A Q H cs sl pc ls (.int b :: .int a :: rest) := by
  obtain ⟨p, l, e, R0, s, m0, args, below, meth, c⟩ := x
  obtain ⟨d, rfl⟩ := d
  have hts := kk_args C.2.2.2.2.1 args
  have hR' := C.2.2.2.2.2.2.2
  subst hR'
  intro locs hS hz
  exact va_mmax C.1 C.2.1 (by rw [C.2.2.1, List.size_toArray]; exact hl.symm) C.2.2.2.1 (hts _ w.1) (hts _ w.2.1) (hts _ w.2.2.1) (hts _ w.2.2.2) hR.1 hR.2.1 hR.2.2.1 hR.2.2.2 d (kk locs hS hz)
theorem r_mmin (C : Cx x own cc nL D ret rm) {idx : Nat} (w : MW own idx Lib.Math.min.name Lib.Math.min.code) (hl : ls.length = nL) (hR : 1 ≤ rm.frames ∧ (rest.map fun v => v.category).sum + 13 ≤ rm.locals ∧ cs ≤ rm.cells ∧ sl ≤ rm.slots) {a b : Int32} (d : dec cc pc (.invokestatic idx) 3 n) (kk : WG x A Q H cs sl n ls (.int (imin a b) :: rest)) : WG x A Q H cs sl pc ls (.int b :: .int a :: rest) := by
  obtain ⟨p, l, e, R0, s, m0, args, below, meth, c⟩ := x
  obtain ⟨d, rfl⟩ := d
  have hts := kk_args C.2.2.2.2.1 args
  have hR' := C.2.2.2.2.2.2.2
  subst hR'
  intro locs hS hz
  exact va_mmin C.1 C.2.1 (by rw [C.2.2.1, List.size_toArray]; exact hl.symm) C.2.2.2.1 (hts _ w.1) (hts _ w.2.1) (hts _ w.2.2.1) (hts _ w.2.2.2) hR.1 hR.2.1 hR.2.2.1 hR.2.2.2 d (kk locs hS hz)
/-- a contract -/
def MtP (D : DD) (av : List Value) (P : Heap → Prop) : Array Value → State → Prop := fun v U => v = av.toArray ∧ P U.heap ∧ KK D U
def MtQ (post : Option Value → Heap → Prop) (A : Nat → Prop) (mc : Nat) : Array Value → State → Outcome → State → Prop := fun _ st oc t => ∃ v, oc = .returned v ∧ post v t.heap ∧ t.heap.size = st.heap.size + mc ∧ ∀ q, q < st.heap.size → ¬ A q → t.heap[q]? = st.heap[q]?
def Mt (l : Launch) (D : DD) (y : MethodName) (b : ByteArray) (nL : Nat) (ret : Option FieldType) (fr lo mc ms : Nat) (av : List Value) (P : Heap → Prop) (post : Option Value → Heap → Prop) (A : Nat → Prop) : Prop :=
  Met l y [Cond.code y b nL ret] { frames := fr, cells := mc, slots := ms, locals := lo } (MtP D av P) (MtQ post A mc) mc ms A
def Fin (x : CX) (post : Option Value → Heap → Prop) (A : Nat → Prop) (mc ms : Nat) : State → Prop :=
  match x with
  | (_, _, _, _, s, _, args, below, _, _) => MQ below (MtQ post A mc) args s mc ms A
theorem mt_of {l : Launch} {y : MethodName} {b : ByteArray} {fr lo mc ms : Nat} {av : List Value} {P : Heap → Prop} {post : Option Value → Heap → Prop} (hown : y.cls = own) (hy : plainName y.cls = true) (hls : lg_sl av ++ List.replicate (nL - (lg_sl av).length) .unset = ls)
    (body : ∀ (x : CX) (H : Heap), Cx x own b nL D ret { frames := fr, cells := mc, slots := ms, locals := lo } → P H → WG x A (Fin x post A mc ms) H 0 0 0 ls []) : Mt l D y b nL ret fr lo mc ms av P post A := by
  subst hown; subst hls
  refine Met.ofW (cc := b) (maxL := nL) (ret := ret) hy rfl ?_
  intro p e s m args below meth c s₁ B hml hv
  obtain ⟨rfl, hP, hK⟩ := hv
  have h := body (p, l, e, _, s, m, av.toArray, below, meth, c) s.heap ⟨B.exec, B.bytes, hml, findClass_of_methodNamed B.named, hK, B.returns, B.notSynchronized, rfl⟩ hP [] va_S.rf rfl
  rw [lg_entry_eq]
  exact h
theorem r_iret (C : Cx x own cc nL D (some .int) rm) {post : Option Value → Heap → Prop} {v : Int32} (d : dec cc pc .ireturn 1 n) (hp : post (some (.int v)) H) : WG x A (Fin x post A cs sl) H cs sl pc ls [.int v] := by
  obtain ⟨p, l, e, R0, s, m0, args, below, meth, c⟩ := x
  obtain ⟨d, rfl⟩ := d
  intro locs hS hz
  exact W.iret C.1 C.2.1 C.2.2.2.2.2.1 (fun t ht _ => ⟨_, rfl, by rw [ht]; exact hp, by rw [ht]; exact hz, fun q h1 h2 => by rw [ht]; exact hS.2.1 q h1 h2⟩) hS.2.2 d (hlocks := C.2.2.2.2.2.2.1)
theorem r_zret (C : Cx x own cc nL D (some .boolean) rm) {post : Option Value → Heap → Prop} {v : Int32} (d : dec cc pc .ireturn 1 n) (hv : bl v) (hp : post (some (.int v)) H) : WG x A (Fin x post A cs sl) H cs sl pc ls [.int v] := by
  obtain ⟨p, l, e, R0, s, m0, args, below, meth, c⟩ := x
  obtain ⟨d, rfl⟩ := d
  intro locs hS hz
  exact W.zret C.1 C.2.1 C.2.2.2.2.2.1 (bl_nar hv).1 (fun t ht _ => ⟨_, rfl, by rw [ht]; exact hp, by rw [ht]; exact hz, fun q h1 h2 => by rw [ht]; exact hS.2.1 q h1 h2⟩) hS.2.2 d (hlocks := C.2.2.2.2.2.2.1)
theorem r_vret (C : Cx x own cc nL D none rm) {post : Option Value → Heap → Prop} (d : dec cc pc .return_ 1 n) (hp : post none H) : WG x A (Fin x post A cs sl) H cs sl pc ls [] := by
  obtain ⟨p, l, e, R0, s, m0, args, below, meth, c⟩ := x
  obtain ⟨d, rfl⟩ := d
  intro locs hS hz
  exact W.vret C.1 C.2.1 C.2.2.2.2.2.1 (fun t ht _ => ⟨_, rfl, by rw [ht]; exact hp, by rw [ht]; exact hz, fun q h1 h2 => by rw [ht]; exact hS.2.1 q h1 h2⟩) hS.2.2 d (hlocks := C.2.2.2.2.2.2.1)
theorem r_aret {cn : FieldType} (C : Cx x own cc nL D (some cn) rm) (hcn : (∃ k, cn = .object k) ∨ ∃ t, cn = .array t) {post : Option Value → Heap → Prop} {v : Nat} (d : dec cc pc .areturn 1 n) (hp : post (some (.ref v)) H) : WG x A (Fin x post A cs sl) H cs sl pc ls [.ref v] := by
  obtain ⟨p, l, e, R0, s, m0, args, below, meth, c⟩ := x
  obtain ⟨d, rfl⟩ := d
  intro locs hS hz
  exact W.aret C.1 C.2.1 C.2.2.2.2.2.1 hcn (Or.inr ⟨_, rfl⟩) (fun t ht _ => ⟨_, rfl, by rw [ht]; exact hp, by rw [ht]; exact hz, fun q h1 h2 => by rw [ht]; exact hS.2.1 q h1 h2⟩) hS.2.2 d (hlocks := C.2.2.2.2.2.2.1)
theorem r_aretN {cn : FieldType} (C : Cx x own cc nL D (some cn) rm) (hcn : (∃ k, cn = .object k) ∨ ∃ t, cn = .array t) {post : Option Value → Heap → Prop} (d : dec cc pc .areturn 1 n) (hp : post (some .null) H) : WG x A (Fin x post A cs sl) H cs sl pc ls [.null] := by
  obtain ⟨p, l, e, R0, s, m0, args, below, meth, c⟩ := x
  obtain ⟨d, rfl⟩ := d
  intro locs hS hz
  exact W.aret C.1 C.2.1 C.2.2.2.2.2.1 hcn (Or.inl rfl) (fun t ht _ => ⟨_, rfl, by rw [ht]; exact hp, by rw [ht]; exact hz, fun q h1 h2 => by rw [ht]; exact hS.2.1 q h1 h2⟩) hS.2.2 d (hlocks := C.2.2.2.2.2.2.1)
def psh (v : Option Value) (st : List Value) : List Value := match v with | some z => z :: st | none => st
/-- a call's words: of an instance's method, of a static one -/
def CW (own : String) (idx : Nat) (y : MethodName) (b : ByteArray) (nL : Nat) (ret : Option FieldType) (k : Nat) : Prop :=
  Cond.code y b nL ret ∈ lwt ∧ Cond.initialized y.cls ∈ lwt ∧ (y.cls ≠ "java/lang/invoke/MethodHandle" ∧ y.cls ≠ "java/lang/invoke/VarHandle" ∧ (parseMethodDescriptor y.desc).map (fun d => d.parameters.length) = some k) ∧ goodWord (Cond.code y b nL ret) = true ∧ (Cond.methodLink own idx y ∈ lwt ∨ ∃ host, Cond.methodLinkNest own idx y host ∈ lwt)
def CWV (own : String) (idx : Nat) (y : MethodName) (b : ByteArray) (nL : Nat) (ret : Option FieldType) (k t : Nat) : Prop :=
  CW own idx y b nL ret k ∧ Cond.instanceMethod y ∈ lwt ∧ Cond.selects y.cls y y ∈ lwt ∧ ∃ q : vw_C, vwCl[t]? = some q ∧ q.1 = y.cls
def CWS (own : String) (idx : Nat) (y : MethodName) (b : ByteArray) (nL : Nat) (ret : Option FieldType) (k : Nat) : Prop :=
  CW own idx y b nL ret k ∧ Cond.static y ∈ lwt
theorem cb_of {R : Room} {s : State} {args : Array Value} {idx : Nat} {y : MethodName} {b : ByteArray} {nL : Nat} {ret : Option FieldType} {k fr lo mc ms : Nat} (hK : KK D s) (w : CW own idx y b nL ret k) (hl : Cond.methodLink own idx y ∈ lwt) (hR : fr + 1 ≤ R.frames ∧ 8 + (nL + 11) + lo ≤ R.locals) : CallB R s args own idx y b nL ret [Cond.code y b nL ret] { frames := fr, cells := mc, slots := ms, locals := lo } mc ms k := by
  have hts := kk_args hK args
  refine callB_of k (Ts := lwt) hts (fun w' hw' => ?_) rfl rfl rfl (hts _ w.2.1) (hts _ hl) w.2.2.1 hR
  cases List.mem_singleton.mp hw'
  exact ⟨w.1, good_of_word w.2.2.2.1⟩
theorem cn_of {R : Room} {s : State} {args : Array Value} {idx : Nat} {y : MethodName} {b : ByteArray} {nL : Nat} {ret : Option FieldType} {k fr lo mc ms : Nat} {host : String} (hK : KK D s) (w : CW own idx y b nL ret k) (hl : Cond.methodLinkNest own idx y host ∈ lwt) (hR : fr + 1 ≤ R.frames ∧ 8 + (nL + 11) + lo ≤ R.locals) : va_CN R s args own idx y host b nL ret [Cond.code y b nL ret] { frames := fr, cells := mc, slots := ms, locals := lo } mc ms k := by
  have hts := kk_args hK args
  refine va_cnB k (Ts := lwt) hts (fun w' hw' => ?_) rfl rfl rfl (hK.2.1 _ hl) (hts _ w.2.1) w.2.2.1 hR
  cases List.mem_singleton.mp hw'
  exact ⟨w.1, good_of_word w.2.2.2.1⟩
theorem mtP_blind {av : List Value} {P : Heap → Prop} : FrameBlind (MtP D av P) := fun a U g mk ⟨h1, h2, h3⟩ => ⟨h1, h2, kk_warm (s := U) (U := U.calling g mk a) (State.WarmedH.refl U) h3⟩
/-- behind a call -/
theorem r_goes {idx : Nat} {post : Option Value → Heap → Prop} {A' : Nat → Prop} {mc ms : Nat} {st : List Value} {a : Array Value}
    (hA : ∀ q, A' q → A q)
    (kk : ∀ v H1, post v H1 → H1.size = H.size + mc → (∀ q, q < H.size → ¬ A' q → H1[q]? = H[q]?) → WG x A Q H1 (cs + mc) (sl + ms) (pc + 3) ls (psh v rest))
    (hr : match x with | (p, l, e, R, s, m, args, below, meth, c) => ∀ locs, va_Run p l e R s m args below meth c H locs cs sl mc ms (F0 m pc ls.toArray st) rest (MtQ post A' mc a) A') : WG x A Q H cs sl pc ls st := by
  obtain ⟨p, l, e, R0, s, m0, args, below, meth, c⟩ := x
  intro locs hS hz T hT X
  obtain ⟨v, st₀, t, T', L, h0, X', hL, e1, e2, ⟨v', hv, hp, hz1, hk⟩, stp⟩ := hr locs T hT X
  cases hv
  rw [h0] at hz1 hk
  have hS' : va_S A s.heap T'.heap (locs ++ L) := ⟨by rw [e1, hz1]; exact Nat.le_trans hS.1 (Nat.le_add_right _ _), fun q h1 h2 => by rw [e1, hk q (Nat.lt_of_lt_of_le h1 hS.1) (fun z => h2 (hA q z))]; exact hS.2.1 q h1 h2, fun q hq => by
    rcases List.mem_append.mp hq with h | h
    · exact hS.2.2 q h
    · exact hA _ (hL q h)⟩
  obtain ⟨t2, a1, b1⟩ := kk v T'.heap (by rw [e1]; exact hp) (by rw [e1]; exact hz1) (fun q h1 h2 => by rw [e1]; exact hk q h1 h2) (locs ++ L) hS' (by rw [e1, hz1, hz]; omega) T' rfl X'
  refine ⟨t2, stp t2 ?_, b1⟩
  have hps : v.toList ++ rest = psh v rest := by cases v <;> rfl
  show Steps _ _ _ (T'.setTop { method := m0, pc := pc + 3, locals := ls.toArray, stack := v.toList ++ rest, locked := none }) t2
  rw [hps]
  exact a1
theorem r_callV (C : Cx x own cc nL D ret rm) {idx t k' fr lo mc ms nL' : Nat} {y : MethodName} {b : ByteArray} {ret' : Option FieldType} (w : CWV own idx y b nL' ret' k' t) {a : Nat} {As st : List Value} {P : Heap → Prop} {post : Option Value → Heap → Prop} {A' : Nat → Prop} (M : ∀ l, Mt l D y b nL' ret' fr lo mc ms (.ref a :: As) P post A')
    {k : Nat} (hb : blk D ks o R H) (hk : ks[k]? = some (t, 0)) (ha : a = o + k) (ht : celO t)
    (hP : P H) (hA : ∀ q, A' q → A q) (hst : st = As.reverse ++ .ref a :: rest) (hn : As.length = k') (hl : ls.length = nL) (hre : (rest.map fun v => v.category).sum ≤ 8) (hR : fr + 1 ≤ rm.frames ∧ 8 + (nL' + 11) + lo ≤ rm.locals ∧ cs + mc ≤ rm.cells ∧ sl + ms ≤ rm.slots) (d : dec cc pc (.invokevirtual idx) 3 n)
    (kk : ∀ v H1, post v H1 → H1.size = H.size + mc → (∀ q, q < H.size → ¬ A' q → H1[q]? = H[q]?) → WG x A Q H1 (cs + mc) (sl + ms) n ls (psh v rest)) : WG x A Q H cs sl pc ls st := by
  subst ha; subst hst
  obtain ⟨d, rfl⟩ := d
  refine r_goes (idx := idx) (a := (Value.ref (o + k) :: As).toArray) (post := post) (A' := A') hA kk ?_
  obtain ⟨p, l, e, R0, s, m0, args, below, meth, c⟩ := x
  intro locs
  obtain ⟨w, wi, ws, q, hq, hqc⟩ := w
  have hts := kk_args C.2.2.2.2.1 args
  have hR' := C.2.2.2.2.2.2.2
  subst hR'
  have h0 := hb k _ hk
  rw [ht] at h0
  have hrecv : ∃ cell : Cell, H[o + k]? = some cell ∧ cell.vm.isStatics = false ∧ s.vm.findClass y.cls = some cell.cls := by
    rw [← hqc]
    exact va_recv C.2.2.2.2.1.1 (one_P h0.1) (ci := t) (q0 := 0) hq rfl
  have hF : CallFix p m0 c cc nL s args lwt own := ⟨C.1, C.2.1, C.2.2.1, C.2.2.2.1, hts⟩
  have hpre : PreV s H y.cls (o + k) (MtP D (.ref (o + k) :: As) P) As := ⟨mtP_blind, hrecv, fun U hU hW => ⟨rfl, by rw [hU]; exact hP, kk_warm hW C.2.2.2.2.1⟩⟩
  have hsz : ls.toArray.size = nL := by rw [List.size_toArray]; exact hl
  have hre' : 2 * (F0 m0 pc ls.toArray (As.reverse ++ .ref (o + k) :: rest)).monitorRoom + (rest.map fun v => v.category).sum ≤ 8 := lv_room hre
  rcases w.2.2.2.2 with hlk | ⟨host, hlk⟩
  · exact va_runV hF (M l) ⟨cb_of C.2.2.2.2.1 w hlk ⟨hR.1, hR.2.1⟩, hts _ wi, hts _ ws⟩ hpre rfl hn hsz rfl hre' d ⟨hR.2.2.1, hR.2.2.2⟩
  · exact va_runVN hF (M l) ⟨cn_of C.2.2.2.2.1 w hlk ⟨hR.1, hR.2.1⟩, hts _ wi, hts _ ws⟩ hpre rfl hn hsz rfl hre' d ⟨hR.2.2.1, hR.2.2.2⟩
theorem r_callS (C : Cx x own cc nL D ret rm) {idx k' fr lo mc ms nL' : Nat} {y : MethodName} {b : ByteArray} {ret' : Option FieldType} (w : CWS own idx y b nL' ret' k') {As st : List Value} {P : Heap → Prop} {post : Option Value → Heap → Prop} {A' : Nat → Prop} (M : ∀ l, Mt l D y b nL' ret' fr lo mc ms As P post A')
    (hP : P H) (hA : ∀ q, A' q → A q) (hst : st = As.reverse ++ rest) (hn : As.length = k') (hl : ls.length = nL) (hre : (rest.map fun v => v.category).sum ≤ 8) (hR : fr + 1 ≤ rm.frames ∧ 8 + (nL' + 11) + lo ≤ rm.locals ∧ cs + mc ≤ rm.cells ∧ sl + ms ≤ rm.slots) (d : dec cc pc (.invokestatic idx) 3 n)
    (kk : ∀ v H1, post v H1 → H1.size = H.size + mc → (∀ q, q < H.size → ¬ A' q → H1[q]? = H[q]?) → WG x A Q H1 (cs + mc) (sl + ms) n ls (psh v rest)) : WG x A Q H cs sl pc ls st := by
  subst hst
  obtain ⟨d, rfl⟩ := d
  refine r_goes (idx := idx) (a := As.toArray) (post := post) (A' := A') hA kk ?_
  obtain ⟨p, l, e, R0, s, m0, args, below, meth, c⟩ := x
  intro locs
  obtain ⟨w, wst⟩ := w
  have hts := kk_args C.2.2.2.2.1 args
  have hR' := C.2.2.2.2.2.2.2
  subst hR'
  have hF : CallFix p m0 c cc nL s args lwt own := ⟨C.1, C.2.1, C.2.2.1, C.2.2.2.1, hts⟩
  have hpre : PreS s H (MtP D As P) As := ⟨mtP_blind, fun U hU hW => ⟨rfl, by rw [hU]; exact hP, kk_warm hW C.2.2.2.2.1⟩⟩
  have hsz : ls.toArray.size = nL := by rw [List.size_toArray]; exact hl
  have hre' : 2 * (F0 m0 pc ls.toArray (As.reverse ++ rest)).monitorRoom + (rest.map fun v => v.category).sum ≤ 8 := lv_room hre
  rcases w.2.2.2.2 with hlk | ⟨host, hlk⟩
  · exact va_runS hF (M l) ⟨cb_of C.2.2.2.2.1 w hlk ⟨hR.1, hR.2.1⟩, hts _ wst⟩ hpre rfl hn hsz rfl hre' d ⟨hR.2.2.1, hR.2.2.2⟩
  · exact va_runSN hF (M l) ⟨cn_of C.2.2.2.2.1 w hlk ⟨hR.1, hR.2.1⟩, hts _ wst, trivial⟩ hpre rfl hn hsz rfl hre' d ⟨hR.2.2.1, hR.2.2.2⟩
theorem r_callV0 (C : Cx x own cc nL D ret rm) {idx t k' fr lo nL' : Nat} {y : MethodName} {b : ByteArray} {ret' : Option FieldType} (w : CWV own idx y b nL' ret' k' t) {a : Nat} {As st : List Value} {P : Heap → Prop} {post : Option Value → Heap → Prop} {A' : Nat → Prop} (M : ∀ l, Mt l D y b nL' ret' fr lo 0 0 (.ref a :: As) P post A')
    {k : Nat} (hb : blk D ks o R H) (hk : ks[k]? = some (t, 0)) (ha : a = o + k) (ht : celO t)
    (hP : P H) (hA : ∀ q, A' q → A q) (hst : st = As.reverse ++ .ref a :: rest) (hn : As.length = k') (hl : ls.length = nL) (hre : (rest.map fun v => v.category).sum ≤ 8) (hR : fr + 1 ≤ rm.frames ∧ 8 + (nL' + 11) + lo ≤ rm.locals ∧ cs ≤ rm.cells ∧ sl ≤ rm.slots) (d : dec cc pc (.invokevirtual idx) 3 n)
    (kk : ∀ v H1, post v H1 → (∀ q, ¬ A' q → H1[q]? = H[q]?) → WG x A Q H1 cs sl n ls (psh v rest)) : WG x A Q H cs sl pc ls st :=
  r_callV C w M hb hk ha ht hP hA hst hn hl hre hR d fun v H1 hp hz hq => kk v H1 hp (frame0 hz hq)
theorem r_callS0 (C : Cx x own cc nL D ret rm) {idx k' fr lo nL' : Nat} {y : MethodName} {b : ByteArray} {ret' : Option FieldType} (w : CWS own idx y b nL' ret' k') {As st : List Value} {P : Heap → Prop} {post : Option Value → Heap → Prop} {A' : Nat → Prop} (M : ∀ l, Mt l D y b nL' ret' fr lo 0 0 As P post A')
    (hP : P H) (hA : ∀ q, A' q → A q) (hst : st = As.reverse ++ rest) (hn : As.length = k') (hl : ls.length = nL) (hre : (rest.map fun v => v.category).sum ≤ 8) (hR : fr + 1 ≤ rm.frames ∧ 8 + (nL' + 11) + lo ≤ rm.locals ∧ cs ≤ rm.cells ∧ sl ≤ rm.slots) (d : dec cc pc (.invokestatic idx) 3 n)
    (kk : ∀ v H1, post v H1 → (∀ q, ¬ A' q → H1[q]? = H[q]?) → WG x A Q H1 cs sl n ls (psh v rest)) : WG x A Q H cs sl pc ls st :=
  r_callS C w M hP hA hst hn hl hre hR d fun v H1 hp hz hq => kk v H1 hp (frame0 hz hq)
theorem r_tswI (C : Cx x own cc nL D ret rm) {dflt lo hi : Int} {offs : Array Int} {len : Nat} {z c : Int32} {off : Int} (d : decode cc pc = .ok (.tableswitch dflt lo hi offs, len)) (h : z = c) (h1 : ¬ c.toInt < lo) (h2 : ¬ hi < c.toInt) (ho : offs[(c.toInt - lo).toNat]? = some off) (htg : (pc : Int) + off = (tgt : Int)) (kk : WG x A Q H cs sl tgt ls rest) : WG x A Q H cs sl pc ls (.int z :: rest) := by
  subst h
  obtain ⟨p, l, e, R0, s, m0, args, below, meth, c0⟩ := x
  intro locs hS hz
  exact lv_tableIn C.1 C.2.1 d h1 h2 ho htg (kk locs hS hz)
theorem r_tswO (C : Cx x own cc nL D ret rm) {dflt lo hi : Int} {offs : Array Int} {len : Nat} {z : Int32} (d : decode cc pc = .ok (.tableswitch dflt lo hi offs, len)) (h : z.toInt < lo ∨ hi < z.toInt) (htg : (pc : Int) + dflt = (tgt : Int)) (kk : WG x A Q H cs sl tgt ls rest) : WG x A Q H cs sl pc ls (.int z :: rest) := by
  obtain ⟨p, l, e, R0, s, m0, args, below, meth, c0⟩ := x
  intro locs hS hz
  exact lv_tableOut C.1 C.2.1 d h htg (kk locs hS hz)
theorem r_iaddN (C : Cx x own cc nL D ret rm) {a b : Int32} (d : dec cc pc .iadd 1 n) {na nb : Nat} (ha : a = nI na) (hb : b = nI nb) {nc : Nat} (hc : na + nb = nc) (kk : WG x A Q H cs sl n ls (.int (nI nc) :: rest)) : WG x A Q H cs sl pc ls (.int b :: .int a :: rest) := by
  subst ha; subst hb; subst hc
  refine r_iadd C d ?_
  rw [nI_add]
  exact kk
theorem r_imulN (C : Cx x own cc nL D ret rm) {a b : Int32} (d : dec cc pc .imul 1 n) {na nb : Nat} (ha : a = nI na) (hb : b = nI nb) {nc : Nat} (hc : na * nb = nc) (kk : WG x A Q H cs sl n ls (.int (nI nc) :: rest)) : WG x A Q H cs sl pc ls (.int b :: .int a :: rest) := by
  subst ha; subst hb; subst hc
  refine r_imul C d ?_
  rw [pk_mul]
  exact kk
end RA
end
section
/-! fields' and calls' words, by program -/
theorem inX0 : ∀ w ∈ u_ws RX0 TX0 6, w ∈ lwt := by decide +kernel
theorem inX1 : ∀ w ∈ u_ws RX1 TX1 4, w ∈ lwt := by decide +kernel
theorem inX2 : ∀ w ∈ u_ws RX2 TX2 1, w ∈ lwt := by decide +kernel
theorem inX3 : ∀ w ∈ u_ws RX3 TX3 4, w ∈ lwt := by decide +kernel
theorem inX4 : ∀ w ∈ u_ws RX4 TX4 2, w ∈ lwt := by decide +kernel
theorem inX5 : ∀ w ∈ u_ws RX5 TX5 8, w ∈ lwt := by decide +kernel
theorem inX6 : ∀ w ∈ u_ws RX6 TX6 11, w ∈ lwt := by decide +kernel
theorem inX7 : ∀ w ∈ u_ws RX7 TX7 26, w ∈ lwt := by decide +kernel
theorem fw_X6_9 : FW RX6 9 6 0 := ⟨RX6, TX6, 11, rfl, inX6, by decide, rfl, Or.inl (wd_of 369 (by decide +kernel) (by decide +kernel))⟩
theorem fw_X6_16 : FW RX6 16 6 2 := ⟨RX6, TX6, 11, rfl, inX6, by decide, rfl, Or.inl (wd_of 371 (by decide +kernel) (by decide +kernel))⟩
theorem fw_X6_24 : FW RX6 24 6 3 := ⟨RX6, TX6, 11, rfl, inX6, by decide, rfl, Or.inl (wd_of 372 (by decide +kernel) (by decide +kernel))⟩
theorem fw_X6_28 : FW RX6 28 6 4 := ⟨RX6, TX6, 11, rfl, inX6, by decide, rfl, Or.inl (wd_of 373 (by decide +kernel) (by decide +kernel))⟩
theorem fw_X6_34 : FW RX6 34 6 5 := ⟨RX6, TX6, 11, rfl, inX6, by decide, rfl, Or.inl (wd_of 374 (by decide +kernel) (by decide +kernel))⟩
theorem fw_X6_42 : FW RX6 42 6 6 := ⟨RX6, TX6, 11, rfl, inX6, by decide, rfl, Or.inl (wd_of 375 (by decide +kernel) (by decide +kernel))⟩
theorem fw_X6_46 : FW RX6 46 6 7 := ⟨RX6, TX6, 11, rfl, inX6, by decide, rfl, Or.inl (wd_of 376 (by decide +kernel) (by decide +kernel))⟩
theorem fw_X6_52 : FW RX6 52 6 8 := ⟨RX6, TX6, 11, rfl, inX6, by decide, rfl, Or.inl (wd_of 377 (by decide +kernel) (by decide +kernel))⟩
theorem fw_X6_56 : FW RX6 56 6 9 := ⟨RX6, TX6, 11, rfl, inX6, by decide, rfl, Or.inl (wd_of 378 (by decide +kernel) (by decide +kernel))⟩
theorem fw_X6_60 : FW RX6 60 6 10 := ⟨RX6, TX6, 11, rfl, inX6, by decide, rfl, Or.inl (wd_of 379 (by decide +kernel) (by decide +kernel))⟩
theorem fw_X6_79 : FW RX6 79 6 1 := ⟨RX6, TX6, 11, rfl, inX6, by decide, rfl, Or.inl (wd_of 370 (by decide +kernel) (by decide +kernel))⟩
theorem fw_X6_92 : FW RX6 92 1 3 := ⟨RX1, TX1, 4, rfl, inX1, by decide, rfl, Or.inr ⟨"PaidToGoAway", wd_of 359 (by decide +kernel) (by decide +kernel)⟩⟩
theorem fw_X6_95 : FW RX6 95 4 1 := ⟨RX4, TX4, 2, rfl, inX4, by decide, rfl, Or.inr ⟨"PaidToGoAway", wd_of 342 (by decide +kernel) (by decide +kernel)⟩⟩
theorem fw_X6_100 : FW RX6 100 5 2 := ⟨RX5, TX5, 8, rfl, inX5, by decide, rfl, Or.inr ⟨"PaidToGoAway", wd_of 131 (by decide +kernel) (by decide +kernel)⟩⟩
theorem fw_X6_105 : FW RX6 105 5 3 := ⟨RX5, TX5, 8, rfl, inX5, by decide, rfl, Or.inr ⟨"PaidToGoAway", wd_of 135 (by decide +kernel) (by decide +kernel)⟩⟩
theorem fw_X6_108 : FW RX6 108 5 4 := ⟨RX5, TX5, 8, rfl, inX5, by decide, rfl, Or.inr ⟨"PaidToGoAway", wd_of 138 (by decide +kernel) (by decide +kernel)⟩⟩
theorem fw_X6_111 : FW RX6 111 5 5 := ⟨RX5, TX5, 8, rfl, inX5, by decide, rfl, Or.inr ⟨"PaidToGoAway", wd_of 141 (by decide +kernel) (by decide +kernel)⟩⟩
theorem fw_X6_114 : FW RX6 114 5 6 := ⟨RX5, TX5, 8, rfl, inX5, by decide, rfl, Or.inr ⟨"PaidToGoAway", wd_of 144 (by decide +kernel) (by decide +kernel)⟩⟩
theorem fw_X6_117 : FW RX6 117 5 1 := ⟨RX5, TX5, 8, rfl, inX5, by decide, rfl, Or.inr ⟨"PaidToGoAway", wd_of 126 (by decide +kernel) (by decide +kernel)⟩⟩
theorem fw_X6_121 : FW RX6 121 5 7 := ⟨RX5, TX5, 8, rfl, inX5, by decide, rfl, Or.inr ⟨"PaidToGoAway", wd_of 148 (by decide +kernel) (by decide +kernel)⟩⟩
theorem fw_X6_128 : FW RX6 128 0 2 := ⟨RX0, TX0, 6, rfl, inX0, by decide, rfl, Or.inr ⟨"PaidToGoAway", wd_of 177 (by decide +kernel) (by decide +kernel)⟩⟩
theorem fw_X6_133 : FW RX6 133 0 3 := ⟨RX0, TX0, 6, rfl, inX0, by decide, rfl, Or.inr ⟨"PaidToGoAway", wd_of 180 (by decide +kernel) (by decide +kernel)⟩⟩
theorem fw_X6_136 : FW RX6 136 0 1 := ⟨RX0, TX0, 6, rfl, inX0, by decide, rfl, Or.inr ⟨"PaidToGoAway", wd_of 175 (by decide +kernel) (by decide +kernel)⟩⟩
theorem fw_X6_153 : FW RX6 153 3 3 := ⟨RX3, TX3, 4, rfl, inX3, by decide, rfl, Or.inr ⟨"PaidToGoAway", wd_of 201 (by decide +kernel) (by decide +kernel)⟩⟩
theorem fw_X0_9 : FW RX0 9 0 5 := ⟨RX0, TX0, 6, rfl, inX0, by decide, rfl, Or.inl (wd_of 183 (by decide +kernel) (by decide +kernel))⟩
theorem fw_X0_15 : FW RX0 15 0 0 := ⟨RX0, TX0, 6, rfl, inX0, by decide, rfl, Or.inl (wd_of 171 (by decide +kernel) (by decide +kernel))⟩
theorem fw_X0_19 : FW RX0 19 0 1 := ⟨RX0, TX0, 6, rfl, inX0, by decide, rfl, Or.inl (wd_of 173 (by decide +kernel) (by decide +kernel))⟩
theorem fw_X0_22 : FW RX0 22 0 2 := ⟨RX0, TX0, 6, rfl, inX0, by decide, rfl, Or.inl (wd_of 176 (by decide +kernel) (by decide +kernel))⟩
theorem fw_X0_26 : FW RX0 26 0 3 := ⟨RX0, TX0, 6, rfl, inX0, by decide, rfl, Or.inl (wd_of 179 (by decide +kernel) (by decide +kernel))⟩
theorem fw_X0_39 : FW RX0 39 5 2 := ⟨RX5, TX5, 8, rfl, inX5, by decide, rfl, Or.inr ⟨"PaidToGoAway", wd_of 129 (by decide +kernel) (by decide +kernel)⟩⟩
theorem fw_X0_48 : FW RX0 48 0 4 := ⟨RX0, TX0, 6, rfl, inX0, by decide, rfl, Or.inl (wd_of 182 (by decide +kernel) (by decide +kernel))⟩
theorem fw_X0_55 : FW RX0 55 5 3 := ⟨RX5, TX5, 8, rfl, inX5, by decide, rfl, Or.inr ⟨"PaidToGoAway", wd_of 136 (by decide +kernel) (by decide +kernel)⟩⟩
theorem fw_X0_58 : FW RX0 58 5 1 := ⟨RX5, TX5, 8, rfl, inX5, by decide, rfl, Or.inr ⟨"PaidToGoAway", wd_of 127 (by decide +kernel) (by decide +kernel)⟩⟩
theorem fw_X1_9 : FW RX1 9 1 0 := ⟨RX1, TX1, 4, rfl, inX1, by decide, rfl, Or.inl (wd_of 355 (by decide +kernel) (by decide +kernel))⟩
theorem fw_X1_15 : FW RX1 15 1 1 := ⟨RX1, TX1, 4, rfl, inX1, by decide, rfl, Or.inl (wd_of 356 (by decide +kernel) (by decide +kernel))⟩
theorem fw_X1_18 : FW RX1 18 1 2 := ⟨RX1, TX1, 4, rfl, inX1, by decide, rfl, Or.inl (wd_of 357 (by decide +kernel) (by decide +kernel))⟩
theorem fw_X1_21 : FW RX1 21 1 3 := ⟨RX1, TX1, 4, rfl, inX1, by decide, rfl, Or.inl (wd_of 358 (by decide +kernel) (by decide +kernel))⟩
theorem fw_X1_37 : FW RX1 37 5 3 := ⟨RX5, TX5, 8, rfl, inX5, by decide, rfl, Or.inr ⟨"PaidToGoAway", wd_of 133 (by decide +kernel) (by decide +kernel)⟩⟩
theorem fw_X2_11 : FW RX2 11 2 0 := ⟨RX2, TX2, 1, rfl, inX2, by decide, rfl, Or.inl (wd_of 98 (by decide +kernel) (by decide +kernel))⟩
theorem fw_X3_11 : FW RX3 11 3 0 := ⟨RX3, TX3, 4, rfl, inX3, by decide, rfl, Or.inl (wd_of 197 (by decide +kernel) (by decide +kernel))⟩
theorem fw_X3_19 : FW RX3 19 3 1 := ⟨RX3, TX3, 4, rfl, inX3, by decide, rfl, Or.inl (wd_of 198 (by decide +kernel) (by decide +kernel))⟩
theorem fw_X3_32 : FW RX3 32 3 2 := ⟨RX3, TX3, 4, rfl, inX3, by decide, rfl, Or.inl (wd_of 199 (by decide +kernel) (by decide +kernel))⟩
theorem fw_X3_36 : FW RX3 36 3 3 := ⟨RX3, TX3, 4, rfl, inX3, by decide, rfl, Or.inl (wd_of 200 (by decide +kernel) (by decide +kernel))⟩
theorem fw_X3_39 : FW RX3 39 5 0 := ⟨RX5, TX5, 8, rfl, inX5, by decide, rfl, Or.inr ⟨"PaidToGoAway", wd_of 123 (by decide +kernel) (by decide +kernel)⟩⟩
theorem fw_X3_43 : FW RX3 43 0 0 := ⟨RX0, TX0, 6, rfl, inX0, by decide, rfl, Or.inr ⟨"PaidToGoAway", wd_of 172 (by decide +kernel) (by decide +kernel)⟩⟩
theorem fw_X3_48 : FW RX3 48 5 1 := ⟨RX5, TX5, 8, rfl, inX5, by decide, rfl, Or.inr ⟨"PaidToGoAway", wd_of 125 (by decide +kernel) (by decide +kernel)⟩⟩
theorem fw_X3_55 : FW RX3 55 5 2 := ⟨RX5, TX5, 8, rfl, inX5, by decide, rfl, Or.inr ⟨"PaidToGoAway", wd_of 130 (by decide +kernel) (by decide +kernel)⟩⟩
theorem fw_X3_58 : FW RX3 58 5 3 := ⟨RX5, TX5, 8, rfl, inX5, by decide, rfl, Or.inr ⟨"PaidToGoAway", wd_of 134 (by decide +kernel) (by decide +kernel)⟩⟩
theorem fw_X3_61 : FW RX3 61 5 4 := ⟨RX5, TX5, 8, rfl, inX5, by decide, rfl, Or.inr ⟨"PaidToGoAway", wd_of 139 (by decide +kernel) (by decide +kernel)⟩⟩
theorem fw_X3_64 : FW RX3 64 5 5 := ⟨RX5, TX5, 8, rfl, inX5, by decide, rfl, Or.inr ⟨"PaidToGoAway", wd_of 142 (by decide +kernel) (by decide +kernel)⟩⟩
theorem fw_X3_67 : FW RX3 67 5 6 := ⟨RX5, TX5, 8, rfl, inX5, by decide, rfl, Or.inr ⟨"PaidToGoAway", wd_of 145 (by decide +kernel) (by decide +kernel)⟩⟩
theorem fw_X3_70 : FW RX3 70 5 7 := ⟨RX5, TX5, 8, rfl, inX5, by decide, rfl, Or.inr ⟨"PaidToGoAway", wd_of 147 (by decide +kernel) (by decide +kernel)⟩⟩
theorem fw_X3_76 : FW RX3 76 0 1 := ⟨RX0, TX0, 6, rfl, inX0, by decide, rfl, Or.inr ⟨"PaidToGoAway", wd_of 174 (by decide +kernel) (by decide +kernel)⟩⟩
theorem fw_X3_79 : FW RX3 79 0 2 := ⟨RX0, TX0, 6, rfl, inX0, by decide, rfl, Or.inr ⟨"PaidToGoAway", wd_of 178 (by decide +kernel) (by decide +kernel)⟩⟩
theorem fw_X3_82 : FW RX3 82 0 3 := ⟨RX0, TX0, 6, rfl, inX0, by decide, rfl, Or.inr ⟨"PaidToGoAway", wd_of 181 (by decide +kernel) (by decide +kernel)⟩⟩
theorem fw_X4_15 : FW RX4 15 4 0 := ⟨RX4, TX4, 2, rfl, inX4, by decide, rfl, Or.inl (wd_of 340 (by decide +kernel) (by decide +kernel))⟩
theorem fw_X4_22 : FW RX4 22 4 1 := ⟨RX4, TX4, 2, rfl, inX4, by decide, rfl, Or.inl (wd_of 341 (by decide +kernel) (by decide +kernel))⟩
theorem fw_X5_9 : FW RX5 9 5 0 := ⟨RX5, TX5, 8, rfl, inX5, by decide, rfl, Or.inl (wd_of 122 (by decide +kernel) (by decide +kernel))⟩
theorem fw_X5_15 : FW RX5 15 5 1 := ⟨RX5, TX5, 8, rfl, inX5, by decide, rfl, Or.inl (wd_of 124 (by decide +kernel) (by decide +kernel))⟩
theorem fw_X5_18 : FW RX5 18 5 2 := ⟨RX5, TX5, 8, rfl, inX5, by decide, rfl, Or.inl (wd_of 128 (by decide +kernel) (by decide +kernel))⟩
theorem fw_X5_22 : FW RX5 22 5 3 := ⟨RX5, TX5, 8, rfl, inX5, by decide, rfl, Or.inl (wd_of 132 (by decide +kernel) (by decide +kernel))⟩
theorem fw_X5_25 : FW RX5 25 5 4 := ⟨RX5, TX5, 8, rfl, inX5, by decide, rfl, Or.inl (wd_of 137 (by decide +kernel) (by decide +kernel))⟩
theorem fw_X5_28 : FW RX5 28 5 5 := ⟨RX5, TX5, 8, rfl, inX5, by decide, rfl, Or.inl (wd_of 140 (by decide +kernel) (by decide +kernel))⟩
theorem fw_X5_31 : FW RX5 31 5 6 := ⟨RX5, TX5, 8, rfl, inX5, by decide, rfl, Or.inl (wd_of 143 (by decide +kernel) (by decide +kernel))⟩
theorem fw_X5_34 : FW RX5 34 5 7 := ⟨RX5, TX5, 8, rfl, inX5, by decide, rfl, Or.inl (wd_of 146 (by decide +kernel) (by decide +kernel))⟩
theorem fw_X7_7 : FW RX7 7 7 1 := ⟨RX7, TX7, 26, rfl, inX7, by decide, rfl, Or.inl (wd_of 724 (by decide +kernel) (by decide +kernel))⟩
theorem fw_X7_13 : FW RX7 13 7 3 := ⟨RX7, TX7, 26, rfl, inX7, by decide, rfl, Or.inl (wd_of 726 (by decide +kernel) (by decide +kernel))⟩
theorem fw_X7_16 : FW RX7 16 7 8 := ⟨RX7, TX7, 26, rfl, inX7, by decide, rfl, Or.inl (wd_of 731 (by decide +kernel) (by decide +kernel))⟩
theorem fw_X7_19 : FW RX7 19 7 9 := ⟨RX7, TX7, 26, rfl, inX7, by decide, rfl, Or.inl (wd_of 732 (by decide +kernel) (by decide +kernel))⟩
theorem fw_X7_22 : FW RX7 22 7 13 := ⟨RX7, TX7, 26, rfl, inX7, by decide, rfl, Or.inl (wd_of 736 (by decide +kernel) (by decide +kernel))⟩
theorem fw_X7_25 : FW RX7 25 7 14 := ⟨RX7, TX7, 26, rfl, inX7, by decide, rfl, Or.inl (wd_of 737 (by decide +kernel) (by decide +kernel))⟩
theorem fw_X7_28 : FW RX7 28 7 15 := ⟨RX7, TX7, 26, rfl, inX7, by decide, rfl, Or.inl (wd_of 738 (by decide +kernel) (by decide +kernel))⟩
theorem fw_X7_31 : FW RX7 31 7 16 := ⟨RX7, TX7, 26, rfl, inX7, by decide, rfl, Or.inl (wd_of 739 (by decide +kernel) (by decide +kernel))⟩
theorem fw_X7_34 : FW RX7 34 7 17 := ⟨RX7, TX7, 26, rfl, inX7, by decide, rfl, Or.inl (wd_of 740 (by decide +kernel) (by decide +kernel))⟩
theorem fw_X7_37 : FW RX7 37 7 19 := ⟨RX7, TX7, 26, rfl, inX7, by decide, rfl, Or.inl (wd_of 742 (by decide +kernel) (by decide +kernel))⟩
theorem fw_X7_40 : FW RX7 40 7 22 := ⟨RX7, TX7, 26, rfl, inX7, by decide, rfl, Or.inl (wd_of 745 (by decide +kernel) (by decide +kernel))⟩
theorem fw_X7_43 : FW RX7 43 7 23 := ⟨RX7, TX7, 26, rfl, inX7, by decide, rfl, Or.inl (wd_of 746 (by decide +kernel) (by decide +kernel))⟩
theorem fw_X7_46 : FW RX7 46 7 24 := ⟨RX7, TX7, 26, rfl, inX7, by decide, rfl, Or.inl (wd_of 747 (by decide +kernel) (by decide +kernel))⟩
theorem fw_X7_49 : FW RX7 49 7 10 := ⟨RX7, TX7, 26, rfl, inX7, by decide, rfl, Or.inl (wd_of 733 (by decide +kernel) (by decide +kernel))⟩
theorem fw_X7_53 : FW RX7 53 7 11 := ⟨RX7, TX7, 26, rfl, inX7, by decide, rfl, Or.inl (wd_of 734 (by decide +kernel) (by decide +kernel))⟩
theorem fw_X7_56 : FW RX7 56 7 12 := ⟨RX7, TX7, 26, rfl, inX7, by decide, rfl, Or.inl (wd_of 735 (by decide +kernel) (by decide +kernel))⟩
theorem fw_X7_71 : FW RX7 71 7 0 := ⟨RX7, TX7, 26, rfl, inX7, by decide, rfl, Or.inl (wd_of 723 (by decide +kernel) (by decide +kernel))⟩
theorem fw_X7_74 : FW RX7 74 7 2 := ⟨RX7, TX7, 26, rfl, inX7, by decide, rfl, Or.inl (wd_of 725 (by decide +kernel) (by decide +kernel))⟩
theorem fw_X7_81 : FW RX7 81 7 5 := ⟨RX7, TX7, 26, rfl, inX7, by decide, rfl, Or.inl (wd_of 728 (by decide +kernel) (by decide +kernel))⟩
theorem fw_X7_88 : FW RX7 88 7 6 := ⟨RX7, TX7, 26, rfl, inX7, by decide, rfl, Or.inl (wd_of 729 (by decide +kernel) (by decide +kernel))⟩
theorem fw_X7_91 : FW RX7 91 7 7 := ⟨RX7, TX7, 26, rfl, inX7, by decide, rfl, Or.inl (wd_of 730 (by decide +kernel) (by decide +kernel))⟩
theorem fw_X7_94 : FW RX7 94 7 4 := ⟨RX7, TX7, 26, rfl, inX7, by decide, rfl, Or.inl (wd_of 727 (by decide +kernel) (by decide +kernel))⟩
theorem fw_X7_104 : FW RX7 104 7 21 := ⟨RX7, TX7, 26, rfl, inX7, by decide, rfl, Or.inl (wd_of 744 (by decide +kernel) (by decide +kernel))⟩
theorem fw_X7_107 : FW RX7 107 7 18 := ⟨RX7, TX7, 26, rfl, inX7, by decide, rfl, Or.inl (wd_of 741 (by decide +kernel) (by decide +kernel))⟩
theorem fw_X7_110 : FW RX7 110 7 20 := ⟨RX7, TX7, 26, rfl, inX7, by decide, rfl, Or.inl (wd_of 743 (by decide +kernel) (by decide +kernel))⟩
theorem fw_X7_141 : FW RX7 141 7 25 := ⟨RX7, TX7, 26, rfl, inX7, by decide, rfl, Or.inl (wd_of 748 (by decide +kernel) (by decide +kernel))⟩
theorem fp_0_0 : FP 0 0 .boolean := ⟨RX0, TX0, 6, tyX0, rfl, tyX0_ok, nmX0, rfl, by decide +kernel, fun _ _ _ => rfl, fun _ _ => Nat.le_of_ble_eq_true rfl, fun v z hz h => ⟨hz rfl, h.2⟩, celO_0⟩
theorem fp_0_1 : FP 0 1 .boolean := ⟨RX0, TX0, 6, tyX0, rfl, tyX0_ok, nmX0, rfl, by decide +kernel, fun _ _ _ => rfl, fun _ _ => Nat.le_of_ble_eq_true rfl, fun v z hz h => ⟨h.1, hz rfl⟩, celO_0⟩
theorem fp_0_2 : FP 0 2 .int := ⟨RX0, TX0, 6, tyX0, rfl, tyX0_ok, nmX0, rfl, by decide +kernel, fun _ _ _ => rfl, fun _ _ => Nat.le_of_ble_eq_true rfl, fun v z hz h => h, celO_0⟩
theorem fp_0_3 : FP 0 3 .int := ⟨RX0, TX0, 6, tyX0, rfl, tyX0_ok, nmX0, rfl, by decide +kernel, fun _ _ _ => rfl, fun _ _ => Nat.le_of_ble_eq_true rfl, fun v z hz h => h, celO_0⟩
theorem fp_0_4 : FP 0 4 .int := ⟨RX0, TX0, 6, tyX0, rfl, tyX0_ok, nmX0, rfl, by decide +kernel, fun _ _ _ => rfl, fun _ _ => Nat.le_of_ble_eq_true rfl, fun v z hz h => h, celO_0⟩
theorem fp_1_3 : FP 1 3 .int := ⟨RX1, TX1, 4, tyX1, rfl, tyX1_ok, nmX1, rfl, by decide +kernel, fun _ _ _ => rfl, fun _ _ => Nat.le_of_ble_eq_true rfl, fun v z hz h => trivial, celO_1⟩
theorem fp_3_2 : FP 3 2 .int := ⟨RX3, TX3, 4, tyX3, rfl, tyX3_ok, nmX3, rfl, by decide +kernel, fun _ _ _ => rfl, fun _ _ => Nat.le_of_ble_eq_true rfl, fun v z hz h => trivial, celO_3⟩
theorem fp_3_3 : FP 3 3 .int := ⟨RX3, TX3, 4, tyX3, rfl, tyX3_ok, nmX3, rfl, by decide +kernel, fun _ _ _ => rfl, fun _ _ => Nat.le_of_ble_eq_true rfl, fun v z hz h => trivial, celO_3⟩
theorem fp_4_1 : FP 4 1 .int := ⟨RX4, TX4, 2, tyX4, rfl, tyX4_ok, nmX4, rfl, by decide +kernel, fun _ _ _ => rfl, fun _ _ => Nat.le_of_ble_eq_true rfl, fun v z hz h => trivial, celO_4⟩
theorem fp_5_0 : FP 5 0 .boolean := ⟨RX5, TX5, 8, tyX5, rfl, tyX5_ok, nmX5, rfl, by decide +kernel, fun _ _ _ => rfl, fun _ _ => Nat.le_of_ble_eq_true rfl, fun v z hz h => ⟨hz rfl, h.2⟩, celO_5⟩
theorem fp_5_1 : FP 5 1 .boolean := ⟨RX5, TX5, 8, tyX5, rfl, tyX5_ok, nmX5, rfl, by decide +kernel, fun _ _ _ => rfl, fun _ _ => Nat.le_of_ble_eq_true rfl, fun v z hz h => ⟨h.1, hz rfl⟩, celO_5⟩
theorem fp_5_2 : FP 5 2 .int := ⟨RX5, TX5, 8, tyX5, rfl, tyX5_ok, nmX5, rfl, by decide +kernel, fun _ _ _ => rfl, fun _ _ => Nat.le_of_ble_eq_true rfl, fun v z hz h => h, celO_5⟩
theorem fp_5_3 : FP 5 3 .int := ⟨RX5, TX5, 8, tyX5, rfl, tyX5_ok, nmX5, rfl, by decide +kernel, fun _ _ _ => rfl, fun _ _ => Nat.le_of_ble_eq_true rfl, fun v z hz h => h, celO_5⟩
theorem fp_5_4 : FP 5 4 .int := ⟨RX5, TX5, 8, tyX5, rfl, tyX5_ok, nmX5, rfl, by decide +kernel, fun _ _ _ => rfl, fun _ _ => Nat.le_of_ble_eq_true rfl, fun v z hz h => h, celO_5⟩
theorem fp_5_5 : FP 5 5 .int := ⟨RX5, TX5, 8, tyX5, rfl, tyX5_ok, nmX5, rfl, by decide +kernel, fun _ _ _ => rfl, fun _ _ => Nat.le_of_ble_eq_true rfl, fun v z hz h => h, celO_5⟩
theorem fp_5_6 : FP 5 6 .int := ⟨RX5, TX5, 8, tyX5, rfl, tyX5_ok, nmX5, rfl, by decide +kernel, fun _ _ _ => rfl, fun _ _ => Nat.le_of_ble_eq_true rfl, fun v z hz h => h, celO_5⟩
theorem fp_5_7 : FP 5 7 .int := ⟨RX5, TX5, 8, tyX5, rfl, tyX5_ok, nmX5, rfl, by decide +kernel, fun _ _ _ => rfl, fun _ _ => Nat.le_of_ble_eq_true rfl, fun v z hz h => h, celO_5⟩
theorem fp_6_1 : FP 6 1 .int := ⟨RX6, TX6, 11, tyX6, rfl, tyX6_ok, nmX6, rfl, by decide +kernel, fun _ _ _ => rfl, fun _ _ => Nat.le_of_ble_eq_true rfl, fun v z hz h => trivial, celO_6⟩
theorem fp_7_0 : FP 7 0 .int := ⟨RX7, TX7, 26, tyX7, rfl, tyX7_ok, nmX7, rfl, by decide +kernel, fun _ _ _ => rfl, fun _ _ => Nat.le_of_ble_eq_true rfl, fun v z hz h => trivial, celO_7⟩
theorem fp_7_2 : FP 7 2 .int := ⟨RX7, TX7, 26, tyX7, rfl, tyX7_ok, nmX7, rfl, by decide +kernel, fun _ _ _ => rfl, fun _ _ => Nat.le_of_ble_eq_true rfl, fun v z hz h => trivial, celO_7⟩
theorem fp_7_4 : FP 7 4 .int := ⟨RX7, TX7, 26, tyX7, rfl, tyX7_ok, nmX7, rfl, by decide +kernel, fun _ _ _ => rfl, fun _ _ => Nat.le_of_ble_eq_true rfl, fun v z hz h => trivial, celO_7⟩
theorem fp_7_5 : FP 7 5 .int := ⟨RX7, TX7, 26, tyX7, rfl, tyX7_ok, nmX7, rfl, by decide +kernel, fun _ _ _ => rfl, fun _ _ => Nat.le_of_ble_eq_true rfl, fun v z hz h => trivial, celO_7⟩
theorem fp_7_6 : FP 7 6 .int := ⟨RX7, TX7, 26, tyX7, rfl, tyX7_ok, nmX7, rfl, by decide +kernel, fun _ _ _ => rfl, fun _ _ => Nat.le_of_ble_eq_true rfl, fun v z hz h => trivial, celO_7⟩
theorem fp_7_7 : FP 7 7 .int := ⟨RX7, TX7, 26, tyX7, rfl, tyX7_ok, nmX7, rfl, by decide +kernel, fun _ _ _ => rfl, fun _ _ => Nat.le_of_ble_eq_true rfl, fun v z hz h => trivial, celO_7⟩
theorem fp_7_10 : FP 7 10 .int := ⟨RX7, TX7, 26, tyX7, rfl, tyX7_ok, nmX7, rfl, by decide +kernel, fun _ _ _ => rfl, fun _ _ => Nat.le_of_ble_eq_true rfl, fun v z hz h => trivial, celO_7⟩
theorem fp_7_11 : FP 7 11 .int := ⟨RX7, TX7, 26, tyX7, rfl, tyX7_ok, nmX7, rfl, by decide +kernel, fun _ _ _ => rfl, fun _ _ => Nat.le_of_ble_eq_true rfl, fun v z hz h => trivial, celO_7⟩
theorem fp_7_12 : FP 7 12 .int := ⟨RX7, TX7, 26, tyX7, rfl, tyX7_ok, nmX7, rfl, by decide +kernel, fun _ _ _ => rfl, fun _ _ => Nat.le_of_ble_eq_true rfl, fun v z hz h => trivial, celO_7⟩
theorem fp_7_18 : FP 7 18 .int := ⟨RX7, TX7, 26, tyX7, rfl, tyX7_ok, nmX7, rfl, by decide +kernel, fun _ _ _ => rfl, fun _ _ => Nat.le_of_ble_eq_true rfl, fun v z hz h => trivial, celO_7⟩
theorem fp_7_20 : FP 7 20 .int := ⟨RX7, TX7, 26, tyX7, rfl, tyX7_ok, nmX7, rfl, by decide +kernel, fun _ _ _ => rfl, fun _ _ => Nat.le_of_ble_eq_true rfl, fun v z hz h => trivial, celO_7⟩
theorem fp_7_21 : FP 7 21 .int := ⟨RX7, TX7, 26, tyX7, rfl, tyX7_ok, nmX7, rfl, by decide +kernel, fun _ _ _ => rfl, fun _ _ => Nat.le_of_ble_eq_true rfl, fun v z hz h => trivial, celO_7⟩
theorem fp_7_25 : FP 7 25 .int := ⟨RX7, TX7, 26, tyX7, rfl, tyX7_ok, nmX7, rfl, by decide +kernel, fun _ _ _ => rfl, fun _ _ => Nat.le_of_ble_eq_true rfl, fun v z hz h => trivial, celO_7⟩
theorem cw_X6_20 : CWS RX6 20 yX6_firstRiver cX6_firstRiver 1 (some (.object "PaidToGoAway$River")) 0 := ⟨⟨wd_of 106 (by decide +kernel) (by decide +kernel), wd_of 71 (by decide +kernel) (by decide +kernel), by decide +kernel, by decide +kernel, Or.inl (wd_of 104 (by decide +kernel) (by decide +kernel))⟩, wd_of 105 (by decide +kernel) (by decide +kernel)⟩
theorem cw_X6_75 : CWV RX6 75 yX2_read cX2_read 8 (some .int) 3 2 := ⟨⟨wd_of 268 (by decide +kernel) (by decide +kernel), wd_of 72 (by decide +kernel) (by decide +kernel), by decide +kernel, by decide +kernel, Or.inr ⟨"PaidToGoAway", wd_of 265 (by decide +kernel) (by decide +kernel)⟩⟩, wd_of 267 (by decide +kernel) (by decide +kernel), wd_of 0 (by decide +kernel) (by decide +kernel), (RX2, TX2, 1), rfl, rfl⟩
theorem cw_X6_82 : CWV RX6 82 yX3_townsThere cX3_townsThere 3 (some .int) 0 3 := ⟨⟨wd_of 303 (by decide +kernel) (by decide +kernel), wd_of 73 (by decide +kernel) (by decide +kernel), by decide +kernel, by decide +kernel, Or.inr ⟨"PaidToGoAway", wd_of 419 (by decide +kernel) (by decide +kernel)⟩⟩, wd_of 302 (by decide +kernel) (by decide +kernel), wd_of 5 (by decide +kernel) (by decide +kernel), (RX3, TX3, 4), rfl, rfl⟩
theorem cw_X6_85 : CWV RX6 85 yX3_crewsThere cX3_crewsThere 3 (some .int) 0 3 := ⟨⟨wd_of 311 (by decide +kernel) (by decide +kernel), wd_of 73 (by decide +kernel) (by decide +kernel), by decide +kernel, by decide +kernel, Or.inr ⟨"PaidToGoAway", wd_of 420 (by decide +kernel) (by decide +kernel)⟩⟩, wd_of 310 (by decide +kernel) (by decide +kernel), wd_of 7 (by decide +kernel) (by decide +kernel), (RX3, TX3, 4), rfl, rfl⟩
theorem cw_X6_88 : CWV RX6 88 yX3_copy cX3_copy 3 none 1 3 := ⟨⟨wd_of 424 (by decide +kernel) (by decide +kernel), wd_of 73 (by decide +kernel) (by decide +kernel), by decide +kernel, by decide +kernel, Or.inr ⟨"PaidToGoAway", wd_of 421 (by decide +kernel) (by decide +kernel)⟩⟩, wd_of 423 (by decide +kernel) (by decide +kernel), wd_of 12 (by decide +kernel) (by decide +kernel), (RX3, TX3, 4), rfl, rfl⟩
theorem cw_X6_96 : CWV RX6 96 yX3_townAt cX3_townAt 2 (some (.object "PaidToGoAway$Town")) 1 3 := ⟨⟨wd_of 323 (by decide +kernel) (by decide +kernel), wd_of 73 (by decide +kernel) (by decide +kernel), by decide +kernel, by decide +kernel, Or.inr ⟨"PaidToGoAway", wd_of 441 (by decide +kernel) (by decide +kernel)⟩⟩, wd_of 322 (by decide +kernel) (by decide +kernel), wd_of 10 (by decide +kernel) (by decide +kernel), (RX3, TX3, 4), rfl, rfl⟩
theorem cw_X6_124 : CWV RX6 124 yX3_crewAt cX3_crewAt 2 (some (.object "PaidToGoAway$Crew")) 1 3 := ⟨⟨wd_of 449 (by decide +kernel) (by decide +kernel), wd_of 73 (by decide +kernel) (by decide +kernel), by decide +kernel, by decide +kernel, Or.inr ⟨"PaidToGoAway", wd_of 446 (by decide +kernel) (by decide +kernel)⟩⟩, wd_of 448 (by decide +kernel) (by decide +kernel), wd_of 16 (by decide +kernel) (by decide +kernel), (RX3, TX3, 4), rfl, rfl⟩
theorem cw_X6_139 : CWV RX6 139 yX0_beliefOf cX0_beliefOf 2 (some .int) 1 0 := ⟨⟨wd_of 436 (by decide +kernel) (by decide +kernel), wd_of 75 (by decide +kernel) (by decide +kernel), by decide +kernel, by decide +kernel, Or.inr ⟨"PaidToGoAway", wd_of 454 (by decide +kernel) (by decide +kernel)⟩⟩, wd_of 435 (by decide +kernel) (by decide +kernel), wd_of 15 (by decide +kernel) (by decide +kernel), (RX0, TX0, 6), rfl, rfl⟩
theorem cw_X6_143 : CWV RX6 143 yX0_wouldAsk cX0_wouldAsk 4 (some .int) 2 0 := ⟨⟨wd_of 462 (by decide +kernel) (by decide +kernel), wd_of 75 (by decide +kernel) (by decide +kernel), by decide +kernel, by decide +kernel, Or.inr ⟨"PaidToGoAway", wd_of 459 (by decide +kernel) (by decide +kernel)⟩⟩, wd_of 461 (by decide +kernel) (by decide +kernel), wd_of 17 (by decide +kernel) (by decide +kernel), (RX0, TX0, 6), rfl, rfl⟩
theorem cw_X6_147 : CWV RX6 147 yX4_put cX4_put 2 none 1 4 := ⟨⟨wd_of 471 (by decide +kernel) (by decide +kernel), wd_of 81 (by decide +kernel) (by decide +kernel), by decide +kernel, by decide +kernel, Or.inr ⟨"PaidToGoAway", wd_of 468 (by decide +kernel) (by decide +kernel)⟩⟩, wd_of 470 (by decide +kernel) (by decide +kernel), wd_of 18 (by decide +kernel) (by decide +kernel), (RX4, TX4, 2), rfl, rfl⟩
theorem cw_X6_150 : CWV RX6 150 yX3_goBy cX3_goBy 4 none 1 3 := ⟨⟨wd_of 480 (by decide +kernel) (by decide +kernel), wd_of 73 (by decide +kernel) (by decide +kernel), by decide +kernel, by decide +kernel, Or.inr ⟨"PaidToGoAway", wd_of 477 (by decide +kernel) (by decide +kernel)⟩⟩, wd_of 479 (by decide +kernel) (by decide +kernel), wd_of 20 (by decide +kernel) (by decide +kernel), (RX3, TX3, 4), rfl, rfl⟩
theorem mw_X6_156 : MW RX6 156 Lib.Math.min.name Lib.Math.min.code := ⟨wd_of 545 (by decide +kernel) (by decide +kernel), wd_of 274 (by decide +kernel) (by decide +kernel), wd_of 80 (by decide +kernel) (by decide +kernel), wd_of 275 (by decide +kernel) (by decide +kernel)⟩
theorem cw_X6_162 : CWV RX6 162 yX0_fightLosing cX0_fightLosing 2 none 1 0 := ⟨⟨wd_of 549 (by decide +kernel) (by decide +kernel), wd_of 75 (by decide +kernel) (by decide +kernel), by decide +kernel, by decide +kernel, Or.inr ⟨"PaidToGoAway", wd_of 546 (by decide +kernel) (by decide +kernel)⟩⟩, wd_of 548 (by decide +kernel) (by decide +kernel), wd_of 33 (by decide +kernel) (by decide +kernel), (RX0, TX0, 6), rfl, rfl⟩
theorem mw_X6_165 : MW RX6 165 Lib.Math.max.name Lib.Math.max.code := ⟨wd_of 554 (by decide +kernel) (by decide +kernel), wd_of 335 (by decide +kernel) (by decide +kernel), wd_of 80 (by decide +kernel) (by decide +kernel), wd_of 336 (by decide +kernel) (by decide +kernel)⟩
theorem cw_X6_168 : CWV RX6 168 yX4_takeInto cX4_takeInto 2 none 1 4 := ⟨⟨wd_of 566 (by decide +kernel) (by decide +kernel), wd_of 81 (by decide +kernel) (by decide +kernel), by decide +kernel, by decide +kernel, Or.inr ⟨"PaidToGoAway", wd_of 563 (by decide +kernel) (by decide +kernel)⟩⟩, wd_of 565 (by decide +kernel) (by decide +kernel), wd_of 34 (by decide +kernel) (by decide +kernel), (RX4, TX4, 2), rfl, rfl⟩
theorem cw_X6_171 : CWV RX6 171 yX3_firstBurntSince cX3_firstBurntSince 3 (some .int) 1 3 := ⟨⟨wd_of 578 (by decide +kernel) (by decide +kernel), wd_of 73 (by decide +kernel) (by decide +kernel), by decide +kernel, by decide +kernel, Or.inr ⟨"PaidToGoAway", wd_of 575 (by decide +kernel) (by decide +kernel)⟩⟩, wd_of 577 (by decide +kernel) (by decide +kernel), wd_of 35 (by decide +kernel) (by decide +kernel), (RX3, TX3, 4), rfl, rfl⟩
theorem cw_X6_175 : CWV RX6 175 yX6_silverByRow cX6_silverByRow 6 (some .int) 3 6 := ⟨⟨wd_of 590 (by decide +kernel) (by decide +kernel), wd_of 71 (by decide +kernel) (by decide +kernel), by decide +kernel, by decide +kernel, Or.inl (wd_of 587 (by decide +kernel) (by decide +kernel))⟩, wd_of 589 (by decide +kernel) (by decide +kernel), wd_of 37 (by decide +kernel) (by decide +kernel), (RX6, TX6, 11), rfl, rfl⟩
theorem cw_X6_179 : CWV RX6 179 yX3_standsAt cX3_standsAt 3 (some .boolean) 1 3 := ⟨⟨wd_of 582 (by decide +kernel) (by decide +kernel), wd_of 73 (by decide +kernel) (by decide +kernel), by decide +kernel, by decide +kernel, Or.inr ⟨"PaidToGoAway", wd_of 594 (by decide +kernel) (by decide +kernel)⟩⟩, wd_of 581 (by decide +kernel) (by decide +kernel), wd_of 36 (by decide +kernel) (by decide +kernel), (RX3, TX3, 4), rfl, rfl⟩
theorem cw_X6_183 : CWS RX6 183 yX6_wayInRow cX6_wayInRow 3 (some .int) 3 := ⟨⟨wd_of 593 (by decide +kernel) (by decide +kernel), wd_of 71 (by decide +kernel) (by decide +kernel), by decide +kernel, by decide +kernel, Or.inl (wd_of 591 (by decide +kernel) (by decide +kernel))⟩, wd_of 592 (by decide +kernel) (by decide +kernel)⟩
theorem cw_X6_186 : CWV RX6 186 yX6_trySpringOf cX6_trySpringOf 6 none 3 6 := ⟨⟨wd_of 602 (by decide +kernel) (by decide +kernel), wd_of 71 (by decide +kernel) (by decide +kernel), by decide +kernel, by decide +kernel, Or.inl (wd_of 599 (by decide +kernel) (by decide +kernel))⟩, wd_of 601 (by decide +kernel) (by decide +kernel), wd_of 38 (by decide +kernel) (by decide +kernel), (RX6, TX6, 11), rfl, rfl⟩
theorem cw_X6_190 : CWV RX6 190 yX6_isRest cX6_isRest 5 (some .boolean) 1 6 := ⟨⟨wd_of 606 (by decide +kernel) (by decide +kernel), wd_of 71 (by decide +kernel) (by decide +kernel), by decide +kernel, by decide +kernel, Or.inl (wd_of 603 (by decide +kernel) (by decide +kernel))⟩, wd_of 605 (by decide +kernel) (by decide +kernel), wd_of 39 (by decide +kernel) (by decide +kernel), (RX6, TX6, 11), rfl, rfl⟩
theorem cw_X6_193 : CWV RX6 193 yX6_standsWith cX6_standsWith 5 (some .boolean) 3 6 := ⟨⟨wd_of 617 (by decide +kernel) (by decide +kernel), wd_of 71 (by decide +kernel) (by decide +kernel), by decide +kernel, by decide +kernel, Or.inl (wd_of 614 (by decide +kernel) (by decide +kernel))⟩, wd_of 616 (by decide +kernel) (by decide +kernel), wd_of 40 (by decide +kernel) (by decide +kernel), (RX6, TX6, 11), rfl, rfl⟩
theorem cw_X6_197 : CWV RX6 197 yX3_silverOfAll cX3_silverOfAll 3 (some .int) 0 3 := ⟨⟨wd_of 625 (by decide +kernel) (by decide +kernel), wd_of 73 (by decide +kernel) (by decide +kernel), by decide +kernel, by decide +kernel, Or.inr ⟨"PaidToGoAway", wd_of 622 (by decide +kernel) (by decide +kernel)⟩⟩, wd_of 624 (by decide +kernel) (by decide +kernel), wd_of 41 (by decide +kernel) (by decide +kernel), (RX3, TX3, 4), rfl, rfl⟩
theorem cw_X6_200 : CWV RX6 200 yX3_askedOfAll cX3_askedOfAll 4 (some .int) 0 3 := ⟨⟨wd_of 629 (by decide +kernel) (by decide +kernel), wd_of 73 (by decide +kernel) (by decide +kernel), by decide +kernel, by decide +kernel, Or.inr ⟨"PaidToGoAway", wd_of 626 (by decide +kernel) (by decide +kernel)⟩⟩, wd_of 628 (by decide +kernel) (by decide +kernel), wd_of 42 (by decide +kernel) (by decide +kernel), (RX3, TX3, 4), rfl, rfl⟩
theorem cw_X6_203 : CWS RX6 203 yX6_commonDivisor cX6_commonDivisor 6 (some .int) 2 := ⟨⟨wd_of 632 (by decide +kernel) (by decide +kernel), wd_of 71 (by decide +kernel) (by decide +kernel), by decide +kernel, by decide +kernel, Or.inl (wd_of 630 (by decide +kernel) (by decide +kernel))⟩, wd_of 631 (by decide +kernel) (by decide +kernel)⟩
theorem cw_X6_206 : CWV RX6 206 yX1_add cX1_add 4 (some .boolean) 3 1 := ⟨⟨wd_of 640 (by decide +kernel) (by decide +kernel), wd_of 82 (by decide +kernel) (by decide +kernel), by decide +kernel, by decide +kernel, Or.inr ⟨"PaidToGoAway", wd_of 637 (by decide +kernel) (by decide +kernel)⟩⟩, wd_of 639 (by decide +kernel) (by decide +kernel), wd_of 43 (by decide +kernel) (by decide +kernel), (RX1, TX1, 4), rfl, rfl⟩
theorem cw_X6_209 : CWV RX6 209 yX6_wouldBeFound cX6_wouldBeFound 6 (some .boolean) 2 6 := ⟨⟨wd_of 652 (by decide +kernel) (by decide +kernel), wd_of 71 (by decide +kernel) (by decide +kernel), by decide +kernel, by decide +kernel, Or.inl (wd_of 649 (by decide +kernel) (by decide +kernel))⟩, wd_of 651 (by decide +kernel) (by decide +kernel), wd_of 44 (by decide +kernel) (by decide +kernel), (RX6, TX6, 11), rfl, rfl⟩
theorem cw_X6_213 : CWV RX6 213 yX6_paidToOnly cX6_paidToOnly 5 (some .int) 3 6 := ⟨⟨wd_of 670 (by decide +kernel) (by decide +kernel), wd_of 71 (by decide +kernel) (by decide +kernel), by decide +kernel, by decide +kernel, Or.inl (wd_of 667 (by decide +kernel) (by decide +kernel))⟩, wd_of 669 (by decide +kernel) (by decide +kernel), wd_of 47 (by decide +kernel) (by decide +kernel), (RX6, TX6, 11), rfl, rfl⟩
theorem cw_X6_216 : CWV RX6 216 yX3_joinDrawn cX3_joinDrawn 6 none 2 3 := ⟨⟨wd_of 682 (by decide +kernel) (by decide +kernel), wd_of 73 (by decide +kernel) (by decide +kernel), by decide +kernel, by decide +kernel, Or.inr ⟨"PaidToGoAway", wd_of 679 (by decide +kernel) (by decide +kernel)⟩⟩, wd_of 681 (by decide +kernel) (by decide +kernel), wd_of 49 (by decide +kernel) (by decide +kernel), (RX3, TX3, 4), rfl, rfl⟩
theorem cw_X6_220 : CWV RX6 220 yX3_townsBurnt cX3_townsBurnt 3 (some .int) 0 3 := ⟨⟨wd_of 693 (by decide +kernel) (by decide +kernel), wd_of 73 (by decide +kernel) (by decide +kernel), by decide +kernel, by decide +kernel, Or.inr ⟨"PaidToGoAway", wd_of 690 (by decide +kernel) (by decide +kernel)⟩⟩, wd_of 692 (by decide +kernel) (by decide +kernel), wd_of 50 (by decide +kernel) (by decide +kernel), (RX3, TX3, 4), rfl, rfl⟩
theorem cw_X6_223 : CWV RX6 223 yX3_crewsGone cX3_crewsGone 3 (some .int) 0 3 := ⟨⟨wd_of 709 (by decide +kernel) (by decide +kernel), wd_of 73 (by decide +kernel) (by decide +kernel), by decide +kernel, by decide +kernel, Or.inr ⟨"PaidToGoAway", wd_of 706 (by decide +kernel) (by decide +kernel)⟩⟩, wd_of 708 (by decide +kernel) (by decide +kernel), wd_of 51 (by decide +kernel) (by decide +kernel), (RX3, TX3, 4), rfl, rfl⟩
theorem cw_X6_226 : CWS RX6 226 yX6_hasMore cX6_hasMore 3 (some .boolean) 3 := ⟨⟨wd_of 609 (by decide +kernel) (by decide +kernel), wd_of 71 (by decide +kernel) (by decide +kernel), by decide +kernel, by decide +kernel, Or.inl (wd_of 607 (by decide +kernel) (by decide +kernel))⟩, wd_of 608 (by decide +kernel) (by decide +kernel)⟩
theorem cw_X6_230 : CWV RX6 230 yX1_lastSpring cX1_lastSpring 3 (some .int) 0 1 := ⟨⟨wd_of 656 (by decide +kernel) (by decide +kernel), wd_of 82 (by decide +kernel) (by decide +kernel), by decide +kernel, by decide +kernel, Or.inr ⟨"PaidToGoAway", wd_of 653 (by decide +kernel) (by decide +kernel)⟩⟩, wd_of 655 (by decide +kernel) (by decide +kernel), wd_of 45 (by decide +kernel) (by decide +kernel), (RX1, TX1, 4), rfl, rfl⟩
theorem cw_X6_233 : CWV RX6 233 yX1_agree cX1_agree 5 (some .boolean) 2 1 := ⟨⟨wd_of 661 (by decide +kernel) (by decide +kernel), wd_of 82 (by decide +kernel) (by decide +kernel), by decide +kernel, by decide +kernel, Or.inr ⟨"PaidToGoAway", wd_of 658 (by decide +kernel) (by decide +kernel)⟩⟩, wd_of 660 (by decide +kernel) (by decide +kernel), wd_of 46 (by decide +kernel) (by decide +kernel), (RX1, TX1, 4), rfl, rfl⟩
theorem cw_X6_237 : CWV RX6 237 yX3_leaveOnly cX3_leaveOnly 3 none 1 3 := ⟨⟨wd_of 674 (by decide +kernel) (by decide +kernel), wd_of 73 (by decide +kernel) (by decide +kernel), by decide +kernel, by decide +kernel, Or.inr ⟨"PaidToGoAway", wd_of 671 (by decide +kernel) (by decide +kernel)⟩⟩, wd_of 673 (by decide +kernel) (by decide +kernel), wd_of 48 (by decide +kernel) (by decide +kernel), (RX3, TX3, 4), rfl, rfl⟩
theorem cw_X0_29 : CWV RX0 29 yX0_beliefOf cX0_beliefOf 2 (some .int) 1 0 := ⟨⟨wd_of 436 (by decide +kernel) (by decide +kernel), wd_of 75 (by decide +kernel) (by decide +kernel), by decide +kernel, by decide +kernel, Or.inl (wd_of 433 (by decide +kernel) (by decide +kernel))⟩, wd_of 435 (by decide +kernel) (by decide +kernel), wd_of 15 (by decide +kernel) (by decide +kernel), (RX0, TX0, 6), rfl, rfl⟩
theorem mw_X0_33 : MW RX0 33 Lib.Math.max.name Lib.Math.max.code := ⟨wd_of 463 (by decide +kernel) (by decide +kernel), wd_of 335 (by decide +kernel) (by decide +kernel), wd_of 80 (by decide +kernel) (by decide +kernel), wd_of 336 (by decide +kernel) (by decide +kernel)⟩
theorem cw_X0_44 : CWV RX0 44 yX5_give cX5_give 2 none 1 5 := ⟨⟨wd_of 517 (by decide +kernel) (by decide +kernel), wd_of 74 (by decide +kernel) (by decide +kernel), by decide +kernel, by decide +kernel, Or.inr ⟨"PaidToGoAway", wd_of 514 (by decide +kernel) (by decide +kernel)⟩⟩, wd_of 516 (by decide +kernel) (by decide +kernel), wd_of 28 (by decide +kernel) (by decide +kernel), (RX5, TX5, 8), rfl, rfl⟩
theorem cw_X0_51 : CWV RX0 51 yX0_believe cX0_believe 3 none 2 0 := ⟨⟨wd_of 315 (by decide +kernel) (by decide +kernel), wd_of 75 (by decide +kernel) (by decide +kernel), by decide +kernel, by decide +kernel, Or.inl (wd_of 518 (by decide +kernel) (by decide +kernel))⟩, wd_of 314 (by decide +kernel) (by decide +kernel), wd_of 8 (by decide +kernel) (by decide +kernel), (RX0, TX0, 6), rfl, rfl⟩
theorem cw_X0_61 : CWV RX0 61 yX0_grow cX0_grow 2 none 1 0 := ⟨⟨wd_of 535 (by decide +kernel) (by decide +kernel), wd_of 75 (by decide +kernel) (by decide +kernel), by decide +kernel, by decide +kernel, Or.inl (wd_of 532 (by decide +kernel) (by decide +kernel))⟩, wd_of 534 (by decide +kernel) (by decide +kernel), wd_of 32 (by decide +kernel) (by decide +kernel), (RX0, TX0, 6), rfl, rfl⟩
theorem mw_X0_64 : MW RX0 64 Lib.Math.min.name Lib.Math.min.code := ⟨wd_of 536 (by decide +kernel) (by decide +kernel), wd_of 274 (by decide +kernel) (by decide +kernel), wd_of 80 (by decide +kernel) (by decide +kernel), wd_of 275 (by decide +kernel) (by decide +kernel)⟩
theorem mw_X1_25 : MW RX1 25 Lib.Math.max.name Lib.Math.max.code := ⟨wd_of 657 (by decide +kernel) (by decide +kernel), wd_of 335 (by decide +kernel) (by decide +kernel), wd_of 80 (by decide +kernel) (by decide +kernel), wd_of 336 (by decide +kernel) (by decide +kernel)⟩
theorem cw_X1_31 : CWV RX1 31 yX3_townAt cX3_townAt 2 (some (.object "PaidToGoAway$Town")) 1 3 := ⟨⟨wd_of 323 (by decide +kernel) (by decide +kernel), wd_of 73 (by decide +kernel) (by decide +kernel), by decide +kernel, by decide +kernel, Or.inr ⟨"PaidToGoAway", wd_of 662 (by decide +kernel) (by decide +kernel)⟩⟩, wd_of 322 (by decide +kernel) (by decide +kernel), wd_of 10 (by decide +kernel) (by decide +kernel), (RX3, TX3, 4), rfl, rfl⟩
theorem cw_X2_15 : CWV RX2 15 yX3_clear cX3_clear 2 none 0 3 := ⟨⟨wd_of 272 (by decide +kernel) (by decide +kernel), wd_of 73 (by decide +kernel) (by decide +kernel), by decide +kernel, by decide +kernel, Or.inr ⟨"PaidToGoAway", wd_of 269 (by decide +kernel) (by decide +kernel)⟩⟩, wd_of 271 (by decide +kernel) (by decide +kernel), wd_of 1 (by decide +kernel) (by decide +kernel), (RX3, TX3, 4), rfl, rfl⟩
theorem mw_X2_20 : MW RX2 20 Lib.Math.min.name Lib.Math.min.code := ⟨wd_of 273 (by decide +kernel) (by decide +kernel), wd_of 274 (by decide +kernel) (by decide +kernel), wd_of 80 (by decide +kernel) (by decide +kernel), wd_of 275 (by decide +kernel) (by decide +kernel)⟩
theorem cw_X2_26 : CWV RX2 26 yX2_itemEnd cX2_itemEnd 9 (some .int) 3 2 := ⟨⟨wd_of 279 (by decide +kernel) (by decide +kernel), wd_of 72 (by decide +kernel) (by decide +kernel), by decide +kernel, by decide +kernel, Or.inl (wd_of 276 (by decide +kernel) (by decide +kernel))⟩, wd_of 278 (by decide +kernel) (by decide +kernel), wd_of 2 (by decide +kernel) (by decide +kernel), (RX2, TX2, 1), rfl, rfl⟩
theorem cw_X2_30 : CWV RX2 30 yX2_takes cX2_takes 3 (some .boolean) 2 2 := ⟨⟨wd_of 295 (by decide +kernel) (by decide +kernel), wd_of 72 (by decide +kernel) (by decide +kernel), by decide +kernel, by decide +kernel, Or.inl (wd_of 292 (by decide +kernel) (by decide +kernel))⟩, wd_of 294 (by decide +kernel) (by decide +kernel), wd_of 3 (by decide +kernel) (by decide +kernel), (RX2, TX2, 1), rfl, rfl⟩
theorem cw_X2_34 : CWS RX2 34 yX2_numbersBehind cX2_numbersBehind 1 (some .int) 1 := ⟨⟨wd_of 282 (by decide +kernel) (by decide +kernel), wd_of 72 (by decide +kernel) (by decide +kernel), by decide +kernel, by decide +kernel, Or.inl (wd_of 280 (by decide +kernel) (by decide +kernel))⟩, wd_of 281 (by decide +kernel) (by decide +kernel)⟩
theorem cw_X2_38 : CWS RX2 38 yX2_figuresAt cX2_figuresAt 3 (some .int) 3 := ⟨⟨wd_of 285 (by decide +kernel) (by decide +kernel), wd_of 72 (by decide +kernel) (by decide +kernel), by decide +kernel, by decide +kernel, Or.inl (wd_of 283 (by decide +kernel) (by decide +kernel))⟩, wd_of 284 (by decide +kernel) (by decide +kernel)⟩
theorem cw_X2_41 : CWS RX2 41 yX2_numberAt cX2_numberAt 6 (some .int) 4 := ⟨⟨wd_of 291 (by decide +kernel) (by decide +kernel), wd_of 72 (by decide +kernel) (by decide +kernel), by decide +kernel, by decide +kernel, Or.inl (wd_of 289 (by decide +kernel) (by decide +kernel))⟩, wd_of 290 (by decide +kernel) (by decide +kernel)⟩
theorem cw_X2_45 : CWS RX2 45 yX2_isFigure cX2_isFigure 3 (some .boolean) 3 := ⟨⟨wd_of 288 (by decide +kernel) (by decide +kernel), wd_of 72 (by decide +kernel) (by decide +kernel), by decide +kernel, by decide +kernel, Or.inl (wd_of 286 (by decide +kernel) (by decide +kernel))⟩, wd_of 287 (by decide +kernel) (by decide +kernel)⟩
theorem cw_X2_49 : CWV RX2 49 yX3_settle cX3_settle 7 (some .boolean) 4 3 := ⟨⟨wd_of 299 (by decide +kernel) (by decide +kernel), wd_of 73 (by decide +kernel) (by decide +kernel), by decide +kernel, by decide +kernel, Or.inr ⟨"PaidToGoAway", wd_of 296 (by decide +kernel) (by decide +kernel)⟩⟩, wd_of 298 (by decide +kernel) (by decide +kernel), wd_of 4 (by decide +kernel) (by decide +kernel), (RX3, TX3, 4), rfl, rfl⟩
theorem cw_X2_53 : CWV RX2 53 yX3_man cX3_man 6 (some .boolean) 2 3 := ⟨⟨wd_of 307 (by decide +kernel) (by decide +kernel), wd_of 73 (by decide +kernel) (by decide +kernel), by decide +kernel, by decide +kernel, Or.inr ⟨"PaidToGoAway", wd_of 304 (by decide +kernel) (by decide +kernel)⟩⟩, wd_of 306 (by decide +kernel) (by decide +kernel), wd_of 6 (by decide +kernel) (by decide +kernel), (RX3, TX3, 4), rfl, rfl⟩
theorem cw_X2_57 : CWV RX2 57 yX3_goWay cX3_goWay 4 (some .boolean) 2 3 := ⟨⟨wd_of 319 (by decide +kernel) (by decide +kernel), wd_of 73 (by decide +kernel) (by decide +kernel), by decide +kernel, by decide +kernel, Or.inr ⟨"PaidToGoAway", wd_of 316 (by decide +kernel) (by decide +kernel)⟩⟩, wd_of 318 (by decide +kernel) (by decide +kernel), wd_of 9 (by decide +kernel) (by decide +kernel), (RX3, TX3, 4), rfl, rfl⟩
theorem cw_X2_60 : CWV RX2 60 yX3_costWalls cX3_costWalls 2 (some .boolean) 1 3 := ⟨⟨wd_of 327 (by decide +kernel) (by decide +kernel), wd_of 73 (by decide +kernel) (by decide +kernel), by decide +kernel, by decide +kernel, Or.inr ⟨"PaidToGoAway", wd_of 324 (by decide +kernel) (by decide +kernel)⟩⟩, wd_of 326 (by decide +kernel) (by decide +kernel), wd_of 11 (by decide +kernel) (by decide +kernel), (RX3, TX3, 4), rfl, rfl⟩
theorem cw_X3_25 : CWV RX3 25 yX5_copy cX5_copy 2 none 1 5 := ⟨⟨wd_of 428 (by decide +kernel) (by decide +kernel), wd_of 74 (by decide +kernel) (by decide +kernel), by decide +kernel, by decide +kernel, Or.inr ⟨"PaidToGoAway", wd_of 425 (by decide +kernel) (by decide +kernel)⟩⟩, wd_of 427 (by decide +kernel) (by decide +kernel), wd_of 13 (by decide +kernel) (by decide +kernel), (RX5, TX5, 8), rfl, rfl⟩
theorem cw_X3_29 : CWV RX3 29 yX0_copy cX0_copy 3 none 1 0 := ⟨⟨wd_of 432 (by decide +kernel) (by decide +kernel), wd_of 75 (by decide +kernel) (by decide +kernel), by decide +kernel, by decide +kernel, Or.inr ⟨"PaidToGoAway", wd_of 429 (by decide +kernel) (by decide +kernel)⟩⟩, wd_of 431 (by decide +kernel) (by decide +kernel), wd_of 14 (by decide +kernel) (by decide +kernel), (RX0, TX0, 6), rfl, rfl⟩
theorem cw_X3_44 : CWV RX3 44 yX3_townAt cX3_townAt 2 (some (.object "PaidToGoAway$Town")) 1 3 := ⟨⟨wd_of 323 (by decide +kernel) (by decide +kernel), wd_of 73 (by decide +kernel) (by decide +kernel), by decide +kernel, by decide +kernel, Or.inl (wd_of 320 (by decide +kernel) (by decide +kernel))⟩, wd_of 322 (by decide +kernel) (by decide +kernel), wd_of 10 (by decide +kernel) (by decide +kernel), (RX3, TX3, 4), rfl, rfl⟩
theorem cw_X3_51 : CWV RX3 51 yX3_townsThere cX3_townsThere 3 (some .int) 0 3 := ⟨⟨wd_of 303 (by decide +kernel) (by decide +kernel), wd_of 73 (by decide +kernel) (by decide +kernel), by decide +kernel, by decide +kernel, Or.inl (wd_of 300 (by decide +kernel) (by decide +kernel))⟩, wd_of 302 (by decide +kernel) (by decide +kernel), wd_of 5 (by decide +kernel) (by decide +kernel), (RX3, TX3, 4), rfl, rfl⟩
theorem cw_X3_73 : CWV RX3 73 yX3_crewsThere cX3_crewsThere 3 (some .int) 0 3 := ⟨⟨wd_of 311 (by decide +kernel) (by decide +kernel), wd_of 73 (by decide +kernel) (by decide +kernel), by decide +kernel, by decide +kernel, Or.inl (wd_of 308 (by decide +kernel) (by decide +kernel))⟩, wd_of 310 (by decide +kernel) (by decide +kernel), wd_of 7 (by decide +kernel) (by decide +kernel), (RX3, TX3, 4), rfl, rfl⟩
theorem cw_X3_85 : CWV RX3 85 yX0_believe cX0_believe 3 none 2 0 := ⟨⟨wd_of 315 (by decide +kernel) (by decide +kernel), wd_of 75 (by decide +kernel) (by decide +kernel), by decide +kernel, by decide +kernel, Or.inr ⟨"PaidToGoAway", wd_of 312 (by decide +kernel) (by decide +kernel)⟩⟩, wd_of 314 (by decide +kernel) (by decide +kernel), wd_of 8 (by decide +kernel) (by decide +kernel), (RX0, TX0, 6), rfl, rfl⟩
theorem cw_X3_89 : CWV RX3 89 yX3_earnAndBuild cX3_earnAndBuild 2 none 0 3 := ⟨⟨wd_of 484 (by decide +kernel) (by decide +kernel), wd_of 73 (by decide +kernel) (by decide +kernel), by decide +kernel, by decide +kernel, Or.inl (wd_of 481 (by decide +kernel) (by decide +kernel))⟩, wd_of 483 (by decide +kernel) (by decide +kernel), wd_of 21 (by decide +kernel) (by decide +kernel), (RX3, TX3, 4), rfl, rfl⟩
theorem cw_X3_92 : CWV RX3 92 yX0_sails cX0_sails 1 (some .boolean) 0 0 := ⟨⟨wd_of 501 (by decide +kernel) (by decide +kernel), wd_of 75 (by decide +kernel) (by decide +kernel), by decide +kernel, by decide +kernel, Or.inr ⟨"PaidToGoAway", wd_of 498 (by decide +kernel) (by decide +kernel)⟩⟩, wd_of 500 (by decide +kernel) (by decide +kernel), wd_of 25 (by decide +kernel) (by decide +kernel), (RX0, TX0, 6), rfl, rfl⟩
theorem cw_X3_96 : CWV RX3 96 yX3_comeUp cX3_comeUp 4 none 1 3 := ⟨⟨wd_of 505 (by decide +kernel) (by decide +kernel), wd_of 73 (by decide +kernel) (by decide +kernel), by decide +kernel, by decide +kernel, Or.inl (wd_of 502 (by decide +kernel) (by decide +kernel))⟩, wd_of 504 (by decide +kernel) (by decide +kernel), wd_of 26 (by decide +kernel) (by decide +kernel), (RX3, TX3, 4), rfl, rfl⟩
theorem cw_X3_99 : CWV RX3 99 yX5_stands cX5_stands 1 (some .boolean) 0 5 := ⟨⟨wd_of 488 (by decide +kernel) (by decide +kernel), wd_of 74 (by decide +kernel) (by decide +kernel), by decide +kernel, by decide +kernel, Or.inr ⟨"PaidToGoAway", wd_of 485 (by decide +kernel) (by decide +kernel)⟩⟩, wd_of 487 (by decide +kernel) (by decide +kernel), wd_of 22 (by decide +kernel) (by decide +kernel), (RX5, TX5, 8), rfl, rfl⟩
theorem cw_X3_102 : CWV RX3 102 yX5_earn cX5_earn 1 none 0 5 := ⟨⟨wd_of 492 (by decide +kernel) (by decide +kernel), wd_of 74 (by decide +kernel) (by decide +kernel), by decide +kernel, by decide +kernel, Or.inr ⟨"PaidToGoAway", wd_of 489 (by decide +kernel) (by decide +kernel)⟩⟩, wd_of 491 (by decide +kernel) (by decide +kernel), wd_of 23 (by decide +kernel) (by decide +kernel), (RX5, TX5, 8), rfl, rfl⟩
theorem cw_X3_105 : CWV RX3 105 yX5_build cX5_build 2 none 1 5 := ⟨⟨wd_of 497 (by decide +kernel) (by decide +kernel), wd_of 74 (by decide +kernel) (by decide +kernel), by decide +kernel, by decide +kernel, Or.inr ⟨"PaidToGoAway", wd_of 494 (by decide +kernel) (by decide +kernel)⟩⟩, wd_of 496 (by decide +kernel) (by decide +kernel), wd_of 24 (by decide +kernel) (by decide +kernel), (RX5, TX5, 8), rfl, rfl⟩
theorem cw_X3_109 : CWS RX3 109 yX3_sendsHome cX3_sendsHome 4 (some .boolean) 3 := ⟨⟨wd_of 508 (by decide +kernel) (by decide +kernel), wd_of 73 (by decide +kernel) (by decide +kernel), by decide +kernel, by decide +kernel, Or.inl (wd_of 506 (by decide +kernel) (by decide +kernel))⟩, wd_of 507 (by decide +kernel) (by decide +kernel)⟩
theorem cw_X3_113 : CWV RX3 113 yX0_goHome cX0_goHome 1 none 0 0 := ⟨⟨wd_of 531 (by decide +kernel) (by decide +kernel), wd_of 75 (by decide +kernel) (by decide +kernel), by decide +kernel, by decide +kernel, Or.inr ⟨"PaidToGoAway", wd_of 528 (by decide +kernel) (by decide +kernel)⟩⟩, wd_of 530 (by decide +kernel) (by decide +kernel), wd_of 31 (by decide +kernel) (by decide +kernel), (RX0, TX0, 6), rfl, rfl⟩
theorem cw_X3_116 : CWV RX3 116 yX0_wouldAsk cX0_wouldAsk 4 (some .int) 2 0 := ⟨⟨wd_of 462 (by decide +kernel) (by decide +kernel), wd_of 75 (by decide +kernel) (by decide +kernel), by decide +kernel, by decide +kernel, Or.inr ⟨"PaidToGoAway", wd_of 509 (by decide +kernel) (by decide +kernel)⟩⟩, wd_of 461 (by decide +kernel) (by decide +kernel), wd_of 17 (by decide +kernel) (by decide +kernel), (RX0, TX0, 6), rfl, rfl⟩
theorem cw_X3_120 : CWV RX3 120 yX0_takePay cX0_takePay 4 none 3 0 := ⟨⟨wd_of 513 (by decide +kernel) (by decide +kernel), wd_of 75 (by decide +kernel) (by decide +kernel), by decide +kernel, by decide +kernel, Or.inr ⟨"PaidToGoAway", wd_of 510 (by decide +kernel) (by decide +kernel)⟩⟩, wd_of 512 (by decide +kernel) (by decide +kernel), wd_of 27 (by decide +kernel) (by decide +kernel), (RX0, TX0, 6), rfl, rfl⟩
theorem cw_X3_124 : CWV RX3 124 yX5_menHeldOff cX5_menHeldOff 1 (some .int) 0 5 := ⟨⟨wd_of 522 (by decide +kernel) (by decide +kernel), wd_of 74 (by decide +kernel) (by decide +kernel), by decide +kernel, by decide +kernel, Or.inr ⟨"PaidToGoAway", wd_of 519 (by decide +kernel) (by decide +kernel)⟩⟩, wd_of 521 (by decide +kernel) (by decide +kernel), wd_of 29 (by decide +kernel) (by decide +kernel), (RX5, TX5, 8), rfl, rfl⟩
theorem cw_X3_127 : CWV RX3 127 yX0_burn cX0_burn 3 none 2 0 := ⟨⟨wd_of 526 (by decide +kernel) (by decide +kernel), wd_of 75 (by decide +kernel) (by decide +kernel), by decide +kernel, by decide +kernel, Or.inr ⟨"PaidToGoAway", wd_of 523 (by decide +kernel) (by decide +kernel)⟩⟩, wd_of 525 (by decide +kernel) (by decide +kernel), wd_of 30 (by decide +kernel) (by decide +kernel), (RX0, TX0, 6), rfl, rfl⟩
theorem mw_X3_131 : MW RX3 131 Lib.Math.max.name Lib.Math.max.code := ⟨wd_of 527 (by decide +kernel) (by decide +kernel), wd_of 335 (by decide +kernel) (by decide +kernel), wd_of 80 (by decide +kernel) (by decide +kernel), wd_of 336 (by decide +kernel) (by decide +kernel)⟩
theorem cw_X3_149 : CWV RX3 149 yX0_grow cX0_grow 2 none 1 0 := ⟨⟨wd_of 535 (by decide +kernel) (by decide +kernel), wd_of 75 (by decide +kernel) (by decide +kernel), by decide +kernel, by decide +kernel, Or.inr ⟨"PaidToGoAway", wd_of 689 (by decide +kernel) (by decide +kernel)⟩⟩, wd_of 534 (by decide +kernel) (by decide +kernel), wd_of 32 (by decide +kernel) (by decide +kernel), (RX0, TX0, 6), rfl, rfl⟩
theorem cw_X3_152 : CWV RX3 152 yX3_standsAt cX3_standsAt 3 (some .boolean) 1 3 := ⟨⟨wd_of 582 (by decide +kernel) (by decide +kernel), wd_of 73 (by decide +kernel) (by decide +kernel), by decide +kernel, by decide +kernel, Or.inl (wd_of 579 (by decide +kernel) (by decide +kernel))⟩, wd_of 581 (by decide +kernel) (by decide +kernel), wd_of 36 (by decide +kernel) (by decide +kernel), (RX3, TX3, 4), rfl, rfl⟩
theorem mw_X4_7 : MW RX4 7 Lib.Math.max.name Lib.Math.max.code := ⟨wd_of 334 (by decide +kernel) (by decide +kernel), wd_of 335 (by decide +kernel) (by decide +kernel), wd_of 80 (by decide +kernel) (by decide +kernel), wd_of 336 (by decide +kernel) (by decide +kernel)⟩
theorem cw_X4_26 : CWV RX4 26 yX4_dropOldest cX4_dropOldest 3 none 0 4 := ⟨⟨wd_of 475 (by decide +kernel) (by decide +kernel), wd_of 81 (by decide +kernel) (by decide +kernel), by decide +kernel, by decide +kernel, Or.inl (wd_of 472 (by decide +kernel) (by decide +kernel))⟩, wd_of 474 (by decide +kernel) (by decide +kernel), wd_of 19 (by decide +kernel) (by decide +kernel), (RX4, TX4, 2), rfl, rfl⟩
theorem cw_X4_29 : CWV RX4 29 yX3_copy cX3_copy 3 none 1 3 := ⟨⟨wd_of 424 (by decide +kernel) (by decide +kernel), wd_of 73 (by decide +kernel) (by decide +kernel), by decide +kernel, by decide +kernel, Or.inr ⟨"PaidToGoAway", wd_of 476 (by decide +kernel) (by decide +kernel)⟩⟩, wd_of 423 (by decide +kernel) (by decide +kernel), wd_of 12 (by decide +kernel) (by decide +kernel), (RX3, TX3, 4), rfl, rfl⟩
theorem mw_X5_37 : MW RX5 37 Lib.Math.min.name Lib.Math.min.code := ⟨wd_of 493 (by decide +kernel) (by decide +kernel), wd_of 274 (by decide +kernel) (by decide +kernel), wd_of 80 (by decide +kernel) (by decide +kernel), wd_of 275 (by decide +kernel) (by decide +kernel)⟩
theorem cw_L_13 : CWV RL 13 yX6_write cX6_write 2 (some .int) 1 6 := ⟨⟨wd_of 406 (by decide +kernel) (by decide +kernel), wd_of 71 (by decide +kernel) (by decide +kernel), by decide +kernel, by decide +kernel, Or.inl (wd_of 403 (by decide +kernel) (by decide +kernel))⟩, wd_of 404 (by decide +kernel) (by decide +kernel), wd_of 405 (by decide +kernel) (by decide +kernel), (RX6, TX6, 11), rfl, rfl⟩
theorem cw_L_17 : CWV RL 17 yX7_write cX7_write 2 (some .int) 1 7 := ⟨⟨wd_of 805 (by decide +kernel) (by decide +kernel), wd_of 83 (by decide +kernel) (by decide +kernel), by decide +kernel, by decide +kernel, Or.inl (wd_of 802 (by decide +kernel) (by decide +kernel))⟩, wd_of 803 (by decide +kernel) (by decide +kernel), wd_of 804 (by decide +kernel) (by decide +kernel), (RX7, TX7, 26), rfl, rfl⟩
theorem cw_L_18 : CWV RL 18 yX6_wipe cX6_wipe 2 (some .int) 0 6 := ⟨⟨wd_of 410 (by decide +kernel) (by decide +kernel), wd_of 71 (by decide +kernel) (by decide +kernel), by decide +kernel, by decide +kernel, Or.inl (wd_of 407 (by decide +kernel) (by decide +kernel))⟩, wd_of 408 (by decide +kernel) (by decide +kernel), wd_of 409 (by decide +kernel) (by decide +kernel), (RX6, TX6, 11), rfl, rfl⟩
theorem cw_L_22 : CWV RL 22 yX7_wipe cX7_wipe 2 (some .int) 0 7 := ⟨⟨wd_of 812 (by decide +kernel) (by decide +kernel), wd_of 83 (by decide +kernel) (by decide +kernel), by decide +kernel, by decide +kernel, Or.inl (wd_of 809 (by decide +kernel) (by decide +kernel))⟩, wd_of 810 (by decide +kernel) (by decide +kernel), wd_of 811 (by decide +kernel) (by decide +kernel), (RX7, TX7, 26), rfl, rfl⟩
theorem cw_L_23 : CWV RL 23 yX6_fault cX6_fault 1 (some .int) 0 6 := ⟨⟨wd_of 414 (by decide +kernel) (by decide +kernel), wd_of 71 (by decide +kernel) (by decide +kernel), by decide +kernel, by decide +kernel, Or.inl (wd_of 411 (by decide +kernel) (by decide +kernel))⟩, wd_of 412 (by decide +kernel) (by decide +kernel), wd_of 413 (by decide +kernel) (by decide +kernel), (RX6, TX6, 11), rfl, rfl⟩
theorem cw_L_26 : CWV RL 26 yX7_fault cX7_fault 1 (some .int) 0 7 := ⟨⟨wd_of 816 (by decide +kernel) (by decide +kernel), wd_of 83 (by decide +kernel) (by decide +kernel), by decide +kernel, by decide +kernel, Or.inl (wd_of 813 (by decide +kernel) (by decide +kernel))⟩, wd_of 814 (by decide +kernel) (by decide +kernel), wd_of 815 (by decide +kernel) (by decide +kernel), (RX7, TX7, 26), rfl, rfl⟩
theorem cw_L_27 : CWV RL 27 yX6_lay cX6_lay 1 (some .int) 0 6 := ⟨⟨wd_of 418 (by decide +kernel) (by decide +kernel), wd_of 71 (by decide +kernel) (by decide +kernel), by decide +kernel, by decide +kernel, Or.inl (wd_of 415 (by decide +kernel) (by decide +kernel))⟩, wd_of 416 (by decide +kernel) (by decide +kernel), wd_of 417 (by decide +kernel) (by decide +kernel), (RX6, TX6, 11), rfl, rfl⟩
theorem cw_L_30 : CWV RL 30 yX7_lay cX7_lay 2 (some .int) 0 7 := ⟨⟨wd_of 836 (by decide +kernel) (by decide +kernel), wd_of 83 (by decide +kernel) (by decide +kernel), by decide +kernel, by decide +kernel, Or.inl (wd_of 833 (by decide +kernel) (by decide +kernel))⟩, wd_of 834 (by decide +kernel) (by decide +kernel), wd_of 835 (by decide +kernel) (by decide +kernel), (RX7, TX7, 26), rfl, rfl⟩
theorem cw_L_31 : CWV RL 31 yX6_town cX6_town 4 (some .int) 2 6 := ⟨⟨wd_of 440 (by decide +kernel) (by decide +kernel), wd_of 71 (by decide +kernel) (by decide +kernel), by decide +kernel, by decide +kernel, Or.inl (wd_of 437 (by decide +kernel) (by decide +kernel))⟩, wd_of 438 (by decide +kernel) (by decide +kernel), wd_of 439 (by decide +kernel) (by decide +kernel), (RX6, TX6, 11), rfl, rfl⟩
theorem cw_L_35 : CWV RL 35 yX7_town cX7_town 3 (some .int) 2 7 := ⟨⟨wd_of 840 (by decide +kernel) (by decide +kernel), wd_of 83 (by decide +kernel) (by decide +kernel), by decide +kernel, by decide +kernel, Or.inl (wd_of 837 (by decide +kernel) (by decide +kernel))⟩, wd_of 838 (by decide +kernel) (by decide +kernel), wd_of 839 (by decide +kernel) (by decide +kernel), (RX7, TX7, 26), rfl, rfl⟩
theorem cw_L_36 : CWV RL 36 yX6_crew cX6_crew 4 (some .int) 2 6 := ⟨⟨wd_of 445 (by decide +kernel) (by decide +kernel), wd_of 71 (by decide +kernel) (by decide +kernel), by decide +kernel, by decide +kernel, Or.inl (wd_of 442 (by decide +kernel) (by decide +kernel))⟩, wd_of 443 (by decide +kernel) (by decide +kernel), wd_of 444 (by decide +kernel) (by decide +kernel), (RX6, TX6, 11), rfl, rfl⟩
theorem cw_L_39 : CWV RL 39 yX7_crew cX7_crew 3 (some .int) 2 7 := ⟨⟨wd_of 848 (by decide +kernel) (by decide +kernel), wd_of 83 (by decide +kernel) (by decide +kernel), by decide +kernel, by decide +kernel, Or.inl (wd_of 845 (by decide +kernel) (by decide +kernel))⟩, wd_of 846 (by decide +kernel) (by decide +kernel), wd_of 847 (by decide +kernel) (by decide +kernel), (RX7, TX7, 26), rfl, rfl⟩
theorem cw_L_40 : CWV RL 40 yX6_believes cX6_believes 4 (some .int) 2 6 := ⟨⟨wd_of 453 (by decide +kernel) (by decide +kernel), wd_of 71 (by decide +kernel) (by decide +kernel), by decide +kernel, by decide +kernel, Or.inl (wd_of 450 (by decide +kernel) (by decide +kernel))⟩, wd_of 451 (by decide +kernel) (by decide +kernel), wd_of 452 (by decide +kernel) (by decide +kernel), (RX6, TX6, 11), rfl, rfl⟩
theorem cw_L_43 : CWV RL 43 yX7_believes cX7_believes 3 (some .int) 2 7 := ⟨⟨wd_of 856 (by decide +kernel) (by decide +kernel), wd_of 83 (by decide +kernel) (by decide +kernel), by decide +kernel, by decide +kernel, Or.inl (wd_of 853 (by decide +kernel) (by decide +kernel))⟩, wd_of 854 (by decide +kernel) (by decide +kernel), wd_of 855 (by decide +kernel) (by decide +kernel), (RX7, TX7, 26), rfl, rfl⟩
theorem cw_L_44 : CWV RL 44 yX6_asks cX6_asks 5 (some .int) 2 6 := ⟨⟨wd_of 458 (by decide +kernel) (by decide +kernel), wd_of 71 (by decide +kernel) (by decide +kernel), by decide +kernel, by decide +kernel, Or.inl (wd_of 455 (by decide +kernel) (by decide +kernel))⟩, wd_of 456 (by decide +kernel) (by decide +kernel), wd_of 457 (by decide +kernel) (by decide +kernel), (RX6, TX6, 11), rfl, rfl⟩
theorem cw_L_47 : CWV RL 47 yX7_asks cX7_asks 3 (some .int) 2 7 := ⟨⟨wd_of 860 (by decide +kernel) (by decide +kernel), wd_of 83 (by decide +kernel) (by decide +kernel), by decide +kernel, by decide +kernel, Or.inl (wd_of 857 (by decide +kernel) (by decide +kernel))⟩, wd_of 858 (by decide +kernel) (by decide +kernel), wd_of 859 (by decide +kernel) (by decide +kernel), (RX7, TX7, 26), rfl, rfl⟩
theorem cw_L_48 : CWV RL 48 yX6_pass cX6_pass 2 (some .int) 1 6 := ⟨⟨wd_of 467 (by decide +kernel) (by decide +kernel), wd_of 71 (by decide +kernel) (by decide +kernel), by decide +kernel, by decide +kernel, Or.inl (wd_of 464 (by decide +kernel) (by decide +kernel))⟩, wd_of 465 (by decide +kernel) (by decide +kernel), wd_of 466 (by decide +kernel) (by decide +kernel), (RX6, TX6, 11), rfl, rfl⟩
theorem cw_L_51 : CWV RL 51 yX7_pass cX7_pass 3 (some .int) 1 7 := ⟨⟨wd_of 868 (by decide +kernel) (by decide +kernel), wd_of 83 (by decide +kernel) (by decide +kernel), by decide +kernel, by decide +kernel, Or.inl (wd_of 865 (by decide +kernel) (by decide +kernel))⟩, wd_of 866 (by decide +kernel) (by decide +kernel), wd_of 867 (by decide +kernel) (by decide +kernel), (RX7, TX7, 26), rfl, rfl⟩
theorem cw_L_52 : CWV RL 52 yX6_way cX6_way 5 (some .int) 2 6 := ⟨⟨wd_of 540 (by decide +kernel) (by decide +kernel), wd_of 71 (by decide +kernel) (by decide +kernel), by decide +kernel, by decide +kernel, Or.inl (wd_of 537 (by decide +kernel) (by decide +kernel))⟩, wd_of 538 (by decide +kernel) (by decide +kernel), wd_of 539 (by decide +kernel) (by decide +kernel), (RX6, TX6, 11), rfl, rfl⟩
theorem cw_L_55 : CWV RL 55 yX7_way cX7_way 4 (some .int) 2 7 := ⟨⟨wd_of 888 (by decide +kernel) (by decide +kernel), wd_of 83 (by decide +kernel) (by decide +kernel), by decide +kernel, by decide +kernel, Or.inl (wd_of 885 (by decide +kernel) (by decide +kernel))⟩, wd_of 886 (by decide +kernel) (by decide +kernel), wd_of 887 (by decide +kernel) (by decide +kernel), (RX7, TX7, 26), rfl, rfl⟩
theorem cw_L_56 : CWV RL 56 yX6_hire cX6_hire 8 (some .int) 3 6 := ⟨⟨wd_of 544 (by decide +kernel) (by decide +kernel), wd_of 71 (by decide +kernel) (by decide +kernel), by decide +kernel, by decide +kernel, Or.inl (wd_of 541 (by decide +kernel) (by decide +kernel))⟩, wd_of 542 (by decide +kernel) (by decide +kernel), wd_of 543 (by decide +kernel) (by decide +kernel), (RX6, TX6, 11), rfl, rfl⟩
theorem cw_L_60 : CWV RL 60 yX7_hire cX7_hire 5 (some .int) 3 7 := ⟨⟨wd_of 892 (by decide +kernel) (by decide +kernel), wd_of 83 (by decide +kernel) (by decide +kernel), by decide +kernel, by decide +kernel, Or.inl (wd_of 889 (by decide +kernel) (by decide +kernel))⟩, wd_of 890 (by decide +kernel) (by decide +kernel), wd_of 891 (by decide +kernel) (by decide +kernel), (RX7, TX7, 26), rfl, rfl⟩
theorem cw_L_61 : CWV RL 61 yX6_land cX6_land 5 (some .int) 2 6 := ⟨⟨wd_of 553 (by decide +kernel) (by decide +kernel), wd_of 71 (by decide +kernel) (by decide +kernel), by decide +kernel, by decide +kernel, Or.inl (wd_of 550 (by decide +kernel) (by decide +kernel))⟩, wd_of 551 (by decide +kernel) (by decide +kernel), wd_of 552 (by decide +kernel) (by decide +kernel), (RX6, TX6, 11), rfl, rfl⟩
theorem cw_L_64 : CWV RL 64 yX7_land cX7_land 4 (some .int) 2 7 := ⟨⟨wd_of 896 (by decide +kernel) (by decide +kernel), wd_of 83 (by decide +kernel) (by decide +kernel), by decide +kernel, by decide +kernel, Or.inl (wd_of 893 (by decide +kernel) (by decide +kernel))⟩, wd_of 894 (by decide +kernel) (by decide +kernel), wd_of 895 (by decide +kernel) (by decide +kernel), (RX7, TX7, 26), rfl, rfl⟩
theorem cw_L_65 : CWV RL 65 yX6_raise cX6_raise 5 (some .int) 2 6 := ⟨⟨wd_of 558 (by decide +kernel) (by decide +kernel), wd_of 71 (by decide +kernel) (by decide +kernel), by decide +kernel, by decide +kernel, Or.inl (wd_of 555 (by decide +kernel) (by decide +kernel))⟩, wd_of 556 (by decide +kernel) (by decide +kernel), wd_of 557 (by decide +kernel) (by decide +kernel), (RX6, TX6, 11), rfl, rfl⟩
theorem cw_L_68 : CWV RL 68 yX7_raise cX7_raise 3 (some .int) 2 7 := ⟨⟨wd_of 900 (by decide +kernel) (by decide +kernel), wd_of 83 (by decide +kernel) (by decide +kernel), by decide +kernel, by decide +kernel, Or.inl (wd_of 897 (by decide +kernel) (by decide +kernel))⟩, wd_of 898 (by decide +kernel) (by decide +kernel), wd_of 899 (by decide +kernel) (by decide +kernel), (RX7, TX7, 26), rfl, rfl⟩
theorem cw_L_69 : CWV RL 69 yX6_undo cX6_undo 1 (some .int) 0 6 := ⟨⟨wd_of 562 (by decide +kernel) (by decide +kernel), wd_of 71 (by decide +kernel) (by decide +kernel), by decide +kernel, by decide +kernel, Or.inl (wd_of 559 (by decide +kernel) (by decide +kernel))⟩, wd_of 560 (by decide +kernel) (by decide +kernel), wd_of 561 (by decide +kernel) (by decide +kernel), (RX6, TX6, 11), rfl, rfl⟩
theorem cw_L_72 : CWV RL 72 yX7_undo cX7_undo 1 (some .int) 0 7 := ⟨⟨wd_of 904 (by decide +kernel) (by decide +kernel), wd_of 83 (by decide +kernel) (by decide +kernel), by decide +kernel, by decide +kernel, Or.inl (wd_of 901 (by decide +kernel) (by decide +kernel))⟩, wd_of 902 (by decide +kernel) (by decide +kernel), wd_of 903 (by decide +kernel) (by decide +kernel), (RX7, TX7, 26), rfl, rfl⟩
theorem cw_L_73 : CWV RL 73 yX6_behind cX6_behind 6 (some .int) 3 6 := ⟨⟨wd_of 570 (by decide +kernel) (by decide +kernel), wd_of 71 (by decide +kernel) (by decide +kernel), by decide +kernel, by decide +kernel, Or.inl (wd_of 567 (by decide +kernel) (by decide +kernel))⟩, wd_of 568 (by decide +kernel) (by decide +kernel), wd_of 569 (by decide +kernel) (by decide +kernel), (RX6, TX6, 11), rfl, rfl⟩
theorem cw_L_76 : CWV RL 76 yX7_behind cX7_behind 4 (some .int) 3 7 := ⟨⟨wd_of 908 (by decide +kernel) (by decide +kernel), wd_of 83 (by decide +kernel) (by decide +kernel), by decide +kernel, by decide +kernel, Or.inl (wd_of 905 (by decide +kernel) (by decide +kernel))⟩, wd_of 906 (by decide +kernel) (by decide +kernel), wd_of 907 (by decide +kernel) (by decide +kernel), (RX7, TX7, 26), rfl, rfl⟩
theorem cw_L_77 : CWV RL 77 yX6_fire cX6_fire 4 (some .int) 1 6 := ⟨⟨wd_of 574 (by decide +kernel) (by decide +kernel), wd_of 71 (by decide +kernel) (by decide +kernel), by decide +kernel, by decide +kernel, Or.inl (wd_of 571 (by decide +kernel) (by decide +kernel))⟩, wd_of 572 (by decide +kernel) (by decide +kernel), wd_of 573 (by decide +kernel) (by decide +kernel), (RX6, TX6, 11), rfl, rfl⟩
theorem cw_L_80 : CWV RL 80 yX7_fire cX7_fire 4 (some .int) 1 7 := ⟨⟨wd_of 916 (by decide +kernel) (by decide +kernel), wd_of 83 (by decide +kernel) (by decide +kernel), by decide +kernel, by decide +kernel, Or.inl (wd_of 913 (by decide +kernel) (by decide +kernel))⟩, wd_of 914 (by decide +kernel) (by decide +kernel), wd_of 915 (by decide +kernel) (by decide +kernel), (RX7, TX7, 26), rfl, rfl⟩
theorem cw_L_81 : CWV RL 81 yX6_best cX6_best 11 (some .int) 3 6 := ⟨⟨wd_of 586 (by decide +kernel) (by decide +kernel), wd_of 71 (by decide +kernel) (by decide +kernel), by decide +kernel, by decide +kernel, Or.inl (wd_of 583 (by decide +kernel) (by decide +kernel))⟩, wd_of 584 (by decide +kernel) (by decide +kernel), wd_of 585 (by decide +kernel) (by decide +kernel), (RX6, TX6, 11), rfl, rfl⟩
theorem cw_L_84 : CWV RL 84 yX7_best cX7_best 5 (some .int) 3 7 := ⟨⟨wd_of 920 (by decide +kernel) (by decide +kernel), wd_of 83 (by decide +kernel) (by decide +kernel), by decide +kernel, by decide +kernel, Or.inl (wd_of 917 (by decide +kernel) (by decide +kernel))⟩, wd_of 918 (by decide +kernel) (by decide +kernel), wd_of 919 (by decide +kernel) (by decide +kernel), (RX7, TX7, 26), rfl, rfl⟩
theorem cw_L_85 : CWV RL 85 yX6_rests cX6_rests 9 (some .int) 3 6 := ⟨⟨wd_of 598 (by decide +kernel) (by decide +kernel), wd_of 71 (by decide +kernel) (by decide +kernel), by decide +kernel, by decide +kernel, Or.inl (wd_of 595 (by decide +kernel) (by decide +kernel))⟩, wd_of 596 (by decide +kernel) (by decide +kernel), wd_of 597 (by decide +kernel) (by decide +kernel), (RX6, TX6, 11), rfl, rfl⟩
theorem cw_L_88 : CWV RL 88 yX7_rests cX7_rests 13 (some .int) 3 7 := ⟨⟨wd_of 928 (by decide +kernel) (by decide +kernel), wd_of 83 (by decide +kernel) (by decide +kernel), by decide +kernel, by decide +kernel, Or.inl (wd_of 925 (by decide +kernel) (by decide +kernel))⟩, wd_of 926 (by decide +kernel) (by decide +kernel), wd_of 927 (by decide +kernel) (by decide +kernel), (RX7, TX7, 26), rfl, rfl⟩
theorem cw_L_89 : CWV RL 89 yX6_walled cX6_walled 5 (some .int) 2 6 := ⟨⟨wd_of 613 (by decide +kernel) (by decide +kernel), wd_of 71 (by decide +kernel) (by decide +kernel), by decide +kernel, by decide +kernel, Or.inl (wd_of 610 (by decide +kernel) (by decide +kernel))⟩, wd_of 611 (by decide +kernel) (by decide +kernel), wd_of 612 (by decide +kernel) (by decide +kernel), (RX6, TX6, 11), rfl, rfl⟩
theorem cw_L_92 : CWV RL 92 yX7_walled cX7_walled 5 (some .int) 2 7 := ⟨⟨wd_of 936 (by decide +kernel) (by decide +kernel), wd_of 83 (by decide +kernel) (by decide +kernel), by decide +kernel, by decide +kernel, Or.inl (wd_of 933 (by decide +kernel) (by decide +kernel))⟩, wd_of 934 (by decide +kernel) (by decide +kernel), wd_of 935 (by decide +kernel) (by decide +kernel), (RX7, TX7, 26), rfl, rfl⟩
theorem cw_L_93 : CWV RL 93 yX6_together cX6_together 7 (some .int) 2 6 := ⟨⟨wd_of 621 (by decide +kernel) (by decide +kernel), wd_of 71 (by decide +kernel) (by decide +kernel), by decide +kernel, by decide +kernel, Or.inl (wd_of 618 (by decide +kernel) (by decide +kernel))⟩, wd_of 619 (by decide +kernel) (by decide +kernel), wd_of 620 (by decide +kernel) (by decide +kernel), (RX6, TX6, 11), rfl, rfl⟩
theorem cw_L_96 : CWV RL 96 yX7_together cX7_together 9 (some .int) 2 7 := ⟨⟨wd_of 940 (by decide +kernel) (by decide +kernel), wd_of 83 (by decide +kernel) (by decide +kernel), by decide +kernel, by decide +kernel, Or.inl (wd_of 937 (by decide +kernel) (by decide +kernel))⟩, wd_of 938 (by decide +kernel) (by decide +kernel), wd_of 939 (by decide +kernel) (by decide +kernel), (RX7, TX7, 26), rfl, rfl⟩
theorem cw_L_97 : CWV RL 97 yX6_found cX6_found 4 (some .int) 3 6 := ⟨⟨wd_of 636 (by decide +kernel) (by decide +kernel), wd_of 71 (by decide +kernel) (by decide +kernel), by decide +kernel, by decide +kernel, Or.inl (wd_of 633 (by decide +kernel) (by decide +kernel))⟩, wd_of 634 (by decide +kernel) (by decide +kernel), wd_of 635 (by decide +kernel) (by decide +kernel), (RX6, TX6, 11), rfl, rfl⟩
theorem cw_L_100 : CWV RL 100 yX7_found cX7_found 4 (some .int) 3 7 := ⟨⟨wd_of 944 (by decide +kernel) (by decide +kernel), wd_of 83 (by decide +kernel) (by decide +kernel), by decide +kernel, by decide +kernel, Or.inl (wd_of 941 (by decide +kernel) (by decide +kernel))⟩, wd_of 942 (by decide +kernel) (by decide +kernel), wd_of 943 (by decide +kernel) (by decide +kernel), (RX7, TX7, 26), rfl, rfl⟩
theorem cw_L_101 : CWV RL 101 yX6_forget cX6_forget 2 (some .int) 0 6 := ⟨⟨wd_of 644 (by decide +kernel) (by decide +kernel), wd_of 71 (by decide +kernel) (by decide +kernel), by decide +kernel, by decide +kernel, Or.inl (wd_of 641 (by decide +kernel) (by decide +kernel))⟩, wd_of 642 (by decide +kernel) (by decide +kernel), wd_of 643 (by decide +kernel) (by decide +kernel), (RX6, TX6, 11), rfl, rfl⟩
theorem cw_L_104 : CWV RL 104 yX7_forget cX7_forget 2 (some .int) 0 7 := ⟨⟨wd_of 948 (by decide +kernel) (by decide +kernel), wd_of 83 (by decide +kernel) (by decide +kernel), by decide +kernel, by decide +kernel, Or.inl (wd_of 945 (by decide +kernel) (by decide +kernel))⟩, wd_of 946 (by decide +kernel) (by decide +kernel), wd_of 947 (by decide +kernel) (by decide +kernel), (RX7, TX7, 26), rfl, rfl⟩
theorem cw_L_105 : CWV RL 105 yX6_hoard cX6_hoard 6 (some .int) 2 6 := ⟨⟨wd_of 648 (by decide +kernel) (by decide +kernel), wd_of 71 (by decide +kernel) (by decide +kernel), by decide +kernel, by decide +kernel, Or.inl (wd_of 645 (by decide +kernel) (by decide +kernel))⟩, wd_of 646 (by decide +kernel) (by decide +kernel), wd_of 647 (by decide +kernel) (by decide +kernel), (RX6, TX6, 11), rfl, rfl⟩
theorem cw_L_108 : CWV RL 108 yX7_hoard cX7_hoard 6 (some .int) 2 7 := ⟨⟨wd_of 952 (by decide +kernel) (by decide +kernel), wd_of 83 (by decide +kernel) (by decide +kernel), by decide +kernel, by decide +kernel, Or.inl (wd_of 949 (by decide +kernel) (by decide +kernel))⟩, wd_of 950 (by decide +kernel) (by decide +kernel), wd_of 951 (by decide +kernel) (by decide +kernel), (RX7, TX7, 26), rfl, rfl⟩
theorem cw_L_109 : CWV RL 109 yX6_whose cX6_whose 6 (some .int) 3 6 := ⟨⟨wd_of 666 (by decide +kernel) (by decide +kernel), wd_of 71 (by decide +kernel) (by decide +kernel), by decide +kernel, by decide +kernel, Or.inl (wd_of 663 (by decide +kernel) (by decide +kernel))⟩, wd_of 664 (by decide +kernel) (by decide +kernel), wd_of 665 (by decide +kernel) (by decide +kernel), (RX6, TX6, 11), rfl, rfl⟩
theorem cw_L_112 : CWV RL 112 yX7_whose cX7_whose 7 (some .int) 3 7 := ⟨⟨wd_of 960 (by decide +kernel) (by decide +kernel), wd_of 83 (by decide +kernel) (by decide +kernel), by decide +kernel, by decide +kernel, Or.inl (wd_of 957 (by decide +kernel) (by decide +kernel))⟩, wd_of 958 (by decide +kernel) (by decide +kernel), wd_of 959 (by decide +kernel) (by decide +kernel), (RX7, TX7, 26), rfl, rfl⟩
theorem cw_L_113 : CWV RL 113 yX6_springs cX6_springs 5 (some .int) 3 6 := ⟨⟨wd_of 678 (by decide +kernel) (by decide +kernel), wd_of 71 (by decide +kernel) (by decide +kernel), by decide +kernel, by decide +kernel, Or.inl (wd_of 675 (by decide +kernel) (by decide +kernel))⟩, wd_of 676 (by decide +kernel) (by decide +kernel), wd_of 677 (by decide +kernel) (by decide +kernel), (RX6, TX6, 11), rfl, rfl⟩
theorem cw_L_116 : CWV RL 116 yX7_springs cX7_springs 9 (some .int) 3 7 := ⟨⟨wd_of 964 (by decide +kernel) (by decide +kernel), wd_of 83 (by decide +kernel) (by decide +kernel), by decide +kernel, by decide +kernel, Or.inl (wd_of 961 (by decide +kernel) (by decide +kernel))⟩, wd_of 962 (by decide +kernel) (by decide +kernel), wd_of 963 (by decide +kernel) (by decide +kernel), (RX7, TX7, 26), rfl, rfl⟩
theorem cw_L_117 : CWV RL 117 yX6_keep cX6_keep 1 (some .int) 0 6 := ⟨⟨wd_of 697 (by decide +kernel) (by decide +kernel), wd_of 71 (by decide +kernel) (by decide +kernel), by decide +kernel, by decide +kernel, Or.inl (wd_of 694 (by decide +kernel) (by decide +kernel))⟩, wd_of 695 (by decide +kernel) (by decide +kernel), wd_of 696 (by decide +kernel) (by decide +kernel), (RX6, TX6, 11), rfl, rfl⟩
theorem cw_L_120 : CWV RL 120 yX7_keep cX7_keep 1 (some .int) 0 7 := ⟨⟨wd_of 982 (by decide +kernel) (by decide +kernel), wd_of 83 (by decide +kernel) (by decide +kernel), by decide +kernel, by decide +kernel, Or.inl (wd_of 979 (by decide +kernel) (by decide +kernel))⟩, wd_of 980 (by decide +kernel) (by decide +kernel), wd_of 981 (by decide +kernel) (by decide +kernel), (RX7, TX7, 26), rfl, rfl⟩
theorem cw_L_121 : CWV RL 121 yX6_back cX6_back 1 (some .int) 0 6 := ⟨⟨wd_of 701 (by decide +kernel) (by decide +kernel), wd_of 71 (by decide +kernel) (by decide +kernel), by decide +kernel, by decide +kernel, Or.inl (wd_of 698 (by decide +kernel) (by decide +kernel))⟩, wd_of 699 (by decide +kernel) (by decide +kernel), wd_of 700 (by decide +kernel) (by decide +kernel), (RX6, TX6, 11), rfl, rfl⟩
theorem cw_L_124 : CWV RL 124 yX7_back cX7_back 1 (some .int) 0 7 := ⟨⟨wd_of 986 (by decide +kernel) (by decide +kernel), wd_of 83 (by decide +kernel) (by decide +kernel), by decide +kernel, by decide +kernel, Or.inl (wd_of 983 (by decide +kernel) (by decide +kernel))⟩, wd_of 984 (by decide +kernel) (by decide +kernel), wd_of 985 (by decide +kernel) (by decide +kernel), (RX7, TX7, 26), rfl, rfl⟩
theorem cw_L_125 : CWV RL 125 yX6_count cX6_count 2 (some .int) 1 6 := ⟨⟨wd_of 705 (by decide +kernel) (by decide +kernel), wd_of 71 (by decide +kernel) (by decide +kernel), by decide +kernel, by decide +kernel, Or.inl (wd_of 702 (by decide +kernel) (by decide +kernel))⟩, wd_of 703 (by decide +kernel) (by decide +kernel), wd_of 704 (by decide +kernel) (by decide +kernel), (RX6, TX6, 11), rfl, rfl⟩
theorem cw_L_128 : CWV RL 128 yX7_count cX7_count 4 (some .int) 1 7 := ⟨⟨wd_of 990 (by decide +kernel) (by decide +kernel), wd_of 83 (by decide +kernel) (by decide +kernel), by decide +kernel, by decide +kernel, Or.inl (wd_of 987 (by decide +kernel) (by decide +kernel))⟩, wd_of 988 (by decide +kernel) (by decide +kernel), wd_of 989 (by decide +kernel) (by decide +kernel), (RX7, TX7, 26), rfl, rfl⟩
theorem cw_X7_59 : CWV RX7 59 yX7_layTown cX7_layTown 7 none 6 7 := ⟨⟨wd_of 719 (by decide +kernel) (by decide +kernel), wd_of 83 (by decide +kernel) (by decide +kernel), by decide +kernel, by decide +kernel, Or.inl (wd_of 716 (by decide +kernel) (by decide +kernel))⟩, wd_of 718 (by decide +kernel) (by decide +kernel), wd_of 52 (by decide +kernel) (by decide +kernel), (RX7, TX7, 26), rfl, rfl⟩
theorem cw_X7_63 : CWS RX7 63 yX7_copy cX7_copy 5 none 4 := ⟨⟨wd_of 722 (by decide +kernel) (by decide +kernel), wd_of 83 (by decide +kernel) (by decide +kernel), by decide +kernel, by decide +kernel, Or.inl (wd_of 720 (by decide +kernel) (by decide +kernel))⟩, wd_of 721 (by decide +kernel) (by decide +kernel)⟩
theorem cw_X7_67 : CWS RX7 67 yX7_in cX7_in 3 (some .boolean) 3 := ⟨⟨wd_of 808 (by decide +kernel) (by decide +kernel), wd_of 83 (by decide +kernel) (by decide +kernel), by decide +kernel, by decide +kernel, Or.inl (wd_of 806 (by decide +kernel) (by decide +kernel))⟩, wd_of 807 (by decide +kernel) (by decide +kernel)⟩
theorem cw_X7_77 : CWV RX7 77 yX7_letterAt cX7_letterAt 2 (some .int) 1 7 := ⟨⟨wd_of 828 (by decide +kernel) (by decide +kernel), wd_of 83 (by decide +kernel) (by decide +kernel), by decide +kernel, by decide +kernel, Or.inl (wd_of 825 (by decide +kernel) (by decide +kernel))⟩, wd_of 827 (by decide +kernel) (by decide +kernel), wd_of 55 (by decide +kernel) (by decide +kernel), (RX7, TX7, 26), rfl, rfl⟩
theorem cw_X7_84 : CWV RX7 84 yX7_isRow cX7_isRow 5 (some .boolean) 1 7 := ⟨⟨wd_of 832 (by decide +kernel) (by decide +kernel), wd_of 83 (by decide +kernel) (by decide +kernel), by decide +kernel, by decide +kernel, Or.inl (wd_of 829 (by decide +kernel) (by decide +kernel))⟩, wd_of 831 (by decide +kernel) (by decide +kernel), wd_of 56 (by decide +kernel) (by decide +kernel), (RX7, TX7, 26), rfl, rfl⟩
theorem cw_X7_97 : CWV RX7 97 yX7_isItem cX7_isItem 2 (some .boolean) 0 7 := ⟨⟨wd_of 824 (by decide +kernel) (by decide +kernel), wd_of 83 (by decide +kernel) (by decide +kernel), by decide +kernel, by decide +kernel, Or.inl (wd_of 821 (by decide +kernel) (by decide +kernel))⟩, wd_of 823 (by decide +kernel) (by decide +kernel), wd_of 54 (by decide +kernel) (by decide +kernel), (RX7, TX7, 26), rfl, rfl⟩
theorem cw_X7_101 : CWV RX7 101 yX7_isRead cX7_isRead 2 (some .boolean) 0 7 := ⟨⟨wd_of 820 (by decide +kernel) (by decide +kernel), wd_of 83 (by decide +kernel) (by decide +kernel), by decide +kernel, by decide +kernel, Or.inl (wd_of 817 (by decide +kernel) (by decide +kernel))⟩, wd_of 819 (by decide +kernel) (by decide +kernel), wd_of 53 (by decide +kernel) (by decide +kernel), (RX7, TX7, 26), rfl, rfl⟩
theorem cw_X7_113 : CWV RX7 113 yX7_isTown cX7_isTown 2 (some .boolean) 1 7 := ⟨⟨wd_of 844 (by decide +kernel) (by decide +kernel), wd_of 83 (by decide +kernel) (by decide +kernel), by decide +kernel, by decide +kernel, Or.inl (wd_of 841 (by decide +kernel) (by decide +kernel))⟩, wd_of 843 (by decide +kernel) (by decide +kernel), wd_of 57 (by decide +kernel) (by decide +kernel), (RX7, TX7, 26), rfl, rfl⟩
theorem cw_X7_116 : CWV RX7 116 yX7_isCrew cX7_isCrew 2 (some .boolean) 1 7 := ⟨⟨wd_of 852 (by decide +kernel) (by decide +kernel), wd_of 83 (by decide +kernel) (by decide +kernel), by decide +kernel, by decide +kernel, Or.inl (wd_of 849 (by decide +kernel) (by decide +kernel))⟩, wd_of 851 (by decide +kernel) (by decide +kernel), wd_of 58 (by decide +kernel) (by decide +kernel), (RX7, TX7, 26), rfl, rfl⟩
theorem cw_X7_119 : CWV RX7 119 yX7_askOf cX7_askOf 6 (some .int) 3 7 := ⟨⟨wd_of 864 (by decide +kernel) (by decide +kernel), wd_of 83 (by decide +kernel) (by decide +kernel), by decide +kernel, by decide +kernel, Or.inl (wd_of 861 (by decide +kernel) (by decide +kernel))⟩, wd_of 863 (by decide +kernel) (by decide +kernel), wd_of 59 (by decide +kernel) (by decide +kernel), (RX7, TX7, 26), rfl, rfl⟩
theorem cw_X7_123 : CWV RX7 123 yX7_pays cX7_pays 5 (some .int) 4 7 := ⟨⟨wd_of 884 (by decide +kernel) (by decide +kernel), wd_of 83 (by decide +kernel) (by decide +kernel), by decide +kernel, by decide +kernel, Or.inl (wd_of 881 (by decide +kernel) (by decide +kernel))⟩, wd_of 883 (by decide +kernel) (by decide +kernel), wd_of 63 (by decide +kernel) (by decide +kernel), (RX7, TX7, 26), rfl, rfl⟩
theorem cw_X7_127 : CWV RX7 127 yX7_comeUp cX7_comeUp 8 none 2 7 := ⟨⟨wd_of 880 (by decide +kernel) (by decide +kernel), wd_of 83 (by decide +kernel) (by decide +kernel), by decide +kernel, by decide +kernel, Or.inl (wd_of 877 (by decide +kernel) (by decide +kernel))⟩, wd_of 879 (by decide +kernel) (by decide +kernel), wd_of 62 (by decide +kernel) (by decide +kernel), (RX7, TX7, 26), rfl, rfl⟩
theorem cw_X7_131 : CWV RX7 131 yX7_note cX7_note 2 none 0 7 := ⟨⟨wd_of 872 (by decide +kernel) (by decide +kernel), wd_of 83 (by decide +kernel) (by decide +kernel), by decide +kernel, by decide +kernel, Or.inl (wd_of 869 (by decide +kernel) (by decide +kernel))⟩, wd_of 871 (by decide +kernel) (by decide +kernel), wd_of 60 (by decide +kernel) (by decide +kernel), (RX7, TX7, 26), rfl, rfl⟩
theorem cw_X7_134 : CWV RX7 134 yX7_spring cX7_spring 4 none 1 7 := ⟨⟨wd_of 876 (by decide +kernel) (by decide +kernel), wd_of 83 (by decide +kernel) (by decide +kernel), by decide +kernel, by decide +kernel, Or.inl (wd_of 873 (by decide +kernel) (by decide +kernel))⟩, wd_of 875 (by decide +kernel) (by decide +kernel), wd_of 61 (by decide +kernel) (by decide +kernel), (RX7, TX7, 26), rfl, rfl⟩
theorem cw_X7_138 : CWV RX7 138 yX7_tryOn cX7_tryOn 4 none 2 7 := ⟨⟨wd_of 912 (by decide +kernel) (by decide +kernel), wd_of 83 (by decide +kernel) (by decide +kernel), by decide +kernel, by decide +kernel, Or.inl (wd_of 909 (by decide +kernel) (by decide +kernel))⟩, wd_of 911 (by decide +kernel) (by decide +kernel), wd_of 64 (by decide +kernel) (by decide +kernel), (RX7, TX7, 26), rfl, rfl⟩
theorem cw_X7_144 : CWV RX7 144 yX7_layBest cX7_layBest 8 (some .int) 2 7 := ⟨⟨wd_of 924 (by decide +kernel) (by decide +kernel), wd_of 83 (by decide +kernel) (by decide +kernel), by decide +kernel, by decide +kernel, Or.inl (wd_of 921 (by decide +kernel) (by decide +kernel))⟩, wd_of 923 (by decide +kernel) (by decide +kernel), wd_of 65 (by decide +kernel) (by decide +kernel), (RX7, TX7, 26), rfl, rfl⟩
theorem cw_X7_148 : CWV RX7 148 yX7_silverBy cX7_silverBy 6 (some .int) 5 7 := ⟨⟨wd_of 932 (by decide +kernel) (by decide +kernel), wd_of 83 (by decide +kernel) (by decide +kernel), by decide +kernel, by decide +kernel, Or.inl (wd_of 929 (by decide +kernel) (by decide +kernel))⟩, wd_of 931 (by decide +kernel) (by decide +kernel), wd_of 66 (by decide +kernel) (by decide +kernel), (RX7, TX7, 26), rfl, rfl⟩
theorem cw_X7_152 : CWV RX7 152 yX7_isSo cX7_isSo 6 (some .boolean) 2 7 := ⟨⟨wd_of 956 (by decide +kernel) (by decide +kernel), wd_of 83 (by decide +kernel) (by decide +kernel), by decide +kernel, by decide +kernel, Or.inl (wd_of 953 (by decide +kernel) (by decide +kernel))⟩, wd_of 955 (by decide +kernel) (by decide +kernel), wd_of 67 (by decide +kernel) (by decide +kernel), (RX7, TX7, 26), rfl, rfl⟩
theorem cw_X7_168 : CWV RX7 168 yX7_burntOf cX7_burntOf 4 (some .int) 1 7 := ⟨⟨wd_of 974 (by decide +kernel) (by decide +kernel), wd_of 83 (by decide +kernel) (by decide +kernel), by decide +kernel, by decide +kernel, Or.inl (wd_of 971 (by decide +kernel) (by decide +kernel))⟩, wd_of 973 (by decide +kernel) (by decide +kernel), wd_of 68 (by decide +kernel) (by decide +kernel), (RX7, TX7, 26), rfl, rfl⟩
theorem cw_X7_172 : CWV RX7 172 yX7_silverOf cX7_silverOf 4 (some .int) 1 7 := ⟨⟨wd_of 978 (by decide +kernel) (by decide +kernel), wd_of 83 (by decide +kernel) (by decide +kernel), by decide +kernel, by decide +kernel, Or.inl (wd_of 975 (by decide +kernel) (by decide +kernel))⟩, wd_of 977 (by decide +kernel) (by decide +kernel), wd_of 69 (by decide +kernel) (by decide +kernel), (RX7, TX7, 26), rfl, rfl⟩
end
section
/-! blocks, numbers, small rows -/
def ksTown : List (Nat × Nat) := [(5, 0)]
def ksCrew : List (Nat × Nat) := [(0, 0), (8, 6)]
def ksRiver : List (Nat × Nat) := [(3, 0), (10, 0), (11, 0), (5, 0), (5, 0), (5, 0), (5, 0), (5, 0), (5, 0), (0, 0), (8, 6), (0, 0), (8, 6), (0, 0), (8, 6)]
def ksFinds : List (Nat × Nat) := [(1, 0), (8, 6), (8, 6), (8, 6)]
def ksReader : List (Nat × Nat) := [(2, 0), (8, 4)]
def rivs : Nat → List (Nat × Nat)
  | 0 => []
  | n + 1 => ksRiver ++ rivs n
def ksShelf (n : Nat) : List (Nat × Nat) := (4, 0) :: (12, n) :: rivs n
def ksCh (m : Nat) : List (Nat × Nat) := [(9, m)]
def ksI16 : List (Nat × Nat) := [(8, 16)]
def ksMain : List (Nat × Nat) := (6, 0) :: (9, 200) :: (2, 0) :: (8, 4) :: (ksRiver ++ ((2, 0) :: (8, 4) :: (9, 72) :: (ksRiver ++ ((2, 0) :: (8, 4) :: (9, 72) :: (ksRiver ++ (ksShelf 8 ++ (ksShelf 2 ++ (ksFinds ++ [(8, 16), (8, 16)]))))))))
def ksModel : List (Nat × Nat) := [(7, 0), (8, 200), (8, 4), (8, 6), (8, 64), (8, 6), (8, 64), (8, 64), (8, 64), (8, 512), (8, 128), (8, 18), (8, 4), (8, 4)]
def fp0 (_ : Nat) : Prop := False
def fp1 (o n q : Nat) : Prop := o ≤ q ∧ q < o + n
def fp2 (o n o' n' q : Nat) : Prop := (o ≤ q ∧ q < o + n) ∨ (o' ≤ q ∧ q < o' + n')
def optT (b : Nat) (r : Option Nat) : Value := match r with | some k => .ref (b + k) | none => .null
def optC (b : Nat) (r : Option Nat) : Value := match r with | some k => .ref (b + 2 * k) | none => .null
theorem opt_or (u : Option Nat) : u = none ∨ ∃ k, u = some k := by cases u <;> simp
theorem nI_inc (n : Nat) {x : Int32} (h : x = nI n) : x + Int32.ofInt 1 = nI (n + 1) := by subst h; exact nI_1 n
theorem nf_eq {a b : Nat} {x y : Int32} (ha : a < 2 ^ 31) (hb : b < 2 ^ 31) (hx : x = nI a) (hy : y = nI b) (h : x = y) : a = b := by subst hx; subst hy; exact (nI_eq ha hb).mp h
theorem nf_eqn {a b : Nat} {x y : Int32} (ha : a < 2 ^ 31) (hb : b < 2 ^ 31) (hx : x = nI a) (hy : y = nI b) (h : ¬ x = y) : ¬ a = b := by subst hx; subst hy; exact fun r => h ((nI_eq ha hb).mpr r)
theorem nf_ltI {a b : Nat} {x y : Int32} (ha : a < 2 ^ 31) (hb : b < 2 ^ 31) (hx : x = nI a) (hy : y = nI b) (h : x < y) : a < b := by subst hx; subst hy; exact (nI_ltI ha hb).mp h
theorem nf_ltIn {a b : Nat} {x y : Int32} (ha : a < 2 ^ 31) (hb : b < 2 ^ 31) (hx : x = nI a) (hy : y = nI b) (h : ¬ x < y) : ¬ a < b := by subst hx; subst hy; exact fun r => h ((nI_ltI ha hb).mpr r)
theorem nf_leI {a b : Nat} {x y : Int32} (ha : a < 2 ^ 31) (hb : b < 2 ^ 31) (hx : x = nI a) (hy : y = nI b) (h : x ≤ y) : a ≤ b := by subst hx; subst hy; exact (nI_leI ha hb).mp h
theorem nf_leIn {a b : Nat} {x y : Int32} (ha : a < 2 ^ 31) (hb : b < 2 ^ 31) (hx : x = nI a) (hy : y = nI b) (h : ¬ x ≤ y) : ¬ a ≤ b := by subst hx; subst hy; exact fun r => h ((nI_leI ha hb).mpr r)
theorem vp_in_n {x : Int32} {n N : Nat} (hx : x = nI n) (h : n < N) (hN : N < 2 ^ 31) : vp_in x N := by subst hx; exact vp_in_nI h hN
theorem vp_in_c (n : Nat) {x : Int32} {N : Nat} (hx : x = nI n) (h : n < N ∧ N < 2 ^ 31) : vp_in x N := vp_in_n hx h.1 h.2
theorem cl_n {x : Int32} {n : Nat} (hx : x = nI n) (h : n < 2 ^ 31) : x.toNatClampNeg = n := by subst hx; exact nI_clamp h
theorem x_lo1 {x : Int32} (h : ¬ x < 0) : 0 ≤ x.toInt := by
  rw [Int32.lt_iff_toInt_lt] at h
  have : (0 : Int32).toInt = 0 := rfl
  omega
theorem x_lo2 {x : Int32} (h : 0 ≤ x) : 0 ≤ x.toInt := by
  rw [Int32.le_iff_toInt_le] at h
  have : (0 : Int32).toInt = 0 := rfl
  omega
theorem x_hi1 {x : Int32} {N : Nat} (h : ¬ nI N ≤ x) (hN : N < 2 ^ 31) : x.toInt < N := by
  rw [Int32.le_iff_toInt_le, nI_toInt hN] at h
  omega
theorem x_hi2 {x : Int32} {N : Nat} (h : x < nI N) (hN : N < 2 ^ 31) : x.toInt < N := by
  rw [Int32.lt_iff_toInt_lt, nI_toInt hN] at h
  omega
theorem vp_in_lh {x : Int32} {M N : Nat} (lo : 0 ≤ x.toInt) (hi : x.toInt < (M : Int)) (hM : M ≤ N) : vp_in x N := vp_in_iff.mpr ⟨lo, by omega⟩
theorem lt_of_in {x : Int32} {N : Nat} (h : vp_in x N) : x.toNatClampNeg < N := Nat.not_le.mp fun q => h (Or.inr q)
theorem nz_pos {x : Int32} (h : 0 < x) : ¬ x = 0 := by rintro rfl; exact absurd h (by decide)
theorem nz_nle {x : Int32} (h : ¬ x ≤ 0) : ¬ x = 0 := by rintro rfl; exact h (by decide)
theorem bl_ab {D : DD} {ks : List (Nat × Nat)} {o : Nat} {R : Nat → Nat → Int32} {H : Heap} {k : Nat} (hb : blk D ks o R H) (h : ks[k]? = some (0, 0) ∨ ks[k]? = some (5, 0)) : bl (R k 0) ∧ bl (R k 1) := by
  rcases h with h | h
  · have h1 := hb k _ h
    rw [celO_0] at h1
    exact h1.2
  · have h1 := hb k _ h
    rw [celO_5] at h1
    exact h1.2
theorem bl_a {D : DD} {ks : List (Nat × Nat)} {o : Nat} {R : Nat → Nat → Int32} {H : Heap} {k : Nat} (hb : blk D ks o R H) (h : ks[k]? = some (0, 0) ∨ ks[k]? = some (5, 0)) : bl (R k 0) := (bl_ab hb h).1
theorem bl_b {D : DD} {ks : List (Nat × Nat)} {o : Nat} {R : Nat → Nat → Int32} {H : Heap} {k : Nat} (hb : blk D ks o R H) (h : ks[k]? = some (0, 0) ∨ ks[k]? = some (5, 0)) : bl (R k 1) := (bl_ab hb h).2
theorem tsw_out {x : Int32} (m : Nat) (hm : m < 2 ^ 31) (h : ∀ k : Nat, k ≤ m → ¬ x = nI k) : x.toInt < 0 ∨ ((m : Nat) : Int) < x.toInt := by
  by_cases h0 : x.toInt < 0
  · exact Or.inl h0
  · refine Or.inr (Int.not_le.mp fun h1 => ?_)
    refine h x.toInt.toNat (by omega) (Int32.toInt_inj.mp ?_)
    rw [nI_toInt (by omega)]
    omega
theorem kRiver_3_1 : ∀ t, t < 6 → ksRiver[3 + t]? = some (5, 0) := by decide
theorem kRiver_9_2 : ∀ t, t < 3 → ksRiver[9 + 2 * t]? = some (0, 0) := by decide
theorem kRiver_10_2 : ∀ t, t < 3 → ksRiver[10 + 2 * t]? = some (8, 6) := by decide
theorem sRiver_3_1_1 : ∀ t, t < 6 → (ksRiver.drop (3 + t)).take 1 = ksTown := by decide
theorem sRiver_9_2_2 : ∀ t, t < 3 → (ksRiver.drop (9 + 2 * t)).take 2 = ksCrew := by decide
theorem kMain_7_1 : ∀ t, t < 6 → ksMain[7 + t]? = some (5, 0) := by decide
theorem kMain_13_2 : ∀ t, t < 3 → ksMain[13 + 2 * t]? = some (0, 0) := by decide
theorem kMain_14_2 : ∀ t, t < 3 → ksMain[14 + 2 * t]? = some (8, 6) := by decide
theorem sMain_7_1_1 : ∀ t, t < 6 → (ksMain.drop (7 + t)).take 1 = ksTown := by decide
theorem sMain_13_2_2 : ∀ t, t < 3 → (ksMain.drop (13 + 2 * t)).take 2 = ksCrew := by decide
theorem kMain_25_1 : ∀ t, t < 6 → ksMain[25 + t]? = some (5, 0) := by decide
theorem kMain_31_2 : ∀ t, t < 3 → ksMain[31 + 2 * t]? = some (0, 0) := by decide
theorem kMain_32_2 : ∀ t, t < 3 → ksMain[32 + 2 * t]? = some (8, 6) := by decide
theorem sMain_25_1_1 : ∀ t, t < 6 → (ksMain.drop (25 + t)).take 1 = ksTown := by decide
theorem sMain_31_2_2 : ∀ t, t < 3 → (ksMain.drop (31 + 2 * t)).take 2 = ksCrew := by decide
theorem kMain_43_1 : ∀ t, t < 6 → ksMain[43 + t]? = some (5, 0) := by decide
theorem kMain_49_2 : ∀ t, t < 3 → ksMain[49 + 2 * t]? = some (0, 0) := by decide
theorem kMain_50_2 : ∀ t, t < 3 → ksMain[50 + 2 * t]? = some (8, 6) := by decide
theorem sMain_43_1_1 : ∀ t, t < 6 → (ksMain.drop (43 + t)).take 1 = ksTown := by decide
theorem sMain_49_2_2 : ∀ t, t < 3 → (ksMain.drop (49 + 2 * t)).take 2 = ksCrew := by decide
theorem nnat {x : Int32} {a : Nat} (h : x = nI a) (ha : a < 2 ^ 31) : x = nI x.toNatClampNeg := by subst h; rw [nI_clamp ha]
theorem nn_of {x : Int32} (lo : 0 ≤ x.toInt) : x = nI x.toNatClampNeg := by
  have h2 := x.toInt_lt
  refine Int32.toInt_inj.mp ?_
  have h1 : x.toNatClampNeg = x.toInt.toNat := rfl
  rw [h1, nI_toInt (by omega)]
  omega
def lpair (a b : Slot) : Prop := (a = .unset ∧ b = .unset) ∨ ∃ v : Int64, a = .val (.long v) ∧ b = .second
theorem st_long {ls : List Slot} {k : Nat} {a b : Slot} {v : Int64} (h1 : ls[k]? = some a) (h2 : ls[k + 1]? = some b) (h : lpair a b) : storeLocals ls.toArray k (.long v) = some ((ls.set k (.val (.long v))).set (k + 1) .second).toArray := by
  have g1 : ls.toArray[k]? = some a := by rw [List.getElem?_toArray]; exact h1
  have l1 : k < ls.length := (List.getElem?_eq_some_iff.mp h1).1
  have l2 : k + 1 < ls.length := (List.getElem?_eq_some_iff.mp h2).1
  have e1 := (List.getElem?_eq_some_iff.mp h1).2
  have e2 := (List.getElem?_eq_some_iff.mp h2).2
  rcases h with ⟨rfl, rfl⟩ | ⟨w, rfl, rfl⟩
  · simp [storeLocals, storeSelf, setAt, g1, l1, l2, Value.category, h2, e1, e2]
  · simp [storeLocals, storeSelf, setAt, g1, l1, l2, Value.category, e1, e2]
    apply List.ext_getElem?
    intro i
    simp only [List.getElem?_set]
    split <;> split <;> simp_all <;> omega
theorem r_lstoreP {x : CX} {own : String} {cc : ByteArray} {nL : Nat} {D : DD} {ret : Option FieldType} {rm : Room} {A : Nat → Prop} {Q : State → Prop} {H : Heap} {cs sl pc n : Nat} {ls : List Slot} {rest : List Value} (C : Cx x own cc nL D ret rm) {k : Nat} (d : dec cc pc (.lstore k) 2 n) {v : Int64} {a b : Slot} (h1 : ls[k]? = some a) (h2 : ls[k + 1]? = some b) (h : lpair a b) {ls' : List Slot} (he : (ls.set k (.val (.long v))).set (k + 1) .second = ls') (kk : WG x A Q H cs sl n ls' rest) : WG x A Q H cs sl pc ls (.long v :: rest) := by
  subst he
  exact r_lstore C d (st_long h1 h2 h) kk
theorem rivs_len : ∀ n, (rivs n).length = 15 * n := by
  intro n
  induction n with
  | zero => rfl
  | succ n ih => simp only [rivs, List.length_append, ih]; simp [ksRiver]; omega
theorem lenShelf (n : Nat) : (ksShelf n).length = 2 + 15 * n := by simp only [ksShelf, List.length_cons, rivs_len]; omega
theorem rivs_at : ∀ n w, w < n → (rivs n).drop (15 * w) = ksRiver ++ rivs (n - w - 1) := by
  intro n
  induction n with
  | zero => intro w h; omega
  | succ n ih =>
    intro w h
    cases w with
    | zero => rfl
    | succ w =>
      have e : 15 * (w + 1) = ksRiver.length + 15 * w := by simp [ksRiver]; omega
      rw [e]
      simp only [rivs]
      rw [List.drop_append, show ksRiver.length + 15 * w - ksRiver.length = 15 * w by omega, List.drop_eq_nil_of_le (by omega), List.nil_append, ih w (by omega), show n + 1 - (w + 1) - 1 = n - w - 1 by omega]
theorem sShelf_2_15_15 {n : Nat} (w : Nat) (h : w < n) : ((ksShelf n).drop (2 + 15 * w)).take 15 = ksRiver := by
  rw [show 2 + 15 * w = (15 * w).succ.succ by omega]
  show ((rivs n).drop (15 * w)).take 15 = ksRiver
  rw [rivs_at n w h]
  rfl
theorem kShelf_2_15 {n : Nat} (w : Nat) (h : w < n) : (ksShelf n)[2 + 15 * w]? = some (3, 0) := by
  have h1 := sShelf_2_15_15 w h
  have h2 : (((ksShelf n).drop (2 + 15 * w)).take 15)[0]? = some (3, 0) := by rw [h1]; rfl
  rw [List.getElem?_take, if_pos (by omega), List.getElem?_drop] at h2
  exact h2
theorem pt_ok {n k : Nat} {w : Int32} {R : Nat → Nat → Int32} (h : ∀ j, j < n → (R 1 j).toNatClampNeg < n) (hw : w.toNatClampNeg < n) : ∀ j, j < n → (pt R 1 k w 1 j).toNatClampNeg < n := by
  intro j hj
  simp only [pt, va_up, if_true, upd]
  split
  · exact hw
  · exact h j hj
theorem imin_nn {x y : Int32} {a b : Nat} (hx : x = nI a) (hy : y = nI b) (ha : a < 2 ^ 31) (hb : b < 2 ^ 31) : imin x y = nI (min a b) := by
  subst hx; subst hy
  unfold imin
  split
  · rename_i h; have := (nI_ltI hb ha).mp h; rw [Nat.min_eq_right (by omega)]
  · rename_i h; have : ¬ b < a := fun r => h ((nI_ltI hb ha).mpr r); rw [Nat.min_eq_left (by omega)]
theorem r_isubN {x : CX} {own : String} {cc : ByteArray} {nL : Nat} {D : DD} {ret : Option FieldType} {rm : Room} {A : Nat → Prop} {Q : State → Prop} {H : Heap} {cs sl pc n : Nat} {ls : List Slot} {rest : List Value} (C : Cx x own cc nL D ret rm) {a b : Int32} (d : dec cc pc .isub 1 n) {na nb : Nat} (ha : a = nI na) (hb : b = nI nb) (hle : nb ≤ na) {nc : Nat} (hc : na - nb = nc) (kk : WG x A Q H cs sl n ls (.int (nI nc) :: rest)) : WG x A Q H cs sl pc ls (.int b :: .int a :: rest) := by
  subst ha; subst hb; subst hc
  refine r_isub C d ?_
  rw [pk_sub hle]
  exact kk
end
section
theorem dX5_init_0 : dec cX5_init 0 (.aload_n 0) 1 1 := ⟨by decide +kernel, rfl⟩
theorem dX5_init_1 : dec cX5_init 1 (.invokespecial 3) 3 4 := ⟨by decide +kernel, rfl⟩
theorem dX5_init_4 : dec cX5_init 4 .return_ 1 5 := ⟨by decide +kernel, rfl⟩
theorem dX5_copy_0 : dec cX5_copy 0 (.aload_n 0) 1 1 := ⟨by decide +kernel, rfl⟩
theorem dX5_copy_1 : dec cX5_copy 1 (.aload_n 1) 1 2 := ⟨by decide +kernel, rfl⟩
theorem dX5_copy_2 : dec cX5_copy 2 (.getfield 9) 3 5 := ⟨by decide +kernel, rfl⟩
theorem dX5_copy_5 : dec cX5_copy 5 (.putfield 9) 3 8 := ⟨by decide +kernel, rfl⟩
theorem dX5_copy_8 : dec cX5_copy 8 (.aload_n 0) 1 9 := ⟨by decide +kernel, rfl⟩
theorem dX5_copy_9 : dec cX5_copy 9 (.aload_n 1) 1 10 := ⟨by decide +kernel, rfl⟩
theorem dX5_copy_10 : dec cX5_copy 10 (.getfield 15) 3 13 := ⟨by decide +kernel, rfl⟩
theorem dX5_copy_13 : dec cX5_copy 13 (.putfield 15) 3 16 := ⟨by decide +kernel, rfl⟩
theorem dX5_copy_16 : dec cX5_copy 16 (.aload_n 0) 1 17 := ⟨by decide +kernel, rfl⟩
theorem dX5_copy_17 : dec cX5_copy 17 (.aload_n 1) 1 18 := ⟨by decide +kernel, rfl⟩
theorem dX5_copy_18 : dec cX5_copy 18 (.getfield 18) 3 21 := ⟨by decide +kernel, rfl⟩
theorem dX5_copy_21 : dec cX5_copy 21 (.putfield 18) 3 24 := ⟨by decide +kernel, rfl⟩
theorem dX5_copy_24 : dec cX5_copy 24 (.aload_n 0) 1 25 := ⟨by decide +kernel, rfl⟩
theorem dX5_copy_25 : dec cX5_copy 25 (.aload_n 1) 1 26 := ⟨by decide +kernel, rfl⟩
theorem dX5_copy_26 : dec cX5_copy 26 (.getfield 22) 3 29 := ⟨by decide +kernel, rfl⟩
theorem dX5_copy_29 : dec cX5_copy 29 (.putfield 22) 3 32 := ⟨by decide +kernel, rfl⟩
theorem dX5_copy_32 : dec cX5_copy 32 (.aload_n 0) 1 33 := ⟨by decide +kernel, rfl⟩
theorem dX5_copy_33 : dec cX5_copy 33 (.aload_n 1) 1 34 := ⟨by decide +kernel, rfl⟩
theorem dX5_copy_34 : dec cX5_copy 34 (.getfield 25) 3 37 := ⟨by decide +kernel, rfl⟩
theorem dX5_copy_37 : dec cX5_copy 37 (.putfield 25) 3 40 := ⟨by decide +kernel, rfl⟩
theorem dX5_copy_40 : dec cX5_copy 40 (.aload_n 0) 1 41 := ⟨by decide +kernel, rfl⟩
theorem dX5_copy_41 : dec cX5_copy 41 (.aload_n 1) 1 42 := ⟨by decide +kernel, rfl⟩
theorem dX5_copy_42 : dec cX5_copy 42 (.getfield 28) 3 45 := ⟨by decide +kernel, rfl⟩
theorem dX5_copy_45 : dec cX5_copy 45 (.putfield 28) 3 48 := ⟨by decide +kernel, rfl⟩
theorem dX5_copy_48 : dec cX5_copy 48 (.aload_n 0) 1 49 := ⟨by decide +kernel, rfl⟩
theorem dX5_copy_49 : dec cX5_copy 49 (.aload_n 1) 1 50 := ⟨by decide +kernel, rfl⟩
theorem dX5_copy_50 : dec cX5_copy 50 (.getfield 31) 3 53 := ⟨by decide +kernel, rfl⟩
theorem dX5_copy_53 : dec cX5_copy 53 (.putfield 31) 3 56 := ⟨by decide +kernel, rfl⟩
theorem dX5_copy_56 : dec cX5_copy 56 (.aload_n 0) 1 57 := ⟨by decide +kernel, rfl⟩
theorem dX5_copy_57 : dec cX5_copy 57 (.aload_n 1) 1 58 := ⟨by decide +kernel, rfl⟩
theorem dX5_copy_58 : dec cX5_copy 58 (.getfield 34) 3 61 := ⟨by decide +kernel, rfl⟩
theorem dX5_copy_61 : dec cX5_copy 61 (.putfield 34) 3 64 := ⟨by decide +kernel, rfl⟩
theorem dX5_copy_64 : dec cX5_copy 64 .return_ 1 65 := ⟨by decide +kernel, rfl⟩
theorem dX5_stands_0 : dec cX5_stands 0 (.aload_n 0) 1 1 := ⟨by decide +kernel, rfl⟩
theorem dX5_stands_1 : dec cX5_stands 1 (.getfield 9) 3 4 := ⟨by decide +kernel, rfl⟩
theorem dX5_stands_4 : decJ cX5_stands 4 (.ifCond .eq) 3 7 18 := ⟨14, by decide +kernel, rfl, rfl⟩
theorem dX5_stands_7 : dec cX5_stands 7 (.aload_n 0) 1 8 := ⟨by decide +kernel, rfl⟩
theorem dX5_stands_8 : dec cX5_stands 8 (.getfield 15) 3 11 := ⟨by decide +kernel, rfl⟩
theorem dX5_stands_11 : decJ cX5_stands 11 (.ifCond .ne) 3 14 18 := ⟨7, by decide +kernel, rfl, rfl⟩
theorem dX5_stands_14 : dec cX5_stands 14 (.iconst 1) 1 15 := ⟨by decide +kernel, rfl⟩
theorem dX5_stands_15 : decJ cX5_stands 15 .goto 3 18 19 := ⟨4, by decide +kernel, rfl, rfl⟩
theorem dX5_stands_18 : dec cX5_stands 18 (.iconst 0) 1 19 := ⟨by decide +kernel, rfl⟩
theorem dX5_stands_19 : dec cX5_stands 19 .ireturn 1 20 := ⟨by decide +kernel, rfl⟩
theorem dX5_earn_0 : dec cX5_earn 0 (.aload_n 0) 1 1 := ⟨by decide +kernel, rfl⟩
theorem dX5_earn_1 : dec cX5_earn 1 (.sipush 999) 3 4 := ⟨by decide +kernel, rfl⟩
theorem dX5_earn_4 : dec cX5_earn 4 (.aload_n 0) 1 5 := ⟨by decide +kernel, rfl⟩
theorem dX5_earn_5 : dec cX5_earn 5 (.getfield 22) 3 8 := ⟨by decide +kernel, rfl⟩
theorem dX5_earn_8 : dec cX5_earn 8 (.aload_n 0) 1 9 := ⟨by decide +kernel, rfl⟩
theorem dX5_earn_9 : dec cX5_earn 9 (.getfield 25) 3 12 := ⟨by decide +kernel, rfl⟩
theorem dX5_earn_12 : dec cX5_earn 12 .iadd 1 13 := ⟨by decide +kernel, rfl⟩
theorem dX5_earn_13 : dec cX5_earn 13 (.invokestatic 37) 3 16 := ⟨by decide +kernel, rfl⟩
theorem dX5_earn_16 : dec cX5_earn 16 (.putfield 22) 3 19 := ⟨by decide +kernel, rfl⟩
theorem dX5_earn_19 : dec cX5_earn 19 .return_ 1 20 := ⟨by decide +kernel, rfl⟩
theorem dX5_build_0 : dec cX5_build 0 (.aload_n 0) 1 1 := ⟨by decide +kernel, rfl⟩
theorem dX5_build_1 : dec cX5_build 1 (.getfield 31) 3 4 := ⟨by decide +kernel, rfl⟩
theorem dX5_build_4 : dec cX5_build 4 (.iconst 3) 1 5 := ⟨by decide +kernel, rfl⟩
theorem dX5_build_5 : decJ cX5_build 5 (.if_icmp .ne) 3 8 45 := ⟨40, by decide +kernel, rfl, rfl⟩
theorem dX5_build_8 : dec cX5_build 8 (.aload_n 0) 1 9 := ⟨by decide +kernel, rfl⟩
theorem dX5_build_9 : dec cX5_build 9 (.getfield 22) 3 12 := ⟨by decide +kernel, rfl⟩
theorem dX5_build_12 : dec cX5_build 12 (.iload_n 1) 1 13 := ⟨by decide +kernel, rfl⟩
theorem dX5_build_13 : decJ cX5_build 13 (.if_icmp .lt) 3 16 45 := ⟨32, by decide +kernel, rfl, rfl⟩
theorem dX5_build_16 : dec cX5_build 16 (.aload_n 0) 1 17 := ⟨by decide +kernel, rfl⟩
theorem dX5_build_17 : dec cX5_build 17 (.getfield 28) 3 20 := ⟨by decide +kernel, rfl⟩
theorem dX5_build_20 : dec cX5_build 20 (.bipush 20) 2 22 := ⟨by decide +kernel, rfl⟩
theorem dX5_build_22 : decJ cX5_build 22 (.if_icmp .ge) 3 25 45 := ⟨23, by decide +kernel, rfl, rfl⟩
theorem dX5_build_25 : dec cX5_build 25 (.aload_n 0) 1 26 := ⟨by decide +kernel, rfl⟩
theorem dX5_build_26 : dec cX5_build 26 .dup 1 27 := ⟨by decide +kernel, rfl⟩
theorem dX5_build_27 : dec cX5_build 27 (.getfield 22) 3 30 := ⟨by decide +kernel, rfl⟩
theorem dX5_build_30 : dec cX5_build 30 (.iload_n 1) 1 31 := ⟨by decide +kernel, rfl⟩
theorem dX5_build_31 : dec cX5_build 31 .isub 1 32 := ⟨by decide +kernel, rfl⟩
theorem dX5_build_32 : dec cX5_build 32 (.putfield 22) 3 35 := ⟨by decide +kernel, rfl⟩
theorem dX5_build_35 : dec cX5_build 35 (.aload_n 0) 1 36 := ⟨by decide +kernel, rfl⟩
theorem dX5_build_36 : dec cX5_build 36 .dup 1 37 := ⟨by decide +kernel, rfl⟩
theorem dX5_build_37 : dec cX5_build 37 (.getfield 28) 3 40 := ⟨by decide +kernel, rfl⟩
theorem dX5_build_40 : dec cX5_build 40 (.iconst 1) 1 41 := ⟨by decide +kernel, rfl⟩
theorem dX5_build_41 : dec cX5_build 41 .iadd 1 42 := ⟨by decide +kernel, rfl⟩
theorem dX5_build_42 : dec cX5_build 42 (.putfield 28) 3 45 := ⟨by decide +kernel, rfl⟩
theorem dX5_build_45 : dec cX5_build 45 .return_ 1 46 := ⟨by decide +kernel, rfl⟩
theorem dX5_give_0 : dec cX5_give 0 (.aload_n 0) 1 1 := ⟨by decide +kernel, rfl⟩
theorem dX5_give_1 : dec cX5_give 1 .dup 1 2 := ⟨by decide +kernel, rfl⟩
theorem dX5_give_2 : dec cX5_give 2 (.getfield 22) 3 5 := ⟨by decide +kernel, rfl⟩
theorem dX5_give_5 : dec cX5_give 5 (.aload_n 0) 1 6 := ⟨by decide +kernel, rfl⟩
theorem dX5_give_6 : dec cX5_give 6 (.getfield 18) 3 9 := ⟨by decide +kernel, rfl⟩
theorem dX5_give_9 : dec cX5_give 9 (.iconst 2) 1 10 := ⟨by decide +kernel, rfl⟩
theorem dX5_give_10 : decJ cX5_give 10 (.if_icmp .ne) 3 13 21 := ⟨11, by decide +kernel, rfl, rfl⟩
theorem dX5_give_13 : dec cX5_give 13 (.iload_n 1) 1 14 := ⟨by decide +kernel, rfl⟩
theorem dX5_give_14 : dec cX5_give 14 (.iload_n 1) 1 15 := ⟨by decide +kernel, rfl⟩
theorem dX5_give_15 : dec cX5_give 15 (.iconst 2) 1 16 := ⟨by decide +kernel, rfl⟩
theorem dX5_give_16 : dec cX5_give 16 .idiv 1 17 := ⟨by decide +kernel, rfl⟩
theorem dX5_give_17 : dec cX5_give 17 .isub 1 18 := ⟨by decide +kernel, rfl⟩
theorem dX5_give_18 : decJ cX5_give 18 .goto 3 21 22 := ⟨4, by decide +kernel, rfl, rfl⟩
theorem dX5_give_21 : dec cX5_give 21 (.iload_n 1) 1 22 := ⟨by decide +kernel, rfl⟩
theorem dX5_give_22 : dec cX5_give 22 .isub 1 23 := ⟨by decide +kernel, rfl⟩
theorem dX5_give_23 : dec cX5_give 23 (.putfield 22) 3 26 := ⟨by decide +kernel, rfl⟩
theorem dX5_give_26 : dec cX5_give 26 (.aload_n 0) 1 27 := ⟨by decide +kernel, rfl⟩
theorem dX5_give_27 : dec cX5_give 27 .dup 1 28 := ⟨by decide +kernel, rfl⟩
theorem dX5_give_28 : dec cX5_give 28 (.getfield 34) 3 31 := ⟨by decide +kernel, rfl⟩
theorem dX5_give_31 : dec cX5_give 31 (.iload_n 1) 1 32 := ⟨by decide +kernel, rfl⟩
theorem dX5_give_32 : dec cX5_give 32 .iadd 1 33 := ⟨by decide +kernel, rfl⟩
theorem dX5_give_33 : dec cX5_give 33 (.putfield 34) 3 36 := ⟨by decide +kernel, rfl⟩
theorem dX5_give_36 : dec cX5_give 36 .return_ 1 37 := ⟨by decide +kernel, rfl⟩
theorem dX5_menHeldOff_0 : dec cX5_menHeldOff 0 (.aload_n 0) 1 1 := ⟨by decide +kernel, rfl⟩
theorem dX5_menHeldOff_1 : dec cX5_menHeldOff 1 (.getfield 28) 3 4 := ⟨by decide +kernel, rfl⟩
theorem dX5_menHeldOff_4 : dec cX5_menHeldOff 4 (.aload_n 0) 1 5 := ⟨by decide +kernel, rfl⟩
theorem dX5_menHeldOff_5 : dec cX5_menHeldOff 5 (.getfield 18) 3 8 := ⟨by decide +kernel, rfl⟩
theorem dX5_menHeldOff_8 : dec cX5_menHeldOff 8 (.iconst 1) 1 9 := ⟨by decide +kernel, rfl⟩
theorem dX5_menHeldOff_9 : decJ cX5_menHeldOff 9 (.if_icmp .ne) 3 12 17 := ⟨8, by decide +kernel, rfl, rfl⟩
theorem dX5_menHeldOff_12 : dec cX5_menHeldOff 12 (.bipush 6) 2 14 := ⟨by decide +kernel, rfl⟩
theorem dX5_menHeldOff_14 : decJ cX5_menHeldOff 14 .goto 3 17 18 := ⟨4, by decide +kernel, rfl, rfl⟩
theorem dX5_menHeldOff_17 : dec cX5_menHeldOff 17 (.iconst 5) 1 18 := ⟨by decide +kernel, rfl⟩
theorem dX5_menHeldOff_18 : dec cX5_menHeldOff 18 .imul 1 19 := ⟨by decide +kernel, rfl⟩
theorem dX5_menHeldOff_19 : dec cX5_menHeldOff 19 .ireturn 1 20 := ⟨by decide +kernel, rfl⟩
theorem dX0_init_0 : dec cX0_init 0 (.aload_n 0) 1 1 := ⟨by decide +kernel, rfl⟩
theorem dX0_init_1 : dec cX0_init 1 (.invokespecial 3) 3 4 := ⟨by decide +kernel, rfl⟩
theorem dX0_init_4 : dec cX0_init 4 (.aload_n 0) 1 5 := ⟨by decide +kernel, rfl⟩
theorem dX0_init_5 : dec cX0_init 5 (.bipush 6) 2 7 := ⟨by decide +kernel, rfl⟩
theorem dX0_init_7 : dec cX0_init 7 (.newarray .int) 2 9 := ⟨by decide +kernel, rfl⟩
theorem dX0_init_9 : dec cX0_init 9 (.putfield 9) 3 12 := ⟨by decide +kernel, rfl⟩
theorem dX0_init_12 : dec cX0_init 12 .return_ 1 13 := ⟨by decide +kernel, rfl⟩
theorem dX0_copy_0 : dec cX0_copy 0 (.aload_n 0) 1 1 := ⟨by decide +kernel, rfl⟩
theorem dX0_copy_1 : dec cX0_copy 1 (.aload_n 1) 1 2 := ⟨by decide +kernel, rfl⟩
theorem dX0_copy_2 : dec cX0_copy 2 (.getfield 15) 3 5 := ⟨by decide +kernel, rfl⟩
theorem dX0_copy_5 : dec cX0_copy 5 (.putfield 15) 3 8 := ⟨by decide +kernel, rfl⟩
theorem dX0_copy_8 : dec cX0_copy 8 (.aload_n 0) 1 9 := ⟨by decide +kernel, rfl⟩
theorem dX0_copy_9 : dec cX0_copy 9 (.aload_n 1) 1 10 := ⟨by decide +kernel, rfl⟩
theorem dX0_copy_10 : dec cX0_copy 10 (.getfield 19) 3 13 := ⟨by decide +kernel, rfl⟩
theorem dX0_copy_13 : dec cX0_copy 13 (.putfield 19) 3 16 := ⟨by decide +kernel, rfl⟩
theorem dX0_copy_16 : dec cX0_copy 16 (.aload_n 0) 1 17 := ⟨by decide +kernel, rfl⟩
theorem dX0_copy_17 : dec cX0_copy 17 (.aload_n 1) 1 18 := ⟨by decide +kernel, rfl⟩
theorem dX0_copy_18 : dec cX0_copy 18 (.getfield 22) 3 21 := ⟨by decide +kernel, rfl⟩
theorem dX0_copy_21 : dec cX0_copy 21 (.putfield 22) 3 24 := ⟨by decide +kernel, rfl⟩
theorem dX0_copy_24 : dec cX0_copy 24 (.aload_n 0) 1 25 := ⟨by decide +kernel, rfl⟩
theorem dX0_copy_25 : dec cX0_copy 25 (.aload_n 1) 1 26 := ⟨by decide +kernel, rfl⟩
theorem dX0_copy_26 : dec cX0_copy 26 (.getfield 26) 3 29 := ⟨by decide +kernel, rfl⟩
theorem dX0_copy_29 : dec cX0_copy 29 (.putfield 26) 3 32 := ⟨by decide +kernel, rfl⟩
theorem dX0_copy_32 : dec cX0_copy 32 (.iconst 0) 1 33 := ⟨by decide +kernel, rfl⟩
theorem dX0_copy_33 : dec cX0_copy 33 (.istore_n 2) 1 34 := ⟨by decide +kernel, rfl⟩
theorem dX0_copy_34 : dec cX0_copy 34 (.iload_n 2) 1 35 := ⟨by decide +kernel, rfl⟩
theorem dX0_copy_35 : dec cX0_copy 35 (.aload_n 0) 1 36 := ⟨by decide +kernel, rfl⟩
theorem dX0_copy_36 : dec cX0_copy 36 (.getfield 9) 3 39 := ⟨by decide +kernel, rfl⟩
theorem dX0_copy_39 : dec cX0_copy 39 .arraylength 1 40 := ⟨by decide +kernel, rfl⟩
theorem dX0_copy_40 : decJ cX0_copy 40 (.if_icmp .ge) 3 43 60 := ⟨20, by decide +kernel, rfl, rfl⟩
theorem dX0_copy_43 : dec cX0_copy 43 (.aload_n 0) 1 44 := ⟨by decide +kernel, rfl⟩
theorem dX0_copy_44 : dec cX0_copy 44 (.getfield 9) 3 47 := ⟨by decide +kernel, rfl⟩
theorem dX0_copy_47 : dec cX0_copy 47 (.iload_n 2) 1 48 := ⟨by decide +kernel, rfl⟩
theorem dX0_copy_48 : dec cX0_copy 48 (.aload_n 1) 1 49 := ⟨by decide +kernel, rfl⟩
theorem dX0_copy_49 : dec cX0_copy 49 (.iload_n 2) 1 50 := ⟨by decide +kernel, rfl⟩
theorem dX0_copy_50 : dec cX0_copy 50 (.invokevirtual 29) 3 53 := ⟨by decide +kernel, rfl⟩
theorem dX0_copy_53 : dec cX0_copy 53 .iastore 1 54 := ⟨by decide +kernel, rfl⟩
theorem dX0_copy_54 : dec cX0_copy 54 (.iinc 2 1) 3 57 := ⟨by decide +kernel, rfl⟩
theorem dX0_copy_57 : decJ cX0_copy 57 .goto 3 60 34 := ⟨-23, by decide +kernel, rfl, rfl⟩
theorem dX0_copy_60 : dec cX0_copy 60 .return_ 1 61 := ⟨by decide +kernel, rfl⟩
theorem dX0_sails_0 : dec cX0_sails 0 (.aload_n 0) 1 1 := ⟨by decide +kernel, rfl⟩
theorem dX0_sails_1 : dec cX0_sails 1 (.getfield 15) 3 4 := ⟨by decide +kernel, rfl⟩
theorem dX0_sails_4 : decJ cX0_sails 4 (.ifCond .eq) 3 7 18 := ⟨14, by decide +kernel, rfl, rfl⟩
theorem dX0_sails_7 : dec cX0_sails 7 (.aload_n 0) 1 8 := ⟨by decide +kernel, rfl⟩
theorem dX0_sails_8 : dec cX0_sails 8 (.getfield 19) 3 11 := ⟨by decide +kernel, rfl⟩
theorem dX0_sails_11 : decJ cX0_sails 11 (.ifCond .ne) 3 14 18 := ⟨7, by decide +kernel, rfl, rfl⟩
theorem dX0_sails_14 : dec cX0_sails 14 (.iconst 1) 1 15 := ⟨by decide +kernel, rfl⟩
theorem dX0_sails_15 : decJ cX0_sails 15 .goto 3 18 19 := ⟨4, by decide +kernel, rfl, rfl⟩
theorem dX0_sails_18 : dec cX0_sails 18 (.iconst 0) 1 19 := ⟨by decide +kernel, rfl⟩
theorem dX0_sails_19 : dec cX0_sails 19 .ireturn 1 20 := ⟨by decide +kernel, rfl⟩
theorem dX0_beliefOf_0 : dec cX0_beliefOf 0 (.iload_n 1) 1 1 := ⟨by decide +kernel, rfl⟩
theorem dX0_beliefOf_1 : decJ cX0_beliefOf 1 (.ifCond .lt) 3 4 22 := ⟨21, by decide +kernel, rfl, rfl⟩
theorem dX0_beliefOf_4 : dec cX0_beliefOf 4 (.iload_n 1) 1 5 := ⟨by decide +kernel, rfl⟩
theorem dX0_beliefOf_5 : dec cX0_beliefOf 5 (.aload_n 0) 1 6 := ⟨by decide +kernel, rfl⟩
theorem dX0_beliefOf_6 : dec cX0_beliefOf 6 (.getfield 9) 3 9 := ⟨by decide +kernel, rfl⟩
theorem dX0_beliefOf_9 : dec cX0_beliefOf 9 .arraylength 1 10 := ⟨by decide +kernel, rfl⟩
theorem dX0_beliefOf_10 : decJ cX0_beliefOf 10 (.if_icmp .ge) 3 13 22 := ⟨12, by decide +kernel, rfl, rfl⟩
theorem dX0_beliefOf_13 : dec cX0_beliefOf 13 (.aload_n 0) 1 14 := ⟨by decide +kernel, rfl⟩
theorem dX0_beliefOf_14 : dec cX0_beliefOf 14 (.getfield 9) 3 17 := ⟨by decide +kernel, rfl⟩
theorem dX0_beliefOf_17 : dec cX0_beliefOf 17 (.iload_n 1) 1 18 := ⟨by decide +kernel, rfl⟩
theorem dX0_beliefOf_18 : dec cX0_beliefOf 18 .iaload 1 19 := ⟨by decide +kernel, rfl⟩
theorem dX0_beliefOf_19 : decJ cX0_beliefOf 19 .goto 3 22 23 := ⟨4, by decide +kernel, rfl, rfl⟩
theorem dX0_beliefOf_22 : dec cX0_beliefOf 22 (.iconst 0) 1 23 := ⟨by decide +kernel, rfl⟩
theorem dX0_beliefOf_23 : dec cX0_beliefOf 23 .ireturn 1 24 := ⟨by decide +kernel, rfl⟩
theorem dX0_believe_0 : dec cX0_believe 0 (.iload_n 1) 1 1 := ⟨by decide +kernel, rfl⟩
theorem dX0_believe_1 : decJ cX0_believe 1 (.ifCond .lt) 3 4 20 := ⟨19, by decide +kernel, rfl, rfl⟩
theorem dX0_believe_4 : dec cX0_believe 4 (.iload_n 1) 1 5 := ⟨by decide +kernel, rfl⟩
theorem dX0_believe_5 : dec cX0_believe 5 (.aload_n 0) 1 6 := ⟨by decide +kernel, rfl⟩
theorem dX0_believe_6 : dec cX0_believe 6 (.getfield 9) 3 9 := ⟨by decide +kernel, rfl⟩
theorem dX0_believe_9 : dec cX0_believe 9 .arraylength 1 10 := ⟨by decide +kernel, rfl⟩
theorem dX0_believe_10 : decJ cX0_believe 10 (.if_icmp .ge) 3 13 20 := ⟨10, by decide +kernel, rfl, rfl⟩
theorem dX0_believe_13 : dec cX0_believe 13 (.aload_n 0) 1 14 := ⟨by decide +kernel, rfl⟩
theorem dX0_believe_14 : dec cX0_believe 14 (.getfield 9) 3 17 := ⟨by decide +kernel, rfl⟩
theorem dX0_believe_17 : dec cX0_believe 17 (.iload_n 1) 1 18 := ⟨by decide +kernel, rfl⟩
theorem dX0_believe_18 : dec cX0_believe 18 (.iload_n 2) 1 19 := ⟨by decide +kernel, rfl⟩
theorem dX0_believe_19 : dec cX0_believe 19 .iastore 1 20 := ⟨by decide +kernel, rfl⟩
theorem dX0_believe_20 : dec cX0_believe 20 .return_ 1 21 := ⟨by decide +kernel, rfl⟩
theorem dX0_wouldAsk_0 : dec cX0_wouldAsk 0 (.aload_n 0) 1 1 := ⟨by decide +kernel, rfl⟩
theorem dX0_wouldAsk_1 : dec cX0_wouldAsk 1 (.getfield 26) 3 4 := ⟨by decide +kernel, rfl⟩
theorem dX0_wouldAsk_4 : dec cX0_wouldAsk 4 (.aload_n 0) 1 5 := ⟨by decide +kernel, rfl⟩
theorem dX0_wouldAsk_5 : dec cX0_wouldAsk 5 (.iload_n 2) 1 6 := ⟨by decide +kernel, rfl⟩
theorem dX0_wouldAsk_6 : dec cX0_wouldAsk 6 (.invokevirtual 29) 3 9 := ⟨by decide +kernel, rfl⟩
theorem dX0_wouldAsk_9 : dec cX0_wouldAsk 9 (.iconst 2) 1 10 := ⟨by decide +kernel, rfl⟩
theorem dX0_wouldAsk_10 : dec cX0_wouldAsk 10 .idiv 1 11 := ⟨by decide +kernel, rfl⟩
theorem dX0_wouldAsk_11 : dec cX0_wouldAsk 11 (.invokestatic 33) 3 14 := ⟨by decide +kernel, rfl⟩
theorem dX0_wouldAsk_14 : dec cX0_wouldAsk 14 (.istore_n 3) 1 15 := ⟨by decide +kernel, rfl⟩
theorem dX0_wouldAsk_15 : dec cX0_wouldAsk 15 (.aload_n 1) 1 16 := ⟨by decide +kernel, rfl⟩
theorem dX0_wouldAsk_16 : dec cX0_wouldAsk 16 (.getfield 39) 3 19 := ⟨by decide +kernel, rfl⟩
theorem dX0_wouldAsk_19 : dec cX0_wouldAsk 19 (.iconst 3) 1 20 := ⟨by decide +kernel, rfl⟩
theorem dX0_wouldAsk_20 : decJ cX0_wouldAsk 20 (.if_icmp .ne) 3 23 29 := ⟨9, by decide +kernel, rfl, rfl⟩
theorem dX0_wouldAsk_23 : dec cX0_wouldAsk 23 (.iload_n 3) 1 24 := ⟨by decide +kernel, rfl⟩
theorem dX0_wouldAsk_24 : dec cX0_wouldAsk 24 (.iconst 2) 1 25 := ⟨by decide +kernel, rfl⟩
theorem dX0_wouldAsk_25 : dec cX0_wouldAsk 25 .idiv 1 26 := ⟨by decide +kernel, rfl⟩
theorem dX0_wouldAsk_26 : decJ cX0_wouldAsk 26 .goto 3 29 30 := ⟨4, by decide +kernel, rfl, rfl⟩
theorem dX0_wouldAsk_29 : dec cX0_wouldAsk 29 (.iload_n 3) 1 30 := ⟨by decide +kernel, rfl⟩
theorem dX0_wouldAsk_30 : dec cX0_wouldAsk 30 .ireturn 1 31 := ⟨by decide +kernel, rfl⟩
theorem dX0_takePay_0 : dec cX0_takePay 0 (.aload_n 1) 1 1 := ⟨by decide +kernel, rfl⟩
theorem dX0_takePay_1 : dec cX0_takePay 1 (.iload_n 3) 1 2 := ⟨by decide +kernel, rfl⟩
theorem dX0_takePay_2 : dec cX0_takePay 2 (.invokevirtual 44) 3 5 := ⟨by decide +kernel, rfl⟩
theorem dX0_takePay_5 : dec cX0_takePay 5 (.aload_n 0) 1 6 := ⟨by decide +kernel, rfl⟩
theorem dX0_takePay_6 : dec cX0_takePay 6 .dup 1 7 := ⟨by decide +kernel, rfl⟩
theorem dX0_takePay_7 : dec cX0_takePay 7 (.getfield 48) 3 10 := ⟨by decide +kernel, rfl⟩
theorem dX0_takePay_10 : dec cX0_takePay 10 (.iload_n 3) 1 11 := ⟨by decide +kernel, rfl⟩
theorem dX0_takePay_11 : dec cX0_takePay 11 .iadd 1 12 := ⟨by decide +kernel, rfl⟩
theorem dX0_takePay_12 : dec cX0_takePay 12 (.putfield 48) 3 15 := ⟨by decide +kernel, rfl⟩
theorem dX0_takePay_15 : dec cX0_takePay 15 (.aload_n 0) 1 16 := ⟨by decide +kernel, rfl⟩
theorem dX0_takePay_16 : dec cX0_takePay 16 (.iload_n 2) 1 17 := ⟨by decide +kernel, rfl⟩
theorem dX0_takePay_17 : dec cX0_takePay 17 (.iconst 2) 1 18 := ⟨by decide +kernel, rfl⟩
theorem dX0_takePay_18 : dec cX0_takePay 18 (.iload_n 3) 1 19 := ⟨by decide +kernel, rfl⟩
theorem dX0_takePay_19 : dec cX0_takePay 19 .imul 1 20 := ⟨by decide +kernel, rfl⟩
theorem dX0_takePay_20 : dec cX0_takePay 20 (.invokevirtual 51) 3 23 := ⟨by decide +kernel, rfl⟩
theorem dX0_takePay_23 : dec cX0_takePay 23 .return_ 1 24 := ⟨by decide +kernel, rfl⟩
theorem dX0_burn_0 : dec cX0_burn 0 (.aload_n 0) 1 1 := ⟨by decide +kernel, rfl⟩
theorem dX0_burn_1 : dec cX0_burn 1 .dup 1 2 := ⟨by decide +kernel, rfl⟩
theorem dX0_burn_2 : dec cX0_burn 2 (.getfield 48) 3 5 := ⟨by decide +kernel, rfl⟩
theorem dX0_burn_5 : dec cX0_burn 5 (.aload_n 1) 1 6 := ⟨by decide +kernel, rfl⟩
theorem dX0_burn_6 : dec cX0_burn 6 (.getfield 55) 3 9 := ⟨by decide +kernel, rfl⟩
theorem dX0_burn_9 : dec cX0_burn 9 .iadd 1 10 := ⟨by decide +kernel, rfl⟩
theorem dX0_burn_10 : dec cX0_burn 10 (.putfield 48) 3 13 := ⟨by decide +kernel, rfl⟩
theorem dX0_burn_13 : dec cX0_burn 13 (.aload_n 1) 1 14 := ⟨by decide +kernel, rfl⟩
theorem dX0_burn_14 : dec cX0_burn 14 (.iconst 0) 1 15 := ⟨by decide +kernel, rfl⟩
theorem dX0_burn_15 : dec cX0_burn 15 (.putfield 55) 3 18 := ⟨by decide +kernel, rfl⟩
theorem dX0_burn_18 : dec cX0_burn 18 (.aload_n 1) 1 19 := ⟨by decide +kernel, rfl⟩
theorem dX0_burn_19 : dec cX0_burn 19 (.iconst 1) 1 20 := ⟨by decide +kernel, rfl⟩
theorem dX0_burn_20 : dec cX0_burn 20 (.putfield 58) 3 23 := ⟨by decide +kernel, rfl⟩
theorem dX0_burn_23 : dec cX0_burn 23 (.aload_n 0) 1 24 := ⟨by decide +kernel, rfl⟩
theorem dX0_burn_24 : dec cX0_burn 24 (.iload_n 2) 1 25 := ⟨by decide +kernel, rfl⟩
theorem dX0_burn_25 : dec cX0_burn 25 (.iconst 0) 1 26 := ⟨by decide +kernel, rfl⟩
theorem dX0_burn_26 : dec cX0_burn 26 (.invokevirtual 51) 3 29 := ⟨by decide +kernel, rfl⟩
theorem dX0_burn_29 : dec cX0_burn 29 .return_ 1 30 := ⟨by decide +kernel, rfl⟩
theorem dX0_goHome_0 : dec cX0_goHome 0 (.aload_n 0) 1 1 := ⟨by decide +kernel, rfl⟩
theorem dX0_goHome_1 : dec cX0_goHome 1 (.aload_n 0) 1 2 := ⟨by decide +kernel, rfl⟩
theorem dX0_goHome_2 : dec cX0_goHome 2 (.getfield 48) 3 5 := ⟨by decide +kernel, rfl⟩
theorem dX0_goHome_5 : dec cX0_goHome 5 (.bipush 10) 2 7 := ⟨by decide +kernel, rfl⟩
theorem dX0_goHome_7 : dec cX0_goHome 7 .idiv 1 8 := ⟨by decide +kernel, rfl⟩
theorem dX0_goHome_8 : dec cX0_goHome 8 (.invokevirtual 61) 3 11 := ⟨by decide +kernel, rfl⟩
theorem dX0_goHome_11 : dec cX0_goHome 11 (.aload_n 0) 1 12 := ⟨by decide +kernel, rfl⟩
theorem dX0_goHome_12 : dec cX0_goHome 12 (.iconst 0) 1 13 := ⟨by decide +kernel, rfl⟩
theorem dX0_goHome_13 : dec cX0_goHome 13 (.putfield 48) 3 16 := ⟨by decide +kernel, rfl⟩
theorem dX0_goHome_16 : dec cX0_goHome 16 .return_ 1 17 := ⟨by decide +kernel, rfl⟩
theorem dX0_grow_0 : dec cX0_grow 0 (.aload_n 0) 1 1 := ⟨by decide +kernel, rfl⟩
theorem dX0_grow_1 : dec cX0_grow 1 (.bipush 99) 2 3 := ⟨by decide +kernel, rfl⟩
theorem dX0_grow_3 : dec cX0_grow 3 (.aload_n 0) 1 4 := ⟨by decide +kernel, rfl⟩
theorem dX0_grow_4 : dec cX0_grow 4 (.getfield 22) 3 7 := ⟨by decide +kernel, rfl⟩
theorem dX0_grow_7 : dec cX0_grow 7 (.iload_n 1) 1 8 := ⟨by decide +kernel, rfl⟩
theorem dX0_grow_8 : dec cX0_grow 8 .iadd 1 9 := ⟨by decide +kernel, rfl⟩
theorem dX0_grow_9 : dec cX0_grow 9 (.invokestatic 64) 3 12 := ⟨by decide +kernel, rfl⟩
theorem dX0_grow_12 : dec cX0_grow 12 (.putfield 22) 3 15 := ⟨by decide +kernel, rfl⟩
theorem dX0_grow_15 : dec cX0_grow 15 .return_ 1 16 := ⟨by decide +kernel, rfl⟩
theorem dX0_fightLosing_0 : dec cX0_fightLosing 0 (.aload_n 0) 1 1 := ⟨by decide +kernel, rfl⟩
theorem dX0_fightLosing_1 : dec cX0_fightLosing 1 .dup 1 2 := ⟨by decide +kernel, rfl⟩
theorem dX0_fightLosing_2 : dec cX0_fightLosing 2 (.getfield 22) 3 5 := ⟨by decide +kernel, rfl⟩
theorem dX0_fightLosing_5 : dec cX0_fightLosing 5 (.iload_n 1) 1 6 := ⟨by decide +kernel, rfl⟩
theorem dX0_fightLosing_6 : dec cX0_fightLosing 6 .isub 1 7 := ⟨by decide +kernel, rfl⟩
theorem dX0_fightLosing_7 : dec cX0_fightLosing 7 (.putfield 22) 3 10 := ⟨by decide +kernel, rfl⟩
theorem dX0_fightLosing_10 : dec cX0_fightLosing 10 (.aload_n 0) 1 11 := ⟨by decide +kernel, rfl⟩
theorem dX0_fightLosing_11 : dec cX0_fightLosing 11 (.aload_n 0) 1 12 := ⟨by decide +kernel, rfl⟩
theorem dX0_fightLosing_12 : dec cX0_fightLosing 12 (.getfield 22) 3 15 := ⟨by decide +kernel, rfl⟩
theorem dX0_fightLosing_15 : decJ cX0_fightLosing 15 (.ifCond .gt) 3 18 22 := ⟨7, by decide +kernel, rfl, rfl⟩
theorem dX0_fightLosing_18 : dec cX0_fightLosing 18 (.iconst 1) 1 19 := ⟨by decide +kernel, rfl⟩
theorem dX0_fightLosing_19 : decJ cX0_fightLosing 19 .goto 3 22 23 := ⟨4, by decide +kernel, rfl, rfl⟩
theorem dX0_fightLosing_22 : dec cX0_fightLosing 22 (.iconst 0) 1 23 := ⟨by decide +kernel, rfl⟩
theorem dX0_fightLosing_23 : dec cX0_fightLosing 23 (.putfield 19) 3 26 := ⟨by decide +kernel, rfl⟩
theorem dX0_fightLosing_26 : dec cX0_fightLosing 26 .return_ 1 27 := ⟨by decide +kernel, rfl⟩
def d_X5_stands (R_t : Nat → Nat → Int32) : Int32 :=
  if (R_t 0 0) = 0 then
    (0 : Int32)
  else
    if (R_t 0 1) = 0 then
      (1 : Int32)
    else
      (0 : Int32)
set_option maxHeartbeats 4000000 in
set_option maxRecDepth 100000 in
theorem c_X5_stands (l : Launch) (D : DD) (o_t : Nat) (R_t : Nat → Nat → Int32)  (res : Int32) (hres : res = d_X5_stands R_t) : Mt l D yX5_stands cX5_stands 1 (some .boolean) 0 0 0 0 [.ref o_t] (fun H => blk D ksTown o_t R_t H) (fun v H => v = some (.int res) ∧ bl res) fp0 := by
  refine mt_of (own := RX5) (ls := [.val (.ref o_t)]) rfl (by decide +kernel) rfl ?_
  intro x H C hP
  have hb_t := hP
  refine r_aload_n C dX5_stands_0 rfl ?_
  refine r_get C hb_t (k := 0) rfl rfl celO_5 fw_X5_9 (z := .int (R_t 0 0)) rfl dX5_stands_1 ?_
  refine r_if_eq C dX5_stands_4 (fun c1 => ?_) (fun c1 => ?_)
  · skip
    refine r_iconst C dX5_stands_18 (0 : Int32) (by decide) ?_
    refine r_zret C dX5_stands_19 (Or.inl rfl) ?_
    have er : res = (0 : Int32) := by rw [hres]; simp only [d_X5_stands, if_pos c1]
    rw [er]
    exact ⟨rfl, (Or.inl rfl)⟩
  · skip
    refine r_aload_n C dX5_stands_7 rfl ?_
    refine r_get C hb_t (k := 0) rfl rfl celO_5 fw_X5_15 (z := .int (R_t 0 1)) rfl dX5_stands_8 ?_
    refine r_if_ne C dX5_stands_11 (fun c2 => ?_) (fun c2 => ?_)
    · skip
      refine r_iconst C dX5_stands_18 (0 : Int32) (by decide) ?_
      refine r_zret C dX5_stands_19 (Or.inl rfl) ?_
      have er : res = (0 : Int32) := by rw [hres]; simp only [d_X5_stands, if_neg c1, if_neg c2]
      rw [er]
      exact ⟨rfl, (Or.inl rfl)⟩
    · skip
      refine r_iconst C dX5_stands_14 (1 : Int32) (by decide) ?_
      refine r_goto C dX5_stands_15 ?_
      refine r_zret C dX5_stands_19 (Or.inr rfl) ?_
      have er : res = (1 : Int32) := by rw [hres]; simp only [d_X5_stands, if_neg c1, if_pos c2]
      rw [er]
      exact ⟨rfl, (Or.inr rfl)⟩

def d_X5_earn (R_t : Nat → Nat → Int32) : (Nat → Nat → Int32) :=
  (pt R_t 0 3 (imin (999 : Int32) ((R_t 0 3) + (R_t 0 4))))
set_option maxHeartbeats 4000000 in
set_option maxRecDepth 100000 in
theorem c_X5_earn (l : Launch) (D : DD) (o_t : Nat) (R_t : Nat → Nat → Int32)  (res : (Nat → Nat → Int32)) (hres : res = d_X5_earn R_t) : Mt l D yX5_earn cX5_earn 1 none 1 21 0 0 [.ref o_t] (fun H => blk D ksTown o_t R_t H) (fun v H => v = none ∧ blk D ksTown o_t res H) (fp1 o_t 1) := by
  refine mt_of (own := RX5) (ls := [.val (.ref o_t)]) rfl (by decide +kernel) rfl ?_
  intro x H C hP
  have hb_t := hP
  refine r_aload_n C dX5_earn_0 rfl ?_
  refine r_sipush C dX5_earn_1 (999 : Int32) (by decide) ?_
  refine r_aload_n C dX5_earn_4 rfl ?_
  refine r_get C hb_t (k := 0) rfl rfl celO_5 fw_X5_22 (z := .int (R_t 0 3)) rfl dX5_earn_5 ?_
  refine r_aload_n C dX5_earn_8 rfl ?_
  refine r_get C hb_t (k := 0) rfl rfl celO_5 fw_X5_25 (z := .int (R_t 0 4)) rfl dX5_earn_9 ?_
  refine r_iadd C dX5_earn_12 ?_
  refine r_mmin C mw_X5_37 rfl ⟨Nat.le_of_ble_eq_true rfl, Nat.le_of_ble_eq_true rfl, Nat.le_refl 0, Nat.le_refl 0⟩ dX5_earn_13 ?_
  refine r_put C hb_t (k := 0) rfl rfl (by unfold fp1; omega) fw_X5_22 fp_5_3 (Or.inr rfl) dX5_earn_16 (fun H1 hb3 hq2 => ?_)
  refine r_vret C dX5_earn_19 ?_
  have er : res = (pt R_t 0 3 (imin (999 : Int32) ((R_t 0 3) + (R_t 0 4)))) := by rw [hres]; simp only [d_X5_earn]
  rw [er]
  exact ⟨rfl, hb3⟩

def d_X5_build (R_t : Nat → Nat → Int32) (cost : Int32) : (Nat → Nat → Int32) :=
  if (R_t 0 6) = (3 : Int32) then
    if (R_t 0 3) < cost then
      R_t
    else
      if (20 : Int32) ≤ (R_t 0 5) then
        R_t
      else
        (pt (pt R_t 0 3 ((R_t 0 3) - cost)) 0 5 ((R_t 0 5) + (1 : Int32)))
  else
    R_t
set_option maxHeartbeats 4000000 in
set_option maxRecDepth 100000 in
theorem c_X5_build (l : Launch) (D : DD) (o_t : Nat) (R_t : Nat → Nat → Int32) (cost : Int32)  (res : (Nat → Nat → Int32)) (hres : res = d_X5_build R_t cost) : Mt l D yX5_build cX5_build 2 none 0 0 0 0 [.ref o_t, .int cost] (fun H => blk D ksTown o_t R_t H) (fun v H => v = none ∧ blk D ksTown o_t res H) (fp1 o_t 1) := by
  refine mt_of (own := RX5) (ls := [.val (.ref o_t), .val (.int cost)]) rfl (by decide +kernel) rfl ?_
  intro x H C hP
  have hb_t := hP
  refine r_aload_n C dX5_build_0 rfl ?_
  refine r_get C hb_t (k := 0) rfl rfl celO_5 fw_X5_31 (z := .int (R_t 0 6)) rfl dX5_build_1 ?_
  refine r_iconst C dX5_build_4 (3 : Int32) (by decide) ?_
  refine r_ic_ne C dX5_build_5 (fun c1 => ?_) (fun c1 => ?_)
  · skip
    refine r_vret C dX5_build_45 ?_
    have er : res = R_t := by rw [hres]; simp only [d_X5_build, if_neg c1]
    rw [er]
    exact ⟨rfl, hb_t⟩
  · skip
    refine r_aload_n C dX5_build_8 rfl ?_
    refine r_get C hb_t (k := 0) rfl rfl celO_5 fw_X5_22 (z := .int (R_t 0 3)) rfl dX5_build_9 ?_
    refine r_iload_n C dX5_build_12 rfl ?_
    refine r_ic_lt C dX5_build_13 (fun c2 => ?_) (fun c2 => ?_)
    · skip
      refine r_vret C dX5_build_45 ?_
      have er : res = R_t := by rw [hres]; simp only [d_X5_build, if_pos c1, if_pos c2]
      rw [er]
      exact ⟨rfl, hb_t⟩
    · skip
      refine r_aload_n C dX5_build_16 rfl ?_
      refine r_get C hb_t (k := 0) rfl rfl celO_5 fw_X5_28 (z := .int (R_t 0 5)) rfl dX5_build_17 ?_
      refine r_bipush C dX5_build_20 (20 : Int32) (by decide) ?_
      refine r_ic_ge C dX5_build_22 (fun c3 => ?_) (fun c3 => ?_)
      · skip
        refine r_vret C dX5_build_45 ?_
        have er : res = R_t := by rw [hres]; simp only [d_X5_build, if_pos c1, if_neg c2, if_pos c3]
        rw [er]
        exact ⟨rfl, hb_t⟩
      · skip
        refine r_aload_n C dX5_build_25 rfl ?_
        refine r_dup C dX5_build_26 rfl ?_
        refine r_get C hb_t (k := 0) rfl rfl celO_5 fw_X5_22 (z := .int (R_t 0 3)) rfl dX5_build_27 ?_
        refine r_iload_n C dX5_build_30 rfl ?_
        refine r_isub C dX5_build_31 ?_
        refine r_put C hb_t (k := 0) rfl rfl (by unfold fp1; omega) fw_X5_22 fp_5_3 (Or.inr rfl) dX5_build_32 (fun H4 hb6 hq5 => ?_)
        refine r_aload_n C dX5_build_35 rfl ?_
        refine r_dup C dX5_build_36 rfl ?_
        refine r_get C hb6 (k := 0) rfl rfl celO_5 fw_X5_28 (z := .int (R_t 0 5)) rfl dX5_build_37 ?_
        refine r_iconst C dX5_build_40 (1 : Int32) (by decide) ?_
        refine r_iadd C dX5_build_41 ?_
        refine r_put C hb6 (k := 0) rfl rfl (by unfold fp1; omega) fw_X5_28 fp_5_5 (Or.inr rfl) dX5_build_42 (fun H7 hb9 hq8 => ?_)
        refine r_vret C dX5_build_45 ?_
        have er : res = (pt (pt R_t 0 3 ((R_t 0 3) - cost)) 0 5 ((R_t 0 5) + (1 : Int32))) := by rw [hres]; simp only [d_X5_build, if_pos c1, if_neg c2, if_neg c3]
        rw [er]
        exact ⟨rfl, hb9⟩

def d_X5_give (R_t : Nat → Nat → Int32) (asked : Int32) : (Nat → Nat → Int32) :=
  if (R_t 0 2) = (2 : Int32) then
    (pt (pt R_t 0 3 ((R_t 0 3) - (asked - (asked / (2 : Int32))))) 0 7 ((R_t 0 7) + asked))
  else
    (pt (pt R_t 0 3 ((R_t 0 3) - asked)) 0 7 ((R_t 0 7) + asked))
set_option maxHeartbeats 4000000 in
set_option maxRecDepth 100000 in
theorem c_X5_give (l : Launch) (D : DD) (o_t : Nat) (R_t : Nat → Nat → Int32) (asked : Int32)  (res : (Nat → Nat → Int32)) (hres : res = d_X5_give R_t asked) : Mt l D yX5_give cX5_give 2 none 0 0 0 0 [.ref o_t, .int asked] (fun H => blk D ksTown o_t R_t H) (fun v H => v = none ∧ blk D ksTown o_t res H) (fp1 o_t 1) := by
  refine mt_of (own := RX5) (ls := [.val (.ref o_t), .val (.int asked)]) rfl (by decide +kernel) rfl ?_
  intro x H C hP
  have hb_t := hP
  refine r_aload_n C dX5_give_0 rfl ?_
  refine r_dup C dX5_give_1 rfl ?_
  refine r_get C hb_t (k := 0) rfl rfl celO_5 fw_X5_22 (z := .int (R_t 0 3)) rfl dX5_give_2 ?_
  refine r_aload_n C dX5_give_5 rfl ?_
  refine r_get C hb_t (k := 0) rfl rfl celO_5 fw_X5_18 (z := .int (R_t 0 2)) rfl dX5_give_6 ?_
  refine r_iconst C dX5_give_9 (2 : Int32) (by decide) ?_
  refine r_ic_ne C dX5_give_10 (fun c1 => ?_) (fun c1 => ?_)
  · skip
    refine r_iload_n C dX5_give_21 rfl ?_
    refine r_isub C dX5_give_22 ?_
    refine r_put C hb_t (k := 0) rfl rfl (by unfold fp1; omega) fw_X5_22 fp_5_3 (Or.inr rfl) dX5_give_23 (fun H2 hb4 hq3 => ?_)
    refine r_aload_n C dX5_give_26 rfl ?_
    refine r_dup C dX5_give_27 rfl ?_
    refine r_get C hb4 (k := 0) rfl rfl celO_5 fw_X5_34 (z := .int (R_t 0 7)) rfl dX5_give_28 ?_
    refine r_iload_n C dX5_give_31 rfl ?_
    refine r_iadd C dX5_give_32 ?_
    refine r_put C hb4 (k := 0) rfl rfl (by unfold fp1; omega) fw_X5_34 fp_5_7 (Or.inr rfl) dX5_give_33 (fun H5 hb7 hq6 => ?_)
    refine r_vret C dX5_give_36 ?_
    have er : res = (pt (pt R_t 0 3 ((R_t 0 3) - asked)) 0 7 ((R_t 0 7) + asked)) := by rw [hres]; simp only [d_X5_give, if_neg c1]
    rw [er]
    exact ⟨rfl, hb7⟩
  · skip
    refine r_iload_n C dX5_give_13 rfl ?_
    refine r_iload_n C dX5_give_14 rfl ?_
    refine r_iconst C dX5_give_15 (2 : Int32) (by decide) ?_
    refine r_idiv C dX5_give_16 (by decide) ?_
    refine r_isub C dX5_give_17 ?_
    refine r_goto C dX5_give_18 ?_
    refine r_isub C dX5_give_22 ?_
    refine r_put C hb_t (k := 0) rfl rfl (by unfold fp1; omega) fw_X5_22 fp_5_3 (Or.inr rfl) dX5_give_23 (fun H8 hb10 hq9 => ?_)
    refine r_aload_n C dX5_give_26 rfl ?_
    refine r_dup C dX5_give_27 rfl ?_
    refine r_get C hb10 (k := 0) rfl rfl celO_5 fw_X5_34 (z := .int (R_t 0 7)) rfl dX5_give_28 ?_
    refine r_iload_n C dX5_give_31 rfl ?_
    refine r_iadd C dX5_give_32 ?_
    refine r_put C hb10 (k := 0) rfl rfl (by unfold fp1; omega) fw_X5_34 fp_5_7 (Or.inr rfl) dX5_give_33 (fun H11 hb13 hq12 => ?_)
    refine r_vret C dX5_give_36 ?_
    have er : res = (pt (pt R_t 0 3 ((R_t 0 3) - (asked - (asked / (2 : Int32))))) 0 7 ((R_t 0 7) + asked)) := by rw [hres]; simp only [d_X5_give, if_pos c1]
    rw [er]
    exact ⟨rfl, hb13⟩

def d_X5_menHeldOff (R_t : Nat → Nat → Int32) : Int32 :=
  if (R_t 0 2) = (1 : Int32) then
    ((R_t 0 5) * (6 : Int32))
  else
    ((R_t 0 5) * (5 : Int32))
set_option maxHeartbeats 4000000 in
set_option maxRecDepth 100000 in
theorem c_X5_menHeldOff (l : Launch) (D : DD) (o_t : Nat) (R_t : Nat → Nat → Int32)  (res : Int32) (hres : res = d_X5_menHeldOff R_t) : Mt l D yX5_menHeldOff cX5_menHeldOff 1 (some .int) 0 0 0 0 [.ref o_t] (fun H => blk D ksTown o_t R_t H) (fun v H => v = some (.int res)) fp0 := by
  refine mt_of (own := RX5) (ls := [.val (.ref o_t)]) rfl (by decide +kernel) rfl ?_
  intro x H C hP
  have hb_t := hP
  refine r_aload_n C dX5_menHeldOff_0 rfl ?_
  refine r_get C hb_t (k := 0) rfl rfl celO_5 fw_X5_28 (z := .int (R_t 0 5)) rfl dX5_menHeldOff_1 ?_
  refine r_aload_n C dX5_menHeldOff_4 rfl ?_
  refine r_get C hb_t (k := 0) rfl rfl celO_5 fw_X5_18 (z := .int (R_t 0 2)) rfl dX5_menHeldOff_5 ?_
  refine r_iconst C dX5_menHeldOff_8 (1 : Int32) (by decide) ?_
  refine r_ic_ne C dX5_menHeldOff_9 (fun c1 => ?_) (fun c1 => ?_)
  · skip
    refine r_iconst C dX5_menHeldOff_17 (5 : Int32) (by decide) ?_
    refine r_imul C dX5_menHeldOff_18 ?_
    refine r_iret C dX5_menHeldOff_19 ?_
    have er : res = ((R_t 0 5) * (5 : Int32)) := by rw [hres]; simp only [d_X5_menHeldOff, if_neg c1]
    rw [er]
  · skip
    refine r_bipush C dX5_menHeldOff_12 (6 : Int32) (by decide) ?_
    refine r_goto C dX5_menHeldOff_14 ?_
    refine r_imul C dX5_menHeldOff_18 ?_
    refine r_iret C dX5_menHeldOff_19 ?_
    have er : res = ((R_t 0 5) * (6 : Int32)) := by rw [hres]; simp only [d_X5_menHeldOff, if_pos c1]
    rw [er]

def d_X5_copy (R_t : Nat → Nat → Int32) (R_f : Nat → Nat → Int32) : (Nat → Nat → Int32) :=
  (pt (pt (pt (pt (pt (pt (pt (pt R_t 0 0 (R_f 0 0)) 0 1 (R_f 0 1)) 0 2 (R_f 0 2)) 0 3 (R_f 0 3)) 0 4 (R_f 0 4)) 0 5 (R_f 0 5)) 0 6 (R_f 0 6)) 0 7 (R_f 0 7))
set_option maxHeartbeats 4000000 in
set_option maxRecDepth 100000 in
theorem c_X5_copy (l : Launch) (D : DD) (o_t o_f : Nat) (R_t : Nat → Nat → Int32) (R_f : Nat → Nat → Int32) (hd : o_t ≠ o_f) (res : (Nat → Nat → Int32)) (hres : res = d_X5_copy R_t R_f) : Mt l D yX5_copy cX5_copy 2 none 0 0 0 0 [.ref o_t, .ref o_f] (fun H => blk D ksTown o_t R_t H ∧ blk D ksTown o_f R_f H) (fun v H => v = none ∧ blk D ksTown o_t res H) (fp1 o_t 1) := by
  refine mt_of (own := RX5) (ls := [.val (.ref o_t), .val (.ref o_f)]) rfl (by decide +kernel) rfl ?_
  intro x H C hP
  obtain ⟨hb_t, hb_f⟩ := hP
  refine r_aload_n C dX5_copy_0 rfl ?_
  refine r_aload_n C dX5_copy_1 rfl ?_
  refine r_get C hb_f (k := 0) rfl rfl celO_5 fw_X5_9 (z := .int (R_f 0 0)) rfl dX5_copy_2 ?_
  refine r_put C hb_t (k := 0) rfl rfl (by unfold fp1; omega) fw_X5_9 fp_5_0 (Or.inl ⟨rfl, (bl_a hb_f (Or.inr rfl))⟩) dX5_copy_5 (fun H1 hb3 hq2 => ?_)
  have hb4 := blk_kept hb_f (n := 1) rfl (fun q h1 h2 => hq2 q (by omega))
  refine r_aload_n C dX5_copy_8 rfl ?_
  refine r_aload_n C dX5_copy_9 rfl ?_
  refine r_get C hb4 (k := 0) rfl rfl celO_5 fw_X5_15 (z := .int (R_f 0 1)) rfl dX5_copy_10 ?_
  refine r_put C hb3 (k := 0) rfl rfl (by unfold fp1; omega) fw_X5_15 fp_5_1 (Or.inl ⟨rfl, (bl_b hb4 (Or.inr rfl))⟩) dX5_copy_13 (fun H5 hb7 hq6 => ?_)
  have hb8 := blk_kept hb4 (n := 1) rfl (fun q h1 h2 => hq6 q (by omega))
  refine r_aload_n C dX5_copy_16 rfl ?_
  refine r_aload_n C dX5_copy_17 rfl ?_
  refine r_get C hb8 (k := 0) rfl rfl celO_5 fw_X5_18 (z := .int (R_f 0 2)) rfl dX5_copy_18 ?_
  refine r_put C hb7 (k := 0) rfl rfl (by unfold fp1; omega) fw_X5_18 fp_5_2 (Or.inr rfl) dX5_copy_21 (fun H9 hb11 hq10 => ?_)
  have hb12 := blk_kept hb8 (n := 1) rfl (fun q h1 h2 => hq10 q (by omega))
  refine r_aload_n C dX5_copy_24 rfl ?_
  refine r_aload_n C dX5_copy_25 rfl ?_
  refine r_get C hb12 (k := 0) rfl rfl celO_5 fw_X5_22 (z := .int (R_f 0 3)) rfl dX5_copy_26 ?_
  refine r_put C hb11 (k := 0) rfl rfl (by unfold fp1; omega) fw_X5_22 fp_5_3 (Or.inr rfl) dX5_copy_29 (fun H13 hb15 hq14 => ?_)
  have hb16 := blk_kept hb12 (n := 1) rfl (fun q h1 h2 => hq14 q (by omega))
  refine r_aload_n C dX5_copy_32 rfl ?_
  refine r_aload_n C dX5_copy_33 rfl ?_
  refine r_get C hb16 (k := 0) rfl rfl celO_5 fw_X5_25 (z := .int (R_f 0 4)) rfl dX5_copy_34 ?_
  refine r_put C hb15 (k := 0) rfl rfl (by unfold fp1; omega) fw_X5_25 fp_5_4 (Or.inr rfl) dX5_copy_37 (fun H17 hb19 hq18 => ?_)
  have hb20 := blk_kept hb16 (n := 1) rfl (fun q h1 h2 => hq18 q (by omega))
  refine r_aload_n C dX5_copy_40 rfl ?_
  refine r_aload_n C dX5_copy_41 rfl ?_
  refine r_get C hb20 (k := 0) rfl rfl celO_5 fw_X5_28 (z := .int (R_f 0 5)) rfl dX5_copy_42 ?_
  refine r_put C hb19 (k := 0) rfl rfl (by unfold fp1; omega) fw_X5_28 fp_5_5 (Or.inr rfl) dX5_copy_45 (fun H21 hb23 hq22 => ?_)
  have hb24 := blk_kept hb20 (n := 1) rfl (fun q h1 h2 => hq22 q (by omega))
  refine r_aload_n C dX5_copy_48 rfl ?_
  refine r_aload_n C dX5_copy_49 rfl ?_
  refine r_get C hb24 (k := 0) rfl rfl celO_5 fw_X5_31 (z := .int (R_f 0 6)) rfl dX5_copy_50 ?_
  refine r_put C hb23 (k := 0) rfl rfl (by unfold fp1; omega) fw_X5_31 fp_5_6 (Or.inr rfl) dX5_copy_53 (fun H25 hb27 hq26 => ?_)
  have hb28 := blk_kept hb24 (n := 1) rfl (fun q h1 h2 => hq26 q (by omega))
  refine r_aload_n C dX5_copy_56 rfl ?_
  refine r_aload_n C dX5_copy_57 rfl ?_
  refine r_get C hb28 (k := 0) rfl rfl celO_5 fw_X5_34 (z := .int (R_f 0 7)) rfl dX5_copy_58 ?_
  refine r_put C hb27 (k := 0) rfl rfl (by unfold fp1; omega) fw_X5_34 fp_5_7 (Or.inr rfl) dX5_copy_61 (fun H29 hb31 hq30 => ?_)
  have hb32 := blk_kept hb28 (n := 1) rfl (fun q h1 h2 => hq30 q (by omega))
  refine r_vret C dX5_copy_64 ?_
  have er : res = (pt (pt (pt (pt (pt (pt (pt (pt R_t 0 0 (R_f 0 0)) 0 1 (R_f 0 1)) 0 2 (R_f 0 2)) 0 3 (R_f 0 3)) 0 4 (R_f 0 4)) 0 5 (R_f 0 5)) 0 6 (R_f 0 6)) 0 7 (R_f 0 7)) := by rw [hres]; simp only [d_X5_copy]
  rw [er]
  exact ⟨rfl, hb31⟩

def d_X0_sails (R_c : Nat → Nat → Int32) : Int32 :=
  if (R_c 0 0) = 0 then
    (0 : Int32)
  else
    if (R_c 0 1) = 0 then
      (1 : Int32)
    else
      (0 : Int32)
set_option maxHeartbeats 4000000 in
set_option maxRecDepth 100000 in
theorem c_X0_sails (l : Launch) (D : DD) (o_c : Nat) (R_c : Nat → Nat → Int32)  (res : Int32) (hres : res = d_X0_sails R_c) : Mt l D yX0_sails cX0_sails 1 (some .boolean) 0 0 0 0 [.ref o_c] (fun H => blk D ksCrew o_c R_c H) (fun v H => v = some (.int res) ∧ bl res) fp0 := by
  refine mt_of (own := RX0) (ls := [.val (.ref o_c)]) rfl (by decide +kernel) rfl ?_
  intro x H C hP
  have hb_c := hP
  refine r_aload_n C dX0_sails_0 rfl ?_
  refine r_get C hb_c (k := 0) rfl rfl celO_0 fw_X0_15 (z := .int (R_c 0 0)) rfl dX0_sails_1 ?_
  refine r_if_eq C dX0_sails_4 (fun c1 => ?_) (fun c1 => ?_)
  · skip
    refine r_iconst C dX0_sails_18 (0 : Int32) (by decide) ?_
    refine r_zret C dX0_sails_19 (Or.inl rfl) ?_
    have er : res = (0 : Int32) := by rw [hres]; simp only [d_X0_sails, if_pos c1]
    rw [er]
    exact ⟨rfl, (Or.inl rfl)⟩
  · skip
    refine r_aload_n C dX0_sails_7 rfl ?_
    refine r_get C hb_c (k := 0) rfl rfl celO_0 fw_X0_19 (z := .int (R_c 0 1)) rfl dX0_sails_8 ?_
    refine r_if_ne C dX0_sails_11 (fun c2 => ?_) (fun c2 => ?_)
    · skip
      refine r_iconst C dX0_sails_18 (0 : Int32) (by decide) ?_
      refine r_zret C dX0_sails_19 (Or.inl rfl) ?_
      have er : res = (0 : Int32) := by rw [hres]; simp only [d_X0_sails, if_neg c1, if_neg c2]
      rw [er]
      exact ⟨rfl, (Or.inl rfl)⟩
    · skip
      refine r_iconst C dX0_sails_14 (1 : Int32) (by decide) ?_
      refine r_goto C dX0_sails_15 ?_
      refine r_zret C dX0_sails_19 (Or.inr rfl) ?_
      have er : res = (1 : Int32) := by rw [hres]; simp only [d_X0_sails, if_neg c1, if_pos c2]
      rw [er]
      exact ⟨rfl, (Or.inr rfl)⟩

def d_X0_beliefOf (R_c : Nat → Nat → Int32) (t : Int32) : Int32 :=
  if t < 0 then
    (0 : Int32)
  else
    if (nI 6) ≤ t then
      (0 : Int32)
    else
      (R_c 1 t.toNatClampNeg)
set_option maxHeartbeats 4000000 in
set_option maxRecDepth 100000 in
theorem c_X0_beliefOf (l : Launch) (D : DD) (o_c : Nat) (R_c : Nat → Nat → Int32) (t : Int32)  (res : Int32) (hres : res = d_X0_beliefOf R_c t) : Mt l D yX0_beliefOf cX0_beliefOf 2 (some .int) 0 0 0 0 [.ref o_c, .int t] (fun H => blk D ksCrew o_c R_c H) (fun v H => v = some (.int res)) fp0 := by
  refine mt_of (own := RX0) (ls := [.val (.ref o_c), .val (.int t)]) rfl (by decide +kernel) rfl ?_
  intro x H C hP
  have hb_c := hP
  refine r_iload_n C dX0_beliefOf_0 rfl ?_
  refine r_if_lt C dX0_beliefOf_1 (fun c1 => ?_) (fun c1 => ?_)
  · skip
    refine r_iconst C dX0_beliefOf_22 (0 : Int32) (by decide) ?_
    refine r_iret C dX0_beliefOf_23 ?_
    have er : res = (0 : Int32) := by rw [hres]; simp only [d_X0_beliefOf, if_pos c1]
    rw [er]
  · skip
    refine r_iload_n C dX0_beliefOf_4 rfl ?_
    refine r_aload_n C dX0_beliefOf_5 rfl ?_
    refine r_get C hb_c (k := 0) rfl rfl celO_0 fw_X0_9 rfl dX0_beliefOf_6 ?_
    refine r_alen C hb_c (k := 1) rfl rfl 6 (Or.inl ⟨rfl, rfl⟩) dX0_beliefOf_9 ?_
    refine r_ic_ge C dX0_beliefOf_10 (fun c2 => ?_) (fun c2 => ?_)
    · skip
      refine r_iconst C dX0_beliefOf_22 (0 : Int32) (by decide) ?_
      refine r_iret C dX0_beliefOf_23 ?_
      have er : res = (0 : Int32) := by rw [hres]; simp only [d_X0_beliefOf, if_neg c1, if_pos c2]
      rw [er]
    · skip
      refine r_aload_n C dX0_beliefOf_13 rfl ?_
      refine r_get C hb_c (k := 0) rfl rfl celO_0 fw_X0_9 rfl dX0_beliefOf_14 ?_
      refine r_iload_n C dX0_beliefOf_17 rfl ?_
      refine r_iald C hb_c (k := 1) rfl rfl (vp_in_lh (x_lo1 c1) (x_hi1 (N := 6) c2 (by decide)) (by decide)) (j := t.toNatClampNeg) rfl dX0_beliefOf_18 ?_
      refine r_goto C dX0_beliefOf_19 ?_
      refine r_iret C dX0_beliefOf_23 ?_
      have er : res = (R_c 1 t.toNatClampNeg) := by rw [hres]; simp only [d_X0_beliefOf, if_neg c1, if_neg c2]
      rw [er]

def d_X0_believe (R_c : Nat → Nat → Int32) (t : Int32) (silver : Int32) : (Nat → Nat → Int32) :=
  if t < 0 then
    R_c
  else
    if (nI 6) ≤ t then
      R_c
    else
      (pt R_c 1 t.toNatClampNeg silver)
set_option maxHeartbeats 4000000 in
set_option maxRecDepth 100000 in
theorem c_X0_believe (l : Launch) (D : DD) (o_c : Nat) (R_c : Nat → Nat → Int32) (t : Int32) (silver : Int32)  (res : (Nat → Nat → Int32)) (hres : res = d_X0_believe R_c t silver) : Mt l D yX0_believe cX0_believe 3 none 0 0 0 0 [.ref o_c, .int t, .int silver] (fun H => blk D ksCrew o_c R_c H) (fun v H => v = none ∧ blk D ksCrew o_c res H) (fp1 o_c 2) := by
  refine mt_of (own := RX0) (ls := [.val (.ref o_c), .val (.int t), .val (.int silver)]) rfl (by decide +kernel) rfl ?_
  intro x H C hP
  have hb_c := hP
  refine r_iload_n C dX0_believe_0 rfl ?_
  refine r_if_lt C dX0_believe_1 (fun c1 => ?_) (fun c1 => ?_)
  · skip
    refine r_vret C dX0_believe_20 ?_
    have er : res = R_c := by rw [hres]; simp only [d_X0_believe, if_pos c1]
    rw [er]
    exact ⟨rfl, hb_c⟩
  · skip
    refine r_iload_n C dX0_believe_4 rfl ?_
    refine r_aload_n C dX0_believe_5 rfl ?_
    refine r_get C hb_c (k := 0) rfl rfl celO_0 fw_X0_9 rfl dX0_believe_6 ?_
    refine r_alen C hb_c (k := 1) rfl rfl 6 (Or.inl ⟨rfl, rfl⟩) dX0_believe_9 ?_
    refine r_ic_ge C dX0_believe_10 (fun c2 => ?_) (fun c2 => ?_)
    · skip
      refine r_vret C dX0_believe_20 ?_
      have er : res = R_c := by rw [hres]; simp only [d_X0_believe, if_neg c1, if_pos c2]
      rw [er]
      exact ⟨rfl, hb_c⟩
    · skip
      refine r_aload_n C dX0_believe_13 rfl ?_
      refine r_get C hb_c (k := 0) rfl rfl celO_0 fw_X0_9 rfl dX0_believe_14 ?_
      refine r_iload_n C dX0_believe_17 rfl ?_
      refine r_iload_n C dX0_believe_18 rfl ?_
      refine r_iast C hb_c (k := 1) rfl rfl (by unfold fp1; omega) (vp_in_lh (x_lo1 c1) (x_hi1 (N := 6) c2 (by decide)) (by decide)) (j := t.toNatClampNeg) rfl dX0_believe_19 (fun H3 hb5 hq4 => ?_)
      refine r_vret C dX0_believe_20 ?_
      have er : res = (pt R_c 1 t.toNatClampNeg silver) := by rw [hres]; simp only [d_X0_believe, if_neg c1, if_neg c2]
      rw [er]
      exact ⟨rfl, hb5⟩

def d_X0_wouldAsk (R_c : Nat → Nat → Int32) (R_t : Nat → Nat → Int32) (i : Int32) : Int32 :=
  let u1 := d_X0_beliefOf R_c i
  if (R_t 0 2) = (3 : Int32) then
    ((imax (R_c 0 3) (u1 / (2 : Int32))) / (2 : Int32))
  else
    (imax (R_c 0 3) (u1 / (2 : Int32)))
set_option maxHeartbeats 4000000 in
set_option maxRecDepth 100000 in
theorem c_X0_wouldAsk (l : Launch) (D : DD) (o_c o_t : Nat) (R_c : Nat → Nat → Int32) (R_t : Nat → Nat → Int32) (i : Int32)  (res : Int32) (hres : res = d_X0_wouldAsk R_c R_t i) : Mt l D yX0_wouldAsk cX0_wouldAsk 4 (some .int) 1 21 0 0 [.ref o_c, .ref o_t, .int i] (fun H => blk D ksCrew o_c R_c H ∧ blk D ksTown o_t R_t H) (fun v H => v = some (.int res)) fp0 := by
  refine mt_of (own := RX0) (ls := [.val (.ref o_c), .val (.ref o_t), .val (.int i), .unset]) rfl (by decide +kernel) rfl ?_
  intro x H C hP
  obtain ⟨hb_c, hb_t⟩ := hP
  refine r_aload_n C dX0_wouldAsk_0 rfl ?_
  refine r_get C hb_c (k := 0) rfl rfl celO_0 fw_X0_26 (z := .int (R_c 0 3)) rfl dX0_wouldAsk_1 ?_
  refine r_aload_n C dX0_wouldAsk_4 rfl ?_
  refine r_iload_n C dX0_wouldAsk_5 rfl ?_
  obtain ⟨u1, hu1⟩ : ∃ r, r = d_X0_beliefOf R_c i := ⟨_, rfl⟩
  refine r_callV0 C cw_X0_29 (fun l => c_X0_beliefOf l D o_c R_c i u1 hu1) (rest := [.int (R_c 0 3)]) hb_c (k := 0) rfl rfl celO_0 hb_c (fun q h => h.elim) rfl rfl rfl (Nat.le_of_ble_eq_true rfl) ⟨Nat.le_of_ble_eq_true rfl, Nat.le_of_ble_eq_true rfl, Nat.le_refl 0, Nat.le_refl 0⟩ dX0_wouldAsk_6 (fun v H2 hp3 hq4 => ?_)
  subst hp3
  have hb5 := blk_kept hb_c (n := 2) rfl (fun q h1 h2 => hq4 q (fun h => h))
  have hb6 := blk_kept hb_t (n := 1) rfl (fun q h1 h2 => hq4 q (fun h => h))
  dsimp only [psh]
  refine r_iconst C dX0_wouldAsk_9 (2 : Int32) (by decide) ?_
  refine r_idiv C dX0_wouldAsk_10 (by decide) ?_
  refine r_mmax C mw_X0_33 rfl ⟨Nat.le_of_ble_eq_true rfl, Nat.le_of_ble_eq_true rfl, Nat.le_refl 0, Nat.le_refl 0⟩ dX0_wouldAsk_11 ?_
  refine r_istore_n C dX0_wouldAsk_14 (ls' := [.val (.ref o_c), .val (.ref o_t), .val (.int i), .val (.int (imax (R_c 0 3) (u1 / (2 : Int32))))]) rfl trivial rfl ?_
  refine r_aload_n C dX0_wouldAsk_15 rfl ?_
  refine r_get C hb6 (k := 0) rfl rfl celO_5 fw_X0_39 (z := .int (R_t 0 2)) rfl dX0_wouldAsk_16 ?_
  refine r_iconst C dX0_wouldAsk_19 (3 : Int32) (by decide) ?_
  refine r_ic_ne C dX0_wouldAsk_20 (fun c7 => ?_) (fun c7 => ?_)
  · skip
    refine r_iload_n C dX0_wouldAsk_29 rfl ?_
    refine r_iret C dX0_wouldAsk_30 ?_
    have er : res = (imax (R_c 0 3) (u1 / (2 : Int32))) := by rw [hres]; simp only [d_X0_wouldAsk, ← hu1, if_neg c7]
    rw [er]
  · skip
    refine r_iload_n C dX0_wouldAsk_23 rfl ?_
    refine r_iconst C dX0_wouldAsk_24 (2 : Int32) (by decide) ?_
    refine r_idiv C dX0_wouldAsk_25 (by decide) ?_
    refine r_goto C dX0_wouldAsk_26 ?_
    refine r_iret C dX0_wouldAsk_30 ?_
    have er : res = ((imax (R_c 0 3) (u1 / (2 : Int32))) / (2 : Int32)) := by rw [hres]; simp only [d_X0_wouldAsk, ← hu1, if_pos c7]
    rw [er]

def d_X0_takePay (R_c : Nat → Nat → Int32) (R_t : Nat → Nat → Int32) (i : Int32) (silver : Int32) : (Nat → Nat → Int32) × (Nat → Nat → Int32) :=
  let u1 := d_X5_give R_t silver
  let u11 := d_X0_believe (pt R_c 0 4 ((R_c 0 4) + silver)) i ((2 : Int32) * silver)
  (u11, u1)
set_option maxHeartbeats 4000000 in
set_option maxRecDepth 100000 in
theorem c_X0_takePay (l : Launch) (D : DD) (o_c o_t : Nat) (R_c : Nat → Nat → Int32) (R_t : Nat → Nat → Int32) (i : Int32) (silver : Int32) (hd : o_t < o_c ∨ o_c + 2 ≤ o_t) (res : (Nat → Nat → Int32) × (Nat → Nat → Int32)) (hres : res = d_X0_takePay R_c R_t i silver) : Mt l D yX0_takePay cX0_takePay 4 none 1 22 0 0 [.ref o_c, .ref o_t, .int i, .int silver] (fun H => blk D ksCrew o_c R_c H ∧ blk D ksTown o_t R_t H) (fun v H => v = none ∧ blk D ksCrew o_c res.1 H ∧ blk D ksTown o_t res.2 H) (fp2 o_c 2 o_t 1) := by
  refine mt_of (own := RX0) (ls := [.val (.ref o_c), .val (.ref o_t), .val (.int i), .val (.int silver)]) rfl (by decide +kernel) rfl ?_
  intro x H C hP
  obtain ⟨hb_c, hb_t⟩ := hP
  refine r_aload_n C dX0_takePay_0 rfl ?_
  refine r_iload_n C dX0_takePay_1 rfl ?_
  obtain ⟨u1, hu1⟩ : ∃ r, r = d_X5_give R_t silver := ⟨_, rfl⟩
  refine r_callV0 C cw_X0_44 (fun l => c_X5_give l D o_t R_t silver u1 hu1) (rest := []) hb_t (k := 0) rfl rfl celO_5 hb_t (fun q h => by unfold fp1 at h; unfold fp2; omega) rfl rfl rfl (Nat.le_of_ble_eq_true rfl) ⟨Nat.le_of_ble_eq_true rfl, Nat.le_of_ble_eq_true rfl, Nat.le_refl 0, Nat.le_refl 0⟩ dX0_takePay_2 (fun v H2 hp3 hq4 => ?_)
  obtain ⟨rfl, hn5⟩ := hp3
  have hb6 := blk_kept hb_c (n := 2) rfl (fun q h1 h2 => hq4 q (by unfold fp1; omega))
  dsimp only [psh]
  refine r_aload_n C dX0_takePay_5 rfl ?_
  refine r_dup C dX0_takePay_6 rfl ?_
  refine r_get C hb6 (k := 0) rfl rfl celO_0 fw_X0_48 (z := .int (R_c 0 4)) rfl dX0_takePay_7 ?_
  refine r_iload_n C dX0_takePay_10 rfl ?_
  refine r_iadd C dX0_takePay_11 ?_
  refine r_put C hb6 (k := 0) rfl rfl (by unfold fp2; omega) fw_X0_48 fp_0_4 (Or.inr rfl) dX0_takePay_12 (fun H7 hb9 hq8 => ?_)
  have hb10 := blk_kept hn5 (n := 1) rfl (fun q h1 h2 => hq8 q (by omega))
  refine r_aload_n C dX0_takePay_15 rfl ?_
  refine r_iload_n C dX0_takePay_16 rfl ?_
  refine r_iconst C dX0_takePay_17 (2 : Int32) (by decide) ?_
  refine r_iload_n C dX0_takePay_18 rfl ?_
  refine r_imul C dX0_takePay_19 ?_
  obtain ⟨u11, hu11⟩ : ∃ r, r = d_X0_believe (pt R_c 0 4 ((R_c 0 4) + silver)) i ((2 : Int32) * silver) := ⟨_, rfl⟩
  refine r_callV0 C cw_X0_51 (fun l => c_X0_believe l D o_c (pt R_c 0 4 ((R_c 0 4) + silver)) i ((2 : Int32) * silver) u11 hu11) (rest := []) hb9 (k := 0) rfl rfl celO_0 hb9 (fun q h => by unfold fp1 at h; unfold fp2; omega) rfl rfl rfl (Nat.le_of_ble_eq_true rfl) ⟨Nat.le_of_ble_eq_true rfl, Nat.le_of_ble_eq_true rfl, Nat.le_refl 0, Nat.le_refl 0⟩ dX0_takePay_20 (fun v H12 hp13 hq14 => ?_)
  obtain ⟨rfl, hn15⟩ := hp13
  have hb16 := blk_kept hb10 (n := 1) rfl (fun q h1 h2 => hq14 q (by unfold fp1; omega))
  dsimp only [psh]
  refine r_vret C dX0_takePay_23 ?_
  have er : res = (u11, u1) := by rw [hres]; simp only [d_X0_takePay, ← hu1, ← hu11]
  rw [er]
  exact ⟨rfl, hn15, hb16⟩

def d_X0_burn (R_c : Nat → Nat → Int32) (R_t : Nat → Nat → Int32) (i : Int32) : (Nat → Nat → Int32) × (Nat → Nat → Int32) :=
  let u13 := d_X0_believe (pt R_c 0 4 ((R_c 0 4) + (R_t 0 3))) i (0 : Int32)
  (u13, (pt (pt R_t 0 3 (0 : Int32)) 0 1 (1 : Int32)))
set_option maxHeartbeats 4000000 in
set_option maxRecDepth 100000 in
theorem c_X0_burn (l : Launch) (D : DD) (o_c o_t : Nat) (R_c : Nat → Nat → Int32) (R_t : Nat → Nat → Int32) (i : Int32) (hd : o_t < o_c ∨ o_c + 2 ≤ o_t) (res : (Nat → Nat → Int32) × (Nat → Nat → Int32)) (hres : res = d_X0_burn R_c R_t i) : Mt l D yX0_burn cX0_burn 3 none 1 22 0 0 [.ref o_c, .ref o_t, .int i] (fun H => blk D ksCrew o_c R_c H ∧ blk D ksTown o_t R_t H) (fun v H => v = none ∧ blk D ksCrew o_c res.1 H ∧ blk D ksTown o_t res.2 H) (fp2 o_c 2 o_t 1) := by
  refine mt_of (own := RX0) (ls := [.val (.ref o_c), .val (.ref o_t), .val (.int i)]) rfl (by decide +kernel) rfl ?_
  intro x H C hP
  obtain ⟨hb_c, hb_t⟩ := hP
  refine r_aload_n C dX0_burn_0 rfl ?_
  refine r_dup C dX0_burn_1 rfl ?_
  refine r_get C hb_c (k := 0) rfl rfl celO_0 fw_X0_48 (z := .int (R_c 0 4)) rfl dX0_burn_2 ?_
  refine r_aload_n C dX0_burn_5 rfl ?_
  refine r_get C hb_t (k := 0) rfl rfl celO_5 fw_X0_55 (z := .int (R_t 0 3)) rfl dX0_burn_6 ?_
  refine r_iadd C dX0_burn_9 ?_
  refine r_put C hb_c (k := 0) rfl rfl (by unfold fp2; omega) fw_X0_48 fp_0_4 (Or.inr rfl) dX0_burn_10 (fun H1 hb3 hq2 => ?_)
  have hb4 := blk_kept hb_t (n := 1) rfl (fun q h1 h2 => hq2 q (by omega))
  refine r_aload_n C dX0_burn_13 rfl ?_
  refine r_iconst C dX0_burn_14 (0 : Int32) (by decide) ?_
  refine r_put C hb4 (k := 0) rfl rfl (by unfold fp2; omega) fw_X0_55 fp_5_3 (Or.inr rfl) dX0_burn_15 (fun H5 hb7 hq6 => ?_)
  have hb8 := blk_kept hb3 (n := 2) rfl (fun q h1 h2 => hq6 q (by omega))
  refine r_aload_n C dX0_burn_18 rfl ?_
  refine r_iconst C dX0_burn_19 (1 : Int32) (by decide) ?_
  refine r_put C hb7 (k := 0) rfl rfl (by unfold fp2; omega) fw_X0_58 fp_5_1 (Or.inl ⟨rfl, Or.inr rfl⟩) dX0_burn_20 (fun H9 hb11 hq10 => ?_)
  have hb12 := blk_kept hb8 (n := 2) rfl (fun q h1 h2 => hq10 q (by omega))
  refine r_aload_n C dX0_burn_23 rfl ?_
  refine r_iload_n C dX0_burn_24 rfl ?_
  refine r_iconst C dX0_burn_25 (0 : Int32) (by decide) ?_
  obtain ⟨u13, hu13⟩ : ∃ r, r = d_X0_believe (pt R_c 0 4 ((R_c 0 4) + (R_t 0 3))) i (0 : Int32) := ⟨_, rfl⟩
  refine r_callV0 C cw_X0_51 (fun l => c_X0_believe l D o_c (pt R_c 0 4 ((R_c 0 4) + (R_t 0 3))) i (0 : Int32) u13 hu13) (rest := []) hb12 (k := 0) rfl rfl celO_0 hb12 (fun q h => by unfold fp1 at h; unfold fp2; omega) rfl rfl rfl (Nat.le_of_ble_eq_true rfl) ⟨Nat.le_of_ble_eq_true rfl, Nat.le_of_ble_eq_true rfl, Nat.le_refl 0, Nat.le_refl 0⟩ dX0_burn_26 (fun v H14 hp15 hq16 => ?_)
  obtain ⟨rfl, hn17⟩ := hp15
  have hb18 := blk_kept hb11 (n := 1) rfl (fun q h1 h2 => hq16 q (by unfold fp1; omega))
  dsimp only [psh]
  refine r_vret C dX0_burn_29 ?_
  have er : res = (u13, (pt (pt R_t 0 3 (0 : Int32)) 0 1 (1 : Int32))) := by rw [hres]; simp only [d_X0_burn, ← hu13]
  rw [er]
  exact ⟨rfl, hn17, hb18⟩

def d_X0_grow (R_c : Nat → Nat → Int32) (more : Int32) : (Nat → Nat → Int32) :=
  (pt R_c 0 2 (imin (99 : Int32) ((R_c 0 2) + more)))
set_option maxHeartbeats 4000000 in
set_option maxRecDepth 100000 in
theorem c_X0_grow (l : Launch) (D : DD) (o_c : Nat) (R_c : Nat → Nat → Int32) (more : Int32)  (res : (Nat → Nat → Int32)) (hres : res = d_X0_grow R_c more) : Mt l D yX0_grow cX0_grow 2 none 1 21 0 0 [.ref o_c, .int more] (fun H => blk D ksCrew o_c R_c H) (fun v H => v = none ∧ blk D ksCrew o_c res H) (fp1 o_c 2) := by
  refine mt_of (own := RX0) (ls := [.val (.ref o_c), .val (.int more)]) rfl (by decide +kernel) rfl ?_
  intro x H C hP
  have hb_c := hP
  refine r_aload_n C dX0_grow_0 rfl ?_
  refine r_bipush C dX0_grow_1 (99 : Int32) (by decide) ?_
  refine r_aload_n C dX0_grow_3 rfl ?_
  refine r_get C hb_c (k := 0) rfl rfl celO_0 fw_X0_22 (z := .int (R_c 0 2)) rfl dX0_grow_4 ?_
  refine r_iload_n C dX0_grow_7 rfl ?_
  refine r_iadd C dX0_grow_8 ?_
  refine r_mmin C mw_X0_64 rfl ⟨Nat.le_of_ble_eq_true rfl, Nat.le_of_ble_eq_true rfl, Nat.le_refl 0, Nat.le_refl 0⟩ dX0_grow_9 ?_
  refine r_put C hb_c (k := 0) rfl rfl (by unfold fp1; omega) fw_X0_22 fp_0_2 (Or.inr rfl) dX0_grow_12 (fun H1 hb3 hq2 => ?_)
  refine r_vret C dX0_grow_15 ?_
  have er : res = (pt R_c 0 2 (imin (99 : Int32) ((R_c 0 2) + more))) := by rw [hres]; simp only [d_X0_grow]
  rw [er]
  exact ⟨rfl, hb3⟩

def d_X0_goHome (R_c : Nat → Nat → Int32) : (Nat → Nat → Int32) :=
  let u1 := d_X0_grow R_c ((R_c 0 4) / (10 : Int32))
  (pt u1 0 4 (0 : Int32))
set_option maxHeartbeats 4000000 in
set_option maxRecDepth 100000 in
theorem c_X0_goHome (l : Launch) (D : DD) (o_c : Nat) (R_c : Nat → Nat → Int32)  (res : (Nat → Nat → Int32)) (hres : res = d_X0_goHome R_c) : Mt l D yX0_goHome cX0_goHome 1 none 2 42 0 0 [.ref o_c] (fun H => blk D ksCrew o_c R_c H) (fun v H => v = none ∧ blk D ksCrew o_c res H) (fp1 o_c 2) := by
  refine mt_of (own := RX0) (ls := [.val (.ref o_c)]) rfl (by decide +kernel) rfl ?_
  intro x H C hP
  have hb_c := hP
  refine r_aload_n C dX0_goHome_0 rfl ?_
  refine r_aload_n C dX0_goHome_1 rfl ?_
  refine r_get C hb_c (k := 0) rfl rfl celO_0 fw_X0_48 (z := .int (R_c 0 4)) rfl dX0_goHome_2 ?_
  refine r_bipush C dX0_goHome_5 (10 : Int32) (by decide) ?_
  refine r_idiv C dX0_goHome_7 (by decide) ?_
  obtain ⟨u1, hu1⟩ : ∃ r, r = d_X0_grow R_c ((R_c 0 4) / (10 : Int32)) := ⟨_, rfl⟩
  refine r_callV0 C cw_X0_61 (fun l => c_X0_grow l D o_c R_c ((R_c 0 4) / (10 : Int32)) u1 hu1) (rest := []) hb_c (k := 0) rfl rfl celO_0 hb_c (fun q h => by unfold fp1 at h; unfold fp1; omega) rfl rfl rfl (Nat.le_of_ble_eq_true rfl) ⟨Nat.le_of_ble_eq_true rfl, Nat.le_of_ble_eq_true rfl, Nat.le_refl 0, Nat.le_refl 0⟩ dX0_goHome_8 (fun v H2 hp3 hq4 => ?_)
  obtain ⟨rfl, hn5⟩ := hp3
  dsimp only [psh]
  refine r_aload_n C dX0_goHome_11 rfl ?_
  refine r_iconst C dX0_goHome_12 (0 : Int32) (by decide) ?_
  refine r_put C hn5 (k := 0) rfl rfl (by unfold fp1; omega) fw_X0_48 fp_0_4 (Or.inr rfl) dX0_goHome_13 (fun H6 hb8 hq7 => ?_)
  refine r_vret C dX0_goHome_16 ?_
  have er : res = (pt u1 0 4 (0 : Int32)) := by rw [hres]; simp only [d_X0_goHome, ← hu1]
  rw [er]
  exact ⟨rfl, hb8⟩

def d_X0_fightLosing (R_c : Nat → Nat → Int32) (fallen : Int32) : (Nat → Nat → Int32) :=
  if 0 < ((R_c 0 2) - fallen) then
    (pt (pt R_c 0 2 ((R_c 0 2) - fallen)) 0 1 (0 : Int32))
  else
    (pt (pt R_c 0 2 ((R_c 0 2) - fallen)) 0 1 (1 : Int32))
set_option maxHeartbeats 4000000 in
set_option maxRecDepth 100000 in
theorem c_X0_fightLosing (l : Launch) (D : DD) (o_c : Nat) (R_c : Nat → Nat → Int32) (fallen : Int32)  (res : (Nat → Nat → Int32)) (hres : res = d_X0_fightLosing R_c fallen) : Mt l D yX0_fightLosing cX0_fightLosing 2 none 0 0 0 0 [.ref o_c, .int fallen] (fun H => blk D ksCrew o_c R_c H) (fun v H => v = none ∧ blk D ksCrew o_c res H) (fp1 o_c 2) := by
  refine mt_of (own := RX0) (ls := [.val (.ref o_c), .val (.int fallen)]) rfl (by decide +kernel) rfl ?_
  intro x H C hP
  have hb_c := hP
  refine r_aload_n C dX0_fightLosing_0 rfl ?_
  refine r_dup C dX0_fightLosing_1 rfl ?_
  refine r_get C hb_c (k := 0) rfl rfl celO_0 fw_X0_22 (z := .int (R_c 0 2)) rfl dX0_fightLosing_2 ?_
  refine r_iload_n C dX0_fightLosing_5 rfl ?_
  refine r_isub C dX0_fightLosing_6 ?_
  refine r_put C hb_c (k := 0) rfl rfl (by unfold fp1; omega) fw_X0_22 fp_0_2 (Or.inr rfl) dX0_fightLosing_7 (fun H1 hb3 hq2 => ?_)
  refine r_aload_n C dX0_fightLosing_10 rfl ?_
  refine r_aload_n C dX0_fightLosing_11 rfl ?_
  refine r_get C hb3 (k := 0) rfl rfl celO_0 fw_X0_22 (z := .int ((R_c 0 2) - fallen)) rfl dX0_fightLosing_12 ?_
  refine r_if_gt C dX0_fightLosing_15 (fun c4 => ?_) (fun c4 => ?_)
  · skip
    refine r_iconst C dX0_fightLosing_22 (0 : Int32) (by decide) ?_
    refine r_put C hb3 (k := 0) rfl rfl (by unfold fp1; omega) fw_X0_19 fp_0_1 (Or.inl ⟨rfl, Or.inl rfl⟩) dX0_fightLosing_23 (fun H5 hb7 hq6 => ?_)
    refine r_vret C dX0_fightLosing_26 ?_
    have er : res = (pt (pt R_c 0 2 ((R_c 0 2) - fallen)) 0 1 (0 : Int32)) := by rw [hres]; simp only [d_X0_fightLosing, if_pos c4]
    rw [er]
    exact ⟨rfl, hb7⟩
  · skip
    refine r_iconst C dX0_fightLosing_18 (1 : Int32) (by decide) ?_
    refine r_goto C dX0_fightLosing_19 ?_
    refine r_put C hb3 (k := 0) rfl rfl (by unfold fp1; omega) fw_X0_19 fp_0_1 (Or.inl ⟨rfl, Or.inr rfl⟩) dX0_fightLosing_23 (fun H8 hb10 hq9 => ?_)
    refine r_vret C dX0_fightLosing_26 ?_
    have er : res = (pt (pt R_c 0 2 ((R_c 0 2) - fallen)) 0 1 (1 : Int32)) := by rw [hres]; simp only [d_X0_fightLosing, if_neg c4]
    rw [er]
    exact ⟨rfl, hb10⟩

def d_X0_copy_L34 (R_f : Nat → Nat → Int32) : Nat → (Nat → Nat → Int32) → Nat → (Nat → Nat → Int32)
  | 0, R, _ => R
  | n17 + 1, R, i =>
    if (nI 6) ≤ (nI i) then
      R
    else
      let u30 := d_X0_beliefOf R_f (nI i)
      d_X0_copy_L34 R_f n17 (pt R 1 i u30) (i + 1)
def d_X0_copy (R_c : Nat → Nat → Int32) (R_f : Nat → Nat → Int32) : (Nat → Nat → Int32) :=
  let s41 := d_X0_copy_L34 R_f 7 (pt (pt (pt (pt R_c 0 0 (R_f 0 0)) 0 1 (R_f 0 1)) 0 2 (R_f 0 2)) 0 3 (R_f 0 3)) 0
  s41
set_option maxHeartbeats 4000000 in
set_option maxRecDepth 100000 in
theorem c_X0_copy (l : Launch) (D : DD) (o_c o_f : Nat) (R_c : Nat → Nat → Int32) (R_f : Nat → Nat → Int32) (hd : o_c + 2 ≤ o_f ∨ o_f + 2 ≤ o_c) (res : (Nat → Nat → Int32)) (hres : res = d_X0_copy R_c R_f) : Mt l D yX0_copy cX0_copy 3 none 1 21 0 0 [.ref o_c, .ref o_f] (fun H => blk D ksCrew o_c R_c H ∧ blk D ksCrew o_f R_f H) (fun v H => v = none ∧ blk D ksCrew o_c res H) (fp1 o_c 2) := by
  refine mt_of (own := RX0) (ls := [.val (.ref o_c), .val (.ref o_f), .unset]) rfl (by decide +kernel) rfl ?_
  intro x H C hP
  obtain ⟨hb_c, hb_f⟩ := hP
  refine r_aload_n C dX0_copy_0 rfl ?_
  refine r_aload_n C dX0_copy_1 rfl ?_
  refine r_get C hb_f (k := 0) rfl rfl celO_0 fw_X0_15 (z := .int (R_f 0 0)) rfl dX0_copy_2 ?_
  refine r_put C hb_c (k := 0) rfl rfl (by unfold fp1; omega) fw_X0_15 fp_0_0 (Or.inl ⟨rfl, (bl_a hb_f (Or.inl rfl))⟩) dX0_copy_5 (fun H1 hb3 hq2 => ?_)
  have hb4 := blk_kept hb_f (n := 2) rfl (fun q h1 h2 => hq2 q (by omega))
  refine r_aload_n C dX0_copy_8 rfl ?_
  refine r_aload_n C dX0_copy_9 rfl ?_
  refine r_get C hb4 (k := 0) rfl rfl celO_0 fw_X0_19 (z := .int (R_f 0 1)) rfl dX0_copy_10 ?_
  refine r_put C hb3 (k := 0) rfl rfl (by unfold fp1; omega) fw_X0_19 fp_0_1 (Or.inl ⟨rfl, (bl_b hb4 (Or.inl rfl))⟩) dX0_copy_13 (fun H5 hb7 hq6 => ?_)
  have hb8 := blk_kept hb4 (n := 2) rfl (fun q h1 h2 => hq6 q (by omega))
  refine r_aload_n C dX0_copy_16 rfl ?_
  refine r_aload_n C dX0_copy_17 rfl ?_
  refine r_get C hb8 (k := 0) rfl rfl celO_0 fw_X0_22 (z := .int (R_f 0 2)) rfl dX0_copy_18 ?_
  refine r_put C hb7 (k := 0) rfl rfl (by unfold fp1; omega) fw_X0_22 fp_0_2 (Or.inr rfl) dX0_copy_21 (fun H9 hb11 hq10 => ?_)
  have hb12 := blk_kept hb8 (n := 2) rfl (fun q h1 h2 => hq10 q (by omega))
  refine r_aload_n C dX0_copy_24 rfl ?_
  refine r_aload_n C dX0_copy_25 rfl ?_
  refine r_get C hb12 (k := 0) rfl rfl celO_0 fw_X0_26 (z := .int (R_f 0 3)) rfl dX0_copy_26 ?_
  refine r_put C hb11 (k := 0) rfl rfl (by unfold fp1; omega) fw_X0_26 fp_0_3 (Or.inr rfl) dX0_copy_29 (fun H13 hb15 hq14 => ?_)
  have hb16 := blk_kept hb12 (n := 2) rfl (fun q h1 h2 => hq14 q (by omega))
  refine r_iconst C dX0_copy_32 (0 : Int32) (by decide) ?_
  refine r_istore_n C dX0_copy_33 (ls' := [.val (.ref o_c), .val (.ref o_f), .val (.int (0 : Int32))]) rfl trivial rfl ?_
  have d_X0_copy_L34_w : ∀ (n17 : Nat) (R : Nat → Nat → Int32) (i : Nat) (H23 : Heap), True → (i ≤ 6) → (6 - i < n17) → blk D ksCrew o_c R H23 → blk D ksCrew o_f R_f H23 → ∀ s19 : (Nat → Nat → Int32), s19 = d_X0_copy_L34 R_f n17 R i → (∀ (H' : Heap) (z24 : Slot) (_ : slot1 z24), True → blk D ksCrew o_c s19 H' → blk D ksCrew o_f R_f H' → WG x (fp1 o_c 2) (Fin x (fun v H => v = none ∧ blk D ksCrew o_c res H) (fp1 o_c 2) 0 0) H' 0 0 60 [.val (.ref o_c), .val (.ref o_f), z24] []) → WG x (fp1 o_c 2) (Fin x (fun v H => v = none ∧ blk D ksCrew o_c res H) (fp1 o_c 2) 0 0) H23 0 0 34 [.val (.ref o_c), .val (.ref o_f), .val (.int (nI i))] [] := by
    intro n17
    induction n17 with
    | zero => intro R i H23  _ hi hm25; exact absurd hm25 (Nat.not_lt_zero _)
    | succ n17 ih18 =>
      intro R i H23  _ hi hm25 hb21 hb22 s19 hs19  kx20
      refine r_iload_n C dX0_copy_34 rfl ?_
      refine r_aload_n C dX0_copy_35 rfl ?_
      refine r_get C hb21 (k := 0) rfl rfl celO_0 fw_X0_9 rfl dX0_copy_36 ?_
      refine r_alen C hb21 (k := 1) rfl rfl 6 (Or.inl ⟨rfl, rfl⟩) dX0_copy_39 ?_
      refine r_ic_ge C dX0_copy_40 (fun c26 => ?_) (fun c26 => ?_)
      · skip
        have f27 : (6 ≤ i) := nf_leI (by omega) (by omega) rfl rfl c26
        have e28 : s19 = R := by rw [hs19]; simp only [d_X0_copy_L34, if_pos c26]
        rw [e28] at kx20
        exact kx20 _ _ rfl trivial  hb21 hb22
      · skip
        have f29 : ¬ (6 ≤ i) := nf_leIn (by omega) (by omega) rfl rfl c26
        refine r_aload_n C dX0_copy_43 rfl ?_
        refine r_get C hb21 (k := 0) rfl rfl celO_0 fw_X0_9 rfl dX0_copy_44 ?_
        refine r_iload_n C dX0_copy_47 rfl ?_
        refine r_aload_n C dX0_copy_48 rfl ?_
        refine r_iload_n C dX0_copy_49 rfl ?_
        obtain ⟨u30, hu30⟩ : ∃ r, r = d_X0_beliefOf R_f (nI i) := ⟨_, rfl⟩
        refine r_callV0 C cw_X0_29 (fun l => c_X0_beliefOf l D o_f R_f (nI i) u30 hu30) (rest := [.int (nI i), .ref (o_c + 1)]) hb22 (k := 0) rfl rfl celO_0 hb22 (fun q h => h.elim) rfl rfl rfl (Nat.le_of_ble_eq_true rfl) ⟨Nat.le_of_ble_eq_true rfl, Nat.le_of_ble_eq_true rfl, Nat.le_refl 0, Nat.le_refl 0⟩ dX0_copy_50 (fun v H31 hp32 hq33 => ?_)
        subst hp32
        have hb34 := blk_kept hb21 (n := 2) rfl (fun q h1 h2 => hq33 q (fun h => h))
        have hb35 := blk_kept hb22 (n := 2) rfl (fun q h1 h2 => hq33 q (fun h => h))
        dsimp only [psh]
        refine r_iast C hb34 (k := 1) rfl rfl (by unfold fp1; omega) (vp_in_n rfl (by omega) (by decide)) (j := i) (cl_n rfl (by omega)) dX0_copy_53 (fun H36 hb38 hq37 => ?_)
        have hb39 := blk_kept hb35 (n := 2) rfl (fun q h1 h2 => hq37 q (by omega))
        refine r_iinc C dX0_copy_54 (nI (i + 1)) rfl (nI_inc i rfl) (ls' := [.val (.ref o_c), .val (.ref o_f), .val (.int (nI (i + 1)))]) rfl ?_
        refine r_goto C dX0_copy_57 ?_
        have e40 : s19 = d_X0_copy_L34 R_f n17 (pt R 1 i u30) (i + 1) := by rw [hs19]; simp only [d_X0_copy_L34, ← hu30, if_neg c26]
        exact ih18 (pt R 1 i u30) (i + 1) _  trivial (by omega) (by omega) hb38 hb39 s19 e40  kx20
  obtain ⟨s41, hs41⟩ : ∃ r, r = d_X0_copy_L34 R_f 7 (pt (pt (pt (pt R_c 0 0 (R_f 0 0)) 0 1 (R_f 0 1)) 0 2 (R_f 0 2)) 0 3 (R_f 0 3)) 0 := ⟨_, rfl⟩
  refine d_X0_copy_L34_w 7 (pt (pt (pt (pt R_c 0 0 (R_f 0 0)) 0 1 (R_f 0 1)) 0 2 (R_f 0 2)) 0 3 (R_f 0 3)) 0 _  trivial (by omega) (by omega) hb15 hb16 s41 hs41  (fun H44 z24 hz24 e45  hb42 hb43 => ?_)
  refine r_vret C dX0_copy_60 ?_
  have er : res = s41 := by rw [hres]; simp only [d_X0_copy, ← hs41]
  rw [er]
  exact ⟨rfl, hb42⟩
end
section
theorem dX3_init_0 : dec cX3_init 0 (.aload_n 0) 1 1 := ⟨by decide +kernel, rfl⟩
theorem dX3_init_1 : dec cX3_init 1 (.invokespecial 3) 3 4 := ⟨by decide +kernel, rfl⟩
theorem dX3_init_4 : dec cX3_init 4 (.aload_n 0) 1 5 := ⟨by decide +kernel, rfl⟩
theorem dX3_init_5 : dec cX3_init 5 (.bipush 6) 2 7 := ⟨by decide +kernel, rfl⟩
theorem dX3_init_7 : dec cX3_init 7 (.anewarray 9) 3 10 := ⟨by decide +kernel, rfl⟩
theorem dX3_init_10 : dec cX3_init 10 (.putfield 11) 3 13 := ⟨by decide +kernel, rfl⟩
theorem dX3_init_13 : dec cX3_init 13 (.aload_n 0) 1 14 := ⟨by decide +kernel, rfl⟩
theorem dX3_init_14 : dec cX3_init 14 (.iconst 3) 1 15 := ⟨by decide +kernel, rfl⟩
theorem dX3_init_15 : dec cX3_init 15 (.anewarray 17) 3 18 := ⟨by decide +kernel, rfl⟩
theorem dX3_init_18 : dec cX3_init 18 (.putfield 19) 3 21 := ⟨by decide +kernel, rfl⟩
theorem dX3_init_21 : dec cX3_init 21 (.iconst 0) 1 22 := ⟨by decide +kernel, rfl⟩
theorem dX3_init_22 : dec cX3_init 22 (.istore_n 1) 1 23 := ⟨by decide +kernel, rfl⟩
theorem dX3_init_23 : dec cX3_init 23 (.iload_n 1) 1 24 := ⟨by decide +kernel, rfl⟩
theorem dX3_init_24 : dec cX3_init 24 (.aload_n 0) 1 25 := ⟨by decide +kernel, rfl⟩
theorem dX3_init_25 : dec cX3_init 25 (.getfield 11) 3 28 := ⟨by decide +kernel, rfl⟩
theorem dX3_init_28 : dec cX3_init 28 .arraylength 1 29 := ⟨by decide +kernel, rfl⟩
theorem dX3_init_29 : decJ cX3_init 29 (.if_icmp .ge) 3 32 51 := ⟨22, by decide +kernel, rfl, rfl⟩
theorem dX3_init_32 : dec cX3_init 32 (.aload_n 0) 1 33 := ⟨by decide +kernel, rfl⟩
theorem dX3_init_33 : dec cX3_init 33 (.getfield 11) 3 36 := ⟨by decide +kernel, rfl⟩
theorem dX3_init_36 : dec cX3_init 36 (.iload_n 1) 1 37 := ⟨by decide +kernel, rfl⟩
theorem dX3_init_37 : dec cX3_init 37 (.new 9) 3 40 := ⟨by decide +kernel, rfl⟩
theorem dX3_init_40 : dec cX3_init 40 .dup 1 41 := ⟨by decide +kernel, rfl⟩
theorem dX3_init_41 : dec cX3_init 41 (.invokespecial 23) 3 44 := ⟨by decide +kernel, rfl⟩
theorem dX3_init_44 : dec cX3_init 44 .aastore 1 45 := ⟨by decide +kernel, rfl⟩
theorem dX3_init_45 : dec cX3_init 45 (.iinc 1 1) 3 48 := ⟨by decide +kernel, rfl⟩
theorem dX3_init_48 : decJ cX3_init 48 .goto 3 51 23 := ⟨-25, by decide +kernel, rfl, rfl⟩
theorem dX3_init_51 : dec cX3_init 51 (.iconst 0) 1 52 := ⟨by decide +kernel, rfl⟩
theorem dX3_init_52 : dec cX3_init 52 (.istore_n 1) 1 53 := ⟨by decide +kernel, rfl⟩
theorem dX3_init_53 : dec cX3_init 53 (.iload_n 1) 1 54 := ⟨by decide +kernel, rfl⟩
theorem dX3_init_54 : dec cX3_init 54 (.aload_n 0) 1 55 := ⟨by decide +kernel, rfl⟩
theorem dX3_init_55 : dec cX3_init 55 (.getfield 19) 3 58 := ⟨by decide +kernel, rfl⟩
theorem dX3_init_58 : dec cX3_init 58 .arraylength 1 59 := ⟨by decide +kernel, rfl⟩
theorem dX3_init_59 : decJ cX3_init 59 (.if_icmp .ge) 3 62 81 := ⟨22, by decide +kernel, rfl, rfl⟩
theorem dX3_init_62 : dec cX3_init 62 (.aload_n 0) 1 63 := ⟨by decide +kernel, rfl⟩
theorem dX3_init_63 : dec cX3_init 63 (.getfield 19) 3 66 := ⟨by decide +kernel, rfl⟩
theorem dX3_init_66 : dec cX3_init 66 (.iload_n 1) 1 67 := ⟨by decide +kernel, rfl⟩
theorem dX3_init_67 : dec cX3_init 67 (.new 17) 3 70 := ⟨by decide +kernel, rfl⟩
theorem dX3_init_70 : dec cX3_init 70 .dup 1 71 := ⟨by decide +kernel, rfl⟩
theorem dX3_init_71 : dec cX3_init 71 (.invokespecial 24) 3 74 := ⟨by decide +kernel, rfl⟩
theorem dX3_init_74 : dec cX3_init 74 .aastore 1 75 := ⟨by decide +kernel, rfl⟩
theorem dX3_init_75 : dec cX3_init 75 (.iinc 1 1) 3 78 := ⟨by decide +kernel, rfl⟩
theorem dX3_init_78 : decJ cX3_init 78 .goto 3 81 53 := ⟨-25, by decide +kernel, rfl, rfl⟩
theorem dX3_init_81 : dec cX3_init 81 .return_ 1 82 := ⟨by decide +kernel, rfl⟩
theorem dX3_copy_0 : dec cX3_copy 0 (.iconst 0) 1 1 := ⟨by decide +kernel, rfl⟩
theorem dX3_copy_1 : dec cX3_copy 1 (.istore_n 2) 1 2 := ⟨by decide +kernel, rfl⟩
theorem dX3_copy_2 : dec cX3_copy 2 (.iload_n 2) 1 3 := ⟨by decide +kernel, rfl⟩
theorem dX3_copy_3 : dec cX3_copy 3 (.aload_n 0) 1 4 := ⟨by decide +kernel, rfl⟩
theorem dX3_copy_4 : dec cX3_copy 4 (.getfield 11) 3 7 := ⟨by decide +kernel, rfl⟩
theorem dX3_copy_7 : dec cX3_copy 7 .arraylength 1 8 := ⟨by decide +kernel, rfl⟩
theorem dX3_copy_8 : decJ cX3_copy 8 (.if_icmp .ge) 3 11 41 := ⟨33, by decide +kernel, rfl, rfl⟩
theorem dX3_copy_11 : dec cX3_copy 11 (.iload_n 2) 1 12 := ⟨by decide +kernel, rfl⟩
theorem dX3_copy_12 : dec cX3_copy 12 (.aload_n 1) 1 13 := ⟨by decide +kernel, rfl⟩
theorem dX3_copy_13 : dec cX3_copy 13 (.getfield 11) 3 16 := ⟨by decide +kernel, rfl⟩
theorem dX3_copy_16 : dec cX3_copy 16 .arraylength 1 17 := ⟨by decide +kernel, rfl⟩
theorem dX3_copy_17 : decJ cX3_copy 17 (.if_icmp .ge) 3 20 41 := ⟨24, by decide +kernel, rfl, rfl⟩
theorem dX3_copy_20 : dec cX3_copy 20 (.aload_n 0) 1 21 := ⟨by decide +kernel, rfl⟩
theorem dX3_copy_21 : dec cX3_copy 21 (.getfield 11) 3 24 := ⟨by decide +kernel, rfl⟩
theorem dX3_copy_24 : dec cX3_copy 24 (.iload_n 2) 1 25 := ⟨by decide +kernel, rfl⟩
theorem dX3_copy_25 : dec cX3_copy 25 .aaload 1 26 := ⟨by decide +kernel, rfl⟩
theorem dX3_copy_26 : dec cX3_copy 26 (.aload_n 1) 1 27 := ⟨by decide +kernel, rfl⟩
theorem dX3_copy_27 : dec cX3_copy 27 (.getfield 11) 3 30 := ⟨by decide +kernel, rfl⟩
theorem dX3_copy_30 : dec cX3_copy 30 (.iload_n 2) 1 31 := ⟨by decide +kernel, rfl⟩
theorem dX3_copy_31 : dec cX3_copy 31 .aaload 1 32 := ⟨by decide +kernel, rfl⟩
theorem dX3_copy_32 : dec cX3_copy 32 (.invokevirtual 25) 3 35 := ⟨by decide +kernel, rfl⟩
theorem dX3_copy_35 : dec cX3_copy 35 (.iinc 2 1) 3 38 := ⟨by decide +kernel, rfl⟩
theorem dX3_copy_38 : decJ cX3_copy 38 .goto 3 41 2 := ⟨-36, by decide +kernel, rfl, rfl⟩
theorem dX3_copy_41 : dec cX3_copy 41 (.iconst 0) 1 42 := ⟨by decide +kernel, rfl⟩
theorem dX3_copy_42 : dec cX3_copy 42 (.istore_n 2) 1 43 := ⟨by decide +kernel, rfl⟩
theorem dX3_copy_43 : dec cX3_copy 43 (.iload_n 2) 1 44 := ⟨by decide +kernel, rfl⟩
theorem dX3_copy_44 : dec cX3_copy 44 (.aload_n 0) 1 45 := ⟨by decide +kernel, rfl⟩
theorem dX3_copy_45 : dec cX3_copy 45 (.getfield 19) 3 48 := ⟨by decide +kernel, rfl⟩
theorem dX3_copy_48 : dec cX3_copy 48 .arraylength 1 49 := ⟨by decide +kernel, rfl⟩
theorem dX3_copy_49 : decJ cX3_copy 49 (.if_icmp .ge) 3 52 82 := ⟨33, by decide +kernel, rfl, rfl⟩
theorem dX3_copy_52 : dec cX3_copy 52 (.iload_n 2) 1 53 := ⟨by decide +kernel, rfl⟩
theorem dX3_copy_53 : dec cX3_copy 53 (.aload_n 1) 1 54 := ⟨by decide +kernel, rfl⟩
theorem dX3_copy_54 : dec cX3_copy 54 (.getfield 19) 3 57 := ⟨by decide +kernel, rfl⟩
theorem dX3_copy_57 : dec cX3_copy 57 .arraylength 1 58 := ⟨by decide +kernel, rfl⟩
theorem dX3_copy_58 : decJ cX3_copy 58 (.if_icmp .ge) 3 61 82 := ⟨24, by decide +kernel, rfl, rfl⟩
theorem dX3_copy_61 : dec cX3_copy 61 (.aload_n 0) 1 62 := ⟨by decide +kernel, rfl⟩
theorem dX3_copy_62 : dec cX3_copy 62 (.getfield 19) 3 65 := ⟨by decide +kernel, rfl⟩
theorem dX3_copy_65 : dec cX3_copy 65 (.iload_n 2) 1 66 := ⟨by decide +kernel, rfl⟩
theorem dX3_copy_66 : dec cX3_copy 66 .aaload 1 67 := ⟨by decide +kernel, rfl⟩
theorem dX3_copy_67 : dec cX3_copy 67 (.aload_n 1) 1 68 := ⟨by decide +kernel, rfl⟩
theorem dX3_copy_68 : dec cX3_copy 68 (.getfield 19) 3 71 := ⟨by decide +kernel, rfl⟩
theorem dX3_copy_71 : dec cX3_copy 71 (.iload_n 2) 1 72 := ⟨by decide +kernel, rfl⟩
theorem dX3_copy_72 : dec cX3_copy 72 .aaload 1 73 := ⟨by decide +kernel, rfl⟩
theorem dX3_copy_73 : dec cX3_copy 73 (.invokevirtual 29) 3 76 := ⟨by decide +kernel, rfl⟩
theorem dX3_copy_76 : dec cX3_copy 76 (.iinc 2 1) 3 79 := ⟨by decide +kernel, rfl⟩
theorem dX3_copy_79 : decJ cX3_copy 79 .goto 3 82 43 := ⟨-36, by decide +kernel, rfl, rfl⟩
theorem dX3_copy_82 : dec cX3_copy 82 (.aload_n 0) 1 83 := ⟨by decide +kernel, rfl⟩
theorem dX3_copy_83 : dec cX3_copy 83 (.aload_n 1) 1 84 := ⟨by decide +kernel, rfl⟩
theorem dX3_copy_84 : dec cX3_copy 84 (.getfield 32) 3 87 := ⟨by decide +kernel, rfl⟩
theorem dX3_copy_87 : dec cX3_copy 87 (.putfield 32) 3 90 := ⟨by decide +kernel, rfl⟩
theorem dX3_copy_90 : dec cX3_copy 90 (.aload_n 0) 1 91 := ⟨by decide +kernel, rfl⟩
theorem dX3_copy_91 : dec cX3_copy 91 (.aload_n 1) 1 92 := ⟨by decide +kernel, rfl⟩
theorem dX3_copy_92 : dec cX3_copy 92 (.getfield 36) 3 95 := ⟨by decide +kernel, rfl⟩
theorem dX3_copy_95 : dec cX3_copy 95 (.putfield 36) 3 98 := ⟨by decide +kernel, rfl⟩
theorem dX3_copy_98 : dec cX3_copy 98 .return_ 1 99 := ⟨by decide +kernel, rfl⟩
theorem dX3_clear_0 : dec cX3_clear 0 (.iconst 0) 1 1 := ⟨by decide +kernel, rfl⟩
theorem dX3_clear_1 : dec cX3_clear 1 (.istore_n 1) 1 2 := ⟨by decide +kernel, rfl⟩
theorem dX3_clear_2 : dec cX3_clear 2 (.iload_n 1) 1 3 := ⟨by decide +kernel, rfl⟩
theorem dX3_clear_3 : dec cX3_clear 3 (.aload_n 0) 1 4 := ⟨by decide +kernel, rfl⟩
theorem dX3_clear_4 : dec cX3_clear 4 (.getfield 11) 3 7 := ⟨by decide +kernel, rfl⟩
theorem dX3_clear_7 : dec cX3_clear 7 .arraylength 1 8 := ⟨by decide +kernel, rfl⟩
theorem dX3_clear_8 : decJ cX3_clear 8 (.if_icmp .ge) 3 11 27 := ⟨19, by decide +kernel, rfl, rfl⟩
theorem dX3_clear_11 : dec cX3_clear 11 (.aload_n 0) 1 12 := ⟨by decide +kernel, rfl⟩
theorem dX3_clear_12 : dec cX3_clear 12 (.getfield 11) 3 15 := ⟨by decide +kernel, rfl⟩
theorem dX3_clear_15 : dec cX3_clear 15 (.iload_n 1) 1 16 := ⟨by decide +kernel, rfl⟩
theorem dX3_clear_16 : dec cX3_clear 16 .aaload 1 17 := ⟨by decide +kernel, rfl⟩
theorem dX3_clear_17 : dec cX3_clear 17 (.iconst 0) 1 18 := ⟨by decide +kernel, rfl⟩
theorem dX3_clear_18 : dec cX3_clear 18 (.putfield 39) 3 21 := ⟨by decide +kernel, rfl⟩
theorem dX3_clear_21 : dec cX3_clear 21 (.iinc 1 1) 3 24 := ⟨by decide +kernel, rfl⟩
theorem dX3_clear_24 : decJ cX3_clear 24 .goto 3 27 2 := ⟨-22, by decide +kernel, rfl, rfl⟩
theorem dX3_clear_27 : dec cX3_clear 27 (.iconst 0) 1 28 := ⟨by decide +kernel, rfl⟩
theorem dX3_clear_28 : dec cX3_clear 28 (.istore_n 1) 1 29 := ⟨by decide +kernel, rfl⟩
theorem dX3_clear_29 : dec cX3_clear 29 (.iload_n 1) 1 30 := ⟨by decide +kernel, rfl⟩
theorem dX3_clear_30 : dec cX3_clear 30 (.aload_n 0) 1 31 := ⟨by decide +kernel, rfl⟩
theorem dX3_clear_31 : dec cX3_clear 31 (.getfield 19) 3 34 := ⟨by decide +kernel, rfl⟩
theorem dX3_clear_34 : dec cX3_clear 34 .arraylength 1 35 := ⟨by decide +kernel, rfl⟩
theorem dX3_clear_35 : decJ cX3_clear 35 (.if_icmp .ge) 3 38 54 := ⟨19, by decide +kernel, rfl, rfl⟩
theorem dX3_clear_38 : dec cX3_clear 38 (.aload_n 0) 1 39 := ⟨by decide +kernel, rfl⟩
theorem dX3_clear_39 : dec cX3_clear 39 (.getfield 19) 3 42 := ⟨by decide +kernel, rfl⟩
theorem dX3_clear_42 : dec cX3_clear 42 (.iload_n 1) 1 43 := ⟨by decide +kernel, rfl⟩
theorem dX3_clear_43 : dec cX3_clear 43 .aaload 1 44 := ⟨by decide +kernel, rfl⟩
theorem dX3_clear_44 : dec cX3_clear 44 (.iconst 0) 1 45 := ⟨by decide +kernel, rfl⟩
theorem dX3_clear_45 : dec cX3_clear 45 (.putfield 43) 3 48 := ⟨by decide +kernel, rfl⟩
theorem dX3_clear_48 : dec cX3_clear 48 (.iinc 1 1) 3 51 := ⟨by decide +kernel, rfl⟩
theorem dX3_clear_51 : decJ cX3_clear 51 .goto 3 54 29 := ⟨-22, by decide +kernel, rfl, rfl⟩
theorem dX3_clear_54 : dec cX3_clear 54 (.aload_n 0) 1 55 := ⟨by decide +kernel, rfl⟩
theorem dX3_clear_55 : dec cX3_clear 55 (.bipush 10) 2 57 := ⟨by decide +kernel, rfl⟩
theorem dX3_clear_57 : dec cX3_clear 57 (.putfield 32) 3 60 := ⟨by decide +kernel, rfl⟩
theorem dX3_clear_60 : dec cX3_clear 60 (.aload_n 0) 1 61 := ⟨by decide +kernel, rfl⟩
theorem dX3_clear_61 : dec cX3_clear 61 (.iconst 0) 1 62 := ⟨by decide +kernel, rfl⟩
theorem dX3_clear_62 : dec cX3_clear 62 (.putfield 36) 3 65 := ⟨by decide +kernel, rfl⟩
theorem dX3_clear_65 : dec cX3_clear 65 .return_ 1 66 := ⟨by decide +kernel, rfl⟩
theorem dX3_townAt_0 : dec cX3_townAt 0 (.iload_n 1) 1 1 := ⟨by decide +kernel, rfl⟩
theorem dX3_townAt_1 : decJ cX3_townAt 1 (.ifCond .lt) 3 4 34 := ⟨33, by decide +kernel, rfl, rfl⟩
theorem dX3_townAt_4 : dec cX3_townAt 4 (.iload_n 1) 1 5 := ⟨by decide +kernel, rfl⟩
theorem dX3_townAt_5 : dec cX3_townAt 5 (.aload_n 0) 1 6 := ⟨by decide +kernel, rfl⟩
theorem dX3_townAt_6 : dec cX3_townAt 6 (.getfield 11) 3 9 := ⟨by decide +kernel, rfl⟩
theorem dX3_townAt_9 : dec cX3_townAt 9 .arraylength 1 10 := ⟨by decide +kernel, rfl⟩
theorem dX3_townAt_10 : decJ cX3_townAt 10 (.if_icmp .ge) 3 13 34 := ⟨24, by decide +kernel, rfl, rfl⟩
theorem dX3_townAt_13 : dec cX3_townAt 13 (.aload_n 0) 1 14 := ⟨by decide +kernel, rfl⟩
theorem dX3_townAt_14 : dec cX3_townAt 14 (.getfield 11) 3 17 := ⟨by decide +kernel, rfl⟩
theorem dX3_townAt_17 : dec cX3_townAt 17 (.iload_n 1) 1 18 := ⟨by decide +kernel, rfl⟩
theorem dX3_townAt_18 : dec cX3_townAt 18 .aaload 1 19 := ⟨by decide +kernel, rfl⟩
theorem dX3_townAt_19 : dec cX3_townAt 19 (.getfield 39) 3 22 := ⟨by decide +kernel, rfl⟩
theorem dX3_townAt_22 : decJ cX3_townAt 22 (.ifCond .eq) 3 25 34 := ⟨12, by decide +kernel, rfl, rfl⟩
theorem dX3_townAt_25 : dec cX3_townAt 25 (.aload_n 0) 1 26 := ⟨by decide +kernel, rfl⟩
theorem dX3_townAt_26 : dec cX3_townAt 26 (.getfield 11) 3 29 := ⟨by decide +kernel, rfl⟩
theorem dX3_townAt_29 : dec cX3_townAt 29 (.iload_n 1) 1 30 := ⟨by decide +kernel, rfl⟩
theorem dX3_townAt_30 : dec cX3_townAt 30 .aaload 1 31 := ⟨by decide +kernel, rfl⟩
theorem dX3_townAt_31 : decJ cX3_townAt 31 .goto 3 34 35 := ⟨4, by decide +kernel, rfl, rfl⟩
theorem dX3_townAt_34 : dec cX3_townAt 34 .aconst_null 1 35 := ⟨by decide +kernel, rfl⟩
theorem dX3_townAt_35 : dec cX3_townAt 35 .areturn 1 36 := ⟨by decide +kernel, rfl⟩
theorem dX3_crewAt_0 : dec cX3_crewAt 0 (.iload_n 1) 1 1 := ⟨by decide +kernel, rfl⟩
theorem dX3_crewAt_1 : decJ cX3_crewAt 1 (.ifCond .lt) 3 4 34 := ⟨33, by decide +kernel, rfl, rfl⟩
theorem dX3_crewAt_4 : dec cX3_crewAt 4 (.iload_n 1) 1 5 := ⟨by decide +kernel, rfl⟩
theorem dX3_crewAt_5 : dec cX3_crewAt 5 (.aload_n 0) 1 6 := ⟨by decide +kernel, rfl⟩
theorem dX3_crewAt_6 : dec cX3_crewAt 6 (.getfield 19) 3 9 := ⟨by decide +kernel, rfl⟩
theorem dX3_crewAt_9 : dec cX3_crewAt 9 .arraylength 1 10 := ⟨by decide +kernel, rfl⟩
theorem dX3_crewAt_10 : decJ cX3_crewAt 10 (.if_icmp .ge) 3 13 34 := ⟨24, by decide +kernel, rfl, rfl⟩
theorem dX3_crewAt_13 : dec cX3_crewAt 13 (.aload_n 0) 1 14 := ⟨by decide +kernel, rfl⟩
theorem dX3_crewAt_14 : dec cX3_crewAt 14 (.getfield 19) 3 17 := ⟨by decide +kernel, rfl⟩
theorem dX3_crewAt_17 : dec cX3_crewAt 17 (.iload_n 1) 1 18 := ⟨by decide +kernel, rfl⟩
theorem dX3_crewAt_18 : dec cX3_crewAt 18 .aaload 1 19 := ⟨by decide +kernel, rfl⟩
theorem dX3_crewAt_19 : dec cX3_crewAt 19 (.getfield 43) 3 22 := ⟨by decide +kernel, rfl⟩
theorem dX3_crewAt_22 : decJ cX3_crewAt 22 (.ifCond .eq) 3 25 34 := ⟨12, by decide +kernel, rfl, rfl⟩
theorem dX3_crewAt_25 : dec cX3_crewAt 25 (.aload_n 0) 1 26 := ⟨by decide +kernel, rfl⟩
theorem dX3_crewAt_26 : dec cX3_crewAt 26 (.getfield 19) 3 29 := ⟨by decide +kernel, rfl⟩
theorem dX3_crewAt_29 : dec cX3_crewAt 29 (.iload_n 1) 1 30 := ⟨by decide +kernel, rfl⟩
theorem dX3_crewAt_30 : dec cX3_crewAt 30 .aaload 1 31 := ⟨by decide +kernel, rfl⟩
theorem dX3_crewAt_31 : decJ cX3_crewAt 31 .goto 3 34 35 := ⟨4, by decide +kernel, rfl, rfl⟩
theorem dX3_crewAt_34 : dec cX3_crewAt 34 .aconst_null 1 35 := ⟨by decide +kernel, rfl⟩
theorem dX3_crewAt_35 : dec cX3_crewAt 35 .areturn 1 36 := ⟨by decide +kernel, rfl⟩
theorem dX3_standsAt_0 : dec cX3_standsAt 0 (.aload_n 0) 1 1 := ⟨by decide +kernel, rfl⟩
theorem dX3_standsAt_1 : dec cX3_standsAt 1 (.iload_n 1) 1 2 := ⟨by decide +kernel, rfl⟩
theorem dX3_standsAt_2 : dec cX3_standsAt 2 (.invokevirtual 44) 3 5 := ⟨by decide +kernel, rfl⟩
theorem dX3_standsAt_5 : dec cX3_standsAt 5 (.astore_n 2) 1 6 := ⟨by decide +kernel, rfl⟩
theorem dX3_standsAt_6 : dec cX3_standsAt 6 (.aload_n 2) 1 7 := ⟨by decide +kernel, rfl⟩
theorem dX3_standsAt_7 : decJ cX3_standsAt 7 .ifnull 3 10 21 := ⟨14, by decide +kernel, rfl, rfl⟩
theorem dX3_standsAt_10 : dec cX3_standsAt 10 (.aload_n 2) 1 11 := ⟨by decide +kernel, rfl⟩
theorem dX3_standsAt_11 : dec cX3_standsAt 11 (.getfield 48) 3 14 := ⟨by decide +kernel, rfl⟩
theorem dX3_standsAt_14 : decJ cX3_standsAt 14 (.ifCond .ne) 3 17 21 := ⟨7, by decide +kernel, rfl, rfl⟩
theorem dX3_standsAt_17 : dec cX3_standsAt 17 (.iconst 1) 1 18 := ⟨by decide +kernel, rfl⟩
theorem dX3_standsAt_18 : decJ cX3_standsAt 18 .goto 3 21 22 := ⟨4, by decide +kernel, rfl, rfl⟩
theorem dX3_standsAt_21 : dec cX3_standsAt 21 (.iconst 0) 1 22 := ⟨by decide +kernel, rfl⟩
theorem dX3_standsAt_22 : dec cX3_standsAt 22 .ireturn 1 23 := ⟨by decide +kernel, rfl⟩
theorem dX3_settle_0 : dec cX3_settle 0 (.aload_n 0) 1 1 := ⟨by decide +kernel, rfl⟩
theorem dX3_settle_1 : dec cX3_settle 1 (.invokevirtual 51) 3 4 := ⟨by decide +kernel, rfl⟩
theorem dX3_settle_4 : dec cX3_settle 4 (.istore 5) 2 6 := ⟨by decide +kernel, rfl⟩
theorem dX3_settle_6 : dec cX3_settle 6 (.iload_n 1) 1 7 := ⟨by decide +kernel, rfl⟩
theorem dX3_settle_7 : dec cX3_settle 7 (.iconst 3) 1 8 := ⟨by decide +kernel, rfl⟩
theorem dX3_settle_8 : decJ cX3_settle 8 (.if_icmp .gt) 3 11 34 := ⟨26, by decide +kernel, rfl, rfl⟩
theorem dX3_settle_11 : dec cX3_settle 11 (.iload_n 3) 1 12 := ⟨by decide +kernel, rfl⟩
theorem dX3_settle_12 : dec cX3_settle 12 (.bipush 30) 2 14 := ⟨by decide +kernel, rfl⟩
theorem dX3_settle_14 : decJ cX3_settle 14 (.if_icmp .gt) 3 17 34 := ⟨20, by decide +kernel, rfl, rfl⟩
theorem dX3_settle_17 : dec cX3_settle 17 (.iload 4) 2 19 := ⟨by decide +kernel, rfl⟩
theorem dX3_settle_19 : dec cX3_settle 19 (.bipush 9) 2 21 := ⟨by decide +kernel, rfl⟩
theorem dX3_settle_21 : decJ cX3_settle 21 (.if_icmp .gt) 3 24 34 := ⟨13, by decide +kernel, rfl, rfl⟩
theorem dX3_settle_24 : dec cX3_settle 24 (.iload 5) 2 26 := ⟨by decide +kernel, rfl⟩
theorem dX3_settle_26 : dec cX3_settle 26 (.aload_n 0) 1 27 := ⟨by decide +kernel, rfl⟩
theorem dX3_settle_27 : dec cX3_settle 27 (.getfield 11) 3 30 := ⟨by decide +kernel, rfl⟩
theorem dX3_settle_30 : dec cX3_settle 30 .arraylength 1 31 := ⟨by decide +kernel, rfl⟩
theorem dX3_settle_31 : decJ cX3_settle 31 (.if_icmp .lt) 3 34 36 := ⟨5, by decide +kernel, rfl, rfl⟩
theorem dX3_settle_34 : dec cX3_settle 34 (.iconst 0) 1 35 := ⟨by decide +kernel, rfl⟩
theorem dX3_settle_35 : dec cX3_settle 35 .ireturn 1 36 := ⟨by decide +kernel, rfl⟩
theorem dX3_settle_36 : dec cX3_settle 36 (.aload_n 0) 1 37 := ⟨by decide +kernel, rfl⟩
theorem dX3_settle_37 : dec cX3_settle 37 (.getfield 11) 3 40 := ⟨by decide +kernel, rfl⟩
theorem dX3_settle_40 : dec cX3_settle 40 (.iload 5) 2 42 := ⟨by decide +kernel, rfl⟩
theorem dX3_settle_42 : dec cX3_settle 42 .aaload 1 43 := ⟨by decide +kernel, rfl⟩
theorem dX3_settle_43 : dec cX3_settle 43 (.astore 6) 2 45 := ⟨by decide +kernel, rfl⟩
theorem dX3_settle_45 : dec cX3_settle 45 (.aload 6) 2 47 := ⟨by decide +kernel, rfl⟩
theorem dX3_settle_47 : dec cX3_settle 47 (.iconst 1) 1 48 := ⟨by decide +kernel, rfl⟩
theorem dX3_settle_48 : dec cX3_settle 48 (.putfield 39) 3 51 := ⟨by decide +kernel, rfl⟩
theorem dX3_settle_51 : dec cX3_settle 51 (.aload 6) 2 53 := ⟨by decide +kernel, rfl⟩
theorem dX3_settle_53 : dec cX3_settle 53 (.iconst 0) 1 54 := ⟨by decide +kernel, rfl⟩
theorem dX3_settle_54 : dec cX3_settle 54 (.putfield 48) 3 57 := ⟨by decide +kernel, rfl⟩
theorem dX3_settle_57 : dec cX3_settle 57 (.aload 6) 2 59 := ⟨by decide +kernel, rfl⟩
theorem dX3_settle_59 : dec cX3_settle 59 (.iload_n 1) 1 60 := ⟨by decide +kernel, rfl⟩
theorem dX3_settle_60 : dec cX3_settle 60 (.putfield 55) 3 63 := ⟨by decide +kernel, rfl⟩
theorem dX3_settle_63 : dec cX3_settle 63 (.aload 6) 2 65 := ⟨by decide +kernel, rfl⟩
theorem dX3_settle_65 : dec cX3_settle 65 (.iload_n 2) 1 66 := ⟨by decide +kernel, rfl⟩
theorem dX3_settle_66 : dec cX3_settle 66 (.putfield 58) 3 69 := ⟨by decide +kernel, rfl⟩
theorem dX3_settle_69 : dec cX3_settle 69 (.aload 6) 2 71 := ⟨by decide +kernel, rfl⟩
theorem dX3_settle_71 : dec cX3_settle 71 (.iload_n 3) 1 72 := ⟨by decide +kernel, rfl⟩
theorem dX3_settle_72 : dec cX3_settle 72 (.putfield 61) 3 75 := ⟨by decide +kernel, rfl⟩
theorem dX3_settle_75 : dec cX3_settle 75 (.aload 6) 2 77 := ⟨by decide +kernel, rfl⟩
theorem dX3_settle_77 : dec cX3_settle 77 (.iload 4) 2 79 := ⟨by decide +kernel, rfl⟩
theorem dX3_settle_79 : dec cX3_settle 79 (.putfield 64) 3 82 := ⟨by decide +kernel, rfl⟩
theorem dX3_settle_82 : dec cX3_settle 82 (.aload 6) 2 84 := ⟨by decide +kernel, rfl⟩
theorem dX3_settle_84 : dec cX3_settle 84 (.iconst 0) 1 85 := ⟨by decide +kernel, rfl⟩
theorem dX3_settle_85 : dec cX3_settle 85 (.putfield 67) 3 88 := ⟨by decide +kernel, rfl⟩
theorem dX3_settle_88 : dec cX3_settle 88 (.aload 6) 2 90 := ⟨by decide +kernel, rfl⟩
theorem dX3_settle_90 : dec cX3_settle 90 (.iconst 0) 1 91 := ⟨by decide +kernel, rfl⟩
theorem dX3_settle_91 : dec cX3_settle 91 (.putfield 70) 3 94 := ⟨by decide +kernel, rfl⟩
theorem dX3_settle_94 : dec cX3_settle 94 (.iconst 1) 1 95 := ⟨by decide +kernel, rfl⟩
theorem dX3_settle_95 : dec cX3_settle 95 .ireturn 1 96 := ⟨by decide +kernel, rfl⟩
theorem dX3_man_0 : dec cX3_man 0 (.aload_n 0) 1 1 := ⟨by decide +kernel, rfl⟩
theorem dX3_man_1 : dec cX3_man 1 (.invokevirtual 73) 3 4 := ⟨by decide +kernel, rfl⟩
theorem dX3_man_4 : dec cX3_man 4 (.istore_n 3) 1 5 := ⟨by decide +kernel, rfl⟩
theorem dX3_man_5 : dec cX3_man 5 (.iload_n 1) 1 6 := ⟨by decide +kernel, rfl⟩
theorem dX3_man_6 : dec cX3_man 6 (.iconst 1) 1 7 := ⟨by decide +kernel, rfl⟩
theorem dX3_man_7 : decJ cX3_man 7 (.if_icmp .lt) 3 10 36 := ⟨29, by decide +kernel, rfl, rfl⟩
theorem dX3_man_10 : dec cX3_man 10 (.iload_n 1) 1 11 := ⟨by decide +kernel, rfl⟩
theorem dX3_man_11 : dec cX3_man 11 (.bipush 60) 2 13 := ⟨by decide +kernel, rfl⟩
theorem dX3_man_13 : decJ cX3_man 13 (.if_icmp .gt) 3 16 36 := ⟨23, by decide +kernel, rfl, rfl⟩
theorem dX3_man_16 : dec cX3_man 16 (.iload_n 2) 1 17 := ⟨by decide +kernel, rfl⟩
theorem dX3_man_17 : dec cX3_man 17 (.iconst 1) 1 18 := ⟨by decide +kernel, rfl⟩
theorem dX3_man_18 : decJ cX3_man 18 (.if_icmp .lt) 3 21 36 := ⟨18, by decide +kernel, rfl, rfl⟩
theorem dX3_man_21 : dec cX3_man 21 (.iload_n 2) 1 22 := ⟨by decide +kernel, rfl⟩
theorem dX3_man_22 : dec cX3_man 22 (.bipush 60) 2 24 := ⟨by decide +kernel, rfl⟩
theorem dX3_man_24 : decJ cX3_man 24 (.if_icmp .gt) 3 27 36 := ⟨12, by decide +kernel, rfl, rfl⟩
theorem dX3_man_27 : dec cX3_man 27 (.iload_n 3) 1 28 := ⟨by decide +kernel, rfl⟩
theorem dX3_man_28 : dec cX3_man 28 (.aload_n 0) 1 29 := ⟨by decide +kernel, rfl⟩
theorem dX3_man_29 : dec cX3_man 29 (.getfield 19) 3 32 := ⟨by decide +kernel, rfl⟩
theorem dX3_man_32 : dec cX3_man 32 .arraylength 1 33 := ⟨by decide +kernel, rfl⟩
theorem dX3_man_33 : decJ cX3_man 33 (.if_icmp .lt) 3 36 38 := ⟨5, by decide +kernel, rfl, rfl⟩
theorem dX3_man_36 : dec cX3_man 36 (.iconst 0) 1 37 := ⟨by decide +kernel, rfl⟩
theorem dX3_man_37 : dec cX3_man 37 .ireturn 1 38 := ⟨by decide +kernel, rfl⟩
theorem dX3_man_38 : dec cX3_man 38 (.aload_n 0) 1 39 := ⟨by decide +kernel, rfl⟩
theorem dX3_man_39 : dec cX3_man 39 (.getfield 19) 3 42 := ⟨by decide +kernel, rfl⟩
theorem dX3_man_42 : dec cX3_man 42 (.iload_n 3) 1 43 := ⟨by decide +kernel, rfl⟩
theorem dX3_man_43 : dec cX3_man 43 .aaload 1 44 := ⟨by decide +kernel, rfl⟩
theorem dX3_man_44 : dec cX3_man 44 (.astore 4) 2 46 := ⟨by decide +kernel, rfl⟩
theorem dX3_man_46 : dec cX3_man 46 (.aload 4) 2 48 := ⟨by decide +kernel, rfl⟩
theorem dX3_man_48 : dec cX3_man 48 (.iconst 1) 1 49 := ⟨by decide +kernel, rfl⟩
theorem dX3_man_49 : dec cX3_man 49 (.putfield 43) 3 52 := ⟨by decide +kernel, rfl⟩
theorem dX3_man_52 : dec cX3_man 52 (.aload 4) 2 54 := ⟨by decide +kernel, rfl⟩
theorem dX3_man_54 : dec cX3_man 54 (.iconst 0) 1 55 := ⟨by decide +kernel, rfl⟩
theorem dX3_man_55 : dec cX3_man 55 (.putfield 76) 3 58 := ⟨by decide +kernel, rfl⟩
theorem dX3_man_58 : dec cX3_man 58 (.aload 4) 2 60 := ⟨by decide +kernel, rfl⟩
theorem dX3_man_60 : dec cX3_man 60 (.iload_n 1) 1 61 := ⟨by decide +kernel, rfl⟩
theorem dX3_man_61 : dec cX3_man 61 (.putfield 79) 3 64 := ⟨by decide +kernel, rfl⟩
theorem dX3_man_64 : dec cX3_man 64 (.aload 4) 2 66 := ⟨by decide +kernel, rfl⟩
theorem dX3_man_66 : dec cX3_man 66 (.iload_n 2) 1 67 := ⟨by decide +kernel, rfl⟩
theorem dX3_man_67 : dec cX3_man 67 (.putfield 82) 3 70 := ⟨by decide +kernel, rfl⟩
theorem dX3_man_70 : dec cX3_man 70 (.iconst 0) 1 71 := ⟨by decide +kernel, rfl⟩
theorem dX3_man_71 : dec cX3_man 71 (.istore 5) 2 73 := ⟨by decide +kernel, rfl⟩
theorem dX3_man_73 : dec cX3_man 73 (.iload 5) 2 75 := ⟨by decide +kernel, rfl⟩
theorem dX3_man_75 : dec cX3_man 75 (.bipush 6) 2 77 := ⟨by decide +kernel, rfl⟩
theorem dX3_man_77 : decJ cX3_man 77 (.if_icmp .ge) 3 80 94 := ⟨17, by decide +kernel, rfl, rfl⟩
theorem dX3_man_80 : dec cX3_man 80 (.aload 4) 2 82 := ⟨by decide +kernel, rfl⟩
theorem dX3_man_82 : dec cX3_man 82 (.iload 5) 2 84 := ⟨by decide +kernel, rfl⟩
theorem dX3_man_84 : dec cX3_man 84 (.iconst 0) 1 85 := ⟨by decide +kernel, rfl⟩
theorem dX3_man_85 : dec cX3_man 85 (.invokevirtual 85) 3 88 := ⟨by decide +kernel, rfl⟩
theorem dX3_man_88 : dec cX3_man 88 (.iinc 5 1) 3 91 := ⟨by decide +kernel, rfl⟩
theorem dX3_man_91 : decJ cX3_man 91 .goto 3 94 73 := ⟨-18, by decide +kernel, rfl, rfl⟩
theorem dX3_man_94 : dec cX3_man 94 (.iconst 1) 1 95 := ⟨by decide +kernel, rfl⟩
theorem dX3_man_95 : dec cX3_man 95 .ireturn 1 96 := ⟨by decide +kernel, rfl⟩
theorem dX3_goWay_0 : dec cX3_goWay 0 (.aload_n 0) 1 1 := ⟨by decide +kernel, rfl⟩
theorem dX3_goWay_1 : dec cX3_goWay 1 (.iload_n 1) 1 2 := ⟨by decide +kernel, rfl⟩
theorem dX3_goWay_2 : dec cX3_goWay 2 (.invokevirtual 44) 3 5 := ⟨by decide +kernel, rfl⟩
theorem dX3_goWay_5 : dec cX3_goWay 5 (.astore_n 3) 1 6 := ⟨by decide +kernel, rfl⟩
theorem dX3_goWay_6 : dec cX3_goWay 6 (.aload_n 3) 1 7 := ⟨by decide +kernel, rfl⟩
theorem dX3_goWay_7 : decJ cX3_goWay 7 .ifnull 3 10 15 := ⟨8, by decide +kernel, rfl, rfl⟩
theorem dX3_goWay_10 : dec cX3_goWay 10 (.iload_n 2) 1 11 := ⟨by decide +kernel, rfl⟩
theorem dX3_goWay_11 : dec cX3_goWay 11 (.iconst 4) 1 12 := ⟨by decide +kernel, rfl⟩
theorem dX3_goWay_12 : decJ cX3_goWay 12 (.if_icmp .lt) 3 15 17 := ⟨5, by decide +kernel, rfl, rfl⟩
theorem dX3_goWay_15 : dec cX3_goWay 15 (.iconst 0) 1 16 := ⟨by decide +kernel, rfl⟩
theorem dX3_goWay_16 : dec cX3_goWay 16 .ireturn 1 17 := ⟨by decide +kernel, rfl⟩
theorem dX3_goWay_17 : dec cX3_goWay 17 (.aload_n 3) 1 18 := ⟨by decide +kernel, rfl⟩
theorem dX3_goWay_18 : dec cX3_goWay 18 (.iload_n 2) 1 19 := ⟨by decide +kernel, rfl⟩
theorem dX3_goWay_19 : dec cX3_goWay 19 (.putfield 67) 3 22 := ⟨by decide +kernel, rfl⟩
theorem dX3_goWay_22 : dec cX3_goWay 22 (.iconst 1) 1 23 := ⟨by decide +kernel, rfl⟩
theorem dX3_goWay_23 : dec cX3_goWay 23 .ireturn 1 24 := ⟨by decide +kernel, rfl⟩
theorem dX3_costWalls_0 : dec cX3_costWalls 0 (.iload_n 1) 1 1 := ⟨by decide +kernel, rfl⟩
theorem dX3_costWalls_1 : dec cX3_costWalls 1 (.iconst 1) 1 2 := ⟨by decide +kernel, rfl⟩
theorem dX3_costWalls_2 : decJ cX3_costWalls 2 (.if_icmp .lt) 3 5 11 := ⟨9, by decide +kernel, rfl, rfl⟩
theorem dX3_costWalls_5 : dec cX3_costWalls 5 (.iload_n 1) 1 6 := ⟨by decide +kernel, rfl⟩
theorem dX3_costWalls_6 : dec cX3_costWalls 6 (.bipush 30) 2 8 := ⟨by decide +kernel, rfl⟩
theorem dX3_costWalls_8 : decJ cX3_costWalls 8 (.if_icmp .le) 3 11 13 := ⟨5, by decide +kernel, rfl, rfl⟩
theorem dX3_costWalls_11 : dec cX3_costWalls 11 (.iconst 0) 1 12 := ⟨by decide +kernel, rfl⟩
theorem dX3_costWalls_12 : dec cX3_costWalls 12 .ireturn 1 13 := ⟨by decide +kernel, rfl⟩
theorem dX3_costWalls_13 : dec cX3_costWalls 13 (.aload_n 0) 1 14 := ⟨by decide +kernel, rfl⟩
theorem dX3_costWalls_14 : dec cX3_costWalls 14 (.iload_n 1) 1 15 := ⟨by decide +kernel, rfl⟩
theorem dX3_costWalls_15 : dec cX3_costWalls 15 (.putfield 32) 3 18 := ⟨by decide +kernel, rfl⟩
theorem dX3_costWalls_18 : dec cX3_costWalls 18 (.iconst 1) 1 19 := ⟨by decide +kernel, rfl⟩
theorem dX3_costWalls_19 : dec cX3_costWalls 19 .ireturn 1 20 := ⟨by decide +kernel, rfl⟩
theorem dX3_leaveOnly_0 : dec cX3_leaveOnly 0 (.iconst 0) 1 1 := ⟨by decide +kernel, rfl⟩
theorem dX3_leaveOnly_1 : dec cX3_leaveOnly 1 (.istore_n 2) 1 2 := ⟨by decide +kernel, rfl⟩
theorem dX3_leaveOnly_2 : dec cX3_leaveOnly 2 (.iload_n 2) 1 3 := ⟨by decide +kernel, rfl⟩
theorem dX3_leaveOnly_3 : dec cX3_leaveOnly 3 (.aload_n 0) 1 4 := ⟨by decide +kernel, rfl⟩
theorem dX3_leaveOnly_4 : dec cX3_leaveOnly 4 (.getfield 19) 3 7 := ⟨by decide +kernel, rfl⟩
theorem dX3_leaveOnly_7 : dec cX3_leaveOnly 7 .arraylength 1 8 := ⟨by decide +kernel, rfl⟩
theorem dX3_leaveOnly_8 : decJ cX3_leaveOnly 8 (.if_icmp .ge) 3 11 48 := ⟨40, by decide +kernel, rfl, rfl⟩
theorem dX3_leaveOnly_11 : dec cX3_leaveOnly 11 (.aload_n 0) 1 12 := ⟨by decide +kernel, rfl⟩
theorem dX3_leaveOnly_12 : dec cX3_leaveOnly 12 (.getfield 19) 3 15 := ⟨by decide +kernel, rfl⟩
theorem dX3_leaveOnly_15 : dec cX3_leaveOnly 15 (.iload_n 2) 1 16 := ⟨by decide +kernel, rfl⟩
theorem dX3_leaveOnly_16 : dec cX3_leaveOnly 16 .aaload 1 17 := ⟨by decide +kernel, rfl⟩
theorem dX3_leaveOnly_17 : dec cX3_leaveOnly 17 (.aload_n 0) 1 18 := ⟨by decide +kernel, rfl⟩
theorem dX3_leaveOnly_18 : dec cX3_leaveOnly 18 (.getfield 19) 3 21 := ⟨by decide +kernel, rfl⟩
theorem dX3_leaveOnly_21 : dec cX3_leaveOnly 21 (.iload_n 2) 1 22 := ⟨by decide +kernel, rfl⟩
theorem dX3_leaveOnly_22 : dec cX3_leaveOnly 22 .aaload 1 23 := ⟨by decide +kernel, rfl⟩
theorem dX3_leaveOnly_23 : dec cX3_leaveOnly 23 (.getfield 43) 3 26 := ⟨by decide +kernel, rfl⟩
theorem dX3_leaveOnly_26 : decJ cX3_leaveOnly 26 (.ifCond .eq) 3 29 38 := ⟨12, by decide +kernel, rfl, rfl⟩
theorem dX3_leaveOnly_29 : dec cX3_leaveOnly 29 (.iload_n 2) 1 30 := ⟨by decide +kernel, rfl⟩
theorem dX3_leaveOnly_30 : dec cX3_leaveOnly 30 (.iload_n 1) 1 31 := ⟨by decide +kernel, rfl⟩
theorem dX3_leaveOnly_31 : decJ cX3_leaveOnly 31 (.if_icmp .ne) 3 34 38 := ⟨7, by decide +kernel, rfl, rfl⟩
theorem dX3_leaveOnly_34 : dec cX3_leaveOnly 34 (.iconst 1) 1 35 := ⟨by decide +kernel, rfl⟩
theorem dX3_leaveOnly_35 : decJ cX3_leaveOnly 35 .goto 3 38 39 := ⟨4, by decide +kernel, rfl, rfl⟩
theorem dX3_leaveOnly_38 : dec cX3_leaveOnly 38 (.iconst 0) 1 39 := ⟨by decide +kernel, rfl⟩
theorem dX3_leaveOnly_39 : dec cX3_leaveOnly 39 (.putfield 43) 3 42 := ⟨by decide +kernel, rfl⟩
theorem dX3_leaveOnly_42 : dec cX3_leaveOnly 42 (.iinc 2 1) 3 45 := ⟨by decide +kernel, rfl⟩
theorem dX3_leaveOnly_45 : decJ cX3_leaveOnly 45 .goto 3 48 2 := ⟨-43, by decide +kernel, rfl, rfl⟩
theorem dX3_leaveOnly_48 : dec cX3_leaveOnly 48 .return_ 1 49 := ⟨by decide +kernel, rfl⟩
theorem dX3_goBy_0 : dec cX3_goBy 0 (.iconst 0) 1 1 := ⟨by decide +kernel, rfl⟩
theorem dX3_goBy_1 : dec cX3_goBy 1 (.istore_n 2) 1 2 := ⟨by decide +kernel, rfl⟩
theorem dX3_goBy_2 : dec cX3_goBy 2 (.iload_n 2) 1 3 := ⟨by decide +kernel, rfl⟩
theorem dX3_goBy_3 : dec cX3_goBy 3 (.iload_n 1) 1 4 := ⟨by decide +kernel, rfl⟩
theorem dX3_goBy_4 : decJ cX3_goBy 4 (.if_icmp .ge) 3 7 66 := ⟨62, by decide +kernel, rfl, rfl⟩
theorem dX3_goBy_7 : dec cX3_goBy 7 (.aload_n 0) 1 8 := ⟨by decide +kernel, rfl⟩
theorem dX3_goBy_8 : dec cX3_goBy 8 (.invokevirtual 89) 3 11 := ⟨by decide +kernel, rfl⟩
theorem dX3_goBy_11 : dec cX3_goBy 11 (.iconst 0) 1 12 := ⟨by decide +kernel, rfl⟩
theorem dX3_goBy_12 : dec cX3_goBy 12 (.istore_n 3) 1 13 := ⟨by decide +kernel, rfl⟩
theorem dX3_goBy_13 : dec cX3_goBy 13 (.iload_n 3) 1 14 := ⟨by decide +kernel, rfl⟩
theorem dX3_goBy_14 : dec cX3_goBy 14 (.aload_n 0) 1 15 := ⟨by decide +kernel, rfl⟩
theorem dX3_goBy_15 : dec cX3_goBy 15 (.getfield 19) 3 18 := ⟨by decide +kernel, rfl⟩
theorem dX3_goBy_18 : dec cX3_goBy 18 .arraylength 1 19 := ⟨by decide +kernel, rfl⟩
theorem dX3_goBy_19 : decJ cX3_goBy 19 (.if_icmp .ge) 3 22 50 := ⟨31, by decide +kernel, rfl, rfl⟩
theorem dX3_goBy_22 : dec cX3_goBy 22 (.aload_n 0) 1 23 := ⟨by decide +kernel, rfl⟩
theorem dX3_goBy_23 : dec cX3_goBy 23 (.getfield 19) 3 26 := ⟨by decide +kernel, rfl⟩
theorem dX3_goBy_26 : dec cX3_goBy 26 (.iload_n 3) 1 27 := ⟨by decide +kernel, rfl⟩
theorem dX3_goBy_27 : dec cX3_goBy 27 .aaload 1 28 := ⟨by decide +kernel, rfl⟩
theorem dX3_goBy_28 : dec cX3_goBy 28 (.invokevirtual 92) 3 31 := ⟨by decide +kernel, rfl⟩
theorem dX3_goBy_31 : decJ cX3_goBy 31 (.ifCond .eq) 3 34 44 := ⟨13, by decide +kernel, rfl, rfl⟩
theorem dX3_goBy_34 : dec cX3_goBy 34 (.aload_n 0) 1 35 := ⟨by decide +kernel, rfl⟩
theorem dX3_goBy_35 : dec cX3_goBy 35 (.aload_n 0) 1 36 := ⟨by decide +kernel, rfl⟩
theorem dX3_goBy_36 : dec cX3_goBy 36 (.getfield 19) 3 39 := ⟨by decide +kernel, rfl⟩
theorem dX3_goBy_39 : dec cX3_goBy 39 (.iload_n 3) 1 40 := ⟨by decide +kernel, rfl⟩
theorem dX3_goBy_40 : dec cX3_goBy 40 .aaload 1 41 := ⟨by decide +kernel, rfl⟩
theorem dX3_goBy_41 : dec cX3_goBy 41 (.invokevirtual 96) 3 44 := ⟨by decide +kernel, rfl⟩
theorem dX3_goBy_44 : dec cX3_goBy 44 (.iinc 3 1) 3 47 := ⟨by decide +kernel, rfl⟩
theorem dX3_goBy_47 : decJ cX3_goBy 47 .goto 3 50 13 := ⟨-34, by decide +kernel, rfl, rfl⟩
theorem dX3_goBy_50 : dec cX3_goBy 50 (.aload_n 0) 1 51 := ⟨by decide +kernel, rfl⟩
theorem dX3_goBy_51 : dec cX3_goBy 51 .dup 1 52 := ⟨by decide +kernel, rfl⟩
theorem dX3_goBy_52 : dec cX3_goBy 52 (.getfield 36) 3 55 := ⟨by decide +kernel, rfl⟩
theorem dX3_goBy_55 : dec cX3_goBy 55 (.iconst 1) 1 56 := ⟨by decide +kernel, rfl⟩
theorem dX3_goBy_56 : dec cX3_goBy 56 .iadd 1 57 := ⟨by decide +kernel, rfl⟩
theorem dX3_goBy_57 : dec cX3_goBy 57 (.putfield 36) 3 60 := ⟨by decide +kernel, rfl⟩
theorem dX3_goBy_60 : dec cX3_goBy 60 (.iinc 2 1) 3 63 := ⟨by decide +kernel, rfl⟩
theorem dX3_goBy_63 : decJ cX3_goBy 63 .goto 3 66 2 := ⟨-61, by decide +kernel, rfl, rfl⟩
theorem dX3_goBy_66 : dec cX3_goBy 66 .return_ 1 67 := ⟨by decide +kernel, rfl⟩
theorem dX3_earnAndBuild_0 : dec cX3_earnAndBuild 0 (.iconst 0) 1 1 := ⟨by decide +kernel, rfl⟩
theorem dX3_earnAndBuild_1 : dec cX3_earnAndBuild 1 (.istore_n 1) 1 2 := ⟨by decide +kernel, rfl⟩
theorem dX3_earnAndBuild_2 : dec cX3_earnAndBuild 2 (.iload_n 1) 1 3 := ⟨by decide +kernel, rfl⟩
theorem dX3_earnAndBuild_3 : dec cX3_earnAndBuild 3 (.aload_n 0) 1 4 := ⟨by decide +kernel, rfl⟩
theorem dX3_earnAndBuild_4 : dec cX3_earnAndBuild 4 (.getfield 11) 3 7 := ⟨by decide +kernel, rfl⟩
theorem dX3_earnAndBuild_7 : dec cX3_earnAndBuild 7 .arraylength 1 8 := ⟨by decide +kernel, rfl⟩
theorem dX3_earnAndBuild_8 : decJ cX3_earnAndBuild 8 (.if_icmp .ge) 3 11 51 := ⟨43, by decide +kernel, rfl, rfl⟩
theorem dX3_earnAndBuild_11 : dec cX3_earnAndBuild 11 (.aload_n 0) 1 12 := ⟨by decide +kernel, rfl⟩
theorem dX3_earnAndBuild_12 : dec cX3_earnAndBuild 12 (.getfield 11) 3 15 := ⟨by decide +kernel, rfl⟩
theorem dX3_earnAndBuild_15 : dec cX3_earnAndBuild 15 (.iload_n 1) 1 16 := ⟨by decide +kernel, rfl⟩
theorem dX3_earnAndBuild_16 : dec cX3_earnAndBuild 16 .aaload 1 17 := ⟨by decide +kernel, rfl⟩
theorem dX3_earnAndBuild_17 : dec cX3_earnAndBuild 17 (.invokevirtual 99) 3 20 := ⟨by decide +kernel, rfl⟩
theorem dX3_earnAndBuild_20 : decJ cX3_earnAndBuild 20 (.ifCond .eq) 3 23 45 := ⟨25, by decide +kernel, rfl, rfl⟩
theorem dX3_earnAndBuild_23 : dec cX3_earnAndBuild 23 (.aload_n 0) 1 24 := ⟨by decide +kernel, rfl⟩
theorem dX3_earnAndBuild_24 : dec cX3_earnAndBuild 24 (.getfield 11) 3 27 := ⟨by decide +kernel, rfl⟩
theorem dX3_earnAndBuild_27 : dec cX3_earnAndBuild 27 (.iload_n 1) 1 28 := ⟨by decide +kernel, rfl⟩
theorem dX3_earnAndBuild_28 : dec cX3_earnAndBuild 28 .aaload 1 29 := ⟨by decide +kernel, rfl⟩
theorem dX3_earnAndBuild_29 : dec cX3_earnAndBuild 29 (.invokevirtual 102) 3 32 := ⟨by decide +kernel, rfl⟩
theorem dX3_earnAndBuild_32 : dec cX3_earnAndBuild 32 (.aload_n 0) 1 33 := ⟨by decide +kernel, rfl⟩
theorem dX3_earnAndBuild_33 : dec cX3_earnAndBuild 33 (.getfield 11) 3 36 := ⟨by decide +kernel, rfl⟩
theorem dX3_earnAndBuild_36 : dec cX3_earnAndBuild 36 (.iload_n 1) 1 37 := ⟨by decide +kernel, rfl⟩
theorem dX3_earnAndBuild_37 : dec cX3_earnAndBuild 37 .aaload 1 38 := ⟨by decide +kernel, rfl⟩
theorem dX3_earnAndBuild_38 : dec cX3_earnAndBuild 38 (.aload_n 0) 1 39 := ⟨by decide +kernel, rfl⟩
theorem dX3_earnAndBuild_39 : dec cX3_earnAndBuild 39 (.getfield 32) 3 42 := ⟨by decide +kernel, rfl⟩
theorem dX3_earnAndBuild_42 : dec cX3_earnAndBuild 42 (.invokevirtual 105) 3 45 := ⟨by decide +kernel, rfl⟩
theorem dX3_earnAndBuild_45 : dec cX3_earnAndBuild 45 (.iinc 1 1) 3 48 := ⟨by decide +kernel, rfl⟩
theorem dX3_earnAndBuild_48 : decJ cX3_earnAndBuild 48 .goto 3 51 2 := ⟨-46, by decide +kernel, rfl, rfl⟩
theorem dX3_earnAndBuild_51 : dec cX3_earnAndBuild 51 .return_ 1 52 := ⟨by decide +kernel, rfl⟩
theorem dX3_comeUp_0 : dec cX3_comeUp 0 (.iconst 0) 1 1 := ⟨by decide +kernel, rfl⟩
theorem dX3_comeUp_1 : dec cX3_comeUp 1 (.istore_n 2) 1 2 := ⟨by decide +kernel, rfl⟩
theorem dX3_comeUp_2 : dec cX3_comeUp 2 (.iconst 0) 1 3 := ⟨by decide +kernel, rfl⟩
theorem dX3_comeUp_3 : dec cX3_comeUp 3 (.istore_n 3) 1 4 := ⟨by decide +kernel, rfl⟩
theorem dX3_comeUp_4 : dec cX3_comeUp 4 (.iload_n 3) 1 5 := ⟨by decide +kernel, rfl⟩
theorem dX3_comeUp_5 : dec cX3_comeUp 5 (.aload_n 0) 1 6 := ⟨by decide +kernel, rfl⟩
theorem dX3_comeUp_6 : dec cX3_comeUp 6 (.getfield 11) 3 9 := ⟨by decide +kernel, rfl⟩
theorem dX3_comeUp_9 : dec cX3_comeUp 9 .arraylength 1 10 := ⟨by decide +kernel, rfl⟩
theorem dX3_comeUp_10 : decJ cX3_comeUp 10 (.if_icmp .ge) 3 13 55 := ⟨45, by decide +kernel, rfl, rfl⟩
theorem dX3_comeUp_13 : dec cX3_comeUp 13 (.iload_n 2) 1 14 := ⟨by decide +kernel, rfl⟩
theorem dX3_comeUp_14 : decJ cX3_comeUp 14 (.ifCond .ne) 3 17 55 := ⟨41, by decide +kernel, rfl, rfl⟩
theorem dX3_comeUp_17 : dec cX3_comeUp 17 (.aload_n 0) 1 18 := ⟨by decide +kernel, rfl⟩
theorem dX3_comeUp_18 : dec cX3_comeUp 18 (.getfield 11) 3 21 := ⟨by decide +kernel, rfl⟩
theorem dX3_comeUp_21 : dec cX3_comeUp 21 (.iload_n 3) 1 22 := ⟨by decide +kernel, rfl⟩
theorem dX3_comeUp_22 : dec cX3_comeUp 22 .aaload 1 23 := ⟨by decide +kernel, rfl⟩
theorem dX3_comeUp_23 : dec cX3_comeUp 23 (.invokevirtual 99) 3 26 := ⟨by decide +kernel, rfl⟩
theorem dX3_comeUp_26 : decJ cX3_comeUp 26 (.ifCond .eq) 3 29 47 := ⟨21, by decide +kernel, rfl, rfl⟩
theorem dX3_comeUp_29 : dec cX3_comeUp 29 (.aload_n 0) 1 30 := ⟨by decide +kernel, rfl⟩
theorem dX3_comeUp_30 : dec cX3_comeUp 30 (.getfield 11) 3 33 := ⟨by decide +kernel, rfl⟩
theorem dX3_comeUp_33 : dec cX3_comeUp 33 (.iload_n 3) 1 34 := ⟨by decide +kernel, rfl⟩
theorem dX3_comeUp_34 : dec cX3_comeUp 34 .aaload 1 35 := ⟨by decide +kernel, rfl⟩
theorem dX3_comeUp_35 : dec cX3_comeUp 35 (.iload_n 3) 1 36 := ⟨by decide +kernel, rfl⟩
theorem dX3_comeUp_36 : dec cX3_comeUp 36 (.aload_n 1) 1 37 := ⟨by decide +kernel, rfl⟩
theorem dX3_comeUp_37 : dec cX3_comeUp 37 (.invokestatic 109) 3 40 := ⟨by decide +kernel, rfl⟩
theorem dX3_comeUp_40 : decJ cX3_comeUp 40 (.ifCond .eq) 3 43 47 := ⟨7, by decide +kernel, rfl, rfl⟩
theorem dX3_comeUp_43 : dec cX3_comeUp 43 (.iconst 1) 1 44 := ⟨by decide +kernel, rfl⟩
theorem dX3_comeUp_44 : decJ cX3_comeUp 44 .goto 3 47 48 := ⟨4, by decide +kernel, rfl, rfl⟩
theorem dX3_comeUp_47 : dec cX3_comeUp 47 (.iconst 0) 1 48 := ⟨by decide +kernel, rfl⟩
theorem dX3_comeUp_48 : dec cX3_comeUp 48 (.istore_n 2) 1 49 := ⟨by decide +kernel, rfl⟩
theorem dX3_comeUp_49 : dec cX3_comeUp 49 (.iinc 3 1) 3 52 := ⟨by decide +kernel, rfl⟩
theorem dX3_comeUp_52 : decJ cX3_comeUp 52 .goto 3 55 4 := ⟨-48, by decide +kernel, rfl, rfl⟩
theorem dX3_comeUp_55 : dec cX3_comeUp 55 (.aload_n 1) 1 56 := ⟨by decide +kernel, rfl⟩
theorem dX3_comeUp_56 : dec cX3_comeUp 56 (.invokevirtual 113) 3 59 := ⟨by decide +kernel, rfl⟩
theorem dX3_comeUp_59 : dec cX3_comeUp 59 .return_ 1 60 := ⟨by decide +kernel, rfl⟩
theorem dX3_sendsHome_0 : dec cX3_sendsHome 0 (.aload_n 2) 1 1 := ⟨by decide +kernel, rfl⟩
theorem dX3_sendsHome_1 : dec cX3_sendsHome 1 (.aload_n 0) 1 2 := ⟨by decide +kernel, rfl⟩
theorem dX3_sendsHome_2 : dec cX3_sendsHome 2 (.iload_n 1) 1 3 := ⟨by decide +kernel, rfl⟩
theorem dX3_sendsHome_3 : dec cX3_sendsHome 3 (.invokevirtual 116) 3 6 := ⟨by decide +kernel, rfl⟩
theorem dX3_sendsHome_6 : dec cX3_sendsHome 6 (.istore_n 3) 1 7 := ⟨by decide +kernel, rfl⟩
theorem dX3_sendsHome_7 : dec cX3_sendsHome 7 (.aload_n 0) 1 8 := ⟨by decide +kernel, rfl⟩
theorem dX3_sendsHome_8 : dec cX3_sendsHome 8 (.getfield 67) 3 11 := ⟨by decide +kernel, rfl⟩
theorem dX3_sendsHome_11 : decJ cX3_sendsHome 11 (.ifCond .ne) 3 14 31 := ⟨20, by decide +kernel, rfl, rfl⟩
theorem dX3_sendsHome_14 : dec cX3_sendsHome 14 (.aload_n 0) 1 15 := ⟨by decide +kernel, rfl⟩
theorem dX3_sendsHome_15 : dec cX3_sendsHome 15 (.getfield 58) 3 18 := ⟨by decide +kernel, rfl⟩
theorem dX3_sendsHome_18 : dec cX3_sendsHome 18 (.iload_n 3) 1 19 := ⟨by decide +kernel, rfl⟩
theorem dX3_sendsHome_19 : decJ cX3_sendsHome 19 (.if_icmp .lt) 3 22 31 := ⟨12, by decide +kernel, rfl, rfl⟩
theorem dX3_sendsHome_22 : dec cX3_sendsHome 22 (.aload_n 2) 1 23 := ⟨by decide +kernel, rfl⟩
theorem dX3_sendsHome_23 : dec cX3_sendsHome 23 (.aload_n 0) 1 24 := ⟨by decide +kernel, rfl⟩
theorem dX3_sendsHome_24 : dec cX3_sendsHome 24 (.iload_n 1) 1 25 := ⟨by decide +kernel, rfl⟩
theorem dX3_sendsHome_25 : dec cX3_sendsHome 25 (.iload_n 3) 1 26 := ⟨by decide +kernel, rfl⟩
theorem dX3_sendsHome_26 : dec cX3_sendsHome 26 (.invokevirtual 120) 3 29 := ⟨by decide +kernel, rfl⟩
theorem dX3_sendsHome_29 : dec cX3_sendsHome 29 (.iconst 1) 1 30 := ⟨by decide +kernel, rfl⟩
theorem dX3_sendsHome_30 : dec cX3_sendsHome 30 .ireturn 1 31 := ⟨by decide +kernel, rfl⟩
theorem dX3_sendsHome_31 : dec cX3_sendsHome 31 (.aload_n 0) 1 32 := ⟨by decide +kernel, rfl⟩
theorem dX3_sendsHome_32 : dec cX3_sendsHome 32 (.getfield 67) 3 35 := ⟨by decide +kernel, rfl⟩
theorem dX3_sendsHome_35 : dec cX3_sendsHome 35 (.iconst 2) 1 36 := ⟨by decide +kernel, rfl⟩
theorem dX3_sendsHome_36 : decJ cX3_sendsHome 36 (.if_icmp .ne) 3 39 60 := ⟨24, by decide +kernel, rfl, rfl⟩
theorem dX3_sendsHome_39 : dec cX3_sendsHome 39 (.aload_n 0) 1 40 := ⟨by decide +kernel, rfl⟩
theorem dX3_sendsHome_40 : dec cX3_sendsHome 40 (.getfield 58) 3 43 := ⟨by decide +kernel, rfl⟩
theorem dX3_sendsHome_43 : dec cX3_sendsHome 43 (.iload_n 3) 1 44 := ⟨by decide +kernel, rfl⟩
theorem dX3_sendsHome_44 : dec cX3_sendsHome 44 (.iconst 3) 1 45 := ⟨by decide +kernel, rfl⟩
theorem dX3_sendsHome_45 : dec cX3_sendsHome 45 .idiv 1 46 := ⟨by decide +kernel, rfl⟩
theorem dX3_sendsHome_46 : decJ cX3_sendsHome 46 (.if_icmp .lt) 3 49 60 := ⟨14, by decide +kernel, rfl, rfl⟩
theorem dX3_sendsHome_49 : dec cX3_sendsHome 49 (.aload_n 2) 1 50 := ⟨by decide +kernel, rfl⟩
theorem dX3_sendsHome_50 : dec cX3_sendsHome 50 (.aload_n 0) 1 51 := ⟨by decide +kernel, rfl⟩
theorem dX3_sendsHome_51 : dec cX3_sendsHome 51 (.iload_n 1) 1 52 := ⟨by decide +kernel, rfl⟩
theorem dX3_sendsHome_52 : dec cX3_sendsHome 52 (.iload_n 3) 1 53 := ⟨by decide +kernel, rfl⟩
theorem dX3_sendsHome_53 : dec cX3_sendsHome 53 (.iconst 3) 1 54 := ⟨by decide +kernel, rfl⟩
theorem dX3_sendsHome_54 : dec cX3_sendsHome 54 .idiv 1 55 := ⟨by decide +kernel, rfl⟩
theorem dX3_sendsHome_55 : dec cX3_sendsHome 55 (.invokevirtual 120) 3 58 := ⟨by decide +kernel, rfl⟩
theorem dX3_sendsHome_58 : dec cX3_sendsHome 58 (.iconst 0) 1 59 := ⟨by decide +kernel, rfl⟩
theorem dX3_sendsHome_59 : dec cX3_sendsHome 59 .ireturn 1 60 := ⟨by decide +kernel, rfl⟩
theorem dX3_sendsHome_60 : dec cX3_sendsHome 60 (.aload_n 2) 1 61 := ⟨by decide +kernel, rfl⟩
theorem dX3_sendsHome_61 : dec cX3_sendsHome 61 (.getfield 79) 3 64 := ⟨by decide +kernel, rfl⟩
theorem dX3_sendsHome_64 : dec cX3_sendsHome 64 (.aload_n 0) 1 65 := ⟨by decide +kernel, rfl⟩
theorem dX3_sendsHome_65 : dec cX3_sendsHome 65 (.invokevirtual 124) 3 68 := ⟨by decide +kernel, rfl⟩
theorem dX3_sendsHome_68 : decJ cX3_sendsHome 68 (.if_icmp .le) 3 71 79 := ⟨11, by decide +kernel, rfl, rfl⟩
theorem dX3_sendsHome_71 : dec cX3_sendsHome 71 (.aload_n 2) 1 72 := ⟨by decide +kernel, rfl⟩
theorem dX3_sendsHome_72 : dec cX3_sendsHome 72 (.aload_n 0) 1 73 := ⟨by decide +kernel, rfl⟩
theorem dX3_sendsHome_73 : dec cX3_sendsHome 73 (.iload_n 1) 1 74 := ⟨by decide +kernel, rfl⟩
theorem dX3_sendsHome_74 : dec cX3_sendsHome 74 (.invokevirtual 127) 3 77 := ⟨by decide +kernel, rfl⟩
theorem dX3_sendsHome_77 : dec cX3_sendsHome 77 (.iconst 1) 1 78 := ⟨by decide +kernel, rfl⟩
theorem dX3_sendsHome_78 : dec cX3_sendsHome 78 .ireturn 1 79 := ⟨by decide +kernel, rfl⟩
theorem dX3_sendsHome_79 : dec cX3_sendsHome 79 (.aload_n 2) 1 80 := ⟨by decide +kernel, rfl⟩
theorem dX3_sendsHome_80 : dec cX3_sendsHome 80 (.iconst 1) 1 81 := ⟨by decide +kernel, rfl⟩
theorem dX3_sendsHome_81 : dec cX3_sendsHome 81 (.aload_n 2) 1 82 := ⟨by decide +kernel, rfl⟩
theorem dX3_sendsHome_82 : dec cX3_sendsHome 82 (.getfield 79) 3 85 := ⟨by decide +kernel, rfl⟩
theorem dX3_sendsHome_85 : dec cX3_sendsHome 85 (.iconst 2) 1 86 := ⟨by decide +kernel, rfl⟩
theorem dX3_sendsHome_86 : dec cX3_sendsHome 86 .isub 1 87 := ⟨by decide +kernel, rfl⟩
theorem dX3_sendsHome_87 : dec cX3_sendsHome 87 (.invokestatic 131) 3 90 := ⟨by decide +kernel, rfl⟩
theorem dX3_sendsHome_90 : dec cX3_sendsHome 90 (.putfield 79) 3 93 := ⟨by decide +kernel, rfl⟩
theorem dX3_sendsHome_93 : dec cX3_sendsHome 93 (.iconst 0) 1 94 := ⟨by decide +kernel, rfl⟩
theorem dX3_sendsHome_94 : dec cX3_sendsHome 94 .ireturn 1 95 := ⟨by decide +kernel, rfl⟩
theorem dX3_joinDrawn_0 : dec cX3_joinDrawn 0 (.iconst 0) 1 1 := ⟨by decide +kernel, rfl⟩
theorem dX3_joinDrawn_1 : dec cX3_joinDrawn 1 (.istore_n 3) 1 2 := ⟨by decide +kernel, rfl⟩
theorem dX3_joinDrawn_2 : dec cX3_joinDrawn 2 (.iload_n 3) 1 3 := ⟨by decide +kernel, rfl⟩
theorem dX3_joinDrawn_3 : dec cX3_joinDrawn 3 (.aload_n 0) 1 4 := ⟨by decide +kernel, rfl⟩
theorem dX3_joinDrawn_4 : dec cX3_joinDrawn 4 (.getfield 19) 3 7 := ⟨by decide +kernel, rfl⟩
theorem dX3_joinDrawn_7 : dec cX3_joinDrawn 7 .arraylength 1 8 := ⟨by decide +kernel, rfl⟩
theorem dX3_joinDrawn_8 : decJ cX3_joinDrawn 8 (.if_icmp .ge) 3 11 80 := ⟨72, by decide +kernel, rfl, rfl⟩
theorem dX3_joinDrawn_11 : dec cX3_joinDrawn 11 (.aload_n 0) 1 12 := ⟨by decide +kernel, rfl⟩
theorem dX3_joinDrawn_12 : dec cX3_joinDrawn 12 (.getfield 19) 3 15 := ⟨by decide +kernel, rfl⟩
theorem dX3_joinDrawn_15 : dec cX3_joinDrawn 15 (.iload_n 3) 1 16 := ⟨by decide +kernel, rfl⟩
theorem dX3_joinDrawn_16 : dec cX3_joinDrawn 16 .aaload 1 17 := ⟨by decide +kernel, rfl⟩
theorem dX3_joinDrawn_17 : dec cX3_joinDrawn 17 (.invokevirtual 92) 3 20 := ⟨by decide +kernel, rfl⟩
theorem dX3_joinDrawn_20 : decJ cX3_joinDrawn 20 (.ifCond .eq) 3 23 74 := ⟨54, by decide +kernel, rfl, rfl⟩
theorem dX3_joinDrawn_23 : dec cX3_joinDrawn 23 (.ldc2_w 137) 3 26 := ⟨by decide +kernel, rfl⟩
theorem dX3_joinDrawn_26 : dec cX3_joinDrawn 26 (.iload_n 1) 1 27 := ⟨by decide +kernel, rfl⟩
theorem dX3_joinDrawn_27 : dec cX3_joinDrawn 27 .i2l 1 28 := ⟨by decide +kernel, rfl⟩
theorem dX3_joinDrawn_28 : dec cX3_joinDrawn 28 .lmul 1 29 := ⟨by decide +kernel, rfl⟩
theorem dX3_joinDrawn_29 : dec cX3_joinDrawn 29 (.ldc2_w 139) 3 32 := ⟨by decide +kernel, rfl⟩
theorem dX3_joinDrawn_32 : dec cX3_joinDrawn 32 (.iload_n 2) 1 33 := ⟨by decide +kernel, rfl⟩
theorem dX3_joinDrawn_33 : dec cX3_joinDrawn 33 .i2l 1 34 := ⟨by decide +kernel, rfl⟩
theorem dX3_joinDrawn_34 : dec cX3_joinDrawn 34 .lmul 1 35 := ⟨by decide +kernel, rfl⟩
theorem dX3_joinDrawn_35 : dec cX3_joinDrawn 35 .ladd 1 36 := ⟨by decide +kernel, rfl⟩
theorem dX3_joinDrawn_36 : dec cX3_joinDrawn 36 (.ldc2_w 141) 3 39 := ⟨by decide +kernel, rfl⟩
theorem dX3_joinDrawn_39 : dec cX3_joinDrawn 39 (.iload_n 3) 1 40 := ⟨by decide +kernel, rfl⟩
theorem dX3_joinDrawn_40 : dec cX3_joinDrawn 40 .i2l 1 41 := ⟨by decide +kernel, rfl⟩
theorem dX3_joinDrawn_41 : dec cX3_joinDrawn 41 .lmul 1 42 := ⟨by decide +kernel, rfl⟩
theorem dX3_joinDrawn_42 : dec cX3_joinDrawn 42 .ladd 1 43 := ⟨by decide +kernel, rfl⟩
theorem dX3_joinDrawn_43 : dec cX3_joinDrawn 43 (.lconst 1) 1 44 := ⟨by decide +kernel, rfl⟩
theorem dX3_joinDrawn_44 : dec cX3_joinDrawn 44 .ladd 1 45 := ⟨by decide +kernel, rfl⟩
theorem dX3_joinDrawn_45 : dec cX3_joinDrawn 45 (.lstore 4) 2 47 := ⟨by decide +kernel, rfl⟩
theorem dX3_joinDrawn_47 : dec cX3_joinDrawn 47 (.aload_n 0) 1 48 := ⟨by decide +kernel, rfl⟩
theorem dX3_joinDrawn_48 : dec cX3_joinDrawn 48 (.getfield 19) 3 51 := ⟨by decide +kernel, rfl⟩
theorem dX3_joinDrawn_51 : dec cX3_joinDrawn 51 (.iload_n 3) 1 52 := ⟨by decide +kernel, rfl⟩
theorem dX3_joinDrawn_52 : dec cX3_joinDrawn 52 .aaload 1 53 := ⟨by decide +kernel, rfl⟩
theorem dX3_joinDrawn_53 : dec cX3_joinDrawn 53 (.lload 4) 2 55 := ⟨by decide +kernel, rfl⟩
theorem dX3_joinDrawn_55 : dec cX3_joinDrawn 55 (.lload 4) 2 57 := ⟨by decide +kernel, rfl⟩
theorem dX3_joinDrawn_57 : dec cX3_joinDrawn 57 .lmul 1 58 := ⟨by decide +kernel, rfl⟩
theorem dX3_joinDrawn_58 : dec cX3_joinDrawn 58 (.ldc2_w 143) 3 61 := ⟨by decide +kernel, rfl⟩
theorem dX3_joinDrawn_61 : dec cX3_joinDrawn 61 .lrem 1 62 := ⟨by decide +kernel, rfl⟩
theorem dX3_joinDrawn_62 : dec cX3_joinDrawn 62 (.ldc2_w 145) 3 65 := ⟨by decide +kernel, rfl⟩
theorem dX3_joinDrawn_65 : dec cX3_joinDrawn 65 .ldiv 1 66 := ⟨by decide +kernel, rfl⟩
theorem dX3_joinDrawn_66 : dec cX3_joinDrawn 66 (.ldc2_w 147) 3 69 := ⟨by decide +kernel, rfl⟩
theorem dX3_joinDrawn_69 : dec cX3_joinDrawn 69 .lrem 1 70 := ⟨by decide +kernel, rfl⟩
theorem dX3_joinDrawn_70 : dec cX3_joinDrawn 70 .l2i 1 71 := ⟨by decide +kernel, rfl⟩
theorem dX3_joinDrawn_71 : dec cX3_joinDrawn 71 (.invokevirtual 149) 3 74 := ⟨by decide +kernel, rfl⟩
theorem dX3_joinDrawn_74 : dec cX3_joinDrawn 74 (.iinc 3 1) 3 77 := ⟨by decide +kernel, rfl⟩
theorem dX3_joinDrawn_77 : decJ cX3_joinDrawn 77 .goto 3 80 2 := ⟨-75, by decide +kernel, rfl, rfl⟩
theorem dX3_joinDrawn_80 : dec cX3_joinDrawn 80 .return_ 1 81 := ⟨by decide +kernel, rfl⟩
theorem dX3_firstBurntSince_0 : dec cX3_firstBurntSince 0 (.iconst 0) 1 1 := ⟨by decide +kernel, rfl⟩
theorem dX3_firstBurntSince_1 : dec cX3_firstBurntSince 1 (.istore_n 2) 1 2 := ⟨by decide +kernel, rfl⟩
theorem dX3_firstBurntSince_2 : dec cX3_firstBurntSince 2 (.iload_n 2) 1 3 := ⟨by decide +kernel, rfl⟩
theorem dX3_firstBurntSince_3 : dec cX3_firstBurntSince 3 (.aload_n 0) 1 4 := ⟨by decide +kernel, rfl⟩
theorem dX3_firstBurntSince_4 : dec cX3_firstBurntSince 4 (.getfield 11) 3 7 := ⟨by decide +kernel, rfl⟩
theorem dX3_firstBurntSince_7 : dec cX3_firstBurntSince 7 .arraylength 1 8 := ⟨by decide +kernel, rfl⟩
theorem dX3_firstBurntSince_8 : decJ cX3_firstBurntSince 8 (.if_icmp .ge) 3 11 35 := ⟨27, by decide +kernel, rfl, rfl⟩
theorem dX3_firstBurntSince_11 : dec cX3_firstBurntSince 11 (.aload_n 1) 1 12 := ⟨by decide +kernel, rfl⟩
theorem dX3_firstBurntSince_12 : dec cX3_firstBurntSince 12 (.iload_n 2) 1 13 := ⟨by decide +kernel, rfl⟩
theorem dX3_firstBurntSince_13 : dec cX3_firstBurntSince 13 (.invokevirtual 152) 3 16 := ⟨by decide +kernel, rfl⟩
theorem dX3_firstBurntSince_16 : decJ cX3_firstBurntSince 16 (.ifCond .eq) 3 19 29 := ⟨13, by decide +kernel, rfl, rfl⟩
theorem dX3_firstBurntSince_19 : dec cX3_firstBurntSince 19 (.aload_n 0) 1 20 := ⟨by decide +kernel, rfl⟩
theorem dX3_firstBurntSince_20 : dec cX3_firstBurntSince 20 (.iload_n 2) 1 21 := ⟨by decide +kernel, rfl⟩
theorem dX3_firstBurntSince_21 : dec cX3_firstBurntSince 21 (.invokevirtual 152) 3 24 := ⟨by decide +kernel, rfl⟩
theorem dX3_firstBurntSince_24 : decJ cX3_firstBurntSince 24 (.ifCond .ne) 3 27 29 := ⟨5, by decide +kernel, rfl, rfl⟩
theorem dX3_firstBurntSince_27 : dec cX3_firstBurntSince 27 (.iload_n 2) 1 28 := ⟨by decide +kernel, rfl⟩
theorem dX3_firstBurntSince_28 : dec cX3_firstBurntSince 28 .ireturn 1 29 := ⟨by decide +kernel, rfl⟩
theorem dX3_firstBurntSince_29 : dec cX3_firstBurntSince 29 (.iinc 2 1) 3 32 := ⟨by decide +kernel, rfl⟩
theorem dX3_firstBurntSince_32 : decJ cX3_firstBurntSince 32 .goto 3 35 2 := ⟨-30, by decide +kernel, rfl, rfl⟩
theorem dX3_firstBurntSince_35 : dec cX3_firstBurntSince 35 (.bipush (-4)) 2 37 := ⟨by decide +kernel, rfl⟩
theorem dX3_firstBurntSince_37 : dec cX3_firstBurntSince 37 .ireturn 1 38 := ⟨by decide +kernel, rfl⟩
theorem dX3_askedOfAll_0 : dec cX3_askedOfAll 0 (.iconst 0) 1 1 := ⟨by decide +kernel, rfl⟩
theorem dX3_askedOfAll_1 : dec cX3_askedOfAll 1 (.istore_n 1) 1 2 := ⟨by decide +kernel, rfl⟩
theorem dX3_askedOfAll_2 : dec cX3_askedOfAll 2 (.iconst 0) 1 3 := ⟨by decide +kernel, rfl⟩
theorem dX3_askedOfAll_3 : dec cX3_askedOfAll 3 (.istore_n 2) 1 4 := ⟨by decide +kernel, rfl⟩
theorem dX3_askedOfAll_4 : dec cX3_askedOfAll 4 (.iload_n 2) 1 5 := ⟨by decide +kernel, rfl⟩
theorem dX3_askedOfAll_5 : dec cX3_askedOfAll 5 (.aload_n 0) 1 6 := ⟨by decide +kernel, rfl⟩
theorem dX3_askedOfAll_6 : dec cX3_askedOfAll 6 (.getfield 19) 3 9 := ⟨by decide +kernel, rfl⟩
theorem dX3_askedOfAll_9 : dec cX3_askedOfAll 9 .arraylength 1 10 := ⟨by decide +kernel, rfl⟩
theorem dX3_askedOfAll_10 : decJ cX3_askedOfAll 10 (.if_icmp .ge) 3 13 79 := ⟨69, by decide +kernel, rfl, rfl⟩
theorem dX3_askedOfAll_13 : dec cX3_askedOfAll 13 (.iconst 0) 1 14 := ⟨by decide +kernel, rfl⟩
theorem dX3_askedOfAll_14 : dec cX3_askedOfAll 14 (.istore_n 3) 1 15 := ⟨by decide +kernel, rfl⟩
theorem dX3_askedOfAll_15 : dec cX3_askedOfAll 15 (.iload_n 3) 1 16 := ⟨by decide +kernel, rfl⟩
theorem dX3_askedOfAll_16 : dec cX3_askedOfAll 16 (.aload_n 0) 1 17 := ⟨by decide +kernel, rfl⟩
theorem dX3_askedOfAll_17 : dec cX3_askedOfAll 17 (.getfield 11) 3 20 := ⟨by decide +kernel, rfl⟩
theorem dX3_askedOfAll_20 : dec cX3_askedOfAll 20 .arraylength 1 21 := ⟨by decide +kernel, rfl⟩
theorem dX3_askedOfAll_21 : decJ cX3_askedOfAll 21 (.if_icmp .ge) 3 24 73 := ⟨52, by decide +kernel, rfl, rfl⟩
theorem dX3_askedOfAll_24 : dec cX3_askedOfAll 24 (.aload_n 0) 1 25 := ⟨by decide +kernel, rfl⟩
theorem dX3_askedOfAll_25 : dec cX3_askedOfAll 25 (.getfield 19) 3 28 := ⟨by decide +kernel, rfl⟩
theorem dX3_askedOfAll_28 : dec cX3_askedOfAll 28 (.iload_n 2) 1 29 := ⟨by decide +kernel, rfl⟩
theorem dX3_askedOfAll_29 : dec cX3_askedOfAll 29 .aaload 1 30 := ⟨by decide +kernel, rfl⟩
theorem dX3_askedOfAll_30 : dec cX3_askedOfAll 30 (.invokevirtual 92) 3 33 := ⟨by decide +kernel, rfl⟩
theorem dX3_askedOfAll_33 : decJ cX3_askedOfAll 33 (.ifCond .eq) 3 36 67 := ⟨34, by decide +kernel, rfl, rfl⟩
theorem dX3_askedOfAll_36 : dec cX3_askedOfAll 36 (.aload_n 0) 1 37 := ⟨by decide +kernel, rfl⟩
theorem dX3_askedOfAll_37 : dec cX3_askedOfAll 37 (.getfield 11) 3 40 := ⟨by decide +kernel, rfl⟩
theorem dX3_askedOfAll_40 : dec cX3_askedOfAll 40 (.iload_n 3) 1 41 := ⟨by decide +kernel, rfl⟩
theorem dX3_askedOfAll_41 : dec cX3_askedOfAll 41 .aaload 1 42 := ⟨by decide +kernel, rfl⟩
theorem dX3_askedOfAll_42 : dec cX3_askedOfAll 42 (.invokevirtual 99) 3 45 := ⟨by decide +kernel, rfl⟩
theorem dX3_askedOfAll_45 : decJ cX3_askedOfAll 45 (.ifCond .eq) 3 48 67 := ⟨22, by decide +kernel, rfl, rfl⟩
theorem dX3_askedOfAll_48 : dec cX3_askedOfAll 48 (.iload_n 1) 1 49 := ⟨by decide +kernel, rfl⟩
theorem dX3_askedOfAll_49 : dec cX3_askedOfAll 49 (.aload_n 0) 1 50 := ⟨by decide +kernel, rfl⟩
theorem dX3_askedOfAll_50 : dec cX3_askedOfAll 50 (.getfield 19) 3 53 := ⟨by decide +kernel, rfl⟩
theorem dX3_askedOfAll_53 : dec cX3_askedOfAll 53 (.iload_n 2) 1 54 := ⟨by decide +kernel, rfl⟩
theorem dX3_askedOfAll_54 : dec cX3_askedOfAll 54 .aaload 1 55 := ⟨by decide +kernel, rfl⟩
theorem dX3_askedOfAll_55 : dec cX3_askedOfAll 55 (.aload_n 0) 1 56 := ⟨by decide +kernel, rfl⟩
theorem dX3_askedOfAll_56 : dec cX3_askedOfAll 56 (.getfield 11) 3 59 := ⟨by decide +kernel, rfl⟩
theorem dX3_askedOfAll_59 : dec cX3_askedOfAll 59 (.iload_n 3) 1 60 := ⟨by decide +kernel, rfl⟩
theorem dX3_askedOfAll_60 : dec cX3_askedOfAll 60 .aaload 1 61 := ⟨by decide +kernel, rfl⟩
theorem dX3_askedOfAll_61 : dec cX3_askedOfAll 61 (.iload_n 3) 1 62 := ⟨by decide +kernel, rfl⟩
theorem dX3_askedOfAll_62 : dec cX3_askedOfAll 62 (.invokevirtual 116) 3 65 := ⟨by decide +kernel, rfl⟩
theorem dX3_askedOfAll_65 : dec cX3_askedOfAll 65 .iadd 1 66 := ⟨by decide +kernel, rfl⟩
theorem dX3_askedOfAll_66 : dec cX3_askedOfAll 66 (.istore_n 1) 1 67 := ⟨by decide +kernel, rfl⟩
theorem dX3_askedOfAll_67 : dec cX3_askedOfAll 67 (.iinc 3 1) 3 70 := ⟨by decide +kernel, rfl⟩
theorem dX3_askedOfAll_70 : decJ cX3_askedOfAll 70 .goto 3 73 15 := ⟨-55, by decide +kernel, rfl, rfl⟩
theorem dX3_askedOfAll_73 : dec cX3_askedOfAll 73 (.iinc 2 1) 3 76 := ⟨by decide +kernel, rfl⟩
theorem dX3_askedOfAll_76 : decJ cX3_askedOfAll 76 .goto 3 79 4 := ⟨-72, by decide +kernel, rfl, rfl⟩
theorem dX3_askedOfAll_79 : dec cX3_askedOfAll 79 (.iload_n 1) 1 80 := ⟨by decide +kernel, rfl⟩
theorem dX3_askedOfAll_80 : dec cX3_askedOfAll 80 .ireturn 1 81 := ⟨by decide +kernel, rfl⟩
theorem dX3_silverOfAll_0 : dec cX3_silverOfAll 0 (.iconst 0) 1 1 := ⟨by decide +kernel, rfl⟩
theorem dX3_silverOfAll_1 : dec cX3_silverOfAll 1 (.istore_n 1) 1 2 := ⟨by decide +kernel, rfl⟩
theorem dX3_silverOfAll_2 : dec cX3_silverOfAll 2 (.iconst 0) 1 3 := ⟨by decide +kernel, rfl⟩
theorem dX3_silverOfAll_3 : dec cX3_silverOfAll 3 (.istore_n 2) 1 4 := ⟨by decide +kernel, rfl⟩
theorem dX3_silverOfAll_4 : dec cX3_silverOfAll 4 (.iload_n 2) 1 5 := ⟨by decide +kernel, rfl⟩
theorem dX3_silverOfAll_5 : dec cX3_silverOfAll 5 (.aload_n 0) 1 6 := ⟨by decide +kernel, rfl⟩
theorem dX3_silverOfAll_6 : dec cX3_silverOfAll 6 (.getfield 11) 3 9 := ⟨by decide +kernel, rfl⟩
theorem dX3_silverOfAll_9 : dec cX3_silverOfAll 9 .arraylength 1 10 := ⟨by decide +kernel, rfl⟩
theorem dX3_silverOfAll_10 : decJ cX3_silverOfAll 10 (.if_icmp .ge) 3 13 43 := ⟨33, by decide +kernel, rfl, rfl⟩
theorem dX3_silverOfAll_13 : dec cX3_silverOfAll 13 (.aload_n 0) 1 14 := ⟨by decide +kernel, rfl⟩
theorem dX3_silverOfAll_14 : dec cX3_silverOfAll 14 (.getfield 11) 3 17 := ⟨by decide +kernel, rfl⟩
theorem dX3_silverOfAll_17 : dec cX3_silverOfAll 17 (.iload_n 2) 1 18 := ⟨by decide +kernel, rfl⟩
theorem dX3_silverOfAll_18 : dec cX3_silverOfAll 18 .aaload 1 19 := ⟨by decide +kernel, rfl⟩
theorem dX3_silverOfAll_19 : dec cX3_silverOfAll 19 (.invokevirtual 99) 3 22 := ⟨by decide +kernel, rfl⟩
theorem dX3_silverOfAll_22 : decJ cX3_silverOfAll 22 (.ifCond .eq) 3 25 37 := ⟨15, by decide +kernel, rfl, rfl⟩
theorem dX3_silverOfAll_25 : dec cX3_silverOfAll 25 (.iload_n 1) 1 26 := ⟨by decide +kernel, rfl⟩
theorem dX3_silverOfAll_26 : dec cX3_silverOfAll 26 (.aload_n 0) 1 27 := ⟨by decide +kernel, rfl⟩
theorem dX3_silverOfAll_27 : dec cX3_silverOfAll 27 (.getfield 11) 3 30 := ⟨by decide +kernel, rfl⟩
theorem dX3_silverOfAll_30 : dec cX3_silverOfAll 30 (.iload_n 2) 1 31 := ⟨by decide +kernel, rfl⟩
theorem dX3_silverOfAll_31 : dec cX3_silverOfAll 31 .aaload 1 32 := ⟨by decide +kernel, rfl⟩
theorem dX3_silverOfAll_32 : dec cX3_silverOfAll 32 (.getfield 58) 3 35 := ⟨by decide +kernel, rfl⟩
theorem dX3_silverOfAll_35 : dec cX3_silverOfAll 35 .iadd 1 36 := ⟨by decide +kernel, rfl⟩
theorem dX3_silverOfAll_36 : dec cX3_silverOfAll 36 (.istore_n 1) 1 37 := ⟨by decide +kernel, rfl⟩
theorem dX3_silverOfAll_37 : dec cX3_silverOfAll 37 (.iinc 2 1) 3 40 := ⟨by decide +kernel, rfl⟩
theorem dX3_silverOfAll_40 : decJ cX3_silverOfAll 40 .goto 3 43 4 := ⟨-36, by decide +kernel, rfl, rfl⟩
theorem dX3_silverOfAll_43 : dec cX3_silverOfAll 43 (.iload_n 1) 1 44 := ⟨by decide +kernel, rfl⟩
theorem dX3_silverOfAll_44 : dec cX3_silverOfAll 44 .ireturn 1 45 := ⟨by decide +kernel, rfl⟩
theorem dX3_townsThere_0 : dec cX3_townsThere 0 (.iconst 0) 1 1 := ⟨by decide +kernel, rfl⟩
theorem dX3_townsThere_1 : dec cX3_townsThere 1 (.istore_n 1) 1 2 := ⟨by decide +kernel, rfl⟩
theorem dX3_townsThere_2 : dec cX3_townsThere 2 (.iconst 0) 1 3 := ⟨by decide +kernel, rfl⟩
theorem dX3_townsThere_3 : dec cX3_townsThere 3 (.istore_n 2) 1 4 := ⟨by decide +kernel, rfl⟩
theorem dX3_townsThere_4 : dec cX3_townsThere 4 (.iload_n 2) 1 5 := ⟨by decide +kernel, rfl⟩
theorem dX3_townsThere_5 : dec cX3_townsThere 5 (.aload_n 0) 1 6 := ⟨by decide +kernel, rfl⟩
theorem dX3_townsThere_6 : dec cX3_townsThere 6 (.getfield 11) 3 9 := ⟨by decide +kernel, rfl⟩
theorem dX3_townsThere_9 : dec cX3_townsThere 9 .arraylength 1 10 := ⟨by decide +kernel, rfl⟩
theorem dX3_townsThere_10 : decJ cX3_townsThere 10 (.if_icmp .ge) 3 13 34 := ⟨24, by decide +kernel, rfl, rfl⟩
theorem dX3_townsThere_13 : dec cX3_townsThere 13 (.aload_n 0) 1 14 := ⟨by decide +kernel, rfl⟩
theorem dX3_townsThere_14 : dec cX3_townsThere 14 (.getfield 11) 3 17 := ⟨by decide +kernel, rfl⟩
theorem dX3_townsThere_17 : dec cX3_townsThere 17 (.iload_n 2) 1 18 := ⟨by decide +kernel, rfl⟩
theorem dX3_townsThere_18 : dec cX3_townsThere 18 .aaload 1 19 := ⟨by decide +kernel, rfl⟩
theorem dX3_townsThere_19 : dec cX3_townsThere 19 (.getfield 39) 3 22 := ⟨by decide +kernel, rfl⟩
theorem dX3_townsThere_22 : decJ cX3_townsThere 22 (.ifCond .eq) 3 25 28 := ⟨6, by decide +kernel, rfl, rfl⟩
theorem dX3_townsThere_25 : dec cX3_townsThere 25 (.iinc 1 1) 3 28 := ⟨by decide +kernel, rfl⟩
theorem dX3_townsThere_28 : dec cX3_townsThere 28 (.iinc 2 1) 3 31 := ⟨by decide +kernel, rfl⟩
theorem dX3_townsThere_31 : decJ cX3_townsThere 31 .goto 3 34 4 := ⟨-27, by decide +kernel, rfl, rfl⟩
theorem dX3_townsThere_34 : dec cX3_townsThere 34 (.iload_n 1) 1 35 := ⟨by decide +kernel, rfl⟩
theorem dX3_townsThere_35 : dec cX3_townsThere 35 .ireturn 1 36 := ⟨by decide +kernel, rfl⟩
theorem dX3_townsBurnt_0 : dec cX3_townsBurnt 0 (.iconst 0) 1 1 := ⟨by decide +kernel, rfl⟩
theorem dX3_townsBurnt_1 : dec cX3_townsBurnt 1 (.istore_n 1) 1 2 := ⟨by decide +kernel, rfl⟩
theorem dX3_townsBurnt_2 : dec cX3_townsBurnt 2 (.iconst 0) 1 3 := ⟨by decide +kernel, rfl⟩
theorem dX3_townsBurnt_3 : dec cX3_townsBurnt 3 (.istore_n 2) 1 4 := ⟨by decide +kernel, rfl⟩
theorem dX3_townsBurnt_4 : dec cX3_townsBurnt 4 (.iload_n 2) 1 5 := ⟨by decide +kernel, rfl⟩
theorem dX3_townsBurnt_5 : dec cX3_townsBurnt 5 (.aload_n 0) 1 6 := ⟨by decide +kernel, rfl⟩
theorem dX3_townsBurnt_6 : dec cX3_townsBurnt 6 (.getfield 11) 3 9 := ⟨by decide +kernel, rfl⟩
theorem dX3_townsBurnt_9 : dec cX3_townsBurnt 9 .arraylength 1 10 := ⟨by decide +kernel, rfl⟩
theorem dX3_townsBurnt_10 : decJ cX3_townsBurnt 10 (.if_icmp .ge) 3 13 46 := ⟨36, by decide +kernel, rfl, rfl⟩
theorem dX3_townsBurnt_13 : dec cX3_townsBurnt 13 (.aload_n 0) 1 14 := ⟨by decide +kernel, rfl⟩
theorem dX3_townsBurnt_14 : dec cX3_townsBurnt 14 (.getfield 11) 3 17 := ⟨by decide +kernel, rfl⟩
theorem dX3_townsBurnt_17 : dec cX3_townsBurnt 17 (.iload_n 2) 1 18 := ⟨by decide +kernel, rfl⟩
theorem dX3_townsBurnt_18 : dec cX3_townsBurnt 18 .aaload 1 19 := ⟨by decide +kernel, rfl⟩
theorem dX3_townsBurnt_19 : dec cX3_townsBurnt 19 (.getfield 39) 3 22 := ⟨by decide +kernel, rfl⟩
theorem dX3_townsBurnt_22 : decJ cX3_townsBurnt 22 (.ifCond .eq) 3 25 40 := ⟨18, by decide +kernel, rfl, rfl⟩
theorem dX3_townsBurnt_25 : dec cX3_townsBurnt 25 (.aload_n 0) 1 26 := ⟨by decide +kernel, rfl⟩
theorem dX3_townsBurnt_26 : dec cX3_townsBurnt 26 (.getfield 11) 3 29 := ⟨by decide +kernel, rfl⟩
theorem dX3_townsBurnt_29 : dec cX3_townsBurnt 29 (.iload_n 2) 1 30 := ⟨by decide +kernel, rfl⟩
theorem dX3_townsBurnt_30 : dec cX3_townsBurnt 30 .aaload 1 31 := ⟨by decide +kernel, rfl⟩
theorem dX3_townsBurnt_31 : dec cX3_townsBurnt 31 (.getfield 48) 3 34 := ⟨by decide +kernel, rfl⟩
theorem dX3_townsBurnt_34 : decJ cX3_townsBurnt 34 (.ifCond .eq) 3 37 40 := ⟨6, by decide +kernel, rfl, rfl⟩
theorem dX3_townsBurnt_37 : dec cX3_townsBurnt 37 (.iinc 1 1) 3 40 := ⟨by decide +kernel, rfl⟩
theorem dX3_townsBurnt_40 : dec cX3_townsBurnt 40 (.iinc 2 1) 3 43 := ⟨by decide +kernel, rfl⟩
theorem dX3_townsBurnt_43 : decJ cX3_townsBurnt 43 .goto 3 46 4 := ⟨-39, by decide +kernel, rfl, rfl⟩
theorem dX3_townsBurnt_46 : dec cX3_townsBurnt 46 (.iload_n 1) 1 47 := ⟨by decide +kernel, rfl⟩
theorem dX3_townsBurnt_47 : dec cX3_townsBurnt 47 .ireturn 1 48 := ⟨by decide +kernel, rfl⟩
theorem dX3_crewsThere_0 : dec cX3_crewsThere 0 (.iconst 0) 1 1 := ⟨by decide +kernel, rfl⟩
theorem dX3_crewsThere_1 : dec cX3_crewsThere 1 (.istore_n 1) 1 2 := ⟨by decide +kernel, rfl⟩
theorem dX3_crewsThere_2 : dec cX3_crewsThere 2 (.iconst 0) 1 3 := ⟨by decide +kernel, rfl⟩
theorem dX3_crewsThere_3 : dec cX3_crewsThere 3 (.istore_n 2) 1 4 := ⟨by decide +kernel, rfl⟩
theorem dX3_crewsThere_4 : dec cX3_crewsThere 4 (.iload_n 2) 1 5 := ⟨by decide +kernel, rfl⟩
theorem dX3_crewsThere_5 : dec cX3_crewsThere 5 (.aload_n 0) 1 6 := ⟨by decide +kernel, rfl⟩
theorem dX3_crewsThere_6 : dec cX3_crewsThere 6 (.getfield 19) 3 9 := ⟨by decide +kernel, rfl⟩
theorem dX3_crewsThere_9 : dec cX3_crewsThere 9 .arraylength 1 10 := ⟨by decide +kernel, rfl⟩
theorem dX3_crewsThere_10 : decJ cX3_crewsThere 10 (.if_icmp .ge) 3 13 34 := ⟨24, by decide +kernel, rfl, rfl⟩
theorem dX3_crewsThere_13 : dec cX3_crewsThere 13 (.aload_n 0) 1 14 := ⟨by decide +kernel, rfl⟩
theorem dX3_crewsThere_14 : dec cX3_crewsThere 14 (.getfield 19) 3 17 := ⟨by decide +kernel, rfl⟩
theorem dX3_crewsThere_17 : dec cX3_crewsThere 17 (.iload_n 2) 1 18 := ⟨by decide +kernel, rfl⟩
theorem dX3_crewsThere_18 : dec cX3_crewsThere 18 .aaload 1 19 := ⟨by decide +kernel, rfl⟩
theorem dX3_crewsThere_19 : dec cX3_crewsThere 19 (.getfield 43) 3 22 := ⟨by decide +kernel, rfl⟩
theorem dX3_crewsThere_22 : decJ cX3_crewsThere 22 (.ifCond .eq) 3 25 28 := ⟨6, by decide +kernel, rfl, rfl⟩
theorem dX3_crewsThere_25 : dec cX3_crewsThere 25 (.iinc 1 1) 3 28 := ⟨by decide +kernel, rfl⟩
theorem dX3_crewsThere_28 : dec cX3_crewsThere 28 (.iinc 2 1) 3 31 := ⟨by decide +kernel, rfl⟩
theorem dX3_crewsThere_31 : decJ cX3_crewsThere 31 .goto 3 34 4 := ⟨-27, by decide +kernel, rfl, rfl⟩
theorem dX3_crewsThere_34 : dec cX3_crewsThere 34 (.iload_n 1) 1 35 := ⟨by decide +kernel, rfl⟩
theorem dX3_crewsThere_35 : dec cX3_crewsThere 35 .ireturn 1 36 := ⟨by decide +kernel, rfl⟩
theorem dX3_crewsGone_0 : dec cX3_crewsGone 0 (.iconst 0) 1 1 := ⟨by decide +kernel, rfl⟩
theorem dX3_crewsGone_1 : dec cX3_crewsGone 1 (.istore_n 1) 1 2 := ⟨by decide +kernel, rfl⟩
theorem dX3_crewsGone_2 : dec cX3_crewsGone 2 (.iconst 0) 1 3 := ⟨by decide +kernel, rfl⟩
theorem dX3_crewsGone_3 : dec cX3_crewsGone 3 (.istore_n 2) 1 4 := ⟨by decide +kernel, rfl⟩
theorem dX3_crewsGone_4 : dec cX3_crewsGone 4 (.iload_n 2) 1 5 := ⟨by decide +kernel, rfl⟩
theorem dX3_crewsGone_5 : dec cX3_crewsGone 5 (.aload_n 0) 1 6 := ⟨by decide +kernel, rfl⟩
theorem dX3_crewsGone_6 : dec cX3_crewsGone 6 (.getfield 19) 3 9 := ⟨by decide +kernel, rfl⟩
theorem dX3_crewsGone_9 : dec cX3_crewsGone 9 .arraylength 1 10 := ⟨by decide +kernel, rfl⟩
theorem dX3_crewsGone_10 : decJ cX3_crewsGone 10 (.if_icmp .ge) 3 13 46 := ⟨36, by decide +kernel, rfl, rfl⟩
theorem dX3_crewsGone_13 : dec cX3_crewsGone 13 (.aload_n 0) 1 14 := ⟨by decide +kernel, rfl⟩
theorem dX3_crewsGone_14 : dec cX3_crewsGone 14 (.getfield 19) 3 17 := ⟨by decide +kernel, rfl⟩
theorem dX3_crewsGone_17 : dec cX3_crewsGone 17 (.iload_n 2) 1 18 := ⟨by decide +kernel, rfl⟩
theorem dX3_crewsGone_18 : dec cX3_crewsGone 18 .aaload 1 19 := ⟨by decide +kernel, rfl⟩
theorem dX3_crewsGone_19 : dec cX3_crewsGone 19 (.getfield 43) 3 22 := ⟨by decide +kernel, rfl⟩
theorem dX3_crewsGone_22 : decJ cX3_crewsGone 22 (.ifCond .eq) 3 25 40 := ⟨18, by decide +kernel, rfl, rfl⟩
theorem dX3_crewsGone_25 : dec cX3_crewsGone 25 (.aload_n 0) 1 26 := ⟨by decide +kernel, rfl⟩
theorem dX3_crewsGone_26 : dec cX3_crewsGone 26 (.getfield 19) 3 29 := ⟨by decide +kernel, rfl⟩
theorem dX3_crewsGone_29 : dec cX3_crewsGone 29 (.iload_n 2) 1 30 := ⟨by decide +kernel, rfl⟩
theorem dX3_crewsGone_30 : dec cX3_crewsGone 30 .aaload 1 31 := ⟨by decide +kernel, rfl⟩
theorem dX3_crewsGone_31 : dec cX3_crewsGone 31 (.getfield 76) 3 34 := ⟨by decide +kernel, rfl⟩
theorem dX3_crewsGone_34 : decJ cX3_crewsGone 34 (.ifCond .eq) 3 37 40 := ⟨6, by decide +kernel, rfl, rfl⟩
theorem dX3_crewsGone_37 : dec cX3_crewsGone 37 (.iinc 1 1) 3 40 := ⟨by decide +kernel, rfl⟩
theorem dX3_crewsGone_40 : dec cX3_crewsGone 40 (.iinc 2 1) 3 43 := ⟨by decide +kernel, rfl⟩
theorem dX3_crewsGone_43 : decJ cX3_crewsGone 43 .goto 3 46 4 := ⟨-39, by decide +kernel, rfl, rfl⟩
theorem dX3_crewsGone_46 : dec cX3_crewsGone 46 (.iload_n 1) 1 47 := ⟨by decide +kernel, rfl⟩
theorem dX3_crewsGone_47 : dec cX3_crewsGone 47 .ireturn 1 48 := ⟨by decide +kernel, rfl⟩
def d_X3_townAt (R_r : Nat → Nat → Int32) (t : Int32) : Option Nat :=
  if t < 0 then
    none
  else
    if (nI 6) ≤ t then
      none
    else
      if (R_r (3 + t.toNatClampNeg) 0) = 0 then
        none
      else
        (some t.toNatClampNeg)
set_option maxHeartbeats 4000000 in
set_option maxRecDepth 100000 in
theorem c_X3_townAt (l : Launch) (D : DD) (o_r : Nat) (R_r : Nat → Nat → Int32) (t : Int32)  (res : Option Nat) (hres : res = d_X3_townAt R_r t) : Mt l D yX3_townAt cX3_townAt 2 (some (.object "PaidToGoAway$Town")) 0 0 0 0 [.ref o_r, .int t] (fun H => blk D ksRiver o_r R_r H) (fun v H => v = some (optT (o_r + 3) res)) fp0 := by
  refine mt_of (own := RX3) (ls := [.val (.ref o_r), .val (.int t)]) rfl (by decide +kernel) rfl ?_
  intro x H C hP
  have hb_r := hP
  refine r_iload_n C dX3_townAt_0 rfl ?_
  refine r_if_lt C dX3_townAt_1 (fun c1 => ?_) (fun c1 => ?_)
  · skip
    refine r_aconst_null C dX3_townAt_34 ?_
    refine r_aretN C (Or.inl ⟨_, rfl⟩) dX3_townAt_35 ?_
    have er : res = none := by rw [hres]; first | (simp only [d_X3_townAt, if_pos c1]; done) | contradiction
    rw [er]
    exact rfl
  · skip
    refine r_iload_n C dX3_townAt_4 rfl ?_
    refine r_aload_n C dX3_townAt_5 rfl ?_
    refine r_get C hb_r (k := 0) rfl rfl celO_3 fw_X3_11 rfl dX3_townAt_6 ?_
    refine r_alen C hb_r (k := 1) rfl rfl 6 (Or.inr (Or.inr (Or.inl ⟨rfl, rfl⟩))) dX3_townAt_9 ?_
    refine r_ic_ge C dX3_townAt_10 (fun c2 => ?_) (fun c2 => ?_)
    · skip
      refine r_aconst_null C dX3_townAt_34 ?_
      refine r_aretN C (Or.inl ⟨_, rfl⟩) dX3_townAt_35 ?_
      have er : res = none := by rw [hres]; first | (simp only [d_X3_townAt, if_neg c1, if_pos c2]; done) | contradiction
      rw [er]
      exact rfl
    · skip
      refine r_aload_n C dX3_townAt_13 rfl ?_
      refine r_get C hb_r (k := 0) rfl rfl celO_3 fw_X3_11 rfl dX3_townAt_14 ?_
      refine r_iload_n C dX3_townAt_17 rfl ?_
      refine r_aaldT C hb_r (k := 1) rfl rfl (vp_in_lh (x_lo1 c1) (x_hi1 (N := 6) c2 (by decide)) (by decide)) (j := t.toNatClampNeg) rfl dX3_townAt_18 ?_
      refine r_get C hb_r (k := (3 + t.toNatClampNeg)) (kRiver_3_1 _ (lt_of_in (vp_in_lh (x_lo1 c1) (x_hi1 (N := 6) c2 (by decide)) (by decide)))) (by omega) celO_5 fw_X3_39 (z := .int (R_r (3 + t.toNatClampNeg) 0)) rfl dX3_townAt_19 ?_
      refine r_if_eq C dX3_townAt_22 (fun c3 => ?_) (fun c3 => ?_)
      · skip
        refine r_aconst_null C dX3_townAt_34 ?_
        refine r_aretN C (Or.inl ⟨_, rfl⟩) dX3_townAt_35 ?_
        have er : res = none := by rw [hres]; first | (simp only [d_X3_townAt, if_neg c1, if_neg c2, if_pos c3]; done) | contradiction
        rw [er]
        exact rfl
      · skip
        refine r_aload_n C dX3_townAt_25 rfl ?_
        refine r_get C hb_r (k := 0) rfl rfl celO_3 fw_X3_11 rfl dX3_townAt_26 ?_
        refine r_iload_n C dX3_townAt_29 rfl ?_
        refine r_aaldT C hb_r (k := 1) rfl rfl (vp_in_lh (x_lo1 c1) (x_hi1 (N := 6) c2 (by decide)) (by decide)) (j := t.toNatClampNeg) rfl dX3_townAt_30 ?_
        refine r_goto C dX3_townAt_31 ?_
        refine r_aret C (Or.inl ⟨_, rfl⟩) dX3_townAt_35 ?_
        have er : res = (some t.toNatClampNeg) := by rw [hres]; first | (simp only [d_X3_townAt, if_neg c1, if_neg c2, if_neg c3]; done) | contradiction
        rw [er]
        exact rfl

def d_X3_crewAt (R_r : Nat → Nat → Int32) (c : Int32) : Option Nat :=
  if c < 0 then
    none
  else
    if (nI 3) ≤ c then
      none
    else
      if (R_r (9 + 2 * c.toNatClampNeg) 0) = 0 then
        none
      else
        (some c.toNatClampNeg)
set_option maxHeartbeats 4000000 in
set_option maxRecDepth 100000 in
theorem c_X3_crewAt (l : Launch) (D : DD) (o_r : Nat) (R_r : Nat → Nat → Int32) (c : Int32)  (res : Option Nat) (hres : res = d_X3_crewAt R_r c) : Mt l D yX3_crewAt cX3_crewAt 2 (some (.object "PaidToGoAway$Crew")) 0 0 0 0 [.ref o_r, .int c] (fun H => blk D ksRiver o_r R_r H) (fun v H => v = some (optC (o_r + 9) res)) fp0 := by
  refine mt_of (own := RX3) (ls := [.val (.ref o_r), .val (.int c)]) rfl (by decide +kernel) rfl ?_
  intro x H C hP
  have hb_r := hP
  refine r_iload_n C dX3_crewAt_0 rfl ?_
  refine r_if_lt C dX3_crewAt_1 (fun c1 => ?_) (fun c1 => ?_)
  · skip
    refine r_aconst_null C dX3_crewAt_34 ?_
    refine r_aretN C (Or.inl ⟨_, rfl⟩) dX3_crewAt_35 ?_
    have er : res = none := by rw [hres]; first | (simp only [d_X3_crewAt, if_pos c1]; done) | contradiction
    rw [er]
    exact rfl
  · skip
    refine r_iload_n C dX3_crewAt_4 rfl ?_
    refine r_aload_n C dX3_crewAt_5 rfl ?_
    refine r_get C hb_r (k := 0) rfl rfl celO_3 fw_X3_19 rfl dX3_crewAt_6 ?_
    refine r_alen C hb_r (k := 2) rfl rfl 3 (Or.inr (Or.inr (Or.inr (Or.inl ⟨rfl, rfl⟩)))) dX3_crewAt_9 ?_
    refine r_ic_ge C dX3_crewAt_10 (fun c2 => ?_) (fun c2 => ?_)
    · skip
      refine r_aconst_null C dX3_crewAt_34 ?_
      refine r_aretN C (Or.inl ⟨_, rfl⟩) dX3_crewAt_35 ?_
      have er : res = none := by rw [hres]; first | (simp only [d_X3_crewAt, if_neg c1, if_pos c2]; done) | contradiction
      rw [er]
      exact rfl
    · skip
      refine r_aload_n C dX3_crewAt_13 rfl ?_
      refine r_get C hb_r (k := 0) rfl rfl celO_3 fw_X3_19 rfl dX3_crewAt_14 ?_
      refine r_iload_n C dX3_crewAt_17 rfl ?_
      refine r_aaldC C hb_r (k := 2) rfl rfl (vp_in_lh (x_lo1 c1) (x_hi1 (N := 3) c2 (by decide)) (by decide)) (j := c.toNatClampNeg) rfl dX3_crewAt_18 ?_
      refine r_get C hb_r (k := (9 + 2 * c.toNatClampNeg)) (kRiver_9_2 _ (lt_of_in (vp_in_lh (x_lo1 c1) (x_hi1 (N := 3) c2 (by decide)) (by decide)))) (by omega) celO_0 fw_X3_43 (z := .int (R_r (9 + 2 * c.toNatClampNeg) 0)) rfl dX3_crewAt_19 ?_
      refine r_if_eq C dX3_crewAt_22 (fun c3 => ?_) (fun c3 => ?_)
      · skip
        refine r_aconst_null C dX3_crewAt_34 ?_
        refine r_aretN C (Or.inl ⟨_, rfl⟩) dX3_crewAt_35 ?_
        have er : res = none := by rw [hres]; first | (simp only [d_X3_crewAt, if_neg c1, if_neg c2, if_pos c3]; done) | contradiction
        rw [er]
        exact rfl
      · skip
        refine r_aload_n C dX3_crewAt_25 rfl ?_
        refine r_get C hb_r (k := 0) rfl rfl celO_3 fw_X3_19 rfl dX3_crewAt_26 ?_
        refine r_iload_n C dX3_crewAt_29 rfl ?_
        refine r_aaldC C hb_r (k := 2) rfl rfl (vp_in_lh (x_lo1 c1) (x_hi1 (N := 3) c2 (by decide)) (by decide)) (j := c.toNatClampNeg) rfl dX3_crewAt_30 ?_
        refine r_goto C dX3_crewAt_31 ?_
        refine r_aret C (Or.inl ⟨_, rfl⟩) dX3_crewAt_35 ?_
        have er : res = (some c.toNatClampNeg) := by rw [hres]; first | (simp only [d_X3_crewAt, if_neg c1, if_neg c2, if_neg c3]; done) | contradiction
        rw [er]
        exact rfl

def d_X3_townsThere_L4 (R_r : Nat → Nat → Int32) : Nat → Nat → Nat → Nat
  | 0, m, _ => m
  | n1 + 1, m, i =>
    if (nI 6) ≤ (nI i) then
      m
    else
      if (R_r (3 + i) 0) = 0 then
        d_X3_townsThere_L4 R_r n1 m (i + 1)
      else
        d_X3_townsThere_L4 R_r n1 (m + 1) (i + 1)
def d_X3_townsThere (R_r : Nat → Nat → Int32) : Int32 :=
  let s16 := d_X3_townsThere_L4 R_r 7 0 0
  (nI s16)
set_option maxHeartbeats 4000000 in
set_option maxRecDepth 100000 in
theorem c_X3_townsThere (l : Launch) (D : DD) (o_r : Nat) (R_r : Nat → Nat → Int32)  (res : Int32) (hres : res = d_X3_townsThere R_r) : Mt l D yX3_townsThere cX3_townsThere 3 (some .int) 0 0 0 0 [.ref o_r] (fun H => blk D ksRiver o_r R_r H) (fun v H => v = some (.int res)) fp0 := by
  refine mt_of (own := RX3) (ls := [.val (.ref o_r), .unset, .unset]) rfl (by decide +kernel) rfl ?_
  intro x H C hP
  have hb_r := hP
  refine r_iconst C dX3_townsThere_0 (0 : Int32) (by decide) ?_
  refine r_istore_n C dX3_townsThere_1 (ls' := [.val (.ref o_r), .val (.int (0 : Int32)), .unset]) rfl trivial rfl ?_
  refine r_iconst C dX3_townsThere_2 (0 : Int32) (by decide) ?_
  refine r_istore_n C dX3_townsThere_3 (ls' := [.val (.ref o_r), .val (.int (0 : Int32)), .val (.int (0 : Int32))]) rfl trivial rfl ?_
  have d_X3_townsThere_L4_w : ∀ (n1 : Nat) (m : Nat) (i : Nat) (H6 : Heap), True → (i ≤ 6) → (m ≤ i) → (6 - i < n1) → blk D ksRiver o_r R_r H6 → ∀ s3 : Nat, s3 = d_X3_townsThere_L4 R_r n1 m i → (∀ (H' : Heap) (z7 : Slot) (_ : slot1 z7), True → blk D ksRiver o_r R_r H' → WG x fp0 (Fin x (fun v H => v = some (.int res)) fp0 0 0) H' 0 0 34 [.val (.ref o_r), .val (.int (nI s3)), z7] []) → WG x fp0 (Fin x (fun v H => v = some (.int res)) fp0 0 0) H6 0 0 4 [.val (.ref o_r), .val (.int (nI m)), .val (.int (nI i))] [] := by
    intro n1
    induction n1 with
    | zero => intro m i H6  _ hi hm hm8; exact absurd hm8 (Nat.not_lt_zero _)
    | succ n1 ih2 =>
      intro m i H6  _ hi hm hm8 hb5 s3 hs3  kx4
      refine r_iload_n C dX3_townsThere_4 rfl ?_
      refine r_aload_n C dX3_townsThere_5 rfl ?_
      refine r_get C hb5 (k := 0) rfl rfl celO_3 fw_X3_11 rfl dX3_townsThere_6 ?_
      refine r_alen C hb5 (k := 1) rfl rfl 6 (Or.inr (Or.inr (Or.inl ⟨rfl, rfl⟩))) dX3_townsThere_9 ?_
      refine r_ic_ge C dX3_townsThere_10 (fun c9 => ?_) (fun c9 => ?_)
      · skip
        have f10 : (6 ≤ i) := nf_leI (by omega) (by omega) rfl rfl c9
        have e11 : s3 = m := by rw [hs3]; first | (simp only [d_X3_townsThere_L4, if_pos c9]; done) | contradiction
        rw [e11] at kx4
        exact kx4 _ (.val (.int (nI i))) rfl trivial  hb5
      · skip
        have f12 : ¬ (6 ≤ i) := nf_leIn (by omega) (by omega) rfl rfl c9
        refine r_aload_n C dX3_townsThere_13 rfl ?_
        refine r_get C hb5 (k := 0) rfl rfl celO_3 fw_X3_11 rfl dX3_townsThere_14 ?_
        refine r_iload_n C dX3_townsThere_17 rfl ?_
        refine r_aaldT C hb5 (k := 1) rfl rfl (vp_in_n rfl (by omega) (by decide)) (j := i) (cl_n rfl (by omega)) dX3_townsThere_18 ?_
        refine r_get C hb5 (k := (3 + i)) (kRiver_3_1 _ (by omega)) (by omega) celO_5 fw_X3_39 (z := .int (R_r (3 + i) 0)) rfl dX3_townsThere_19 ?_
        refine r_if_eq C dX3_townsThere_22 (fun c13 => ?_) (fun c13 => ?_)
        · skip
          refine r_iinc C dX3_townsThere_28 (nI (i + 1)) rfl (nI_inc i rfl) (ls' := [.val (.ref o_r), .val (.int (nI m)), .val (.int (nI (i + 1)))]) rfl ?_
          refine r_goto C dX3_townsThere_31 ?_
          have e14 : s3 = d_X3_townsThere_L4 R_r n1 m (i + 1) := by rw [hs3]; first | (simp only [d_X3_townsThere_L4, if_neg c9, if_pos c13]; done) | contradiction
          exact ih2 m (i + 1) _  trivial (by omega) (by omega) (by omega) hb5 s3 e14  kx4
        · skip
          refine r_iinc C dX3_townsThere_25 (nI (m + 1)) rfl (nI_inc m rfl) (ls' := [.val (.ref o_r), .val (.int (nI (m + 1))), .val (.int (nI i))]) rfl ?_
          refine r_iinc C dX3_townsThere_28 (nI (i + 1)) rfl (nI_inc i rfl) (ls' := [.val (.ref o_r), .val (.int (nI (m + 1))), .val (.int (nI (i + 1)))]) rfl ?_
          refine r_goto C dX3_townsThere_31 ?_
          have e15 : s3 = d_X3_townsThere_L4 R_r n1 (m + 1) (i + 1) := by rw [hs3]; first | (simp only [d_X3_townsThere_L4, if_neg c9, if_neg c13]; done) | contradiction
          exact ih2 (m + 1) (i + 1) _  trivial (by omega) (by omega) (by omega) hb5 s3 e15  kx4
  obtain ⟨s16, hs16⟩ : ∃ r, r = d_X3_townsThere_L4 R_r 7 0 0 := ⟨_, rfl⟩
  refine d_X3_townsThere_L4_w 7 0 0 _  trivial (by omega) (by omega) (by omega) hb_r s16 hs16  (fun H18 z7 hz7 e19  hb17 => ?_)
  refine r_iload_n C dX3_townsThere_34 rfl ?_
  refine r_iret C dX3_townsThere_35 ?_
  have er : res = (nI s16) := by rw [hres]; first | (simp only [d_X3_townsThere, ← hs16]; done) | contradiction
  rw [er]

def d_X3_crewsThere_L4 (R_r : Nat → Nat → Int32) : Nat → Nat → Nat → Nat
  | 0, m, _ => m
  | n1 + 1, m, i =>
    if (nI 3) ≤ (nI i) then
      m
    else
      if (R_r (9 + 2 * i) 0) = 0 then
        d_X3_crewsThere_L4 R_r n1 m (i + 1)
      else
        d_X3_crewsThere_L4 R_r n1 (m + 1) (i + 1)
def d_X3_crewsThere (R_r : Nat → Nat → Int32) : Int32 :=
  let s16 := d_X3_crewsThere_L4 R_r 4 0 0
  (nI s16)
set_option maxHeartbeats 4000000 in
set_option maxRecDepth 100000 in
theorem c_X3_crewsThere (l : Launch) (D : DD) (o_r : Nat) (R_r : Nat → Nat → Int32)  (res : Int32) (hres : res = d_X3_crewsThere R_r) : Mt l D yX3_crewsThere cX3_crewsThere 3 (some .int) 0 0 0 0 [.ref o_r] (fun H => blk D ksRiver o_r R_r H) (fun v H => v = some (.int res)) fp0 := by
  refine mt_of (own := RX3) (ls := [.val (.ref o_r), .unset, .unset]) rfl (by decide +kernel) rfl ?_
  intro x H C hP
  have hb_r := hP
  refine r_iconst C dX3_crewsThere_0 (0 : Int32) (by decide) ?_
  refine r_istore_n C dX3_crewsThere_1 (ls' := [.val (.ref o_r), .val (.int (0 : Int32)), .unset]) rfl trivial rfl ?_
  refine r_iconst C dX3_crewsThere_2 (0 : Int32) (by decide) ?_
  refine r_istore_n C dX3_crewsThere_3 (ls' := [.val (.ref o_r), .val (.int (0 : Int32)), .val (.int (0 : Int32))]) rfl trivial rfl ?_
  have d_X3_crewsThere_L4_w : ∀ (n1 : Nat) (m : Nat) (i : Nat) (H6 : Heap), True → (i ≤ 3) → (m ≤ i) → (3 - i < n1) → blk D ksRiver o_r R_r H6 → ∀ s3 : Nat, s3 = d_X3_crewsThere_L4 R_r n1 m i → (∀ (H' : Heap) (z7 : Slot) (_ : slot1 z7), True → blk D ksRiver o_r R_r H' → WG x fp0 (Fin x (fun v H => v = some (.int res)) fp0 0 0) H' 0 0 34 [.val (.ref o_r), .val (.int (nI s3)), z7] []) → WG x fp0 (Fin x (fun v H => v = some (.int res)) fp0 0 0) H6 0 0 4 [.val (.ref o_r), .val (.int (nI m)), .val (.int (nI i))] [] := by
    intro n1
    induction n1 with
    | zero => intro m i H6  _ hi hm hm8; exact absurd hm8 (Nat.not_lt_zero _)
    | succ n1 ih2 =>
      intro m i H6  _ hi hm hm8 hb5 s3 hs3  kx4
      refine r_iload_n C dX3_crewsThere_4 rfl ?_
      refine r_aload_n C dX3_crewsThere_5 rfl ?_
      refine r_get C hb5 (k := 0) rfl rfl celO_3 fw_X3_19 rfl dX3_crewsThere_6 ?_
      refine r_alen C hb5 (k := 2) rfl rfl 3 (Or.inr (Or.inr (Or.inr (Or.inl ⟨rfl, rfl⟩)))) dX3_crewsThere_9 ?_
      refine r_ic_ge C dX3_crewsThere_10 (fun c9 => ?_) (fun c9 => ?_)
      · skip
        have f10 : (3 ≤ i) := nf_leI (by omega) (by omega) rfl rfl c9
        have e11 : s3 = m := by rw [hs3]; first | (simp only [d_X3_crewsThere_L4, if_pos c9]; done) | contradiction
        rw [e11] at kx4
        exact kx4 _ (.val (.int (nI i))) rfl trivial  hb5
      · skip
        have f12 : ¬ (3 ≤ i) := nf_leIn (by omega) (by omega) rfl rfl c9
        refine r_aload_n C dX3_crewsThere_13 rfl ?_
        refine r_get C hb5 (k := 0) rfl rfl celO_3 fw_X3_19 rfl dX3_crewsThere_14 ?_
        refine r_iload_n C dX3_crewsThere_17 rfl ?_
        refine r_aaldC C hb5 (k := 2) rfl rfl (vp_in_n rfl (by omega) (by decide)) (j := i) (cl_n rfl (by omega)) dX3_crewsThere_18 ?_
        refine r_get C hb5 (k := (9 + 2 * i)) (kRiver_9_2 _ (by omega)) (by omega) celO_0 fw_X3_43 (z := .int (R_r (9 + 2 * i) 0)) rfl dX3_crewsThere_19 ?_
        refine r_if_eq C dX3_crewsThere_22 (fun c13 => ?_) (fun c13 => ?_)
        · skip
          refine r_iinc C dX3_crewsThere_28 (nI (i + 1)) rfl (nI_inc i rfl) (ls' := [.val (.ref o_r), .val (.int (nI m)), .val (.int (nI (i + 1)))]) rfl ?_
          refine r_goto C dX3_crewsThere_31 ?_
          have e14 : s3 = d_X3_crewsThere_L4 R_r n1 m (i + 1) := by rw [hs3]; first | (simp only [d_X3_crewsThere_L4, if_neg c9, if_pos c13]; done) | contradiction
          exact ih2 m (i + 1) _  trivial (by omega) (by omega) (by omega) hb5 s3 e14  kx4
        · skip
          refine r_iinc C dX3_crewsThere_25 (nI (m + 1)) rfl (nI_inc m rfl) (ls' := [.val (.ref o_r), .val (.int (nI (m + 1))), .val (.int (nI i))]) rfl ?_
          refine r_iinc C dX3_crewsThere_28 (nI (i + 1)) rfl (nI_inc i rfl) (ls' := [.val (.ref o_r), .val (.int (nI (m + 1))), .val (.int (nI (i + 1)))]) rfl ?_
          refine r_goto C dX3_crewsThere_31 ?_
          have e15 : s3 = d_X3_crewsThere_L4 R_r n1 (m + 1) (i + 1) := by rw [hs3]; first | (simp only [d_X3_crewsThere_L4, if_neg c9, if_neg c13]; done) | contradiction
          exact ih2 (m + 1) (i + 1) _  trivial (by omega) (by omega) (by omega) hb5 s3 e15  kx4
  obtain ⟨s16, hs16⟩ : ∃ r, r = d_X3_crewsThere_L4 R_r 4 0 0 := ⟨_, rfl⟩
  refine d_X3_crewsThere_L4_w 4 0 0 _  trivial (by omega) (by omega) (by omega) hb_r s16 hs16  (fun H18 z7 hz7 e19  hb17 => ?_)
  refine r_iload_n C dX3_crewsThere_34 rfl ?_
  refine r_iret C dX3_crewsThere_35 ?_
  have er : res = (nI s16) := by rw [hres]; first | (simp only [d_X3_crewsThere, ← hs16]; done) | contradiction
  rw [er]

def d_X3_townsBurnt_L4 (R_r : Nat → Nat → Int32) : Nat → Nat → Nat → Nat
  | 0, m, _ => m
  | n1 + 1, m, i =>
    if (nI 6) ≤ (nI i) then
      m
    else
      if (R_r (3 + i) 0) = 0 then
        d_X3_townsBurnt_L4 R_r n1 m (i + 1)
      else
        if (R_r (3 + i) 1) = 0 then
          d_X3_townsBurnt_L4 R_r n1 m (i + 1)
        else
          d_X3_townsBurnt_L4 R_r n1 (m + 1) (i + 1)
def d_X3_townsBurnt (R_r : Nat → Nat → Int32) : Int32 :=
  let s18 := d_X3_townsBurnt_L4 R_r 7 0 0
  (nI s18)
set_option maxHeartbeats 4000000 in
set_option maxRecDepth 100000 in
theorem c_X3_townsBurnt (l : Launch) (D : DD) (o_r : Nat) (R_r : Nat → Nat → Int32)  (res : Int32) (hres : res = d_X3_townsBurnt R_r) : Mt l D yX3_townsBurnt cX3_townsBurnt 3 (some .int) 0 0 0 0 [.ref o_r] (fun H => blk D ksRiver o_r R_r H) (fun v H => v = some (.int res)) fp0 := by
  refine mt_of (own := RX3) (ls := [.val (.ref o_r), .unset, .unset]) rfl (by decide +kernel) rfl ?_
  intro x H C hP
  have hb_r := hP
  refine r_iconst C dX3_townsBurnt_0 (0 : Int32) (by decide) ?_
  refine r_istore_n C dX3_townsBurnt_1 (ls' := [.val (.ref o_r), .val (.int (0 : Int32)), .unset]) rfl trivial rfl ?_
  refine r_iconst C dX3_townsBurnt_2 (0 : Int32) (by decide) ?_
  refine r_istore_n C dX3_townsBurnt_3 (ls' := [.val (.ref o_r), .val (.int (0 : Int32)), .val (.int (0 : Int32))]) rfl trivial rfl ?_
  have d_X3_townsBurnt_L4_w : ∀ (n1 : Nat) (m : Nat) (i : Nat) (H6 : Heap), True → (i ≤ 6) → (m ≤ i) → (6 - i < n1) → blk D ksRiver o_r R_r H6 → ∀ s3 : Nat, s3 = d_X3_townsBurnt_L4 R_r n1 m i → (∀ (H' : Heap) (z7 : Slot) (_ : slot1 z7), True → blk D ksRiver o_r R_r H' → WG x fp0 (Fin x (fun v H => v = some (.int res)) fp0 0 0) H' 0 0 46 [.val (.ref o_r), .val (.int (nI s3)), z7] []) → WG x fp0 (Fin x (fun v H => v = some (.int res)) fp0 0 0) H6 0 0 4 [.val (.ref o_r), .val (.int (nI m)), .val (.int (nI i))] [] := by
    intro n1
    induction n1 with
    | zero => intro m i H6  _ hi hm hm8; exact absurd hm8 (Nat.not_lt_zero _)
    | succ n1 ih2 =>
      intro m i H6  _ hi hm hm8 hb5 s3 hs3  kx4
      refine r_iload_n C dX3_townsBurnt_4 rfl ?_
      refine r_aload_n C dX3_townsBurnt_5 rfl ?_
      refine r_get C hb5 (k := 0) rfl rfl celO_3 fw_X3_11 rfl dX3_townsBurnt_6 ?_
      refine r_alen C hb5 (k := 1) rfl rfl 6 (Or.inr (Or.inr (Or.inl ⟨rfl, rfl⟩))) dX3_townsBurnt_9 ?_
      refine r_ic_ge C dX3_townsBurnt_10 (fun c9 => ?_) (fun c9 => ?_)
      · skip
        have f10 : (6 ≤ i) := nf_leI (by omega) (by omega) rfl rfl c9
        have e11 : s3 = m := by rw [hs3]; first | (simp only [d_X3_townsBurnt_L4, if_pos c9]; done) | contradiction
        rw [e11] at kx4
        exact kx4 _ (.val (.int (nI i))) rfl trivial  hb5
      · skip
        have f12 : ¬ (6 ≤ i) := nf_leIn (by omega) (by omega) rfl rfl c9
        refine r_aload_n C dX3_townsBurnt_13 rfl ?_
        refine r_get C hb5 (k := 0) rfl rfl celO_3 fw_X3_11 rfl dX3_townsBurnt_14 ?_
        refine r_iload_n C dX3_townsBurnt_17 rfl ?_
        refine r_aaldT C hb5 (k := 1) rfl rfl (vp_in_n rfl (by omega) (by decide)) (j := i) (cl_n rfl (by omega)) dX3_townsBurnt_18 ?_
        refine r_get C hb5 (k := (3 + i)) (kRiver_3_1 _ (by omega)) (by omega) celO_5 fw_X3_39 (z := .int (R_r (3 + i) 0)) rfl dX3_townsBurnt_19 ?_
        refine r_if_eq C dX3_townsBurnt_22 (fun c13 => ?_) (fun c13 => ?_)
        · skip
          refine r_iinc C dX3_townsBurnt_40 (nI (i + 1)) rfl (nI_inc i rfl) (ls' := [.val (.ref o_r), .val (.int (nI m)), .val (.int (nI (i + 1)))]) rfl ?_
          refine r_goto C dX3_townsBurnt_43 ?_
          have e14 : s3 = d_X3_townsBurnt_L4 R_r n1 m (i + 1) := by rw [hs3]; first | (simp only [d_X3_townsBurnt_L4, if_neg c9, if_pos c13]; done) | contradiction
          exact ih2 m (i + 1) _  trivial (by omega) (by omega) (by omega) hb5 s3 e14  kx4
        · skip
          refine r_aload_n C dX3_townsBurnt_25 rfl ?_
          refine r_get C hb5 (k := 0) rfl rfl celO_3 fw_X3_11 rfl dX3_townsBurnt_26 ?_
          refine r_iload_n C dX3_townsBurnt_29 rfl ?_
          refine r_aaldT C hb5 (k := 1) rfl rfl (vp_in_n rfl (by omega) (by decide)) (j := i) (cl_n rfl (by omega)) dX3_townsBurnt_30 ?_
          refine r_get C hb5 (k := (3 + i)) (kRiver_3_1 _ (by omega)) (by omega) celO_5 fw_X3_48 (z := .int (R_r (3 + i) 1)) rfl dX3_townsBurnt_31 ?_
          refine r_if_eq C dX3_townsBurnt_34 (fun c15 => ?_) (fun c15 => ?_)
          · skip
            refine r_iinc C dX3_townsBurnt_40 (nI (i + 1)) rfl (nI_inc i rfl) (ls' := [.val (.ref o_r), .val (.int (nI m)), .val (.int (nI (i + 1)))]) rfl ?_
            refine r_goto C dX3_townsBurnt_43 ?_
            have e16 : s3 = d_X3_townsBurnt_L4 R_r n1 m (i + 1) := by rw [hs3]; first | (simp only [d_X3_townsBurnt_L4, if_neg c9, if_neg c13, if_pos c15]; done) | contradiction
            exact ih2 m (i + 1) _  trivial (by omega) (by omega) (by omega) hb5 s3 e16  kx4
          · skip
            refine r_iinc C dX3_townsBurnt_37 (nI (m + 1)) rfl (nI_inc m rfl) (ls' := [.val (.ref o_r), .val (.int (nI (m + 1))), .val (.int (nI i))]) rfl ?_
            refine r_iinc C dX3_townsBurnt_40 (nI (i + 1)) rfl (nI_inc i rfl) (ls' := [.val (.ref o_r), .val (.int (nI (m + 1))), .val (.int (nI (i + 1)))]) rfl ?_
            refine r_goto C dX3_townsBurnt_43 ?_
            have e17 : s3 = d_X3_townsBurnt_L4 R_r n1 (m + 1) (i + 1) := by rw [hs3]; first | (simp only [d_X3_townsBurnt_L4, if_neg c9, if_neg c13, if_neg c15]; done) | contradiction
            exact ih2 (m + 1) (i + 1) _  trivial (by omega) (by omega) (by omega) hb5 s3 e17  kx4
  obtain ⟨s18, hs18⟩ : ∃ r, r = d_X3_townsBurnt_L4 R_r 7 0 0 := ⟨_, rfl⟩
  refine d_X3_townsBurnt_L4_w 7 0 0 _  trivial (by omega) (by omega) (by omega) hb_r s18 hs18  (fun H20 z7 hz7 e21  hb19 => ?_)
  refine r_iload_n C dX3_townsBurnt_46 rfl ?_
  refine r_iret C dX3_townsBurnt_47 ?_
  have er : res = (nI s18) := by rw [hres]; first | (simp only [d_X3_townsBurnt, ← hs18]; done) | contradiction
  rw [er]

def d_X3_crewsGone_L4 (R_r : Nat → Nat → Int32) : Nat → Nat → Nat → Nat
  | 0, m, _ => m
  | n1 + 1, m, i =>
    if (nI 3) ≤ (nI i) then
      m
    else
      if (R_r (9 + 2 * i) 0) = 0 then
        d_X3_crewsGone_L4 R_r n1 m (i + 1)
      else
        if (R_r (9 + 2 * i) 1) = 0 then
          d_X3_crewsGone_L4 R_r n1 m (i + 1)
        else
          d_X3_crewsGone_L4 R_r n1 (m + 1) (i + 1)
def d_X3_crewsGone (R_r : Nat → Nat → Int32) : Int32 :=
  let s18 := d_X3_crewsGone_L4 R_r 4 0 0
  (nI s18)
set_option maxHeartbeats 4000000 in
set_option maxRecDepth 100000 in
theorem c_X3_crewsGone (l : Launch) (D : DD) (o_r : Nat) (R_r : Nat → Nat → Int32)  (res : Int32) (hres : res = d_X3_crewsGone R_r) : Mt l D yX3_crewsGone cX3_crewsGone 3 (some .int) 0 0 0 0 [.ref o_r] (fun H => blk D ksRiver o_r R_r H) (fun v H => v = some (.int res)) fp0 := by
  refine mt_of (own := RX3) (ls := [.val (.ref o_r), .unset, .unset]) rfl (by decide +kernel) rfl ?_
  intro x H C hP
  have hb_r := hP
  refine r_iconst C dX3_crewsGone_0 (0 : Int32) (by decide) ?_
  refine r_istore_n C dX3_crewsGone_1 (ls' := [.val (.ref o_r), .val (.int (0 : Int32)), .unset]) rfl trivial rfl ?_
  refine r_iconst C dX3_crewsGone_2 (0 : Int32) (by decide) ?_
  refine r_istore_n C dX3_crewsGone_3 (ls' := [.val (.ref o_r), .val (.int (0 : Int32)), .val (.int (0 : Int32))]) rfl trivial rfl ?_
  have d_X3_crewsGone_L4_w : ∀ (n1 : Nat) (m : Nat) (i : Nat) (H6 : Heap), True → (i ≤ 3) → (m ≤ i) → (3 - i < n1) → blk D ksRiver o_r R_r H6 → ∀ s3 : Nat, s3 = d_X3_crewsGone_L4 R_r n1 m i → (∀ (H' : Heap) (z7 : Slot) (_ : slot1 z7), True → blk D ksRiver o_r R_r H' → WG x fp0 (Fin x (fun v H => v = some (.int res)) fp0 0 0) H' 0 0 46 [.val (.ref o_r), .val (.int (nI s3)), z7] []) → WG x fp0 (Fin x (fun v H => v = some (.int res)) fp0 0 0) H6 0 0 4 [.val (.ref o_r), .val (.int (nI m)), .val (.int (nI i))] [] := by
    intro n1
    induction n1 with
    | zero => intro m i H6  _ hi hm hm8; exact absurd hm8 (Nat.not_lt_zero _)
    | succ n1 ih2 =>
      intro m i H6  _ hi hm hm8 hb5 s3 hs3  kx4
      refine r_iload_n C dX3_crewsGone_4 rfl ?_
      refine r_aload_n C dX3_crewsGone_5 rfl ?_
      refine r_get C hb5 (k := 0) rfl rfl celO_3 fw_X3_19 rfl dX3_crewsGone_6 ?_
      refine r_alen C hb5 (k := 2) rfl rfl 3 (Or.inr (Or.inr (Or.inr (Or.inl ⟨rfl, rfl⟩)))) dX3_crewsGone_9 ?_
      refine r_ic_ge C dX3_crewsGone_10 (fun c9 => ?_) (fun c9 => ?_)
      · skip
        have f10 : (3 ≤ i) := nf_leI (by omega) (by omega) rfl rfl c9
        have e11 : s3 = m := by rw [hs3]; first | (simp only [d_X3_crewsGone_L4, if_pos c9]; done) | contradiction
        rw [e11] at kx4
        exact kx4 _ (.val (.int (nI i))) rfl trivial  hb5
      · skip
        have f12 : ¬ (3 ≤ i) := nf_leIn (by omega) (by omega) rfl rfl c9
        refine r_aload_n C dX3_crewsGone_13 rfl ?_
        refine r_get C hb5 (k := 0) rfl rfl celO_3 fw_X3_19 rfl dX3_crewsGone_14 ?_
        refine r_iload_n C dX3_crewsGone_17 rfl ?_
        refine r_aaldC C hb5 (k := 2) rfl rfl (vp_in_n rfl (by omega) (by decide)) (j := i) (cl_n rfl (by omega)) dX3_crewsGone_18 ?_
        refine r_get C hb5 (k := (9 + 2 * i)) (kRiver_9_2 _ (by omega)) (by omega) celO_0 fw_X3_43 (z := .int (R_r (9 + 2 * i) 0)) rfl dX3_crewsGone_19 ?_
        refine r_if_eq C dX3_crewsGone_22 (fun c13 => ?_) (fun c13 => ?_)
        · skip
          refine r_iinc C dX3_crewsGone_40 (nI (i + 1)) rfl (nI_inc i rfl) (ls' := [.val (.ref o_r), .val (.int (nI m)), .val (.int (nI (i + 1)))]) rfl ?_
          refine r_goto C dX3_crewsGone_43 ?_
          have e14 : s3 = d_X3_crewsGone_L4 R_r n1 m (i + 1) := by rw [hs3]; first | (simp only [d_X3_crewsGone_L4, if_neg c9, if_pos c13]; done) | contradiction
          exact ih2 m (i + 1) _  trivial (by omega) (by omega) (by omega) hb5 s3 e14  kx4
        · skip
          refine r_aload_n C dX3_crewsGone_25 rfl ?_
          refine r_get C hb5 (k := 0) rfl rfl celO_3 fw_X3_19 rfl dX3_crewsGone_26 ?_
          refine r_iload_n C dX3_crewsGone_29 rfl ?_
          refine r_aaldC C hb5 (k := 2) rfl rfl (vp_in_n rfl (by omega) (by decide)) (j := i) (cl_n rfl (by omega)) dX3_crewsGone_30 ?_
          refine r_get C hb5 (k := (9 + 2 * i)) (kRiver_9_2 _ (by omega)) (by omega) celO_0 fw_X3_76 (z := .int (R_r (9 + 2 * i) 1)) rfl dX3_crewsGone_31 ?_
          refine r_if_eq C dX3_crewsGone_34 (fun c15 => ?_) (fun c15 => ?_)
          · skip
            refine r_iinc C dX3_crewsGone_40 (nI (i + 1)) rfl (nI_inc i rfl) (ls' := [.val (.ref o_r), .val (.int (nI m)), .val (.int (nI (i + 1)))]) rfl ?_
            refine r_goto C dX3_crewsGone_43 ?_
            have e16 : s3 = d_X3_crewsGone_L4 R_r n1 m (i + 1) := by rw [hs3]; first | (simp only [d_X3_crewsGone_L4, if_neg c9, if_neg c13, if_pos c15]; done) | contradiction
            exact ih2 m (i + 1) _  trivial (by omega) (by omega) (by omega) hb5 s3 e16  kx4
          · skip
            refine r_iinc C dX3_crewsGone_37 (nI (m + 1)) rfl (nI_inc m rfl) (ls' := [.val (.ref o_r), .val (.int (nI (m + 1))), .val (.int (nI i))]) rfl ?_
            refine r_iinc C dX3_crewsGone_40 (nI (i + 1)) rfl (nI_inc i rfl) (ls' := [.val (.ref o_r), .val (.int (nI (m + 1))), .val (.int (nI (i + 1)))]) rfl ?_
            refine r_goto C dX3_crewsGone_43 ?_
            have e17 : s3 = d_X3_crewsGone_L4 R_r n1 (m + 1) (i + 1) := by rw [hs3]; first | (simp only [d_X3_crewsGone_L4, if_neg c9, if_neg c13, if_neg c15]; done) | contradiction
            exact ih2 (m + 1) (i + 1) _  trivial (by omega) (by omega) (by omega) hb5 s3 e17  kx4
  obtain ⟨s18, hs18⟩ : ∃ r, r = d_X3_crewsGone_L4 R_r 4 0 0 := ⟨_, rfl⟩
  refine d_X3_crewsGone_L4_w 4 0 0 _  trivial (by omega) (by omega) (by omega) hb_r s18 hs18  (fun H20 z7 hz7 e21  hb19 => ?_)
  refine r_iload_n C dX3_crewsGone_46 rfl ?_
  refine r_iret C dX3_crewsGone_47 ?_
  have er : res = (nI s18) := by rw [hres]; first | (simp only [d_X3_crewsGone, ← hs18]; done) | contradiction
  rw [er]

def d_X3_silverOfAll_L4 (R_r : Nat → Nat → Int32) : Nat → Int32 → Nat → Int32
  | 0, sum, _ => sum
  | n1 + 1, sum, i =>
    if (nI 6) ≤ (nI i) then
      sum
    else
      let u13 := d_X5_stands (shf R_r (3 + i))
      if u13 = 0 then
        d_X3_silverOfAll_L4 R_r n1 sum (i + 1)
      else
        d_X3_silverOfAll_L4 R_r n1 (sum + (R_r (3 + i) 3)) (i + 1)
def d_X3_silverOfAll (R_r : Nat → Nat → Int32) : Int32 :=
  let s22 := d_X3_silverOfAll_L4 R_r 7 (0 : Int32) 0
  s22
set_option maxHeartbeats 4000000 in
set_option maxRecDepth 100000 in
theorem c_X3_silverOfAll (l : Launch) (D : DD) (o_r : Nat) (R_r : Nat → Nat → Int32)  (res : Int32) (hres : res = d_X3_silverOfAll R_r) : Mt l D yX3_silverOfAll cX3_silverOfAll 3 (some .int) 1 20 0 0 [.ref o_r] (fun H => blk D ksRiver o_r R_r H) (fun v H => v = some (.int res)) fp0 := by
  refine mt_of (own := RX3) (ls := [.val (.ref o_r), .unset, .unset]) rfl (by decide +kernel) rfl ?_
  intro x H C hP
  have hb_r := hP
  refine r_iconst C dX3_silverOfAll_0 (0 : Int32) (by decide) ?_
  refine r_istore_n C dX3_silverOfAll_1 (ls' := [.val (.ref o_r), .val (.int (0 : Int32)), .unset]) rfl trivial rfl ?_
  refine r_iconst C dX3_silverOfAll_2 (0 : Int32) (by decide) ?_
  refine r_istore_n C dX3_silverOfAll_3 (ls' := [.val (.ref o_r), .val (.int (0 : Int32)), .val (.int (0 : Int32))]) rfl trivial rfl ?_
  have d_X3_silverOfAll_L4_w : ∀ (n1 : Nat) (sum : Int32) (i : Nat) (H6 : Heap), True → (i ≤ 6) → (6 - i < n1) → blk D ksRiver o_r R_r H6 → ∀ s3 : Int32, s3 = d_X3_silverOfAll_L4 R_r n1 sum i → (∀ (H' : Heap) (z7 : Slot) (_ : slot1 z7), True → blk D ksRiver o_r R_r H' → WG x fp0 (Fin x (fun v H => v = some (.int res)) fp0 0 0) H' 0 0 43 [.val (.ref o_r), .val (.int s3), z7] []) → WG x fp0 (Fin x (fun v H => v = some (.int res)) fp0 0 0) H6 0 0 4 [.val (.ref o_r), .val (.int sum), .val (.int (nI i))] [] := by
    intro n1
    induction n1 with
    | zero => intro sum i H6  _ hi hm8; exact absurd hm8 (Nat.not_lt_zero _)
    | succ n1 ih2 =>
      intro sum i H6  _ hi hm8 hb5 s3 hs3  kx4
      refine r_iload_n C dX3_silverOfAll_4 rfl ?_
      refine r_aload_n C dX3_silverOfAll_5 rfl ?_
      refine r_get C hb5 (k := 0) rfl rfl celO_3 fw_X3_11 rfl dX3_silverOfAll_6 ?_
      refine r_alen C hb5 (k := 1) rfl rfl 6 (Or.inr (Or.inr (Or.inl ⟨rfl, rfl⟩))) dX3_silverOfAll_9 ?_
      refine r_ic_ge C dX3_silverOfAll_10 (fun c9 => ?_) (fun c9 => ?_)
      · skip
        have f10 : (6 ≤ i) := nf_leI (by omega) (by omega) rfl rfl c9
        have e11 : s3 = sum := by rw [hs3]; first | (simp only [d_X3_silverOfAll_L4, if_pos c9]; done) | contradiction
        rw [e11] at kx4
        exact kx4 _ (.val (.int (nI i))) rfl trivial  hb5
      · skip
        have f12 : ¬ (6 ≤ i) := nf_leIn (by omega) (by omega) rfl rfl c9
        refine r_aload_n C dX3_silverOfAll_13 rfl ?_
        refine r_get C hb5 (k := 0) rfl rfl celO_3 fw_X3_11 rfl dX3_silverOfAll_14 ?_
        refine r_iload_n C dX3_silverOfAll_17 rfl ?_
        refine r_aaldT C hb5 (k := 1) rfl rfl (vp_in_n rfl (by omega) (by decide)) (j := i) (cl_n rfl (by omega)) dX3_silverOfAll_18 ?_
        obtain ⟨u13, hu13⟩ : ∃ r, r = d_X5_stands (shf R_r (3 + i)) := ⟨_, rfl⟩
        refine r_callV0 C cw_X3_99 (fun l => c_X5_stands l D ((o_r + 1) + 2 + i) (shf R_r (3 + i)) u13 hu13) (rest := []) hb5 (k := (3 + i)) (kRiver_3_1 _ (by omega)) (by omega) celO_5 (blk_sub hb5 (3 + i) 1 (sRiver_3_1_1 _ (by omega)) (by omega)) (fun q h => h.elim) rfl rfl rfl (Nat.le_of_ble_eq_true rfl) ⟨Nat.le_of_ble_eq_true rfl, Nat.le_of_ble_eq_true rfl, Nat.le_refl 0, Nat.le_refl 0⟩ dX3_silverOfAll_19 (fun v H14 hp15 hq16 => ?_)
        obtain ⟨rfl, hl17⟩ := hp15
        have hb18 := blk_kept hb5 (n := 15) rfl (fun q h1 h2 => hq16 q (fun h => h))
        dsimp only [psh]
        refine r_if_eq C dX3_silverOfAll_22 (fun c19 => ?_) (fun c19 => ?_)
        · skip
          refine r_iinc C dX3_silverOfAll_37 (nI (i + 1)) rfl (nI_inc i rfl) (ls' := [.val (.ref o_r), .val (.int sum), .val (.int (nI (i + 1)))]) rfl ?_
          refine r_goto C dX3_silverOfAll_40 ?_
          have e20 : s3 = d_X3_silverOfAll_L4 R_r n1 sum (i + 1) := by rw [hs3]; first | (simp only [d_X3_silverOfAll_L4, ← hu13, if_neg c9, if_pos c19]; done) | contradiction
          exact ih2 sum (i + 1) _  trivial (by omega) (by omega) hb18 s3 e20  kx4
        · skip
          refine r_iload_n C dX3_silverOfAll_25 rfl ?_
          refine r_aload_n C dX3_silverOfAll_26 rfl ?_
          refine r_get C hb18 (k := 0) rfl rfl celO_3 fw_X3_11 rfl dX3_silverOfAll_27 ?_
          refine r_iload_n C dX3_silverOfAll_30 rfl ?_
          refine r_aaldT C hb18 (k := 1) rfl rfl (vp_in_n rfl (by omega) (by decide)) (j := i) (cl_n rfl (by omega)) dX3_silverOfAll_31 ?_
          refine r_get C hb18 (k := (3 + i)) (kRiver_3_1 _ (by omega)) (by omega) celO_5 fw_X3_58 (z := .int (R_r (3 + i) 3)) rfl dX3_silverOfAll_32 ?_
          refine r_iadd C dX3_silverOfAll_35 ?_
          refine r_istore_n C dX3_silverOfAll_36 (ls' := [.val (.ref o_r), .val (.int (sum + (R_r (3 + i) 3))), .val (.int (nI i))]) rfl rfl rfl ?_
          refine r_iinc C dX3_silverOfAll_37 (nI (i + 1)) rfl (nI_inc i rfl) (ls' := [.val (.ref o_r), .val (.int (sum + (R_r (3 + i) 3))), .val (.int (nI (i + 1)))]) rfl ?_
          refine r_goto C dX3_silverOfAll_40 ?_
          have e21 : s3 = d_X3_silverOfAll_L4 R_r n1 (sum + (R_r (3 + i) 3)) (i + 1) := by rw [hs3]; first | (simp only [d_X3_silverOfAll_L4, ← hu13, if_neg c9, if_neg c19]; done) | contradiction
          exact ih2 (sum + (R_r (3 + i) 3)) (i + 1) _  trivial (by omega) (by omega) hb18 s3 e21  kx4
  obtain ⟨s22, hs22⟩ : ∃ r, r = d_X3_silverOfAll_L4 R_r 7 (0 : Int32) 0 := ⟨_, rfl⟩
  refine d_X3_silverOfAll_L4_w 7 (0 : Int32) 0 _  trivial (by omega) (by omega) hb_r s22 hs22  (fun H24 z7 hz7 e25  hb23 => ?_)
  refine r_iload_n C dX3_silverOfAll_43 rfl ?_
  refine r_iret C dX3_silverOfAll_44 ?_
  have er : res = s22 := by rw [hres]; first | (simp only [d_X3_silverOfAll, ← hs22]; done) | contradiction
  rw [er]

def d_X3_askedOfAll_L15 (R_r : Nat → Nat → Int32) (c : Nat) : Nat → Int32 → Nat → Int32
  | 0, sm, _ => sm
  | n15 + 1, sm, i =>
    if (nI 6) ≤ (nI i) then
      sm
    else
      let u27 := d_X0_sails (shf R_r (9 + 2 * c))
      if u27 = 0 then
        d_X3_askedOfAll_L15 R_r c n15 sm (i + 1)
      else
        let u35 := d_X5_stands (shf R_r (3 + i))
        if u35 = 0 then
          d_X3_askedOfAll_L15 R_r c n15 sm (i + 1)
        else
          let u43 := d_X0_wouldAsk (shf R_r (9 + 2 * c)) (shf R_r (3 + i)) (nI i)
          d_X3_askedOfAll_L15 R_r c n15 (sm + u43) (i + 1)
def d_X3_askedOfAll_L4 (R_r : Nat → Nat → Int32) : Nat → Int32 → Nat → Int32
  | 0, sum, _ => sum
  | n1 + 1, sum, c =>
    if (nI 3) ≤ (nI c) then
      sum
    else
      let s49 := d_X3_askedOfAll_L15 R_r c 7 sum 0
      d_X3_askedOfAll_L4 R_r n1 s49 (c + 1)
def d_X3_askedOfAll (R_r : Nat → Nat → Int32) : Int32 :=
  let s54 := d_X3_askedOfAll_L4 R_r 4 (0 : Int32) 0
  s54
set_option maxHeartbeats 4000000 in
set_option maxRecDepth 100000 in
theorem c_X3_askedOfAll (l : Launch) (D : DD) (o_r : Nat) (R_r : Nat → Nat → Int32)  (res : Int32) (hres : res = d_X3_askedOfAll R_r) : Mt l D yX3_askedOfAll cX3_askedOfAll 4 (some .int) 2 44 0 0 [.ref o_r] (fun H => blk D ksRiver o_r R_r H) (fun v H => v = some (.int res)) fp0 := by
  refine mt_of (own := RX3) (ls := [.val (.ref o_r), .unset, .unset, .unset]) rfl (by decide +kernel) rfl ?_
  intro x H C hP
  have hb_r := hP
  refine r_iconst C dX3_askedOfAll_0 (0 : Int32) (by decide) ?_
  refine r_istore_n C dX3_askedOfAll_1 (ls' := [.val (.ref o_r), .val (.int (0 : Int32)), .unset, .unset]) rfl trivial rfl ?_
  refine r_iconst C dX3_askedOfAll_2 (0 : Int32) (by decide) ?_
  refine r_istore_n C dX3_askedOfAll_3 (ls' := [.val (.ref o_r), .val (.int (0 : Int32)), .val (.int (0 : Int32)), .unset]) rfl trivial rfl ?_
  have d_X3_askedOfAll_L4_w : ∀ (n1 : Nat) (sum : Int32) (c : Nat) (H7 : Heap) (z5 : Slot) (_ : slot1 z5), True → (c ≤ 3) → (3 - c < n1) → blk D ksRiver o_r R_r H7 → ∀ s3 : Int32, s3 = d_X3_askedOfAll_L4 R_r n1 sum c → (∀ (H' : Heap) (z8 : Slot) (_ : slot1 z8) (z9 : Slot) (_ : slot1 z9), True → blk D ksRiver o_r R_r H' → WG x fp0 (Fin x (fun v H => v = some (.int res)) fp0 0 0) H' 0 0 79 [.val (.ref o_r), .val (.int s3), z8, z9] []) → WG x fp0 (Fin x (fun v H => v = some (.int res)) fp0 0 0) H7 0 0 4 [.val (.ref o_r), .val (.int sum), .val (.int (nI c)), z5] [] := by
    intro n1
    induction n1 with
    | zero => intro sum c H7 z5 hz5 _ hc hm10; exact absurd hm10 (Nat.not_lt_zero _)
    | succ n1 ih2 =>
      intro sum c H7 z5 hz5 _ hc hm10 hb6 s3 hs3  kx4
      refine r_iload_n C dX3_askedOfAll_4 rfl ?_
      refine r_aload_n C dX3_askedOfAll_5 rfl ?_
      refine r_get C hb6 (k := 0) rfl rfl celO_3 fw_X3_19 rfl dX3_askedOfAll_6 ?_
      refine r_alen C hb6 (k := 2) rfl rfl 3 (Or.inr (Or.inr (Or.inr (Or.inl ⟨rfl, rfl⟩)))) dX3_askedOfAll_9 ?_
      refine r_ic_ge C dX3_askedOfAll_10 (fun c11 => ?_) (fun c11 => ?_)
      · skip
        have f12 : (3 ≤ c) := nf_leI (by omega) (by omega) rfl rfl c11
        have e13 : s3 = sum := by rw [hs3]; first | (simp only [d_X3_askedOfAll_L4, if_pos c11]; done) | contradiction
        rw [e13] at kx4
        exact kx4 _ (.val (.int (nI c))) rfl z5 hz5 trivial  hb6
      · skip
        have f14 : ¬ (3 ≤ c) := nf_leIn (by omega) (by omega) rfl rfl c11
        refine r_iconst C dX3_askedOfAll_13 (0 : Int32) (by decide) ?_
        refine r_istore_n C dX3_askedOfAll_14 (ls' := [.val (.ref o_r), .val (.int sum), .val (.int (nI c)), .val (.int (0 : Int32))]) rfl hz5 rfl ?_
        have d_X3_askedOfAll_L15_w : ∀ (n15 : Nat) (sm : Int32) (i : Nat) (H20 : Heap), True → (i ≤ 6) → (6 - i < n15) → blk D ksRiver o_r R_r H20 → ∀ s17 : Int32, s17 = d_X3_askedOfAll_L15 R_r c n15 sm i → (∀ (H' : Heap) (z21 : Slot) (_ : slot1 z21), True → blk D ksRiver o_r R_r H' → WG x fp0 (Fin x (fun v H => v = some (.int res)) fp0 0 0) H' 0 0 73 [.val (.ref o_r), .val (.int s17), .val (.int (nI c)), z21] []) → WG x fp0 (Fin x (fun v H => v = some (.int res)) fp0 0 0) H20 0 0 15 [.val (.ref o_r), .val (.int sm), .val (.int (nI c)), .val (.int (nI i))] [] := by
          intro n15
          induction n15 with
          | zero => intro sm i H20  _ hi hm22; exact absurd hm22 (Nat.not_lt_zero _)
          | succ n15 ih16 =>
            intro sm i H20  _ hi hm22 hb19 s17 hs17  kx18
            refine r_iload_n C dX3_askedOfAll_15 rfl ?_
            refine r_aload_n C dX3_askedOfAll_16 rfl ?_
            refine r_get C hb19 (k := 0) rfl rfl celO_3 fw_X3_11 rfl dX3_askedOfAll_17 ?_
            refine r_alen C hb19 (k := 1) rfl rfl 6 (Or.inr (Or.inr (Or.inl ⟨rfl, rfl⟩))) dX3_askedOfAll_20 ?_
            refine r_ic_ge C dX3_askedOfAll_21 (fun c23 => ?_) (fun c23 => ?_)
            · skip
              have f24 : (6 ≤ i) := nf_leI (by omega) (by omega) rfl rfl c23
              have e25 : s17 = sm := by rw [hs17]; first | (simp only [d_X3_askedOfAll_L15, if_pos c23]; done) | contradiction
              rw [e25] at kx18
              exact kx18 _ (.val (.int (nI i))) rfl trivial  hb19
            · skip
              have f26 : ¬ (6 ≤ i) := nf_leIn (by omega) (by omega) rfl rfl c23
              refine r_aload_n C dX3_askedOfAll_24 rfl ?_
              refine r_get C hb19 (k := 0) rfl rfl celO_3 fw_X3_19 rfl dX3_askedOfAll_25 ?_
              refine r_iload_n C dX3_askedOfAll_28 rfl ?_
              refine r_aaldC C hb19 (k := 2) rfl rfl (vp_in_n rfl (by omega) (by decide)) (j := c) (cl_n rfl (by omega)) dX3_askedOfAll_29 ?_
              obtain ⟨u27, hu27⟩ : ∃ r, r = d_X0_sails (shf R_r (9 + 2 * c)) := ⟨_, rfl⟩
              refine r_callV0 C cw_X3_92 (fun l => c_X0_sails l D ((o_r + 2) + 7 + 2 * c) (shf R_r (9 + 2 * c)) u27 hu27) (rest := []) hb19 (k := (9 + 2 * c)) (kRiver_9_2 _ (by omega)) (by omega) celO_0 (blk_sub hb19 (9 + 2 * c) 2 (sRiver_9_2_2 _ (by omega)) (by omega)) (fun q h => h.elim) rfl rfl rfl (Nat.le_of_ble_eq_true rfl) ⟨Nat.le_of_ble_eq_true rfl, Nat.le_of_ble_eq_true rfl, Nat.le_refl 0, Nat.le_refl 0⟩ dX3_askedOfAll_30 (fun v H28 hp29 hq30 => ?_)
              obtain ⟨rfl, hl31⟩ := hp29
              have hb32 := blk_kept hb19 (n := 15) rfl (fun q h1 h2 => hq30 q (fun h => h))
              dsimp only [psh]
              refine r_if_eq C dX3_askedOfAll_33 (fun c33 => ?_) (fun c33 => ?_)
              · skip
                refine r_iinc C dX3_askedOfAll_67 (nI (i + 1)) rfl (nI_inc i rfl) (ls' := [.val (.ref o_r), .val (.int sm), .val (.int (nI c)), .val (.int (nI (i + 1)))]) rfl ?_
                refine r_goto C dX3_askedOfAll_70 ?_
                have e34 : s17 = d_X3_askedOfAll_L15 R_r c n15 sm (i + 1) := by rw [hs17]; first | (simp only [d_X3_askedOfAll_L15, ← hu27, if_neg c23, if_pos c33]; done) | contradiction
                exact ih16 sm (i + 1) _  trivial (by omega) (by omega) hb32 s17 e34  kx18
              · skip
                refine r_aload_n C dX3_askedOfAll_36 rfl ?_
                refine r_get C hb32 (k := 0) rfl rfl celO_3 fw_X3_11 rfl dX3_askedOfAll_37 ?_
                refine r_iload_n C dX3_askedOfAll_40 rfl ?_
                refine r_aaldT C hb32 (k := 1) rfl rfl (vp_in_n rfl (by omega) (by decide)) (j := i) (cl_n rfl (by omega)) dX3_askedOfAll_41 ?_
                obtain ⟨u35, hu35⟩ : ∃ r, r = d_X5_stands (shf R_r (3 + i)) := ⟨_, rfl⟩
                refine r_callV0 C cw_X3_99 (fun l => c_X5_stands l D ((o_r + 1) + 2 + i) (shf R_r (3 + i)) u35 hu35) (rest := []) hb32 (k := (3 + i)) (kRiver_3_1 _ (by omega)) (by omega) celO_5 (blk_sub hb32 (3 + i) 1 (sRiver_3_1_1 _ (by omega)) (by omega)) (fun q h => h.elim) rfl rfl rfl (Nat.le_of_ble_eq_true rfl) ⟨Nat.le_of_ble_eq_true rfl, Nat.le_of_ble_eq_true rfl, Nat.le_refl 0, Nat.le_refl 0⟩ dX3_askedOfAll_42 (fun v H36 hp37 hq38 => ?_)
                obtain ⟨rfl, hl39⟩ := hp37
                have hb40 := blk_kept hb32 (n := 15) rfl (fun q h1 h2 => hq38 q (fun h => h))
                dsimp only [psh]
                refine r_if_eq C dX3_askedOfAll_45 (fun c41 => ?_) (fun c41 => ?_)
                · skip
                  refine r_iinc C dX3_askedOfAll_67 (nI (i + 1)) rfl (nI_inc i rfl) (ls' := [.val (.ref o_r), .val (.int sm), .val (.int (nI c)), .val (.int (nI (i + 1)))]) rfl ?_
                  refine r_goto C dX3_askedOfAll_70 ?_
                  have e42 : s17 = d_X3_askedOfAll_L15 R_r c n15 sm (i + 1) := by rw [hs17]; first | (simp only [d_X3_askedOfAll_L15, ← hu27, ← hu35, if_neg c23, if_neg c33, if_pos c41]; done) | contradiction
                  exact ih16 sm (i + 1) _  trivial (by omega) (by omega) hb40 s17 e42  kx18
                · skip
                  refine r_iload_n C dX3_askedOfAll_48 rfl ?_
                  refine r_aload_n C dX3_askedOfAll_49 rfl ?_
                  refine r_get C hb40 (k := 0) rfl rfl celO_3 fw_X3_19 rfl dX3_askedOfAll_50 ?_
                  refine r_iload_n C dX3_askedOfAll_53 rfl ?_
                  refine r_aaldC C hb40 (k := 2) rfl rfl (vp_in_n rfl (by omega) (by decide)) (j := c) (cl_n rfl (by omega)) dX3_askedOfAll_54 ?_
                  refine r_aload_n C dX3_askedOfAll_55 rfl ?_
                  refine r_get C hb40 (k := 0) rfl rfl celO_3 fw_X3_11 rfl dX3_askedOfAll_56 ?_
                  refine r_iload_n C dX3_askedOfAll_59 rfl ?_
                  refine r_aaldT C hb40 (k := 1) rfl rfl (vp_in_n rfl (by omega) (by decide)) (j := i) (cl_n rfl (by omega)) dX3_askedOfAll_60 ?_
                  refine r_iload_n C dX3_askedOfAll_61 rfl ?_
                  obtain ⟨u43, hu43⟩ : ∃ r, r = d_X0_wouldAsk (shf R_r (9 + 2 * c)) (shf R_r (3 + i)) (nI i) := ⟨_, rfl⟩
                  refine r_callV0 C cw_X3_116 (fun l => c_X0_wouldAsk l D ((o_r + 2) + 7 + 2 * c) ((o_r + 1) + 2 + i) (shf R_r (9 + 2 * c)) (shf R_r (3 + i)) (nI i) u43 hu43) (rest := [.int sm]) hb40 (k := (9 + 2 * c)) (kRiver_9_2 _ (by omega)) (by omega) celO_0 ⟨(blk_sub hb40 (9 + 2 * c) 2 (sRiver_9_2_2 _ (by omega)) (by omega)), (blk_sub hb40 (3 + i) 1 (sRiver_3_1_1 _ (by omega)) (by omega))⟩ (fun q h => h.elim) rfl rfl rfl (Nat.le_of_ble_eq_true rfl) ⟨Nat.le_of_ble_eq_true rfl, Nat.le_of_ble_eq_true rfl, Nat.le_refl 0, Nat.le_refl 0⟩ dX3_askedOfAll_62 (fun v H44 hp45 hq46 => ?_)
                  subst hp45
                  have hb47 := blk_kept hb40 (n := 15) rfl (fun q h1 h2 => hq46 q (fun h => h))
                  dsimp only [psh]
                  refine r_iadd C dX3_askedOfAll_65 ?_
                  refine r_istore_n C dX3_askedOfAll_66 (ls' := [.val (.ref o_r), .val (.int (sm + u43)), .val (.int (nI c)), .val (.int (nI i))]) rfl rfl rfl ?_
                  refine r_iinc C dX3_askedOfAll_67 (nI (i + 1)) rfl (nI_inc i rfl) (ls' := [.val (.ref o_r), .val (.int (sm + u43)), .val (.int (nI c)), .val (.int (nI (i + 1)))]) rfl ?_
                  refine r_goto C dX3_askedOfAll_70 ?_
                  have e48 : s17 = d_X3_askedOfAll_L15 R_r c n15 (sm + u43) (i + 1) := by rw [hs17]; first | (simp only [d_X3_askedOfAll_L15, ← hu27, ← hu35, ← hu43, if_neg c23, if_neg c33, if_neg c41]; done) | contradiction
                  exact ih16 (sm + u43) (i + 1) _  trivial (by omega) (by omega) hb47 s17 e48  kx18
        obtain ⟨s49, hs49⟩ : ∃ r, r = d_X3_askedOfAll_L15 R_r c 7 sum 0 := ⟨_, rfl⟩
        refine d_X3_askedOfAll_L15_w 7 sum 0 _  trivial (by omega) (by omega) hb6 s49 hs49  (fun H51 z21 hz21 e52  hb50 => ?_)
        refine r_iinc C dX3_askedOfAll_73 (nI (c + 1)) rfl (nI_inc c rfl) (ls' := [.val (.ref o_r), .val (.int s49), .val (.int (nI (c + 1))), z21]) rfl ?_
        refine r_goto C dX3_askedOfAll_76 ?_
        have e53 : s3 = d_X3_askedOfAll_L4 R_r n1 s49 (c + 1) := by rw [hs3]; first | (simp only [d_X3_askedOfAll_L4, ← hs49, if_neg c11]; done) | contradiction
        exact ih2 s49 (c + 1) _ z21 hz21 trivial (by omega) (by omega) hb50 s3 e53  kx4
  obtain ⟨s54, hs54⟩ : ∃ r, r = d_X3_askedOfAll_L4 R_r 4 (0 : Int32) 0 := ⟨_, rfl⟩
  refine d_X3_askedOfAll_L4_w 4 (0 : Int32) 0 _ .unset trivial trivial (by omega) (by omega) hb_r s54 hs54  (fun H56 z8 hz8 z9 hz9 e57  hb55 => ?_)
  refine r_iload_n C dX3_askedOfAll_79 rfl ?_
  refine r_iret C dX3_askedOfAll_80 ?_
  have er : res = s54 := by rw [hres]; first | (simp only [d_X3_askedOfAll, ← hs54]; done) | contradiction
  rw [er]

def d_X3_sendsHome (R_t : Nat → Nat → Int32) (R_c : Nat → Nat → Int32) (i : Int32) : Int32 × (Nat → Nat → Int32) × (Nat → Nat → Int32) :=
  let u1 := d_X0_wouldAsk R_c R_t i
  if (R_t 0 6) = 0 then
    if (R_t 0 3) < u1 then
      if (R_t 0 6) = (2 : Int32) then
        if (R_t 0 3) < (u1 / (3 : Int32)) then
          let u70 := d_X5_menHeldOff R_t
          if (R_c 0 2) ≤ u70 then
            ((0 : Int32), R_t, (pt R_c 0 2 (imax (1 : Int32) ((R_c 0 2) - (2 : Int32)))))
          else
            let u81 := d_X0_burn R_c R_t i
            ((1 : Int32), u81.2, u81.1)
        else
          let u87 := d_X0_takePay R_c R_t i (u1 / (3 : Int32))
          ((0 : Int32), u87.2, u87.1)
      else
        let u52 := d_X5_menHeldOff R_t
        if (R_c 0 2) ≤ u52 then
          ((0 : Int32), R_t, (pt R_c 0 2 (imax (1 : Int32) ((R_c 0 2) - (2 : Int32)))))
        else
          let u63 := d_X0_burn R_c R_t i
          ((1 : Int32), u63.2, u63.1)
    else
      let u93 := d_X0_takePay R_c R_t i u1
      ((1 : Int32), u93.2, u93.1)
  else
    if (R_t 0 6) = (2 : Int32) then
      if (R_t 0 3) < (u1 / (3 : Int32)) then
        let u27 := d_X5_menHeldOff R_t
        if (R_c 0 2) ≤ u27 then
          ((0 : Int32), R_t, (pt R_c 0 2 (imax (1 : Int32) ((R_c 0 2) - (2 : Int32)))))
        else
          let u38 := d_X0_burn R_c R_t i
          ((1 : Int32), u38.2, u38.1)
      else
        let u44 := d_X0_takePay R_c R_t i (u1 / (3 : Int32))
        ((0 : Int32), u44.2, u44.1)
    else
      let u9 := d_X5_menHeldOff R_t
      if (R_c 0 2) ≤ u9 then
        ((0 : Int32), R_t, (pt R_c 0 2 (imax (1 : Int32) ((R_c 0 2) - (2 : Int32)))))
      else
        let u20 := d_X0_burn R_c R_t i
        ((1 : Int32), u20.2, u20.1)
set_option maxHeartbeats 4000000 in
set_option maxRecDepth 100000 in
theorem c_X3_sendsHome (l : Launch) (D : DD) (o_t o_c : Nat) (R_t : Nat → Nat → Int32) (R_c : Nat → Nat → Int32) (i : Int32) (hd : o_t < o_c ∨ o_c + 2 ≤ o_t) (res : Int32 × (Nat → Nat → Int32) × (Nat → Nat → Int32)) (hres : res = d_X3_sendsHome R_t R_c i) : Mt l D yX3_sendsHome cX3_sendsHome 4 (some .boolean) 2 45 0 0 [.ref o_t, .int i, .ref o_c] (fun H => blk D ksTown o_t R_t H ∧ blk D ksCrew o_c R_c H) (fun v H => v = some (.int res.1) ∧ bl res.1 ∧ blk D ksTown o_t res.2.1 H ∧ blk D ksCrew o_c res.2.2 H) (fp2 o_t 1 o_c 2) := by
  refine mt_of (own := RX3) (ls := [.val (.ref o_t), .val (.int i), .val (.ref o_c), .unset]) rfl (by decide +kernel) rfl ?_
  intro x H C hP
  obtain ⟨hb_t, hb_c⟩ := hP
  refine r_aload_n C dX3_sendsHome_0 rfl ?_
  refine r_aload_n C dX3_sendsHome_1 rfl ?_
  refine r_iload_n C dX3_sendsHome_2 rfl ?_
  obtain ⟨u1, hu1⟩ : ∃ r, r = d_X0_wouldAsk R_c R_t i := ⟨_, rfl⟩
  refine r_callV0 C cw_X3_116 (fun l => c_X0_wouldAsk l D o_c o_t R_c R_t i u1 hu1) (rest := []) hb_c (k := 0) rfl rfl celO_0 ⟨hb_c, hb_t⟩ (fun q h => h.elim) rfl rfl rfl (Nat.le_of_ble_eq_true rfl) ⟨Nat.le_of_ble_eq_true rfl, Nat.le_of_ble_eq_true rfl, Nat.le_refl 0, Nat.le_refl 0⟩ dX3_sendsHome_3 (fun v H2 hp3 hq4 => ?_)
  subst hp3
  have hb5 := blk_kept hb_t (n := 1) rfl (fun q h1 h2 => hq4 q (fun h => h))
  have hb6 := blk_kept hb_c (n := 2) rfl (fun q h1 h2 => hq4 q (fun h => h))
  dsimp only [psh]
  refine r_istore_n C dX3_sendsHome_6 (ls' := [.val (.ref o_t), .val (.int i), .val (.ref o_c), .val (.int u1)]) rfl trivial rfl ?_
  refine r_aload_n C dX3_sendsHome_7 rfl ?_
  refine r_get C hb5 (k := 0) rfl rfl celO_5 fw_X3_67 (z := .int (R_t 0 6)) rfl dX3_sendsHome_8 ?_
  refine r_if_ne C dX3_sendsHome_11 (fun c7 => ?_) (fun c7 => ?_)
  · skip
    refine r_aload_n C dX3_sendsHome_31 rfl ?_
    refine r_get C hb5 (k := 0) rfl rfl celO_5 fw_X3_67 (z := .int (R_t 0 6)) rfl dX3_sendsHome_32 ?_
    refine r_iconst C dX3_sendsHome_35 (2 : Int32) (by decide) ?_
    refine r_ic_ne C dX3_sendsHome_36 (fun c8 => ?_) (fun c8 => ?_)
    · skip
      refine r_aload_n C dX3_sendsHome_60 rfl ?_
      refine r_get C hb6 (k := 0) rfl rfl celO_0 fw_X3_79 (z := .int (R_c 0 2)) rfl dX3_sendsHome_61 ?_
      refine r_aload_n C dX3_sendsHome_64 rfl ?_
      obtain ⟨u9, hu9⟩ : ∃ r, r = d_X5_menHeldOff R_t := ⟨_, rfl⟩
      refine r_callV0 C cw_X3_124 (fun l => c_X5_menHeldOff l D o_t R_t u9 hu9) (rest := [.int (R_c 0 2)]) hb5 (k := 0) rfl rfl celO_5 hb5 (fun q h => h.elim) rfl rfl rfl (Nat.le_of_ble_eq_true rfl) ⟨Nat.le_of_ble_eq_true rfl, Nat.le_of_ble_eq_true rfl, Nat.le_refl 0, Nat.le_refl 0⟩ dX3_sendsHome_65 (fun v H10 hp11 hq12 => ?_)
      subst hp11
      have hb13 := blk_kept hb5 (n := 1) rfl (fun q h1 h2 => hq12 q (fun h => h))
      have hb14 := blk_kept hb6 (n := 2) rfl (fun q h1 h2 => hq12 q (fun h => h))
      dsimp only [psh]
      refine r_ic_le C dX3_sendsHome_68 (fun c15 => ?_) (fun c15 => ?_)
      · skip
        refine r_aload_n C dX3_sendsHome_79 rfl ?_
        refine r_iconst C dX3_sendsHome_80 (1 : Int32) (by decide) ?_
        refine r_aload_n C dX3_sendsHome_81 rfl ?_
        refine r_get C hb14 (k := 0) rfl rfl celO_0 fw_X3_79 (z := .int (R_c 0 2)) rfl dX3_sendsHome_82 ?_
        refine r_iconst C dX3_sendsHome_85 (2 : Int32) (by decide) ?_
        refine r_isub C dX3_sendsHome_86 ?_
        refine r_mmax C mw_X3_131 rfl ⟨Nat.le_of_ble_eq_true rfl, Nat.le_of_ble_eq_true rfl, Nat.le_refl 0, Nat.le_refl 0⟩ dX3_sendsHome_87 ?_
        refine r_put C hb14 (k := 0) rfl rfl (by unfold fp2; omega) fw_X3_79 fp_0_2 (Or.inr rfl) dX3_sendsHome_90 (fun H16 hb18 hq17 => ?_)
        have hb19 := blk_kept hb13 (n := 1) rfl (fun q h1 h2 => hq17 q (by omega))
        refine r_iconst C dX3_sendsHome_93 (0 : Int32) (by decide) ?_
        refine r_zret C dX3_sendsHome_94 (Or.inl rfl) ?_
        have er : res = ((0 : Int32), R_t, (pt R_c 0 2 (imax (1 : Int32) ((R_c 0 2) - (2 : Int32))))) := by rw [hres]; first | (simp only [d_X3_sendsHome, ← hu1, ← hu9, if_neg c7, if_neg c8, if_pos c15]; done) | contradiction
        rw [er]
        exact ⟨rfl, (Or.inl rfl), hb19, hb18⟩
      · skip
        refine r_aload_n C dX3_sendsHome_71 rfl ?_
        refine r_aload_n C dX3_sendsHome_72 rfl ?_
        refine r_iload_n C dX3_sendsHome_73 rfl ?_
        obtain ⟨u20, hu20⟩ : ∃ r, r = d_X0_burn R_c R_t i := ⟨_, rfl⟩
        refine r_callV0 C cw_X3_127 (fun l => c_X0_burn l D o_c o_t R_c R_t i (by omega) u20 hu20) (rest := []) hb14 (k := 0) rfl rfl celO_0 ⟨hb14, hb13⟩ (fun q h => by unfold fp2 at h; unfold fp2; omega) rfl rfl rfl (Nat.le_of_ble_eq_true rfl) ⟨Nat.le_of_ble_eq_true rfl, Nat.le_of_ble_eq_true rfl, Nat.le_refl 0, Nat.le_refl 0⟩ dX3_sendsHome_74 (fun v H21 hp22 hq23 => ?_)
        obtain ⟨rfl, hn24, hn25⟩ := hp22
        dsimp only [psh]
        refine r_iconst C dX3_sendsHome_77 (1 : Int32) (by decide) ?_
        refine r_zret C dX3_sendsHome_78 (Or.inr rfl) ?_
        have er : res = ((1 : Int32), u20.2, u20.1) := by rw [hres]; first | (simp only [d_X3_sendsHome, ← hu1, ← hu9, ← hu20, if_neg c7, if_neg c8, if_neg c15]; done) | contradiction
        rw [er]
        exact ⟨rfl, (Or.inr rfl), hn25, hn24⟩
    · skip
      refine r_aload_n C dX3_sendsHome_39 rfl ?_
      refine r_get C hb5 (k := 0) rfl rfl celO_5 fw_X3_58 (z := .int (R_t 0 3)) rfl dX3_sendsHome_40 ?_
      refine r_iload_n C dX3_sendsHome_43 rfl ?_
      refine r_iconst C dX3_sendsHome_44 (3 : Int32) (by decide) ?_
      refine r_idiv C dX3_sendsHome_45 (by decide) ?_
      refine r_ic_lt C dX3_sendsHome_46 (fun c26 => ?_) (fun c26 => ?_)
      · skip
        refine r_aload_n C dX3_sendsHome_60 rfl ?_
        refine r_get C hb6 (k := 0) rfl rfl celO_0 fw_X3_79 (z := .int (R_c 0 2)) rfl dX3_sendsHome_61 ?_
        refine r_aload_n C dX3_sendsHome_64 rfl ?_
        obtain ⟨u27, hu27⟩ : ∃ r, r = d_X5_menHeldOff R_t := ⟨_, rfl⟩
        refine r_callV0 C cw_X3_124 (fun l => c_X5_menHeldOff l D o_t R_t u27 hu27) (rest := [.int (R_c 0 2)]) hb5 (k := 0) rfl rfl celO_5 hb5 (fun q h => h.elim) rfl rfl rfl (Nat.le_of_ble_eq_true rfl) ⟨Nat.le_of_ble_eq_true rfl, Nat.le_of_ble_eq_true rfl, Nat.le_refl 0, Nat.le_refl 0⟩ dX3_sendsHome_65 (fun v H28 hp29 hq30 => ?_)
        subst hp29
        have hb31 := blk_kept hb5 (n := 1) rfl (fun q h1 h2 => hq30 q (fun h => h))
        have hb32 := blk_kept hb6 (n := 2) rfl (fun q h1 h2 => hq30 q (fun h => h))
        dsimp only [psh]
        refine r_ic_le C dX3_sendsHome_68 (fun c33 => ?_) (fun c33 => ?_)
        · skip
          refine r_aload_n C dX3_sendsHome_79 rfl ?_
          refine r_iconst C dX3_sendsHome_80 (1 : Int32) (by decide) ?_
          refine r_aload_n C dX3_sendsHome_81 rfl ?_
          refine r_get C hb32 (k := 0) rfl rfl celO_0 fw_X3_79 (z := .int (R_c 0 2)) rfl dX3_sendsHome_82 ?_
          refine r_iconst C dX3_sendsHome_85 (2 : Int32) (by decide) ?_
          refine r_isub C dX3_sendsHome_86 ?_
          refine r_mmax C mw_X3_131 rfl ⟨Nat.le_of_ble_eq_true rfl, Nat.le_of_ble_eq_true rfl, Nat.le_refl 0, Nat.le_refl 0⟩ dX3_sendsHome_87 ?_
          refine r_put C hb32 (k := 0) rfl rfl (by unfold fp2; omega) fw_X3_79 fp_0_2 (Or.inr rfl) dX3_sendsHome_90 (fun H34 hb36 hq35 => ?_)
          have hb37 := blk_kept hb31 (n := 1) rfl (fun q h1 h2 => hq35 q (by omega))
          refine r_iconst C dX3_sendsHome_93 (0 : Int32) (by decide) ?_
          refine r_zret C dX3_sendsHome_94 (Or.inl rfl) ?_
          have er : res = ((0 : Int32), R_t, (pt R_c 0 2 (imax (1 : Int32) ((R_c 0 2) - (2 : Int32))))) := by rw [hres]; first | (simp only [d_X3_sendsHome, ← hu1, ← hu27, if_neg c7, if_pos c8, if_pos c26, if_pos c33]; done) | contradiction
          rw [er]
          exact ⟨rfl, (Or.inl rfl), hb37, hb36⟩
        · skip
          refine r_aload_n C dX3_sendsHome_71 rfl ?_
          refine r_aload_n C dX3_sendsHome_72 rfl ?_
          refine r_iload_n C dX3_sendsHome_73 rfl ?_
          obtain ⟨u38, hu38⟩ : ∃ r, r = d_X0_burn R_c R_t i := ⟨_, rfl⟩
          refine r_callV0 C cw_X3_127 (fun l => c_X0_burn l D o_c o_t R_c R_t i (by omega) u38 hu38) (rest := []) hb32 (k := 0) rfl rfl celO_0 ⟨hb32, hb31⟩ (fun q h => by unfold fp2 at h; unfold fp2; omega) rfl rfl rfl (Nat.le_of_ble_eq_true rfl) ⟨Nat.le_of_ble_eq_true rfl, Nat.le_of_ble_eq_true rfl, Nat.le_refl 0, Nat.le_refl 0⟩ dX3_sendsHome_74 (fun v H39 hp40 hq41 => ?_)
          obtain ⟨rfl, hn42, hn43⟩ := hp40
          dsimp only [psh]
          refine r_iconst C dX3_sendsHome_77 (1 : Int32) (by decide) ?_
          refine r_zret C dX3_sendsHome_78 (Or.inr rfl) ?_
          have er : res = ((1 : Int32), u38.2, u38.1) := by rw [hres]; first | (simp only [d_X3_sendsHome, ← hu1, ← hu27, ← hu38, if_neg c7, if_pos c8, if_pos c26, if_neg c33]; done) | contradiction
          rw [er]
          exact ⟨rfl, (Or.inr rfl), hn43, hn42⟩
      · skip
        refine r_aload_n C dX3_sendsHome_49 rfl ?_
        refine r_aload_n C dX3_sendsHome_50 rfl ?_
        refine r_iload_n C dX3_sendsHome_51 rfl ?_
        refine r_iload_n C dX3_sendsHome_52 rfl ?_
        refine r_iconst C dX3_sendsHome_53 (3 : Int32) (by decide) ?_
        refine r_idiv C dX3_sendsHome_54 (by decide) ?_
        obtain ⟨u44, hu44⟩ : ∃ r, r = d_X0_takePay R_c R_t i (u1 / (3 : Int32)) := ⟨_, rfl⟩
        refine r_callV0 C cw_X3_120 (fun l => c_X0_takePay l D o_c o_t R_c R_t i (u1 / (3 : Int32)) (by omega) u44 hu44) (rest := []) hb6 (k := 0) rfl rfl celO_0 ⟨hb6, hb5⟩ (fun q h => by unfold fp2 at h; unfold fp2; omega) rfl rfl rfl (Nat.le_of_ble_eq_true rfl) ⟨Nat.le_of_ble_eq_true rfl, Nat.le_of_ble_eq_true rfl, Nat.le_refl 0, Nat.le_refl 0⟩ dX3_sendsHome_55 (fun v H45 hp46 hq47 => ?_)
        obtain ⟨rfl, hn48, hn49⟩ := hp46
        dsimp only [psh]
        refine r_iconst C dX3_sendsHome_58 (0 : Int32) (by decide) ?_
        refine r_zret C dX3_sendsHome_59 (Or.inl rfl) ?_
        have er : res = ((0 : Int32), u44.2, u44.1) := by rw [hres]; first | (simp only [d_X3_sendsHome, ← hu1, ← hu44, if_neg c7, if_pos c8, if_neg c26]; done) | contradiction
        rw [er]
        exact ⟨rfl, (Or.inl rfl), hn49, hn48⟩
  · skip
    refine r_aload_n C dX3_sendsHome_14 rfl ?_
    refine r_get C hb5 (k := 0) rfl rfl celO_5 fw_X3_58 (z := .int (R_t 0 3)) rfl dX3_sendsHome_15 ?_
    refine r_iload_n C dX3_sendsHome_18 rfl ?_
    refine r_ic_lt C dX3_sendsHome_19 (fun c50 => ?_) (fun c50 => ?_)
    · skip
      refine r_aload_n C dX3_sendsHome_31 rfl ?_
      refine r_get C hb5 (k := 0) rfl rfl celO_5 fw_X3_67 (z := .int (R_t 0 6)) rfl dX3_sendsHome_32 ?_
      refine r_iconst C dX3_sendsHome_35 (2 : Int32) (by decide) ?_
      refine r_ic_ne C dX3_sendsHome_36 (fun c51 => ?_) (fun c51 => ?_)
      · skip
        refine r_aload_n C dX3_sendsHome_60 rfl ?_
        refine r_get C hb6 (k := 0) rfl rfl celO_0 fw_X3_79 (z := .int (R_c 0 2)) rfl dX3_sendsHome_61 ?_
        refine r_aload_n C dX3_sendsHome_64 rfl ?_
        obtain ⟨u52, hu52⟩ : ∃ r, r = d_X5_menHeldOff R_t := ⟨_, rfl⟩
        refine r_callV0 C cw_X3_124 (fun l => c_X5_menHeldOff l D o_t R_t u52 hu52) (rest := [.int (R_c 0 2)]) hb5 (k := 0) rfl rfl celO_5 hb5 (fun q h => h.elim) rfl rfl rfl (Nat.le_of_ble_eq_true rfl) ⟨Nat.le_of_ble_eq_true rfl, Nat.le_of_ble_eq_true rfl, Nat.le_refl 0, Nat.le_refl 0⟩ dX3_sendsHome_65 (fun v H53 hp54 hq55 => ?_)
        subst hp54
        have hb56 := blk_kept hb5 (n := 1) rfl (fun q h1 h2 => hq55 q (fun h => h))
        have hb57 := blk_kept hb6 (n := 2) rfl (fun q h1 h2 => hq55 q (fun h => h))
        dsimp only [psh]
        refine r_ic_le C dX3_sendsHome_68 (fun c58 => ?_) (fun c58 => ?_)
        · skip
          refine r_aload_n C dX3_sendsHome_79 rfl ?_
          refine r_iconst C dX3_sendsHome_80 (1 : Int32) (by decide) ?_
          refine r_aload_n C dX3_sendsHome_81 rfl ?_
          refine r_get C hb57 (k := 0) rfl rfl celO_0 fw_X3_79 (z := .int (R_c 0 2)) rfl dX3_sendsHome_82 ?_
          refine r_iconst C dX3_sendsHome_85 (2 : Int32) (by decide) ?_
          refine r_isub C dX3_sendsHome_86 ?_
          refine r_mmax C mw_X3_131 rfl ⟨Nat.le_of_ble_eq_true rfl, Nat.le_of_ble_eq_true rfl, Nat.le_refl 0, Nat.le_refl 0⟩ dX3_sendsHome_87 ?_
          refine r_put C hb57 (k := 0) rfl rfl (by unfold fp2; omega) fw_X3_79 fp_0_2 (Or.inr rfl) dX3_sendsHome_90 (fun H59 hb61 hq60 => ?_)
          have hb62 := blk_kept hb56 (n := 1) rfl (fun q h1 h2 => hq60 q (by omega))
          refine r_iconst C dX3_sendsHome_93 (0 : Int32) (by decide) ?_
          refine r_zret C dX3_sendsHome_94 (Or.inl rfl) ?_
          have er : res = ((0 : Int32), R_t, (pt R_c 0 2 (imax (1 : Int32) ((R_c 0 2) - (2 : Int32))))) := by rw [hres]; first | (simp only [d_X3_sendsHome, ← hu1, ← hu52, if_pos c7, if_pos c50, if_neg c51, if_pos c58]; done) | contradiction
          rw [er]
          exact ⟨rfl, (Or.inl rfl), hb62, hb61⟩
        · skip
          refine r_aload_n C dX3_sendsHome_71 rfl ?_
          refine r_aload_n C dX3_sendsHome_72 rfl ?_
          refine r_iload_n C dX3_sendsHome_73 rfl ?_
          obtain ⟨u63, hu63⟩ : ∃ r, r = d_X0_burn R_c R_t i := ⟨_, rfl⟩
          refine r_callV0 C cw_X3_127 (fun l => c_X0_burn l D o_c o_t R_c R_t i (by omega) u63 hu63) (rest := []) hb57 (k := 0) rfl rfl celO_0 ⟨hb57, hb56⟩ (fun q h => by unfold fp2 at h; unfold fp2; omega) rfl rfl rfl (Nat.le_of_ble_eq_true rfl) ⟨Nat.le_of_ble_eq_true rfl, Nat.le_of_ble_eq_true rfl, Nat.le_refl 0, Nat.le_refl 0⟩ dX3_sendsHome_74 (fun v H64 hp65 hq66 => ?_)
          obtain ⟨rfl, hn67, hn68⟩ := hp65
          dsimp only [psh]
          refine r_iconst C dX3_sendsHome_77 (1 : Int32) (by decide) ?_
          refine r_zret C dX3_sendsHome_78 (Or.inr rfl) ?_
          have er : res = ((1 : Int32), u63.2, u63.1) := by rw [hres]; first | (simp only [d_X3_sendsHome, ← hu1, ← hu52, ← hu63, if_pos c7, if_pos c50, if_neg c51, if_neg c58]; done) | contradiction
          rw [er]
          exact ⟨rfl, (Or.inr rfl), hn68, hn67⟩
      · skip
        refine r_aload_n C dX3_sendsHome_39 rfl ?_
        refine r_get C hb5 (k := 0) rfl rfl celO_5 fw_X3_58 (z := .int (R_t 0 3)) rfl dX3_sendsHome_40 ?_
        refine r_iload_n C dX3_sendsHome_43 rfl ?_
        refine r_iconst C dX3_sendsHome_44 (3 : Int32) (by decide) ?_
        refine r_idiv C dX3_sendsHome_45 (by decide) ?_
        refine r_ic_lt C dX3_sendsHome_46 (fun c69 => ?_) (fun c69 => ?_)
        · skip
          refine r_aload_n C dX3_sendsHome_60 rfl ?_
          refine r_get C hb6 (k := 0) rfl rfl celO_0 fw_X3_79 (z := .int (R_c 0 2)) rfl dX3_sendsHome_61 ?_
          refine r_aload_n C dX3_sendsHome_64 rfl ?_
          obtain ⟨u70, hu70⟩ : ∃ r, r = d_X5_menHeldOff R_t := ⟨_, rfl⟩
          refine r_callV0 C cw_X3_124 (fun l => c_X5_menHeldOff l D o_t R_t u70 hu70) (rest := [.int (R_c 0 2)]) hb5 (k := 0) rfl rfl celO_5 hb5 (fun q h => h.elim) rfl rfl rfl (Nat.le_of_ble_eq_true rfl) ⟨Nat.le_of_ble_eq_true rfl, Nat.le_of_ble_eq_true rfl, Nat.le_refl 0, Nat.le_refl 0⟩ dX3_sendsHome_65 (fun v H71 hp72 hq73 => ?_)
          subst hp72
          have hb74 := blk_kept hb5 (n := 1) rfl (fun q h1 h2 => hq73 q (fun h => h))
          have hb75 := blk_kept hb6 (n := 2) rfl (fun q h1 h2 => hq73 q (fun h => h))
          dsimp only [psh]
          refine r_ic_le C dX3_sendsHome_68 (fun c76 => ?_) (fun c76 => ?_)
          · skip
            refine r_aload_n C dX3_sendsHome_79 rfl ?_
            refine r_iconst C dX3_sendsHome_80 (1 : Int32) (by decide) ?_
            refine r_aload_n C dX3_sendsHome_81 rfl ?_
            refine r_get C hb75 (k := 0) rfl rfl celO_0 fw_X3_79 (z := .int (R_c 0 2)) rfl dX3_sendsHome_82 ?_
            refine r_iconst C dX3_sendsHome_85 (2 : Int32) (by decide) ?_
            refine r_isub C dX3_sendsHome_86 ?_
            refine r_mmax C mw_X3_131 rfl ⟨Nat.le_of_ble_eq_true rfl, Nat.le_of_ble_eq_true rfl, Nat.le_refl 0, Nat.le_refl 0⟩ dX3_sendsHome_87 ?_
            refine r_put C hb75 (k := 0) rfl rfl (by unfold fp2; omega) fw_X3_79 fp_0_2 (Or.inr rfl) dX3_sendsHome_90 (fun H77 hb79 hq78 => ?_)
            have hb80 := blk_kept hb74 (n := 1) rfl (fun q h1 h2 => hq78 q (by omega))
            refine r_iconst C dX3_sendsHome_93 (0 : Int32) (by decide) ?_
            refine r_zret C dX3_sendsHome_94 (Or.inl rfl) ?_
            have er : res = ((0 : Int32), R_t, (pt R_c 0 2 (imax (1 : Int32) ((R_c 0 2) - (2 : Int32))))) := by rw [hres]; first | (simp only [d_X3_sendsHome, ← hu1, ← hu70, if_pos c7, if_pos c50, if_pos c51, if_pos c69, if_pos c76]; done) | contradiction
            rw [er]
            exact ⟨rfl, (Or.inl rfl), hb80, hb79⟩
          · skip
            refine r_aload_n C dX3_sendsHome_71 rfl ?_
            refine r_aload_n C dX3_sendsHome_72 rfl ?_
            refine r_iload_n C dX3_sendsHome_73 rfl ?_
            obtain ⟨u81, hu81⟩ : ∃ r, r = d_X0_burn R_c R_t i := ⟨_, rfl⟩
            refine r_callV0 C cw_X3_127 (fun l => c_X0_burn l D o_c o_t R_c R_t i (by omega) u81 hu81) (rest := []) hb75 (k := 0) rfl rfl celO_0 ⟨hb75, hb74⟩ (fun q h => by unfold fp2 at h; unfold fp2; omega) rfl rfl rfl (Nat.le_of_ble_eq_true rfl) ⟨Nat.le_of_ble_eq_true rfl, Nat.le_of_ble_eq_true rfl, Nat.le_refl 0, Nat.le_refl 0⟩ dX3_sendsHome_74 (fun v H82 hp83 hq84 => ?_)
            obtain ⟨rfl, hn85, hn86⟩ := hp83
            dsimp only [psh]
            refine r_iconst C dX3_sendsHome_77 (1 : Int32) (by decide) ?_
            refine r_zret C dX3_sendsHome_78 (Or.inr rfl) ?_
            have er : res = ((1 : Int32), u81.2, u81.1) := by rw [hres]; first | (simp only [d_X3_sendsHome, ← hu1, ← hu70, ← hu81, if_pos c7, if_pos c50, if_pos c51, if_pos c69, if_neg c76]; done) | contradiction
            rw [er]
            exact ⟨rfl, (Or.inr rfl), hn86, hn85⟩
        · skip
          refine r_aload_n C dX3_sendsHome_49 rfl ?_
          refine r_aload_n C dX3_sendsHome_50 rfl ?_
          refine r_iload_n C dX3_sendsHome_51 rfl ?_
          refine r_iload_n C dX3_sendsHome_52 rfl ?_
          refine r_iconst C dX3_sendsHome_53 (3 : Int32) (by decide) ?_
          refine r_idiv C dX3_sendsHome_54 (by decide) ?_
          obtain ⟨u87, hu87⟩ : ∃ r, r = d_X0_takePay R_c R_t i (u1 / (3 : Int32)) := ⟨_, rfl⟩
          refine r_callV0 C cw_X3_120 (fun l => c_X0_takePay l D o_c o_t R_c R_t i (u1 / (3 : Int32)) (by omega) u87 hu87) (rest := []) hb6 (k := 0) rfl rfl celO_0 ⟨hb6, hb5⟩ (fun q h => by unfold fp2 at h; unfold fp2; omega) rfl rfl rfl (Nat.le_of_ble_eq_true rfl) ⟨Nat.le_of_ble_eq_true rfl, Nat.le_of_ble_eq_true rfl, Nat.le_refl 0, Nat.le_refl 0⟩ dX3_sendsHome_55 (fun v H88 hp89 hq90 => ?_)
          obtain ⟨rfl, hn91, hn92⟩ := hp89
          dsimp only [psh]
          refine r_iconst C dX3_sendsHome_58 (0 : Int32) (by decide) ?_
          refine r_zret C dX3_sendsHome_59 (Or.inl rfl) ?_
          have er : res = ((0 : Int32), u87.2, u87.1) := by rw [hres]; first | (simp only [d_X3_sendsHome, ← hu1, ← hu87, if_pos c7, if_pos c50, if_pos c51, if_neg c69]; done) | contradiction
          rw [er]
          exact ⟨rfl, (Or.inl rfl), hn92, hn91⟩
    · skip
      refine r_aload_n C dX3_sendsHome_22 rfl ?_
      refine r_aload_n C dX3_sendsHome_23 rfl ?_
      refine r_iload_n C dX3_sendsHome_24 rfl ?_
      refine r_iload_n C dX3_sendsHome_25 rfl ?_
      obtain ⟨u93, hu93⟩ : ∃ r, r = d_X0_takePay R_c R_t i u1 := ⟨_, rfl⟩
      refine r_callV0 C cw_X3_120 (fun l => c_X0_takePay l D o_c o_t R_c R_t i u1 (by omega) u93 hu93) (rest := []) hb6 (k := 0) rfl rfl celO_0 ⟨hb6, hb5⟩ (fun q h => by unfold fp2 at h; unfold fp2; omega) rfl rfl rfl (Nat.le_of_ble_eq_true rfl) ⟨Nat.le_of_ble_eq_true rfl, Nat.le_of_ble_eq_true rfl, Nat.le_refl 0, Nat.le_refl 0⟩ dX3_sendsHome_26 (fun v H94 hp95 hq96 => ?_)
      obtain ⟨rfl, hn97, hn98⟩ := hp95
      dsimp only [psh]
      refine r_iconst C dX3_sendsHome_29 (1 : Int32) (by decide) ?_
      refine r_zret C dX3_sendsHome_30 (Or.inr rfl) ?_
      have er : res = ((1 : Int32), u93.2, u93.1) := by rw [hres]; first | (simp only [d_X3_sendsHome, ← hu1, ← hu93, if_pos c7, if_neg c50]; done) | contradiction
      rw [er]
      exact ⟨rfl, (Or.inr rfl), hn98, hn97⟩
theorem X3_townAt_some {R : Nat → Nat → Int32} {t : Int32} {k : Nat} (h : d_X3_townAt R t = some k) : k < 6 ∧ t = nI k ∧ ¬ R (3 + k) 0 = 0 := by
  unfold d_X3_townAt at h
  split at h
  · cases h
  · rename_i h1
    split at h
    · cases h
    · rename_i h2
      have hn := nn_of (x_lo1 h1)
      have hlt := lt_of_in (vp_in_lh (N := 6) (x_lo1 h1) (x_hi1 h2 (by decide)) (by decide))
      split at h
      · cases h
      · rename_i h3
        cases h
        exact ⟨hlt, hn, h3⟩
theorem X3_townAt_lt {R : Nat → Nat → Int32} {t : Int32} {k : Nat} (h : d_X3_townAt R t = some k) : k < 6 := (X3_townAt_some h).1
theorem X3_crewAt_some {R : Nat → Nat → Int32} {t : Int32} {k : Nat} (h : d_X3_crewAt R t = some k) : k < 3 ∧ t = nI k ∧ ¬ R (9 + 2 * k) 0 = 0 := by
  unfold d_X3_crewAt at h
  split at h
  · cases h
  · rename_i h1
    split at h
    · cases h
    · rename_i h2
      have hn := nn_of (x_lo1 h1)
      have hlt := lt_of_in (vp_in_lh (N := 3) (x_lo1 h1) (x_hi1 h2 (by decide)) (by decide))
      split at h
      · cases h
      · rename_i h3
        cases h
        exact ⟨hlt, hn, h3⟩
theorem X3_crewAt_lt {R : Nat → Nat → Int32} {t : Int32} {k : Nat} (h : d_X3_crewAt R t = some k) : k < 3 := (X3_crewAt_some h).1
theorem X3_townsThere_L {R : Nat → Nat → Int32} : ∀ n m i : Nat, m ≤ i → i ≤ 6 → d_X3_townsThere_L4 R n m i ≤ 6 := by
  intro n
  induction n with
  | zero => intro m i h1 h2; simp only [d_X3_townsThere_L4]; omega
  | succ n ih =>
    intro m i h1 h2
    simp only [d_X3_townsThere_L4]
    split
    · omega
    · rename_i c
      have f : ¬ 6 ≤ i := nf_leIn (by omega) (by omega) rfl rfl c
      split <;> exact ih _ _ (by omega) (by omega)
theorem X3_townsThere_nat {R : Nat → Nat → Int32} {u : Int32} (h : u = d_X3_townsThere R) : u = nI u.toNatClampNeg ∧ u.toNatClampNeg ≤ 6 := by
  subst h
  have h := X3_townsThere_L (R := R) 7 0 0 (by omega) (by omega)
  simp only [d_X3_townsThere]
  rw [nI_clamp (by omega)]
  exact ⟨rfl, h⟩
theorem X3_crewsThere_L {R : Nat → Nat → Int32} : ∀ n m i : Nat, m ≤ i → i ≤ 3 → d_X3_crewsThere_L4 R n m i ≤ 3 := by
  intro n
  induction n with
  | zero => intro m i h1 h2; simp only [d_X3_crewsThere_L4]; omega
  | succ n ih =>
    intro m i h1 h2
    simp only [d_X3_crewsThere_L4]
    split
    · omega
    · rename_i c
      have f : ¬ 3 ≤ i := nf_leIn (by omega) (by omega) rfl rfl c
      split <;> exact ih _ _ (by omega) (by omega)
theorem X3_crewsThere_nat {R : Nat → Nat → Int32} {u : Int32} (h : u = d_X3_crewsThere R) : u = nI u.toNatClampNeg ∧ u.toNatClampNeg ≤ 3 := by
  subst h
  have h := X3_crewsThere_L (R := R) 4 0 0 (by omega) (by omega)
  simp only [d_X3_crewsThere]
  rw [nI_clamp (by omega)]
  exact ⟨rfl, h⟩
end
section
def d_X3_standsAt (R_r : Nat → Nat → Int32) (t : Int32) : Int32 :=
  match d_X3_townAt R_r t with
  | none =>
    (0 : Int32)
  | some k6 =>
    if (R_r (3 + k6) 1) = 0 then
      (1 : Int32)
    else
      (0 : Int32)
set_option maxHeartbeats 4000000 in
set_option maxRecDepth 100000 in
theorem c_X3_standsAt (l : Launch) (D : DD) (o_r : Nat) (R_r : Nat → Nat → Int32) (t : Int32)  (res : Int32) (hres : res = d_X3_standsAt R_r t) : Mt l D yX3_standsAt cX3_standsAt 3 (some .boolean) 1 21 0 0 [.ref o_r, .int t] (fun H => blk D ksRiver o_r R_r H) (fun v H => v = some (.int res) ∧ bl res) fp0 := by
  refine mt_of (own := RX3) (ls := [.val (.ref o_r), .val (.int t), .unset]) rfl (by decide +kernel) rfl ?_
  intro x H C hP
  have hb_r := hP
  refine r_aload_n C dX3_standsAt_0 rfl ?_
  refine r_iload_n C dX3_standsAt_1 rfl ?_
  obtain ⟨u1, hu1⟩ : ∃ r, r = d_X3_townAt R_r t := ⟨_, rfl⟩
  refine r_callV0 C cw_X3_44 (fun l => c_X3_townAt l D o_r R_r t u1 hu1) (rest := []) hb_r (k := 0) rfl rfl celO_3 hb_r (fun q h => h.elim) rfl rfl rfl (Nat.le_of_ble_eq_true rfl) ⟨Nat.le_of_ble_eq_true rfl, Nat.le_of_ble_eq_true rfl, Nat.le_refl 0, Nat.le_refl 0⟩ dX3_standsAt_2 (fun v H2 hp3 hq4 => ?_)
  subst hp3
  have hb5 := blk_kept hb_r (n := 15) rfl (fun q h1 h2 => hq4 q (fun h => h))
  obtain ho7 | ⟨k6, ho7⟩ := opt_or u1
  · have hu1' : d_X3_townAt R_r t = none := by rw [← hu1, ho7]
    rw [ho7]; dsimp only [psh, optT, optC]
    refine r_astore_nN C dX3_standsAt_5 (ls' := [.val (.ref o_r), .val (.int t), .val (.null)]) rfl trivial rfl ?_
    refine r_aload_nN C dX3_standsAt_6 rfl ?_
    refine r_ifnullN C dX3_standsAt_7 ?_
    refine r_iconst C dX3_standsAt_21 (0 : Int32) (by decide) ?_
    refine r_zret C dX3_standsAt_22 (Or.inl rfl) ?_
    have er : res = (0 : Int32) := by rw [hres]; first | (simp only [d_X3_standsAt, hu1']; done) | contradiction
    rw [er]
    exact ⟨rfl, (Or.inl rfl)⟩
  · have hu1' : d_X3_townAt R_r t = some k6 := by rw [← hu1, ho7]
    rw [ho7]; dsimp only [psh, optT, optC]
    have fk8 := X3_townAt_lt hu1'
    refine r_astore_n C dX3_standsAt_5 (ls' := [.val (.ref o_r), .val (.int t), .val (.ref (o_r + 3 + k6))]) rfl trivial rfl ?_
    refine r_aload_n C dX3_standsAt_6 rfl ?_
    refine r_ifnull C dX3_standsAt_7 ?_
    refine r_aload_n C dX3_standsAt_10 rfl ?_
    refine r_get C hb5 (k := (3 + k6)) (kRiver_3_1 _ fk8) (by omega) celO_5 fw_X3_48 (z := .int (R_r (3 + k6) 1)) rfl dX3_standsAt_11 ?_
    refine r_if_ne C dX3_standsAt_14 (fun c9 => ?_) (fun c9 => ?_)
    · skip
      refine r_iconst C dX3_standsAt_21 (0 : Int32) (by decide) ?_
      refine r_zret C dX3_standsAt_22 (Or.inl rfl) ?_
      have er : res = (0 : Int32) := by rw [hres]; first | (simp only [d_X3_standsAt, hu1', if_neg c9]; done) | contradiction
      rw [er]
      exact ⟨rfl, (Or.inl rfl)⟩
    · skip
      refine r_iconst C dX3_standsAt_17 (1 : Int32) (by decide) ?_
      refine r_goto C dX3_standsAt_18 ?_
      refine r_zret C dX3_standsAt_22 (Or.inr rfl) ?_
      have er : res = (1 : Int32) := by rw [hres]; first | (simp only [d_X3_standsAt, hu1', if_pos c9]; done) | contradiction
      rw [er]
      exact ⟨rfl, (Or.inr rfl)⟩

def d_X3_clear_L2  : Nat → (Nat → Nat → Int32) → Nat → (Nat → Nat → Int32)
  | 0, R, _ => R
  | n1 + 1, R, i =>
    if (nI 6) ≤ (nI i) then
      R
    else
      d_X3_clear_L2  n1 (pt R (3 + i) 0 (0 : Int32)) (i + 1)
def d_X3_clear_L29  : Nat → (Nat → Nat → Int32) → Nat → (Nat → Nat → Int32)
  | 0, R, _ => R
  | n21 + 1, R, i =>
    if (nI 3) ≤ (nI i) then
      R
    else
      d_X3_clear_L29  n21 (pt R (9 + 2 * i) 0 (0 : Int32)) (i + 1)
def d_X3_clear (R_r : Nat → Nat → Int32) : (Nat → Nat → Int32) :=
  let s17 := d_X3_clear_L2 7 R_r 0
  let s37 := d_X3_clear_L29 4 s17 0
  (pt (pt s37 0 2 (10 : Int32)) 0 3 (0 : Int32))
set_option maxHeartbeats 4000000 in
set_option maxRecDepth 100000 in
theorem c_X3_clear (l : Launch) (D : DD) (o_r : Nat) (R_r : Nat → Nat → Int32)  (res : (Nat → Nat → Int32)) (hres : res = d_X3_clear R_r) : Mt l D yX3_clear cX3_clear 2 none 0 0 0 0 [.ref o_r] (fun H => blk D ksRiver o_r R_r H) (fun v H => v = none ∧ blk D ksRiver o_r res H) (fp1 o_r 15) := by
  refine mt_of (own := RX3) (ls := [.val (.ref o_r), .unset]) rfl (by decide +kernel) rfl ?_
  intro x H C hP
  have hb_r := hP
  refine r_iconst C dX3_clear_0 (0 : Int32) (by decide) ?_
  refine r_istore_n C dX3_clear_1 (ls' := [.val (.ref o_r), .val (.int (0 : Int32))]) rfl trivial rfl ?_
  have d_X3_clear_L2_w : ∀ (n1 : Nat) (R : Nat → Nat → Int32) (i : Nat) (H6 : Heap), True → (i ≤ 6) → (6 - i < n1) → blk D ksRiver o_r R H6 → ∀ s3 : (Nat → Nat → Int32), s3 = d_X3_clear_L2  n1 R i → (∀ (H' : Heap) (z7 : Slot) (_ : slot1 z7), True → blk D ksRiver o_r s3 H' → WG x (fp1 o_r 15) (Fin x (fun v H => v = none ∧ blk D ksRiver o_r res H) (fp1 o_r 15) 0 0) H' 0 0 27 [.val (.ref o_r), z7] []) → WG x (fp1 o_r 15) (Fin x (fun v H => v = none ∧ blk D ksRiver o_r res H) (fp1 o_r 15) 0 0) H6 0 0 2 [.val (.ref o_r), .val (.int (nI i))] [] := by
    intro n1
    induction n1 with
    | zero => intro R i H6  _ hi hm8; exact absurd hm8 (Nat.not_lt_zero _)
    | succ n1 ih2 =>
      intro R i H6  _ hi hm8 hb5 s3 hs3  kx4
      refine r_iload_n C dX3_clear_2 rfl ?_
      refine r_aload_n C dX3_clear_3 rfl ?_
      refine r_get C hb5 (k := 0) rfl rfl celO_3 fw_X3_11 rfl dX3_clear_4 ?_
      refine r_alen C hb5 (k := 1) rfl rfl 6 (Or.inr (Or.inr (Or.inl ⟨rfl, rfl⟩))) dX3_clear_7 ?_
      refine r_ic_ge C dX3_clear_8 (fun c9 => ?_) (fun c9 => ?_)
      · skip
        have f10 : (6 ≤ i) := nf_leI (by omega) (by omega) rfl rfl c9
        have e11 : s3 = R := by rw [hs3]; first | (simp only [d_X3_clear_L2, if_pos c9]; done) | contradiction
        rw [e11] at kx4
        exact kx4 _ (.val (.int (nI i))) rfl trivial  hb5
      · skip
        have f12 : ¬ (6 ≤ i) := nf_leIn (by omega) (by omega) rfl rfl c9
        refine r_aload_n C dX3_clear_11 rfl ?_
        refine r_get C hb5 (k := 0) rfl rfl celO_3 fw_X3_11 rfl dX3_clear_12 ?_
        refine r_iload_n C dX3_clear_15 rfl ?_
        refine r_aaldT C hb5 (k := 1) rfl rfl (vp_in_n rfl (by omega) (by decide)) (j := i) (cl_n rfl (by omega)) dX3_clear_16 ?_
        refine r_iconst C dX3_clear_17 (0 : Int32) (by decide) ?_
        refine r_put C hb5 (k := (3 + i)) (kRiver_3_1 _ (by omega)) (by omega) (by unfold fp1; omega) fw_X3_39 fp_5_0 (Or.inl ⟨rfl, Or.inl rfl⟩) dX3_clear_18 (fun H13 hb15 hq14 => ?_)
        refine r_iinc C dX3_clear_21 (nI (i + 1)) rfl (nI_inc i rfl) (ls' := [.val (.ref o_r), .val (.int (nI (i + 1)))]) rfl ?_
        refine r_goto C dX3_clear_24 ?_
        have e16 : s3 = d_X3_clear_L2  n1 (pt R (3 + i) 0 (0 : Int32)) (i + 1) := by rw [hs3]; first | (simp only [d_X3_clear_L2, if_neg c9]; done) | contradiction
        exact ih2 (pt R (3 + i) 0 (0 : Int32)) (i + 1) _  trivial (by omega) (by omega) hb15 s3 e16  kx4
  obtain ⟨s17, hs17⟩ : ∃ r, r = d_X3_clear_L2 7 R_r 0 := ⟨_, rfl⟩
  refine d_X3_clear_L2_w 7 R_r 0 _  trivial (by omega) (by omega) hb_r s17 hs17  (fun H19 z7 hz7 e20  hb18 => ?_)
  refine r_iconst C dX3_clear_27 (0 : Int32) (by decide) ?_
  refine r_istore_n C dX3_clear_28 (ls' := [.val (.ref o_r), .val (.int (0 : Int32))]) rfl hz7 rfl ?_
  have d_X3_clear_L29_w : ∀ (n21 : Nat) (R : Nat → Nat → Int32) (i : Nat) (H26 : Heap), True → (i ≤ 3) → (3 - i < n21) → blk D ksRiver o_r R H26 → ∀ s23 : (Nat → Nat → Int32), s23 = d_X3_clear_L29  n21 R i → (∀ (H' : Heap) (z27 : Slot) (_ : slot1 z27), True → blk D ksRiver o_r s23 H' → WG x (fp1 o_r 15) (Fin x (fun v H => v = none ∧ blk D ksRiver o_r res H) (fp1 o_r 15) 0 0) H' 0 0 54 [.val (.ref o_r), z27] []) → WG x (fp1 o_r 15) (Fin x (fun v H => v = none ∧ blk D ksRiver o_r res H) (fp1 o_r 15) 0 0) H26 0 0 29 [.val (.ref o_r), .val (.int (nI i))] [] := by
    intro n21
    induction n21 with
    | zero => intro R i H26  _ hi hm28; exact absurd hm28 (Nat.not_lt_zero _)
    | succ n21 ih22 =>
      intro R i H26  _ hi hm28 hb25 s23 hs23  kx24
      refine r_iload_n C dX3_clear_29 rfl ?_
      refine r_aload_n C dX3_clear_30 rfl ?_
      refine r_get C hb25 (k := 0) rfl rfl celO_3 fw_X3_19 rfl dX3_clear_31 ?_
      refine r_alen C hb25 (k := 2) rfl rfl 3 (Or.inr (Or.inr (Or.inr (Or.inl ⟨rfl, rfl⟩)))) dX3_clear_34 ?_
      refine r_ic_ge C dX3_clear_35 (fun c29 => ?_) (fun c29 => ?_)
      · skip
        have f30 : (3 ≤ i) := nf_leI (by omega) (by omega) rfl rfl c29
        have e31 : s23 = R := by rw [hs23]; first | (simp only [d_X3_clear_L29, if_pos c29]; done) | contradiction
        rw [e31] at kx24
        exact kx24 _ (.val (.int (nI i))) rfl trivial  hb25
      · skip
        have f32 : ¬ (3 ≤ i) := nf_leIn (by omega) (by omega) rfl rfl c29
        refine r_aload_n C dX3_clear_38 rfl ?_
        refine r_get C hb25 (k := 0) rfl rfl celO_3 fw_X3_19 rfl dX3_clear_39 ?_
        refine r_iload_n C dX3_clear_42 rfl ?_
        refine r_aaldC C hb25 (k := 2) rfl rfl (vp_in_n rfl (by omega) (by decide)) (j := i) (cl_n rfl (by omega)) dX3_clear_43 ?_
        refine r_iconst C dX3_clear_44 (0 : Int32) (by decide) ?_
        refine r_put C hb25 (k := (9 + 2 * i)) (kRiver_9_2 _ (by omega)) (by omega) (by unfold fp1; omega) fw_X3_43 fp_0_0 (Or.inl ⟨rfl, Or.inl rfl⟩) dX3_clear_45 (fun H33 hb35 hq34 => ?_)
        refine r_iinc C dX3_clear_48 (nI (i + 1)) rfl (nI_inc i rfl) (ls' := [.val (.ref o_r), .val (.int (nI (i + 1)))]) rfl ?_
        refine r_goto C dX3_clear_51 ?_
        have e36 : s23 = d_X3_clear_L29  n21 (pt R (9 + 2 * i) 0 (0 : Int32)) (i + 1) := by rw [hs23]; first | (simp only [d_X3_clear_L29, if_neg c29]; done) | contradiction
        exact ih22 (pt R (9 + 2 * i) 0 (0 : Int32)) (i + 1) _  trivial (by omega) (by omega) hb35 s23 e36  kx24
  obtain ⟨s37, hs37⟩ : ∃ r, r = d_X3_clear_L29 4 s17 0 := ⟨_, rfl⟩
  refine d_X3_clear_L29_w 4 s17 0 _  trivial (by omega) (by omega) hb18 s37 hs37  (fun H39 z27 hz27 e40  hb38 => ?_)
  refine r_aload_n C dX3_clear_54 rfl ?_
  refine r_bipush C dX3_clear_55 (10 : Int32) (by decide) ?_
  refine r_put C hb38 (k := 0) rfl rfl (by unfold fp1; omega) fw_X3_32 fp_3_2 (Or.inr rfl) dX3_clear_57 (fun H41 hb43 hq42 => ?_)
  refine r_aload_n C dX3_clear_60 rfl ?_
  refine r_iconst C dX3_clear_61 (0 : Int32) (by decide) ?_
  refine r_put C hb43 (k := 0) rfl rfl (by unfold fp1; omega) fw_X3_36 fp_3_3 (Or.inr rfl) dX3_clear_62 (fun H44 hb46 hq45 => ?_)
  refine r_vret C dX3_clear_65 ?_
  have er : res = (pt (pt s37 0 2 (10 : Int32)) 0 3 (0 : Int32)) := by rw [hres]; first | (simp only [d_X3_clear, ← hs17, ← hs37]; done) | contradiction
  rw [er]
  exact ⟨rfl, hb46⟩

def d_X3_copy_L2 (R_f : Nat → Nat → Int32) : Nat → (Nat → Nat → Int32) → Nat → (Nat → Nat → Int32)
  | 0, R, _ => R
  | n1 + 1, R, i =>
    if (nI 6) ≤ (nI i) then
      R
    else
      if (nI 6) ≤ (nI i) then
        R
      else
        let u18 := d_X5_copy (shf R (3 + i)) (shf R_f (3 + i))
        d_X3_copy_L2 R_f n1 (spl R (3 + i) 1 u18) (i + 1)
def d_X3_copy_L43 (R_f : Nat → Nat → Int32) : Nat → (Nat → Nat → Int32) → Nat → (Nat → Nat → Int32)
  | 0, R, _ => R
  | n31 + 1, R, i =>
    if (nI 3) ≤ (nI i) then
      R
    else
      if (nI 3) ≤ (nI i) then
        R
      else
        let u48 := d_X0_copy (shf R (9 + 2 * i)) (shf R_f (9 + 2 * i))
        d_X3_copy_L43 R_f n31 (spl R (9 + 2 * i) 2 u48) (i + 1)
def d_X3_copy (R_r : Nat → Nat → Int32) (R_f : Nat → Nat → Int32) : (Nat → Nat → Int32) :=
  let s26 := d_X3_copy_L2 R_f 7 R_r 0
  let s56 := d_X3_copy_L43 R_f 4 s26 0
  (pt (pt s56 0 2 (R_f 0 2)) 0 3 (R_f 0 3))
set_option maxHeartbeats 4000000 in
set_option maxRecDepth 100000 in
theorem c_X3_copy (l : Launch) (D : DD) (o_r o_f : Nat) (R_r : Nat → Nat → Int32) (R_f : Nat → Nat → Int32) (hd : o_r + 15 ≤ o_f ∨ o_f + 15 ≤ o_r) (res : (Nat → Nat → Int32)) (hres : res = d_X3_copy R_r R_f) : Mt l D yX3_copy cX3_copy 3 none 2 43 0 0 [.ref o_r, .ref o_f] (fun H => blk D ksRiver o_r R_r H ∧ blk D ksRiver o_f R_f H) (fun v H => v = none ∧ blk D ksRiver o_r res H) (fp1 o_r 15) := by
  refine mt_of (own := RX3) (ls := [.val (.ref o_r), .val (.ref o_f), .unset]) rfl (by decide +kernel) rfl ?_
  intro x H C hP
  obtain ⟨hb_r, hb_f⟩ := hP
  refine r_iconst C dX3_copy_0 (0 : Int32) (by decide) ?_
  refine r_istore_n C dX3_copy_1 (ls' := [.val (.ref o_r), .val (.ref o_f), .val (.int (0 : Int32))]) rfl trivial rfl ?_
  have d_X3_copy_L2_w : ∀ (n1 : Nat) (R : Nat → Nat → Int32) (i : Nat) (H7 : Heap), True → (i ≤ 6) → (6 - i < n1) → blk D ksRiver o_r R H7 → blk D ksRiver o_f R_f H7 → ∀ s3 : (Nat → Nat → Int32), s3 = d_X3_copy_L2 R_f n1 R i → (∀ (H' : Heap) (z8 : Slot) (_ : slot1 z8), True → blk D ksRiver o_r s3 H' → blk D ksRiver o_f R_f H' → WG x (fp1 o_r 15) (Fin x (fun v H => v = none ∧ blk D ksRiver o_r res H) (fp1 o_r 15) 0 0) H' 0 0 41 [.val (.ref o_r), .val (.ref o_f), z8] []) → WG x (fp1 o_r 15) (Fin x (fun v H => v = none ∧ blk D ksRiver o_r res H) (fp1 o_r 15) 0 0) H7 0 0 2 [.val (.ref o_r), .val (.ref o_f), .val (.int (nI i))] [] := by
    intro n1
    induction n1 with
    | zero => intro R i H7  _ hi hm9; exact absurd hm9 (Nat.not_lt_zero _)
    | succ n1 ih2 =>
      intro R i H7  _ hi hm9 hb5 hb6 s3 hs3  kx4
      refine r_iload_n C dX3_copy_2 rfl ?_
      refine r_aload_n C dX3_copy_3 rfl ?_
      refine r_get C hb5 (k := 0) rfl rfl celO_3 fw_X3_11 rfl dX3_copy_4 ?_
      refine r_alen C hb5 (k := 1) rfl rfl 6 (Or.inr (Or.inr (Or.inl ⟨rfl, rfl⟩))) dX3_copy_7 ?_
      refine r_ic_ge C dX3_copy_8 (fun c10 => ?_) (fun c10 => ?_)
      · skip
        have f11 : (6 ≤ i) := nf_leI (by omega) (by omega) rfl rfl c10
        have e12 : s3 = R := by rw [hs3]; first | (simp only [d_X3_copy_L2, if_pos c10]; done) | contradiction
        rw [e12] at kx4
        exact kx4 _ (.val (.int (nI i))) rfl trivial  hb5 hb6
      · skip
        have f13 : ¬ (6 ≤ i) := nf_leIn (by omega) (by omega) rfl rfl c10
        refine r_iload_n C dX3_copy_11 rfl ?_
        refine r_aload_n C dX3_copy_12 rfl ?_
        refine r_get C hb6 (k := 0) rfl rfl celO_3 fw_X3_11 rfl dX3_copy_13 ?_
        refine r_alen C hb6 (k := 1) rfl rfl 6 (Or.inr (Or.inr (Or.inl ⟨rfl, rfl⟩))) dX3_copy_16 ?_
        refine r_ic_ge C dX3_copy_17 (fun c14 => ?_) (fun c14 => ?_)
        · skip
          have f15 : (6 ≤ i) := nf_leI (by omega) (by omega) rfl rfl c14
          have e16 : s3 = R := by rw [hs3]; first | (simp only [d_X3_copy_L2, if_neg c10, if_pos c14]; done) | contradiction
          rw [e16] at kx4
          exact kx4 _ (.val (.int (nI i))) rfl trivial  hb5 hb6
        · skip
          have f17 : ¬ (6 ≤ i) := nf_leIn (by omega) (by omega) rfl rfl c14
          refine r_aload_n C dX3_copy_20 rfl ?_
          refine r_get C hb5 (k := 0) rfl rfl celO_3 fw_X3_11 rfl dX3_copy_21 ?_
          refine r_iload_n C dX3_copy_24 rfl ?_
          refine r_aaldT C hb5 (k := 1) rfl rfl (vp_in_n rfl (by omega) (by decide)) (j := i) (cl_n rfl (by omega)) dX3_copy_25 ?_
          refine r_aload_n C dX3_copy_26 rfl ?_
          refine r_get C hb6 (k := 0) rfl rfl celO_3 fw_X3_11 rfl dX3_copy_27 ?_
          refine r_iload_n C dX3_copy_30 rfl ?_
          refine r_aaldT C hb6 (k := 1) rfl rfl (vp_in_n rfl (by omega) (by decide)) (j := i) (cl_n rfl (by omega)) dX3_copy_31 ?_
          obtain ⟨u18, hu18⟩ : ∃ r, r = d_X5_copy (shf R (3 + i)) (shf R_f (3 + i)) := ⟨_, rfl⟩
          refine r_callV0 C cw_X3_25 (fun l => c_X5_copy l D ((o_r + 1) + 2 + i) ((o_f + 1) + 2 + i) (shf R (3 + i)) (shf R_f (3 + i)) (by omega) u18 hu18) (rest := []) hb5 (k := (3 + i)) (kRiver_3_1 _ (by omega)) (by omega) celO_5 ⟨(blk_sub hb5 (3 + i) 1 (sRiver_3_1_1 _ (by omega)) (by omega)), (blk_sub hb6 (3 + i) 1 (sRiver_3_1_1 _ (by omega)) (by omega))⟩ (fun q h => by unfold fp1 at h; unfold fp1; omega) rfl rfl rfl (Nat.le_of_ble_eq_true rfl) ⟨Nat.le_of_ble_eq_true rfl, Nat.le_of_ble_eq_true rfl, Nat.le_refl 0, Nat.le_refl 0⟩ dX3_copy_32 (fun v H19 hp20 hq21 => ?_)
          obtain ⟨rfl, hn22⟩ := hp20
          have hb23 := blk_spl hb5 (3 + i) 1 (sRiver_3_1_1 _ (by omega)) (by omega) hn22 (fun q h => hq21 q (by unfold fp1; omega))
          have hb24 := blk_kept hb6 (n := 15) rfl (fun q h1 h2 => hq21 q (by unfold fp1; omega))
          dsimp only [psh]
          refine r_iinc C dX3_copy_35 (nI (i + 1)) rfl (nI_inc i rfl) (ls' := [.val (.ref o_r), .val (.ref o_f), .val (.int (nI (i + 1)))]) rfl ?_
          refine r_goto C dX3_copy_38 ?_
          have e25 : s3 = d_X3_copy_L2 R_f n1 (spl R (3 + i) 1 u18) (i + 1) := by rw [hs3]; first | (simp only [d_X3_copy_L2, ← hu18, if_neg c10, if_neg c14]; done) | contradiction
          exact ih2 (spl R (3 + i) 1 u18) (i + 1) _  trivial (by omega) (by omega) hb23 hb24 s3 e25  kx4
  obtain ⟨s26, hs26⟩ : ∃ r, r = d_X3_copy_L2 R_f 7 R_r 0 := ⟨_, rfl⟩
  refine d_X3_copy_L2_w 7 R_r 0 _  trivial (by omega) (by omega) hb_r hb_f s26 hs26  (fun H29 z8 hz8 e30  hb27 hb28 => ?_)
  refine r_iconst C dX3_copy_41 (0 : Int32) (by decide) ?_
  refine r_istore_n C dX3_copy_42 (ls' := [.val (.ref o_r), .val (.ref o_f), .val (.int (0 : Int32))]) rfl hz8 rfl ?_
  have d_X3_copy_L43_w : ∀ (n31 : Nat) (R : Nat → Nat → Int32) (i : Nat) (H37 : Heap), True → (i ≤ 3) → (3 - i < n31) → blk D ksRiver o_r R H37 → blk D ksRiver o_f R_f H37 → ∀ s33 : (Nat → Nat → Int32), s33 = d_X3_copy_L43 R_f n31 R i → (∀ (H' : Heap) (z38 : Slot) (_ : slot1 z38), True → blk D ksRiver o_r s33 H' → blk D ksRiver o_f R_f H' → WG x (fp1 o_r 15) (Fin x (fun v H => v = none ∧ blk D ksRiver o_r res H) (fp1 o_r 15) 0 0) H' 0 0 82 [.val (.ref o_r), .val (.ref o_f), z38] []) → WG x (fp1 o_r 15) (Fin x (fun v H => v = none ∧ blk D ksRiver o_r res H) (fp1 o_r 15) 0 0) H37 0 0 43 [.val (.ref o_r), .val (.ref o_f), .val (.int (nI i))] [] := by
    intro n31
    induction n31 with
    | zero => intro R i H37  _ hi hm39; exact absurd hm39 (Nat.not_lt_zero _)
    | succ n31 ih32 =>
      intro R i H37  _ hi hm39 hb35 hb36 s33 hs33  kx34
      refine r_iload_n C dX3_copy_43 rfl ?_
      refine r_aload_n C dX3_copy_44 rfl ?_
      refine r_get C hb35 (k := 0) rfl rfl celO_3 fw_X3_19 rfl dX3_copy_45 ?_
      refine r_alen C hb35 (k := 2) rfl rfl 3 (Or.inr (Or.inr (Or.inr (Or.inl ⟨rfl, rfl⟩)))) dX3_copy_48 ?_
      refine r_ic_ge C dX3_copy_49 (fun c40 => ?_) (fun c40 => ?_)
      · skip
        have f41 : (3 ≤ i) := nf_leI (by omega) (by omega) rfl rfl c40
        have e42 : s33 = R := by rw [hs33]; first | (simp only [d_X3_copy_L43, if_pos c40]; done) | contradiction
        rw [e42] at kx34
        exact kx34 _ (.val (.int (nI i))) rfl trivial  hb35 hb36
      · skip
        have f43 : ¬ (3 ≤ i) := nf_leIn (by omega) (by omega) rfl rfl c40
        refine r_iload_n C dX3_copy_52 rfl ?_
        refine r_aload_n C dX3_copy_53 rfl ?_
        refine r_get C hb36 (k := 0) rfl rfl celO_3 fw_X3_19 rfl dX3_copy_54 ?_
        refine r_alen C hb36 (k := 2) rfl rfl 3 (Or.inr (Or.inr (Or.inr (Or.inl ⟨rfl, rfl⟩)))) dX3_copy_57 ?_
        refine r_ic_ge C dX3_copy_58 (fun c44 => ?_) (fun c44 => ?_)
        · skip
          have f45 : (3 ≤ i) := nf_leI (by omega) (by omega) rfl rfl c44
          have e46 : s33 = R := by rw [hs33]; first | (simp only [d_X3_copy_L43, if_neg c40, if_pos c44]; done) | contradiction
          rw [e46] at kx34
          exact kx34 _ (.val (.int (nI i))) rfl trivial  hb35 hb36
        · skip
          have f47 : ¬ (3 ≤ i) := nf_leIn (by omega) (by omega) rfl rfl c44
          refine r_aload_n C dX3_copy_61 rfl ?_
          refine r_get C hb35 (k := 0) rfl rfl celO_3 fw_X3_19 rfl dX3_copy_62 ?_
          refine r_iload_n C dX3_copy_65 rfl ?_
          refine r_aaldC C hb35 (k := 2) rfl rfl (vp_in_n rfl (by omega) (by decide)) (j := i) (cl_n rfl (by omega)) dX3_copy_66 ?_
          refine r_aload_n C dX3_copy_67 rfl ?_
          refine r_get C hb36 (k := 0) rfl rfl celO_3 fw_X3_19 rfl dX3_copy_68 ?_
          refine r_iload_n C dX3_copy_71 rfl ?_
          refine r_aaldC C hb36 (k := 2) rfl rfl (vp_in_n rfl (by omega) (by decide)) (j := i) (cl_n rfl (by omega)) dX3_copy_72 ?_
          obtain ⟨u48, hu48⟩ : ∃ r, r = d_X0_copy (shf R (9 + 2 * i)) (shf R_f (9 + 2 * i)) := ⟨_, rfl⟩
          refine r_callV0 C cw_X3_29 (fun l => c_X0_copy l D ((o_r + 2) + 7 + 2 * i) ((o_f + 2) + 7 + 2 * i) (shf R (9 + 2 * i)) (shf R_f (9 + 2 * i)) (by omega) u48 hu48) (rest := []) hb35 (k := (9 + 2 * i)) (kRiver_9_2 _ (by omega)) (by omega) celO_0 ⟨(blk_sub hb35 (9 + 2 * i) 2 (sRiver_9_2_2 _ (by omega)) (by omega)), (blk_sub hb36 (9 + 2 * i) 2 (sRiver_9_2_2 _ (by omega)) (by omega))⟩ (fun q h => by unfold fp1 at h; unfold fp1; omega) rfl rfl rfl (Nat.le_of_ble_eq_true rfl) ⟨Nat.le_of_ble_eq_true rfl, Nat.le_of_ble_eq_true rfl, Nat.le_refl 0, Nat.le_refl 0⟩ dX3_copy_73 (fun v H49 hp50 hq51 => ?_)
          obtain ⟨rfl, hn52⟩ := hp50
          have hb53 := blk_spl hb35 (9 + 2 * i) 2 (sRiver_9_2_2 _ (by omega)) (by omega) hn52 (fun q h => hq51 q (by unfold fp1; omega))
          have hb54 := blk_kept hb36 (n := 15) rfl (fun q h1 h2 => hq51 q (by unfold fp1; omega))
          dsimp only [psh]
          refine r_iinc C dX3_copy_76 (nI (i + 1)) rfl (nI_inc i rfl) (ls' := [.val (.ref o_r), .val (.ref o_f), .val (.int (nI (i + 1)))]) rfl ?_
          refine r_goto C dX3_copy_79 ?_
          have e55 : s33 = d_X3_copy_L43 R_f n31 (spl R (9 + 2 * i) 2 u48) (i + 1) := by rw [hs33]; first | (simp only [d_X3_copy_L43, ← hu48, if_neg c40, if_neg c44]; done) | contradiction
          exact ih32 (spl R (9 + 2 * i) 2 u48) (i + 1) _  trivial (by omega) (by omega) hb53 hb54 s33 e55  kx34
  obtain ⟨s56, hs56⟩ : ∃ r, r = d_X3_copy_L43 R_f 4 s26 0 := ⟨_, rfl⟩
  refine d_X3_copy_L43_w 4 s26 0 _  trivial (by omega) (by omega) hb27 hb28 s56 hs56  (fun H59 z38 hz38 e60  hb57 hb58 => ?_)
  refine r_aload_n C dX3_copy_82 rfl ?_
  refine r_aload_n C dX3_copy_83 rfl ?_
  refine r_get C hb58 (k := 0) rfl rfl celO_3 fw_X3_32 (z := .int (R_f 0 2)) rfl dX3_copy_84 ?_
  refine r_put C hb57 (k := 0) rfl rfl (by unfold fp1; omega) fw_X3_32 fp_3_2 (Or.inr rfl) dX3_copy_87 (fun H61 hb63 hq62 => ?_)
  have hb64 := blk_kept hb58 (n := 15) rfl (fun q h1 h2 => hq62 q (by omega))
  refine r_aload_n C dX3_copy_90 rfl ?_
  refine r_aload_n C dX3_copy_91 rfl ?_
  refine r_get C hb64 (k := 0) rfl rfl celO_3 fw_X3_36 (z := .int (R_f 0 3)) rfl dX3_copy_92 ?_
  refine r_put C hb63 (k := 0) rfl rfl (by unfold fp1; omega) fw_X3_36 fp_3_3 (Or.inr rfl) dX3_copy_95 (fun H65 hb67 hq66 => ?_)
  have hb68 := blk_kept hb64 (n := 15) rfl (fun q h1 h2 => hq66 q (by omega))
  refine r_vret C dX3_copy_98 ?_
  have er : res = (pt (pt s56 0 2 (R_f 0 2)) 0 3 (R_f 0 3)) := by rw [hres]; first | (simp only [d_X3_copy, ← hs26, ← hs56]; done) | contradiction
  rw [er]
  exact ⟨rfl, hb67⟩

def d_X3_settle (R_r : Nat → Nat → Int32) (kind : Int32) (silver : Int32) (income : Int32) (walls : Int32) : Int32 × (Nat → Nat → Int32) :=
  let u1 := d_X3_townsThere R_r
  if (3 : Int32) < kind then
    ((0 : Int32), R_r)
  else
    if (30 : Int32) < income then
      ((0 : Int32), R_r)
    else
      if (9 : Int32) < walls then
        ((0 : Int32), R_r)
      else
        if u1 < (nI 6) then
          ((1 : Int32), (pt (pt (pt (pt (pt (pt (pt (pt R_r (3 + u1.toNatClampNeg) 0 (1 : Int32)) (3 + u1.toNatClampNeg) 1 (0 : Int32)) (3 + u1.toNatClampNeg) 2 kind) (3 + u1.toNatClampNeg) 3 silver) (3 + u1.toNatClampNeg) 4 income) (3 + u1.toNatClampNeg) 5 walls) (3 + u1.toNatClampNeg) 6 (0 : Int32)) (3 + u1.toNatClampNeg) 7 (0 : Int32)))
        else
          ((0 : Int32), R_r)
set_option maxHeartbeats 4000000 in
set_option maxRecDepth 100000 in
theorem c_X3_settle (l : Launch) (D : DD) (o_r : Nat) (R_r : Nat → Nat → Int32) (kind : Int32) (silver : Int32) (income : Int32) (walls : Int32)  (res : Int32 × (Nat → Nat → Int32)) (hres : res = d_X3_settle R_r kind silver income walls) : Mt l D yX3_settle cX3_settle 7 (some .boolean) 1 22 0 0 [.ref o_r, .int kind, .int silver, .int income, .int walls] (fun H => blk D ksRiver o_r R_r H) (fun v H => v = some (.int res.1) ∧ bl res.1 ∧ blk D ksRiver o_r res.2 H) (fp1 o_r 15) := by
  refine mt_of (own := RX3) (ls := [.val (.ref o_r), .val (.int kind), .val (.int silver), .val (.int income), .val (.int walls), .unset, .unset]) rfl (by decide +kernel) rfl ?_
  intro x H C hP
  have hb_r := hP
  refine r_aload_n C dX3_settle_0 rfl ?_
  obtain ⟨u1, hu1⟩ : ∃ r, r = d_X3_townsThere R_r := ⟨_, rfl⟩
  refine r_callV0 C cw_X3_51 (fun l => c_X3_townsThere l D o_r R_r u1 hu1) (rest := []) hb_r (k := 0) rfl rfl celO_3 hb_r (fun q h => h.elim) rfl rfl rfl (Nat.le_of_ble_eq_true rfl) ⟨Nat.le_of_ble_eq_true rfl, Nat.le_of_ble_eq_true rfl, Nat.le_refl 0, Nat.le_refl 0⟩ dX3_settle_1 (fun v H2 hp3 hq4 => ?_)
  subst hp3
  obtain ⟨hn5, hn6⟩ := X3_townsThere_nat hu1
  have hb7 := blk_kept hb_r (n := 15) rfl (fun q h1 h2 => hq4 q (fun h => h))
  dsimp only [psh]
  refine r_istore C dX3_settle_4 (ls' := [.val (.ref o_r), .val (.int kind), .val (.int silver), .val (.int income), .val (.int walls), .val (.int u1), .unset]) rfl trivial rfl ?_
  refine r_iload_n C dX3_settle_6 rfl ?_
  refine r_iconst C dX3_settle_7 (3 : Int32) (by decide) ?_
  refine r_ic_gt C dX3_settle_8 (fun c8 => ?_) (fun c8 => ?_)
  · skip
    refine r_iconst C dX3_settle_34 (0 : Int32) (by decide) ?_
    refine r_zret C dX3_settle_35 (Or.inl rfl) ?_
    have er : res = ((0 : Int32), R_r) := by rw [hres]; first | (simp only [d_X3_settle, ← hu1, if_pos c8]; done) | contradiction
    rw [er]
    exact ⟨rfl, (Or.inl rfl), hb7⟩
  · skip
    refine r_iload_n C dX3_settle_11 rfl ?_
    refine r_bipush C dX3_settle_12 (30 : Int32) (by decide) ?_
    refine r_ic_gt C dX3_settle_14 (fun c9 => ?_) (fun c9 => ?_)
    · skip
      refine r_iconst C dX3_settle_34 (0 : Int32) (by decide) ?_
      refine r_zret C dX3_settle_35 (Or.inl rfl) ?_
      have er : res = ((0 : Int32), R_r) := by rw [hres]; first | (simp only [d_X3_settle, ← hu1, if_neg c8, if_pos c9]; done) | contradiction
      rw [er]
      exact ⟨rfl, (Or.inl rfl), hb7⟩
    · skip
      refine r_iload C dX3_settle_17 rfl ?_
      refine r_bipush C dX3_settle_19 (9 : Int32) (by decide) ?_
      refine r_ic_gt C dX3_settle_21 (fun c10 => ?_) (fun c10 => ?_)
      · skip
        refine r_iconst C dX3_settle_34 (0 : Int32) (by decide) ?_
        refine r_zret C dX3_settle_35 (Or.inl rfl) ?_
        have er : res = ((0 : Int32), R_r) := by rw [hres]; first | (simp only [d_X3_settle, ← hu1, if_neg c8, if_neg c9, if_pos c10]; done) | contradiction
        rw [er]
        exact ⟨rfl, (Or.inl rfl), hb7⟩
      · skip
        refine r_iload C dX3_settle_24 rfl ?_
        refine r_aload_n C dX3_settle_26 rfl ?_
        refine r_get C hb7 (k := 0) rfl rfl celO_3 fw_X3_11 rfl dX3_settle_27 ?_
        refine r_alen C hb7 (k := 1) rfl rfl 6 (Or.inr (Or.inr (Or.inl ⟨rfl, rfl⟩))) dX3_settle_30 ?_
        refine r_ic_lt C dX3_settle_31 (fun c11 => ?_) (fun c11 => ?_)
        · skip
          have f12 : (u1.toNatClampNeg < 6) := nf_ltI (by omega) (by omega) hn5 rfl c11
          refine r_aload_n C dX3_settle_36 rfl ?_
          refine r_get C hb7 (k := 0) rfl rfl celO_3 fw_X3_11 rfl dX3_settle_37 ?_
          refine r_iload C dX3_settle_40 rfl ?_
          refine r_aaldT C hb7 (k := 1) rfl rfl (vp_in_n hn5 (by omega) (by decide)) (j := u1.toNatClampNeg) (cl_n hn5 (by omega)) dX3_settle_42 ?_
          refine r_astore C dX3_settle_43 (ls' := [.val (.ref o_r), .val (.int kind), .val (.int silver), .val (.int income), .val (.int walls), .val (.int u1), .val (.ref ((o_r + 1) + 2 + u1.toNatClampNeg))]) rfl trivial rfl ?_
          refine r_aload C dX3_settle_45 rfl ?_
          refine r_iconst C dX3_settle_47 (1 : Int32) (by decide) ?_
          refine r_put C hb7 (k := (3 + u1.toNatClampNeg)) (kRiver_3_1 _ (by omega)) (by omega) (by unfold fp1; omega) fw_X3_39 fp_5_0 (Or.inl ⟨rfl, Or.inr rfl⟩) dX3_settle_48 (fun H13 hb15 hq14 => ?_)
          refine r_aload C dX3_settle_51 rfl ?_
          refine r_iconst C dX3_settle_53 (0 : Int32) (by decide) ?_
          refine r_put C hb15 (k := (3 + u1.toNatClampNeg)) (kRiver_3_1 _ (by omega)) (by omega) (by unfold fp1; omega) fw_X3_48 fp_5_1 (Or.inl ⟨rfl, Or.inl rfl⟩) dX3_settle_54 (fun H16 hb18 hq17 => ?_)
          refine r_aload C dX3_settle_57 rfl ?_
          refine r_iload_n C dX3_settle_59 rfl ?_
          refine r_put C hb18 (k := (3 + u1.toNatClampNeg)) (kRiver_3_1 _ (by omega)) (by omega) (by unfold fp1; omega) fw_X3_55 fp_5_2 (Or.inr rfl) dX3_settle_60 (fun H19 hb21 hq20 => ?_)
          refine r_aload C dX3_settle_63 rfl ?_
          refine r_iload_n C dX3_settle_65 rfl ?_
          refine r_put C hb21 (k := (3 + u1.toNatClampNeg)) (kRiver_3_1 _ (by omega)) (by omega) (by unfold fp1; omega) fw_X3_58 fp_5_3 (Or.inr rfl) dX3_settle_66 (fun H22 hb24 hq23 => ?_)
          refine r_aload C dX3_settle_69 rfl ?_
          refine r_iload_n C dX3_settle_71 rfl ?_
          refine r_put C hb24 (k := (3 + u1.toNatClampNeg)) (kRiver_3_1 _ (by omega)) (by omega) (by unfold fp1; omega) fw_X3_61 fp_5_4 (Or.inr rfl) dX3_settle_72 (fun H25 hb27 hq26 => ?_)
          refine r_aload C dX3_settle_75 rfl ?_
          refine r_iload C dX3_settle_77 rfl ?_
          refine r_put C hb27 (k := (3 + u1.toNatClampNeg)) (kRiver_3_1 _ (by omega)) (by omega) (by unfold fp1; omega) fw_X3_64 fp_5_5 (Or.inr rfl) dX3_settle_79 (fun H28 hb30 hq29 => ?_)
          refine r_aload C dX3_settle_82 rfl ?_
          refine r_iconst C dX3_settle_84 (0 : Int32) (by decide) ?_
          refine r_put C hb30 (k := (3 + u1.toNatClampNeg)) (kRiver_3_1 _ (by omega)) (by omega) (by unfold fp1; omega) fw_X3_67 fp_5_6 (Or.inr rfl) dX3_settle_85 (fun H31 hb33 hq32 => ?_)
          refine r_aload C dX3_settle_88 rfl ?_
          refine r_iconst C dX3_settle_90 (0 : Int32) (by decide) ?_
          refine r_put C hb33 (k := (3 + u1.toNatClampNeg)) (kRiver_3_1 _ (by omega)) (by omega) (by unfold fp1; omega) fw_X3_70 fp_5_7 (Or.inr rfl) dX3_settle_91 (fun H34 hb36 hq35 => ?_)
          refine r_iconst C dX3_settle_94 (1 : Int32) (by decide) ?_
          refine r_zret C dX3_settle_95 (Or.inr rfl) ?_
          have er : res = ((1 : Int32), (pt (pt (pt (pt (pt (pt (pt (pt R_r (3 + u1.toNatClampNeg) 0 (1 : Int32)) (3 + u1.toNatClampNeg) 1 (0 : Int32)) (3 + u1.toNatClampNeg) 2 kind) (3 + u1.toNatClampNeg) 3 silver) (3 + u1.toNatClampNeg) 4 income) (3 + u1.toNatClampNeg) 5 walls) (3 + u1.toNatClampNeg) 6 (0 : Int32)) (3 + u1.toNatClampNeg) 7 (0 : Int32))) := by rw [hres]; first | (simp only [d_X3_settle, ← hu1, if_neg c8, if_neg c9, if_neg c10, if_pos c11]; done) | contradiction
          rw [er]
          exact ⟨rfl, (Or.inr rfl), hb36⟩
        · skip
          have f37 : ¬ (u1.toNatClampNeg < 6) := nf_ltIn (by omega) (by omega) hn5 rfl c11
          refine r_iconst C dX3_settle_34 (0 : Int32) (by decide) ?_
          refine r_zret C dX3_settle_35 (Or.inl rfl) ?_
          have er : res = ((0 : Int32), R_r) := by rw [hres]; first | (simp only [d_X3_settle, ← hu1, if_neg c8, if_neg c9, if_neg c10, if_neg c11]; done) | contradiction
          rw [er]
          exact ⟨rfl, (Or.inl rfl), hb7⟩

def d_X3_man_L73 (u1 : Int32) : Nat → (Nat → Nat → Int32) → Nat → (Nat → Nat → Int32)
  | 0, R, _ => R
  | n26 + 1, R, i =>
    if (6 : Int32) ≤ (nI i) then
      R
    else
      let u38 := d_X0_believe (shf R (9 + 2 * u1.toNatClampNeg)) (nI i) (0 : Int32)
      d_X3_man_L73 u1 n26 (spl R (9 + 2 * u1.toNatClampNeg) 2 u38) (i + 1)
def d_X3_man (R_r : Nat → Nat → Int32) (men : Int32) (hunger : Int32) : Int32 × (Nat → Nat → Int32) :=
  let u1 := d_X3_crewsThere R_r
  if men < (1 : Int32) then
    ((0 : Int32), R_r)
  else
    if (60 : Int32) < men then
      ((0 : Int32), R_r)
    else
      if hunger < (1 : Int32) then
        ((0 : Int32), R_r)
      else
        if (60 : Int32) < hunger then
          ((0 : Int32), R_r)
        else
          if u1 < (nI 3) then
            let s45 := d_X3_man_L73 u1 7 (pt (pt (pt (pt R_r (9 + 2 * u1.toNatClampNeg) 0 (1 : Int32)) (9 + 2 * u1.toNatClampNeg) 1 (0 : Int32)) (9 + 2 * u1.toNatClampNeg) 2 men) (9 + 2 * u1.toNatClampNeg) 3 hunger) 0
            ((1 : Int32), s45)
          else
            ((0 : Int32), R_r)
set_option maxHeartbeats 4000000 in
set_option maxRecDepth 100000 in
theorem c_X3_man (l : Launch) (D : DD) (o_r : Nat) (R_r : Nat → Nat → Int32) (men : Int32) (hunger : Int32)  (res : Int32 × (Nat → Nat → Int32)) (hres : res = d_X3_man R_r men hunger) : Mt l D yX3_man cX3_man 6 (some .boolean) 1 22 0 0 [.ref o_r, .int men, .int hunger] (fun H => blk D ksRiver o_r R_r H) (fun v H => v = some (.int res.1) ∧ bl res.1 ∧ blk D ksRiver o_r res.2 H) (fp1 o_r 15) := by
  refine mt_of (own := RX3) (ls := [.val (.ref o_r), .val (.int men), .val (.int hunger), .unset, .unset, .unset]) rfl (by decide +kernel) rfl ?_
  intro x H C hP
  have hb_r := hP
  refine r_aload_n C dX3_man_0 rfl ?_
  obtain ⟨u1, hu1⟩ : ∃ r, r = d_X3_crewsThere R_r := ⟨_, rfl⟩
  refine r_callV0 C cw_X3_73 (fun l => c_X3_crewsThere l D o_r R_r u1 hu1) (rest := []) hb_r (k := 0) rfl rfl celO_3 hb_r (fun q h => h.elim) rfl rfl rfl (Nat.le_of_ble_eq_true rfl) ⟨Nat.le_of_ble_eq_true rfl, Nat.le_of_ble_eq_true rfl, Nat.le_refl 0, Nat.le_refl 0⟩ dX3_man_1 (fun v H2 hp3 hq4 => ?_)
  subst hp3
  obtain ⟨hn5, hn6⟩ := X3_crewsThere_nat hu1
  have hb7 := blk_kept hb_r (n := 15) rfl (fun q h1 h2 => hq4 q (fun h => h))
  dsimp only [psh]
  refine r_istore_n C dX3_man_4 (ls' := [.val (.ref o_r), .val (.int men), .val (.int hunger), .val (.int u1), .unset, .unset]) rfl trivial rfl ?_
  refine r_iload_n C dX3_man_5 rfl ?_
  refine r_iconst C dX3_man_6 (1 : Int32) (by decide) ?_
  refine r_ic_lt C dX3_man_7 (fun c8 => ?_) (fun c8 => ?_)
  · skip
    refine r_iconst C dX3_man_36 (0 : Int32) (by decide) ?_
    refine r_zret C dX3_man_37 (Or.inl rfl) ?_
    have er : res = ((0 : Int32), R_r) := by rw [hres]; first | (simp only [d_X3_man, ← hu1, if_pos c8]; done) | contradiction
    rw [er]
    exact ⟨rfl, (Or.inl rfl), hb7⟩
  · skip
    refine r_iload_n C dX3_man_10 rfl ?_
    refine r_bipush C dX3_man_11 (60 : Int32) (by decide) ?_
    refine r_ic_gt C dX3_man_13 (fun c9 => ?_) (fun c9 => ?_)
    · skip
      refine r_iconst C dX3_man_36 (0 : Int32) (by decide) ?_
      refine r_zret C dX3_man_37 (Or.inl rfl) ?_
      have er : res = ((0 : Int32), R_r) := by rw [hres]; first | (simp only [d_X3_man, ← hu1, if_neg c8, if_pos c9]; done) | contradiction
      rw [er]
      exact ⟨rfl, (Or.inl rfl), hb7⟩
    · skip
      refine r_iload_n C dX3_man_16 rfl ?_
      refine r_iconst C dX3_man_17 (1 : Int32) (by decide) ?_
      refine r_ic_lt C dX3_man_18 (fun c10 => ?_) (fun c10 => ?_)
      · skip
        refine r_iconst C dX3_man_36 (0 : Int32) (by decide) ?_
        refine r_zret C dX3_man_37 (Or.inl rfl) ?_
        have er : res = ((0 : Int32), R_r) := by rw [hres]; first | (simp only [d_X3_man, ← hu1, if_neg c8, if_neg c9, if_pos c10]; done) | contradiction
        rw [er]
        exact ⟨rfl, (Or.inl rfl), hb7⟩
      · skip
        refine r_iload_n C dX3_man_21 rfl ?_
        refine r_bipush C dX3_man_22 (60 : Int32) (by decide) ?_
        refine r_ic_gt C dX3_man_24 (fun c11 => ?_) (fun c11 => ?_)
        · skip
          refine r_iconst C dX3_man_36 (0 : Int32) (by decide) ?_
          refine r_zret C dX3_man_37 (Or.inl rfl) ?_
          have er : res = ((0 : Int32), R_r) := by rw [hres]; first | (simp only [d_X3_man, ← hu1, if_neg c8, if_neg c9, if_neg c10, if_pos c11]; done) | contradiction
          rw [er]
          exact ⟨rfl, (Or.inl rfl), hb7⟩
        · skip
          refine r_iload_n C dX3_man_27 rfl ?_
          refine r_aload_n C dX3_man_28 rfl ?_
          refine r_get C hb7 (k := 0) rfl rfl celO_3 fw_X3_19 rfl dX3_man_29 ?_
          refine r_alen C hb7 (k := 2) rfl rfl 3 (Or.inr (Or.inr (Or.inr (Or.inl ⟨rfl, rfl⟩)))) dX3_man_32 ?_
          refine r_ic_lt C dX3_man_33 (fun c12 => ?_) (fun c12 => ?_)
          · skip
            have f13 : (u1.toNatClampNeg < 3) := nf_ltI (by omega) (by omega) hn5 rfl c12
            refine r_aload_n C dX3_man_38 rfl ?_
            refine r_get C hb7 (k := 0) rfl rfl celO_3 fw_X3_19 rfl dX3_man_39 ?_
            refine r_iload_n C dX3_man_42 rfl ?_
            refine r_aaldC C hb7 (k := 2) rfl rfl (vp_in_n hn5 (by omega) (by decide)) (j := u1.toNatClampNeg) (cl_n hn5 (by omega)) dX3_man_43 ?_
            refine r_astore C dX3_man_44 (ls' := [.val (.ref o_r), .val (.int men), .val (.int hunger), .val (.int u1), .val (.ref ((o_r + 2) + 7 + 2 * u1.toNatClampNeg)), .unset]) rfl trivial rfl ?_
            refine r_aload C dX3_man_46 rfl ?_
            refine r_iconst C dX3_man_48 (1 : Int32) (by decide) ?_
            refine r_put C hb7 (k := (9 + 2 * u1.toNatClampNeg)) (kRiver_9_2 _ (by omega)) (by omega) (by unfold fp1; omega) fw_X3_43 fp_0_0 (Or.inl ⟨rfl, Or.inr rfl⟩) dX3_man_49 (fun H14 hb16 hq15 => ?_)
            refine r_aload C dX3_man_52 rfl ?_
            refine r_iconst C dX3_man_54 (0 : Int32) (by decide) ?_
            refine r_put C hb16 (k := (9 + 2 * u1.toNatClampNeg)) (kRiver_9_2 _ (by omega)) (by omega) (by unfold fp1; omega) fw_X3_76 fp_0_1 (Or.inl ⟨rfl, Or.inl rfl⟩) dX3_man_55 (fun H17 hb19 hq18 => ?_)
            refine r_aload C dX3_man_58 rfl ?_
            refine r_iload_n C dX3_man_60 rfl ?_
            refine r_put C hb19 (k := (9 + 2 * u1.toNatClampNeg)) (kRiver_9_2 _ (by omega)) (by omega) (by unfold fp1; omega) fw_X3_79 fp_0_2 (Or.inr rfl) dX3_man_61 (fun H20 hb22 hq21 => ?_)
            refine r_aload C dX3_man_64 rfl ?_
            refine r_iload_n C dX3_man_66 rfl ?_
            refine r_put C hb22 (k := (9 + 2 * u1.toNatClampNeg)) (kRiver_9_2 _ (by omega)) (by omega) (by unfold fp1; omega) fw_X3_82 fp_0_3 (Or.inr rfl) dX3_man_67 (fun H23 hb25 hq24 => ?_)
            refine r_iconst C dX3_man_70 (0 : Int32) (by decide) ?_
            refine r_istore C dX3_man_71 (ls' := [.val (.ref o_r), .val (.int men), .val (.int hunger), .val (.int u1), .val (.ref ((o_r + 2) + 7 + 2 * u1.toNatClampNeg)), .val (.int (0 : Int32))]) rfl trivial rfl ?_
            have d_X3_man_L73_w : ∀ (n26 : Nat) (R : Nat → Nat → Int32) (i : Nat) (H31 : Heap), True → (i ≤ 6) → (6 - i < n26) → blk D ksRiver o_r R H31 → ∀ s28 : (Nat → Nat → Int32), s28 = d_X3_man_L73 u1 n26 R i → (∀ (H' : Heap) (z32 : Slot) (_ : slot1 z32), True → blk D ksRiver o_r s28 H' → WG x (fp1 o_r 15) (Fin x (fun v H => v = some (.int res.1) ∧ bl res.1 ∧ blk D ksRiver o_r res.2 H) (fp1 o_r 15) 0 0) H' 0 0 94 [.val (.ref o_r), .val (.int men), .val (.int hunger), .val (.int u1), .val (.ref ((o_r + 2) + 7 + 2 * u1.toNatClampNeg)), z32] []) → WG x (fp1 o_r 15) (Fin x (fun v H => v = some (.int res.1) ∧ bl res.1 ∧ blk D ksRiver o_r res.2 H) (fp1 o_r 15) 0 0) H31 0 0 73 [.val (.ref o_r), .val (.int men), .val (.int hunger), .val (.int u1), .val (.ref ((o_r + 2) + 7 + 2 * u1.toNatClampNeg)), .val (.int (nI i))] [] := by
              intro n26
              induction n26 with
              | zero => intro R i H31  _ hi hm33; exact absurd hm33 (Nat.not_lt_zero _)
              | succ n26 ih27 =>
                intro R i H31  _ hi hm33 hb30 s28 hs28  kx29
                refine r_iload C dX3_man_73 rfl ?_
                refine r_bipush C dX3_man_75 (6 : Int32) (by decide) ?_
                refine r_ic_ge C dX3_man_77 (fun c34 => ?_) (fun c34 => ?_)
                · skip
                  have f35 : (6 ≤ i) := nf_leI (by omega) (by omega) rfl rfl c34
                  have e36 : s28 = R := by rw [hs28]; first | (simp only [d_X3_man_L73, if_pos c34]; done) | contradiction
                  rw [e36] at kx29
                  exact kx29 _ (.val (.int (nI i))) rfl trivial  hb30
                · skip
                  have f37 : ¬ (6 ≤ i) := nf_leIn (by omega) (by omega) rfl rfl c34
                  refine r_aload C dX3_man_80 rfl ?_
                  refine r_iload C dX3_man_82 rfl ?_
                  refine r_iconst C dX3_man_84 (0 : Int32) (by decide) ?_
                  obtain ⟨u38, hu38⟩ : ∃ r, r = d_X0_believe (shf R (9 + 2 * u1.toNatClampNeg)) (nI i) (0 : Int32) := ⟨_, rfl⟩
                  refine r_callV0 C cw_X3_85 (fun l => c_X0_believe l D ((o_r + 2) + 7 + 2 * u1.toNatClampNeg) (shf R (9 + 2 * u1.toNatClampNeg)) (nI i) (0 : Int32) u38 hu38) (rest := []) hb30 (k := (9 + 2 * u1.toNatClampNeg)) (kRiver_9_2 _ (by omega)) (by omega) celO_0 (blk_sub hb30 (9 + 2 * u1.toNatClampNeg) 2 (sRiver_9_2_2 _ (by omega)) (by omega)) (fun q h => by unfold fp1 at h; unfold fp1; omega) rfl rfl rfl (Nat.le_of_ble_eq_true rfl) ⟨Nat.le_of_ble_eq_true rfl, Nat.le_of_ble_eq_true rfl, Nat.le_refl 0, Nat.le_refl 0⟩ dX3_man_85 (fun v H39 hp40 hq41 => ?_)
                  obtain ⟨rfl, hn42⟩ := hp40
                  have hb43 := blk_spl hb30 (9 + 2 * u1.toNatClampNeg) 2 (sRiver_9_2_2 _ (by omega)) (by omega) hn42 (fun q h => hq41 q (by unfold fp1; omega))
                  dsimp only [psh]
                  refine r_iinc C dX3_man_88 (nI (i + 1)) rfl (nI_inc i rfl) (ls' := [.val (.ref o_r), .val (.int men), .val (.int hunger), .val (.int u1), .val (.ref ((o_r + 2) + 7 + 2 * u1.toNatClampNeg)), .val (.int (nI (i + 1)))]) rfl ?_
                  refine r_goto C dX3_man_91 ?_
                  have e44 : s28 = d_X3_man_L73 u1 n26 (spl R (9 + 2 * u1.toNatClampNeg) 2 u38) (i + 1) := by rw [hs28]; first | (simp only [d_X3_man_L73, ← hu38, if_neg c34]; done) | contradiction
                  exact ih27 (spl R (9 + 2 * u1.toNatClampNeg) 2 u38) (i + 1) _  trivial (by omega) (by omega) hb43 s28 e44  kx29
            obtain ⟨s45, hs45⟩ : ∃ r, r = d_X3_man_L73 u1 7 (pt (pt (pt (pt R_r (9 + 2 * u1.toNatClampNeg) 0 (1 : Int32)) (9 + 2 * u1.toNatClampNeg) 1 (0 : Int32)) (9 + 2 * u1.toNatClampNeg) 2 men) (9 + 2 * u1.toNatClampNeg) 3 hunger) 0 := ⟨_, rfl⟩
            refine d_X3_man_L73_w 7 (pt (pt (pt (pt R_r (9 + 2 * u1.toNatClampNeg) 0 (1 : Int32)) (9 + 2 * u1.toNatClampNeg) 1 (0 : Int32)) (9 + 2 * u1.toNatClampNeg) 2 men) (9 + 2 * u1.toNatClampNeg) 3 hunger) 0 _  trivial (by omega) (by omega) hb25 s45 hs45  (fun H47 z32 hz32 e48  hb46 => ?_)
            refine r_iconst C dX3_man_94 (1 : Int32) (by decide) ?_
            refine r_zret C dX3_man_95 (Or.inr rfl) ?_
            have er : res = ((1 : Int32), s45) := by rw [hres]; first | (simp only [d_X3_man, ← hu1, ← hs45, if_neg c8, if_neg c9, if_neg c10, if_neg c11, if_pos c12]; done) | contradiction
            rw [er]
            exact ⟨rfl, (Or.inr rfl), hb46⟩
          · skip
            have f49 : ¬ (u1.toNatClampNeg < 3) := nf_ltIn (by omega) (by omega) hn5 rfl c12
            refine r_iconst C dX3_man_36 (0 : Int32) (by decide) ?_
            refine r_zret C dX3_man_37 (Or.inl rfl) ?_
            have er : res = ((0 : Int32), R_r) := by rw [hres]; first | (simp only [d_X3_man, ← hu1, if_neg c8, if_neg c9, if_neg c10, if_neg c11, if_neg c12]; done) | contradiction
            rw [er]
            exact ⟨rfl, (Or.inl rfl), hb7⟩

def d_X3_goWay (R_r : Nat → Nat → Int32) (t : Int32) (k : Int32) : Int32 × (Nat → Nat → Int32) :=
  match d_X3_townAt R_r t with
  | none =>
    ((0 : Int32), R_r)
  | some k6 =>
    if k < (4 : Int32) then
      ((1 : Int32), (pt R_r (3 + k6) 6 k))
    else
      ((0 : Int32), R_r)
set_option maxHeartbeats 4000000 in
set_option maxRecDepth 100000 in
theorem c_X3_goWay (l : Launch) (D : DD) (o_r : Nat) (R_r : Nat → Nat → Int32) (t : Int32) (k : Int32)  (res : Int32 × (Nat → Nat → Int32)) (hres : res = d_X3_goWay R_r t k) : Mt l D yX3_goWay cX3_goWay 4 (some .boolean) 1 21 0 0 [.ref o_r, .int t, .int k] (fun H => blk D ksRiver o_r R_r H) (fun v H => v = some (.int res.1) ∧ bl res.1 ∧ blk D ksRiver o_r res.2 H) (fp1 o_r 15) := by
  refine mt_of (own := RX3) (ls := [.val (.ref o_r), .val (.int t), .val (.int k), .unset]) rfl (by decide +kernel) rfl ?_
  intro x H C hP
  have hb_r := hP
  refine r_aload_n C dX3_goWay_0 rfl ?_
  refine r_iload_n C dX3_goWay_1 rfl ?_
  obtain ⟨u1, hu1⟩ : ∃ r, r = d_X3_townAt R_r t := ⟨_, rfl⟩
  refine r_callV0 C cw_X3_44 (fun l => c_X3_townAt l D o_r R_r t u1 hu1) (rest := []) hb_r (k := 0) rfl rfl celO_3 hb_r (fun q h => h.elim) rfl rfl rfl (Nat.le_of_ble_eq_true rfl) ⟨Nat.le_of_ble_eq_true rfl, Nat.le_of_ble_eq_true rfl, Nat.le_refl 0, Nat.le_refl 0⟩ dX3_goWay_2 (fun v H2 hp3 hq4 => ?_)
  subst hp3
  have hb5 := blk_kept hb_r (n := 15) rfl (fun q h1 h2 => hq4 q (fun h => h))
  obtain ho7 | ⟨k6, ho7⟩ := opt_or u1
  · have hu1' : d_X3_townAt R_r t = none := by rw [← hu1, ho7]
    rw [ho7]; dsimp only [psh, optT, optC]
    refine r_astore_nN C dX3_goWay_5 (ls' := [.val (.ref o_r), .val (.int t), .val (.int k), .val (.null)]) rfl trivial rfl ?_
    refine r_aload_nN C dX3_goWay_6 rfl ?_
    refine r_ifnullN C dX3_goWay_7 ?_
    refine r_iconst C dX3_goWay_15 (0 : Int32) (by decide) ?_
    refine r_zret C dX3_goWay_16 (Or.inl rfl) ?_
    have er : res = ((0 : Int32), R_r) := by rw [hres]; first | (simp only [d_X3_goWay, hu1']; done) | contradiction
    rw [er]
    exact ⟨rfl, (Or.inl rfl), hb5⟩
  · have hu1' : d_X3_townAt R_r t = some k6 := by rw [← hu1, ho7]
    rw [ho7]; dsimp only [psh, optT, optC]
    have fk8 := X3_townAt_lt hu1'
    refine r_astore_n C dX3_goWay_5 (ls' := [.val (.ref o_r), .val (.int t), .val (.int k), .val (.ref (o_r + 3 + k6))]) rfl trivial rfl ?_
    refine r_aload_n C dX3_goWay_6 rfl ?_
    refine r_ifnull C dX3_goWay_7 ?_
    refine r_iload_n C dX3_goWay_10 rfl ?_
    refine r_iconst C dX3_goWay_11 (4 : Int32) (by decide) ?_
    refine r_ic_lt C dX3_goWay_12 (fun c9 => ?_) (fun c9 => ?_)
    · skip
      refine r_aload_n C dX3_goWay_17 rfl ?_
      refine r_iload_n C dX3_goWay_18 rfl ?_
      refine r_put C hb5 (k := (3 + k6)) (kRiver_3_1 _ fk8) (by omega) (by unfold fp1; omega) fw_X3_67 fp_5_6 (Or.inr rfl) dX3_goWay_19 (fun H10 hb12 hq11 => ?_)
      refine r_iconst C dX3_goWay_22 (1 : Int32) (by decide) ?_
      refine r_zret C dX3_goWay_23 (Or.inr rfl) ?_
      have er : res = ((1 : Int32), (pt R_r (3 + k6) 6 k)) := by rw [hres]; first | (simp only [d_X3_goWay, hu1', if_pos c9]; done) | contradiction
      rw [er]
      exact ⟨rfl, (Or.inr rfl), hb12⟩
    · skip
      refine r_iconst C dX3_goWay_15 (0 : Int32) (by decide) ?_
      refine r_zret C dX3_goWay_16 (Or.inl rfl) ?_
      have er : res = ((0 : Int32), R_r) := by rw [hres]; first | (simp only [d_X3_goWay, hu1', if_neg c9]; done) | contradiction
      rw [er]
      exact ⟨rfl, (Or.inl rfl), hb5⟩

def d_X3_costWalls (R_r : Nat → Nat → Int32) (cost : Int32) : Int32 × (Nat → Nat → Int32) :=
  if cost < (1 : Int32) then
    ((0 : Int32), R_r)
  else
    if cost ≤ (30 : Int32) then
      ((1 : Int32), (pt R_r 0 2 cost))
    else
      ((0 : Int32), R_r)
set_option maxHeartbeats 4000000 in
set_option maxRecDepth 100000 in
theorem c_X3_costWalls (l : Launch) (D : DD) (o_r : Nat) (R_r : Nat → Nat → Int32) (cost : Int32)  (res : Int32 × (Nat → Nat → Int32)) (hres : res = d_X3_costWalls R_r cost) : Mt l D yX3_costWalls cX3_costWalls 2 (some .boolean) 0 0 0 0 [.ref o_r, .int cost] (fun H => blk D ksRiver o_r R_r H) (fun v H => v = some (.int res.1) ∧ bl res.1 ∧ blk D ksRiver o_r res.2 H) (fp1 o_r 15) := by
  refine mt_of (own := RX3) (ls := [.val (.ref o_r), .val (.int cost)]) rfl (by decide +kernel) rfl ?_
  intro x H C hP
  have hb_r := hP
  refine r_iload_n C dX3_costWalls_0 rfl ?_
  refine r_iconst C dX3_costWalls_1 (1 : Int32) (by decide) ?_
  refine r_ic_lt C dX3_costWalls_2 (fun c1 => ?_) (fun c1 => ?_)
  · skip
    refine r_iconst C dX3_costWalls_11 (0 : Int32) (by decide) ?_
    refine r_zret C dX3_costWalls_12 (Or.inl rfl) ?_
    have er : res = ((0 : Int32), R_r) := by rw [hres]; first | (simp only [d_X3_costWalls, if_pos c1]; done) | contradiction
    rw [er]
    exact ⟨rfl, (Or.inl rfl), hb_r⟩
  · skip
    refine r_iload_n C dX3_costWalls_5 rfl ?_
    refine r_bipush C dX3_costWalls_6 (30 : Int32) (by decide) ?_
    refine r_ic_le C dX3_costWalls_8 (fun c2 => ?_) (fun c2 => ?_)
    · skip
      refine r_aload_n C dX3_costWalls_13 rfl ?_
      refine r_iload_n C dX3_costWalls_14 rfl ?_
      refine r_put C hb_r (k := 0) rfl rfl (by unfold fp1; omega) fw_X3_32 fp_3_2 (Or.inr rfl) dX3_costWalls_15 (fun H3 hb5 hq4 => ?_)
      refine r_iconst C dX3_costWalls_18 (1 : Int32) (by decide) ?_
      refine r_zret C dX3_costWalls_19 (Or.inr rfl) ?_
      have er : res = ((1 : Int32), (pt R_r 0 2 cost)) := by rw [hres]; first | (simp only [d_X3_costWalls, if_neg c1, if_pos c2]; done) | contradiction
      rw [er]
      exact ⟨rfl, (Or.inr rfl), hb5⟩
    · skip
      refine r_iconst C dX3_costWalls_11 (0 : Int32) (by decide) ?_
      refine r_zret C dX3_costWalls_12 (Or.inl rfl) ?_
      have er : res = ((0 : Int32), R_r) := by rw [hres]; first | (simp only [d_X3_costWalls, if_neg c1, if_neg c2]; done) | contradiction
      rw [er]
      exact ⟨rfl, (Or.inl rfl), hb_r⟩

def d_X3_leaveOnly_L2 (only : Int32) : Nat → (Nat → Nat → Int32) → Nat → (Nat → Nat → Int32)
  | 0, R, _ => R
  | n1 + 1, R, i =>
    if (nI 3) ≤ (nI i) then
      R
    else
      if (R (9 + 2 * i) 0) = 0 then
        d_X3_leaveOnly_L2 only n1 (pt R (9 + 2 * i) 0 (0 : Int32)) (i + 1)
      else
        if (nI i) = only then
          d_X3_leaveOnly_L2 only n1 (pt R (9 + 2 * i) 0 (1 : Int32)) (i + 1)
        else
          d_X3_leaveOnly_L2 only n1 (pt R (9 + 2 * i) 0 (0 : Int32)) (i + 1)
def d_X3_leaveOnly (R_r : Nat → Nat → Int32) (only : Int32) : (Nat → Nat → Int32) :=
  let s27 := d_X3_leaveOnly_L2 only 4 R_r 0
  s27
set_option maxHeartbeats 4000000 in
set_option maxRecDepth 100000 in
theorem c_X3_leaveOnly (l : Launch) (D : DD) (o_r : Nat) (R_r : Nat → Nat → Int32) (only : Int32)  (res : (Nat → Nat → Int32)) (hres : res = d_X3_leaveOnly R_r only) : Mt l D yX3_leaveOnly cX3_leaveOnly 3 none 0 0 0 0 [.ref o_r, .int only] (fun H => blk D ksRiver o_r R_r H) (fun v H => v = none ∧ blk D ksRiver o_r res H) (fp1 o_r 15) := by
  refine mt_of (own := RX3) (ls := [.val (.ref o_r), .val (.int only), .unset]) rfl (by decide +kernel) rfl ?_
  intro x H C hP
  have hb_r := hP
  refine r_iconst C dX3_leaveOnly_0 (0 : Int32) (by decide) ?_
  refine r_istore_n C dX3_leaveOnly_1 (ls' := [.val (.ref o_r), .val (.int only), .val (.int (0 : Int32))]) rfl trivial rfl ?_
  have d_X3_leaveOnly_L2_w : ∀ (n1 : Nat) (R : Nat → Nat → Int32) (i : Nat) (H6 : Heap), True → (i ≤ 3) → (3 - i < n1) → blk D ksRiver o_r R H6 → ∀ s3 : (Nat → Nat → Int32), s3 = d_X3_leaveOnly_L2 only n1 R i → (∀ (H' : Heap) (z7 : Slot) (_ : slot1 z7), True → blk D ksRiver o_r s3 H' → WG x (fp1 o_r 15) (Fin x (fun v H => v = none ∧ blk D ksRiver o_r res H) (fp1 o_r 15) 0 0) H' 0 0 48 [.val (.ref o_r), .val (.int only), z7] []) → WG x (fp1 o_r 15) (Fin x (fun v H => v = none ∧ blk D ksRiver o_r res H) (fp1 o_r 15) 0 0) H6 0 0 2 [.val (.ref o_r), .val (.int only), .val (.int (nI i))] [] := by
    intro n1
    induction n1 with
    | zero => intro R i H6  _ hi hm8; exact absurd hm8 (Nat.not_lt_zero _)
    | succ n1 ih2 =>
      intro R i H6  _ hi hm8 hb5 s3 hs3  kx4
      refine r_iload_n C dX3_leaveOnly_2 rfl ?_
      refine r_aload_n C dX3_leaveOnly_3 rfl ?_
      refine r_get C hb5 (k := 0) rfl rfl celO_3 fw_X3_19 rfl dX3_leaveOnly_4 ?_
      refine r_alen C hb5 (k := 2) rfl rfl 3 (Or.inr (Or.inr (Or.inr (Or.inl ⟨rfl, rfl⟩)))) dX3_leaveOnly_7 ?_
      refine r_ic_ge C dX3_leaveOnly_8 (fun c9 => ?_) (fun c9 => ?_)
      · skip
        have f10 : (3 ≤ i) := nf_leI (by omega) (by omega) rfl rfl c9
        have e11 : s3 = R := by rw [hs3]; first | (simp only [d_X3_leaveOnly_L2, if_pos c9]; done) | contradiction
        rw [e11] at kx4
        exact kx4 _ (.val (.int (nI i))) rfl trivial  hb5
      · skip
        have f12 : ¬ (3 ≤ i) := nf_leIn (by omega) (by omega) rfl rfl c9
        refine r_aload_n C dX3_leaveOnly_11 rfl ?_
        refine r_get C hb5 (k := 0) rfl rfl celO_3 fw_X3_19 rfl dX3_leaveOnly_12 ?_
        refine r_iload_n C dX3_leaveOnly_15 rfl ?_
        refine r_aaldC C hb5 (k := 2) rfl rfl (vp_in_n rfl (by omega) (by decide)) (j := i) (cl_n rfl (by omega)) dX3_leaveOnly_16 ?_
        refine r_aload_n C dX3_leaveOnly_17 rfl ?_
        refine r_get C hb5 (k := 0) rfl rfl celO_3 fw_X3_19 rfl dX3_leaveOnly_18 ?_
        refine r_iload_n C dX3_leaveOnly_21 rfl ?_
        refine r_aaldC C hb5 (k := 2) rfl rfl (vp_in_n rfl (by omega) (by decide)) (j := i) (cl_n rfl (by omega)) dX3_leaveOnly_22 ?_
        refine r_get C hb5 (k := (9 + 2 * i)) (kRiver_9_2 _ (by omega)) (by omega) celO_0 fw_X3_43 (z := .int (R (9 + 2 * i) 0)) rfl dX3_leaveOnly_23 ?_
        refine r_if_eq C dX3_leaveOnly_26 (fun c13 => ?_) (fun c13 => ?_)
        · skip
          refine r_iconst C dX3_leaveOnly_38 (0 : Int32) (by decide) ?_
          refine r_put C hb5 (k := (9 + 2 * i)) (kRiver_9_2 _ (by omega)) (by omega) (by unfold fp1; omega) fw_X3_43 fp_0_0 (Or.inl ⟨rfl, Or.inl rfl⟩) dX3_leaveOnly_39 (fun H14 hb16 hq15 => ?_)
          refine r_iinc C dX3_leaveOnly_42 (nI (i + 1)) rfl (nI_inc i rfl) (ls' := [.val (.ref o_r), .val (.int only), .val (.int (nI (i + 1)))]) rfl ?_
          refine r_goto C dX3_leaveOnly_45 ?_
          have e17 : s3 = d_X3_leaveOnly_L2 only n1 (pt R (9 + 2 * i) 0 (0 : Int32)) (i + 1) := by rw [hs3]; first | (simp only [d_X3_leaveOnly_L2, if_neg c9, if_pos c13]; done) | contradiction
          exact ih2 (pt R (9 + 2 * i) 0 (0 : Int32)) (i + 1) _  trivial (by omega) (by omega) hb16 s3 e17  kx4
        · skip
          refine r_iload_n C dX3_leaveOnly_29 rfl ?_
          refine r_iload_n C dX3_leaveOnly_30 rfl ?_
          refine r_ic_ne C dX3_leaveOnly_31 (fun c18 => ?_) (fun c18 => ?_)
          · skip
            refine r_iconst C dX3_leaveOnly_38 (0 : Int32) (by decide) ?_
            refine r_put C hb5 (k := (9 + 2 * i)) (kRiver_9_2 _ (by omega)) (by omega) (by unfold fp1; omega) fw_X3_43 fp_0_0 (Or.inl ⟨rfl, Or.inl rfl⟩) dX3_leaveOnly_39 (fun H19 hb21 hq20 => ?_)
            refine r_iinc C dX3_leaveOnly_42 (nI (i + 1)) rfl (nI_inc i rfl) (ls' := [.val (.ref o_r), .val (.int only), .val (.int (nI (i + 1)))]) rfl ?_
            refine r_goto C dX3_leaveOnly_45 ?_
            have e22 : s3 = d_X3_leaveOnly_L2 only n1 (pt R (9 + 2 * i) 0 (0 : Int32)) (i + 1) := by rw [hs3]; first | (simp only [d_X3_leaveOnly_L2, if_neg c9, if_neg c13, if_neg c18]; done) | contradiction
            exact ih2 (pt R (9 + 2 * i) 0 (0 : Int32)) (i + 1) _  trivial (by omega) (by omega) hb21 s3 e22  kx4
          · skip
            refine r_iconst C dX3_leaveOnly_34 (1 : Int32) (by decide) ?_
            refine r_goto C dX3_leaveOnly_35 ?_
            refine r_put C hb5 (k := (9 + 2 * i)) (kRiver_9_2 _ (by omega)) (by omega) (by unfold fp1; omega) fw_X3_43 fp_0_0 (Or.inl ⟨rfl, Or.inr rfl⟩) dX3_leaveOnly_39 (fun H23 hb25 hq24 => ?_)
            refine r_iinc C dX3_leaveOnly_42 (nI (i + 1)) rfl (nI_inc i rfl) (ls' := [.val (.ref o_r), .val (.int only), .val (.int (nI (i + 1)))]) rfl ?_
            refine r_goto C dX3_leaveOnly_45 ?_
            have e26 : s3 = d_X3_leaveOnly_L2 only n1 (pt R (9 + 2 * i) 0 (1 : Int32)) (i + 1) := by rw [hs3]; first | (simp only [d_X3_leaveOnly_L2, if_neg c9, if_neg c13, if_pos c18]; done) | contradiction
            exact ih2 (pt R (9 + 2 * i) 0 (1 : Int32)) (i + 1) _  trivial (by omega) (by omega) hb25 s3 e26  kx4
  obtain ⟨s27, hs27⟩ : ∃ r, r = d_X3_leaveOnly_L2 only 4 R_r 0 := ⟨_, rfl⟩
  refine d_X3_leaveOnly_L2_w 4 R_r 0 _  trivial (by omega) (by omega) hb_r s27 hs27  (fun H29 z7 hz7 e30  hb28 => ?_)
  refine r_vret C dX3_leaveOnly_48 ?_
  have er : res = s27 := by rw [hres]; first | (simp only [d_X3_leaveOnly, ← hs27]; done) | contradiction
  rw [er]
  exact ⟨rfl, hb28⟩

def d_X3_comeUp_L4 (c : Nat) : Nat → (Nat → Nat → Int32) → Int32 → Nat → (Nat → Nat → Int32)
  | 0, R, _, _ => R
  | n1 + 1, R, home, i =>
    if (nI 6) ≤ (nI i) then
      R
    else
      if home = 0 then
        let u16 := d_X5_stands (shf R (3 + i))
        if u16 = 0 then
          d_X3_comeUp_L4 c n1 R (0 : Int32) (i + 1)
        else
          let u24 := d_X3_sendsHome (shf R (3 + i)) (shf R (9 + 2 * c)) (nI i)
          if u24.1 = 0 then
            d_X3_comeUp_L4 c n1 (spl (spl R (3 + i) 1 u24.2.1) (9 + 2 * c) 2 u24.2.2) (0 : Int32) (i + 1)
          else
            d_X3_comeUp_L4 c n1 (spl (spl R (3 + i) 1 u24.2.1) (9 + 2 * c) 2 u24.2.2) (1 : Int32) (i + 1)
      else
        R
def d_X3_comeUp (R_r : Nat → Nat → Int32) (c : Nat) : (Nat → Nat → Int32) :=
  let s35 := d_X3_comeUp_L4 c 7 R_r (0 : Int32) 0
  let u39 := d_X0_goHome (shf s35 (9 + 2 * c))
  (spl s35 (9 + 2 * c) 2 u39)
set_option maxHeartbeats 4000000 in
set_option maxRecDepth 100000 in
theorem c_X3_comeUp (l : Launch) (D : DD) (o_r : Nat) (R_r : Nat → Nat → Int32) (c : Nat) (hc : c < 3) (res : (Nat → Nat → Int32)) (hres : res = d_X3_comeUp R_r c) : Mt l D yX3_comeUp cX3_comeUp 4 none 3 68 0 0 [.ref o_r, .ref ((o_r + 9) + 2 * c)] (fun H => blk D ksRiver o_r R_r H) (fun v H => v = none ∧ blk D ksRiver o_r res H) (fp1 o_r 15) := by
  refine mt_of (own := RX3) (ls := [.val (.ref o_r), .val (.ref ((o_r + 9) + 2 * c)), .unset, .unset]) rfl (by decide +kernel) rfl ?_
  intro x H C hP
  have hb_r := hP
  refine r_iconst C dX3_comeUp_0 (0 : Int32) (by decide) ?_
  refine r_istore_n C dX3_comeUp_1 (ls' := [.val (.ref o_r), .val (.ref ((o_r + 9) + 2 * c)), .val (.int (0 : Int32)), .unset]) rfl trivial rfl ?_
  refine r_iconst C dX3_comeUp_2 (0 : Int32) (by decide) ?_
  refine r_istore_n C dX3_comeUp_3 (ls' := [.val (.ref o_r), .val (.ref ((o_r + 9) + 2 * c)), .val (.int (0 : Int32)), .val (.int (0 : Int32))]) rfl trivial rfl ?_
  have d_X3_comeUp_L4_w : ∀ (n1 : Nat) (R : Nat → Nat → Int32) (home : Int32) (i : Nat) (H6 : Heap), True → (i ≤ 6) → (6 - i < n1) → blk D ksRiver o_r R H6 → ∀ s3 : (Nat → Nat → Int32), s3 = d_X3_comeUp_L4 c n1 R home i → (∀ (H' : Heap) (z7 : Slot) (_ : slot1 z7) (z8 : Slot) (_ : slot1 z8), True → blk D ksRiver o_r s3 H' → WG x (fp1 o_r 15) (Fin x (fun v H => v = none ∧ blk D ksRiver o_r res H) (fp1 o_r 15) 0 0) H' 0 0 55 [.val (.ref o_r), .val (.ref ((o_r + 9) + 2 * c)), z7, z8] []) → WG x (fp1 o_r 15) (Fin x (fun v H => v = none ∧ blk D ksRiver o_r res H) (fp1 o_r 15) 0 0) H6 0 0 4 [.val (.ref o_r), .val (.ref ((o_r + 9) + 2 * c)), .val (.int home), .val (.int (nI i))] [] := by
    intro n1
    induction n1 with
    | zero => intro R home i H6  _ hi hm9; exact absurd hm9 (Nat.not_lt_zero _)
    | succ n1 ih2 =>
      intro R home i H6  _ hi hm9 hb5 s3 hs3  kx4
      refine r_iload_n C dX3_comeUp_4 rfl ?_
      refine r_aload_n C dX3_comeUp_5 rfl ?_
      refine r_get C hb5 (k := 0) rfl rfl celO_3 fw_X3_11 rfl dX3_comeUp_6 ?_
      refine r_alen C hb5 (k := 1) rfl rfl 6 (Or.inr (Or.inr (Or.inl ⟨rfl, rfl⟩))) dX3_comeUp_9 ?_
      refine r_ic_ge C dX3_comeUp_10 (fun c10 => ?_) (fun c10 => ?_)
      · skip
        have f11 : (6 ≤ i) := nf_leI (by omega) (by omega) rfl rfl c10
        have e12 : s3 = R := by rw [hs3]; first | (simp only [d_X3_comeUp_L4, if_pos c10]; done) | contradiction
        rw [e12] at kx4
        exact kx4 _ (.val (.int home)) rfl (.val (.int (nI i))) rfl trivial  hb5
      · skip
        have f13 : ¬ (6 ≤ i) := nf_leIn (by omega) (by omega) rfl rfl c10
        refine r_iload_n C dX3_comeUp_13 rfl ?_
        refine r_if_ne C dX3_comeUp_14 (fun c14 => ?_) (fun c14 => ?_)
        · skip
          have e15 : s3 = R := by rw [hs3]; first | (simp only [d_X3_comeUp_L4, if_neg c10, if_neg c14]; done) | contradiction
          rw [e15] at kx4
          exact kx4 _ (.val (.int home)) rfl (.val (.int (nI i))) rfl trivial  hb5
        · skip
          refine r_aload_n C dX3_comeUp_17 rfl ?_
          refine r_get C hb5 (k := 0) rfl rfl celO_3 fw_X3_11 rfl dX3_comeUp_18 ?_
          refine r_iload_n C dX3_comeUp_21 rfl ?_
          refine r_aaldT C hb5 (k := 1) rfl rfl (vp_in_n rfl (by omega) (by decide)) (j := i) (cl_n rfl (by omega)) dX3_comeUp_22 ?_
          obtain ⟨u16, hu16⟩ : ∃ r, r = d_X5_stands (shf R (3 + i)) := ⟨_, rfl⟩
          refine r_callV0 C cw_X3_99 (fun l => c_X5_stands l D ((o_r + 1) + 2 + i) (shf R (3 + i)) u16 hu16) (rest := []) hb5 (k := (3 + i)) (kRiver_3_1 _ (by omega)) (by omega) celO_5 (blk_sub hb5 (3 + i) 1 (sRiver_3_1_1 _ (by omega)) (by omega)) (fun q h => h.elim) rfl rfl rfl (Nat.le_of_ble_eq_true rfl) ⟨Nat.le_of_ble_eq_true rfl, Nat.le_of_ble_eq_true rfl, Nat.le_refl 0, Nat.le_refl 0⟩ dX3_comeUp_23 (fun v H17 hp18 hq19 => ?_)
          obtain ⟨rfl, hl20⟩ := hp18
          have hb21 := blk_kept hb5 (n := 15) rfl (fun q h1 h2 => hq19 q (fun h => h))
          dsimp only [psh]
          refine r_if_eq C dX3_comeUp_26 (fun c22 => ?_) (fun c22 => ?_)
          · skip
            refine r_iconst C dX3_comeUp_47 (0 : Int32) (by decide) ?_
            refine r_istore_n C dX3_comeUp_48 (ls' := [.val (.ref o_r), .val (.ref ((o_r + 9) + 2 * c)), .val (.int (0 : Int32)), .val (.int (nI i))]) rfl rfl rfl ?_
            refine r_iinc C dX3_comeUp_49 (nI (i + 1)) rfl (nI_inc i rfl) (ls' := [.val (.ref o_r), .val (.ref ((o_r + 9) + 2 * c)), .val (.int (0 : Int32)), .val (.int (nI (i + 1)))]) rfl ?_
            refine r_goto C dX3_comeUp_52 ?_
            have e23 : s3 = d_X3_comeUp_L4 c n1 R (0 : Int32) (i + 1) := by rw [hs3]; first | (simp only [d_X3_comeUp_L4, ← hu16, if_neg c10, if_pos c14, if_pos c22]; done) | contradiction
            exact ih2 R (0 : Int32) (i + 1) _  trivial (by omega) (by omega) hb21 s3 e23  kx4
          · skip
            refine r_aload_n C dX3_comeUp_29 rfl ?_
            refine r_get C hb21 (k := 0) rfl rfl celO_3 fw_X3_11 rfl dX3_comeUp_30 ?_
            refine r_iload_n C dX3_comeUp_33 rfl ?_
            refine r_aaldT C hb21 (k := 1) rfl rfl (vp_in_n rfl (by omega) (by decide)) (j := i) (cl_n rfl (by omega)) dX3_comeUp_34 ?_
            refine r_iload_n C dX3_comeUp_35 rfl ?_
            refine r_aload_n C dX3_comeUp_36 rfl ?_
            obtain ⟨u24, hu24⟩ : ∃ r, r = d_X3_sendsHome (shf R (3 + i)) (shf R (9 + 2 * c)) (nI i) := ⟨_, rfl⟩
            refine r_callS0 C cw_X3_109 (fun l => c_X3_sendsHome l D ((o_r + 1) + 2 + i) ((o_r + 9) + 2 * c) (shf R (3 + i)) (shf R (9 + 2 * c)) (nI i) (by omega) u24 hu24) (rest := []) ⟨(blk_sub hb21 (3 + i) 1 (sRiver_3_1_1 _ (by omega)) (by omega)), (blk_sub hb21 (9 + 2 * c) 2 (sRiver_9_2_2 _ hc) (by omega))⟩ (fun q h => by unfold fp2 at h; unfold fp1; omega) rfl rfl rfl (Nat.le_of_ble_eq_true rfl) ⟨Nat.le_of_ble_eq_true rfl, Nat.le_of_ble_eq_true rfl, Nat.le_refl 0, Nat.le_refl 0⟩ dX3_comeUp_37 (fun v H25 hp26 hq27 => ?_)
            obtain ⟨rfl, hl28, hn29, hn30⟩ := hp26
            have hb31 := blk_spl2 hb21 (3 + i) 1 (sRiver_3_1_1 _ (by omega)) (by omega) hn29 (9 + 2 * c) 2 (sRiver_9_2_2 _ hc) (by omega) hn30 (fun q h => hq27 q (by unfold fp2; omega))
            dsimp only [psh]
            refine r_if_eq C dX3_comeUp_40 (fun c32 => ?_) (fun c32 => ?_)
            · skip
              refine r_iconst C dX3_comeUp_47 (0 : Int32) (by decide) ?_
              refine r_istore_n C dX3_comeUp_48 (ls' := [.val (.ref o_r), .val (.ref ((o_r + 9) + 2 * c)), .val (.int (0 : Int32)), .val (.int (nI i))]) rfl rfl rfl ?_
              refine r_iinc C dX3_comeUp_49 (nI (i + 1)) rfl (nI_inc i rfl) (ls' := [.val (.ref o_r), .val (.ref ((o_r + 9) + 2 * c)), .val (.int (0 : Int32)), .val (.int (nI (i + 1)))]) rfl ?_
              refine r_goto C dX3_comeUp_52 ?_
              have e33 : s3 = d_X3_comeUp_L4 c n1 (spl (spl R (3 + i) 1 u24.2.1) (9 + 2 * c) 2 u24.2.2) (0 : Int32) (i + 1) := by rw [hs3]; first | (simp only [d_X3_comeUp_L4, ← hu16, ← hu24, if_neg c10, if_pos c14, if_neg c22, if_pos c32]; done) | contradiction
              exact ih2 (spl (spl R (3 + i) 1 u24.2.1) (9 + 2 * c) 2 u24.2.2) (0 : Int32) (i + 1) _  trivial (by omega) (by omega) hb31 s3 e33  kx4
            · skip
              refine r_iconst C dX3_comeUp_43 (1 : Int32) (by decide) ?_
              refine r_goto C dX3_comeUp_44 ?_
              refine r_istore_n C dX3_comeUp_48 (ls' := [.val (.ref o_r), .val (.ref ((o_r + 9) + 2 * c)), .val (.int (1 : Int32)), .val (.int (nI i))]) rfl rfl rfl ?_
              refine r_iinc C dX3_comeUp_49 (nI (i + 1)) rfl (nI_inc i rfl) (ls' := [.val (.ref o_r), .val (.ref ((o_r + 9) + 2 * c)), .val (.int (1 : Int32)), .val (.int (nI (i + 1)))]) rfl ?_
              refine r_goto C dX3_comeUp_52 ?_
              have e34 : s3 = d_X3_comeUp_L4 c n1 (spl (spl R (3 + i) 1 u24.2.1) (9 + 2 * c) 2 u24.2.2) (1 : Int32) (i + 1) := by rw [hs3]; first | (simp only [d_X3_comeUp_L4, ← hu16, ← hu24, if_neg c10, if_pos c14, if_neg c22, if_neg c32]; done) | contradiction
              exact ih2 (spl (spl R (3 + i) 1 u24.2.1) (9 + 2 * c) 2 u24.2.2) (1 : Int32) (i + 1) _  trivial (by omega) (by omega) hb31 s3 e34  kx4
  obtain ⟨s35, hs35⟩ : ∃ r, r = d_X3_comeUp_L4 c 7 R_r (0 : Int32) 0 := ⟨_, rfl⟩
  refine d_X3_comeUp_L4_w 7 R_r (0 : Int32) 0 _  trivial (by omega) (by omega) hb_r s35 hs35  (fun H37 z7 hz7 z8 hz8 e38  hb36 => ?_)
  refine r_aload_n C dX3_comeUp_55 rfl ?_
  obtain ⟨u39, hu39⟩ : ∃ r, r = d_X0_goHome (shf s35 (9 + 2 * c)) := ⟨_, rfl⟩
  refine r_callV0 C cw_X3_113 (fun l => c_X0_goHome l D ((o_r + 9) + 2 * c) (shf s35 (9 + 2 * c)) u39 hu39) (rest := []) hb36 (k := (9 + 2 * c)) (kRiver_9_2 _ hc) (by omega) celO_0 (blk_sub hb36 (9 + 2 * c) 2 (sRiver_9_2_2 _ hc) (by omega)) (fun q h => by unfold fp1 at h; unfold fp1; omega) rfl rfl rfl (Nat.le_of_ble_eq_true rfl) ⟨Nat.le_of_ble_eq_true rfl, Nat.le_of_ble_eq_true rfl, Nat.le_refl 0, Nat.le_refl 0⟩ dX3_comeUp_56 (fun v H40 hp41 hq42 => ?_)
  obtain ⟨rfl, hn43⟩ := hp41
  have hb44 := blk_spl hb36 (9 + 2 * c) 2 (sRiver_9_2_2 _ hc) (by omega) hn43 (fun q h => hq42 q (by unfold fp1; omega))
  dsimp only [psh]
  refine r_vret C dX3_comeUp_59 ?_
  have er : res = (spl s35 (9 + 2 * c) 2 u39) := by rw [hres]; first | (simp only [d_X3_comeUp, ← hs35, ← hu39]; done) | contradiction
  rw [er]
  exact ⟨rfl, hb44⟩

def d_X3_earnAndBuild_L2  : Nat → (Nat → Nat → Int32) → Nat → (Nat → Nat → Int32)
  | 0, R, _ => R
  | n1 + 1, R, i =>
    if (nI 6) ≤ (nI i) then
      R
    else
      let u13 := d_X5_stands (shf R (3 + i))
      if u13 = 0 then
        d_X3_earnAndBuild_L2  n1 R (i + 1)
      else
        let u21 := d_X5_earn (shf R (3 + i))
        let u27 := d_X5_build (shf (spl R (3 + i) 1 u21) (3 + i)) ((spl R (3 + i) 1 u21) 0 2)
        d_X3_earnAndBuild_L2  n1 (spl (spl R (3 + i) 1 u21) (3 + i) 1 u27) (i + 1)
def d_X3_earnAndBuild (R_r : Nat → Nat → Int32) : (Nat → Nat → Int32) :=
  let s34 := d_X3_earnAndBuild_L2 7 R_r 0
  s34
set_option maxHeartbeats 4000000 in
set_option maxRecDepth 100000 in
theorem c_X3_earnAndBuild (l : Launch) (D : DD) (o_r : Nat) (R_r : Nat → Nat → Int32)  (res : (Nat → Nat → Int32)) (hres : res = d_X3_earnAndBuild R_r) : Mt l D yX3_earnAndBuild cX3_earnAndBuild 2 none 2 41 0 0 [.ref o_r] (fun H => blk D ksRiver o_r R_r H) (fun v H => v = none ∧ blk D ksRiver o_r res H) (fp1 o_r 15) := by
  refine mt_of (own := RX3) (ls := [.val (.ref o_r), .unset]) rfl (by decide +kernel) rfl ?_
  intro x H C hP
  have hb_r := hP
  refine r_iconst C dX3_earnAndBuild_0 (0 : Int32) (by decide) ?_
  refine r_istore_n C dX3_earnAndBuild_1 (ls' := [.val (.ref o_r), .val (.int (0 : Int32))]) rfl trivial rfl ?_
  have d_X3_earnAndBuild_L2_w : ∀ (n1 : Nat) (R : Nat → Nat → Int32) (i : Nat) (H6 : Heap), True → (i ≤ 6) → (6 - i < n1) → blk D ksRiver o_r R H6 → ∀ s3 : (Nat → Nat → Int32), s3 = d_X3_earnAndBuild_L2  n1 R i → (∀ (H' : Heap) (z7 : Slot) (_ : slot1 z7), True → blk D ksRiver o_r s3 H' → WG x (fp1 o_r 15) (Fin x (fun v H => v = none ∧ blk D ksRiver o_r res H) (fp1 o_r 15) 0 0) H' 0 0 51 [.val (.ref o_r), z7] []) → WG x (fp1 o_r 15) (Fin x (fun v H => v = none ∧ blk D ksRiver o_r res H) (fp1 o_r 15) 0 0) H6 0 0 2 [.val (.ref o_r), .val (.int (nI i))] [] := by
    intro n1
    induction n1 with
    | zero => intro R i H6  _ hi hm8; exact absurd hm8 (Nat.not_lt_zero _)
    | succ n1 ih2 =>
      intro R i H6  _ hi hm8 hb5 s3 hs3  kx4
      refine r_iload_n C dX3_earnAndBuild_2 rfl ?_
      refine r_aload_n C dX3_earnAndBuild_3 rfl ?_
      refine r_get C hb5 (k := 0) rfl rfl celO_3 fw_X3_11 rfl dX3_earnAndBuild_4 ?_
      refine r_alen C hb5 (k := 1) rfl rfl 6 (Or.inr (Or.inr (Or.inl ⟨rfl, rfl⟩))) dX3_earnAndBuild_7 ?_
      refine r_ic_ge C dX3_earnAndBuild_8 (fun c9 => ?_) (fun c9 => ?_)
      · skip
        have f10 : (6 ≤ i) := nf_leI (by omega) (by omega) rfl rfl c9
        have e11 : s3 = R := by rw [hs3]; first | (simp only [d_X3_earnAndBuild_L2, if_pos c9]; done) | contradiction
        rw [e11] at kx4
        exact kx4 _ (.val (.int (nI i))) rfl trivial  hb5
      · skip
        have f12 : ¬ (6 ≤ i) := nf_leIn (by omega) (by omega) rfl rfl c9
        refine r_aload_n C dX3_earnAndBuild_11 rfl ?_
        refine r_get C hb5 (k := 0) rfl rfl celO_3 fw_X3_11 rfl dX3_earnAndBuild_12 ?_
        refine r_iload_n C dX3_earnAndBuild_15 rfl ?_
        refine r_aaldT C hb5 (k := 1) rfl rfl (vp_in_n rfl (by omega) (by decide)) (j := i) (cl_n rfl (by omega)) dX3_earnAndBuild_16 ?_
        obtain ⟨u13, hu13⟩ : ∃ r, r = d_X5_stands (shf R (3 + i)) := ⟨_, rfl⟩
        refine r_callV0 C cw_X3_99 (fun l => c_X5_stands l D ((o_r + 1) + 2 + i) (shf R (3 + i)) u13 hu13) (rest := []) hb5 (k := (3 + i)) (kRiver_3_1 _ (by omega)) (by omega) celO_5 (blk_sub hb5 (3 + i) 1 (sRiver_3_1_1 _ (by omega)) (by omega)) (fun q h => h.elim) rfl rfl rfl (Nat.le_of_ble_eq_true rfl) ⟨Nat.le_of_ble_eq_true rfl, Nat.le_of_ble_eq_true rfl, Nat.le_refl 0, Nat.le_refl 0⟩ dX3_earnAndBuild_17 (fun v H14 hp15 hq16 => ?_)
        obtain ⟨rfl, hl17⟩ := hp15
        have hb18 := blk_kept hb5 (n := 15) rfl (fun q h1 h2 => hq16 q (fun h => h))
        dsimp only [psh]
        refine r_if_eq C dX3_earnAndBuild_20 (fun c19 => ?_) (fun c19 => ?_)
        · skip
          refine r_iinc C dX3_earnAndBuild_45 (nI (i + 1)) rfl (nI_inc i rfl) (ls' := [.val (.ref o_r), .val (.int (nI (i + 1)))]) rfl ?_
          refine r_goto C dX3_earnAndBuild_48 ?_
          have e20 : s3 = d_X3_earnAndBuild_L2  n1 R (i + 1) := by rw [hs3]; first | (simp only [d_X3_earnAndBuild_L2, ← hu13, if_neg c9, if_pos c19]; done) | contradiction
          exact ih2 R (i + 1) _  trivial (by omega) (by omega) hb18 s3 e20  kx4
        · skip
          refine r_aload_n C dX3_earnAndBuild_23 rfl ?_
          refine r_get C hb18 (k := 0) rfl rfl celO_3 fw_X3_11 rfl dX3_earnAndBuild_24 ?_
          refine r_iload_n C dX3_earnAndBuild_27 rfl ?_
          refine r_aaldT C hb18 (k := 1) rfl rfl (vp_in_n rfl (by omega) (by decide)) (j := i) (cl_n rfl (by omega)) dX3_earnAndBuild_28 ?_
          obtain ⟨u21, hu21⟩ : ∃ r, r = d_X5_earn (shf R (3 + i)) := ⟨_, rfl⟩
          refine r_callV0 C cw_X3_102 (fun l => c_X5_earn l D ((o_r + 1) + 2 + i) (shf R (3 + i)) u21 hu21) (rest := []) hb18 (k := (3 + i)) (kRiver_3_1 _ (by omega)) (by omega) celO_5 (blk_sub hb18 (3 + i) 1 (sRiver_3_1_1 _ (by omega)) (by omega)) (fun q h => by unfold fp1 at h; unfold fp1; omega) rfl rfl rfl (Nat.le_of_ble_eq_true rfl) ⟨Nat.le_of_ble_eq_true rfl, Nat.le_of_ble_eq_true rfl, Nat.le_refl 0, Nat.le_refl 0⟩ dX3_earnAndBuild_29 (fun v H22 hp23 hq24 => ?_)
          obtain ⟨rfl, hn25⟩ := hp23
          have hb26 := blk_spl hb18 (3 + i) 1 (sRiver_3_1_1 _ (by omega)) (by omega) hn25 (fun q h => hq24 q (by unfold fp1; omega))
          dsimp only [psh]
          refine r_aload_n C dX3_earnAndBuild_32 rfl ?_
          refine r_get C hb26 (k := 0) rfl rfl celO_3 fw_X3_11 rfl dX3_earnAndBuild_33 ?_
          refine r_iload_n C dX3_earnAndBuild_36 rfl ?_
          refine r_aaldT C hb26 (k := 1) rfl rfl (vp_in_n rfl (by omega) (by decide)) (j := i) (cl_n rfl (by omega)) dX3_earnAndBuild_37 ?_
          refine r_aload_n C dX3_earnAndBuild_38 rfl ?_
          refine r_get C hb26 (k := 0) rfl rfl celO_3 fw_X3_32 (z := .int ((spl R (3 + i) 1 u21) 0 2)) rfl dX3_earnAndBuild_39 ?_
          obtain ⟨u27, hu27⟩ : ∃ r, r = d_X5_build (shf (spl R (3 + i) 1 u21) (3 + i)) ((spl R (3 + i) 1 u21) 0 2) := ⟨_, rfl⟩
          refine r_callV0 C cw_X3_105 (fun l => c_X5_build l D ((o_r + 1) + 2 + i) (shf (spl R (3 + i) 1 u21) (3 + i)) ((spl R (3 + i) 1 u21) 0 2) u27 hu27) (rest := []) hb26 (k := (3 + i)) (kRiver_3_1 _ (by omega)) (by omega) celO_5 (blk_sub hb26 (3 + i) 1 (sRiver_3_1_1 _ (by omega)) (by omega)) (fun q h => by unfold fp1 at h; unfold fp1; omega) rfl rfl rfl (Nat.le_of_ble_eq_true rfl) ⟨Nat.le_of_ble_eq_true rfl, Nat.le_of_ble_eq_true rfl, Nat.le_refl 0, Nat.le_refl 0⟩ dX3_earnAndBuild_42 (fun v H28 hp29 hq30 => ?_)
          obtain ⟨rfl, hn31⟩ := hp29
          have hb32 := blk_spl hb26 (3 + i) 1 (sRiver_3_1_1 _ (by omega)) (by omega) hn31 (fun q h => hq30 q (by unfold fp1; omega))
          dsimp only [psh]
          refine r_iinc C dX3_earnAndBuild_45 (nI (i + 1)) rfl (nI_inc i rfl) (ls' := [.val (.ref o_r), .val (.int (nI (i + 1)))]) rfl ?_
          refine r_goto C dX3_earnAndBuild_48 ?_
          have e33 : s3 = d_X3_earnAndBuild_L2  n1 (spl (spl R (3 + i) 1 u21) (3 + i) 1 u27) (i + 1) := by rw [hs3]; first | (simp only [d_X3_earnAndBuild_L2, ← hu13, ← hu21, ← hu27, if_neg c9, if_neg c19]; done) | contradiction
          exact ih2 (spl (spl R (3 + i) 1 u21) (3 + i) 1 u27) (i + 1) _  trivial (by omega) (by omega) hb32 s3 e33  kx4
  obtain ⟨s34, hs34⟩ : ∃ r, r = d_X3_earnAndBuild_L2 7 R_r 0 := ⟨_, rfl⟩
  refine d_X3_earnAndBuild_L2_w 7 R_r 0 _  trivial (by omega) (by omega) hb_r s34 hs34  (fun H36 z7 hz7 e37  hb35 => ?_)
  refine r_vret C dX3_earnAndBuild_51 ?_
  have er : res = s34 := by rw [hres]; first | (simp only [d_X3_earnAndBuild, ← hs34]; done) | contradiction
  rw [er]
  exact ⟨rfl, hb35⟩

def d_X3_goBy_L13  : Nat → (Nat → Nat → Int32) → Nat → (Nat → Nat → Int32)
  | 0, R2, _ => R2
  | n20 + 1, R2, c =>
    if (nI 3) ≤ (nI c) then
      R2
    else
      let u32 := d_X0_sails (shf R2 (9 + 2 * c))
      if u32 = 0 then
        d_X3_goBy_L13  n20 R2 (c + 1)
      else
        let u40 := d_X3_comeUp R2 c
        d_X3_goBy_L13  n20 u40 (c + 1)
def d_X3_goBy_L2 (n : Int32) : Nat → (Nat → Nat → Int32) → Nat → (Nat → Nat → Int32)
  | 0, R, _ => R
  | n1 + 1, R, i =>
    if n ≤ (nI i) then
      R
    else
      let u15 := d_X3_earnAndBuild R
      let s46 := d_X3_goBy_L13 4 u15 0
      d_X3_goBy_L2 n n1 (pt s46 0 3 ((s46 0 3) + (1 : Int32))) (i + 1)
def d_X3_goBy (R_r : Nat → Nat → Int32) (n : Int32) : (Nat → Nat → Int32) :=
  let s54 := d_X3_goBy_L2 n (n.toNatClampNeg + 1) R_r 0
  s54
set_option maxHeartbeats 4000000 in
set_option maxRecDepth 100000 in
theorem c_X3_goBy (l : Launch) (D : DD) (o_r : Nat) (R_r : Nat → Nat → Int32) (n : Int32) (hn : n = nI n.toNatClampNeg) (hN : n.toNatClampNeg ≤ 1000) (res : (Nat → Nat → Int32)) (hres : res = d_X3_goBy R_r n) : Mt l D yX3_goBy cX3_goBy 4 none 4 91 0 0 [.ref o_r, .int n] (fun H => blk D ksRiver o_r R_r H) (fun v H => v = none ∧ blk D ksRiver o_r res H) (fp1 o_r 15) := by
  refine mt_of (own := RX3) (ls := [.val (.ref o_r), .val (.int n), .unset, .unset]) rfl (by decide +kernel) rfl ?_
  intro x H C hP
  have hb_r := hP
  refine r_iconst C dX3_goBy_0 (0 : Int32) (by decide) ?_
  refine r_istore_n C dX3_goBy_1 (ls' := [.val (.ref o_r), .val (.int n), .val (.int (0 : Int32)), .unset]) rfl trivial rfl ?_
  have d_X3_goBy_L2_w : ∀ (n1 : Nat) (R : Nat → Nat → Int32) (i : Nat) (H7 : Heap) (z5 : Slot) (_ : slot1 z5), True → (i ≤ n.toNatClampNeg) → (n.toNatClampNeg - i < n1) → blk D ksRiver o_r R H7 → ∀ s3 : (Nat → Nat → Int32), s3 = d_X3_goBy_L2 n n1 R i → (∀ (H' : Heap) (z8 : Slot) (_ : slot1 z8) (z9 : Slot) (_ : slot1 z9), True → blk D ksRiver o_r s3 H' → WG x (fp1 o_r 15) (Fin x (fun v H => v = none ∧ blk D ksRiver o_r res H) (fp1 o_r 15) 0 0) H' 0 0 66 [.val (.ref o_r), .val (.int n), z8, z9] []) → WG x (fp1 o_r 15) (Fin x (fun v H => v = none ∧ blk D ksRiver o_r res H) (fp1 o_r 15) 0 0) H7 0 0 2 [.val (.ref o_r), .val (.int n), .val (.int (nI i)), z5] [] := by
    intro n1
    induction n1 with
    | zero => intro R i H7 z5 hz5 _ hi hm10; exact absurd hm10 (Nat.not_lt_zero _)
    | succ n1 ih2 =>
      intro R i H7 z5 hz5 _ hi hm10 hb6 s3 hs3  kx4
      refine r_iload_n C dX3_goBy_2 rfl ?_
      refine r_iload_n C dX3_goBy_3 rfl ?_
      refine r_ic_ge C dX3_goBy_4 (fun c11 => ?_) (fun c11 => ?_)
      · skip
        have f12 : (n.toNatClampNeg ≤ i) := nf_leI (by omega) (by omega) hn rfl c11
        have e13 : s3 = R := by rw [hs3]; first | (simp only [d_X3_goBy_L2, if_pos c11]; done) | contradiction
        rw [e13] at kx4
        exact kx4 _ (.val (.int (nI i))) rfl z5 hz5 trivial  hb6
      · skip
        have f14 : ¬ (n.toNatClampNeg ≤ i) := nf_leIn (by omega) (by omega) hn rfl c11
        refine r_aload_n C dX3_goBy_7 rfl ?_
        obtain ⟨u15, hu15⟩ : ∃ r, r = d_X3_earnAndBuild R := ⟨_, rfl⟩
        refine r_callV0 C cw_X3_89 (fun l => c_X3_earnAndBuild l D o_r R u15 hu15) (rest := []) hb6 (k := 0) rfl rfl celO_3 hb6 (fun q h => by unfold fp1 at h; unfold fp1; omega) rfl rfl rfl (Nat.le_of_ble_eq_true rfl) ⟨Nat.le_of_ble_eq_true rfl, Nat.le_of_ble_eq_true rfl, Nat.le_refl 0, Nat.le_refl 0⟩ dX3_goBy_8 (fun v H16 hp17 hq18 => ?_)
        obtain ⟨rfl, hn19⟩ := hp17
        dsimp only [psh]
        refine r_iconst C dX3_goBy_11 (0 : Int32) (by decide) ?_
        refine r_istore_n C dX3_goBy_12 (ls' := [.val (.ref o_r), .val (.int n), .val (.int (nI i)), .val (.int (0 : Int32))]) rfl hz5 rfl ?_
        have d_X3_goBy_L13_w : ∀ (n20 : Nat) (R2 : Nat → Nat → Int32) (c : Nat) (H25 : Heap), True → (c ≤ 3) → (3 - c < n20) → blk D ksRiver o_r R2 H25 → ∀ s22 : (Nat → Nat → Int32), s22 = d_X3_goBy_L13  n20 R2 c → (∀ (H' : Heap) (z26 : Slot) (_ : slot1 z26), True → blk D ksRiver o_r s22 H' → WG x (fp1 o_r 15) (Fin x (fun v H => v = none ∧ blk D ksRiver o_r res H) (fp1 o_r 15) 0 0) H' 0 0 50 [.val (.ref o_r), .val (.int n), .val (.int (nI i)), z26] []) → WG x (fp1 o_r 15) (Fin x (fun v H => v = none ∧ blk D ksRiver o_r res H) (fp1 o_r 15) 0 0) H25 0 0 13 [.val (.ref o_r), .val (.int n), .val (.int (nI i)), .val (.int (nI c))] [] := by
          intro n20
          induction n20 with
          | zero => intro R2 c H25  _ hc hm27; exact absurd hm27 (Nat.not_lt_zero _)
          | succ n20 ih21 =>
            intro R2 c H25  _ hc hm27 hb24 s22 hs22  kx23
            refine r_iload_n C dX3_goBy_13 rfl ?_
            refine r_aload_n C dX3_goBy_14 rfl ?_
            refine r_get C hb24 (k := 0) rfl rfl celO_3 fw_X3_19 rfl dX3_goBy_15 ?_
            refine r_alen C hb24 (k := 2) rfl rfl 3 (Or.inr (Or.inr (Or.inr (Or.inl ⟨rfl, rfl⟩)))) dX3_goBy_18 ?_
            refine r_ic_ge C dX3_goBy_19 (fun c28 => ?_) (fun c28 => ?_)
            · skip
              have f29 : (3 ≤ c) := nf_leI (by omega) (by omega) rfl rfl c28
              have e30 : s22 = R2 := by rw [hs22]; first | (simp only [d_X3_goBy_L13, if_pos c28]; done) | contradiction
              rw [e30] at kx23
              exact kx23 _ (.val (.int (nI c))) rfl trivial  hb24
            · skip
              have f31 : ¬ (3 ≤ c) := nf_leIn (by omega) (by omega) rfl rfl c28
              refine r_aload_n C dX3_goBy_22 rfl ?_
              refine r_get C hb24 (k := 0) rfl rfl celO_3 fw_X3_19 rfl dX3_goBy_23 ?_
              refine r_iload_n C dX3_goBy_26 rfl ?_
              refine r_aaldC C hb24 (k := 2) rfl rfl (vp_in_n rfl (by omega) (by decide)) (j := c) (cl_n rfl (by omega)) dX3_goBy_27 ?_
              obtain ⟨u32, hu32⟩ : ∃ r, r = d_X0_sails (shf R2 (9 + 2 * c)) := ⟨_, rfl⟩
              refine r_callV0 C cw_X3_92 (fun l => c_X0_sails l D ((o_r + 2) + 7 + 2 * c) (shf R2 (9 + 2 * c)) u32 hu32) (rest := []) hb24 (k := (9 + 2 * c)) (kRiver_9_2 _ (by omega)) (by omega) celO_0 (blk_sub hb24 (9 + 2 * c) 2 (sRiver_9_2_2 _ (by omega)) (by omega)) (fun q h => h.elim) rfl rfl rfl (Nat.le_of_ble_eq_true rfl) ⟨Nat.le_of_ble_eq_true rfl, Nat.le_of_ble_eq_true rfl, Nat.le_refl 0, Nat.le_refl 0⟩ dX3_goBy_28 (fun v H33 hp34 hq35 => ?_)
              obtain ⟨rfl, hl36⟩ := hp34
              have hb37 := blk_kept hb24 (n := 15) rfl (fun q h1 h2 => hq35 q (fun h => h))
              dsimp only [psh]
              refine r_if_eq C dX3_goBy_31 (fun c38 => ?_) (fun c38 => ?_)
              · skip
                refine r_iinc C dX3_goBy_44 (nI (c + 1)) rfl (nI_inc c rfl) (ls' := [.val (.ref o_r), .val (.int n), .val (.int (nI i)), .val (.int (nI (c + 1)))]) rfl ?_
                refine r_goto C dX3_goBy_47 ?_
                have e39 : s22 = d_X3_goBy_L13  n20 R2 (c + 1) := by rw [hs22]; first | (simp only [d_X3_goBy_L13, ← hu32, if_neg c28, if_pos c38]; done) | contradiction
                exact ih21 R2 (c + 1) _  trivial (by omega) (by omega) hb37 s22 e39  kx23
              · skip
                refine r_aload_n C dX3_goBy_34 rfl ?_
                refine r_aload_n C dX3_goBy_35 rfl ?_
                refine r_get C hb37 (k := 0) rfl rfl celO_3 fw_X3_19 rfl dX3_goBy_36 ?_
                refine r_iload_n C dX3_goBy_39 rfl ?_
                refine r_aaldC C hb37 (k := 2) rfl rfl (vp_in_n rfl (by omega) (by decide)) (j := c) (cl_n rfl (by omega)) dX3_goBy_40 ?_
                obtain ⟨u40, hu40⟩ : ∃ r, r = d_X3_comeUp R2 c := ⟨_, rfl⟩
                refine r_callV0 C cw_X3_96 (fun l => c_X3_comeUp l D o_r R2 c (by omega) u40 hu40) (rest := []) hb37 (k := 0) rfl rfl celO_3 hb37 (fun q h => by unfold fp1 at h; unfold fp1; omega) rfl rfl rfl (Nat.le_of_ble_eq_true rfl) ⟨Nat.le_of_ble_eq_true rfl, Nat.le_of_ble_eq_true rfl, Nat.le_refl 0, Nat.le_refl 0⟩ dX3_goBy_41 (fun v H41 hp42 hq43 => ?_)
                obtain ⟨rfl, hn44⟩ := hp42
                dsimp only [psh]
                refine r_iinc C dX3_goBy_44 (nI (c + 1)) rfl (nI_inc c rfl) (ls' := [.val (.ref o_r), .val (.int n), .val (.int (nI i)), .val (.int (nI (c + 1)))]) rfl ?_
                refine r_goto C dX3_goBy_47 ?_
                have e45 : s22 = d_X3_goBy_L13  n20 u40 (c + 1) := by rw [hs22]; first | (simp only [d_X3_goBy_L13, ← hu32, ← hu40, if_neg c28, if_neg c38]; done) | contradiction
                exact ih21 u40 (c + 1) _  trivial (by omega) (by omega) hn44 s22 e45  kx23
        obtain ⟨s46, hs46⟩ : ∃ r, r = d_X3_goBy_L13 4 u15 0 := ⟨_, rfl⟩
        refine d_X3_goBy_L13_w 4 u15 0 _  trivial (by omega) (by omega) hn19 s46 hs46  (fun H48 z26 hz26 e49  hb47 => ?_)
        refine r_aload_n C dX3_goBy_50 rfl ?_
        refine r_dup C dX3_goBy_51 rfl ?_
        refine r_get C hb47 (k := 0) rfl rfl celO_3 fw_X3_36 (z := .int (s46 0 3)) rfl dX3_goBy_52 ?_
        refine r_iconst C dX3_goBy_55 (1 : Int32) (by decide) ?_
        refine r_iadd C dX3_goBy_56 ?_
        refine r_put C hb47 (k := 0) rfl rfl (by unfold fp1; omega) fw_X3_36 fp_3_3 (Or.inr rfl) dX3_goBy_57 (fun H50 hb52 hq51 => ?_)
        refine r_iinc C dX3_goBy_60 (nI (i + 1)) rfl (nI_inc i rfl) (ls' := [.val (.ref o_r), .val (.int n), .val (.int (nI (i + 1))), z26]) rfl ?_
        refine r_goto C dX3_goBy_63 ?_
        have e53 : s3 = d_X3_goBy_L2 n n1 (pt s46 0 3 ((s46 0 3) + (1 : Int32))) (i + 1) := by rw [hs3]; first | (simp only [d_X3_goBy_L2, ← hu15, ← hs46, if_neg c11]; done) | contradiction
        exact ih2 (pt s46 0 3 ((s46 0 3) + (1 : Int32))) (i + 1) _ z26 hz26 trivial (by omega) (by omega) hb52 s3 e53  kx4
  obtain ⟨s54, hs54⟩ : ∃ r, r = d_X3_goBy_L2 n (n.toNatClampNeg + 1) R_r 0 := ⟨_, rfl⟩
  refine d_X3_goBy_L2_w (n.toNatClampNeg + 1) R_r 0 _ .unset trivial trivial (by omega) (by omega) hb_r s54 hs54  (fun H56 z8 hz8 z9 hz9 e57  hb55 => ?_)
  refine r_vret C dX3_goBy_66 ?_
  have er : res = s54 := by rw [hres]; first | (simp only [d_X3_goBy, ← hs54]; done) | contradiction
  rw [er]
  exact ⟨rfl, hb55⟩

def d_X3_joinDrawn_L2 (z : Int32) (k : Int32) : Nat → (Nat → Nat → Int32) → Nat → (Nat → Nat → Int32)
  | 0, R, _ => R
  | n1 + 1, R, c =>
    if (nI 3) ≤ (nI c) then
      R
    else
      let u15 := d_X0_sails (shf R (9 + 2 * c))
      if u15 = 0 then
        d_X3_joinDrawn_L2 z k n1 R (c + 1)
      else
        let u23 := d_X0_grow (shf R (9 + 2 * c)) ((((((((((7919 : Int64) * z.toInt64) + ((6151 : Int64) * k.toInt64)) + ((331 : Int64) * (nI c).toInt64)) + (1 : Int64)) * (((((7919 : Int64) * z.toInt64) + ((6151 : Int64) * k.toInt64)) + ((331 : Int64) * (nI c).toInt64)) + (1 : Int64))) - ((((((7919 : Int64) * z.toInt64) + ((6151 : Int64) * k.toInt64)) + ((331 : Int64) * (nI c).toInt64)) + (1 : Int64)) * (((((7919 : Int64) * z.toInt64) + ((6151 : Int64) * k.toInt64)) + ((331 : Int64) * (nI c).toInt64)) + (1 : Int64))) / (65521 : Int64) * (65521 : Int64)) / (8 : Int64)) - ((((((((7919 : Int64) * z.toInt64) + ((6151 : Int64) * k.toInt64)) + ((331 : Int64) * (nI c).toInt64)) + (1 : Int64)) * (((((7919 : Int64) * z.toInt64) + ((6151 : Int64) * k.toInt64)) + ((331 : Int64) * (nI c).toInt64)) + (1 : Int64))) - ((((((7919 : Int64) * z.toInt64) + ((6151 : Int64) * k.toInt64)) + ((331 : Int64) * (nI c).toInt64)) + (1 : Int64)) * (((((7919 : Int64) * z.toInt64) + ((6151 : Int64) * k.toInt64)) + ((331 : Int64) * (nI c).toInt64)) + (1 : Int64))) / (65521 : Int64) * (65521 : Int64)) / (8 : Int64)) / (5 : Int64) * (5 : Int64)).toInt32)
        d_X3_joinDrawn_L2 z k n1 (spl R (9 + 2 * c) 2 u23) (c + 1)
def d_X3_joinDrawn (R_r : Nat → Nat → Int32) (z : Int32) (k : Int32) : (Nat → Nat → Int32) :=
  let s30 := d_X3_joinDrawn_L2 z k 4 R_r 0
  s30
set_option maxHeartbeats 4000000 in
set_option maxRecDepth 100000 in
theorem c_X3_joinDrawn (l : Launch) (D : DD) (o_r : Nat) (R_r : Nat → Nat → Int32) (z : Int32) (k : Int32)  (res : (Nat → Nat → Int32)) (hres : res = d_X3_joinDrawn R_r z k) : Mt l D yX3_joinDrawn cX3_joinDrawn 6 none 2 42 0 0 [.ref o_r, .int z, .int k] (fun H => blk D ksRiver o_r R_r H) (fun v H => v = none ∧ blk D ksRiver o_r res H) (fp1 o_r 15) := by
  refine mt_of (own := RX3) (ls := [.val (.ref o_r), .val (.int z), .val (.int k), .unset, .unset, .unset]) rfl (by decide +kernel) rfl ?_
  intro x H C hP
  have hb_r := hP
  refine r_iconst C dX3_joinDrawn_0 (0 : Int32) (by decide) ?_
  refine r_istore_n C dX3_joinDrawn_1 (ls' := [.val (.ref o_r), .val (.int z), .val (.int k), .val (.int (0 : Int32)), .unset, .unset]) rfl trivial rfl ?_
  have d_X3_joinDrawn_L2_w : ∀ (n1 : Nat) (R : Nat → Nat → Int32) (c : Nat) (H7 : Heap) (z5 z5b : Slot) (_ : lpair z5 z5b), True → (c ≤ 3) → (3 - c < n1) → blk D ksRiver o_r R H7 → ∀ s3 : (Nat → Nat → Int32), s3 = d_X3_joinDrawn_L2 z k n1 R c → (∀ (H' : Heap) (z8 : Slot) (_ : slot1 z8) (z9 z9b : Slot) (_ : lpair z9 z9b), True → blk D ksRiver o_r s3 H' → WG x (fp1 o_r 15) (Fin x (fun v H => v = none ∧ blk D ksRiver o_r res H) (fp1 o_r 15) 0 0) H' 0 0 80 [.val (.ref o_r), .val (.int z), .val (.int k), z8, z9, z9b] []) → WG x (fp1 o_r 15) (Fin x (fun v H => v = none ∧ blk D ksRiver o_r res H) (fp1 o_r 15) 0 0) H7 0 0 2 [.val (.ref o_r), .val (.int z), .val (.int k), .val (.int (nI c)), z5, z5b] [] := by
    intro n1
    induction n1 with
    | zero => intro R c H7 z5 z5b hz5 _ hc hm10; exact absurd hm10 (Nat.not_lt_zero _)
    | succ n1 ih2 =>
      intro R c H7 z5 z5b hz5 _ hc hm10 hb6 s3 hs3  kx4
      refine r_iload_n C dX3_joinDrawn_2 rfl ?_
      refine r_aload_n C dX3_joinDrawn_3 rfl ?_
      refine r_get C hb6 (k := 0) rfl rfl celO_3 fw_X3_19 rfl dX3_joinDrawn_4 ?_
      refine r_alen C hb6 (k := 2) rfl rfl 3 (Or.inr (Or.inr (Or.inr (Or.inl ⟨rfl, rfl⟩)))) dX3_joinDrawn_7 ?_
      refine r_ic_ge C dX3_joinDrawn_8 (fun c11 => ?_) (fun c11 => ?_)
      · skip
        have f12 : (3 ≤ c) := nf_leI (by omega) (by omega) rfl rfl c11
        have e13 : s3 = R := by rw [hs3]; first | (simp only [d_X3_joinDrawn_L2, if_pos c11]; done) | contradiction
        rw [e13] at kx4
        exact kx4 _ (.val (.int (nI c))) rfl z5 z5b hz5 trivial  hb6
      · skip
        have f14 : ¬ (3 ≤ c) := nf_leIn (by omega) (by omega) rfl rfl c11
        refine r_aload_n C dX3_joinDrawn_11 rfl ?_
        refine r_get C hb6 (k := 0) rfl rfl celO_3 fw_X3_19 rfl dX3_joinDrawn_12 ?_
        refine r_iload_n C dX3_joinDrawn_15 rfl ?_
        refine r_aaldC C hb6 (k := 2) rfl rfl (vp_in_n rfl (by omega) (by decide)) (j := c) (cl_n rfl (by omega)) dX3_joinDrawn_16 ?_
        obtain ⟨u15, hu15⟩ : ∃ r, r = d_X0_sails (shf R (9 + 2 * c)) := ⟨_, rfl⟩
        refine r_callV0 C cw_X3_92 (fun l => c_X0_sails l D ((o_r + 2) + 7 + 2 * c) (shf R (9 + 2 * c)) u15 hu15) (rest := []) hb6 (k := (9 + 2 * c)) (kRiver_9_2 _ (by omega)) (by omega) celO_0 (blk_sub hb6 (9 + 2 * c) 2 (sRiver_9_2_2 _ (by omega)) (by omega)) (fun q h => h.elim) rfl rfl rfl (Nat.le_of_ble_eq_true rfl) ⟨Nat.le_of_ble_eq_true rfl, Nat.le_of_ble_eq_true rfl, Nat.le_refl 0, Nat.le_refl 0⟩ dX3_joinDrawn_17 (fun v H16 hp17 hq18 => ?_)
        obtain ⟨rfl, hl19⟩ := hp17
        have hb20 := blk_kept hb6 (n := 15) rfl (fun q h1 h2 => hq18 q (fun h => h))
        dsimp only [psh]
        refine r_if_eq C dX3_joinDrawn_20 (fun c21 => ?_) (fun c21 => ?_)
        · skip
          refine r_iinc C dX3_joinDrawn_74 (nI (c + 1)) rfl (nI_inc c rfl) (ls' := [.val (.ref o_r), .val (.int z), .val (.int k), .val (.int (nI (c + 1))), z5, z5b]) rfl ?_
          refine r_goto C dX3_joinDrawn_77 ?_
          have e22 : s3 = d_X3_joinDrawn_L2 z k n1 R (c + 1) := by rw [hs3]; first | (simp only [d_X3_joinDrawn_L2, ← hu15, if_neg c11, if_pos c21]; done) | contradiction
          exact ih2 R (c + 1) _ z5 z5b hz5 trivial (by omega) (by omega) hb20 s3 e22  kx4
        · skip
          refine r_ldc2 C dX3_joinDrawn_23 (v := 7919) (wd_of 683 (by decide +kernel) (by decide +kernel)) ?_
          refine r_iload_n C dX3_joinDrawn_26 rfl ?_
          refine r_i2l C dX3_joinDrawn_27 ?_
          refine r_lmul C dX3_joinDrawn_28 ?_
          refine r_ldc2 C dX3_joinDrawn_29 (v := 6151) (wd_of 684 (by decide +kernel) (by decide +kernel)) ?_
          refine r_iload_n C dX3_joinDrawn_32 rfl ?_
          refine r_i2l C dX3_joinDrawn_33 ?_
          refine r_lmul C dX3_joinDrawn_34 ?_
          refine r_ladd C dX3_joinDrawn_35 ?_
          refine r_ldc2 C dX3_joinDrawn_36 (v := 331) (wd_of 685 (by decide +kernel) (by decide +kernel)) ?_
          refine r_iload_n C dX3_joinDrawn_39 rfl ?_
          refine r_i2l C dX3_joinDrawn_40 ?_
          refine r_lmul C dX3_joinDrawn_41 ?_
          refine r_ladd C dX3_joinDrawn_42 ?_
          refine r_lconst1 C dX3_joinDrawn_43 ?_
          refine r_ladd C dX3_joinDrawn_44 ?_
          refine r_lstoreP C dX3_joinDrawn_45 rfl rfl hz5 (ls' := [.val (.ref o_r), .val (.int z), .val (.int k), .val (.int (nI c)), .val (.long (((((7919 : Int64) * z.toInt64) + ((6151 : Int64) * k.toInt64)) + ((331 : Int64) * (nI c).toInt64)) + (1 : Int64))), .second]) rfl ?_
          refine r_aload_n C dX3_joinDrawn_47 rfl ?_
          refine r_get C hb20 (k := 0) rfl rfl celO_3 fw_X3_19 rfl dX3_joinDrawn_48 ?_
          refine r_iload_n C dX3_joinDrawn_51 rfl ?_
          refine r_aaldC C hb20 (k := 2) rfl rfl (vp_in_n rfl (by omega) (by decide)) (j := c) (cl_n rfl (by omega)) dX3_joinDrawn_52 ?_
          refine r_lload C dX3_joinDrawn_53 rfl ?_
          refine r_lload C dX3_joinDrawn_55 rfl ?_
          refine r_lmul C dX3_joinDrawn_57 ?_
          refine r_ldc2 C dX3_joinDrawn_58 (v := 65521) (wd_of 686 (by decide +kernel) (by decide +kernel)) ?_
          refine r_lrem C dX3_joinDrawn_61 (by decide) ?_
          refine r_ldc2 C dX3_joinDrawn_62 (v := 8) (wd_of 687 (by decide +kernel) (by decide +kernel)) ?_
          refine r_ldiv C dX3_joinDrawn_65 (by decide) ?_
          refine r_ldc2 C dX3_joinDrawn_66 (v := 5) (wd_of 688 (by decide +kernel) (by decide +kernel)) ?_
          refine r_lrem C dX3_joinDrawn_69 (by decide) ?_
          refine r_l2i C dX3_joinDrawn_70 ?_
          obtain ⟨u23, hu23⟩ : ∃ r, r = d_X0_grow (shf R (9 + 2 * c)) ((((((((((7919 : Int64) * z.toInt64) + ((6151 : Int64) * k.toInt64)) + ((331 : Int64) * (nI c).toInt64)) + (1 : Int64)) * (((((7919 : Int64) * z.toInt64) + ((6151 : Int64) * k.toInt64)) + ((331 : Int64) * (nI c).toInt64)) + (1 : Int64))) - ((((((7919 : Int64) * z.toInt64) + ((6151 : Int64) * k.toInt64)) + ((331 : Int64) * (nI c).toInt64)) + (1 : Int64)) * (((((7919 : Int64) * z.toInt64) + ((6151 : Int64) * k.toInt64)) + ((331 : Int64) * (nI c).toInt64)) + (1 : Int64))) / (65521 : Int64) * (65521 : Int64)) / (8 : Int64)) - ((((((((7919 : Int64) * z.toInt64) + ((6151 : Int64) * k.toInt64)) + ((331 : Int64) * (nI c).toInt64)) + (1 : Int64)) * (((((7919 : Int64) * z.toInt64) + ((6151 : Int64) * k.toInt64)) + ((331 : Int64) * (nI c).toInt64)) + (1 : Int64))) - ((((((7919 : Int64) * z.toInt64) + ((6151 : Int64) * k.toInt64)) + ((331 : Int64) * (nI c).toInt64)) + (1 : Int64)) * (((((7919 : Int64) * z.toInt64) + ((6151 : Int64) * k.toInt64)) + ((331 : Int64) * (nI c).toInt64)) + (1 : Int64))) / (65521 : Int64) * (65521 : Int64)) / (8 : Int64)) / (5 : Int64) * (5 : Int64)).toInt32) := ⟨_, rfl⟩
          refine r_callV0 C cw_X3_149 (fun l => c_X0_grow l D ((o_r + 2) + 7 + 2 * c) (shf R (9 + 2 * c)) ((((((((((7919 : Int64) * z.toInt64) + ((6151 : Int64) * k.toInt64)) + ((331 : Int64) * (nI c).toInt64)) + (1 : Int64)) * (((((7919 : Int64) * z.toInt64) + ((6151 : Int64) * k.toInt64)) + ((331 : Int64) * (nI c).toInt64)) + (1 : Int64))) - ((((((7919 : Int64) * z.toInt64) + ((6151 : Int64) * k.toInt64)) + ((331 : Int64) * (nI c).toInt64)) + (1 : Int64)) * (((((7919 : Int64) * z.toInt64) + ((6151 : Int64) * k.toInt64)) + ((331 : Int64) * (nI c).toInt64)) + (1 : Int64))) / (65521 : Int64) * (65521 : Int64)) / (8 : Int64)) - ((((((((7919 : Int64) * z.toInt64) + ((6151 : Int64) * k.toInt64)) + ((331 : Int64) * (nI c).toInt64)) + (1 : Int64)) * (((((7919 : Int64) * z.toInt64) + ((6151 : Int64) * k.toInt64)) + ((331 : Int64) * (nI c).toInt64)) + (1 : Int64))) - ((((((7919 : Int64) * z.toInt64) + ((6151 : Int64) * k.toInt64)) + ((331 : Int64) * (nI c).toInt64)) + (1 : Int64)) * (((((7919 : Int64) * z.toInt64) + ((6151 : Int64) * k.toInt64)) + ((331 : Int64) * (nI c).toInt64)) + (1 : Int64))) / (65521 : Int64) * (65521 : Int64)) / (8 : Int64)) / (5 : Int64) * (5 : Int64)).toInt32) u23 hu23) (rest := []) hb20 (k := (9 + 2 * c)) (kRiver_9_2 _ (by omega)) (by omega) celO_0 (blk_sub hb20 (9 + 2 * c) 2 (sRiver_9_2_2 _ (by omega)) (by omega)) (fun q h => by unfold fp1 at h; unfold fp1; omega) rfl rfl rfl (Nat.le_of_ble_eq_true rfl) ⟨Nat.le_of_ble_eq_true rfl, Nat.le_of_ble_eq_true rfl, Nat.le_refl 0, Nat.le_refl 0⟩ dX3_joinDrawn_71 (fun v H24 hp25 hq26 => ?_)
          obtain ⟨rfl, hn27⟩ := hp25
          have hb28 := blk_spl hb20 (9 + 2 * c) 2 (sRiver_9_2_2 _ (by omega)) (by omega) hn27 (fun q h => hq26 q (by unfold fp1; omega))
          dsimp only [psh]
          refine r_iinc C dX3_joinDrawn_74 (nI (c + 1)) rfl (nI_inc c rfl) (ls' := [.val (.ref o_r), .val (.int z), .val (.int k), .val (.int (nI (c + 1))), .val (.long (((((7919 : Int64) * z.toInt64) + ((6151 : Int64) * k.toInt64)) + ((331 : Int64) * (nI c).toInt64)) + (1 : Int64))), .second]) rfl ?_
          refine r_goto C dX3_joinDrawn_77 ?_
          have e29 : s3 = d_X3_joinDrawn_L2 z k n1 (spl R (9 + 2 * c) 2 u23) (c + 1) := by rw [hs3]; first | (simp only [d_X3_joinDrawn_L2, ← hu15, ← hu23, if_neg c11, if_neg c21]; done) | contradiction
          exact ih2 (spl R (9 + 2 * c) 2 u23) (c + 1) _ (.val (.long (((((7919 : Int64) * z.toInt64) + ((6151 : Int64) * k.toInt64)) + ((331 : Int64) * (nI c).toInt64)) + (1 : Int64)))) .second (Or.inr ⟨_, rfl, rfl⟩) trivial (by omega) (by omega) hb28 s3 e29  kx4
  obtain ⟨s30, hs30⟩ : ∃ r, r = d_X3_joinDrawn_L2 z k 4 R_r 0 := ⟨_, rfl⟩
  refine d_X3_joinDrawn_L2_w 4 R_r 0 _ .unset .unset (Or.inl ⟨rfl, rfl⟩) trivial (by omega) (by omega) hb_r s30 hs30  (fun H32 z8 hz8 z9 z9b hz9 e33  hb31 => ?_)
  refine r_vret C dX3_joinDrawn_80 ?_
  have er : res = s30 := by rw [hres]; first | (simp only [d_X3_joinDrawn, ← hs30]; done) | contradiction
  rw [er]
  exact ⟨rfl, hb31⟩

def d_X3_firstBurntSince_L2 (R_r : Nat → Nat → Int32) (R_b : Nat → Nat → Int32) : Nat → Nat → (Int32) ⊕ (Unit)
  | 0, _ => .inr ()
  | n1 + 1, i =>
    if (nI 6) ≤ (nI i) then
      .inr ()
    else
      let u16 := d_X3_standsAt R_b (nI i)
      if u16 = 0 then
        d_X3_firstBurntSince_L2 R_r R_b n1 (i + 1)
      else
        let u25 := d_X3_standsAt R_r (nI i)
        if u25 = 0 then
          .inl (nI i)
        else
          d_X3_firstBurntSince_L2 R_r R_b n1 (i + 1)
def d_X3_firstBurntSince (R_r : Nat → Nat → Int32) (R_b : Nat → Nat → Int32) : Int32 :=
  match d_X3_firstBurntSince_L2 R_r R_b 7 0 with
  | .inl r => r
  | .inr w35 =>
    (-4 : Int32)
set_option maxHeartbeats 4000000 in
set_option maxRecDepth 100000 in
theorem c_X3_firstBurntSince (l : Launch) (D : DD) (o_r o_b : Nat) (R_r : Nat → Nat → Int32) (R_b : Nat → Nat → Int32)  (res : Int32) (hres : res = d_X3_firstBurntSince R_r R_b) : Mt l D yX3_firstBurntSince cX3_firstBurntSince 3 (some .int) 2 43 0 0 [.ref o_r, .ref o_b] (fun H => blk D ksRiver o_r R_r H ∧ blk D ksRiver o_b R_b H) (fun v H => v = some (.int res)) fp0 := by
  refine mt_of (own := RX3) (ls := [.val (.ref o_r), .val (.ref o_b), .unset]) rfl (by decide +kernel) rfl ?_
  intro x H C hP
  obtain ⟨hb_r, hb_b⟩ := hP
  refine r_iconst C dX3_firstBurntSince_0 (0 : Int32) (by decide) ?_
  refine r_istore_n C dX3_firstBurntSince_1 (ls' := [.val (.ref o_r), .val (.ref o_b), .val (.int (0 : Int32))]) rfl trivial rfl ?_
  have d_X3_firstBurntSince_L2_w : ∀ (n1 : Nat) (i : Nat) (H7 : Heap), True → (i ≤ 6) → (6 - i < n1) → blk D ksRiver o_r R_r H7 → blk D ksRiver o_b R_b H7 → ∀ s3 : (Int32) ⊕ (Unit), s3 = d_X3_firstBurntSince_L2 R_r R_b n1 i → (∀ r, s3 = .inl r → res = r) → (∀ (w8 : Unit) (H' : Heap) (z9 : Slot) (_ : slot1 z9), s3 = .inr w8 → blk D ksRiver o_r R_r H' → blk D ksRiver o_b R_b H' → WG x fp0 (Fin x (fun v H => v = some (.int res)) fp0 0 0) H' 0 0 35 [.val (.ref o_r), .val (.ref o_b), z9] []) → WG x fp0 (Fin x (fun v H => v = some (.int res)) fp0 0 0) H7 0 0 2 [.val (.ref o_r), .val (.ref o_b), .val (.int (nI i))] [] := by
    intro n1
    induction n1 with
    | zero => intro i H7  _ hi hm10; exact absurd hm10 (Nat.not_lt_zero _)
    | succ n1 ih2 =>
      intro i H7  _ hi hm10 hb5 hb6 s3 hs3 hr11 kx4
      refine r_iload_n C dX3_firstBurntSince_2 rfl ?_
      refine r_aload_n C dX3_firstBurntSince_3 rfl ?_
      refine r_get C hb5 (k := 0) rfl rfl celO_3 fw_X3_11 rfl dX3_firstBurntSince_4 ?_
      refine r_alen C hb5 (k := 1) rfl rfl 6 (Or.inr (Or.inr (Or.inl ⟨rfl, rfl⟩))) dX3_firstBurntSince_7 ?_
      refine r_ic_ge C dX3_firstBurntSince_8 (fun c12 => ?_) (fun c12 => ?_)
      · skip
        have f13 : (6 ≤ i) := nf_leI (by omega) (by omega) rfl rfl c12
        have e14 : s3 = .inr () := by rw [hs3]; first | (simp only [d_X3_firstBurntSince_L2, if_pos c12]; done) | contradiction
        exact kx4 () _ (.val (.int (nI i))) rfl e14  hb5 hb6
      · skip
        have f15 : ¬ (6 ≤ i) := nf_leIn (by omega) (by omega) rfl rfl c12
        refine r_aload_n C dX3_firstBurntSince_11 rfl ?_
        refine r_iload_n C dX3_firstBurntSince_12 rfl ?_
        obtain ⟨u16, hu16⟩ : ∃ r, r = d_X3_standsAt R_b (nI i) := ⟨_, rfl⟩
        refine r_callV0 C cw_X3_152 (fun l => c_X3_standsAt l D o_b R_b (nI i) u16 hu16) (rest := []) hb6 (k := 0) rfl rfl celO_3 hb6 (fun q h => h.elim) rfl rfl rfl (Nat.le_of_ble_eq_true rfl) ⟨Nat.le_of_ble_eq_true rfl, Nat.le_of_ble_eq_true rfl, Nat.le_refl 0, Nat.le_refl 0⟩ dX3_firstBurntSince_13 (fun v H17 hp18 hq19 => ?_)
        obtain ⟨rfl, hl20⟩ := hp18
        have hb21 := blk_kept hb5 (n := 15) rfl (fun q h1 h2 => hq19 q (fun h => h))
        have hb22 := blk_kept hb6 (n := 15) rfl (fun q h1 h2 => hq19 q (fun h => h))
        dsimp only [psh]
        refine r_if_eq C dX3_firstBurntSince_16 (fun c23 => ?_) (fun c23 => ?_)
        · skip
          refine r_iinc C dX3_firstBurntSince_29 (nI (i + 1)) rfl (nI_inc i rfl) (ls' := [.val (.ref o_r), .val (.ref o_b), .val (.int (nI (i + 1)))]) rfl ?_
          refine r_goto C dX3_firstBurntSince_32 ?_
          have e24 : s3 = d_X3_firstBurntSince_L2 R_r R_b n1 (i + 1) := by rw [hs3]; first | (simp only [d_X3_firstBurntSince_L2, ← hu16, if_neg c12, if_pos c23]; done) | contradiction
          exact ih2 (i + 1) _  trivial (by omega) (by omega) hb21 hb22 s3 e24 hr11 kx4
        · skip
          refine r_aload_n C dX3_firstBurntSince_19 rfl ?_
          refine r_iload_n C dX3_firstBurntSince_20 rfl ?_
          obtain ⟨u25, hu25⟩ : ∃ r, r = d_X3_standsAt R_r (nI i) := ⟨_, rfl⟩
          refine r_callV0 C cw_X3_152 (fun l => c_X3_standsAt l D o_r R_r (nI i) u25 hu25) (rest := []) hb21 (k := 0) rfl rfl celO_3 hb21 (fun q h => h.elim) rfl rfl rfl (Nat.le_of_ble_eq_true rfl) ⟨Nat.le_of_ble_eq_true rfl, Nat.le_of_ble_eq_true rfl, Nat.le_refl 0, Nat.le_refl 0⟩ dX3_firstBurntSince_21 (fun v H26 hp27 hq28 => ?_)
          obtain ⟨rfl, hl29⟩ := hp27
          have hb30 := blk_kept hb21 (n := 15) rfl (fun q h1 h2 => hq28 q (fun h => h))
          have hb31 := blk_kept hb22 (n := 15) rfl (fun q h1 h2 => hq28 q (fun h => h))
          dsimp only [psh]
          refine r_if_ne C dX3_firstBurntSince_24 (fun c32 => ?_) (fun c32 => ?_)
          · skip
            refine r_iinc C dX3_firstBurntSince_29 (nI (i + 1)) rfl (nI_inc i rfl) (ls' := [.val (.ref o_r), .val (.ref o_b), .val (.int (nI (i + 1)))]) rfl ?_
            refine r_goto C dX3_firstBurntSince_32 ?_
            have e33 : s3 = d_X3_firstBurntSince_L2 R_r R_b n1 (i + 1) := by rw [hs3]; first | (simp only [d_X3_firstBurntSince_L2, ← hu16, ← hu25, if_neg c12, if_neg c23, if_neg c32]; done) | contradiction
            exact ih2 (i + 1) _  trivial (by omega) (by omega) hb30 hb31 s3 e33 hr11 kx4
          · skip
            refine r_iload_n C dX3_firstBurntSince_27 rfl ?_
            refine r_iret C dX3_firstBurntSince_28 ?_
            have er : res = (nI i) := hr11 _ (by rw [hs3]; first | (simp only [d_X3_firstBurntSince_L2, ← hu16, ← hu25, if_neg c12, if_neg c23, if_pos c32]; done) | contradiction)
            rw [er]
  obtain ⟨s34, hs34⟩ : ∃ r, r = d_X3_firstBurntSince_L2 R_r R_b 7 0 := ⟨_, rfl⟩
  refine d_X3_firstBurntSince_L2_w 7 0 _  trivial (by omega) (by omega) hb_r hb_b s34 hs34 (fun r e => by rw [hres]; rw [hs34] at e; simp only [d_X3_firstBurntSince, e]) (fun w35 H38 z9 hz9 e39  hb36 hb37 => ?_)
  have hx40 : d_X3_firstBurntSince_L2 R_r R_b 7 0 = .inr w35 := by rw [← hs34]; exact e39
  refine r_bipush C dX3_firstBurntSince_35 (-4 : Int32) (by decide) ?_
  refine r_iret C dX3_firstBurntSince_37 ?_
  have er : res = (-4 : Int32) := by rw [hres]; first | (simp only [d_X3_firstBurntSince, hx40]; done) | contradiction
  rw [er]
end
section
theorem dX1_init_0 : dec cX1_init 0 (.aload_n 0) 1 1 := ⟨by decide +kernel, rfl⟩
theorem dX1_init_1 : dec cX1_init 1 (.invokespecial 3) 3 4 := ⟨by decide +kernel, rfl⟩
theorem dX1_init_4 : dec cX1_init 4 (.aload_n 0) 1 5 := ⟨by decide +kernel, rfl⟩
theorem dX1_init_5 : dec cX1_init 5 (.bipush 6) 2 7 := ⟨by decide +kernel, rfl⟩
theorem dX1_init_7 : dec cX1_init 7 (.newarray .int) 2 9 := ⟨by decide +kernel, rfl⟩
theorem dX1_init_9 : dec cX1_init 9 (.putfield 9) 3 12 := ⟨by decide +kernel, rfl⟩
theorem dX1_init_12 : dec cX1_init 12 (.aload_n 0) 1 13 := ⟨by decide +kernel, rfl⟩
theorem dX1_init_13 : dec cX1_init 13 (.bipush 6) 2 15 := ⟨by decide +kernel, rfl⟩
theorem dX1_init_15 : dec cX1_init 15 (.newarray .int) 2 17 := ⟨by decide +kernel, rfl⟩
theorem dX1_init_17 : dec cX1_init 17 (.putfield 15) 3 20 := ⟨by decide +kernel, rfl⟩
theorem dX1_init_20 : dec cX1_init 20 (.aload_n 0) 1 21 := ⟨by decide +kernel, rfl⟩
theorem dX1_init_21 : dec cX1_init 21 (.bipush 6) 2 23 := ⟨by decide +kernel, rfl⟩
theorem dX1_init_23 : dec cX1_init 23 (.newarray .int) 2 25 := ⟨by decide +kernel, rfl⟩
theorem dX1_init_25 : dec cX1_init 25 (.putfield 18) 3 28 := ⟨by decide +kernel, rfl⟩
theorem dX1_init_28 : dec cX1_init 28 .return_ 1 29 := ⟨by decide +kernel, rfl⟩
theorem dX1_add_0 : dec cX1_add 0 (.aload_n 0) 1 1 := ⟨by decide +kernel, rfl⟩
theorem dX1_add_1 : dec cX1_add 1 (.getfield 21) 3 4 := ⟨by decide +kernel, rfl⟩
theorem dX1_add_4 : decJ cX1_add 4 (.ifCond .lt) 3 7 16 := ⟨12, by decide +kernel, rfl, rfl⟩
theorem dX1_add_7 : dec cX1_add 7 (.aload_n 0) 1 8 := ⟨by decide +kernel, rfl⟩
theorem dX1_add_8 : dec cX1_add 8 (.getfield 21) 3 11 := ⟨by decide +kernel, rfl⟩
theorem dX1_add_11 : dec cX1_add 11 (.bipush 6) 2 13 := ⟨by decide +kernel, rfl⟩
theorem dX1_add_13 : decJ cX1_add 13 (.if_icmp .lt) 3 16 18 := ⟨5, by decide +kernel, rfl, rfl⟩
theorem dX1_add_16 : dec cX1_add 16 (.iconst 0) 1 17 := ⟨by decide +kernel, rfl⟩
theorem dX1_add_17 : dec cX1_add 17 .ireturn 1 18 := ⟨by decide +kernel, rfl⟩
theorem dX1_add_18 : dec cX1_add 18 (.aload_n 0) 1 19 := ⟨by decide +kernel, rfl⟩
theorem dX1_add_19 : dec cX1_add 19 (.getfield 9) 3 22 := ⟨by decide +kernel, rfl⟩
theorem dX1_add_22 : dec cX1_add 22 (.aload_n 0) 1 23 := ⟨by decide +kernel, rfl⟩
theorem dX1_add_23 : dec cX1_add 23 (.getfield 21) 3 26 := ⟨by decide +kernel, rfl⟩
theorem dX1_add_26 : dec cX1_add 26 (.iload_n 1) 1 27 := ⟨by decide +kernel, rfl⟩
theorem dX1_add_27 : dec cX1_add 27 .iastore 1 28 := ⟨by decide +kernel, rfl⟩
theorem dX1_add_28 : dec cX1_add 28 (.aload_n 0) 1 29 := ⟨by decide +kernel, rfl⟩
theorem dX1_add_29 : dec cX1_add 29 (.getfield 15) 3 32 := ⟨by decide +kernel, rfl⟩
theorem dX1_add_32 : dec cX1_add 32 (.aload_n 0) 1 33 := ⟨by decide +kernel, rfl⟩
theorem dX1_add_33 : dec cX1_add 33 (.getfield 21) 3 36 := ⟨by decide +kernel, rfl⟩
theorem dX1_add_36 : dec cX1_add 36 (.iload_n 2) 1 37 := ⟨by decide +kernel, rfl⟩
theorem dX1_add_37 : dec cX1_add 37 .iastore 1 38 := ⟨by decide +kernel, rfl⟩
theorem dX1_add_38 : dec cX1_add 38 (.aload_n 0) 1 39 := ⟨by decide +kernel, rfl⟩
theorem dX1_add_39 : dec cX1_add 39 (.getfield 18) 3 42 := ⟨by decide +kernel, rfl⟩
theorem dX1_add_42 : dec cX1_add 42 (.aload_n 0) 1 43 := ⟨by decide +kernel, rfl⟩
theorem dX1_add_43 : dec cX1_add 43 (.getfield 21) 3 46 := ⟨by decide +kernel, rfl⟩
theorem dX1_add_46 : dec cX1_add 46 (.iload_n 3) 1 47 := ⟨by decide +kernel, rfl⟩
theorem dX1_add_47 : dec cX1_add 47 .iastore 1 48 := ⟨by decide +kernel, rfl⟩
theorem dX1_add_48 : dec cX1_add 48 (.aload_n 0) 1 49 := ⟨by decide +kernel, rfl⟩
theorem dX1_add_49 : dec cX1_add 49 .dup 1 50 := ⟨by decide +kernel, rfl⟩
theorem dX1_add_50 : dec cX1_add 50 (.getfield 21) 3 53 := ⟨by decide +kernel, rfl⟩
theorem dX1_add_53 : dec cX1_add 53 (.iconst 1) 1 54 := ⟨by decide +kernel, rfl⟩
theorem dX1_add_54 : dec cX1_add 54 .iadd 1 55 := ⟨by decide +kernel, rfl⟩
theorem dX1_add_55 : dec cX1_add 55 (.putfield 21) 3 58 := ⟨by decide +kernel, rfl⟩
theorem dX1_add_58 : dec cX1_add 58 (.iconst 1) 1 59 := ⟨by decide +kernel, rfl⟩
theorem dX1_add_59 : dec cX1_add 59 .ireturn 1 60 := ⟨by decide +kernel, rfl⟩
theorem dX1_lastSpring_0 : dec cX1_lastSpring 0 (.iconst 0) 1 1 := ⟨by decide +kernel, rfl⟩
theorem dX1_lastSpring_1 : dec cX1_lastSpring 1 (.istore_n 1) 1 2 := ⟨by decide +kernel, rfl⟩
theorem dX1_lastSpring_2 : dec cX1_lastSpring 2 (.iconst 0) 1 3 := ⟨by decide +kernel, rfl⟩
theorem dX1_lastSpring_3 : dec cX1_lastSpring 3 (.istore_n 2) 1 4 := ⟨by decide +kernel, rfl⟩
theorem dX1_lastSpring_4 : dec cX1_lastSpring 4 (.iload_n 2) 1 5 := ⟨by decide +kernel, rfl⟩
theorem dX1_lastSpring_5 : dec cX1_lastSpring 5 (.aload_n 0) 1 6 := ⟨by decide +kernel, rfl⟩
theorem dX1_lastSpring_6 : dec cX1_lastSpring 6 (.getfield 21) 3 9 := ⟨by decide +kernel, rfl⟩
theorem dX1_lastSpring_9 : decJ cX1_lastSpring 9 (.if_icmp .ge) 3 12 35 := ⟨26, by decide +kernel, rfl, rfl⟩
theorem dX1_lastSpring_12 : dec cX1_lastSpring 12 (.iload_n 2) 1 13 := ⟨by decide +kernel, rfl⟩
theorem dX1_lastSpring_13 : dec cX1_lastSpring 13 (.bipush 6) 2 15 := ⟨by decide +kernel, rfl⟩
theorem dX1_lastSpring_15 : decJ cX1_lastSpring 15 (.if_icmp .ge) 3 18 35 := ⟨20, by decide +kernel, rfl, rfl⟩
theorem dX1_lastSpring_18 : dec cX1_lastSpring 18 (.iload_n 1) 1 19 := ⟨by decide +kernel, rfl⟩
theorem dX1_lastSpring_19 : dec cX1_lastSpring 19 (.aload_n 0) 1 20 := ⟨by decide +kernel, rfl⟩
theorem dX1_lastSpring_20 : dec cX1_lastSpring 20 (.getfield 15) 3 23 := ⟨by decide +kernel, rfl⟩
theorem dX1_lastSpring_23 : dec cX1_lastSpring 23 (.iload_n 2) 1 24 := ⟨by decide +kernel, rfl⟩
theorem dX1_lastSpring_24 : dec cX1_lastSpring 24 .iaload 1 25 := ⟨by decide +kernel, rfl⟩
theorem dX1_lastSpring_25 : dec cX1_lastSpring 25 (.invokestatic 25) 3 28 := ⟨by decide +kernel, rfl⟩
theorem dX1_lastSpring_28 : dec cX1_lastSpring 28 (.istore_n 1) 1 29 := ⟨by decide +kernel, rfl⟩
theorem dX1_lastSpring_29 : dec cX1_lastSpring 29 (.iinc 2 1) 3 32 := ⟨by decide +kernel, rfl⟩
theorem dX1_lastSpring_32 : decJ cX1_lastSpring 32 .goto 3 35 4 := ⟨-28, by decide +kernel, rfl, rfl⟩
theorem dX1_lastSpring_35 : dec cX1_lastSpring 35 (.iload_n 1) 1 36 := ⟨by decide +kernel, rfl⟩
theorem dX1_lastSpring_36 : dec cX1_lastSpring 36 .ireturn 1 37 := ⟨by decide +kernel, rfl⟩
theorem dX1_agree_0 : dec cX1_agree 0 (.iconst 0) 1 1 := ⟨by decide +kernel, rfl⟩
theorem dX1_agree_1 : dec cX1_agree 1 (.istore_n 3) 1 2 := ⟨by decide +kernel, rfl⟩
theorem dX1_agree_2 : dec cX1_agree 2 (.iload_n 3) 1 3 := ⟨by decide +kernel, rfl⟩
theorem dX1_agree_3 : dec cX1_agree 3 (.aload_n 0) 1 4 := ⟨by decide +kernel, rfl⟩
theorem dX1_agree_4 : dec cX1_agree 4 (.getfield 21) 3 7 := ⟨by decide +kernel, rfl⟩
theorem dX1_agree_7 : decJ cX1_agree 7 (.if_icmp .ge) 3 10 65 := ⟨58, by decide +kernel, rfl, rfl⟩
theorem dX1_agree_10 : dec cX1_agree 10 (.iload_n 3) 1 11 := ⟨by decide +kernel, rfl⟩
theorem dX1_agree_11 : dec cX1_agree 11 (.bipush 6) 2 13 := ⟨by decide +kernel, rfl⟩
theorem dX1_agree_13 : decJ cX1_agree 13 (.if_icmp .ge) 3 16 65 := ⟨52, by decide +kernel, rfl, rfl⟩
theorem dX1_agree_16 : dec cX1_agree 16 (.aload_n 1) 1 17 := ⟨by decide +kernel, rfl⟩
theorem dX1_agree_17 : dec cX1_agree 17 (.aload_n 0) 1 18 := ⟨by decide +kernel, rfl⟩
theorem dX1_agree_18 : dec cX1_agree 18 (.getfield 9) 3 21 := ⟨by decide +kernel, rfl⟩
theorem dX1_agree_21 : dec cX1_agree 21 (.iload_n 3) 1 22 := ⟨by decide +kernel, rfl⟩
theorem dX1_agree_22 : dec cX1_agree 22 .iaload 1 23 := ⟨by decide +kernel, rfl⟩
theorem dX1_agree_23 : dec cX1_agree 23 (.invokevirtual 31) 3 26 := ⟨by decide +kernel, rfl⟩
theorem dX1_agree_26 : dec cX1_agree 26 (.astore 4) 2 28 := ⟨by decide +kernel, rfl⟩
theorem dX1_agree_28 : dec cX1_agree 28 (.aload_n 0) 1 29 := ⟨by decide +kernel, rfl⟩
theorem dX1_agree_29 : dec cX1_agree 29 (.getfield 15) 3 32 := ⟨by decide +kernel, rfl⟩
theorem dX1_agree_32 : dec cX1_agree 32 (.iload_n 3) 1 33 := ⟨by decide +kernel, rfl⟩
theorem dX1_agree_33 : dec cX1_agree 33 .iaload 1 34 := ⟨by decide +kernel, rfl⟩
theorem dX1_agree_34 : dec cX1_agree 34 (.iload_n 2) 1 35 := ⟨by decide +kernel, rfl⟩
theorem dX1_agree_35 : decJ cX1_agree 35 (.if_icmp .ne) 3 38 59 := ⟨24, by decide +kernel, rfl, rfl⟩
theorem dX1_agree_38 : dec cX1_agree 38 (.aload 4) 2 40 := ⟨by decide +kernel, rfl⟩
theorem dX1_agree_40 : decJ cX1_agree 40 .ifnull 3 43 57 := ⟨17, by decide +kernel, rfl, rfl⟩
theorem dX1_agree_43 : dec cX1_agree 43 (.aload 4) 2 45 := ⟨by decide +kernel, rfl⟩
theorem dX1_agree_45 : dec cX1_agree 45 (.getfield 37) 3 48 := ⟨by decide +kernel, rfl⟩
theorem dX1_agree_48 : dec cX1_agree 48 (.aload_n 0) 1 49 := ⟨by decide +kernel, rfl⟩
theorem dX1_agree_49 : dec cX1_agree 49 (.getfield 18) 3 52 := ⟨by decide +kernel, rfl⟩
theorem dX1_agree_52 : dec cX1_agree 52 (.iload_n 3) 1 53 := ⟨by decide +kernel, rfl⟩
theorem dX1_agree_53 : dec cX1_agree 53 .iaload 1 54 := ⟨by decide +kernel, rfl⟩
theorem dX1_agree_54 : decJ cX1_agree 54 (.if_icmp .eq) 3 57 59 := ⟨5, by decide +kernel, rfl, rfl⟩
theorem dX1_agree_57 : dec cX1_agree 57 (.iconst 0) 1 58 := ⟨by decide +kernel, rfl⟩
theorem dX1_agree_58 : dec cX1_agree 58 .ireturn 1 59 := ⟨by decide +kernel, rfl⟩
theorem dX1_agree_59 : dec cX1_agree 59 (.iinc 3 1) 3 62 := ⟨by decide +kernel, rfl⟩
theorem dX1_agree_62 : decJ cX1_agree 62 .goto 3 65 2 := ⟨-60, by decide +kernel, rfl, rfl⟩
theorem dX1_agree_65 : dec cX1_agree 65 (.iconst 1) 1 66 := ⟨by decide +kernel, rfl⟩
theorem dX1_agree_66 : dec cX1_agree 66 .ireturn 1 67 := ⟨by decide +kernel, rfl⟩
theorem dX2_init_0 : dec cX2_init 0 (.aload_n 0) 1 1 := ⟨by decide +kernel, rfl⟩
theorem dX2_init_1 : dec cX2_init 1 (.invokespecial 3) 3 4 := ⟨by decide +kernel, rfl⟩
theorem dX2_init_4 : dec cX2_init 4 (.aload_n 0) 1 5 := ⟨by decide +kernel, rfl⟩
theorem dX2_init_5 : dec cX2_init 5 (.iconst 4) 1 6 := ⟨by decide +kernel, rfl⟩
theorem dX2_init_6 : dec cX2_init 6 (.newarray .int) 2 8 := ⟨by decide +kernel, rfl⟩
theorem dX2_init_8 : dec cX2_init 8 (.putfield 11) 3 11 := ⟨by decide +kernel, rfl⟩
theorem dX2_init_11 : dec cX2_init 11 .return_ 1 12 := ⟨by decide +kernel, rfl⟩
theorem dX2_read_0 : dec cX2_read 0 (.aload_n 3) 1 1 := ⟨by decide +kernel, rfl⟩
theorem dX2_read_1 : dec cX2_read 1 (.invokevirtual 15) 3 4 := ⟨by decide +kernel, rfl⟩
theorem dX2_read_4 : dec cX2_read 4 (.iload_n 2) 1 5 := ⟨by decide +kernel, rfl⟩
theorem dX2_read_5 : dec cX2_read 5 (.aload_n 1) 1 6 := ⟨by decide +kernel, rfl⟩
theorem dX2_read_6 : dec cX2_read 6 .arraylength 1 7 := ⟨by decide +kernel, rfl⟩
theorem dX2_read_7 : dec cX2_read 7 (.invokestatic 20) 3 10 := ⟨by decide +kernel, rfl⟩
theorem dX2_read_10 : dec cX2_read 10 (.istore 4) 2 12 := ⟨by decide +kernel, rfl⟩
theorem dX2_read_12 : dec cX2_read 12 (.iconst 0) 1 13 := ⟨by decide +kernel, rfl⟩
theorem dX2_read_13 : dec cX2_read 13 (.istore 5) 2 15 := ⟨by decide +kernel, rfl⟩
theorem dX2_read_15 : dec cX2_read 15 (.iconst 0) 1 16 := ⟨by decide +kernel, rfl⟩
theorem dX2_read_16 : dec cX2_read 16 (.istore 6) 2 18 := ⟨by decide +kernel, rfl⟩
theorem dX2_read_18 : dec cX2_read 18 (.iload 6) 2 20 := ⟨by decide +kernel, rfl⟩
theorem dX2_read_20 : dec cX2_read 20 (.iload 4) 2 22 := ⟨by decide +kernel, rfl⟩
theorem dX2_read_22 : decJ cX2_read 22 (.if_icmp .ge) 3 25 75 := ⟨53, by decide +kernel, rfl, rfl⟩
theorem dX2_read_25 : dec cX2_read 25 (.iload 5) 2 27 := ⟨by decide +kernel, rfl⟩
theorem dX2_read_27 : dec cX2_read 27 (.iload 4) 2 29 := ⟨by decide +kernel, rfl⟩
theorem dX2_read_29 : decJ cX2_read 29 (.if_icmp .ge) 3 32 75 := ⟨46, by decide +kernel, rfl, rfl⟩
theorem dX2_read_32 : dec cX2_read 32 (.aload_n 0) 1 33 := ⟨by decide +kernel, rfl⟩
theorem dX2_read_33 : dec cX2_read 33 (.aload_n 1) 1 34 := ⟨by decide +kernel, rfl⟩
theorem dX2_read_34 : dec cX2_read 34 (.iload 4) 2 36 := ⟨by decide +kernel, rfl⟩
theorem dX2_read_36 : dec cX2_read 36 (.iload 5) 2 38 := ⟨by decide +kernel, rfl⟩
theorem dX2_read_38 : dec cX2_read 38 (.invokevirtual 26) 3 41 := ⟨by decide +kernel, rfl⟩
theorem dX2_read_41 : dec cX2_read 41 (.istore 7) 2 43 := ⟨by decide +kernel, rfl⟩
theorem dX2_read_43 : dec cX2_read 43 (.iload 7) 2 45 := ⟨by decide +kernel, rfl⟩
theorem dX2_read_45 : dec cX2_read 45 (.bipush (-4)) 2 47 := ⟨by decide +kernel, rfl⟩
theorem dX2_read_47 : decJ cX2_read 47 (.if_icmp .eq) 3 50 62 := ⟨15, by decide +kernel, rfl, rfl⟩
theorem dX2_read_50 : dec cX2_read 50 (.aload_n 0) 1 51 := ⟨by decide +kernel, rfl⟩
theorem dX2_read_51 : dec cX2_read 51 (.aload_n 1) 1 52 := ⟨by decide +kernel, rfl⟩
theorem dX2_read_52 : dec cX2_read 52 (.iload 5) 2 54 := ⟨by decide +kernel, rfl⟩
theorem dX2_read_54 : dec cX2_read 54 .caload 1 55 := ⟨by decide +kernel, rfl⟩
theorem dX2_read_55 : dec cX2_read 55 (.aload_n 3) 1 56 := ⟨by decide +kernel, rfl⟩
theorem dX2_read_56 : dec cX2_read 56 (.invokevirtual 30) 3 59 := ⟨by decide +kernel, rfl⟩
theorem dX2_read_59 : decJ cX2_read 59 (.ifCond .ne) 3 62 65 := ⟨6, by decide +kernel, rfl, rfl⟩
theorem dX2_read_62 : dec cX2_read 62 (.iload 5) 2 64 := ⟨by decide +kernel, rfl⟩
theorem dX2_read_64 : dec cX2_read 64 .ireturn 1 65 := ⟨by decide +kernel, rfl⟩
theorem dX2_read_65 : dec cX2_read 65 (.iload 7) 2 67 := ⟨by decide +kernel, rfl⟩
theorem dX2_read_67 : dec cX2_read 67 (.istore 5) 2 69 := ⟨by decide +kernel, rfl⟩
theorem dX2_read_69 : dec cX2_read 69 (.iinc 6 1) 3 72 := ⟨by decide +kernel, rfl⟩
theorem dX2_read_72 : decJ cX2_read 72 .goto 3 75 18 := ⟨-54, by decide +kernel, rfl, rfl⟩
theorem dX2_read_75 : dec cX2_read 75 (.bipush (-4)) 2 77 := ⟨by decide +kernel, rfl⟩
theorem dX2_read_77 : dec cX2_read 77 .ireturn 1 78 := ⟨by decide +kernel, rfl⟩
theorem dX2_itemEnd_0 : dec cX2_itemEnd 0 (.aload_n 1) 1 1 := ⟨by decide +kernel, rfl⟩
theorem dX2_itemEnd_1 : dec cX2_itemEnd 1 (.iload_n 3) 1 2 := ⟨by decide +kernel, rfl⟩
theorem dX2_itemEnd_2 : dec cX2_itemEnd 2 .caload 1 3 := ⟨by decide +kernel, rfl⟩
theorem dX2_itemEnd_3 : dec cX2_itemEnd 3 (.invokestatic 34) 3 6 := ⟨by decide +kernel, rfl⟩
theorem dX2_itemEnd_6 : dec cX2_itemEnd 6 (.istore 4) 2 8 := ⟨by decide +kernel, rfl⟩
theorem dX2_itemEnd_8 : dec cX2_itemEnd 8 (.iload 4) 2 10 := ⟨by decide +kernel, rfl⟩
theorem dX2_itemEnd_10 : decJ cX2_itemEnd 10 (.ifCond .ne) 3 13 16 := ⟨6, by decide +kernel, rfl, rfl⟩
theorem dX2_itemEnd_13 : dec cX2_itemEnd 13 (.bipush (-4)) 2 15 := ⟨by decide +kernel, rfl⟩
theorem dX2_itemEnd_15 : dec cX2_itemEnd 15 .ireturn 1 16 := ⟨by decide +kernel, rfl⟩
theorem dX2_itemEnd_16 : dec cX2_itemEnd 16 (.iload_n 3) 1 17 := ⟨by decide +kernel, rfl⟩
theorem dX2_itemEnd_17 : dec cX2_itemEnd 17 (.iconst 1) 1 18 := ⟨by decide +kernel, rfl⟩
theorem dX2_itemEnd_18 : dec cX2_itemEnd 18 .iadd 1 19 := ⟨by decide +kernel, rfl⟩
theorem dX2_itemEnd_19 : dec cX2_itemEnd 19 (.istore 5) 2 21 := ⟨by decide +kernel, rfl⟩
theorem dX2_itemEnd_21 : dec cX2_itemEnd 21 (.iconst 0) 1 22 := ⟨by decide +kernel, rfl⟩
theorem dX2_itemEnd_22 : dec cX2_itemEnd 22 (.istore 6) 2 24 := ⟨by decide +kernel, rfl⟩
theorem dX2_itemEnd_24 : dec cX2_itemEnd 24 (.iload 6) 2 26 := ⟨by decide +kernel, rfl⟩
theorem dX2_itemEnd_26 : dec cX2_itemEnd 26 (.iload 4) 2 28 := ⟨by decide +kernel, rfl⟩
theorem dX2_itemEnd_28 : decJ cX2_itemEnd 28 (.if_icmp .ge) 3 31 126 := ⟨98, by decide +kernel, rfl, rfl⟩
theorem dX2_itemEnd_31 : dec cX2_itemEnd 31 (.iload 6) 2 33 := ⟨by decide +kernel, rfl⟩
theorem dX2_itemEnd_33 : dec cX2_itemEnd 33 (.aload_n 0) 1 34 := ⟨by decide +kernel, rfl⟩
theorem dX2_itemEnd_34 : dec cX2_itemEnd 34 (.getfield 11) 3 37 := ⟨by decide +kernel, rfl⟩
theorem dX2_itemEnd_37 : dec cX2_itemEnd 37 .arraylength 1 38 := ⟨by decide +kernel, rfl⟩
theorem dX2_itemEnd_38 : decJ cX2_itemEnd 38 (.if_icmp .ge) 3 41 126 := ⟨88, by decide +kernel, rfl, rfl⟩
theorem dX2_itemEnd_41 : dec cX2_itemEnd 41 (.aload_n 1) 1 42 := ⟨by decide +kernel, rfl⟩
theorem dX2_itemEnd_42 : dec cX2_itemEnd 42 (.iload_n 2) 1 43 := ⟨by decide +kernel, rfl⟩
theorem dX2_itemEnd_43 : dec cX2_itemEnd 43 (.iload 5) 2 45 := ⟨by decide +kernel, rfl⟩
theorem dX2_itemEnd_45 : dec cX2_itemEnd 45 (.invokestatic 38) 3 48 := ⟨by decide +kernel, rfl⟩
theorem dX2_itemEnd_48 : dec cX2_itemEnd 48 (.istore 7) 2 50 := ⟨by decide +kernel, rfl⟩
theorem dX2_itemEnd_50 : dec cX2_itemEnd 50 (.iload 7) 2 52 := ⟨by decide +kernel, rfl⟩
theorem dX2_itemEnd_52 : decJ cX2_itemEnd 52 (.ifCond .ne) 3 55 58 := ⟨6, by decide +kernel, rfl, rfl⟩
theorem dX2_itemEnd_55 : dec cX2_itemEnd 55 (.bipush (-4)) 2 57 := ⟨by decide +kernel, rfl⟩
theorem dX2_itemEnd_57 : dec cX2_itemEnd 57 .ireturn 1 58 := ⟨by decide +kernel, rfl⟩
theorem dX2_itemEnd_58 : dec cX2_itemEnd 58 (.aload_n 0) 1 59 := ⟨by decide +kernel, rfl⟩
theorem dX2_itemEnd_59 : dec cX2_itemEnd 59 (.getfield 11) 3 62 := ⟨by decide +kernel, rfl⟩
theorem dX2_itemEnd_62 : dec cX2_itemEnd 62 (.iload 6) 2 64 := ⟨by decide +kernel, rfl⟩
theorem dX2_itemEnd_64 : dec cX2_itemEnd 64 (.aload_n 1) 1 65 := ⟨by decide +kernel, rfl⟩
theorem dX2_itemEnd_65 : dec cX2_itemEnd 65 (.iload_n 2) 1 66 := ⟨by decide +kernel, rfl⟩
theorem dX2_itemEnd_66 : dec cX2_itemEnd 66 (.iload 5) 2 68 := ⟨by decide +kernel, rfl⟩
theorem dX2_itemEnd_68 : dec cX2_itemEnd 68 (.iload 7) 2 70 := ⟨by decide +kernel, rfl⟩
theorem dX2_itemEnd_70 : dec cX2_itemEnd 70 (.invokestatic 41) 3 73 := ⟨by decide +kernel, rfl⟩
theorem dX2_itemEnd_73 : dec cX2_itemEnd 73 .iastore 1 74 := ⟨by decide +kernel, rfl⟩
theorem dX2_itemEnd_74 : dec cX2_itemEnd 74 (.iload 5) 2 76 := ⟨by decide +kernel, rfl⟩
theorem dX2_itemEnd_76 : dec cX2_itemEnd 76 (.iload 7) 2 78 := ⟨by decide +kernel, rfl⟩
theorem dX2_itemEnd_78 : dec cX2_itemEnd 78 .iadd 1 79 := ⟨by decide +kernel, rfl⟩
theorem dX2_itemEnd_79 : dec cX2_itemEnd 79 (.istore 5) 2 81 := ⟨by decide +kernel, rfl⟩
theorem dX2_itemEnd_81 : dec cX2_itemEnd 81 (.iload 6) 2 83 := ⟨by decide +kernel, rfl⟩
theorem dX2_itemEnd_83 : dec cX2_itemEnd 83 (.iload 4) 2 85 := ⟨by decide +kernel, rfl⟩
theorem dX2_itemEnd_85 : dec cX2_itemEnd 85 (.iconst 1) 1 86 := ⟨by decide +kernel, rfl⟩
theorem dX2_itemEnd_86 : dec cX2_itemEnd 86 .isub 1 87 := ⟨by decide +kernel, rfl⟩
theorem dX2_itemEnd_87 : decJ cX2_itemEnd 87 (.if_icmp .ne) 3 90 95 := ⟨8, by decide +kernel, rfl, rfl⟩
theorem dX2_itemEnd_90 : dec cX2_itemEnd 90 (.bipush 59) 2 92 := ⟨by decide +kernel, rfl⟩
theorem dX2_itemEnd_92 : decJ cX2_itemEnd 92 .goto 3 95 97 := ⟨5, by decide +kernel, rfl, rfl⟩
theorem dX2_itemEnd_95 : dec cX2_itemEnd 95 (.bipush 44) 2 97 := ⟨by decide +kernel, rfl⟩
theorem dX2_itemEnd_97 : dec cX2_itemEnd 97 (.istore 8) 2 99 := ⟨by decide +kernel, rfl⟩
theorem dX2_itemEnd_99 : dec cX2_itemEnd 99 (.iload 5) 2 101 := ⟨by decide +kernel, rfl⟩
theorem dX2_itemEnd_101 : dec cX2_itemEnd 101 (.iload_n 2) 1 102 := ⟨by decide +kernel, rfl⟩
theorem dX2_itemEnd_102 : decJ cX2_itemEnd 102 (.if_icmp .ge) 3 105 114 := ⟨12, by decide +kernel, rfl, rfl⟩
theorem dX2_itemEnd_105 : dec cX2_itemEnd 105 (.aload_n 1) 1 106 := ⟨by decide +kernel, rfl⟩
theorem dX2_itemEnd_106 : dec cX2_itemEnd 106 (.iload 5) 2 108 := ⟨by decide +kernel, rfl⟩
theorem dX2_itemEnd_108 : dec cX2_itemEnd 108 .caload 1 109 := ⟨by decide +kernel, rfl⟩
theorem dX2_itemEnd_109 : dec cX2_itemEnd 109 (.iload 8) 2 111 := ⟨by decide +kernel, rfl⟩
theorem dX2_itemEnd_111 : decJ cX2_itemEnd 111 (.if_icmp .eq) 3 114 117 := ⟨6, by decide +kernel, rfl, rfl⟩
theorem dX2_itemEnd_114 : dec cX2_itemEnd 114 (.bipush (-4)) 2 116 := ⟨by decide +kernel, rfl⟩
theorem dX2_itemEnd_116 : dec cX2_itemEnd 116 .ireturn 1 117 := ⟨by decide +kernel, rfl⟩
theorem dX2_itemEnd_117 : dec cX2_itemEnd 117 (.iinc 5 1) 3 120 := ⟨by decide +kernel, rfl⟩
theorem dX2_itemEnd_120 : dec cX2_itemEnd 120 (.iinc 6 1) 3 123 := ⟨by decide +kernel, rfl⟩
theorem dX2_itemEnd_123 : decJ cX2_itemEnd 123 .goto 3 126 24 := ⟨-99, by decide +kernel, rfl, rfl⟩
theorem dX2_itemEnd_126 : dec cX2_itemEnd 126 (.iload 5) 2 128 := ⟨by decide +kernel, rfl⟩
theorem dX2_itemEnd_128 : dec cX2_itemEnd 128 .ireturn 1 129 := ⟨by decide +kernel, rfl⟩
theorem dX2_numbersBehind_0 : dec cX2_numbersBehind 0 (.iload_n 0) 1 1 := ⟨by decide +kernel, rfl⟩
theorem dX2_numbersBehind_1 : dec cX2_numbersBehind 1 (.bipush 116) 2 3 := ⟨by decide +kernel, rfl⟩
theorem dX2_numbersBehind_3 : decJ cX2_numbersBehind 3 (.if_icmp .ne) 3 6 8 := ⟨5, by decide +kernel, rfl, rfl⟩
theorem dX2_numbersBehind_6 : dec cX2_numbersBehind 6 (.iconst 4) 1 7 := ⟨by decide +kernel, rfl⟩
theorem dX2_numbersBehind_7 : dec cX2_numbersBehind 7 .ireturn 1 8 := ⟨by decide +kernel, rfl⟩
theorem dX2_numbersBehind_8 : dec cX2_numbersBehind 8 (.iload_n 0) 1 9 := ⟨by decide +kernel, rfl⟩
theorem dX2_numbersBehind_9 : dec cX2_numbersBehind 9 (.bipush 99) 2 11 := ⟨by decide +kernel, rfl⟩
theorem dX2_numbersBehind_11 : decJ cX2_numbersBehind 11 (.if_icmp .eq) 3 14 20 := ⟨9, by decide +kernel, rfl, rfl⟩
theorem dX2_numbersBehind_14 : dec cX2_numbersBehind 14 (.iload_n 0) 1 15 := ⟨by decide +kernel, rfl⟩
theorem dX2_numbersBehind_15 : dec cX2_numbersBehind 15 (.bipush 119) 2 17 := ⟨by decide +kernel, rfl⟩
theorem dX2_numbersBehind_17 : decJ cX2_numbersBehind 17 (.if_icmp .ne) 3 20 22 := ⟨5, by decide +kernel, rfl, rfl⟩
theorem dX2_numbersBehind_20 : dec cX2_numbersBehind 20 (.iconst 2) 1 21 := ⟨by decide +kernel, rfl⟩
theorem dX2_numbersBehind_21 : dec cX2_numbersBehind 21 .ireturn 1 22 := ⟨by decide +kernel, rfl⟩
theorem dX2_numbersBehind_22 : dec cX2_numbersBehind 22 (.iload_n 0) 1 23 := ⟨by decide +kernel, rfl⟩
theorem dX2_numbersBehind_23 : dec cX2_numbersBehind 23 (.bipush 98) 2 25 := ⟨by decide +kernel, rfl⟩
theorem dX2_numbersBehind_25 : decJ cX2_numbersBehind 25 (.if_icmp .ne) 3 28 32 := ⟨7, by decide +kernel, rfl, rfl⟩
theorem dX2_numbersBehind_28 : dec cX2_numbersBehind 28 (.iconst 1) 1 29 := ⟨by decide +kernel, rfl⟩
theorem dX2_numbersBehind_29 : decJ cX2_numbersBehind 29 .goto 3 32 33 := ⟨4, by decide +kernel, rfl, rfl⟩
theorem dX2_numbersBehind_32 : dec cX2_numbersBehind 32 (.iconst 0) 1 33 := ⟨by decide +kernel, rfl⟩
theorem dX2_numbersBehind_33 : dec cX2_numbersBehind 33 .ireturn 1 34 := ⟨by decide +kernel, rfl⟩
theorem dX2_figuresAt_0 : dec cX2_figuresAt 0 (.aload_n 0) 1 1 := ⟨by decide +kernel, rfl⟩
theorem dX2_figuresAt_1 : dec cX2_figuresAt 1 (.iload_n 1) 1 2 := ⟨by decide +kernel, rfl⟩
theorem dX2_figuresAt_2 : dec cX2_figuresAt 2 (.iload_n 2) 1 3 := ⟨by decide +kernel, rfl⟩
theorem dX2_figuresAt_3 : dec cX2_figuresAt 3 (.invokestatic 45) 3 6 := ⟨by decide +kernel, rfl⟩
theorem dX2_figuresAt_6 : decJ cX2_figuresAt 6 (.ifCond .ne) 3 9 11 := ⟨5, by decide +kernel, rfl, rfl⟩
theorem dX2_figuresAt_9 : dec cX2_figuresAt 9 (.iconst 0) 1 10 := ⟨by decide +kernel, rfl⟩
theorem dX2_figuresAt_10 : dec cX2_figuresAt 10 .ireturn 1 11 := ⟨by decide +kernel, rfl⟩
theorem dX2_figuresAt_11 : dec cX2_figuresAt 11 (.aload_n 0) 1 12 := ⟨by decide +kernel, rfl⟩
theorem dX2_figuresAt_12 : dec cX2_figuresAt 12 (.iload_n 1) 1 13 := ⟨by decide +kernel, rfl⟩
theorem dX2_figuresAt_13 : dec cX2_figuresAt 13 (.iload_n 2) 1 14 := ⟨by decide +kernel, rfl⟩
theorem dX2_figuresAt_14 : dec cX2_figuresAt 14 (.iconst 1) 1 15 := ⟨by decide +kernel, rfl⟩
theorem dX2_figuresAt_15 : dec cX2_figuresAt 15 .iadd 1 16 := ⟨by decide +kernel, rfl⟩
theorem dX2_figuresAt_16 : dec cX2_figuresAt 16 (.invokestatic 45) 3 19 := ⟨by decide +kernel, rfl⟩
theorem dX2_figuresAt_19 : decJ cX2_figuresAt 19 (.ifCond .eq) 3 22 26 := ⟨7, by decide +kernel, rfl, rfl⟩
theorem dX2_figuresAt_22 : dec cX2_figuresAt 22 (.iconst 2) 1 23 := ⟨by decide +kernel, rfl⟩
theorem dX2_figuresAt_23 : decJ cX2_figuresAt 23 .goto 3 26 27 := ⟨4, by decide +kernel, rfl, rfl⟩
theorem dX2_figuresAt_26 : dec cX2_figuresAt 26 (.iconst 1) 1 27 := ⟨by decide +kernel, rfl⟩
theorem dX2_figuresAt_27 : dec cX2_figuresAt 27 .ireturn 1 28 := ⟨by decide +kernel, rfl⟩
theorem dX2_isFigure_0 : dec cX2_isFigure 0 (.iload_n 2) 1 1 := ⟨by decide +kernel, rfl⟩
theorem dX2_isFigure_1 : decJ cX2_isFigure 1 (.ifCond .lt) 3 4 35 := ⟨34, by decide +kernel, rfl, rfl⟩
theorem dX2_isFigure_4 : dec cX2_isFigure 4 (.iload_n 2) 1 5 := ⟨by decide +kernel, rfl⟩
theorem dX2_isFigure_5 : dec cX2_isFigure 5 (.iload_n 1) 1 6 := ⟨by decide +kernel, rfl⟩
theorem dX2_isFigure_6 : decJ cX2_isFigure 6 (.if_icmp .ge) 3 9 35 := ⟨29, by decide +kernel, rfl, rfl⟩
theorem dX2_isFigure_9 : dec cX2_isFigure 9 (.iload_n 2) 1 10 := ⟨by decide +kernel, rfl⟩
theorem dX2_isFigure_10 : dec cX2_isFigure 10 (.aload_n 0) 1 11 := ⟨by decide +kernel, rfl⟩
theorem dX2_isFigure_11 : dec cX2_isFigure 11 .arraylength 1 12 := ⟨by decide +kernel, rfl⟩
theorem dX2_isFigure_12 : decJ cX2_isFigure 12 (.if_icmp .ge) 3 15 35 := ⟨23, by decide +kernel, rfl, rfl⟩
theorem dX2_isFigure_15 : dec cX2_isFigure 15 (.aload_n 0) 1 16 := ⟨by decide +kernel, rfl⟩
theorem dX2_isFigure_16 : dec cX2_isFigure 16 (.iload_n 2) 1 17 := ⟨by decide +kernel, rfl⟩
theorem dX2_isFigure_17 : dec cX2_isFigure 17 .caload 1 18 := ⟨by decide +kernel, rfl⟩
theorem dX2_isFigure_18 : dec cX2_isFigure 18 (.bipush 48) 2 20 := ⟨by decide +kernel, rfl⟩
theorem dX2_isFigure_20 : decJ cX2_isFigure 20 (.if_icmp .lt) 3 23 35 := ⟨15, by decide +kernel, rfl, rfl⟩
theorem dX2_isFigure_23 : dec cX2_isFigure 23 (.aload_n 0) 1 24 := ⟨by decide +kernel, rfl⟩
theorem dX2_isFigure_24 : dec cX2_isFigure 24 (.iload_n 2) 1 25 := ⟨by decide +kernel, rfl⟩
theorem dX2_isFigure_25 : dec cX2_isFigure 25 .caload 1 26 := ⟨by decide +kernel, rfl⟩
theorem dX2_isFigure_26 : dec cX2_isFigure 26 (.bipush 57) 2 28 := ⟨by decide +kernel, rfl⟩
theorem dX2_isFigure_28 : decJ cX2_isFigure 28 (.if_icmp .gt) 3 31 35 := ⟨7, by decide +kernel, rfl, rfl⟩
theorem dX2_isFigure_31 : dec cX2_isFigure 31 (.iconst 1) 1 32 := ⟨by decide +kernel, rfl⟩
theorem dX2_isFigure_32 : decJ cX2_isFigure 32 .goto 3 35 36 := ⟨4, by decide +kernel, rfl, rfl⟩
theorem dX2_isFigure_35 : dec cX2_isFigure 35 (.iconst 0) 1 36 := ⟨by decide +kernel, rfl⟩
theorem dX2_isFigure_36 : dec cX2_isFigure 36 .ireturn 1 37 := ⟨by decide +kernel, rfl⟩
theorem dX2_numberAt_0 : dec cX2_numberAt 0 (.iconst 0) 1 1 := ⟨by decide +kernel, rfl⟩
theorem dX2_numberAt_1 : dec cX2_numberAt 1 (.istore 4) 2 3 := ⟨by decide +kernel, rfl⟩
theorem dX2_numberAt_3 : dec cX2_numberAt 3 (.iload_n 2) 1 4 := ⟨by decide +kernel, rfl⟩
theorem dX2_numberAt_4 : dec cX2_numberAt 4 (.istore 5) 2 6 := ⟨by decide +kernel, rfl⟩
theorem dX2_numberAt_6 : dec cX2_numberAt 6 (.iload 5) 2 8 := ⟨by decide +kernel, rfl⟩
theorem dX2_numberAt_8 : dec cX2_numberAt 8 (.iload_n 2) 1 9 := ⟨by decide +kernel, rfl⟩
theorem dX2_numberAt_9 : dec cX2_numberAt 9 (.iload_n 3) 1 10 := ⟨by decide +kernel, rfl⟩
theorem dX2_numberAt_10 : dec cX2_numberAt 10 .iadd 1 11 := ⟨by decide +kernel, rfl⟩
theorem dX2_numberAt_11 : decJ cX2_numberAt 11 (.if_icmp .ge) 3 14 45 := ⟨34, by decide +kernel, rfl, rfl⟩
theorem dX2_numberAt_14 : dec cX2_numberAt 14 (.aload_n 0) 1 15 := ⟨by decide +kernel, rfl⟩
theorem dX2_numberAt_15 : dec cX2_numberAt 15 (.iload_n 1) 1 16 := ⟨by decide +kernel, rfl⟩
theorem dX2_numberAt_16 : dec cX2_numberAt 16 (.iload 5) 2 18 := ⟨by decide +kernel, rfl⟩
theorem dX2_numberAt_18 : dec cX2_numberAt 18 (.invokestatic 45) 3 21 := ⟨by decide +kernel, rfl⟩
theorem dX2_numberAt_21 : decJ cX2_numberAt 21 (.ifCond .eq) 3 24 45 := ⟨24, by decide +kernel, rfl, rfl⟩
theorem dX2_numberAt_24 : dec cX2_numberAt 24 (.bipush 10) 2 26 := ⟨by decide +kernel, rfl⟩
theorem dX2_numberAt_26 : dec cX2_numberAt 26 (.iload 4) 2 28 := ⟨by decide +kernel, rfl⟩
theorem dX2_numberAt_28 : dec cX2_numberAt 28 .imul 1 29 := ⟨by decide +kernel, rfl⟩
theorem dX2_numberAt_29 : dec cX2_numberAt 29 (.aload_n 0) 1 30 := ⟨by decide +kernel, rfl⟩
theorem dX2_numberAt_30 : dec cX2_numberAt 30 (.iload 5) 2 32 := ⟨by decide +kernel, rfl⟩
theorem dX2_numberAt_32 : dec cX2_numberAt 32 .caload 1 33 := ⟨by decide +kernel, rfl⟩
theorem dX2_numberAt_33 : dec cX2_numberAt 33 (.bipush 48) 2 35 := ⟨by decide +kernel, rfl⟩
theorem dX2_numberAt_35 : dec cX2_numberAt 35 .isub 1 36 := ⟨by decide +kernel, rfl⟩
theorem dX2_numberAt_36 : dec cX2_numberAt 36 .iadd 1 37 := ⟨by decide +kernel, rfl⟩
theorem dX2_numberAt_37 : dec cX2_numberAt 37 (.istore 4) 2 39 := ⟨by decide +kernel, rfl⟩
theorem dX2_numberAt_39 : dec cX2_numberAt 39 (.iinc 5 1) 3 42 := ⟨by decide +kernel, rfl⟩
theorem dX2_numberAt_42 : decJ cX2_numberAt 42 .goto 3 45 6 := ⟨-36, by decide +kernel, rfl, rfl⟩
theorem dX2_numberAt_45 : dec cX2_numberAt 45 (.iload 4) 2 47 := ⟨by decide +kernel, rfl⟩
theorem dX2_numberAt_47 : dec cX2_numberAt 47 .ireturn 1 48 := ⟨by decide +kernel, rfl⟩
theorem dX2_takes_0 : dec cX2_takes 0 (.iload_n 1) 1 1 := ⟨by decide +kernel, rfl⟩
theorem dX2_takes_1 : dec cX2_takes 1 (.bipush 116) 2 3 := ⟨by decide +kernel, rfl⟩
theorem dX2_takes_3 : decJ cX2_takes 3 (.if_icmp .ne) 3 6 35 := ⟨32, by decide +kernel, rfl, rfl⟩
theorem dX2_takes_6 : dec cX2_takes 6 (.aload_n 2) 1 7 := ⟨by decide +kernel, rfl⟩
theorem dX2_takes_7 : dec cX2_takes 7 (.aload_n 0) 1 8 := ⟨by decide +kernel, rfl⟩
theorem dX2_takes_8 : dec cX2_takes 8 (.getfield 11) 3 11 := ⟨by decide +kernel, rfl⟩
theorem dX2_takes_11 : dec cX2_takes 11 (.iconst 0) 1 12 := ⟨by decide +kernel, rfl⟩
theorem dX2_takes_12 : dec cX2_takes 12 .iaload 1 13 := ⟨by decide +kernel, rfl⟩
theorem dX2_takes_13 : dec cX2_takes 13 (.aload_n 0) 1 14 := ⟨by decide +kernel, rfl⟩
theorem dX2_takes_14 : dec cX2_takes 14 (.getfield 11) 3 17 := ⟨by decide +kernel, rfl⟩
theorem dX2_takes_17 : dec cX2_takes 17 (.iconst 1) 1 18 := ⟨by decide +kernel, rfl⟩
theorem dX2_takes_18 : dec cX2_takes 18 .iaload 1 19 := ⟨by decide +kernel, rfl⟩
theorem dX2_takes_19 : dec cX2_takes 19 (.aload_n 0) 1 20 := ⟨by decide +kernel, rfl⟩
theorem dX2_takes_20 : dec cX2_takes 20 (.getfield 11) 3 23 := ⟨by decide +kernel, rfl⟩
theorem dX2_takes_23 : dec cX2_takes 23 (.iconst 2) 1 24 := ⟨by decide +kernel, rfl⟩
theorem dX2_takes_24 : dec cX2_takes 24 .iaload 1 25 := ⟨by decide +kernel, rfl⟩
theorem dX2_takes_25 : dec cX2_takes 25 (.aload_n 0) 1 26 := ⟨by decide +kernel, rfl⟩
theorem dX2_takes_26 : dec cX2_takes 26 (.getfield 11) 3 29 := ⟨by decide +kernel, rfl⟩
theorem dX2_takes_29 : dec cX2_takes 29 (.iconst 3) 1 30 := ⟨by decide +kernel, rfl⟩
theorem dX2_takes_30 : dec cX2_takes 30 .iaload 1 31 := ⟨by decide +kernel, rfl⟩
theorem dX2_takes_31 : dec cX2_takes 31 (.invokevirtual 49) 3 34 := ⟨by decide +kernel, rfl⟩
theorem dX2_takes_34 : dec cX2_takes 34 .ireturn 1 35 := ⟨by decide +kernel, rfl⟩
theorem dX2_takes_35 : dec cX2_takes 35 (.iload_n 1) 1 36 := ⟨by decide +kernel, rfl⟩
theorem dX2_takes_36 : dec cX2_takes 36 (.bipush 99) 2 38 := ⟨by decide +kernel, rfl⟩
theorem dX2_takes_38 : decJ cX2_takes 38 (.if_icmp .ne) 3 41 58 := ⟨20, by decide +kernel, rfl, rfl⟩
theorem dX2_takes_41 : dec cX2_takes 41 (.aload_n 2) 1 42 := ⟨by decide +kernel, rfl⟩
theorem dX2_takes_42 : dec cX2_takes 42 (.aload_n 0) 1 43 := ⟨by decide +kernel, rfl⟩
theorem dX2_takes_43 : dec cX2_takes 43 (.getfield 11) 3 46 := ⟨by decide +kernel, rfl⟩
theorem dX2_takes_46 : dec cX2_takes 46 (.iconst 0) 1 47 := ⟨by decide +kernel, rfl⟩
theorem dX2_takes_47 : dec cX2_takes 47 .iaload 1 48 := ⟨by decide +kernel, rfl⟩
theorem dX2_takes_48 : dec cX2_takes 48 (.aload_n 0) 1 49 := ⟨by decide +kernel, rfl⟩
theorem dX2_takes_49 : dec cX2_takes 49 (.getfield 11) 3 52 := ⟨by decide +kernel, rfl⟩
theorem dX2_takes_52 : dec cX2_takes 52 (.iconst 1) 1 53 := ⟨by decide +kernel, rfl⟩
theorem dX2_takes_53 : dec cX2_takes 53 .iaload 1 54 := ⟨by decide +kernel, rfl⟩
theorem dX2_takes_54 : dec cX2_takes 54 (.invokevirtual 53) 3 57 := ⟨by decide +kernel, rfl⟩
theorem dX2_takes_57 : dec cX2_takes 57 .ireturn 1 58 := ⟨by decide +kernel, rfl⟩
theorem dX2_takes_58 : dec cX2_takes 58 (.iload_n 1) 1 59 := ⟨by decide +kernel, rfl⟩
theorem dX2_takes_59 : dec cX2_takes 59 (.bipush 119) 2 61 := ⟨by decide +kernel, rfl⟩
theorem dX2_takes_61 : decJ cX2_takes 61 (.if_icmp .ne) 3 64 81 := ⟨20, by decide +kernel, rfl, rfl⟩
theorem dX2_takes_64 : dec cX2_takes 64 (.aload_n 2) 1 65 := ⟨by decide +kernel, rfl⟩
theorem dX2_takes_65 : dec cX2_takes 65 (.aload_n 0) 1 66 := ⟨by decide +kernel, rfl⟩
theorem dX2_takes_66 : dec cX2_takes 66 (.getfield 11) 3 69 := ⟨by decide +kernel, rfl⟩
theorem dX2_takes_69 : dec cX2_takes 69 (.iconst 0) 1 70 := ⟨by decide +kernel, rfl⟩
theorem dX2_takes_70 : dec cX2_takes 70 .iaload 1 71 := ⟨by decide +kernel, rfl⟩
theorem dX2_takes_71 : dec cX2_takes 71 (.aload_n 0) 1 72 := ⟨by decide +kernel, rfl⟩
theorem dX2_takes_72 : dec cX2_takes 72 (.getfield 11) 3 75 := ⟨by decide +kernel, rfl⟩
theorem dX2_takes_75 : dec cX2_takes 75 (.iconst 1) 1 76 := ⟨by decide +kernel, rfl⟩
theorem dX2_takes_76 : dec cX2_takes 76 .iaload 1 77 := ⟨by decide +kernel, rfl⟩
theorem dX2_takes_77 : dec cX2_takes 77 (.invokevirtual 57) 3 80 := ⟨by decide +kernel, rfl⟩
theorem dX2_takes_80 : dec cX2_takes 80 .ireturn 1 81 := ⟨by decide +kernel, rfl⟩
theorem dX2_takes_81 : dec cX2_takes 81 (.iload_n 1) 1 82 := ⟨by decide +kernel, rfl⟩
theorem dX2_takes_82 : dec cX2_takes 82 (.bipush 98) 2 84 := ⟨by decide +kernel, rfl⟩
theorem dX2_takes_84 : decJ cX2_takes 84 (.if_icmp .ne) 3 87 104 := ⟨20, by decide +kernel, rfl, rfl⟩
theorem dX2_takes_87 : dec cX2_takes 87 (.aload_n 2) 1 88 := ⟨by decide +kernel, rfl⟩
theorem dX2_takes_88 : dec cX2_takes 88 (.aload_n 0) 1 89 := ⟨by decide +kernel, rfl⟩
theorem dX2_takes_89 : dec cX2_takes 89 (.getfield 11) 3 92 := ⟨by decide +kernel, rfl⟩
theorem dX2_takes_92 : dec cX2_takes 92 (.iconst 0) 1 93 := ⟨by decide +kernel, rfl⟩
theorem dX2_takes_93 : dec cX2_takes 93 .iaload 1 94 := ⟨by decide +kernel, rfl⟩
theorem dX2_takes_94 : dec cX2_takes 94 (.invokevirtual 60) 3 97 := ⟨by decide +kernel, rfl⟩
theorem dX2_takes_97 : decJ cX2_takes 97 (.ifCond .eq) 3 100 104 := ⟨7, by decide +kernel, rfl, rfl⟩
theorem dX2_takes_100 : dec cX2_takes 100 (.iconst 1) 1 101 := ⟨by decide +kernel, rfl⟩
theorem dX2_takes_101 : decJ cX2_takes 101 .goto 3 104 105 := ⟨4, by decide +kernel, rfl, rfl⟩
theorem dX2_takes_104 : dec cX2_takes 104 (.iconst 0) 1 105 := ⟨by decide +kernel, rfl⟩
theorem dX2_takes_105 : dec cX2_takes 105 .ireturn 1 106 := ⟨by decide +kernel, rfl⟩
theorem dX4_init_0 : dec cX4_init 0 (.aload_n 0) 1 1 := ⟨by decide +kernel, rfl⟩
theorem dX4_init_1 : dec cX4_init 1 (.invokespecial 1) 3 4 := ⟨by decide +kernel, rfl⟩
theorem dX4_init_4 : dec cX4_init 4 (.aload_n 0) 1 5 := ⟨by decide +kernel, rfl⟩
theorem dX4_init_5 : dec cX4_init 5 (.iconst 1) 1 6 := ⟨by decide +kernel, rfl⟩
theorem dX4_init_6 : dec cX4_init 6 (.iload_n 1) 1 7 := ⟨by decide +kernel, rfl⟩
theorem dX4_init_7 : dec cX4_init 7 (.invokestatic 7) 3 10 := ⟨by decide +kernel, rfl⟩
theorem dX4_init_10 : dec cX4_init 10 (.anewarray 13) 3 13 := ⟨by decide +kernel, rfl⟩
theorem dX4_init_13 : dec cX4_init 13 (.putfield 15) 3 16 := ⟨by decide +kernel, rfl⟩
theorem dX4_init_16 : dec cX4_init 16 (.iconst 0) 1 17 := ⟨by decide +kernel, rfl⟩
theorem dX4_init_17 : dec cX4_init 17 (.istore_n 2) 1 18 := ⟨by decide +kernel, rfl⟩
theorem dX4_init_18 : dec cX4_init 18 (.iload_n 2) 1 19 := ⟨by decide +kernel, rfl⟩
theorem dX4_init_19 : dec cX4_init 19 (.aload_n 0) 1 20 := ⟨by decide +kernel, rfl⟩
theorem dX4_init_20 : dec cX4_init 20 (.getfield 15) 3 23 := ⟨by decide +kernel, rfl⟩
theorem dX4_init_23 : dec cX4_init 23 .arraylength 1 24 := ⟨by decide +kernel, rfl⟩
theorem dX4_init_24 : decJ cX4_init 24 (.if_icmp .ge) 3 27 46 := ⟨22, by decide +kernel, rfl, rfl⟩
theorem dX4_init_27 : dec cX4_init 27 (.aload_n 0) 1 28 := ⟨by decide +kernel, rfl⟩
theorem dX4_init_28 : dec cX4_init 28 (.getfield 15) 3 31 := ⟨by decide +kernel, rfl⟩
theorem dX4_init_31 : dec cX4_init 31 (.iload_n 2) 1 32 := ⟨by decide +kernel, rfl⟩
theorem dX4_init_32 : dec cX4_init 32 (.new 13) 3 35 := ⟨by decide +kernel, rfl⟩
theorem dX4_init_35 : dec cX4_init 35 .dup 1 36 := ⟨by decide +kernel, rfl⟩
theorem dX4_init_36 : dec cX4_init 36 (.invokespecial 21) 3 39 := ⟨by decide +kernel, rfl⟩
theorem dX4_init_39 : dec cX4_init 39 .aastore 1 40 := ⟨by decide +kernel, rfl⟩
theorem dX4_init_40 : dec cX4_init 40 (.iinc 2 1) 3 43 := ⟨by decide +kernel, rfl⟩
theorem dX4_init_43 : decJ cX4_init 43 .goto 3 46 18 := ⟨-25, by decide +kernel, rfl, rfl⟩
theorem dX4_init_46 : dec cX4_init 46 .return_ 1 47 := ⟨by decide +kernel, rfl⟩
theorem dX4_put_0 : dec cX4_put 0 (.aload_n 0) 1 1 := ⟨by decide +kernel, rfl⟩
theorem dX4_put_1 : dec cX4_put 1 (.getfield 22) 3 4 := ⟨by decide +kernel, rfl⟩
theorem dX4_put_4 : dec cX4_put 4 (.aload_n 0) 1 5 := ⟨by decide +kernel, rfl⟩
theorem dX4_put_5 : dec cX4_put 5 (.getfield 15) 3 8 := ⟨by decide +kernel, rfl⟩
theorem dX4_put_8 : dec cX4_put 8 .arraylength 1 9 := ⟨by decide +kernel, rfl⟩
theorem dX4_put_9 : decJ cX4_put 9 (.if_icmp .lt) 3 12 16 := ⟨7, by decide +kernel, rfl, rfl⟩
theorem dX4_put_12 : dec cX4_put 12 (.aload_n 0) 1 13 := ⟨by decide +kernel, rfl⟩
theorem dX4_put_13 : dec cX4_put 13 (.invokevirtual 26) 3 16 := ⟨by decide +kernel, rfl⟩
theorem dX4_put_16 : dec cX4_put 16 (.aload_n 0) 1 17 := ⟨by decide +kernel, rfl⟩
theorem dX4_put_17 : dec cX4_put 17 (.getfield 22) 3 20 := ⟨by decide +kernel, rfl⟩
theorem dX4_put_20 : decJ cX4_put 20 (.ifCond .lt) 3 23 58 := ⟨38, by decide +kernel, rfl, rfl⟩
theorem dX4_put_23 : dec cX4_put 23 (.aload_n 0) 1 24 := ⟨by decide +kernel, rfl⟩
theorem dX4_put_24 : dec cX4_put 24 (.getfield 22) 3 27 := ⟨by decide +kernel, rfl⟩
theorem dX4_put_27 : dec cX4_put 27 (.aload_n 0) 1 28 := ⟨by decide +kernel, rfl⟩
theorem dX4_put_28 : dec cX4_put 28 (.getfield 15) 3 31 := ⟨by decide +kernel, rfl⟩
theorem dX4_put_31 : dec cX4_put 31 .arraylength 1 32 := ⟨by decide +kernel, rfl⟩
theorem dX4_put_32 : decJ cX4_put 32 (.if_icmp .ge) 3 35 58 := ⟨26, by decide +kernel, rfl, rfl⟩
theorem dX4_put_35 : dec cX4_put 35 (.aload_n 0) 1 36 := ⟨by decide +kernel, rfl⟩
theorem dX4_put_36 : dec cX4_put 36 (.getfield 15) 3 39 := ⟨by decide +kernel, rfl⟩
theorem dX4_put_39 : dec cX4_put 39 (.aload_n 0) 1 40 := ⟨by decide +kernel, rfl⟩
theorem dX4_put_40 : dec cX4_put 40 (.getfield 22) 3 43 := ⟨by decide +kernel, rfl⟩
theorem dX4_put_43 : dec cX4_put 43 .aaload 1 44 := ⟨by decide +kernel, rfl⟩
theorem dX4_put_44 : dec cX4_put 44 (.aload_n 1) 1 45 := ⟨by decide +kernel, rfl⟩
theorem dX4_put_45 : dec cX4_put 45 (.invokevirtual 29) 3 48 := ⟨by decide +kernel, rfl⟩
theorem dX4_put_48 : dec cX4_put 48 (.aload_n 0) 1 49 := ⟨by decide +kernel, rfl⟩
theorem dX4_put_49 : dec cX4_put 49 .dup 1 50 := ⟨by decide +kernel, rfl⟩
theorem dX4_put_50 : dec cX4_put 50 (.getfield 22) 3 53 := ⟨by decide +kernel, rfl⟩
theorem dX4_put_53 : dec cX4_put 53 (.iconst 1) 1 54 := ⟨by decide +kernel, rfl⟩
theorem dX4_put_54 : dec cX4_put 54 .iadd 1 55 := ⟨by decide +kernel, rfl⟩
theorem dX4_put_55 : dec cX4_put 55 (.putfield 22) 3 58 := ⟨by decide +kernel, rfl⟩
theorem dX4_put_58 : dec cX4_put 58 .return_ 1 59 := ⟨by decide +kernel, rfl⟩
theorem dX4_dropOldest_0 : dec cX4_dropOldest 0 (.aload_n 0) 1 1 := ⟨by decide +kernel, rfl⟩
theorem dX4_dropOldest_1 : dec cX4_dropOldest 1 (.getfield 15) 3 4 := ⟨by decide +kernel, rfl⟩
theorem dX4_dropOldest_4 : dec cX4_dropOldest 4 (.iconst 0) 1 5 := ⟨by decide +kernel, rfl⟩
theorem dX4_dropOldest_5 : dec cX4_dropOldest 5 .aaload 1 6 := ⟨by decide +kernel, rfl⟩
theorem dX4_dropOldest_6 : dec cX4_dropOldest 6 (.astore_n 1) 1 7 := ⟨by decide +kernel, rfl⟩
theorem dX4_dropOldest_7 : dec cX4_dropOldest 7 (.iconst 1) 1 8 := ⟨by decide +kernel, rfl⟩
theorem dX4_dropOldest_8 : dec cX4_dropOldest 8 (.istore_n 2) 1 9 := ⟨by decide +kernel, rfl⟩
theorem dX4_dropOldest_9 : dec cX4_dropOldest 9 (.iload_n 2) 1 10 := ⟨by decide +kernel, rfl⟩
theorem dX4_dropOldest_10 : dec cX4_dropOldest 10 (.aload_n 0) 1 11 := ⟨by decide +kernel, rfl⟩
theorem dX4_dropOldest_11 : dec cX4_dropOldest 11 (.getfield 15) 3 14 := ⟨by decide +kernel, rfl⟩
theorem dX4_dropOldest_14 : dec cX4_dropOldest 14 .arraylength 1 15 := ⟨by decide +kernel, rfl⟩
theorem dX4_dropOldest_15 : decJ cX4_dropOldest 15 (.if_icmp .ge) 3 18 38 := ⟨23, by decide +kernel, rfl, rfl⟩
theorem dX4_dropOldest_18 : dec cX4_dropOldest 18 (.aload_n 0) 1 19 := ⟨by decide +kernel, rfl⟩
theorem dX4_dropOldest_19 : dec cX4_dropOldest 19 (.getfield 15) 3 22 := ⟨by decide +kernel, rfl⟩
theorem dX4_dropOldest_22 : dec cX4_dropOldest 22 (.iload_n 2) 1 23 := ⟨by decide +kernel, rfl⟩
theorem dX4_dropOldest_23 : dec cX4_dropOldest 23 (.iconst 1) 1 24 := ⟨by decide +kernel, rfl⟩
theorem dX4_dropOldest_24 : dec cX4_dropOldest 24 .isub 1 25 := ⟨by decide +kernel, rfl⟩
theorem dX4_dropOldest_25 : dec cX4_dropOldest 25 (.aload_n 0) 1 26 := ⟨by decide +kernel, rfl⟩
theorem dX4_dropOldest_26 : dec cX4_dropOldest 26 (.getfield 15) 3 29 := ⟨by decide +kernel, rfl⟩
theorem dX4_dropOldest_29 : dec cX4_dropOldest 29 (.iload_n 2) 1 30 := ⟨by decide +kernel, rfl⟩
theorem dX4_dropOldest_30 : dec cX4_dropOldest 30 .aaload 1 31 := ⟨by decide +kernel, rfl⟩
theorem dX4_dropOldest_31 : dec cX4_dropOldest 31 .aastore 1 32 := ⟨by decide +kernel, rfl⟩
theorem dX4_dropOldest_32 : dec cX4_dropOldest 32 (.iinc 2 1) 3 35 := ⟨by decide +kernel, rfl⟩
theorem dX4_dropOldest_35 : decJ cX4_dropOldest 35 .goto 3 38 9 := ⟨-26, by decide +kernel, rfl, rfl⟩
theorem dX4_dropOldest_38 : dec cX4_dropOldest 38 (.aload_n 0) 1 39 := ⟨by decide +kernel, rfl⟩
theorem dX4_dropOldest_39 : dec cX4_dropOldest 39 (.getfield 15) 3 42 := ⟨by decide +kernel, rfl⟩
theorem dX4_dropOldest_42 : dec cX4_dropOldest 42 (.aload_n 0) 1 43 := ⟨by decide +kernel, rfl⟩
theorem dX4_dropOldest_43 : dec cX4_dropOldest 43 (.getfield 15) 3 46 := ⟨by decide +kernel, rfl⟩
theorem dX4_dropOldest_46 : dec cX4_dropOldest 46 .arraylength 1 47 := ⟨by decide +kernel, rfl⟩
theorem dX4_dropOldest_47 : dec cX4_dropOldest 47 (.iconst 1) 1 48 := ⟨by decide +kernel, rfl⟩
theorem dX4_dropOldest_48 : dec cX4_dropOldest 48 .isub 1 49 := ⟨by decide +kernel, rfl⟩
theorem dX4_dropOldest_49 : dec cX4_dropOldest 49 (.aload_n 1) 1 50 := ⟨by decide +kernel, rfl⟩
theorem dX4_dropOldest_50 : dec cX4_dropOldest 50 .aastore 1 51 := ⟨by decide +kernel, rfl⟩
theorem dX4_dropOldest_51 : dec cX4_dropOldest 51 (.aload_n 0) 1 52 := ⟨by decide +kernel, rfl⟩
theorem dX4_dropOldest_52 : dec cX4_dropOldest 52 (.aload_n 0) 1 53 := ⟨by decide +kernel, rfl⟩
theorem dX4_dropOldest_53 : dec cX4_dropOldest 53 (.getfield 15) 3 56 := ⟨by decide +kernel, rfl⟩
theorem dX4_dropOldest_56 : dec cX4_dropOldest 56 .arraylength 1 57 := ⟨by decide +kernel, rfl⟩
theorem dX4_dropOldest_57 : dec cX4_dropOldest 57 (.iconst 1) 1 58 := ⟨by decide +kernel, rfl⟩
theorem dX4_dropOldest_58 : dec cX4_dropOldest 58 .isub 1 59 := ⟨by decide +kernel, rfl⟩
theorem dX4_dropOldest_59 : dec cX4_dropOldest 59 (.putfield 22) 3 62 := ⟨by decide +kernel, rfl⟩
theorem dX4_dropOldest_62 : dec cX4_dropOldest 62 .return_ 1 63 := ⟨by decide +kernel, rfl⟩
theorem dX4_takeInto_0 : dec cX4_takeInto 0 (.aload_n 0) 1 1 := ⟨by decide +kernel, rfl⟩
theorem dX4_takeInto_1 : dec cX4_takeInto 1 (.getfield 22) 3 4 := ⟨by decide +kernel, rfl⟩
theorem dX4_takeInto_4 : decJ cX4_takeInto 4 (.ifCond .le) 3 7 42 := ⟨38, by decide +kernel, rfl, rfl⟩
theorem dX4_takeInto_7 : dec cX4_takeInto 7 (.aload_n 0) 1 8 := ⟨by decide +kernel, rfl⟩
theorem dX4_takeInto_8 : dec cX4_takeInto 8 (.getfield 22) 3 11 := ⟨by decide +kernel, rfl⟩
theorem dX4_takeInto_11 : dec cX4_takeInto 11 (.aload_n 0) 1 12 := ⟨by decide +kernel, rfl⟩
theorem dX4_takeInto_12 : dec cX4_takeInto 12 (.getfield 15) 3 15 := ⟨by decide +kernel, rfl⟩
theorem dX4_takeInto_15 : dec cX4_takeInto 15 .arraylength 1 16 := ⟨by decide +kernel, rfl⟩
theorem dX4_takeInto_16 : decJ cX4_takeInto 16 (.if_icmp .gt) 3 19 42 := ⟨26, by decide +kernel, rfl, rfl⟩
theorem dX4_takeInto_19 : dec cX4_takeInto 19 (.aload_n 0) 1 20 := ⟨by decide +kernel, rfl⟩
theorem dX4_takeInto_20 : dec cX4_takeInto 20 .dup 1 21 := ⟨by decide +kernel, rfl⟩
theorem dX4_takeInto_21 : dec cX4_takeInto 21 (.getfield 22) 3 24 := ⟨by decide +kernel, rfl⟩
theorem dX4_takeInto_24 : dec cX4_takeInto 24 (.iconst 1) 1 25 := ⟨by decide +kernel, rfl⟩
theorem dX4_takeInto_25 : dec cX4_takeInto 25 .isub 1 26 := ⟨by decide +kernel, rfl⟩
theorem dX4_takeInto_26 : dec cX4_takeInto 26 (.putfield 22) 3 29 := ⟨by decide +kernel, rfl⟩
theorem dX4_takeInto_29 : dec cX4_takeInto 29 (.aload_n 1) 1 30 := ⟨by decide +kernel, rfl⟩
theorem dX4_takeInto_30 : dec cX4_takeInto 30 (.aload_n 0) 1 31 := ⟨by decide +kernel, rfl⟩
theorem dX4_takeInto_31 : dec cX4_takeInto 31 (.getfield 15) 3 34 := ⟨by decide +kernel, rfl⟩
theorem dX4_takeInto_34 : dec cX4_takeInto 34 (.aload_n 0) 1 35 := ⟨by decide +kernel, rfl⟩
theorem dX4_takeInto_35 : dec cX4_takeInto 35 (.getfield 22) 3 38 := ⟨by decide +kernel, rfl⟩
theorem dX4_takeInto_38 : dec cX4_takeInto 38 .aaload 1 39 := ⟨by decide +kernel, rfl⟩
theorem dX4_takeInto_39 : dec cX4_takeInto 39 (.invokevirtual 29) 3 42 := ⟨by decide +kernel, rfl⟩
theorem dX4_takeInto_42 : dec cX4_takeInto 42 .return_ 1 43 := ⟨by decide +kernel, rfl⟩
def d_X1_add (R_f : Nat → Nat → Int32) (t : Int32) (spring : Int32) (silver : Int32) : Int32 × (Nat → Nat → Int32) :=
  if (R_f 0 3) < 0 then
    ((0 : Int32), R_f)
  else
    if (R_f 0 3) < (6 : Int32) then
      ((1 : Int32), (pt (pt (pt (pt R_f 1 ((R_f 0 3).toNatClampNeg) t) 2 ((R_f 0 3).toNatClampNeg) spring) 3 ((R_f 0 3).toNatClampNeg) silver) 0 3 ((R_f 0 3) + (1 : Int32))))
    else
      ((0 : Int32), R_f)
set_option maxHeartbeats 4000000 in
set_option maxRecDepth 100000 in
theorem c_X1_add (l : Launch) (D : DD) (o_f : Nat) (R_f : Nat → Nat → Int32) (t : Int32) (spring : Int32) (silver : Int32)  (res : Int32 × (Nat → Nat → Int32)) (hres : res = d_X1_add R_f t spring silver) : Mt l D yX1_add cX1_add 4 (some .boolean) 0 0 0 0 [.ref o_f, .int t, .int spring, .int silver] (fun H => blk D ksFinds o_f R_f H) (fun v H => v = some (.int res.1) ∧ bl res.1 ∧ blk D ksFinds o_f res.2 H) (fp1 o_f 4) := by
  refine mt_of (own := RX1) (ls := [.val (.ref o_f), .val (.int t), .val (.int spring), .val (.int silver)]) rfl (by decide +kernel) rfl ?_
  intro x H C hP
  have hb_f := hP
  refine r_aload_n C dX1_add_0 rfl ?_
  refine r_get C hb_f (k := 0) rfl rfl celO_1 fw_X1_21 (z := .int (R_f 0 3)) rfl dX1_add_1 ?_
  refine r_if_lt C dX1_add_4 (fun c1 => ?_) (fun c1 => ?_)
  · skip
    refine r_iconst C dX1_add_16 (0 : Int32) (by decide) ?_
    refine r_zret C dX1_add_17 (Or.inl rfl) ?_
    have er : res = ((0 : Int32), R_f) := by rw [hres]; first | (simp only [d_X1_add, if_pos c1]; done) | contradiction
    rw [er]
    exact ⟨rfl, (Or.inl rfl), hb_f⟩
  · skip
    refine r_aload_n C dX1_add_7 rfl ?_
    refine r_get C hb_f (k := 0) rfl rfl celO_1 fw_X1_21 (z := .int (R_f 0 3)) rfl dX1_add_8 ?_
    refine r_bipush C dX1_add_11 (6 : Int32) (by decide) ?_
    refine r_ic_lt C dX1_add_13 (fun c2 => ?_) (fun c2 => ?_)
    · skip
      refine r_aload_n C dX1_add_18 rfl ?_
      refine r_get C hb_f (k := 0) rfl rfl celO_1 fw_X1_9 rfl dX1_add_19 ?_
      refine r_aload_n C dX1_add_22 rfl ?_
      refine r_get C hb_f (k := 0) rfl rfl celO_1 fw_X1_21 (z := .int (R_f 0 3)) rfl dX1_add_23 ?_
      refine r_iload_n C dX1_add_26 rfl ?_
      refine r_iast C hb_f (k := 1) rfl rfl (by unfold fp1; omega) (vp_in_lh (x_lo1 c1) (x_hi2 (N := 6) c2 (by omega)) (by omega)) (j := (R_f 0 3).toNatClampNeg) rfl dX1_add_27 (fun H3 hb5 hq4 => ?_)
      refine r_aload_n C dX1_add_28 rfl ?_
      refine r_get C hb5 (k := 0) rfl rfl celO_1 fw_X1_15 rfl dX1_add_29 ?_
      refine r_aload_n C dX1_add_32 rfl ?_
      refine r_get C hb5 (k := 0) rfl rfl celO_1 fw_X1_21 (z := .int (R_f 0 3)) rfl dX1_add_33 ?_
      refine r_iload_n C dX1_add_36 rfl ?_
      refine r_iast C hb5 (k := 2) rfl rfl (by unfold fp1; omega) (vp_in_lh (x_lo1 c1) (x_hi2 (N := 6) c2 (by omega)) (by omega)) (j := (R_f 0 3).toNatClampNeg) rfl dX1_add_37 (fun H6 hb8 hq7 => ?_)
      refine r_aload_n C dX1_add_38 rfl ?_
      refine r_get C hb8 (k := 0) rfl rfl celO_1 fw_X1_18 rfl dX1_add_39 ?_
      refine r_aload_n C dX1_add_42 rfl ?_
      refine r_get C hb8 (k := 0) rfl rfl celO_1 fw_X1_21 (z := .int (R_f 0 3)) rfl dX1_add_43 ?_
      refine r_iload_n C dX1_add_46 rfl ?_
      refine r_iast C hb8 (k := 3) rfl rfl (by unfold fp1; omega) (vp_in_lh (x_lo1 c1) (x_hi2 (N := 6) c2 (by omega)) (by omega)) (j := (R_f 0 3).toNatClampNeg) rfl dX1_add_47 (fun H9 hb11 hq10 => ?_)
      refine r_aload_n C dX1_add_48 rfl ?_
      refine r_dup C dX1_add_49 rfl ?_
      refine r_get C hb11 (k := 0) rfl rfl celO_1 fw_X1_21 (z := .int (R_f 0 3)) rfl dX1_add_50 ?_
      refine r_iconst C dX1_add_53 (1 : Int32) (by decide) ?_
      refine r_iadd C dX1_add_54 ?_
      refine r_put C hb11 (k := 0) rfl rfl (by unfold fp1; omega) fw_X1_21 fp_1_3 (Or.inr rfl) dX1_add_55 (fun H12 hb14 hq13 => ?_)
      refine r_iconst C dX1_add_58 (1 : Int32) (by decide) ?_
      refine r_zret C dX1_add_59 (Or.inr rfl) ?_
      have er : res = ((1 : Int32), (pt (pt (pt (pt R_f 1 ((R_f 0 3).toNatClampNeg) t) 2 ((R_f 0 3).toNatClampNeg) spring) 3 ((R_f 0 3).toNatClampNeg) silver) 0 3 ((R_f 0 3) + (1 : Int32)))) := by rw [hres]; first | (simp only [d_X1_add, if_neg c1, if_pos c2]; done) | contradiction
      rw [er]
      exact ⟨rfl, (Or.inr rfl), hb14⟩
    · skip
      refine r_iconst C dX1_add_16 (0 : Int32) (by decide) ?_
      refine r_zret C dX1_add_17 (Or.inl rfl) ?_
      have er : res = ((0 : Int32), R_f) := by rw [hres]; first | (simp only [d_X1_add, if_neg c1, if_neg c2]; done) | contradiction
      rw [er]
      exact ⟨rfl, (Or.inl rfl), hb_f⟩

def d_X1_lastSpring_L4 (R_f : Nat → Nat → Int32) : Nat → Int32 → Nat → Int32
  | 0, last, _ => last
  | n1 + 1, last, i =>
    if (R_f 0 3) ≤ (nI i) then
      last
    else
      if (6 : Int32) ≤ (nI i) then
        last
      else
        d_X1_lastSpring_L4 R_f n1 (imax last (R_f 2 i)) (i + 1)
def d_X1_lastSpring (R_f : Nat → Nat → Int32) : Int32 :=
  let s16 := d_X1_lastSpring_L4 R_f 7 (0 : Int32) 0
  s16
set_option maxHeartbeats 4000000 in
set_option maxRecDepth 100000 in
theorem c_X1_lastSpring (l : Launch) (D : DD) (o_f : Nat) (R_f : Nat → Nat → Int32)  (res : Int32) (hres : res = d_X1_lastSpring R_f) : Mt l D yX1_lastSpring cX1_lastSpring 3 (some .int) 1 21 0 0 [.ref o_f] (fun H => blk D ksFinds o_f R_f H) (fun v H => v = some (.int res)) fp0 := by
  refine mt_of (own := RX1) (ls := [.val (.ref o_f), .unset, .unset]) rfl (by decide +kernel) rfl ?_
  intro x H C hP
  have hb_f := hP
  refine r_iconst C dX1_lastSpring_0 (0 : Int32) (by decide) ?_
  refine r_istore_n C dX1_lastSpring_1 (ls' := [.val (.ref o_f), .val (.int (0 : Int32)), .unset]) rfl trivial rfl ?_
  refine r_iconst C dX1_lastSpring_2 (0 : Int32) (by decide) ?_
  refine r_istore_n C dX1_lastSpring_3 (ls' := [.val (.ref o_f), .val (.int (0 : Int32)), .val (.int (0 : Int32))]) rfl trivial rfl ?_
  have d_X1_lastSpring_L4_w : ∀ (n1 : Nat) (last : Int32) (i : Nat) (H6 : Heap), True → (i ≤ 6) → (6 - i < n1) → blk D ksFinds o_f R_f H6 → ∀ s3 : Int32, s3 = d_X1_lastSpring_L4 R_f n1 last i → (∀ (H' : Heap) (z7 : Slot) (_ : slot1 z7), True → blk D ksFinds o_f R_f H' → WG x fp0 (Fin x (fun v H => v = some (.int res)) fp0 0 0) H' 0 0 35 [.val (.ref o_f), .val (.int s3), z7] []) → WG x fp0 (Fin x (fun v H => v = some (.int res)) fp0 0 0) H6 0 0 4 [.val (.ref o_f), .val (.int last), .val (.int (nI i))] [] := by
    intro n1
    induction n1 with
    | zero => intro last i H6  _ hi hm8; exact absurd hm8 (Nat.not_lt_zero _)
    | succ n1 ih2 =>
      intro last i H6  _ hi hm8 hb5 s3 hs3  kx4
      refine r_iload_n C dX1_lastSpring_4 rfl ?_
      refine r_aload_n C dX1_lastSpring_5 rfl ?_
      refine r_get C hb5 (k := 0) rfl rfl celO_1 fw_X1_21 (z := .int (R_f 0 3)) rfl dX1_lastSpring_6 ?_
      refine r_ic_ge C dX1_lastSpring_9 (fun c9 => ?_) (fun c9 => ?_)
      · skip
        have e10 : s3 = last := by rw [hs3]; first | (simp only [d_X1_lastSpring_L4, if_pos c9]; done) | contradiction
        rw [e10] at kx4
        exact kx4 _ (.val (.int (nI i))) rfl trivial  hb5
      · skip
        refine r_iload_n C dX1_lastSpring_12 rfl ?_
        refine r_bipush C dX1_lastSpring_13 (6 : Int32) (by decide) ?_
        refine r_ic_ge C dX1_lastSpring_15 (fun c11 => ?_) (fun c11 => ?_)
        · skip
          have f12 : (6 ≤ i) := nf_leI (by omega) (by omega) rfl rfl c11
          have e13 : s3 = last := by rw [hs3]; first | (simp only [d_X1_lastSpring_L4, if_neg c9, if_pos c11]; done) | contradiction
          rw [e13] at kx4
          exact kx4 _ (.val (.int (nI i))) rfl trivial  hb5
        · skip
          have f14 : ¬ (6 ≤ i) := nf_leIn (by omega) (by omega) rfl rfl c11
          refine r_iload_n C dX1_lastSpring_18 rfl ?_
          refine r_aload_n C dX1_lastSpring_19 rfl ?_
          refine r_get C hb5 (k := 0) rfl rfl celO_1 fw_X1_15 rfl dX1_lastSpring_20 ?_
          refine r_iload_n C dX1_lastSpring_23 rfl ?_
          refine r_iald C hb5 (k := 2) rfl rfl (vp_in_n rfl (by omega) (by omega)) (j := i) (cl_n rfl (by omega)) dX1_lastSpring_24 ?_
          refine r_mmax C mw_X1_25 rfl ⟨Nat.le_of_ble_eq_true rfl, Nat.le_of_ble_eq_true rfl, Nat.le_refl 0, Nat.le_refl 0⟩ dX1_lastSpring_25 ?_
          refine r_istore_n C dX1_lastSpring_28 (ls' := [.val (.ref o_f), .val (.int (imax last (R_f 2 i))), .val (.int (nI i))]) rfl rfl rfl ?_
          refine r_iinc C dX1_lastSpring_29 (nI (i + 1)) rfl (nI_inc i rfl) (ls' := [.val (.ref o_f), .val (.int (imax last (R_f 2 i))), .val (.int (nI (i + 1)))]) rfl ?_
          refine r_goto C dX1_lastSpring_32 ?_
          have e15 : s3 = d_X1_lastSpring_L4 R_f n1 (imax last (R_f 2 i)) (i + 1) := by rw [hs3]; first | (simp only [d_X1_lastSpring_L4, if_neg c9, if_neg c11]; done) | contradiction
          exact ih2 (imax last (R_f 2 i)) (i + 1) _  trivial (by omega) (by omega) hb5 s3 e15  kx4
  obtain ⟨s16, hs16⟩ : ∃ r, r = d_X1_lastSpring_L4 R_f 7 (0 : Int32) 0 := ⟨_, rfl⟩
  refine d_X1_lastSpring_L4_w 7 (0 : Int32) 0 _  trivial (by omega) (by omega) hb_f s16 hs16  (fun H18 z7 hz7 e19  hb17 => ?_)
  refine r_iload_n C dX1_lastSpring_35 rfl ?_
  refine r_iret C dX1_lastSpring_36 ?_
  have er : res = s16 := by rw [hres]; first | (simp only [d_X1_lastSpring, ← hs16]; done) | contradiction
  rw [er]

def d_X1_agree_L2 (R_f : Nat → Nat → Int32) (R_r : Nat → Nat → Int32) (spring : Int32) : Nat → Nat → (Int32) ⊕ (Unit)
  | 0, _ => .inr ()
  | n1 + 1, i =>
    if (R_f 0 3) ≤ (nI i) then
      .inr ()
    else
      if (6 : Int32) ≤ (nI i) then
        .inr ()
      else
        match d_X3_townAt R_r (R_f 1 i) with
        | none =>
          if (R_f 2 i) = spring then
            .inl (0 : Int32)
          else
            d_X1_agree_L2 R_f R_r spring n1 (i + 1)
        | some k26 =>
          if (R_f 2 i) = spring then
            if (R_r (3 + k26) 3) = (R_f 3 i) then
              d_X1_agree_L2 R_f R_r spring n1 (i + 1)
            else
              .inl (0 : Int32)
          else
            d_X1_agree_L2 R_f R_r spring n1 (i + 1)
def d_X1_agree (R_f : Nat → Nat → Int32) (R_r : Nat → Nat → Int32) (spring : Int32) : Int32 :=
  match d_X1_agree_L2 R_f R_r spring 7 0 with
  | .inl r => r
  | .inr w36 =>
    (1 : Int32)
set_option maxHeartbeats 4000000 in
set_option maxRecDepth 100000 in
theorem c_X1_agree (l : Launch) (D : DD) (o_f o_r : Nat) (R_f : Nat → Nat → Int32) (R_r : Nat → Nat → Int32) (spring : Int32)  (res : Int32) (hres : res = d_X1_agree R_f R_r spring) : Mt l D yX1_agree cX1_agree 5 (some .boolean) 1 21 0 0 [.ref o_f, .ref o_r, .int spring] (fun H => blk D ksFinds o_f R_f H ∧ blk D ksRiver o_r R_r H) (fun v H => v = some (.int res) ∧ bl res) fp0 := by
  refine mt_of (own := RX1) (ls := [.val (.ref o_f), .val (.ref o_r), .val (.int spring), .unset, .unset]) rfl (by decide +kernel) rfl ?_
  intro x H C hP
  obtain ⟨hb_f, hb_r⟩ := hP
  refine r_iconst C dX1_agree_0 (0 : Int32) (by decide) ?_
  refine r_istore_n C dX1_agree_1 (ls' := [.val (.ref o_f), .val (.ref o_r), .val (.int spring), .val (.int (0 : Int32)), .unset]) rfl trivial rfl ?_
  have d_X1_agree_L2_w : ∀ (n1 : Nat) (i : Nat) (H8 : Heap) (z5 : Slot) (_ : slot1 z5), True → (i ≤ 6) → (6 - i < n1) → blk D ksFinds o_f R_f H8 → blk D ksRiver o_r R_r H8 → ∀ s3 : (Int32) ⊕ (Unit), s3 = d_X1_agree_L2 R_f R_r spring n1 i → (∀ r, s3 = .inl r → res = r) → (∀ (w9 : Unit) (H' : Heap) (z10 : Slot) (_ : slot1 z10) (z11 : Slot) (_ : slot1 z11), s3 = .inr w9 → blk D ksFinds o_f R_f H' → blk D ksRiver o_r R_r H' → WG x fp0 (Fin x (fun v H => v = some (.int res) ∧ bl res) fp0 0 0) H' 0 0 65 [.val (.ref o_f), .val (.ref o_r), .val (.int spring), z10, z11] []) → WG x fp0 (Fin x (fun v H => v = some (.int res) ∧ bl res) fp0 0 0) H8 0 0 2 [.val (.ref o_f), .val (.ref o_r), .val (.int spring), .val (.int (nI i)), z5] [] := by
    intro n1
    induction n1 with
    | zero => intro i H8 z5 hz5 _ hi hm12; exact absurd hm12 (Nat.not_lt_zero _)
    | succ n1 ih2 =>
      intro i H8 z5 hz5 _ hi hm12 hb6 hb7 s3 hs3 hr13 kx4
      refine r_iload_n C dX1_agree_2 rfl ?_
      refine r_aload_n C dX1_agree_3 rfl ?_
      refine r_get C hb6 (k := 0) rfl rfl celO_1 fw_X1_21 (z := .int (R_f 0 3)) rfl dX1_agree_4 ?_
      refine r_ic_ge C dX1_agree_7 (fun c14 => ?_) (fun c14 => ?_)
      · skip
        have e15 : s3 = .inr () := by rw [hs3]; first | (simp only [d_X1_agree_L2, if_pos c14]; done) | contradiction
        exact kx4 () _ (.val (.int (nI i))) rfl z5 hz5 e15  hb6 hb7
      · skip
        refine r_iload_n C dX1_agree_10 rfl ?_
        refine r_bipush C dX1_agree_11 (6 : Int32) (by decide) ?_
        refine r_ic_ge C dX1_agree_13 (fun c16 => ?_) (fun c16 => ?_)
        · skip
          have f17 : (6 ≤ i) := nf_leI (by omega) (by omega) rfl rfl c16
          have e18 : s3 = .inr () := by rw [hs3]; first | (simp only [d_X1_agree_L2, if_neg c14, if_pos c16]; done) | contradiction
          exact kx4 () _ (.val (.int (nI i))) rfl z5 hz5 e18  hb6 hb7
        · skip
          have f19 : ¬ (6 ≤ i) := nf_leIn (by omega) (by omega) rfl rfl c16
          refine r_aload_n C dX1_agree_16 rfl ?_
          refine r_aload_n C dX1_agree_17 rfl ?_
          refine r_get C hb6 (k := 0) rfl rfl celO_1 fw_X1_9 rfl dX1_agree_18 ?_
          refine r_iload_n C dX1_agree_21 rfl ?_
          refine r_iald C hb6 (k := 1) rfl rfl (vp_in_n rfl (by omega) (by omega)) (j := i) (cl_n rfl (by omega)) dX1_agree_22 ?_
          obtain ⟨u20, hu20⟩ : ∃ r, r = d_X3_townAt R_r (R_f 1 i) := ⟨_, rfl⟩
          refine r_callV0 C cw_X1_31 (fun l => c_X3_townAt l D o_r R_r (R_f 1 i) u20 hu20) (rest := []) hb7 (k := 0) rfl rfl celO_3 hb7 (fun q h => h.elim) rfl rfl rfl (Nat.le_of_ble_eq_true rfl) ⟨Nat.le_of_ble_eq_true rfl, Nat.le_of_ble_eq_true rfl, Nat.le_refl 0, Nat.le_refl 0⟩ dX1_agree_23 (fun v H21 hp22 hq23 => ?_)
          subst hp22
          have hb24 := blk_kept hb6 (n := 4) rfl (fun q h1 h2 => hq23 q (fun h => h))
          have hb25 := blk_kept hb7 (n := 15) rfl (fun q h1 h2 => hq23 q (fun h => h))
          obtain ho27 | ⟨k26, ho27⟩ := opt_or u20
          · have hu20' : d_X3_townAt R_r (R_f 1 i) = none := by rw [← hu20, ho27]
            rw [ho27]; dsimp only [psh, optT, optC]
            refine r_astoreN C dX1_agree_26 (ls' := [.val (.ref o_f), .val (.ref o_r), .val (.int spring), .val (.int (nI i)), .val (.null)]) rfl hz5 rfl ?_
            refine r_aload_n C dX1_agree_28 rfl ?_
            refine r_get C hb24 (k := 0) rfl rfl celO_1 fw_X1_15 rfl dX1_agree_29 ?_
            refine r_iload_n C dX1_agree_32 rfl ?_
            refine r_iald C hb24 (k := 2) rfl rfl (vp_in_n rfl (by omega) (by omega)) (j := i) (cl_n rfl (by omega)) dX1_agree_33 ?_
            refine r_iload_n C dX1_agree_34 rfl ?_
            refine r_ic_ne C dX1_agree_35 (fun c28 => ?_) (fun c28 => ?_)
            · skip
              refine r_iinc C dX1_agree_59 (nI (i + 1)) rfl (nI_inc i rfl) (ls' := [.val (.ref o_f), .val (.ref o_r), .val (.int spring), .val (.int (nI (i + 1))), .val (.null)]) rfl ?_
              refine r_goto C dX1_agree_62 ?_
              have e29 : s3 = d_X1_agree_L2 R_f R_r spring n1 (i + 1) := by rw [hs3]; first | (simp only [d_X1_agree_L2, hu20', if_neg c14, if_neg c16, if_neg c28]; done) | contradiction
              exact ih2 (i + 1) _ (.val (.null)) rfl trivial (by omega) (by omega) hb24 hb25 s3 e29 hr13 kx4
            · skip
              refine r_aloadN C dX1_agree_38 rfl ?_
              refine r_ifnullN C dX1_agree_40 ?_
              refine r_iconst C dX1_agree_57 (0 : Int32) (by decide) ?_
              refine r_zret C dX1_agree_58 (Or.inl rfl) ?_
              have er : res = (0 : Int32) := hr13 _ (by rw [hs3]; first | (simp only [d_X1_agree_L2, hu20', if_neg c14, if_neg c16, if_pos c28]; done) | contradiction)
              rw [er]
              exact ⟨rfl, (Or.inl rfl)⟩
          · have hu20' : d_X3_townAt R_r (R_f 1 i) = some k26 := by rw [← hu20, ho27]
            rw [ho27]; dsimp only [psh, optT, optC]
            have fk30 := X3_townAt_lt hu20'
            refine r_astore C dX1_agree_26 (ls' := [.val (.ref o_f), .val (.ref o_r), .val (.int spring), .val (.int (nI i)), .val (.ref (o_r + 3 + k26))]) rfl hz5 rfl ?_
            refine r_aload_n C dX1_agree_28 rfl ?_
            refine r_get C hb24 (k := 0) rfl rfl celO_1 fw_X1_15 rfl dX1_agree_29 ?_
            refine r_iload_n C dX1_agree_32 rfl ?_
            refine r_iald C hb24 (k := 2) rfl rfl (vp_in_n rfl (by omega) (by omega)) (j := i) (cl_n rfl (by omega)) dX1_agree_33 ?_
            refine r_iload_n C dX1_agree_34 rfl ?_
            refine r_ic_ne C dX1_agree_35 (fun c31 => ?_) (fun c31 => ?_)
            · skip
              refine r_iinc C dX1_agree_59 (nI (i + 1)) rfl (nI_inc i rfl) (ls' := [.val (.ref o_f), .val (.ref o_r), .val (.int spring), .val (.int (nI (i + 1))), .val (.ref (o_r + 3 + k26))]) rfl ?_
              refine r_goto C dX1_agree_62 ?_
              have e32 : s3 = d_X1_agree_L2 R_f R_r spring n1 (i + 1) := by rw [hs3]; first | (simp only [d_X1_agree_L2, hu20', if_neg c14, if_neg c16, if_neg c31]; done) | contradiction
              exact ih2 (i + 1) _ (.val (.ref (o_r + 3 + k26))) rfl trivial (by omega) (by omega) hb24 hb25 s3 e32 hr13 kx4
            · skip
              refine r_aload C dX1_agree_38 rfl ?_
              refine r_ifnull C dX1_agree_40 ?_
              refine r_aload C dX1_agree_43 rfl ?_
              refine r_get C hb25 (k := (3 + k26)) (kRiver_3_1 _ fk30) (by omega) celO_5 fw_X1_37 (z := .int (R_r (3 + k26) 3)) rfl dX1_agree_45 ?_
              refine r_aload_n C dX1_agree_48 rfl ?_
              refine r_get C hb24 (k := 0) rfl rfl celO_1 fw_X1_18 rfl dX1_agree_49 ?_
              refine r_iload_n C dX1_agree_52 rfl ?_
              refine r_iald C hb24 (k := 3) rfl rfl (vp_in_n rfl (by omega) (by omega)) (j := i) (cl_n rfl (by omega)) dX1_agree_53 ?_
              refine r_ic_eq C dX1_agree_54 (fun c33 => ?_) (fun c33 => ?_)
              · skip
                refine r_iinc C dX1_agree_59 (nI (i + 1)) rfl (nI_inc i rfl) (ls' := [.val (.ref o_f), .val (.ref o_r), .val (.int spring), .val (.int (nI (i + 1))), .val (.ref (o_r + 3 + k26))]) rfl ?_
                refine r_goto C dX1_agree_62 ?_
                have e34 : s3 = d_X1_agree_L2 R_f R_r spring n1 (i + 1) := by rw [hs3]; first | (simp only [d_X1_agree_L2, hu20', if_neg c14, if_neg c16, if_pos c31, if_pos c33]; done) | contradiction
                exact ih2 (i + 1) _ (.val (.ref (o_r + 3 + k26))) rfl trivial (by omega) (by omega) hb24 hb25 s3 e34 hr13 kx4
              · skip
                refine r_iconst C dX1_agree_57 (0 : Int32) (by decide) ?_
                refine r_zret C dX1_agree_58 (Or.inl rfl) ?_
                have er : res = (0 : Int32) := hr13 _ (by rw [hs3]; first | (simp only [d_X1_agree_L2, hu20', if_neg c14, if_neg c16, if_pos c31, if_neg c33]; done) | contradiction)
                rw [er]
                exact ⟨rfl, (Or.inl rfl)⟩
  obtain ⟨s35, hs35⟩ : ∃ r, r = d_X1_agree_L2 R_f R_r spring 7 0 := ⟨_, rfl⟩
  refine d_X1_agree_L2_w 7 0 _ .unset trivial trivial (by omega) (by omega) hb_f hb_r s35 hs35 (fun r e => by rw [hres]; rw [hs35] at e; simp only [d_X1_agree, e]) (fun w36 H39 z10 hz10 z11 hz11 e40  hb37 hb38 => ?_)
  have hx41 : d_X1_agree_L2 R_f R_r spring 7 0 = .inr w36 := by rw [← hs35]; exact e40
  refine r_iconst C dX1_agree_65 (1 : Int32) (by decide) ?_
  refine r_zret C dX1_agree_66 (Or.inr rfl) ?_
  have er : res = (1 : Int32) := by rw [hres]; first | (simp only [d_X1_agree, hx41]; done) | contradiction
  rw [er]
  exact ⟨rfl, (Or.inr rfl)⟩

def d_X2_numbersBehind (letter : Int32) : Int32 :=
  if letter = (116 : Int32) then
    (4 : Int32)
  else
    if letter = (99 : Int32) then
      (2 : Int32)
    else
      if letter = (119 : Int32) then
        (2 : Int32)
      else
        if letter = (98 : Int32) then
          (1 : Int32)
        else
          (0 : Int32)
set_option maxHeartbeats 4000000 in
set_option maxRecDepth 100000 in
theorem c_X2_numbersBehind (l : Launch) (D : DD) (letter : Int32)  (res : Int32) (hres : res = d_X2_numbersBehind letter) : Mt l D yX2_numbersBehind cX2_numbersBehind 1 (some .int) 0 0 0 0 [.int letter] (fun H => True) (fun v H => v = some (.int res)) fp0 := by
  refine mt_of (own := RX2) (ls := [.val (.int letter)]) rfl (by decide +kernel) rfl ?_
  intro x H C hP
  refine r_iload_n C dX2_numbersBehind_0 rfl ?_
  refine r_bipush C dX2_numbersBehind_1 (116 : Int32) (by decide) ?_
  refine r_ic_ne C dX2_numbersBehind_3 (fun c1 => ?_) (fun c1 => ?_)
  · skip
    refine r_iload_n C dX2_numbersBehind_8 rfl ?_
    refine r_bipush C dX2_numbersBehind_9 (99 : Int32) (by decide) ?_
    refine r_ic_eq C dX2_numbersBehind_11 (fun c2 => ?_) (fun c2 => ?_)
    · skip
      refine r_iconst C dX2_numbersBehind_20 (2 : Int32) (by decide) ?_
      refine r_iret C dX2_numbersBehind_21 ?_
      have er : res = (2 : Int32) := by rw [hres]; first | (simp only [d_X2_numbersBehind, if_neg c1, if_pos c2]; done) | contradiction
      rw [er]
    · skip
      refine r_iload_n C dX2_numbersBehind_14 rfl ?_
      refine r_bipush C dX2_numbersBehind_15 (119 : Int32) (by decide) ?_
      refine r_ic_ne C dX2_numbersBehind_17 (fun c3 => ?_) (fun c3 => ?_)
      · skip
        refine r_iload_n C dX2_numbersBehind_22 rfl ?_
        refine r_bipush C dX2_numbersBehind_23 (98 : Int32) (by decide) ?_
        refine r_ic_ne C dX2_numbersBehind_25 (fun c4 => ?_) (fun c4 => ?_)
        · skip
          refine r_iconst C dX2_numbersBehind_32 (0 : Int32) (by decide) ?_
          refine r_iret C dX2_numbersBehind_33 ?_
          have er : res = (0 : Int32) := by rw [hres]; first | (simp only [d_X2_numbersBehind, if_neg c1, if_neg c2, if_neg c3, if_neg c4]; done) | contradiction
          rw [er]
        · skip
          refine r_iconst C dX2_numbersBehind_28 (1 : Int32) (by decide) ?_
          refine r_goto C dX2_numbersBehind_29 ?_
          refine r_iret C dX2_numbersBehind_33 ?_
          have er : res = (1 : Int32) := by rw [hres]; first | (simp only [d_X2_numbersBehind, if_neg c1, if_neg c2, if_neg c3, if_pos c4]; done) | contradiction
          rw [er]
      · skip
        refine r_iconst C dX2_numbersBehind_20 (2 : Int32) (by decide) ?_
        refine r_iret C dX2_numbersBehind_21 ?_
        have er : res = (2 : Int32) := by rw [hres]; first | (simp only [d_X2_numbersBehind, if_neg c1, if_neg c2, if_pos c3]; done) | contradiction
        rw [er]
  · skip
    refine r_iconst C dX2_numbersBehind_6 (4 : Int32) (by decide) ?_
    refine r_iret C dX2_numbersBehind_7 ?_
    have er : res = (4 : Int32) := by rw [hres]; first | (simp only [d_X2_numbersBehind, if_pos c1]; done) | contradiction
    rw [er]

def d_X2_isFigure (R_x : Nat → Nat → Int32) (m : Nat) (e0 : Int32) (p : Int32) : Int32 :=
  if p < 0 then
    (0 : Int32)
  else
    if e0 ≤ p then
      (0 : Int32)
    else
      if (nI m) ≤ p then
        (0 : Int32)
      else
        if (R_x 0 p.toNatClampNeg) < (48 : Int32) then
          (0 : Int32)
        else
          if (57 : Int32) < (R_x 0 p.toNatClampNeg) then
            (0 : Int32)
          else
            (1 : Int32)
set_option maxHeartbeats 4000000 in
set_option maxRecDepth 100000 in
theorem c_X2_isFigure (l : Launch) (D : DD) (o_x : Nat) (R_x : Nat → Nat → Int32) (m : Nat) (e0 : Int32) (p : Int32) (hm : m ≤ 200) (res : Int32) (hres : res = d_X2_isFigure R_x m e0 p) : Mt l D yX2_isFigure cX2_isFigure 3 (some .boolean) 0 0 0 0 [.ref o_x, .int e0, .int p] (fun H => blk D (ksCh m) o_x R_x H) (fun v H => v = some (.int res) ∧ bl res) fp0 := by
  refine mt_of (own := RX2) (ls := [.val (.ref o_x), .val (.int e0), .val (.int p)]) rfl (by decide +kernel) rfl ?_
  intro x H C hP
  have hb_x := hP
  refine r_iload_n C dX2_isFigure_0 rfl ?_
  refine r_if_lt C dX2_isFigure_1 (fun c1 => ?_) (fun c1 => ?_)
  · skip
    refine r_iconst C dX2_isFigure_35 (0 : Int32) (by decide) ?_
    refine r_zret C dX2_isFigure_36 (Or.inl rfl) ?_
    have er : res = (0 : Int32) := by rw [hres]; first | (simp only [d_X2_isFigure, if_pos c1]; done) | contradiction
    rw [er]
    exact ⟨rfl, (Or.inl rfl)⟩
  · skip
    refine r_iload_n C dX2_isFigure_4 rfl ?_
    refine r_iload_n C dX2_isFigure_5 rfl ?_
    refine r_ic_ge C dX2_isFigure_6 (fun c2 => ?_) (fun c2 => ?_)
    · skip
      refine r_iconst C dX2_isFigure_35 (0 : Int32) (by decide) ?_
      refine r_zret C dX2_isFigure_36 (Or.inl rfl) ?_
      have er : res = (0 : Int32) := by rw [hres]; first | (simp only [d_X2_isFigure, if_neg c1, if_pos c2]; done) | contradiction
      rw [er]
      exact ⟨rfl, (Or.inl rfl)⟩
    · skip
      refine r_iload_n C dX2_isFigure_9 rfl ?_
      refine r_aload_n C dX2_isFigure_10 rfl ?_
      refine r_alen C hb_x (k := 0) rfl rfl m (Or.inr (Or.inl ⟨rfl, rfl⟩)) dX2_isFigure_11 ?_
      refine r_ic_ge C dX2_isFigure_12 (fun c3 => ?_) (fun c3 => ?_)
      · skip
        refine r_iconst C dX2_isFigure_35 (0 : Int32) (by decide) ?_
        refine r_zret C dX2_isFigure_36 (Or.inl rfl) ?_
        have er : res = (0 : Int32) := by rw [hres]; first | (simp only [d_X2_isFigure, if_neg c1, if_neg c2, if_pos c3]; done) | contradiction
        rw [er]
        exact ⟨rfl, (Or.inl rfl)⟩
      · skip
        refine r_aload_n C dX2_isFigure_15 rfl ?_
        refine r_iload_n C dX2_isFigure_16 rfl ?_
        refine r_cald C hb_x (k := 0) rfl rfl (vp_in_lh (x_lo1 c1) (x_hi1 (N := m) c3 (by omega)) (by omega)) (j := p.toNatClampNeg) rfl dX2_isFigure_17 ?_
        refine r_bipush C dX2_isFigure_18 (48 : Int32) (by decide) ?_
        refine r_ic_lt C dX2_isFigure_20 (fun c4 => ?_) (fun c4 => ?_)
        · skip
          refine r_iconst C dX2_isFigure_35 (0 : Int32) (by decide) ?_
          refine r_zret C dX2_isFigure_36 (Or.inl rfl) ?_
          have er : res = (0 : Int32) := by rw [hres]; first | (simp only [d_X2_isFigure, if_neg c1, if_neg c2, if_neg c3, if_pos c4]; done) | contradiction
          rw [er]
          exact ⟨rfl, (Or.inl rfl)⟩
        · skip
          refine r_aload_n C dX2_isFigure_23 rfl ?_
          refine r_iload_n C dX2_isFigure_24 rfl ?_
          refine r_cald C hb_x (k := 0) rfl rfl (vp_in_lh (x_lo1 c1) (x_hi1 (N := m) c3 (by omega)) (by omega)) (j := p.toNatClampNeg) rfl dX2_isFigure_25 ?_
          refine r_bipush C dX2_isFigure_26 (57 : Int32) (by decide) ?_
          refine r_ic_gt C dX2_isFigure_28 (fun c5 => ?_) (fun c5 => ?_)
          · skip
            refine r_iconst C dX2_isFigure_35 (0 : Int32) (by decide) ?_
            refine r_zret C dX2_isFigure_36 (Or.inl rfl) ?_
            have er : res = (0 : Int32) := by rw [hres]; first | (simp only [d_X2_isFigure, if_neg c1, if_neg c2, if_neg c3, if_neg c4, if_pos c5]; done) | contradiction
            rw [er]
            exact ⟨rfl, (Or.inl rfl)⟩
          · skip
            refine r_iconst C dX2_isFigure_31 (1 : Int32) (by decide) ?_
            refine r_goto C dX2_isFigure_32 ?_
            refine r_zret C dX2_isFigure_36 (Or.inr rfl) ?_
            have er : res = (1 : Int32) := by rw [hres]; first | (simp only [d_X2_isFigure, if_neg c1, if_neg c2, if_neg c3, if_neg c4, if_neg c5]; done) | contradiction
            rw [er]
            exact ⟨rfl, (Or.inr rfl)⟩
theorem X2_isFigure_in {R : Nat → Nat → Int32} {m : Nat} {e0 p u : Int32} (hu : u = d_X2_isFigure R m e0 p) (h : ¬ u = 0) (hm : m < 2 ^ 31) : vp_in p m := by
  subst hu
  unfold d_X2_isFigure at h
  split at h
  · exact absurd rfl h
  · rename_i h1
    split at h
    · exact absurd rfl h
    · split at h
      · exact absurd rfl h
      · rename_i h3
        exact vp_in_lh (x_lo1 h1) (x_hi1 h3 hm) (Nat.le_refl _)
def d_X2_figuresAt (R_x : Nat → Nat → Int32) (m : Nat) (e0 : Int32) (p : Int32) : Int32 :=
  let u1 := d_X2_isFigure R_x m e0 p
  if u1 = 0 then
    (0 : Int32)
  else
    let u8 := d_X2_isFigure R_x m e0 (p + (1 : Int32))
    if u8 = 0 then
      (1 : Int32)
    else
      (2 : Int32)
set_option maxHeartbeats 4000000 in
set_option maxRecDepth 100000 in
theorem c_X2_figuresAt (l : Launch) (D : DD) (o_x : Nat) (R_x : Nat → Nat → Int32) (m : Nat) (e0 : Int32) (p : Int32) (hm : m ≤ 200) (res : Int32) (hres : res = d_X2_figuresAt R_x m e0 p) : Mt l D yX2_figuresAt cX2_figuresAt 3 (some .int) 1 22 0 0 [.ref o_x, .int e0, .int p] (fun H => blk D (ksCh m) o_x R_x H) (fun v H => v = some (.int res)) fp0 := by
  refine mt_of (own := RX2) (ls := [.val (.ref o_x), .val (.int e0), .val (.int p)]) rfl (by decide +kernel) rfl ?_
  intro x H C hP
  have hb_x := hP
  refine r_aload_n C dX2_figuresAt_0 rfl ?_
  refine r_iload_n C dX2_figuresAt_1 rfl ?_
  refine r_iload_n C dX2_figuresAt_2 rfl ?_
  obtain ⟨u1, hu1⟩ : ∃ r, r = d_X2_isFigure R_x m e0 p := ⟨_, rfl⟩
  refine r_callS0 C cw_X2_45 (fun l => c_X2_isFigure l D o_x R_x m e0 p (by omega) u1 hu1) (rest := []) hb_x (fun q h => h.elim) rfl rfl rfl (Nat.le_of_ble_eq_true rfl) ⟨Nat.le_of_ble_eq_true rfl, Nat.le_of_ble_eq_true rfl, Nat.le_refl 0, Nat.le_refl 0⟩ dX2_figuresAt_3 (fun v H2 hp3 hq4 => ?_)
  obtain ⟨rfl, hl5⟩ := hp3
  have hb6 := blk_kept hb_x (n := 1) rfl (fun q h1 h2 => hq4 q (fun h => h))
  dsimp only [psh]
  refine r_if_ne C dX2_figuresAt_6 (fun c7 => ?_) (fun c7 => ?_)
  · skip
    refine r_aload_n C dX2_figuresAt_11 rfl ?_
    refine r_iload_n C dX2_figuresAt_12 rfl ?_
    refine r_iload_n C dX2_figuresAt_13 rfl ?_
    refine r_iconst C dX2_figuresAt_14 (1 : Int32) (by decide) ?_
    refine r_iadd C dX2_figuresAt_15 ?_
    obtain ⟨u8, hu8⟩ : ∃ r, r = d_X2_isFigure R_x m e0 (p + (1 : Int32)) := ⟨_, rfl⟩
    refine r_callS0 C cw_X2_45 (fun l => c_X2_isFigure l D o_x R_x m e0 (p + (1 : Int32)) (by omega) u8 hu8) (rest := []) hb6 (fun q h => h.elim) rfl rfl rfl (Nat.le_of_ble_eq_true rfl) ⟨Nat.le_of_ble_eq_true rfl, Nat.le_of_ble_eq_true rfl, Nat.le_refl 0, Nat.le_refl 0⟩ dX2_figuresAt_16 (fun v H9 hp10 hq11 => ?_)
    obtain ⟨rfl, hl12⟩ := hp10
    have hb13 := blk_kept hb6 (n := 1) rfl (fun q h1 h2 => hq11 q (fun h => h))
    dsimp only [psh]
    refine r_if_eq C dX2_figuresAt_19 (fun c14 => ?_) (fun c14 => ?_)
    · skip
      refine r_iconst C dX2_figuresAt_26 (1 : Int32) (by decide) ?_
      refine r_iret C dX2_figuresAt_27 ?_
      have er : res = (1 : Int32) := by rw [hres]; first | (simp only [d_X2_figuresAt, ← hu1, ← hu8, if_neg c7, if_pos c14]; done) | contradiction
      rw [er]
    · skip
      refine r_iconst C dX2_figuresAt_22 (2 : Int32) (by decide) ?_
      refine r_goto C dX2_figuresAt_23 ?_
      refine r_iret C dX2_figuresAt_27 ?_
      have er : res = (2 : Int32) := by rw [hres]; first | (simp only [d_X2_figuresAt, ← hu1, ← hu8, if_neg c7, if_neg c14]; done) | contradiction
      rw [er]
  · skip
    refine r_iconst C dX2_figuresAt_9 (0 : Int32) (by decide) ?_
    refine r_iret C dX2_figuresAt_10 ?_
    have er : res = (0 : Int32) := by rw [hres]; first | (simp only [d_X2_figuresAt, ← hu1, if_pos c7]; done) | contradiction
    rw [er]

def d_X2_numberAt_L6 (R_x : Nat → Nat → Int32) (m : Nat) (e0 : Int32) (p : Int32) (fg : Int32) : Nat → Int32 → Int32 → Int32
  | 0, number, _ => number
  | n1 + 1, number, i =>
    if (nI (p.toNatClampNeg + fg.toNatClampNeg)) ≤ i then
      number
    else
      let u13 := d_X2_isFigure R_x m e0 i
      if u13 = 0 then
        number
      else
        d_X2_numberAt_L6 R_x m e0 p fg n1 (((10 : Int32) * number) + ((R_x 0 i.toNatClampNeg) - (48 : Int32))) (nI (i.toNatClampNeg + 1))
def d_X2_numberAt (R_x : Nat → Nat → Int32) (m : Nat) (e0 : Int32) (p : Int32) (fg : Int32) : Int32 :=
  let s23 := d_X2_numberAt_L6 R_x m e0 p fg 3 (0 : Int32) p
  s23
set_option maxHeartbeats 4000000 in
set_option maxRecDepth 100000 in
theorem c_X2_numberAt (l : Launch) (D : DD) (o_x : Nat) (R_x : Nat → Nat → Int32) (m : Nat) (e0 : Int32) (p : Int32) (fg : Int32) (hm : m ≤ 200) (hp : p = nI p.toNatClampNeg) (hlp : p.toNatClampNeg ≤ 300) (hfg : fg = nI fg.toNatClampNeg) (hlfg : fg.toNatClampNeg ≤ 2) (res : Int32) (hres : res = d_X2_numberAt R_x m e0 p fg) : Mt l D yX2_numberAt cX2_numberAt 6 (some .int) 1 22 0 0 [.ref o_x, .int e0, .int p, .int fg] (fun H => blk D (ksCh m) o_x R_x H) (fun v H => v = some (.int res)) fp0 := by
  refine mt_of (own := RX2) (ls := [.val (.ref o_x), .val (.int e0), .val (.int p), .val (.int fg), .unset, .unset]) rfl (by decide +kernel) rfl ?_
  intro x H C hP
  have hb_x := hP
  refine r_iconst C dX2_numberAt_0 (0 : Int32) (by decide) ?_
  refine r_istore C dX2_numberAt_1 (ls' := [.val (.ref o_x), .val (.int e0), .val (.int p), .val (.int fg), .val (.int (0 : Int32)), .unset]) rfl trivial rfl ?_
  refine r_iload_n C dX2_numberAt_3 rfl ?_
  refine r_istore C dX2_numberAt_4 (ls' := [.val (.ref o_x), .val (.int e0), .val (.int p), .val (.int fg), .val (.int (0 : Int32)), .val (.int p)]) rfl trivial rfl ?_
  have d_X2_numberAt_L6_w : ∀ (n1 : Nat) (number : Int32) (i : Int32) (H6 : Heap), True → (i = nI i.toNatClampNeg) → (i.toNatClampNeg ≤ p.toNatClampNeg + fg.toNatClampNeg) → (p.toNatClampNeg + fg.toNatClampNeg - i.toNatClampNeg < n1) → blk D (ksCh m) o_x R_x H6 → ∀ s3 : Int32, s3 = d_X2_numberAt_L6 R_x m e0 p fg n1 number i → (∀ (H' : Heap) (z7 : Slot) (_ : slot1 z7), True → blk D (ksCh m) o_x R_x H' → WG x fp0 (Fin x (fun v H => v = some (.int res)) fp0 0 0) H' 0 0 45 [.val (.ref o_x), .val (.int e0), .val (.int p), .val (.int fg), .val (.int s3), z7] []) → WG x fp0 (Fin x (fun v H => v = some (.int res)) fp0 0 0) H6 0 0 6 [.val (.ref o_x), .val (.int e0), .val (.int p), .val (.int fg), .val (.int number), .val (.int i)] [] := by
    intro n1
    induction n1 with
    | zero => intro number i H6  _ hn_i hi hm8; exact absurd hm8 (Nat.not_lt_zero _)
    | succ n1 ih2 =>
      intro number i H6  _ hn_i hi hm8 hb5 s3 hs3  kx4
      refine r_iload C dX2_numberAt_6 rfl ?_
      refine r_iload_n C dX2_numberAt_8 rfl ?_
      refine r_iload_n C dX2_numberAt_9 rfl ?_
      refine r_iaddN C dX2_numberAt_10 (na := p.toNatClampNeg) (nb := fg.toNatClampNeg) hp hfg (nc := (p.toNatClampNeg + fg.toNatClampNeg)) rfl ?_
      refine r_ic_ge C dX2_numberAt_11 (fun c9 => ?_) (fun c9 => ?_)
      · skip
        have f10 : ((p.toNatClampNeg + fg.toNatClampNeg) ≤ i.toNatClampNeg) := nf_leI (by omega) (by omega) rfl hn_i c9
        have e11 : s3 = number := by rw [hs3]; first | (simp only [d_X2_numberAt_L6, if_pos c9]; done) | contradiction
        rw [e11] at kx4
        exact kx4 _ (.val (.int i)) rfl trivial  hb5
      · skip
        have f12 : ¬ ((p.toNatClampNeg + fg.toNatClampNeg) ≤ i.toNatClampNeg) := nf_leIn (by omega) (by omega) rfl hn_i c9
        refine r_aload_n C dX2_numberAt_14 rfl ?_
        refine r_iload_n C dX2_numberAt_15 rfl ?_
        refine r_iload C dX2_numberAt_16 rfl ?_
        obtain ⟨u13, hu13⟩ : ∃ r, r = d_X2_isFigure R_x m e0 i := ⟨_, rfl⟩
        refine r_callS0 C cw_X2_45 (fun l => c_X2_isFigure l D o_x R_x m e0 i (by omega) u13 hu13) (rest := []) hb5 (fun q h => h.elim) rfl rfl rfl (Nat.le_of_ble_eq_true rfl) ⟨Nat.le_of_ble_eq_true rfl, Nat.le_of_ble_eq_true rfl, Nat.le_refl 0, Nat.le_refl 0⟩ dX2_numberAt_18 (fun v H14 hp15 hq16 => ?_)
        obtain ⟨rfl, hl17⟩ := hp15
        have hb18 := blk_kept hb5 (n := 1) rfl (fun q h1 h2 => hq16 q (fun h => h))
        dsimp only [psh]
        refine r_if_eq C dX2_numberAt_21 (fun c19 => ?_) (fun c19 => ?_)
        · skip
          have e20 : s3 = number := by rw [hs3]; first | (simp only [d_X2_numberAt_L6, ← hu13, if_neg c9, if_pos c19]; done) | contradiction
          rw [e20] at kx4
          exact kx4 _ (.val (.int i)) rfl trivial  hb18
        · skip
          refine r_bipush C dX2_numberAt_24 (10 : Int32) (by decide) ?_
          refine r_iload C dX2_numberAt_26 rfl ?_
          refine r_imul C dX2_numberAt_28 ?_
          refine r_aload_n C dX2_numberAt_29 rfl ?_
          refine r_iload C dX2_numberAt_30 rfl ?_
          refine r_cald C hb18 (k := 0) rfl rfl (X2_isFigure_in hu13 c19 (by omega)) (j := i.toNatClampNeg) (cl_n hn_i (by omega)) dX2_numberAt_32 ?_
          refine r_bipush C dX2_numberAt_33 (48 : Int32) (by decide) ?_
          refine r_isub C dX2_numberAt_35 ?_
          refine r_iadd C dX2_numberAt_36 ?_
          refine r_istore C dX2_numberAt_37 (ls' := [.val (.ref o_x), .val (.int e0), .val (.int p), .val (.int fg), .val (.int (((10 : Int32) * number) + ((R_x 0 i.toNatClampNeg) - (48 : Int32)))), .val (.int i)]) rfl rfl rfl ?_
          refine r_iinc C dX2_numberAt_39 (nI (i.toNatClampNeg + 1)) rfl (nI_inc i.toNatClampNeg hn_i) (ls' := [.val (.ref o_x), .val (.int e0), .val (.int p), .val (.int fg), .val (.int (((10 : Int32) * number) + ((R_x 0 i.toNatClampNeg) - (48 : Int32)))), .val (.int (nI (i.toNatClampNeg + 1)))]) rfl ?_
          refine r_goto C dX2_numberAt_42 ?_
          have q21 := cl_n (x := nI (i.toNatClampNeg + 1)) (n := (i.toNatClampNeg + 1)) rfl (by omega)
          have e22 : s3 = d_X2_numberAt_L6 R_x m e0 p fg n1 (((10 : Int32) * number) + ((R_x 0 i.toNatClampNeg) - (48 : Int32))) (nI (i.toNatClampNeg + 1)) := by rw [hs3]; first | (simp only [d_X2_numberAt_L6, ← hu13, if_neg c9, if_neg c19]; done) | contradiction
          exact ih2 (((10 : Int32) * number) + ((R_x 0 i.toNatClampNeg) - (48 : Int32))) (nI (i.toNatClampNeg + 1)) _  trivial (nnat (a := (i.toNatClampNeg + 1)) rfl (by omega)) (by omega) (by omega) hb18 s3 e22  kx4
  obtain ⟨s23, hs23⟩ : ∃ r, r = d_X2_numberAt_L6 R_x m e0 p fg 3 (0 : Int32) p := ⟨_, rfl⟩
  refine d_X2_numberAt_L6_w 3 (0 : Int32) p _  trivial hp (by omega) (by omega) hb_x s23 hs23  (fun H25 z7 hz7 e26  hb24 => ?_)
  refine r_iload C dX2_numberAt_45 rfl ?_
  refine r_iret C dX2_numberAt_47 ?_
  have er : res = s23 := by rw [hres]; first | (simp only [d_X2_numberAt, ← hs23]; done) | contradiction
  rw [er]
theorem X2_figuresAt_nat {R : Nat → Nat → Int32} {m : Nat} {e0 p u : Int32} (hu : u = d_X2_figuresAt R m e0 p) : u = nI u.toNatClampNeg ∧ u.toNatClampNeg ≤ 2 := by
  subst hu
  unfold d_X2_figuresAt
  dsimp only
  split
  · exact ⟨by decide, by decide⟩
  · split <;> exact ⟨by decide, by decide⟩
def d_X2_itemEnd_L24 (R_x : Nat → Nat → Int32) (m : Nat) (e0 : Int32) (u1 : Int32) : Nat → (Nat → Nat → Int32) → Nat → Nat → (Int32 × (Nat → Nat → Int32)) ⊕ ((Nat → Nat → Int32) × Nat)
  | 0, Rd, pz, _ => .inr (Rd, pz)
  | n8 + 1, Rd, pz, i =>
    if u1 ≤ (nI i) then
      .inr (Rd, pz)
    else
      if (nI 4) ≤ (nI i) then
        .inr (Rd, pz)
      else
        let u29 := d_X2_figuresAt R_x m e0 (nI pz)
        if u29 = 0 then
          .inl ((-4 : Int32), Rd)
        else
          let u39 := d_X2_numberAt R_x m e0 (nI pz) u29
          if (nI i) = (u1 - (1 : Int32)) then
            if e0 ≤ (nI (pz + u29.toNatClampNeg)) then
              .inl ((-4 : Int32), (pt Rd 1 i u39))
            else
              if (R_x 0 (pz + u29.toNatClampNeg)) = (59 : Int32) then
                d_X2_itemEnd_L24 R_x m e0 u1 n8 (pt Rd 1 i u39) ((pz + u29.toNatClampNeg) + 1) (i + 1)
              else
                .inl ((-4 : Int32), (pt Rd 1 i u39))
          else
            if e0 ≤ (nI (pz + u29.toNatClampNeg)) then
              .inl ((-4 : Int32), (pt Rd 1 i u39))
            else
              if (R_x 0 (pz + u29.toNatClampNeg)) = (44 : Int32) then
                d_X2_itemEnd_L24 R_x m e0 u1 n8 (pt Rd 1 i u39) ((pz + u29.toNatClampNeg) + 1) (i + 1)
              else
                .inl ((-4 : Int32), (pt Rd 1 i u39))
def d_X2_itemEnd (R_d : Nat → Nat → Int32) (R_x : Nat → Nat → Int32) (m : Nat) (e0 : Int32) (place : Int32) : Int32 × (Nat → Nat → Int32) :=
  let u1 := d_X2_numbersBehind (R_x 0 place.toNatClampNeg)
  if u1 = 0 then
    ((-4 : Int32), R_d)
  else
    match d_X2_itemEnd_L24 R_x m e0 u1 5 R_d (place.toNatClampNeg + 1) 0 with
    | .inl r => r
    | .inr w62 =>
      ((nI w62.2), w62.1)
set_option maxHeartbeats 4000000 in
set_option maxRecDepth 100000 in
theorem c_X2_itemEnd (l : Launch) (D : DD) (o_d o_x : Nat) (R_d : Nat → Nat → Int32) (R_x : Nat → Nat → Int32) (m : Nat) (e0 : Int32) (place : Int32) (hm : m ≤ 200) (he0 : e0 = nI e0.toNatClampNeg) (hle0 : e0.toNatClampNeg ≤ m) (hplace : place = nI place.toNatClampNeg) (hlplace : place.toNatClampNeg < e0.toNatClampNeg) (hd : o_x < o_d ∨ o_d + 2 ≤ o_x) (res : Int32 × (Nat → Nat → Int32)) (hres : res = d_X2_itemEnd R_d R_x m e0 place) : Mt l D yX2_itemEnd cX2_itemEnd 9 (some .int) 2 47 0 0 [.ref o_d, .ref o_x, .int e0, .int place] (fun H => blk D ksReader o_d R_d H ∧ blk D (ksCh m) o_x R_x H) (fun v H => v = some (.int res.1) ∧ blk D ksReader o_d res.2 H) (fp1 o_d 2) := by
  refine mt_of (own := RX2) (ls := [.val (.ref o_d), .val (.ref o_x), .val (.int e0), .val (.int place), .unset, .unset, .unset, .unset, .unset]) rfl (by decide +kernel) rfl ?_
  intro x H C hP
  obtain ⟨hb_d, hb_x⟩ := hP
  refine r_aload_n C dX2_itemEnd_0 rfl ?_
  refine r_iload_n C dX2_itemEnd_1 rfl ?_
  refine r_cald C hb_x (k := 0) rfl rfl (vp_in_n hplace (by omega) (by omega)) (j := place.toNatClampNeg) (cl_n hplace (by omega)) dX2_itemEnd_2 ?_
  obtain ⟨u1, hu1⟩ : ∃ r, r = d_X2_numbersBehind (R_x 0 place.toNatClampNeg) := ⟨_, rfl⟩
  refine r_callS0 C cw_X2_34 (fun l => c_X2_numbersBehind l D (R_x 0 place.toNatClampNeg) u1 hu1) (rest := []) trivial (fun q h => h.elim) rfl rfl rfl (Nat.le_of_ble_eq_true rfl) ⟨Nat.le_of_ble_eq_true rfl, Nat.le_of_ble_eq_true rfl, Nat.le_refl 0, Nat.le_refl 0⟩ dX2_itemEnd_3 (fun v H2 hp3 hq4 => ?_)
  subst hp3
  have hb5 := blk_kept hb_d (n := 2) rfl (fun q h1 h2 => hq4 q (fun h => h))
  have hb6 := blk_kept hb_x (n := 1) rfl (fun q h1 h2 => hq4 q (fun h => h))
  dsimp only [psh]
  refine r_istore C dX2_itemEnd_6 (ls' := [.val (.ref o_d), .val (.ref o_x), .val (.int e0), .val (.int place), .val (.int u1), .unset, .unset, .unset, .unset]) rfl trivial rfl ?_
  refine r_iload C dX2_itemEnd_8 rfl ?_
  refine r_if_ne C dX2_itemEnd_10 (fun c7 => ?_) (fun c7 => ?_)
  · skip
    refine r_iload_n C dX2_itemEnd_16 rfl ?_
    refine r_iconst C dX2_itemEnd_17 (1 : Int32) (by decide) ?_
    refine r_iaddN C dX2_itemEnd_18 (na := place.toNatClampNeg) (nb := 1) hplace rfl (nc := (place.toNatClampNeg + 1)) rfl ?_
    refine r_istore C dX2_itemEnd_19 (ls' := [.val (.ref o_d), .val (.ref o_x), .val (.int e0), .val (.int place), .val (.int u1), .val (.int (nI (place.toNatClampNeg + 1))), .unset, .unset, .unset]) rfl trivial rfl ?_
    refine r_iconst C dX2_itemEnd_21 (0 : Int32) (by decide) ?_
    refine r_istore C dX2_itemEnd_22 (ls' := [.val (.ref o_d), .val (.ref o_x), .val (.int e0), .val (.int place), .val (.int u1), .val (.int (nI (place.toNatClampNeg + 1))), .val (.int (0 : Int32)), .unset, .unset]) rfl trivial rfl ?_
    have d_X2_itemEnd_L24_w : ∀ (n8 : Nat) (Rd : Nat → Nat → Int32) (pz : Nat) (i : Nat) (H16 : Heap) (z12 : Slot) (_ : slot1 z12) (z13 : Slot) (_ : slot1 z13), True → (i ≤ 4) → (pz ≤ e0.toNatClampNeg) → (4 - i < n8) → blk D ksReader o_d Rd H16 → blk D (ksCh m) o_x R_x H16 → ∀ s10 : (Int32 × (Nat → Nat → Int32)) ⊕ ((Nat → Nat → Int32) × Nat), s10 = d_X2_itemEnd_L24 R_x m e0 u1 n8 Rd pz i → (∀ r, s10 = .inl r → res = r) → (∀ (w17 : (Nat → Nat → Int32) × Nat) (H' : Heap) (z18 : Slot) (_ : slot1 z18) (z19 : Slot) (_ : slot1 z19) (z20 : Slot) (_ : slot1 z20), s10 = .inr w17 → blk D ksReader o_d w17.1 H' → blk D (ksCh m) o_x R_x H' → WG x (fp1 o_d 2) (Fin x (fun v H => v = some (.int res.1) ∧ blk D ksReader o_d res.2 H) (fp1 o_d 2) 0 0) H' 0 0 126 [.val (.ref o_d), .val (.ref o_x), .val (.int e0), .val (.int place), .val (.int u1), .val (.int (nI w17.2)), z18, z19, z20] []) → WG x (fp1 o_d 2) (Fin x (fun v H => v = some (.int res.1) ∧ blk D ksReader o_d res.2 H) (fp1 o_d 2) 0 0) H16 0 0 24 [.val (.ref o_d), .val (.ref o_x), .val (.int e0), .val (.int place), .val (.int u1), .val (.int (nI pz)), .val (.int (nI i)), z12, z13] [] := by
      intro n8
      induction n8 with
      | zero => intro Rd pz i H16 z12 hz12 z13 hz13 _ hi hpz hm21; exact absurd hm21 (Nat.not_lt_zero _)
      | succ n8 ih9 =>
        intro Rd pz i H16 z12 hz12 z13 hz13 _ hi hpz hm21 hb14 hb15 s10 hs10 hr22 kx11
        refine r_iload C dX2_itemEnd_24 rfl ?_
        refine r_iload C dX2_itemEnd_26 rfl ?_
        refine r_ic_ge C dX2_itemEnd_28 (fun c23 => ?_) (fun c23 => ?_)
        · skip
          have e24 : s10 = .inr (Rd, pz) := by rw [hs10]; first | (simp only [d_X2_itemEnd_L24, if_pos c23]; done) | contradiction
          exact kx11 (Rd, pz) _ (.val (.int (nI i))) rfl z12 hz12 z13 hz13 e24  hb14 hb15
        · skip
          refine r_iload C dX2_itemEnd_31 rfl ?_
          refine r_aload_n C dX2_itemEnd_33 rfl ?_
          refine r_get C hb14 (k := 0) rfl rfl celO_2 fw_X2_11 rfl dX2_itemEnd_34 ?_
          refine r_alen C hb14 (k := 1) rfl rfl 4 (Or.inl ⟨rfl, rfl⟩) dX2_itemEnd_37 ?_
          refine r_ic_ge C dX2_itemEnd_38 (fun c25 => ?_) (fun c25 => ?_)
          · skip
            have f26 : (4 ≤ i) := nf_leI (by omega) (by omega) rfl rfl c25
            have e27 : s10 = .inr (Rd, pz) := by rw [hs10]; first | (simp only [d_X2_itemEnd_L24, if_neg c23, if_pos c25]; done) | contradiction
            exact kx11 (Rd, pz) _ (.val (.int (nI i))) rfl z12 hz12 z13 hz13 e27  hb14 hb15
          · skip
            have f28 : ¬ (4 ≤ i) := nf_leIn (by omega) (by omega) rfl rfl c25
            refine r_aload_n C dX2_itemEnd_41 rfl ?_
            refine r_iload_n C dX2_itemEnd_42 rfl ?_
            refine r_iload C dX2_itemEnd_43 rfl ?_
            obtain ⟨u29, hu29⟩ : ∃ r, r = d_X2_figuresAt R_x m e0 (nI pz) := ⟨_, rfl⟩
            refine r_callS0 C cw_X2_38 (fun l => c_X2_figuresAt l D o_x R_x m e0 (nI pz) (by omega) u29 hu29) (rest := []) hb15 (fun q h => h.elim) rfl rfl rfl (Nat.le_of_ble_eq_true rfl) ⟨Nat.le_of_ble_eq_true rfl, Nat.le_of_ble_eq_true rfl, Nat.le_refl 0, Nat.le_refl 0⟩ dX2_itemEnd_45 (fun v H30 hp31 hq32 => ?_)
            subst hp31
            obtain ⟨hn33, hn34⟩ := X2_figuresAt_nat hu29
            have hb35 := blk_kept hb14 (n := 2) rfl (fun q h1 h2 => hq32 q (fun h => h))
            have hb36 := blk_kept hb15 (n := 1) rfl (fun q h1 h2 => hq32 q (fun h => h))
            dsimp only [psh]
            refine r_istore C dX2_itemEnd_48 (ls' := [.val (.ref o_d), .val (.ref o_x), .val (.int e0), .val (.int place), .val (.int u1), .val (.int (nI pz)), .val (.int (nI i)), .val (.int u29), z13]) rfl hz12 rfl ?_
            refine r_iload C dX2_itemEnd_50 rfl ?_
            refine r_if_ne C dX2_itemEnd_52 (fun c37 => ?_) (fun c37 => ?_)
            · skip
              have f38 : ¬ (u29.toNatClampNeg = 0) := nf_eqn (by omega) (by omega) hn33 rfl c37
              refine r_aload_n C dX2_itemEnd_58 rfl ?_
              refine r_get C hb35 (k := 0) rfl rfl celO_2 fw_X2_11 rfl dX2_itemEnd_59 ?_
              refine r_iload C dX2_itemEnd_62 rfl ?_
              refine r_aload_n C dX2_itemEnd_64 rfl ?_
              refine r_iload_n C dX2_itemEnd_65 rfl ?_
              refine r_iload C dX2_itemEnd_66 rfl ?_
              refine r_iload C dX2_itemEnd_68 rfl ?_
              obtain ⟨u39, hu39⟩ : ∃ r, r = d_X2_numberAt R_x m e0 (nI pz) u29 := ⟨_, rfl⟩
              refine r_callS0 C cw_X2_41 (fun l => c_X2_numberAt l D o_x R_x m e0 (nI pz) u29 (by omega) (nnat rfl (by omega)) (by rw [cl_n rfl (by omega)]; omega) hn33 (by omega) u39 hu39) (rest := [.int (nI i), .ref (o_d + 1)]) hb36 (fun q h => h.elim) rfl rfl rfl (Nat.le_of_ble_eq_true rfl) ⟨Nat.le_of_ble_eq_true rfl, Nat.le_of_ble_eq_true rfl, Nat.le_refl 0, Nat.le_refl 0⟩ dX2_itemEnd_70 (fun v H40 hp41 hq42 => ?_)
              subst hp41
              have hb43 := blk_kept hb35 (n := 2) rfl (fun q h1 h2 => hq42 q (fun h => h))
              have hb44 := blk_kept hb36 (n := 1) rfl (fun q h1 h2 => hq42 q (fun h => h))
              dsimp only [psh]
              refine r_iast C hb43 (k := 1) rfl rfl (by unfold fp1; omega) (vp_in_n rfl (by omega) (by omega)) (j := i) (cl_n rfl (by omega)) dX2_itemEnd_73 (fun H45 hb47 hq46 => ?_)
              have hb48 := blk_kept hb44 (n := 1) rfl (fun q h1 h2 => hq46 q (by omega))
              refine r_iload C dX2_itemEnd_74 rfl ?_
              refine r_iload C dX2_itemEnd_76 rfl ?_
              refine r_iaddN C dX2_itemEnd_78 (na := pz) (nb := u29.toNatClampNeg) rfl hn33 (nc := (pz + u29.toNatClampNeg)) rfl ?_
              refine r_istore C dX2_itemEnd_79 (ls' := [.val (.ref o_d), .val (.ref o_x), .val (.int e0), .val (.int place), .val (.int u1), .val (.int (nI (pz + u29.toNatClampNeg))), .val (.int (nI i)), .val (.int u29), z13]) rfl rfl rfl ?_
              refine r_iload C dX2_itemEnd_81 rfl ?_
              refine r_iload C dX2_itemEnd_83 rfl ?_
              refine r_iconst C dX2_itemEnd_85 (1 : Int32) (by decide) ?_
              refine r_isub C dX2_itemEnd_86 ?_
              refine r_ic_ne C dX2_itemEnd_87 (fun c49 => ?_) (fun c49 => ?_)
              · skip
                refine r_bipush C dX2_itemEnd_95 (44 : Int32) (by decide) ?_
                refine r_istore C dX2_itemEnd_97 (ls' := [.val (.ref o_d), .val (.ref o_x), .val (.int e0), .val (.int place), .val (.int u1), .val (.int (nI (pz + u29.toNatClampNeg))), .val (.int (nI i)), .val (.int u29), .val (.int (44 : Int32))]) rfl hz13 rfl ?_
                refine r_iload C dX2_itemEnd_99 rfl ?_
                refine r_iload_n C dX2_itemEnd_101 rfl ?_
                refine r_ic_ge C dX2_itemEnd_102 (fun c50 => ?_) (fun c50 => ?_)
                · skip
                  have f51 : (e0.toNatClampNeg ≤ (pz + u29.toNatClampNeg)) := nf_leI (by omega) (by omega) he0 rfl c50
                  refine r_bipush C dX2_itemEnd_114 (-4 : Int32) (by decide) ?_
                  refine r_iret C dX2_itemEnd_116 ?_
                  have er : res = ((-4 : Int32), (pt Rd 1 i u39)) := hr22 _ (by rw [hs10]; first | (simp only [d_X2_itemEnd_L24, ← hu29, ← hu39, if_neg c23, if_neg c25, if_neg c37, if_neg c49, if_pos c50]; done) | contradiction)
                  rw [er]
                  exact ⟨rfl, hb47⟩
                · skip
                  have f52 : ¬ (e0.toNatClampNeg ≤ (pz + u29.toNatClampNeg)) := nf_leIn (by omega) (by omega) he0 rfl c50
                  refine r_aload_n C dX2_itemEnd_105 rfl ?_
                  refine r_iload C dX2_itemEnd_106 rfl ?_
                  refine r_cald C hb48 (k := 0) rfl rfl (vp_in_n rfl (by omega) (by omega)) (j := (pz + u29.toNatClampNeg)) (cl_n rfl (by omega)) dX2_itemEnd_108 ?_
                  refine r_iload C dX2_itemEnd_109 rfl ?_
                  refine r_ic_eq C dX2_itemEnd_111 (fun c53 => ?_) (fun c53 => ?_)
                  · skip
                    refine r_iinc C dX2_itemEnd_117 (nI ((pz + u29.toNatClampNeg) + 1)) rfl (nI_inc (pz + u29.toNatClampNeg) rfl) (ls' := [.val (.ref o_d), .val (.ref o_x), .val (.int e0), .val (.int place), .val (.int u1), .val (.int (nI ((pz + u29.toNatClampNeg) + 1))), .val (.int (nI i)), .val (.int u29), .val (.int (44 : Int32))]) rfl ?_
                    refine r_iinc C dX2_itemEnd_120 (nI (i + 1)) rfl (nI_inc i rfl) (ls' := [.val (.ref o_d), .val (.ref o_x), .val (.int e0), .val (.int place), .val (.int u1), .val (.int (nI ((pz + u29.toNatClampNeg) + 1))), .val (.int (nI (i + 1))), .val (.int u29), .val (.int (44 : Int32))]) rfl ?_
                    refine r_goto C dX2_itemEnd_123 ?_
                    have e54 : s10 = d_X2_itemEnd_L24 R_x m e0 u1 n8 (pt Rd 1 i u39) ((pz + u29.toNatClampNeg) + 1) (i + 1) := by rw [hs10]; first | (simp only [d_X2_itemEnd_L24, ← hu29, ← hu39, if_neg c23, if_neg c25, if_neg c37, if_neg c49, if_neg c50, if_pos c53]; done) | contradiction
                    exact ih9 (pt Rd 1 i u39) ((pz + u29.toNatClampNeg) + 1) (i + 1) _ (.val (.int u29)) rfl (.val (.int (44 : Int32))) rfl trivial (by omega) (by omega) (by omega) hb47 hb48 s10 e54 hr22 kx11
                  · skip
                    refine r_bipush C dX2_itemEnd_114 (-4 : Int32) (by decide) ?_
                    refine r_iret C dX2_itemEnd_116 ?_
                    have er : res = ((-4 : Int32), (pt Rd 1 i u39)) := hr22 _ (by rw [hs10]; first | (simp only [d_X2_itemEnd_L24, ← hu29, ← hu39, if_neg c23, if_neg c25, if_neg c37, if_neg c49, if_neg c50, if_neg c53]; done) | contradiction)
                    rw [er]
                    exact ⟨rfl, hb47⟩
              · skip
                refine r_bipush C dX2_itemEnd_90 (59 : Int32) (by decide) ?_
                refine r_goto C dX2_itemEnd_92 ?_
                refine r_istore C dX2_itemEnd_97 (ls' := [.val (.ref o_d), .val (.ref o_x), .val (.int e0), .val (.int place), .val (.int u1), .val (.int (nI (pz + u29.toNatClampNeg))), .val (.int (nI i)), .val (.int u29), .val (.int (59 : Int32))]) rfl hz13 rfl ?_
                refine r_iload C dX2_itemEnd_99 rfl ?_
                refine r_iload_n C dX2_itemEnd_101 rfl ?_
                refine r_ic_ge C dX2_itemEnd_102 (fun c55 => ?_) (fun c55 => ?_)
                · skip
                  have f56 : (e0.toNatClampNeg ≤ (pz + u29.toNatClampNeg)) := nf_leI (by omega) (by omega) he0 rfl c55
                  refine r_bipush C dX2_itemEnd_114 (-4 : Int32) (by decide) ?_
                  refine r_iret C dX2_itemEnd_116 ?_
                  have er : res = ((-4 : Int32), (pt Rd 1 i u39)) := hr22 _ (by rw [hs10]; first | (simp only [d_X2_itemEnd_L24, ← hu29, ← hu39, if_neg c23, if_neg c25, if_neg c37, if_pos c49, if_pos c55]; done) | contradiction)
                  rw [er]
                  exact ⟨rfl, hb47⟩
                · skip
                  have f57 : ¬ (e0.toNatClampNeg ≤ (pz + u29.toNatClampNeg)) := nf_leIn (by omega) (by omega) he0 rfl c55
                  refine r_aload_n C dX2_itemEnd_105 rfl ?_
                  refine r_iload C dX2_itemEnd_106 rfl ?_
                  refine r_cald C hb48 (k := 0) rfl rfl (vp_in_n rfl (by omega) (by omega)) (j := (pz + u29.toNatClampNeg)) (cl_n rfl (by omega)) dX2_itemEnd_108 ?_
                  refine r_iload C dX2_itemEnd_109 rfl ?_
                  refine r_ic_eq C dX2_itemEnd_111 (fun c58 => ?_) (fun c58 => ?_)
                  · skip
                    refine r_iinc C dX2_itemEnd_117 (nI ((pz + u29.toNatClampNeg) + 1)) rfl (nI_inc (pz + u29.toNatClampNeg) rfl) (ls' := [.val (.ref o_d), .val (.ref o_x), .val (.int e0), .val (.int place), .val (.int u1), .val (.int (nI ((pz + u29.toNatClampNeg) + 1))), .val (.int (nI i)), .val (.int u29), .val (.int (59 : Int32))]) rfl ?_
                    refine r_iinc C dX2_itemEnd_120 (nI (i + 1)) rfl (nI_inc i rfl) (ls' := [.val (.ref o_d), .val (.ref o_x), .val (.int e0), .val (.int place), .val (.int u1), .val (.int (nI ((pz + u29.toNatClampNeg) + 1))), .val (.int (nI (i + 1))), .val (.int u29), .val (.int (59 : Int32))]) rfl ?_
                    refine r_goto C dX2_itemEnd_123 ?_
                    have e59 : s10 = d_X2_itemEnd_L24 R_x m e0 u1 n8 (pt Rd 1 i u39) ((pz + u29.toNatClampNeg) + 1) (i + 1) := by rw [hs10]; first | (simp only [d_X2_itemEnd_L24, ← hu29, ← hu39, if_neg c23, if_neg c25, if_neg c37, if_pos c49, if_neg c55, if_pos c58]; done) | contradiction
                    exact ih9 (pt Rd 1 i u39) ((pz + u29.toNatClampNeg) + 1) (i + 1) _ (.val (.int u29)) rfl (.val (.int (59 : Int32))) rfl trivial (by omega) (by omega) (by omega) hb47 hb48 s10 e59 hr22 kx11
                  · skip
                    refine r_bipush C dX2_itemEnd_114 (-4 : Int32) (by decide) ?_
                    refine r_iret C dX2_itemEnd_116 ?_
                    have er : res = ((-4 : Int32), (pt Rd 1 i u39)) := hr22 _ (by rw [hs10]; first | (simp only [d_X2_itemEnd_L24, ← hu29, ← hu39, if_neg c23, if_neg c25, if_neg c37, if_pos c49, if_neg c55, if_neg c58]; done) | contradiction)
                    rw [er]
                    exact ⟨rfl, hb47⟩
            · skip
              have f60 : (u29.toNatClampNeg = 0) := nf_eq (by omega) (by omega) hn33 rfl c37
              refine r_bipush C dX2_itemEnd_55 (-4 : Int32) (by decide) ?_
              refine r_iret C dX2_itemEnd_57 ?_
              have er : res = ((-4 : Int32), Rd) := hr22 _ (by rw [hs10]; first | (simp only [d_X2_itemEnd_L24, ← hu29, if_neg c23, if_neg c25, if_pos c37]; done) | contradiction)
              rw [er]
              exact ⟨rfl, hb35⟩
    obtain ⟨s61, hs61⟩ : ∃ r, r = d_X2_itemEnd_L24 R_x m e0 u1 5 R_d (place.toNatClampNeg + 1) 0 := ⟨_, rfl⟩
    refine d_X2_itemEnd_L24_w 5 R_d (place.toNatClampNeg + 1) 0 _ .unset trivial .unset trivial trivial (by omega) (by omega) (by omega) hb5 hb6 s61 hs61 (fun r e => by rw [hres]; rw [hs61] at e; simp only [d_X2_itemEnd, ← hu1, if_neg c7, e]) (fun w62 H65 z18 hz18 z19 hz19 z20 hz20 e66  hb63 hb64 => ?_)
    have hx67 : d_X2_itemEnd_L24 R_x m e0 u1 5 R_d (place.toNatClampNeg + 1) 0 = .inr w62 := by rw [← hs61]; exact e66
    refine r_iload C dX2_itemEnd_126 rfl ?_
    refine r_iret C dX2_itemEnd_128 ?_
    have er : res = ((nI w62.2), w62.1) := by rw [hres]; first | (simp only [d_X2_itemEnd, ← hu1, hx67, if_neg c7]; done) | contradiction
    rw [er]
    exact ⟨rfl, hb63⟩
  · skip
    refine r_bipush C dX2_itemEnd_13 (-4 : Int32) (by decide) ?_
    refine r_iret C dX2_itemEnd_15 ?_
    have er : res = ((-4 : Int32), R_d) := by rw [hres]; first | (simp only [d_X2_itemEnd, ← hu1, if_pos c7]; done) | contradiction
    rw [er]
    exact ⟨rfl, hb5⟩
theorem X2_itemEnd_L {Rx : Nat → Nat → Int32} {m : Nat} {e0 w : Int32} (hm : m ≤ 200) (he : e0 = nI e0.toNatClampNeg) (he2 : e0.toNatClampNeg ≤ m) : ∀ (n : Nat) (Rd : Nat → Nat → Int32) (q i : Nat), q ≤ e0.toNatClampNeg → (∀ r, d_X2_itemEnd_L24 Rx m e0 w n Rd q i = .inl r → r.1 = -4) ∧ (∀ s, d_X2_itemEnd_L24 Rx m e0 w n Rd q i = .inr s → s.2 ≤ e0.toNatClampNeg) := by
  intro n
  induction n with
  | zero =>
    intro Rd q i hq
    simp only [d_X2_itemEnd_L24]
    exact ⟨fun r h => (by cases h), fun s h => (by cases h; exact hq)⟩
  | succ n ih =>
    intro Rd q i hq
    have fin : ∀ (R' : Nat → Nat → Int32), (∀ r : Int32 × (Nat → Nat → Int32), (Sum.inr (R', q) : (Int32 × (Nat → Nat → Int32)) ⊕ ((Nat → Nat → Int32) × Nat)) = .inl r → r.1 = -4) ∧ (∀ s, (Sum.inr (R', q) : (Int32 × (Nat → Nat → Int32)) ⊕ ((Nat → Nat → Int32) × Nat)) = .inr s → s.2 ≤ e0.toNatClampNeg) := fun R' => ⟨fun r h => (by cases h), fun s h => (by cases h; exact hq)⟩
    have bad : ∀ (R' : Nat → Nat → Int32), (∀ r : Int32 × (Nat → Nat → Int32), (Sum.inl ((-4 : Int32), R') : (Int32 × (Nat → Nat → Int32)) ⊕ ((Nat → Nat → Int32) × Nat)) = .inl r → r.1 = -4) ∧ (∀ s, (Sum.inl ((-4 : Int32), R') : (Int32 × (Nat → Nat → Int32)) ⊕ ((Nat → Nat → Int32) × Nat)) = .inr s → s.2 ≤ e0.toNatClampNeg) := fun R' => ⟨fun r h => (by cases h; rfl), fun s h => (by cases h)⟩
    simp only [d_X2_itemEnd_L24]
    obtain ⟨v, hv⟩ : ∃ v, v = d_X2_figuresAt Rx m e0 (nI q) := ⟨_, rfl⟩
    have hv2 := X2_figuresAt_nat hv
    simp only [← hv]
    split
    · exact fin _
    · split
      · exact fin _
      · split
        · exact bad _
        · split <;>
          · split
            · exact bad _
            · rename_i c
              have c' : ¬ e0.toNatClampNeg ≤ q + v.toNatClampNeg := nf_leIn (by omega) (by omega) he rfl c
              split
              · first | exact ih _ _ _ (by omega) | exact bad _
              · first | exact bad _ | exact ih _ _ _ (by omega)
theorem X2_itemEnd_nat {Rd Rx : Nat → Nat → Int32} {m : Nat} {e0 place : Int32} {u : Int32 × (Nat → Nat → Int32)} (hu : u = d_X2_itemEnd Rd Rx m e0 place) (h : ¬ u.1 = -4) (hp : place.toNatClampNeg < e0.toNatClampNeg) (hm : m ≤ 200) (he : e0 = nI e0.toNatClampNeg) (he2 : e0.toNatClampNeg ≤ m) : u.1 = nI u.1.toNatClampNeg ∧ u.1.toNatClampNeg ≤ e0.toNatClampNeg := by
  subst hu
  simp only [d_X2_itemEnd] at h ⊢
  split at h
  · exact absurd rfl h
  · rename_i c
    rw [if_neg c]
    have hL := X2_itemEnd_L (Rx := Rx) (w := d_X2_numbersBehind (Rx 0 place.toNatClampNeg)) hm he he2 5 Rd (place.toNatClampNeg + 1) 0 (by omega)
    split at h
    · rename_i r hr
      exact absurd (hL.1 r hr) h
    · rename_i s hs
      have hq := hL.2 s hs
      dsimp only
      rw [nI_clamp (by omega)]
      exact ⟨rfl, hq⟩
def d_X2_takes (R_d : Nat → Nat → Int32) (R_r : Nat → Nat → Int32) (letter : Int32) : Int32 × (Nat → Nat → Int32) :=
  if letter = (116 : Int32) then
    let u27 := d_X3_settle R_r (R_d 1 0) (R_d 1 1) (R_d 1 2) (R_d 1 3)
    (u27.1, u27.2)
  else
    if letter = (99 : Int32) then
      let u20 := d_X3_man R_r (R_d 1 0) (R_d 1 1)
      (u20.1, u20.2)
    else
      if letter = (119 : Int32) then
        let u13 := d_X3_goWay R_r (R_d 1 0) (R_d 1 1)
        (u13.1, u13.2)
      else
        if letter = (98 : Int32) then
          let u5 := d_X3_costWalls R_r (R_d 1 0)
          if u5.1 = 0 then
            ((0 : Int32), u5.2)
          else
            ((1 : Int32), u5.2)
        else
          ((0 : Int32), R_r)
set_option maxHeartbeats 4000000 in
set_option maxRecDepth 100000 in
theorem c_X2_takes (l : Launch) (D : DD) (o_d o_r : Nat) (R_d : Nat → Nat → Int32) (R_r : Nat → Nat → Int32) (letter : Int32) (hd : o_d + 2 ≤ o_r ∨ o_r + 15 ≤ o_d) (res : Int32 × (Nat → Nat → Int32)) (hres : res = d_X2_takes R_d R_r letter) : Mt l D yX2_takes cX2_takes 3 (some .boolean) 2 48 0 0 [.ref o_d, .int letter, .ref o_r] (fun H => blk D ksReader o_d R_d H ∧ blk D ksRiver o_r R_r H) (fun v H => v = some (.int res.1) ∧ bl res.1 ∧ blk D ksRiver o_r res.2 H) (fp1 o_r 15) := by
  refine mt_of (own := RX2) (ls := [.val (.ref o_d), .val (.int letter), .val (.ref o_r)]) rfl (by decide +kernel) rfl ?_
  intro x H C hP
  obtain ⟨hb_d, hb_r⟩ := hP
  refine r_iload_n C dX2_takes_0 rfl ?_
  refine r_bipush C dX2_takes_1 (116 : Int32) (by decide) ?_
  refine r_ic_ne C dX2_takes_3 (fun c1 => ?_) (fun c1 => ?_)
  · skip
    refine r_iload_n C dX2_takes_35 rfl ?_
    refine r_bipush C dX2_takes_36 (99 : Int32) (by decide) ?_
    refine r_ic_ne C dX2_takes_38 (fun c2 => ?_) (fun c2 => ?_)
    · skip
      refine r_iload_n C dX2_takes_58 rfl ?_
      refine r_bipush C dX2_takes_59 (119 : Int32) (by decide) ?_
      refine r_ic_ne C dX2_takes_61 (fun c3 => ?_) (fun c3 => ?_)
      · skip
        refine r_iload_n C dX2_takes_81 rfl ?_
        refine r_bipush C dX2_takes_82 (98 : Int32) (by decide) ?_
        refine r_ic_ne C dX2_takes_84 (fun c4 => ?_) (fun c4 => ?_)
        · skip
          refine r_iconst C dX2_takes_104 (0 : Int32) (by decide) ?_
          refine r_zret C dX2_takes_105 (Or.inl rfl) ?_
          have er : res = ((0 : Int32), R_r) := by rw [hres]; first | (simp only [d_X2_takes, if_neg c1, if_neg c2, if_neg c3, if_neg c4]; done) | contradiction
          rw [er]
          exact ⟨rfl, (Or.inl rfl), hb_r⟩
        · skip
          refine r_aload_n C dX2_takes_87 rfl ?_
          refine r_aload_n C dX2_takes_88 rfl ?_
          refine r_get C hb_d (k := 0) rfl rfl celO_2 fw_X2_11 rfl dX2_takes_89 ?_
          refine r_iconst C dX2_takes_92 (0 : Int32) (by decide) ?_
          refine r_iald C hb_d (k := 1) rfl rfl (vp_in_c 0 rfl (by decide)) (j := 0) (cl_n rfl (by decide)) dX2_takes_93 ?_
          obtain ⟨u5, hu5⟩ : ∃ r, r = d_X3_costWalls R_r (R_d 1 0) := ⟨_, rfl⟩
          refine r_callV0 C cw_X2_60 (fun l => c_X3_costWalls l D o_r R_r (R_d 1 0) u5 hu5) (rest := []) hb_r (k := 0) rfl rfl celO_3 hb_r (fun q h => by unfold fp1 at h; unfold fp1; omega) rfl rfl rfl (Nat.le_of_ble_eq_true rfl) ⟨Nat.le_of_ble_eq_true rfl, Nat.le_of_ble_eq_true rfl, Nat.le_refl 0, Nat.le_refl 0⟩ dX2_takes_94 (fun v H6 hp7 hq8 => ?_)
          obtain ⟨rfl, hl9, hn10⟩ := hp7
          have hb11 := blk_kept hb_d (n := 2) rfl (fun q h1 h2 => hq8 q (by unfold fp1; omega))
          dsimp only [psh]
          refine r_if_eq C dX2_takes_97 (fun c12 => ?_) (fun c12 => ?_)
          · skip
            refine r_iconst C dX2_takes_104 (0 : Int32) (by decide) ?_
            refine r_zret C dX2_takes_105 (Or.inl rfl) ?_
            have er : res = ((0 : Int32), u5.2) := by rw [hres]; first | (simp only [d_X2_takes, ← hu5, if_neg c1, if_neg c2, if_neg c3, if_pos c4, if_pos c12]; done) | contradiction
            rw [er]
            exact ⟨rfl, (Or.inl rfl), hn10⟩
          · skip
            refine r_iconst C dX2_takes_100 (1 : Int32) (by decide) ?_
            refine r_goto C dX2_takes_101 ?_
            refine r_zret C dX2_takes_105 (Or.inr rfl) ?_
            have er : res = ((1 : Int32), u5.2) := by rw [hres]; first | (simp only [d_X2_takes, ← hu5, if_neg c1, if_neg c2, if_neg c3, if_pos c4, if_neg c12]; done) | contradiction
            rw [er]
            exact ⟨rfl, (Or.inr rfl), hn10⟩
      · skip
        refine r_aload_n C dX2_takes_64 rfl ?_
        refine r_aload_n C dX2_takes_65 rfl ?_
        refine r_get C hb_d (k := 0) rfl rfl celO_2 fw_X2_11 rfl dX2_takes_66 ?_
        refine r_iconst C dX2_takes_69 (0 : Int32) (by decide) ?_
        refine r_iald C hb_d (k := 1) rfl rfl (vp_in_c 0 rfl (by decide)) (j := 0) (cl_n rfl (by decide)) dX2_takes_70 ?_
        refine r_aload_n C dX2_takes_71 rfl ?_
        refine r_get C hb_d (k := 0) rfl rfl celO_2 fw_X2_11 rfl dX2_takes_72 ?_
        refine r_iconst C dX2_takes_75 (1 : Int32) (by decide) ?_
        refine r_iald C hb_d (k := 1) rfl rfl (vp_in_c 1 rfl (by decide)) (j := 1) (cl_n rfl (by decide)) dX2_takes_76 ?_
        obtain ⟨u13, hu13⟩ : ∃ r, r = d_X3_goWay R_r (R_d 1 0) (R_d 1 1) := ⟨_, rfl⟩
        refine r_callV0 C cw_X2_57 (fun l => c_X3_goWay l D o_r R_r (R_d 1 0) (R_d 1 1) u13 hu13) (rest := []) hb_r (k := 0) rfl rfl celO_3 hb_r (fun q h => by unfold fp1 at h; unfold fp1; omega) rfl rfl rfl (Nat.le_of_ble_eq_true rfl) ⟨Nat.le_of_ble_eq_true rfl, Nat.le_of_ble_eq_true rfl, Nat.le_refl 0, Nat.le_refl 0⟩ dX2_takes_77 (fun v H14 hp15 hq16 => ?_)
        obtain ⟨rfl, hl17, hn18⟩ := hp15
        have hb19 := blk_kept hb_d (n := 2) rfl (fun q h1 h2 => hq16 q (by unfold fp1; omega))
        dsimp only [psh]
        refine r_zret C dX2_takes_80 hl17 ?_
        have er : res = (u13.1, u13.2) := by rw [hres]; first | (simp only [d_X2_takes, ← hu13, if_neg c1, if_neg c2, if_pos c3]; done) | contradiction
        rw [er]
        exact ⟨rfl, hl17, hn18⟩
    · skip
      refine r_aload_n C dX2_takes_41 rfl ?_
      refine r_aload_n C dX2_takes_42 rfl ?_
      refine r_get C hb_d (k := 0) rfl rfl celO_2 fw_X2_11 rfl dX2_takes_43 ?_
      refine r_iconst C dX2_takes_46 (0 : Int32) (by decide) ?_
      refine r_iald C hb_d (k := 1) rfl rfl (vp_in_c 0 rfl (by decide)) (j := 0) (cl_n rfl (by decide)) dX2_takes_47 ?_
      refine r_aload_n C dX2_takes_48 rfl ?_
      refine r_get C hb_d (k := 0) rfl rfl celO_2 fw_X2_11 rfl dX2_takes_49 ?_
      refine r_iconst C dX2_takes_52 (1 : Int32) (by decide) ?_
      refine r_iald C hb_d (k := 1) rfl rfl (vp_in_c 1 rfl (by decide)) (j := 1) (cl_n rfl (by decide)) dX2_takes_53 ?_
      obtain ⟨u20, hu20⟩ : ∃ r, r = d_X3_man R_r (R_d 1 0) (R_d 1 1) := ⟨_, rfl⟩
      refine r_callV0 C cw_X2_53 (fun l => c_X3_man l D o_r R_r (R_d 1 0) (R_d 1 1) u20 hu20) (rest := []) hb_r (k := 0) rfl rfl celO_3 hb_r (fun q h => by unfold fp1 at h; unfold fp1; omega) rfl rfl rfl (Nat.le_of_ble_eq_true rfl) ⟨Nat.le_of_ble_eq_true rfl, Nat.le_of_ble_eq_true rfl, Nat.le_refl 0, Nat.le_refl 0⟩ dX2_takes_54 (fun v H21 hp22 hq23 => ?_)
      obtain ⟨rfl, hl24, hn25⟩ := hp22
      have hb26 := blk_kept hb_d (n := 2) rfl (fun q h1 h2 => hq23 q (by unfold fp1; omega))
      dsimp only [psh]
      refine r_zret C dX2_takes_57 hl24 ?_
      have er : res = (u20.1, u20.2) := by rw [hres]; first | (simp only [d_X2_takes, ← hu20, if_neg c1, if_pos c2]; done) | contradiction
      rw [er]
      exact ⟨rfl, hl24, hn25⟩
  · skip
    refine r_aload_n C dX2_takes_6 rfl ?_
    refine r_aload_n C dX2_takes_7 rfl ?_
    refine r_get C hb_d (k := 0) rfl rfl celO_2 fw_X2_11 rfl dX2_takes_8 ?_
    refine r_iconst C dX2_takes_11 (0 : Int32) (by decide) ?_
    refine r_iald C hb_d (k := 1) rfl rfl (vp_in_c 0 rfl (by decide)) (j := 0) (cl_n rfl (by decide)) dX2_takes_12 ?_
    refine r_aload_n C dX2_takes_13 rfl ?_
    refine r_get C hb_d (k := 0) rfl rfl celO_2 fw_X2_11 rfl dX2_takes_14 ?_
    refine r_iconst C dX2_takes_17 (1 : Int32) (by decide) ?_
    refine r_iald C hb_d (k := 1) rfl rfl (vp_in_c 1 rfl (by decide)) (j := 1) (cl_n rfl (by decide)) dX2_takes_18 ?_
    refine r_aload_n C dX2_takes_19 rfl ?_
    refine r_get C hb_d (k := 0) rfl rfl celO_2 fw_X2_11 rfl dX2_takes_20 ?_
    refine r_iconst C dX2_takes_23 (2 : Int32) (by decide) ?_
    refine r_iald C hb_d (k := 1) rfl rfl (vp_in_c 2 rfl (by decide)) (j := 2) (cl_n rfl (by decide)) dX2_takes_24 ?_
    refine r_aload_n C dX2_takes_25 rfl ?_
    refine r_get C hb_d (k := 0) rfl rfl celO_2 fw_X2_11 rfl dX2_takes_26 ?_
    refine r_iconst C dX2_takes_29 (3 : Int32) (by decide) ?_
    refine r_iald C hb_d (k := 1) rfl rfl (vp_in_c 3 rfl (by decide)) (j := 3) (cl_n rfl (by decide)) dX2_takes_30 ?_
    obtain ⟨u27, hu27⟩ : ∃ r, r = d_X3_settle R_r (R_d 1 0) (R_d 1 1) (R_d 1 2) (R_d 1 3) := ⟨_, rfl⟩
    refine r_callV0 C cw_X2_49 (fun l => c_X3_settle l D o_r R_r (R_d 1 0) (R_d 1 1) (R_d 1 2) (R_d 1 3) u27 hu27) (rest := []) hb_r (k := 0) rfl rfl celO_3 hb_r (fun q h => by unfold fp1 at h; unfold fp1; omega) rfl rfl rfl (Nat.le_of_ble_eq_true rfl) ⟨Nat.le_of_ble_eq_true rfl, Nat.le_of_ble_eq_true rfl, Nat.le_refl 0, Nat.le_refl 0⟩ dX2_takes_31 (fun v H28 hp29 hq30 => ?_)
    obtain ⟨rfl, hl31, hn32⟩ := hp29
    have hb33 := blk_kept hb_d (n := 2) rfl (fun q h1 h2 => hq30 q (by unfold fp1; omega))
    dsimp only [psh]
    refine r_zret C dX2_takes_34 hl31 ?_
    have er : res = (u27.1, u27.2) := by rw [hres]; first | (simp only [d_X2_takes, ← hu27, if_pos c1]; done) | contradiction
    rw [er]
    exact ⟨rfl, hl31, hn32⟩

def d_X2_read_L18 (R_x : Nat → Nat → Int32) (m : Nat) (length : Int32) : Nat → (Nat → Nat → Int32) → (Nat → Nat → Int32) → Int32 → Nat → (Int32 × (Nat → Nat → Int32) × (Nat → Nat → Int32)) ⊕ ((Nat → Nat → Int32) × (Nat → Nat → Int32))
  | 0, Rd, Rr, _, _ => .inr (Rd, Rr)
  | n8 + 1, Rd, Rr, place, items =>
    if (imin length (nI m)) ≤ (nI items) then
      .inr (Rd, Rr)
    else
      if (imin length (nI m)) ≤ place then
        .inr (Rd, Rr)
      else
        let u32 := d_X2_itemEnd Rd R_x m (imin length (nI m)) place
        if u32.1 = (-4 : Int32) then
          .inl (place, u32.2, Rr)
        else
          let u42 := d_X2_takes u32.2 Rr (R_x 0 place.toNatClampNeg)
          if u42.1 = 0 then
            .inl (place, u32.2, u42.2)
          else
            d_X2_read_L18 R_x m length n8 u32.2 u42.2 u32.1 (items + 1)
def d_X2_read (R_d : Nat → Nat → Int32) (R_x : Nat → Nat → Int32) (R_r : Nat → Nat → Int32) (m : Nat) (length : Int32) : Int32 × (Nat → Nat → Int32) × (Nat → Nat → Int32) :=
  let u1 := d_X3_clear R_r
  match d_X2_read_L18 R_x m length 201 R_d u1 (0 : Int32) 0 with
  | .inl r => r
  | .inr w53 =>
    ((-4 : Int32), w53.1, w53.2)
set_option maxHeartbeats 4000000 in
set_option maxRecDepth 100000 in
theorem c_X2_read (l : Launch) (D : DD) (o_d o_x o_r : Nat) (R_d : Nat → Nat → Int32) (R_x : Nat → Nat → Int32) (R_r : Nat → Nat → Int32) (m : Nat) (length : Int32) (hm : m ≤ 200) (hlength : length = nI length.toNatClampNeg) (hllength : length.toNatClampNeg ≤ 200) (hd1 : o_d + 2 ≤ o_r ∨ o_r + 15 ≤ o_d) (hd2 : o_x < o_d ∨ o_d + 2 ≤ o_x) (hd3 : o_x < o_r ∨ o_r + 15 ≤ o_x) (res : Int32 × (Nat → Nat → Int32) × (Nat → Nat → Int32)) (hres : res = d_X2_read R_d R_x R_r m length) : Mt l D yX2_read cX2_read 8 (some .int) 3 75 0 0 [.ref o_d, .ref o_x, .int length, .ref o_r] (fun H => blk D ksReader o_d R_d H ∧ blk D (ksCh m) o_x R_x H ∧ blk D ksRiver o_r R_r H) (fun v H => v = some (.int res.1) ∧ blk D ksReader o_d res.2.1 H ∧ blk D ksRiver o_r res.2.2 H) (fp2 o_d 2 o_r 15) := by
  refine mt_of (own := RX2) (ls := [.val (.ref o_d), .val (.ref o_x), .val (.int length), .val (.ref o_r), .unset, .unset, .unset, .unset]) rfl (by decide +kernel) rfl ?_
  intro x H C hP
  obtain ⟨hb_d, hb_x, hb_r⟩ := hP
  refine r_aload_n C dX2_read_0 rfl ?_
  obtain ⟨u1, hu1⟩ : ∃ r, r = d_X3_clear R_r := ⟨_, rfl⟩
  refine r_callV0 C cw_X2_15 (fun l => c_X3_clear l D o_r R_r u1 hu1) (rest := []) hb_r (k := 0) rfl rfl celO_3 hb_r (fun q h => by unfold fp1 at h; unfold fp2; omega) rfl rfl rfl (Nat.le_of_ble_eq_true rfl) ⟨Nat.le_of_ble_eq_true rfl, Nat.le_of_ble_eq_true rfl, Nat.le_refl 0, Nat.le_refl 0⟩ dX2_read_1 (fun v H2 hp3 hq4 => ?_)
  obtain ⟨rfl, hn5⟩ := hp3
  have hb6 := blk_kept hb_d (n := 2) rfl (fun q h1 h2 => hq4 q (by unfold fp1; omega))
  have hb7 := blk_kept hb_x (n := 1) rfl (fun q h1 h2 => hq4 q (by unfold fp1; omega))
  dsimp only [psh]
  refine r_iload_n C dX2_read_4 rfl ?_
  refine r_aload_n C dX2_read_5 rfl ?_
  refine r_alen C hb7 (k := 0) rfl rfl m (Or.inr (Or.inl ⟨rfl, rfl⟩)) dX2_read_6 ?_
  refine r_mmin C mw_X2_20 rfl ⟨Nat.le_of_ble_eq_true rfl, Nat.le_of_ble_eq_true rfl, Nat.le_refl 0, Nat.le_refl 0⟩ dX2_read_7 ?_
  refine r_istore C dX2_read_10 (ls' := [.val (.ref o_d), .val (.ref o_x), .val (.int length), .val (.ref o_r), .val (.int (imin length (nI m))), .unset, .unset, .unset]) rfl trivial rfl ?_
  refine r_iconst C dX2_read_12 (0 : Int32) (by decide) ?_
  refine r_istore C dX2_read_13 (ls' := [.val (.ref o_d), .val (.ref o_x), .val (.int length), .val (.ref o_r), .val (.int (imin length (nI m))), .val (.int (0 : Int32)), .unset, .unset]) rfl trivial rfl ?_
  refine r_iconst C dX2_read_15 (0 : Int32) (by decide) ?_
  refine r_istore C dX2_read_16 (ls' := [.val (.ref o_d), .val (.ref o_x), .val (.int length), .val (.ref o_r), .val (.int (imin length (nI m))), .val (.int (0 : Int32)), .val (.int (0 : Int32)), .unset]) rfl trivial rfl ?_
  have q12 := cl_n (x := (0 : Int32)) (n := 0) rfl (by omega)
  have d_X2_read_L18_w : ∀ (n8 : Nat) (Rd : Nat → Nat → Int32) (Rr : Nat → Nat → Int32) (place : Int32) (items : Nat) (H17 : Heap) (z13 : Slot) (_ : slot1 z13), True → (place = nI place.toNatClampNeg) → (items ≤ min length.toNatClampNeg m) → (place.toNatClampNeg ≤ min length.toNatClampNeg m) → ((min length.toNatClampNeg m) - items < n8) → blk D ksReader o_d Rd H17 → blk D (ksCh m) o_x R_x H17 → blk D ksRiver o_r Rr H17 → ∀ s10 : (Int32 × (Nat → Nat → Int32) × (Nat → Nat → Int32)) ⊕ ((Nat → Nat → Int32) × (Nat → Nat → Int32)), s10 = d_X2_read_L18 R_x m length n8 Rd Rr place items → (∀ r, s10 = .inl r → res = r) → (∀ (w18 : (Nat → Nat → Int32) × (Nat → Nat → Int32)) (H' : Heap) (z19 : Slot) (_ : slot1 z19) (z20 : Slot) (_ : slot1 z20) (z21 : Slot) (_ : slot1 z21), s10 = .inr w18 → blk D ksReader o_d w18.1 H' → blk D (ksCh m) o_x R_x H' → blk D ksRiver o_r w18.2 H' → WG x (fp2 o_d 2 o_r 15) (Fin x (fun v H => v = some (.int res.1) ∧ blk D ksReader o_d res.2.1 H ∧ blk D ksRiver o_r res.2.2 H) (fp2 o_d 2 o_r 15) 0 0) H' 0 0 75 [.val (.ref o_d), .val (.ref o_x), .val (.int length), .val (.ref o_r), .val (.int (imin length (nI m))), z19, z20, z21] []) → WG x (fp2 o_d 2 o_r 15) (Fin x (fun v H => v = some (.int res.1) ∧ blk D ksReader o_d res.2.1 H ∧ blk D ksRiver o_r res.2.2 H) (fp2 o_d 2 o_r 15) 0 0) H17 0 0 18 [.val (.ref o_d), .val (.ref o_x), .val (.int length), .val (.ref o_r), .val (.int (imin length (nI m))), .val (.int place), .val (.int (nI items)), z13] [] := by
    intro n8
    induction n8 with
    | zero => intro Rd Rr place items H17 z13 hz13 _ hn_place hi hp hm22; exact absurd hm22 (Nat.not_lt_zero _)
    | succ n8 ih9 =>
      intro Rd Rr place items H17 z13 hz13 _ hn_place hi hp hm22 hb14 hb15 hb16 s10 hs10 hr23 kx11
      refine r_iload C dX2_read_18 rfl ?_
      refine r_iload C dX2_read_20 rfl ?_
      refine r_ic_ge C dX2_read_22 (fun c24 => ?_) (fun c24 => ?_)
      · skip
        have f25 : ((min length.toNatClampNeg m) ≤ items) := nf_leI (by omega) (by omega) (imin_nn hlength rfl (by omega) (by omega)) rfl c24
        have e26 : s10 = .inr (Rd, Rr) := by rw [hs10]; first | (simp only [d_X2_read_L18, if_pos c24]; done) | contradiction
        exact kx11 (Rd, Rr) _ (.val (.int place)) rfl (.val (.int (nI items))) rfl z13 hz13 e26  hb14 hb15 hb16
      · skip
        have f27 : ¬ ((min length.toNatClampNeg m) ≤ items) := nf_leIn (by omega) (by omega) (imin_nn hlength rfl (by omega) (by omega)) rfl c24
        refine r_iload C dX2_read_25 rfl ?_
        refine r_iload C dX2_read_27 rfl ?_
        refine r_ic_ge C dX2_read_29 (fun c28 => ?_) (fun c28 => ?_)
        · skip
          have f29 : ((min length.toNatClampNeg m) ≤ place.toNatClampNeg) := nf_leI (by omega) (by omega) (imin_nn hlength rfl (by omega) (by omega)) hn_place c28
          have e30 : s10 = .inr (Rd, Rr) := by rw [hs10]; first | (simp only [d_X2_read_L18, if_neg c24, if_pos c28]; done) | contradiction
          exact kx11 (Rd, Rr) _ (.val (.int place)) rfl (.val (.int (nI items))) rfl z13 hz13 e30  hb14 hb15 hb16
        · skip
          have f31 : ¬ ((min length.toNatClampNeg m) ≤ place.toNatClampNeg) := nf_leIn (by omega) (by omega) (imin_nn hlength rfl (by omega) (by omega)) hn_place c28
          refine r_aload_n C dX2_read_32 rfl ?_
          refine r_aload_n C dX2_read_33 rfl ?_
          refine r_iload C dX2_read_34 rfl ?_
          refine r_iload C dX2_read_36 rfl ?_
          obtain ⟨u32, hu32⟩ : ∃ r, r = d_X2_itemEnd Rd R_x m (imin length (nI m)) place := ⟨_, rfl⟩
          refine r_callV0 C cw_X2_26 (fun l => c_X2_itemEnd l D o_d o_x Rd R_x m (imin length (nI m)) place (by omega) (nnat (imin_nn hlength rfl (by omega) (by omega)) (by omega)) (by have q0 := cl_n (x := (imin length (nI m))) (imin_nn hlength rfl (by omega) (by omega)) (by omega); omega) hn_place (by have q0 := cl_n (x := (imin length (nI m))) (imin_nn hlength rfl (by omega) (by omega)) (by omega); omega) (by omega) u32 hu32) (rest := []) hb14 (k := 0) rfl rfl celO_2 ⟨hb14, hb15⟩ (fun q h => by unfold fp1 at h; unfold fp2; omega) rfl rfl rfl (Nat.le_of_ble_eq_true rfl) ⟨Nat.le_of_ble_eq_true rfl, Nat.le_of_ble_eq_true rfl, Nat.le_refl 0, Nat.le_refl 0⟩ dX2_read_38 (fun v H33 hp34 hq35 => ?_)
          obtain ⟨rfl, hn36⟩ := hp34
          have hb37 := blk_kept hb15 (n := 1) rfl (fun q h1 h2 => hq35 q (by unfold fp1; omega))
          have hb38 := blk_kept hb16 (n := 15) rfl (fun q h1 h2 => hq35 q (by unfold fp1; omega))
          dsimp only [psh]
          refine r_istore C dX2_read_41 (ls' := [.val (.ref o_d), .val (.ref o_x), .val (.int length), .val (.ref o_r), .val (.int (imin length (nI m))), .val (.int place), .val (.int (nI items)), .val (.int u32.1)]) rfl hz13 rfl ?_
          refine r_iload C dX2_read_43 rfl ?_
          refine r_bipush C dX2_read_45 (-4 : Int32) (by decide) ?_
          refine r_ic_eq C dX2_read_47 (fun c39 => ?_) (fun c39 => ?_)
          · skip
            refine r_iload C dX2_read_62 rfl ?_
            refine r_iret C dX2_read_64 ?_
            have er : res = (place, u32.2, Rr) := hr23 _ (by rw [hs10]; first | (simp only [d_X2_read_L18, ← hu32, if_neg c24, if_neg c28, if_pos c39]; done) | contradiction)
            rw [er]
            exact ⟨rfl, hn36, hb38⟩
          · skip
            obtain ⟨hx40, hx41⟩ := X2_itemEnd_nat hu32 c39 (by rw [cl_n (imin_nn hlength rfl (by omega) (by omega)) (by omega)]; omega) (by omega) (nnat (imin_nn hlength rfl (by omega) (by omega)) (by omega)) (by rw [cl_n (imin_nn hlength rfl (by omega) (by omega)) (by omega)]; omega)
            rw [cl_n (imin_nn hlength rfl (by omega) (by omega)) (by omega)] at hx41
            refine r_aload_n C dX2_read_50 rfl ?_
            refine r_aload_n C dX2_read_51 rfl ?_
            refine r_iload C dX2_read_52 rfl ?_
            refine r_cald C hb37 (k := 0) rfl rfl (vp_in_n hn_place (by omega) (by omega)) (j := place.toNatClampNeg) (cl_n hn_place (by omega)) dX2_read_54 ?_
            refine r_aload_n C dX2_read_55 rfl ?_
            obtain ⟨u42, hu42⟩ : ∃ r, r = d_X2_takes u32.2 Rr (R_x 0 place.toNatClampNeg) := ⟨_, rfl⟩
            refine r_callV0 C cw_X2_30 (fun l => c_X2_takes l D o_d o_r u32.2 Rr (R_x 0 place.toNatClampNeg) (by omega) u42 hu42) (rest := []) hn36 (k := 0) rfl rfl celO_2 ⟨hn36, hb38⟩ (fun q h => by unfold fp1 at h; unfold fp2; omega) rfl rfl rfl (Nat.le_of_ble_eq_true rfl) ⟨Nat.le_of_ble_eq_true rfl, Nat.le_of_ble_eq_true rfl, Nat.le_refl 0, Nat.le_refl 0⟩ dX2_read_56 (fun v H43 hp44 hq45 => ?_)
            obtain ⟨rfl, hl46, hn47⟩ := hp44
            have hb48 := blk_kept hn36 (n := 2) rfl (fun q h1 h2 => hq45 q (by unfold fp1; omega))
            have hb49 := blk_kept hb37 (n := 1) rfl (fun q h1 h2 => hq45 q (by unfold fp1; omega))
            dsimp only [psh]
            refine r_if_ne C dX2_read_59 (fun c50 => ?_) (fun c50 => ?_)
            · skip
              refine r_iload C dX2_read_65 rfl ?_
              refine r_istore C dX2_read_67 (ls' := [.val (.ref o_d), .val (.ref o_x), .val (.int length), .val (.ref o_r), .val (.int (imin length (nI m))), .val (.int u32.1), .val (.int (nI items)), .val (.int u32.1)]) rfl rfl rfl ?_
              refine r_iinc C dX2_read_69 (nI (items + 1)) rfl (nI_inc items rfl) (ls' := [.val (.ref o_d), .val (.ref o_x), .val (.int length), .val (.ref o_r), .val (.int (imin length (nI m))), .val (.int u32.1), .val (.int (nI (items + 1))), .val (.int u32.1)]) rfl ?_
              refine r_goto C dX2_read_72 ?_
              have e51 : s10 = d_X2_read_L18 R_x m length n8 u32.2 u42.2 u32.1 (items + 1) := by rw [hs10]; first | (simp only [d_X2_read_L18, ← hu32, ← hu42, if_neg c24, if_neg c28, if_neg c39, if_neg c50]; done) | contradiction
              exact ih9 u32.2 u42.2 u32.1 (items + 1) _ (.val (.int u32.1)) rfl trivial hx40 (by omega) (by omega) (by omega) hb48 hb49 hn47 s10 e51 hr23 kx11
            · skip
              refine r_iload C dX2_read_62 rfl ?_
              refine r_iret C dX2_read_64 ?_
              have er : res = (place, u32.2, u42.2) := hr23 _ (by rw [hs10]; first | (simp only [d_X2_read_L18, ← hu32, ← hu42, if_neg c24, if_neg c28, if_neg c39, if_pos c50]; done) | contradiction)
              rw [er]
              exact ⟨rfl, hb48, hn47⟩
  obtain ⟨s52, hs52⟩ : ∃ r, r = d_X2_read_L18 R_x m length 201 R_d u1 (0 : Int32) 0 := ⟨_, rfl⟩
  refine d_X2_read_L18_w 201 R_d u1 (0 : Int32) 0 _ .unset trivial trivial (nnat (a := 0) rfl (by omega)) (by omega) (by omega) (by omega) hb6 hb7 hn5 s52 hs52 (fun r e => by rw [hres]; rw [hs52] at e; simp only [d_X2_read, ← hu1, e]) (fun w53 H57 z19 hz19 z20 hz20 z21 hz21 e58  hb54 hb55 hb56 => ?_)
  have hx59 : d_X2_read_L18 R_x m length 201 R_d u1 (0 : Int32) 0 = .inr w53 := by rw [← hs52]; exact e58
  refine r_bipush C dX2_read_75 (-4 : Int32) (by decide) ?_
  refine r_iret C dX2_read_77 ?_
  have er : res = ((-4 : Int32), w53.1, w53.2) := by rw [hres]; first | (simp only [d_X2_read, ← hu1, hx59]; done) | contradiction
  rw [er]
  exact ⟨rfl, hb54, hb56⟩
def d_X4_dropOldest_L9 (n : Nat) : Nat → (Nat → Nat → Int32) → Nat → (Nat → Nat → Int32)
  | 0, Rs, _ => Rs
  | n2 + 1, Rs, i =>
    if (nI n) ≤ (nI i) then
      Rs
    else
      d_X4_dropOldest_L9 n n2 (pt Rs 1 (i - 1) (Rs 1 i)) (i + 1)
def d_X4_dropOldest (R_s : Nat → Nat → Int32) (n : Nat) : (Nat → Nat → Int32) :=
  let s19 := d_X4_dropOldest_L9 n (n + 1) R_s 1
  (pt (pt s19 1 (n - 1) (R_s 1 0)) 0 1 (nI (n - 1)))
set_option maxHeartbeats 4000000 in
set_option maxRecDepth 100000 in
theorem c_X4_dropOldest (l : Launch) (D : DD) (o_s : Nat) (R_s : Nat → Nat → Int32) (n : Nat) (hn : 0 < n) (hn2 : n ≤ 8) (hw : ∀ j, j < n → (R_s 1 j).toNatClampNeg < n) (res : (Nat → Nat → Int32)) (hres : res = d_X4_dropOldest R_s n) : Mt l D yX4_dropOldest cX4_dropOldest 3 none 0 0 0 0 [.ref o_s] (fun H => blk D (ksShelf n) o_s R_s H) (fun v H => v = none ∧ blk D (ksShelf n) o_s res H) (fp1 o_s (2 + 15 * n)) := by
  refine mt_of (own := RX4) (ls := [.val (.ref o_s), .unset, .unset]) rfl (by decide +kernel) rfl ?_
  intro x H C hP
  have hb_s := hP
  refine r_aload_n C dX4_dropOldest_0 rfl ?_
  refine r_get C hb_s (k := 0) rfl rfl celO_4 fw_X4_15 rfl dX4_dropOldest_1 ?_
  refine r_iconst C dX4_dropOldest_4 (0 : Int32) (by decide) ?_
  refine r_aaldS C hb_s (k := 1) rfl rfl (vp_in_n rfl (by omega) (by omega)) (j := 0) (cl_n rfl (by omega)) dX4_dropOldest_5 ?_
  have fw1 : (R_s 1 0).toNatClampNeg < n := hw _ (by omega)
  refine r_astore_n C dX4_dropOldest_6 (ls' := [.val (.ref o_s), .val (.ref ((o_s + 1) + 1 + 15 * (R_s 1 0).toNatClampNeg)), .unset]) rfl trivial rfl ?_
  refine r_iconst C dX4_dropOldest_7 (1 : Int32) (by decide) ?_
  refine r_istore_n C dX4_dropOldest_8 (ls' := [.val (.ref o_s), .val (.ref ((o_s + 1) + 1 + 15 * (R_s 1 0).toNatClampNeg)), .val (.int (1 : Int32))]) rfl trivial rfl ?_
  have d_X4_dropOldest_L9_w : ∀ (n2 : Nat) (Rs : Nat → Nat → Int32) (i : Nat) (H7 : Heap), True → (i ≤ n) → (1 ≤ i) → (∀ j, j < n → (Rs 1 j).toNatClampNeg < n) → (n - i < n2) → blk D (ksShelf n) o_s Rs H7 → ∀ s4 : (Nat → Nat → Int32), s4 = d_X4_dropOldest_L9 n n2 Rs i → (∀ (H' : Heap) (z8 : Slot) (_ : slot1 z8), True → blk D (ksShelf n) o_s s4 H' → WG x (fp1 o_s (2 + 15 * n)) (Fin x (fun v H => v = none ∧ blk D (ksShelf n) o_s res H) (fp1 o_s (2 + 15 * n)) 0 0) H' 0 0 38 [.val (.ref o_s), .val (.ref ((o_s + 1) + 1 + 15 * (R_s 1 0).toNatClampNeg)), z8] []) → WG x (fp1 o_s (2 + 15 * n)) (Fin x (fun v H => v = none ∧ blk D (ksShelf n) o_s res H) (fp1 o_s (2 + 15 * n)) 0 0) H7 0 0 9 [.val (.ref o_s), .val (.ref ((o_s + 1) + 1 + 15 * (R_s 1 0).toNatClampNeg)), .val (.int (nI i))] [] := by
    intro n2
    induction n2 with
    | zero => intro Rs i H7  _ hi h1 hwi hm9; exact absurd hm9 (Nat.not_lt_zero _)
    | succ n2 ih3 =>
      intro Rs i H7  _ hi h1 hwi hm9 hb6 s4 hs4  kx5
      refine r_iload_n C dX4_dropOldest_9 rfl ?_
      refine r_aload_n C dX4_dropOldest_10 rfl ?_
      refine r_get C hb6 (k := 0) rfl rfl celO_4 fw_X4_15 rfl dX4_dropOldest_11 ?_
      refine r_alen C hb6 (k := 1) rfl rfl n (Or.inr (Or.inr (Or.inr (Or.inr ⟨rfl, rfl⟩)))) dX4_dropOldest_14 ?_
      refine r_ic_ge C dX4_dropOldest_15 (fun c10 => ?_) (fun c10 => ?_)
      · skip
        have f11 : (n ≤ i) := nf_leI (by omega) (by omega) rfl rfl c10
        have e12 : s4 = Rs := by rw [hs4]; first | (simp only [d_X4_dropOldest_L9, if_pos c10]; done) | contradiction
        rw [e12] at kx5
        exact kx5 _ (.val (.int (nI i))) rfl trivial  hb6
      · skip
        have f13 : ¬ (n ≤ i) := nf_leIn (by omega) (by omega) rfl rfl c10
        refine r_aload_n C dX4_dropOldest_18 rfl ?_
        refine r_get C hb6 (k := 0) rfl rfl celO_4 fw_X4_15 rfl dX4_dropOldest_19 ?_
        refine r_iload_n C dX4_dropOldest_22 rfl ?_
        refine r_iconst C dX4_dropOldest_23 (1 : Int32) (by decide) ?_
        refine r_isubN C dX4_dropOldest_24 (na := i) (nb := 1) rfl rfl (by omega) (nc := (i - 1)) rfl ?_
        refine r_aload_n C dX4_dropOldest_25 rfl ?_
        refine r_get C hb6 (k := 0) rfl rfl celO_4 fw_X4_15 rfl dX4_dropOldest_26 ?_
        refine r_iload_n C dX4_dropOldest_29 rfl ?_
        refine r_aaldS C hb6 (k := 1) rfl rfl (vp_in_n rfl (by omega) (by omega)) (j := i) (cl_n rfl (by omega)) dX4_dropOldest_30 ?_
        have fw14 : (Rs 1 i).toNatClampNeg < n := hwi _ (by omega)
        refine r_aastS C hb6 (k := 1) rfl rfl (by unfold fp1; omega) (vp_in_n rfl (by omega) (by omega)) (j := (i - 1)) (cl_n rfl (by omega)) (k2 := (2 + 15 * (Rs 1 i).toNatClampNeg)) (kShelf_2_15 _ fw14) (by omega) (w := (Rs 1 i)) (by omega) dX4_dropOldest_31 (fun H15 hb17 hq16 => ?_)
        refine r_iinc C dX4_dropOldest_32 (nI (i + 1)) rfl (nI_inc i rfl) (ls' := [.val (.ref o_s), .val (.ref ((o_s + 1) + 1 + 15 * (R_s 1 0).toNatClampNeg)), .val (.int (nI (i + 1)))]) rfl ?_
        refine r_goto C dX4_dropOldest_35 ?_
        have e18 : s4 = d_X4_dropOldest_L9 n n2 (pt Rs 1 (i - 1) (Rs 1 i)) (i + 1) := by rw [hs4]; first | (simp only [d_X4_dropOldest_L9, if_neg c10]; done) | contradiction
        exact ih3 (pt Rs 1 (i - 1) (Rs 1 i)) (i + 1) _  trivial (by omega) (by omega) (pt_ok hwi (hwi _ (by omega))) (by omega) hb17 s4 e18  kx5
  obtain ⟨s19, hs19⟩ : ∃ r, r = d_X4_dropOldest_L9 n (n + 1) R_s 1 := ⟨_, rfl⟩
  refine d_X4_dropOldest_L9_w (n + 1) R_s 1 _  trivial (by omega) (by omega) hw (by omega) hb_s s19 hs19  (fun H21 z8 hz8 e22  hb20 => ?_)
  refine r_aload_n C dX4_dropOldest_38 rfl ?_
  refine r_get C hb20 (k := 0) rfl rfl celO_4 fw_X4_15 rfl dX4_dropOldest_39 ?_
  refine r_aload_n C dX4_dropOldest_42 rfl ?_
  refine r_get C hb20 (k := 0) rfl rfl celO_4 fw_X4_15 rfl dX4_dropOldest_43 ?_
  refine r_alen C hb20 (k := 1) rfl rfl n (Or.inr (Or.inr (Or.inr (Or.inr ⟨rfl, rfl⟩)))) dX4_dropOldest_46 ?_
  refine r_iconst C dX4_dropOldest_47 (1 : Int32) (by decide) ?_
  refine r_isubN C dX4_dropOldest_48 (na := n) (nb := 1) rfl rfl (by omega) (nc := (n - 1)) rfl ?_
  refine r_aload_n C dX4_dropOldest_49 rfl ?_
  refine r_aastS C hb20 (k := 1) rfl rfl (by unfold fp1; omega) (vp_in_n rfl (by omega) (by omega)) (j := (n - 1)) (cl_n rfl (by omega)) (k2 := (2 + 15 * (R_s 1 0).toNatClampNeg)) (kShelf_2_15 _ fw1) (by omega) (w := (R_s 1 0)) (by omega) dX4_dropOldest_50 (fun H23 hb25 hq24 => ?_)
  refine r_aload_n C dX4_dropOldest_51 rfl ?_
  refine r_aload_n C dX4_dropOldest_52 rfl ?_
  refine r_get C hb25 (k := 0) rfl rfl celO_4 fw_X4_15 rfl dX4_dropOldest_53 ?_
  refine r_alen C hb25 (k := 1) rfl rfl n (Or.inr (Or.inr (Or.inr (Or.inr ⟨rfl, rfl⟩)))) dX4_dropOldest_56 ?_
  refine r_iconst C dX4_dropOldest_57 (1 : Int32) (by decide) ?_
  refine r_isubN C dX4_dropOldest_58 (na := n) (nb := 1) rfl rfl (by omega) (nc := (n - 1)) rfl ?_
  refine r_put C hb25 (k := 0) rfl rfl (by unfold fp1; omega) fw_X4_22 fp_4_1 (Or.inr rfl) dX4_dropOldest_59 (fun H26 hb28 hq27 => ?_)
  refine r_vret C dX4_dropOldest_62 ?_
  have er : res = (pt (pt s19 1 (n - 1) (R_s 1 0)) 0 1 (nI (n - 1))) := by rw [hres]; first | (simp only [d_X4_dropOldest, ← hs19]; done) | contradiction
  rw [er]
  exact ⟨rfl, hb28⟩
theorem X4_dropOldest_L {n : Nat} : ∀ (f : Nat) (R : Nat → Nat → Int32) (i : Nat), i ≤ n → (∀ j, j < n → (R 1 j).toNatClampNeg < n) → n ≤ 8 → ∀ j, j < n → (d_X4_dropOldest_L9 n f R i 1 j).toNatClampNeg < n := by
  intro f
  induction f with
  | zero => intro R i hi h hn; simpa only [d_X4_dropOldest_L9] using h
  | succ f ih =>
    intro R i hi h hn
    simp only [d_X4_dropOldest_L9]
    split
    · exact h
    · rename_i c
      have c' : ¬ n ≤ i := nf_leIn (by omega) (by omega) rfl rfl c
      exact ih _ _ (by omega) (pt_ok h (h _ (by omega))) hn
theorem X4_dropOldest_ok {n : Nat} {R u : Nat → Nat → Int32} (h : ∀ j, j < n → (R 1 j).toNatClampNeg < n) (hn : 0 < n) (hu : u = d_X4_dropOldest R n) (hn8 : n ≤ 8) : ∀ j, j < n → (u 1 j).toNatClampNeg < n := by
  subst hu
  have h2 := X4_dropOldest_L (n := n) (n + 1) R 1 (by omega) h hn8
  simp only [d_X4_dropOldest]
  exact pt_ok (R := d_X4_dropOldest_L9 n (n + 1) R 1) h2 (h 0 hn)
def d_X4_put (R_s : Nat → Nat → Int32) (R_r : Nat → Nat → Int32) (n : Nat) : (Nat → Nat → Int32) :=
  if (R_s 0 1) < (nI n) then
    if (R_s 0 1) < 0 then
      R_s
    else
      if (nI n) ≤ (R_s 0 1) then
        R_s
      else
        let u5 := d_X3_copy (shf R_s (2 + 15 * (R_s 1 ((R_s 0 1).toNatClampNeg)).toNatClampNeg)) R_r
        (pt (spl R_s (2 + 15 * (R_s 1 ((R_s 0 1).toNatClampNeg)).toNatClampNeg) 15 u5) 0 1 (((spl R_s (2 + 15 * (R_s 1 ((R_s 0 1).toNatClampNeg)).toNatClampNeg) 15 u5) 0 1) + (1 : Int32)))
  else
    let u16 := d_X4_dropOldest R_s n
    if (u16 0 1) < 0 then
      u16
    else
      if (nI n) ≤ (u16 0 1) then
        u16
      else
        let u25 := d_X3_copy (shf u16 (2 + 15 * (u16 1 ((u16 0 1).toNatClampNeg)).toNatClampNeg)) R_r
        (pt (spl u16 (2 + 15 * (u16 1 ((u16 0 1).toNatClampNeg)).toNatClampNeg) 15 u25) 0 1 (((spl u16 (2 + 15 * (u16 1 ((u16 0 1).toNatClampNeg)).toNatClampNeg) 15 u25) 0 1) + (1 : Int32)))
set_option maxHeartbeats 4000000 in
set_option maxRecDepth 100000 in
theorem c_X4_put (l : Launch) (D : DD) (o_s o_r : Nat) (R_s : Nat → Nat → Int32) (R_r : Nat → Nat → Int32) (n : Nat) (hn : 0 < n) (hn2 : n ≤ 8) (hw : ∀ j, j < n → (R_s 1 j).toNatClampNeg < n) (hd : o_s + (2 + 15 * n) ≤ o_r ∨ o_r + 15 ≤ o_s) (res : (Nat → Nat → Int32)) (hres : res = d_X4_put R_s R_r n) : Mt l D yX4_put cX4_put 2 none 3 65 0 0 [.ref o_s, .ref o_r] (fun H => blk D (ksShelf n) o_s R_s H ∧ blk D ksRiver o_r R_r H) (fun v H => v = none ∧ blk D (ksShelf n) o_s res H) (fp1 o_s (2 + 15 * n)) := by
  refine mt_of (own := RX4) (ls := [.val (.ref o_s), .val (.ref o_r)]) rfl (by decide +kernel) rfl ?_
  intro x H C hP
  obtain ⟨hb_s, hb_r⟩ := hP
  refine r_aload_n C dX4_put_0 rfl ?_
  refine r_get C hb_s (k := 0) rfl rfl celO_4 fw_X4_22 (z := .int (R_s 0 1)) rfl dX4_put_1 ?_
  refine r_aload_n C dX4_put_4 rfl ?_
  refine r_get C hb_s (k := 0) rfl rfl celO_4 fw_X4_15 rfl dX4_put_5 ?_
  refine r_alen C hb_s (k := 1) rfl rfl n (Or.inr (Or.inr (Or.inr (Or.inr ⟨rfl, rfl⟩)))) dX4_put_8 ?_
  refine r_ic_lt C dX4_put_9 (fun c1 => ?_) (fun c1 => ?_)
  · skip
    refine r_aload_n C dX4_put_16 rfl ?_
    refine r_get C hb_s (k := 0) rfl rfl celO_4 fw_X4_22 (z := .int (R_s 0 1)) rfl dX4_put_17 ?_
    refine r_if_lt C dX4_put_20 (fun c2 => ?_) (fun c2 => ?_)
    · skip
      refine r_vret C dX4_put_58 ?_
      have er : res = R_s := by rw [hres]; first | (simp only [d_X4_put, if_pos c1, if_pos c2]; done) | contradiction
      rw [er]
      exact ⟨rfl, hb_s⟩
    · skip
      refine r_aload_n C dX4_put_23 rfl ?_
      refine r_get C hb_s (k := 0) rfl rfl celO_4 fw_X4_22 (z := .int (R_s 0 1)) rfl dX4_put_24 ?_
      refine r_aload_n C dX4_put_27 rfl ?_
      refine r_get C hb_s (k := 0) rfl rfl celO_4 fw_X4_15 rfl dX4_put_28 ?_
      refine r_alen C hb_s (k := 1) rfl rfl n (Or.inr (Or.inr (Or.inr (Or.inr ⟨rfl, rfl⟩)))) dX4_put_31 ?_
      refine r_ic_ge C dX4_put_32 (fun c3 => ?_) (fun c3 => ?_)
      · skip
        refine r_vret C dX4_put_58 ?_
        have er : res = R_s := by rw [hres]; first | (simp only [d_X4_put, if_pos c1, if_neg c2, if_pos c3]; done) | contradiction
        rw [er]
        exact ⟨rfl, hb_s⟩
      · skip
        refine r_aload_n C dX4_put_35 rfl ?_
        refine r_get C hb_s (k := 0) rfl rfl celO_4 fw_X4_15 rfl dX4_put_36 ?_
        refine r_aload_n C dX4_put_39 rfl ?_
        refine r_get C hb_s (k := 0) rfl rfl celO_4 fw_X4_22 (z := .int (R_s 0 1)) rfl dX4_put_40 ?_
        refine r_aaldS C hb_s (k := 1) rfl rfl (vp_in_lh (x_lo1 c2) (x_hi1 (N := n) c3 (by omega)) (by omega)) (j := (R_s 0 1).toNatClampNeg) rfl dX4_put_43 ?_
        have fw4 : (R_s 1 ((R_s 0 1).toNatClampNeg)).toNatClampNeg < n := hw _ (lt_of_in (vp_in_lh (x_lo1 c2) (x_hi1 (N := n) c3 (by omega)) (by omega)))
        refine r_aload_n C dX4_put_44 rfl ?_
        obtain ⟨u5, hu5⟩ : ∃ r, r = d_X3_copy (shf R_s (2 + 15 * (R_s 1 ((R_s 0 1).toNatClampNeg)).toNatClampNeg)) R_r := ⟨_, rfl⟩
        refine r_callV0 C cw_X4_29 (fun l => c_X3_copy l D ((o_s + 1) + 1 + 15 * (R_s 1 ((R_s 0 1).toNatClampNeg)).toNatClampNeg) o_r (shf R_s (2 + 15 * (R_s 1 ((R_s 0 1).toNatClampNeg)).toNatClampNeg)) R_r (by omega) u5 hu5) (rest := []) hb_s (k := (2 + 15 * (R_s 1 ((R_s 0 1).toNatClampNeg)).toNatClampNeg)) (kShelf_2_15 _ fw4) (by omega) celO_3 ⟨(blk_sub hb_s (2 + 15 * (R_s 1 ((R_s 0 1).toNatClampNeg)).toNatClampNeg) 15 (sShelf_2_15_15 _ fw4) (by omega)), hb_r⟩ (fun q h => by unfold fp1 at h; unfold fp1; omega) rfl rfl rfl (Nat.le_of_ble_eq_true rfl) ⟨Nat.le_of_ble_eq_true rfl, Nat.le_of_ble_eq_true rfl, Nat.le_refl 0, Nat.le_refl 0⟩ dX4_put_45 (fun v H6 hp7 hq8 => ?_)
        obtain ⟨rfl, hn9⟩ := hp7
        have hb10 := blk_spl hb_s (2 + 15 * (R_s 1 ((R_s 0 1).toNatClampNeg)).toNatClampNeg) 15 (sShelf_2_15_15 _ fw4) (by omega) hn9 (fun q h => hq8 q (by unfold fp1; omega))
        have hb11 := blk_kept hb_r (n := 15) rfl (fun q h1 h2 => hq8 q (by unfold fp1; omega))
        dsimp only [psh]
        refine r_aload_n C dX4_put_48 rfl ?_
        refine r_dup C dX4_put_49 rfl ?_
        refine r_get C hb10 (k := 0) rfl rfl celO_4 fw_X4_22 (z := .int ((spl R_s (2 + 15 * (R_s 1 ((R_s 0 1).toNatClampNeg)).toNatClampNeg) 15 u5) 0 1)) rfl dX4_put_50 ?_
        refine r_iconst C dX4_put_53 (1 : Int32) (by decide) ?_
        refine r_iadd C dX4_put_54 ?_
        refine r_put C hb10 (k := 0) rfl rfl (by unfold fp1; omega) fw_X4_22 fp_4_1 (Or.inr rfl) dX4_put_55 (fun H12 hb14 hq13 => ?_)
        have hb15 := blk_kept hb11 (n := 15) rfl (fun q h1 h2 => hq13 q (by omega))
        refine r_vret C dX4_put_58 ?_
        have er : res = (pt (spl R_s (2 + 15 * (R_s 1 ((R_s 0 1).toNatClampNeg)).toNatClampNeg) 15 u5) 0 1 (((spl R_s (2 + 15 * (R_s 1 ((R_s 0 1).toNatClampNeg)).toNatClampNeg) 15 u5) 0 1) + (1 : Int32))) := by rw [hres]; first | (simp only [d_X4_put, ← hu5, if_pos c1, if_neg c2, if_neg c3]; done) | contradiction
        rw [er]
        exact ⟨rfl, hb14⟩
  · skip
    refine r_aload_n C dX4_put_12 rfl ?_
    obtain ⟨u16, hu16⟩ : ∃ r, r = d_X4_dropOldest R_s n := ⟨_, rfl⟩
    refine r_callV0 C cw_X4_26 (fun l => c_X4_dropOldest l D o_s R_s n (by omega) (by omega) hw u16 hu16) (rest := []) hb_s (k := 0) rfl rfl celO_4 hb_s (fun q h => by unfold fp1 at h; unfold fp1; omega) rfl rfl rfl (Nat.le_of_ble_eq_true rfl) ⟨Nat.le_of_ble_eq_true rfl, Nat.le_of_ble_eq_true rfl, Nat.le_refl 0, Nat.le_refl 0⟩ dX4_put_13 (fun v H17 hp18 hq19 => ?_)
    obtain ⟨rfl, hn20⟩ := hp18
    have hb21 := blk_kept hb_r (n := 15) rfl (fun q h1 h2 => hq19 q (by unfold fp1; omega))
    dsimp only [psh]
    refine r_aload_n C dX4_put_16 rfl ?_
    refine r_get C hn20 (k := 0) rfl rfl celO_4 fw_X4_22 (z := .int (u16 0 1)) rfl dX4_put_17 ?_
    refine r_if_lt C dX4_put_20 (fun c22 => ?_) (fun c22 => ?_)
    · skip
      refine r_vret C dX4_put_58 ?_
      have er : res = u16 := by rw [hres]; first | (simp only [d_X4_put, ← hu16, if_neg c1, if_pos c22]; done) | contradiction
      rw [er]
      exact ⟨rfl, hn20⟩
    · skip
      refine r_aload_n C dX4_put_23 rfl ?_
      refine r_get C hn20 (k := 0) rfl rfl celO_4 fw_X4_22 (z := .int (u16 0 1)) rfl dX4_put_24 ?_
      refine r_aload_n C dX4_put_27 rfl ?_
      refine r_get C hn20 (k := 0) rfl rfl celO_4 fw_X4_15 rfl dX4_put_28 ?_
      refine r_alen C hn20 (k := 1) rfl rfl n (Or.inr (Or.inr (Or.inr (Or.inr ⟨rfl, rfl⟩)))) dX4_put_31 ?_
      refine r_ic_ge C dX4_put_32 (fun c23 => ?_) (fun c23 => ?_)
      · skip
        refine r_vret C dX4_put_58 ?_
        have er : res = u16 := by rw [hres]; first | (simp only [d_X4_put, ← hu16, if_neg c1, if_neg c22, if_pos c23]; done) | contradiction
        rw [er]
        exact ⟨rfl, hn20⟩
      · skip
        refine r_aload_n C dX4_put_35 rfl ?_
        refine r_get C hn20 (k := 0) rfl rfl celO_4 fw_X4_15 rfl dX4_put_36 ?_
        refine r_aload_n C dX4_put_39 rfl ?_
        refine r_get C hn20 (k := 0) rfl rfl celO_4 fw_X4_22 (z := .int (u16 0 1)) rfl dX4_put_40 ?_
        refine r_aaldS C hn20 (k := 1) rfl rfl (vp_in_lh (x_lo1 c22) (x_hi1 (N := n) c23 (by omega)) (by omega)) (j := (u16 0 1).toNatClampNeg) rfl dX4_put_43 ?_
        have fw24 : (u16 1 ((u16 0 1).toNatClampNeg)).toNatClampNeg < n := (X4_dropOldest_ok hw hn hu16 hn2) _ (lt_of_in (vp_in_lh (x_lo1 c22) (x_hi1 (N := n) c23 (by omega)) (by omega)))
        refine r_aload_n C dX4_put_44 rfl ?_
        obtain ⟨u25, hu25⟩ : ∃ r, r = d_X3_copy (shf u16 (2 + 15 * (u16 1 ((u16 0 1).toNatClampNeg)).toNatClampNeg)) R_r := ⟨_, rfl⟩
        refine r_callV0 C cw_X4_29 (fun l => c_X3_copy l D ((o_s + 1) + 1 + 15 * (u16 1 ((u16 0 1).toNatClampNeg)).toNatClampNeg) o_r (shf u16 (2 + 15 * (u16 1 ((u16 0 1).toNatClampNeg)).toNatClampNeg)) R_r (by omega) u25 hu25) (rest := []) hn20 (k := (2 + 15 * (u16 1 ((u16 0 1).toNatClampNeg)).toNatClampNeg)) (kShelf_2_15 _ fw24) (by omega) celO_3 ⟨(blk_sub hn20 (2 + 15 * (u16 1 ((u16 0 1).toNatClampNeg)).toNatClampNeg) 15 (sShelf_2_15_15 _ fw24) (by omega)), hb21⟩ (fun q h => by unfold fp1 at h; unfold fp1; omega) rfl rfl rfl (Nat.le_of_ble_eq_true rfl) ⟨Nat.le_of_ble_eq_true rfl, Nat.le_of_ble_eq_true rfl, Nat.le_refl 0, Nat.le_refl 0⟩ dX4_put_45 (fun v H26 hp27 hq28 => ?_)
        obtain ⟨rfl, hn29⟩ := hp27
        have hb30 := blk_spl hn20 (2 + 15 * (u16 1 ((u16 0 1).toNatClampNeg)).toNatClampNeg) 15 (sShelf_2_15_15 _ fw24) (by omega) hn29 (fun q h => hq28 q (by unfold fp1; omega))
        have hb31 := blk_kept hb21 (n := 15) rfl (fun q h1 h2 => hq28 q (by unfold fp1; omega))
        dsimp only [psh]
        refine r_aload_n C dX4_put_48 rfl ?_
        refine r_dup C dX4_put_49 rfl ?_
        refine r_get C hb30 (k := 0) rfl rfl celO_4 fw_X4_22 (z := .int ((spl u16 (2 + 15 * (u16 1 ((u16 0 1).toNatClampNeg)).toNatClampNeg) 15 u25) 0 1)) rfl dX4_put_50 ?_
        refine r_iconst C dX4_put_53 (1 : Int32) (by decide) ?_
        refine r_iadd C dX4_put_54 ?_
        refine r_put C hb30 (k := 0) rfl rfl (by unfold fp1; omega) fw_X4_22 fp_4_1 (Or.inr rfl) dX4_put_55 (fun H32 hb34 hq33 => ?_)
        have hb35 := blk_kept hb31 (n := 15) rfl (fun q h1 h2 => hq33 q (by omega))
        refine r_vret C dX4_put_58 ?_
        have er : res = (pt (spl u16 (2 + 15 * (u16 1 ((u16 0 1).toNatClampNeg)).toNatClampNeg) 15 u25) 0 1 (((spl u16 (2 + 15 * (u16 1 ((u16 0 1).toNatClampNeg)).toNatClampNeg) 15 u25) 0 1) + (1 : Int32))) := by rw [hres]; first | (simp only [d_X4_put, ← hu16, ← hu25, if_neg c1, if_neg c22, if_neg c23]; done) | contradiction
        rw [er]
        exact ⟨rfl, hb34⟩

def d_X4_takeInto (R_s : Nat → Nat → Int32) (R_r : Nat → Nat → Int32) (n : Nat) : (Nat → Nat → Int32) × (Nat → Nat → Int32) :=
  if (R_s 0 1) ≤ 0 then
    (R_s, R_r)
  else
    if (nI n) < (R_s 0 1) then
      (R_s, R_r)
    else
      let u12 := d_X3_copy R_r (shf (pt R_s 0 1 (nI ((R_s 0 1).toNatClampNeg - 1))) (2 + 15 * ((pt R_s 0 1 (nI ((R_s 0 1).toNatClampNeg - 1))) 1 ((R_s 0 1).toNatClampNeg - 1)).toNatClampNeg))
      ((pt R_s 0 1 (nI ((R_s 0 1).toNatClampNeg - 1))), u12)
set_option maxHeartbeats 4000000 in
set_option maxRecDepth 100000 in
theorem c_X4_takeInto (l : Launch) (D : DD) (o_s o_r : Nat) (R_s : Nat → Nat → Int32) (R_r : Nat → Nat → Int32) (n : Nat) (hn2 : n ≤ 8) (hw : ∀ j, j < n → (R_s 1 j).toNatClampNeg < n) (hm : R_s 0 1 = nI (R_s 0 1).toNatClampNeg) (hm2 : (R_s 0 1).toNatClampNeg ≤ n) (hd : o_s + (2 + 15 * n) ≤ o_r ∨ o_r + 15 ≤ o_s) (res : (Nat → Nat → Int32) × (Nat → Nat → Int32)) (hres : res = d_X4_takeInto R_s R_r n) : Mt l D yX4_takeInto cX4_takeInto 2 none 3 65 0 0 [.ref o_s, .ref o_r] (fun H => blk D (ksShelf n) o_s R_s H ∧ blk D ksRiver o_r R_r H) (fun v H => v = none ∧ blk D (ksShelf n) o_s res.1 H ∧ blk D ksRiver o_r res.2 H) (fp2 o_s (2 + 15 * n) o_r 15) := by
  refine mt_of (own := RX4) (ls := [.val (.ref o_s), .val (.ref o_r)]) rfl (by decide +kernel) rfl ?_
  intro x H C hP
  obtain ⟨hb_s, hb_r⟩ := hP
  refine r_aload_n C dX4_takeInto_0 rfl ?_
  refine r_get C hb_s (k := 0) rfl rfl celO_4 fw_X4_22 (z := .int (R_s 0 1)) rfl dX4_takeInto_1 ?_
  refine r_if_le C dX4_takeInto_4 (fun c1 => ?_) (fun c1 => ?_)
  · skip
    have f2 : ((R_s 0 1).toNatClampNeg ≤ 0) := nf_leI (by omega) (by omega) hm rfl c1
    refine r_vret C dX4_takeInto_42 ?_
    have er : res = (R_s, R_r) := by rw [hres]; first | (simp only [d_X4_takeInto, if_pos c1]; done) | contradiction
    rw [er]
    exact ⟨rfl, hb_s, hb_r⟩
  · skip
    have f3 : ¬ ((R_s 0 1).toNatClampNeg ≤ 0) := nf_leIn (by omega) (by omega) hm rfl c1
    refine r_aload_n C dX4_takeInto_7 rfl ?_
    refine r_get C hb_s (k := 0) rfl rfl celO_4 fw_X4_22 (z := .int (R_s 0 1)) rfl dX4_takeInto_8 ?_
    refine r_aload_n C dX4_takeInto_11 rfl ?_
    refine r_get C hb_s (k := 0) rfl rfl celO_4 fw_X4_15 rfl dX4_takeInto_12 ?_
    refine r_alen C hb_s (k := 1) rfl rfl n (Or.inr (Or.inr (Or.inr (Or.inr ⟨rfl, rfl⟩)))) dX4_takeInto_15 ?_
    refine r_ic_gt C dX4_takeInto_16 (fun c4 => ?_) (fun c4 => ?_)
    · skip
      have f5 : (n < (R_s 0 1).toNatClampNeg) := nf_ltI (by omega) (by omega) rfl hm c4
      refine r_vret C dX4_takeInto_42 ?_
      have er : res = (R_s, R_r) := by rw [hres]; first | (simp only [d_X4_takeInto, if_neg c1, if_pos c4]; done) | contradiction
      rw [er]
      exact ⟨rfl, hb_s, hb_r⟩
    · skip
      have f6 : ¬ (n < (R_s 0 1).toNatClampNeg) := nf_ltIn (by omega) (by omega) rfl hm c4
      refine r_aload_n C dX4_takeInto_19 rfl ?_
      refine r_dup C dX4_takeInto_20 rfl ?_
      refine r_get C hb_s (k := 0) rfl rfl celO_4 fw_X4_22 (z := .int (R_s 0 1)) rfl dX4_takeInto_21 ?_
      refine r_iconst C dX4_takeInto_24 (1 : Int32) (by decide) ?_
      refine r_isubN C dX4_takeInto_25 (na := (R_s 0 1).toNatClampNeg) (nb := 1) hm rfl (by omega) (nc := ((R_s 0 1).toNatClampNeg - 1)) rfl ?_
      refine r_put C hb_s (k := 0) rfl rfl (by unfold fp2; omega) fw_X4_22 fp_4_1 (Or.inr rfl) dX4_takeInto_26 (fun H7 hb9 hq8 => ?_)
      have hb10 := blk_kept hb_r (n := 15) rfl (fun q h1 h2 => hq8 q (by omega))
      refine r_aload_n C dX4_takeInto_29 rfl ?_
      refine r_aload_n C dX4_takeInto_30 rfl ?_
      refine r_get C hb9 (k := 0) rfl rfl celO_4 fw_X4_15 rfl dX4_takeInto_31 ?_
      refine r_aload_n C dX4_takeInto_34 rfl ?_
      refine r_get C hb9 (k := 0) rfl rfl celO_4 fw_X4_22 (z := .int (nI ((R_s 0 1).toNatClampNeg - 1))) rfl dX4_takeInto_35 ?_
      refine r_aaldS C hb9 (k := 1) rfl rfl (vp_in_n rfl (by omega) (by omega)) (j := ((R_s 0 1).toNatClampNeg - 1)) (cl_n rfl (by omega)) dX4_takeInto_38 ?_
      have fw11 : ((pt R_s 0 1 (nI ((R_s 0 1).toNatClampNeg - 1))) 1 ((R_s 0 1).toNatClampNeg - 1)).toNatClampNeg < n := hw _ (by omega)
      obtain ⟨u12, hu12⟩ : ∃ r, r = d_X3_copy R_r (shf (pt R_s 0 1 (nI ((R_s 0 1).toNatClampNeg - 1))) (2 + 15 * ((pt R_s 0 1 (nI ((R_s 0 1).toNatClampNeg - 1))) 1 ((R_s 0 1).toNatClampNeg - 1)).toNatClampNeg)) := ⟨_, rfl⟩
      refine r_callV0 C cw_X4_29 (fun l => c_X3_copy l D o_r ((o_s + 1) + 1 + 15 * ((pt R_s 0 1 (nI ((R_s 0 1).toNatClampNeg - 1))) 1 ((R_s 0 1).toNatClampNeg - 1)).toNatClampNeg) R_r (shf (pt R_s 0 1 (nI ((R_s 0 1).toNatClampNeg - 1))) (2 + 15 * ((pt R_s 0 1 (nI ((R_s 0 1).toNatClampNeg - 1))) 1 ((R_s 0 1).toNatClampNeg - 1)).toNatClampNeg)) (by omega) u12 hu12) (rest := []) hb10 (k := 0) rfl rfl celO_3 ⟨hb10, (blk_sub hb9 (2 + 15 * ((pt R_s 0 1 (nI ((R_s 0 1).toNatClampNeg - 1))) 1 ((R_s 0 1).toNatClampNeg - 1)).toNatClampNeg) 15 (sShelf_2_15_15 _ fw11) (by omega))⟩ (fun q h => by unfold fp1 at h; unfold fp2; omega) rfl rfl rfl (Nat.le_of_ble_eq_true rfl) ⟨Nat.le_of_ble_eq_true rfl, Nat.le_of_ble_eq_true rfl, Nat.le_refl 0, Nat.le_refl 0⟩ dX4_takeInto_39 (fun v H13 hp14 hq15 => ?_)
      obtain ⟨rfl, hn16⟩ := hp14
      have hb17 := blk_kept hb9 (n := (2 + 15 * n)) (lenShelf _) (fun q h1 h2 => hq15 q (by unfold fp1; omega))
      dsimp only [psh]
      refine r_vret C dX4_takeInto_42 ?_
      have er : res = ((pt R_s 0 1 (nI ((R_s 0 1).toNatClampNeg - 1))), u12) := by rw [hres]; first | (simp only [d_X4_takeInto, ← hu12, if_neg c1, if_neg c4]; done) | contradiction
      rw [er]
      exact ⟨rfl, hb17, hn16⟩
end
