-- ===== PART A: goes FIRST, ahead of the names: the tables' words, and 'selects' of the private methods out of them =====
/-- a private method of a class that the tables say can be made, by its rows of tables_1 -/
def lw_okq (q : MethodName × Nat) : Prop := (q.1.cls ≠ "java/lang/invoke/MethodHandle" ∧ q.1.cls ≠ "java/lang/invoke/VarHandle") ∧ Cond.instantiable q.1.cls q.2 ∈ tables_1 ∧ Cond.privateMethod q.1 ∈ tables_1 ∧ Cond.instanceMethod q.1 ∈ tables_1
theorem lw_p0 : lw_okq (⟨"FallingRules", "refuseBad", "()I"⟩, 15) := ⟨⟨by decide +kernel, by decide +kernel⟩, List.mem_of_getElem? (i := 17) (by decide +kernel), List.mem_of_getElem? (i := 350) (by decide +kernel), List.mem_of_getElem? (i := 351) (by decide +kernel)⟩
theorem lw_p1 : lw_okq (⟨"FallingRules$Reader", "readRule", "(LFallingRules$Rule;)Z"⟩, 5) := ⟨⟨by decide +kernel, by decide +kernel⟩, List.mem_of_getElem? (i := 136) (by decide +kernel), List.mem_of_getElem? (i := 370) (by decide +kernel), List.mem_of_getElem? (i := 371) (by decide +kernel)⟩
theorem lw_p2 : lw_okq (⟨"FallingRules$Reader", "readTerm", "(LFallingRules$Term;III)Z"⟩, 5) := ⟨⟨by decide +kernel, by decide +kernel⟩, List.mem_of_getElem? (i := 136) (by decide +kernel), List.mem_of_getElem? (i := 374) (by decide +kernel), List.mem_of_getElem? (i := 375) (by decide +kernel)⟩
theorem lw_p3 : lw_okq (⟨"FallingRules$Reader", "readLetter", "(LFallingRules$Term;I)Z"⟩, 5) := ⟨⟨by decide +kernel, by decide +kernel⟩, List.mem_of_getElem? (i := 136) (by decide +kernel), List.mem_of_getElem? (i := 378) (by decide +kernel), List.mem_of_getElem? (i := 379) (by decide +kernel)⟩
theorem lw_p4 : lw_okq (⟨"FallingRules$Reader", "skipBlanks", "()V"⟩, 5) := ⟨⟨by decide +kernel, by decide +kernel⟩, List.mem_of_getElem? (i := 136) (by decide +kernel), List.mem_of_getElem? (i := 382) (by decide +kernel), List.mem_of_getElem? (i := 383) (by decide +kernel)⟩
theorem lw_p5 : lw_okq (⟨"FallingRules$Reader", "opens", "(I)Z"⟩, 5) := ⟨⟨by decide +kernel, by decide +kernel⟩, List.mem_of_getElem? (i := 136) (by decide +kernel), List.mem_of_getElem? (i := 394) (by decide +kernel), List.mem_of_getElem? (i := 395) (by decide +kernel)⟩
theorem lw_p6 : lw_okq (⟨"FallingRules$Reader", "takes", "(I)Z"⟩, 5) := ⟨⟨by decide +kernel, by decide +kernel⟩, List.mem_of_getElem? (i := 136) (by decide +kernel), List.mem_of_getElem? (i := 398) (by decide +kernel), List.mem_of_getElem? (i := 399) (by decide +kernel)⟩
theorem lw_p7 : lw_okq (⟨"FallingRules$Reader", "closes", "()Z"⟩, 5) := ⟨⟨by decide +kernel, by decide +kernel⟩, List.mem_of_getElem? (i := 136) (by decide +kernel), List.mem_of_getElem? (i := 402) (by decide +kernel), List.mem_of_getElem? (i := 403) (by decide +kernel)⟩
theorem lw_p8 : lw_okq (⟨"FallingRules$History", "loseOldest", "()V"⟩, 2) := ⟨⟨by decide +kernel, by decide +kernel⟩, List.mem_of_getElem? (i := 119) (by decide +kernel), List.mem_of_getElem? (i := 416) (by decide +kernel), List.mem_of_getElem? (i := 417) (by decide +kernel)⟩
theorem lw_p9 : lw_okq (⟨"FallingRules", "forgetFindings", "()V"⟩, 15) := ⟨⟨by decide +kernel, by decide +kernel⟩, List.mem_of_getElem? (i := 17) (by decide +kernel), List.mem_of_getElem? (i := 439) (by decide +kernel), List.mem_of_getElem? (i := 440) (by decide +kernel)⟩
theorem lw_p10 : lw_okq (⟨"FallingRules", "isRule", "(I)Z"⟩, 15) := ⟨⟨by decide +kernel, by decide +kernel⟩, List.mem_of_getElem? (i := 17) (by decide +kernel), List.mem_of_getElem? (i := 456) (by decide +kernel), List.mem_of_getElem? (i := 457) (by decide +kernel)⟩
theorem lw_p11 : lw_okq (⟨"FallingRules", "keepBookRight", "()V"⟩, 15) := ⟨⟨by decide +kernel, by decide +kernel⟩, List.mem_of_getElem? (i := 17) (by decide +kernel), List.mem_of_getElem? (i := 477) (by decide +kernel), List.mem_of_getElem? (i := 478) (by decide +kernel)⟩
theorem lw_p12 : lw_okq (⟨"FallingRules$CallBook", "findHeads", "(LFallingRules$State;)V"⟩, 11) := ⟨⟨by decide +kernel, by decide +kernel⟩, List.mem_of_getElem? (i := 175) (by decide +kernel), List.mem_of_getElem? (i := 485) (by decide +kernel), List.mem_of_getElem? (i := 486) (by decide +kernel)⟩
theorem lw_p13 : lw_okq (⟨"FallingRules$CallBook", "collect", "(LFallingRules$State;)V"⟩, 11) := ⟨⟨by decide +kernel, by decide +kernel⟩, List.mem_of_getElem? (i := 175) (by decide +kernel), List.mem_of_getElem? (i := 489) (by decide +kernel), List.mem_of_getElem? (i := 490) (by decide +kernel)⟩
theorem lw_p14 : lw_okq (⟨"FallingRules$CallBook", "isHead", "(I)Z"⟩, 11) := ⟨⟨by decide +kernel, by decide +kernel⟩, List.mem_of_getElem? (i := 175) (by decide +kernel), List.mem_of_getElem? (i := 493) (by decide +kernel), List.mem_of_getElem? (i := 494) (by decide +kernel)⟩
theorem lw_p15 : lw_okq (⟨"FallingRules$CallBook", "followersOf", "(LFallingRules$State;I)J"⟩, 11) := ⟨⟨by decide +kernel, by decide +kernel⟩, List.mem_of_getElem? (i := 175) (by decide +kernel), List.mem_of_getElem? (i := 497) (by decide +kernel), List.mem_of_getElem? (i := 498) (by decide +kernel)⟩
def lw_privs_1 : List (MethodName × Nat) := [(⟨"FallingRules", "refuseBad", "()I"⟩, 15), (⟨"FallingRules$Reader", "readRule", "(LFallingRules$Rule;)Z"⟩, 5), (⟨"FallingRules$Reader", "readTerm", "(LFallingRules$Term;III)Z"⟩, 5), (⟨"FallingRules$Reader", "readLetter", "(LFallingRules$Term;I)Z"⟩, 5), (⟨"FallingRules$Reader", "skipBlanks", "()V"⟩, 5), (⟨"FallingRules$Reader", "opens", "(I)Z"⟩, 5), (⟨"FallingRules$Reader", "takes", "(I)Z"⟩, 5), (⟨"FallingRules$Reader", "closes", "()Z"⟩, 5), (⟨"FallingRules$History", "loseOldest", "()V"⟩, 2), (⟨"FallingRules", "forgetFindings", "()V"⟩, 15), (⟨"FallingRules", "isRule", "(I)Z"⟩, 15), (⟨"FallingRules", "keepBookRight", "()V"⟩, 15), (⟨"FallingRules$CallBook", "findHeads", "(LFallingRules$State;)V"⟩, 11), (⟨"FallingRules$CallBook", "collect", "(LFallingRules$State;)V"⟩, 11), (⟨"FallingRules$CallBook", "isHead", "(I)Z"⟩, 11), (⟨"FallingRules$CallBook", "followersOf", "(LFallingRules$State;I)J"⟩, 11)]
theorem lw_r1 : ∀ q ∈ lw_privs_1, lw_okq q := List.forall_mem_cons.mpr ⟨lw_p0, List.forall_mem_cons.mpr ⟨lw_p1, List.forall_mem_cons.mpr ⟨lw_p2, List.forall_mem_cons.mpr ⟨lw_p3, List.forall_mem_cons.mpr ⟨lw_p4, List.forall_mem_cons.mpr ⟨lw_p5, List.forall_mem_cons.mpr ⟨lw_p6, List.forall_mem_cons.mpr ⟨lw_p7, List.forall_mem_cons.mpr ⟨lw_p8, List.forall_mem_cons.mpr ⟨lw_p9, List.forall_mem_cons.mpr ⟨lw_p10, List.forall_mem_cons.mpr ⟨lw_p11, List.forall_mem_cons.mpr ⟨lw_p12, List.forall_mem_cons.mpr ⟨lw_p13, List.forall_mem_cons.mpr ⟨lw_p14, List.forall_mem_cons.mpr ⟨lw_p15, fun _ h => absurd h List.not_mem_nil⟩⟩⟩⟩⟩⟩⟩⟩⟩⟩⟩⟩⟩⟩⟩⟩
theorem lw_p16 : lw_okq (⟨"FallingRules$CallBook", "comesTo", "(LFallingRules$Term;ILFallingRules$Term;)Z"⟩, 11) := ⟨⟨by decide +kernel, by decide +kernel⟩, List.mem_of_getElem? (i := 175) (by decide +kernel), List.mem_of_getElem? (i := 501) (by decide +kernel), List.mem_of_getElem? (i := 502) (by decide +kernel)⟩
theorem lw_p17 : lw_okq (⟨"FallingRules$CallBook", "reachOn", "()V"⟩, 11) := ⟨⟨by decide +kernel, by decide +kernel⟩, List.mem_of_getElem? (i := 175) (by decide +kernel), List.mem_of_getElem? (i := 508) (by decide +kernel), List.mem_of_getElem? (i := 509) (by decide +kernel)⟩
theorem lw_p18 : lw_okq (⟨"FallingRules$CallBook", "findRings", "()V"⟩, 11) := ⟨⟨by decide +kernel, by decide +kernel⟩, List.mem_of_getElem? (i := 175) (by decide +kernel), List.mem_of_getElem? (i := 515) (by decide +kernel), List.mem_of_getElem? (i := 516) (by decide +kernel)⟩
theorem lw_p19 : lw_okq (⟨"FallingRules$CallBook", "nameRing", "(I)V"⟩, 11) := ⟨⟨by decide +kernel, by decide +kernel⟩, List.mem_of_getElem? (i := 175) (by decide +kernel), List.mem_of_getElem? (i := 519) (by decide +kernel), List.mem_of_getElem? (i := 520) (by decide +kernel)⟩
theorem lw_p20 : lw_okq (⟨"FallingRules$Script", "writeSide", "(LFallingRules$Term;)V"⟩, 2) := ⟨⟨by decide +kernel, by decide +kernel⟩, List.mem_of_getElem? (i := 160) (by decide +kernel), List.mem_of_getElem? (i := 537) (by decide +kernel), List.mem_of_getElem? (i := 538) (by decide +kernel)⟩
theorem lw_p21 : lw_okq (⟨"FallingRules$Script", "put", "(I)V"⟩, 2) := ⟨⟨by decide +kernel, by decide +kernel⟩, List.mem_of_getElem? (i := 160) (by decide +kernel), List.mem_of_getElem? (i := 541) (by decide +kernel), List.mem_of_getElem? (i := 542) (by decide +kernel)⟩
theorem lw_p22 : lw_okq (⟨"FallingRules$Script", "writeBehind", "(LFallingRules$Term;I)V"⟩, 2) := ⟨⟨by decide +kernel, by decide +kernel⟩, List.mem_of_getElem? (i := 160) (by decide +kernel), List.mem_of_getElem? (i := 546) (by decide +kernel), List.mem_of_getElem? (i := 547) (by decide +kernel)⟩
theorem lw_p23 : lw_okq (⟨"FallingRules$Scales", "fillRows", "(LFallingRules$State;LFallingRules$CallBook;IIII)Z"⟩, 5) := ⟨⟨by decide +kernel, by decide +kernel⟩, List.mem_of_getElem? (i := 227) (by decide +kernel), List.mem_of_getElem? (i := 558) (by decide +kernel), List.mem_of_getElem? (i := 559) (by decide +kernel)⟩
theorem lw_p24 : lw_okq (⟨"FallingRules$Shares", "addPart", "(III)V"⟩, 1) := ⟨⟨by decide +kernel, by decide +kernel⟩, List.mem_of_getElem? (i := 233) (by decide +kernel), List.mem_of_getElem? (i := 567) (by decide +kernel), List.mem_of_getElem? (i := 568) (by decide +kernel)⟩
theorem lw_p25 : lw_okq (⟨"FallingRules$Scales", "addRow", "(II)Z"⟩, 5) := ⟨⟨by decide +kernel, by decide +kernel⟩, List.mem_of_getElem? (i := 227) (by decide +kernel), List.mem_of_getElem? (i := 571) (by decide +kernel), List.mem_of_getElem? (i := 572) (by decide +kernel)⟩
theorem lw_p26 : lw_okq (⟨"FallingRules$Scales", "addCallRows", "(LFallingRules$CallBook;II)Z"⟩, 5) := ⟨⟨by decide +kernel, by decide +kernel⟩, List.mem_of_getElem? (i := 227) (by decide +kernel), List.mem_of_getElem? (i := 575) (by decide +kernel), List.mem_of_getElem? (i := 576) (by decide +kernel)⟩
theorem lw_p27 : lw_okq (⟨"FallingRules$Scales", "leastByRows", "(III)I"⟩, 5) := ⟨⟨by decide +kernel, by decide +kernel⟩, List.mem_of_getElem? (i := 227) (by decide +kernel), List.mem_of_getElem? (i := 579) (by decide +kernel), List.mem_of_getElem? (i := 580) (by decide +kernel)⟩
theorem lw_p28 : lw_okq (⟨"FallingRules$Scales", "meetsRows", "(IIII)Z"⟩, 5) := ⟨⟨by decide +kernel, by decide +kernel⟩, List.mem_of_getElem? (i := 227) (by decide +kernel), List.mem_of_getElem? (i := 583) (by decide +kernel), List.mem_of_getElem? (i := 584) (by decide +kernel)⟩
theorem lw_p29 : lw_okq (⟨"FallingRules$Scales", "sumOfRow", "(IIIII)I"⟩, 5) := ⟨⟨by decide +kernel, by decide +kernel⟩, List.mem_of_getElem? (i := 227) (by decide +kernel), List.mem_of_getElem? (i := 587) (by decide +kernel), List.mem_of_getElem? (i := 588) (by decide +kernel)⟩
theorem lw_p30 : lw_okq (⟨"FallingRules", "splitFigures", "(I)Z"⟩, 15) := ⟨⟨by decide +kernel, by decide +kernel⟩, List.mem_of_getElem? (i := 17) (by decide +kernel), List.mem_of_getElem? (i := 595) (by decide +kernel), List.mem_of_getElem? (i := 596) (by decide +kernel)⟩
theorem lw_p31 : lw_okq (⟨"FallingRules$Scales", "totalAt", "(LFallingRules$Term;I)J"⟩, 5) := ⟨⟨by decide +kernel, by decide +kernel⟩, List.mem_of_getElem? (i := 227) (by decide +kernel), List.mem_of_getElem? (i := 612) (by decide +kernel), List.mem_of_getElem? (i := 613) (by decide +kernel)⟩
def lw_privs_2 : List (MethodName × Nat) := [(⟨"FallingRules$CallBook", "comesTo", "(LFallingRules$Term;ILFallingRules$Term;)Z"⟩, 11), (⟨"FallingRules$CallBook", "reachOn", "()V"⟩, 11), (⟨"FallingRules$CallBook", "findRings", "()V"⟩, 11), (⟨"FallingRules$CallBook", "nameRing", "(I)V"⟩, 11), (⟨"FallingRules$Script", "writeSide", "(LFallingRules$Term;)V"⟩, 2), (⟨"FallingRules$Script", "put", "(I)V"⟩, 2), (⟨"FallingRules$Script", "writeBehind", "(LFallingRules$Term;I)V"⟩, 2), (⟨"FallingRules$Scales", "fillRows", "(LFallingRules$State;LFallingRules$CallBook;IIII)Z"⟩, 5), (⟨"FallingRules$Shares", "addPart", "(III)V"⟩, 1), (⟨"FallingRules$Scales", "addRow", "(II)Z"⟩, 5), (⟨"FallingRules$Scales", "addCallRows", "(LFallingRules$CallBook;II)Z"⟩, 5), (⟨"FallingRules$Scales", "leastByRows", "(III)I"⟩, 5), (⟨"FallingRules$Scales", "meetsRows", "(IIII)Z"⟩, 5), (⟨"FallingRules$Scales", "sumOfRow", "(IIIII)I"⟩, 5), (⟨"FallingRules", "splitFigures", "(I)Z"⟩, 15), (⟨"FallingRules$Scales", "totalAt", "(LFallingRules$Term;I)J"⟩, 5)]
theorem lw_r2 : ∀ q ∈ lw_privs_2, lw_okq q := List.forall_mem_cons.mpr ⟨lw_p16, List.forall_mem_cons.mpr ⟨lw_p17, List.forall_mem_cons.mpr ⟨lw_p18, List.forall_mem_cons.mpr ⟨lw_p19, List.forall_mem_cons.mpr ⟨lw_p20, List.forall_mem_cons.mpr ⟨lw_p21, List.forall_mem_cons.mpr ⟨lw_p22, List.forall_mem_cons.mpr ⟨lw_p23, List.forall_mem_cons.mpr ⟨lw_p24, List.forall_mem_cons.mpr ⟨lw_p25, List.forall_mem_cons.mpr ⟨lw_p26, List.forall_mem_cons.mpr ⟨lw_p27, List.forall_mem_cons.mpr ⟨lw_p28, List.forall_mem_cons.mpr ⟨lw_p29, List.forall_mem_cons.mpr ⟨lw_p30, List.forall_mem_cons.mpr ⟨lw_p31, fun _ h => absurd h List.not_mem_nil⟩⟩⟩⟩⟩⟩⟩⟩⟩⟩⟩⟩⟩⟩⟩⟩
theorem lw_p32 : lw_okq (⟨"FallingRules", "weighRings", "()V"⟩, 15) := ⟨⟨by decide +kernel, by decide +kernel⟩, List.mem_of_getElem? (i := 17) (by decide +kernel), List.mem_of_getElem? (i := 621) (by decide +kernel), List.mem_of_getElem? (i := 622) (by decide +kernel)⟩
theorem lw_p33 : lw_okq (⟨"FallingRules$Turner", "leastRuleAt", "(LFallingRules$State;LFallingRules$Term;I)I"⟩, 4) := ⟨⟨by decide +kernel, by decide +kernel⟩, List.mem_of_getElem? (i := 260) (by decide +kernel), List.mem_of_getElem? (i := 662) (by decide +kernel), List.mem_of_getElem? (i := 663) (by decide +kernel)⟩
theorem lw_p34 : lw_okq (⟨"FallingRules$Turner", "fits", "(LFallingRules$Term;LFallingRules$Term;I)Z"⟩, 4) := ⟨⟨by decide +kernel, by decide +kernel⟩, List.mem_of_getElem? (i := 260) (by decide +kernel), List.mem_of_getElem? (i := 666) (by decide +kernel), List.mem_of_getElem? (i := 667) (by decide +kernel)⟩
theorem lw_p35 : lw_okq (⟨"FallingRules$Turner", "build", "(LFallingRules$Rule;LFallingRules$Term;)Z"⟩, 4) := ⟨⟨by decide +kernel, by decide +kernel⟩, List.mem_of_getElem? (i := 260) (by decide +kernel), List.mem_of_getElem? (i := 675) (by decide +kernel), List.mem_of_getElem? (i := 676) (by decide +kernel)⟩
theorem lw_p36 : lw_okq (⟨"FallingRules$Turner", "sizeBehind", "(LFallingRules$Term;LFallingRules$Term;)I"⟩, 4) := ⟨⟨by decide +kernel, by decide +kernel⟩, List.mem_of_getElem? (i := 260) (by decide +kernel), List.mem_of_getElem? (i := 679) (by decide +kernel), List.mem_of_getElem? (i := 680) (by decide +kernel)⟩
theorem lw_p37 : lw_okq (⟨"FallingRulesModel", "refuses", "(I)I"⟩, 32) := ⟨⟨by decide +kernel, by decide +kernel⟩, List.mem_of_getElem? (i := 732) (by decide +kernel), List.mem_of_getElem? (i := 840) (by decide +kernel), List.mem_of_getElem? (i := 841) (by decide +kernel)⟩
theorem lw_p38 : lw_okq (⟨"FallingRulesModel", "readsRules", "()I"⟩, 32) := ⟨⟨by decide +kernel, by decide +kernel⟩, List.mem_of_getElem? (i := 732) (by decide +kernel), List.mem_of_getElem? (i := 862) (by decide +kernel), List.mem_of_getElem? (i := 863) (by decide +kernel)⟩
theorem lw_p39 : lw_okq (⟨"FallingRulesModel", "blanks", "()V"⟩, 32) := ⟨⟨by decide +kernel, by decide +kernel⟩, List.mem_of_getElem? (i := 732) (by decide +kernel), List.mem_of_getElem? (i := 866) (by decide +kernel), List.mem_of_getElem? (i := 867) (by decide +kernel)⟩
theorem lw_p40 : lw_okq (⟨"FallingRulesModel", "takesRule", "()Z"⟩, 32) := ⟨⟨by decide +kernel, by decide +kernel⟩, List.mem_of_getElem? (i := 732) (by decide +kernel), List.mem_of_getElem? (i := 870) (by decide +kernel), List.mem_of_getElem? (i := 871) (by decide +kernel)⟩
theorem lw_p41 : lw_okq (⟨"FallingRulesModel", "takesTerm", "(III)I"⟩, 32) := ⟨⟨by decide +kernel, by decide +kernel⟩, List.mem_of_getElem? (i := 732) (by decide +kernel), List.mem_of_getElem? (i := 880) (by decide +kernel), List.mem_of_getElem? (i := 881) (by decide +kernel)⟩
theorem lw_p42 : lw_okq (⟨"FallingRulesModel", "wantsMore", "(I)V"⟩, 32) := ⟨⟨by decide +kernel, by decide +kernel⟩, List.mem_of_getElem? (i := 732) (by decide +kernel), List.mem_of_getElem? (i := 884) (by decide +kernel), List.mem_of_getElem? (i := 885) (by decide +kernel)⟩
theorem lw_p43 : lw_okq (⟨"FallingRulesModel", "opens", "(I)V"⟩, 32) := ⟨⟨by decide +kernel, by decide +kernel⟩, List.mem_of_getElem? (i := 732) (by decide +kernel), List.mem_of_getElem? (i := 891) (by decide +kernel), List.mem_of_getElem? (i := 892) (by decide +kernel)⟩
theorem lw_p44 : lw_okq (⟨"FallingRulesModel", "takesSign", "(I)Z"⟩, 32) := ⟨⟨by decide +kernel, by decide +kernel⟩, List.mem_of_getElem? (i := 732) (by decide +kernel), List.mem_of_getElem? (i := 898) (by decide +kernel), List.mem_of_getElem? (i := 899) (by decide +kernel)⟩
theorem lw_p45 : lw_okq (⟨"FallingRulesModel", "remembers", "()V"⟩, 32) := ⟨⟨by decide +kernel, by decide +kernel⟩, List.mem_of_getElem? (i := 732) (by decide +kernel), List.mem_of_getElem? (i := 908) (by decide +kernel), List.mem_of_getElem? (i := 909) (by decide +kernel)⟩
theorem lw_p46 : lw_okq (⟨"FallingRulesModel", "readsTerm", "()I"⟩, 32) := ⟨⟨by decide +kernel, by decide +kernel⟩, List.mem_of_getElem? (i := 732) (by decide +kernel), List.mem_of_getElem? (i := 916) (by decide +kernel), List.mem_of_getElem? (i := 917) (by decide +kernel)⟩
theorem lw_p47 : lw_okq (⟨"FallingRulesModel", "isRule", "(I)Z"⟩, 32) := ⟨⟨by decide +kernel, by decide +kernel⟩, List.mem_of_getElem? (i := 732) (by decide +kernel), List.mem_of_getElem? (i := 924) (by decide +kernel), List.mem_of_getElem? (i := 925) (by decide +kernel)⟩
def lw_privs_3 : List (MethodName × Nat) := [(⟨"FallingRules", "weighRings", "()V"⟩, 15), (⟨"FallingRules$Turner", "leastRuleAt", "(LFallingRules$State;LFallingRules$Term;I)I"⟩, 4), (⟨"FallingRules$Turner", "fits", "(LFallingRules$Term;LFallingRules$Term;I)Z"⟩, 4), (⟨"FallingRules$Turner", "build", "(LFallingRules$Rule;LFallingRules$Term;)Z"⟩, 4), (⟨"FallingRules$Turner", "sizeBehind", "(LFallingRules$Term;LFallingRules$Term;)I"⟩, 4), (⟨"FallingRulesModel", "refuses", "(I)I"⟩, 32), (⟨"FallingRulesModel", "readsRules", "()I"⟩, 32), (⟨"FallingRulesModel", "blanks", "()V"⟩, 32), (⟨"FallingRulesModel", "takesRule", "()Z"⟩, 32), (⟨"FallingRulesModel", "takesTerm", "(III)I"⟩, 32), (⟨"FallingRulesModel", "wantsMore", "(I)V"⟩, 32), (⟨"FallingRulesModel", "opens", "(I)V"⟩, 32), (⟨"FallingRulesModel", "takesSign", "(I)Z"⟩, 32), (⟨"FallingRulesModel", "remembers", "()V"⟩, 32), (⟨"FallingRulesModel", "readsTerm", "()I"⟩, 32), (⟨"FallingRulesModel", "isRule", "(I)Z"⟩, 32)]
theorem lw_r3 : ∀ q ∈ lw_privs_3, lw_okq q := List.forall_mem_cons.mpr ⟨lw_p32, List.forall_mem_cons.mpr ⟨lw_p33, List.forall_mem_cons.mpr ⟨lw_p34, List.forall_mem_cons.mpr ⟨lw_p35, List.forall_mem_cons.mpr ⟨lw_p36, List.forall_mem_cons.mpr ⟨lw_p37, List.forall_mem_cons.mpr ⟨lw_p38, List.forall_mem_cons.mpr ⟨lw_p39, List.forall_mem_cons.mpr ⟨lw_p40, List.forall_mem_cons.mpr ⟨lw_p41, List.forall_mem_cons.mpr ⟨lw_p42, List.forall_mem_cons.mpr ⟨lw_p43, List.forall_mem_cons.mpr ⟨lw_p44, List.forall_mem_cons.mpr ⟨lw_p45, List.forall_mem_cons.mpr ⟨lw_p46, List.forall_mem_cons.mpr ⟨lw_p47, fun _ h => absurd h List.not_mem_nil⟩⟩⟩⟩⟩⟩⟩⟩⟩⟩⟩⟩⟩⟩⟩⟩
theorem lw_p48 : lw_okq (⟨"FallingRulesModel", "movesRule", "(II)V"⟩, 32) := ⟨⟨by decide +kernel, by decide +kernel⟩, List.mem_of_getElem? (i := 732) (by decide +kernel), List.mem_of_getElem? (i := 928) (by decide +kernel), List.mem_of_getElem? (i := 929) (by decide +kernel)⟩
theorem lw_p49 : lw_okq (⟨"FallingRulesModel", "ruleTold", "(II)I"⟩, 32) := ⟨⟨by decide +kernel, by decide +kernel⟩, List.mem_of_getElem? (i := 732) (by decide +kernel), List.mem_of_getElem? (i := 940) (by decide +kernel), List.mem_of_getElem? (i := 941) (by decide +kernel)⟩
theorem lw_p50 : lw_okq (⟨"FallingRulesModel", "isHead", "(I)Z"⟩, 32) := ⟨⟨by decide +kernel, by decide +kernel⟩, List.mem_of_getElem? (i := 732) (by decide +kernel), List.mem_of_getElem? (i := 950) (by decide +kernel), List.mem_of_getElem? (i := 951) (by decide +kernel)⟩
theorem lw_p51 : lw_okq (⟨"FallingRulesModel", "heads", "()I"⟩, 32) := ⟨⟨by decide +kernel, by decide +kernel⟩, List.mem_of_getElem? (i := 732) (by decide +kernel), List.mem_of_getElem? (i := 954) (by decide +kernel), List.mem_of_getElem? (i := 955) (by decide +kernel)⟩
theorem lw_p52 : lw_okq (⟨"FallingRulesModel", "writesTerm", "(II)V"⟩, 32) := ⟨⟨by decide +kernel, by decide +kernel⟩, List.mem_of_getElem? (i := 732) (by decide +kernel), List.mem_of_getElem? (i := 962) (by decide +kernel), List.mem_of_getElem? (i := 963) (by decide +kernel)⟩
theorem lw_p53 : lw_okq (⟨"FallingRulesModel", "writes", "(I)V"⟩, 32) := ⟨⟨by decide +kernel, by decide +kernel⟩, List.mem_of_getElem? (i := 732) (by decide +kernel), List.mem_of_getElem? (i := 966) (by decide +kernel), List.mem_of_getElem? (i := 967) (by decide +kernel)⟩
theorem lw_p54 : lw_okq (⟨"FallingRulesModel", "laysFigures", "(II)Z"⟩, 32) := ⟨⟨by decide +kernel, by decide +kernel⟩, List.mem_of_getElem? (i := 732) (by decide +kernel), List.mem_of_getElem? (i := 974) (by decide +kernel), List.mem_of_getElem? (i := 975) (by decide +kernel)⟩
theorem lw_p55 : lw_okq (⟨"FallingRulesModel", "areAll", "(I)Z"⟩, 32) := ⟨⟨by decide +kernel, by decide +kernel⟩, List.mem_of_getElem? (i := 732) (by decide +kernel), List.mem_of_getElem? (i := 978) (by decide +kernel), List.mem_of_getElem? (i := 979) (by decide +kernel)⟩
theorem lw_p56 : lw_okq (⟨"FallingRulesModel", "comparesRule", "(I)I"⟩, 32) := ⟨⟨by decide +kernel, by decide +kernel⟩, List.mem_of_getElem? (i := 732) (by decide +kernel), List.mem_of_getElem? (i := 982) (by decide +kernel), List.mem_of_getElem? (i := 983) (by decide +kernel)⟩
theorem lw_p57 : lw_okq (⟨"FallingRulesModel", "compares", "(IIII)I"⟩, 32) := ⟨⟨by decide +kernel, by decide +kernel⟩, List.mem_of_getElem? (i := 732) (by decide +kernel), List.mem_of_getElem? (i := 986) (by decide +kernel), List.mem_of_getElem? (i := 987) (by decide +kernel)⟩
theorem lw_p58 : lw_okq (⟨"FallingRulesModel", "weighsTerm", "([III)V"⟩, 32) := ⟨⟨by decide +kernel, by decide +kernel⟩, List.mem_of_getElem? (i := 732) (by decide +kernel), List.mem_of_getElem? (i := 990) (by decide +kernel), List.mem_of_getElem? (i := 991) (by decide +kernel)⟩
theorem lw_p59 : lw_okq (⟨"FallingRulesModel", "numberOf", "()I"⟩, 32) := ⟨⟨by decide +kernel, by decide +kernel⟩, List.mem_of_getElem? (i := 732) (by decide +kernel), List.mem_of_getElem? (i := 995) (by decide +kernel), List.mem_of_getElem? (i := 996) (by decide +kernel)⟩
theorem lw_p60 : lw_okq (⟨"FallingRulesModel", "goesOn", "(II)Z"⟩, 32) := ⟨⟨by decide +kernel, by decide +kernel⟩, List.mem_of_getElem? (i := 732) (by decide +kernel), List.mem_of_getElem? (i := 999) (by decide +kernel), List.mem_of_getElem? (i := 1000) (by decide +kernel)⟩
theorem lw_p61 : lw_okq (⟨"FallingRulesModel", "laysCalls", "()V"⟩, 32) := ⟨⟨by decide +kernel, by decide +kernel⟩, List.mem_of_getElem? (i := 732) (by decide +kernel), List.mem_of_getElem? (i := 1015) (by decide +kernel), List.mem_of_getElem? (i := 1016) (by decide +kernel)⟩
theorem lw_p62 : lw_okq (⟨"FallingRulesModel", "mayFollow", "(II)Z"⟩, 32) := ⟨⟨by decide +kernel, by decide +kernel⟩, List.mem_of_getElem? (i := 732) (by decide +kernel), List.mem_of_getElem? (i := 1019) (by decide +kernel), List.mem_of_getElem? (i := 1020) (by decide +kernel)⟩
theorem lw_p63 : lw_okq (⟨"FallingRulesModel", "laysRings", "()V"⟩, 32) := ⟨⟨by decide +kernel, by decide +kernel⟩, List.mem_of_getElem? (i := 732) (by decide +kernel), List.mem_of_getElem? (i := 1026) (by decide +kernel), List.mem_of_getElem? (i := 1027) (by decide +kernel)⟩
def lw_privs_4 : List (MethodName × Nat) := [(⟨"FallingRulesModel", "movesRule", "(II)V"⟩, 32), (⟨"FallingRulesModel", "ruleTold", "(II)I"⟩, 32), (⟨"FallingRulesModel", "isHead", "(I)Z"⟩, 32), (⟨"FallingRulesModel", "heads", "()I"⟩, 32), (⟨"FallingRulesModel", "writesTerm", "(II)V"⟩, 32), (⟨"FallingRulesModel", "writes", "(I)V"⟩, 32), (⟨"FallingRulesModel", "laysFigures", "(II)Z"⟩, 32), (⟨"FallingRulesModel", "areAll", "(I)Z"⟩, 32), (⟨"FallingRulesModel", "comparesRule", "(I)I"⟩, 32), (⟨"FallingRulesModel", "compares", "(IIII)I"⟩, 32), (⟨"FallingRulesModel", "weighsTerm", "([III)V"⟩, 32), (⟨"FallingRulesModel", "numberOf", "()I"⟩, 32), (⟨"FallingRulesModel", "goesOn", "(II)Z"⟩, 32), (⟨"FallingRulesModel", "laysCalls", "()V"⟩, 32), (⟨"FallingRulesModel", "mayFollow", "(II)Z"⟩, 32), (⟨"FallingRulesModel", "laysRings", "()V"⟩, 32)]
theorem lw_r4 : ∀ q ∈ lw_privs_4, lw_okq q := List.forall_mem_cons.mpr ⟨lw_p48, List.forall_mem_cons.mpr ⟨lw_p49, List.forall_mem_cons.mpr ⟨lw_p50, List.forall_mem_cons.mpr ⟨lw_p51, List.forall_mem_cons.mpr ⟨lw_p52, List.forall_mem_cons.mpr ⟨lw_p53, List.forall_mem_cons.mpr ⟨lw_p54, List.forall_mem_cons.mpr ⟨lw_p55, List.forall_mem_cons.mpr ⟨lw_p56, List.forall_mem_cons.mpr ⟨lw_p57, List.forall_mem_cons.mpr ⟨lw_p58, List.forall_mem_cons.mpr ⟨lw_p59, List.forall_mem_cons.mpr ⟨lw_p60, List.forall_mem_cons.mpr ⟨lw_p61, List.forall_mem_cons.mpr ⟨lw_p62, List.forall_mem_cons.mpr ⟨lw_p63, fun _ h => absurd h List.not_mem_nil⟩⟩⟩⟩⟩⟩⟩⟩⟩⟩⟩⟩⟩⟩⟩⟩
theorem lw_p64 : lw_okq (⟨"FallingRulesModel", "callsTold", "(I)I"⟩, 32) := ⟨⟨by decide +kernel, by decide +kernel⟩, List.mem_of_getElem? (i := 732) (by decide +kernel), List.mem_of_getElem? (i := 1030) (by decide +kernel), List.mem_of_getElem? (i := 1031) (by decide +kernel)⟩
theorem lw_p65 : lw_okq (⟨"FallingRulesModel", "lighterOf", "(I)I"⟩, 32) := ⟨⟨by decide +kernel, by decide +kernel⟩, List.mem_of_getElem? (i := 732) (by decide +kernel), List.mem_of_getElem? (i := 1034) (by decide +kernel), List.mem_of_getElem? (i := 1035) (by decide +kernel)⟩
theorem lw_p66 : lw_okq (⟨"FallingRulesModel", "isLighter", "(I)Z"⟩, 32) := ⟨⟨by decide +kernel, by decide +kernel⟩, List.mem_of_getElem? (i := 732) (by decide +kernel), List.mem_of_getElem? (i := 1038) (by decide +kernel), List.mem_of_getElem? (i := 1039) (by decide +kernel)⟩
theorem lw_p67 : lw_okq (⟨"FallingRulesModel", "callTold", "(II)I"⟩, 32) := ⟨⟨by decide +kernel, by decide +kernel⟩, List.mem_of_getElem? (i := 732) (by decide +kernel), List.mem_of_getElem? (i := 1046) (by decide +kernel), List.mem_of_getElem? (i := 1047) (by decide +kernel)⟩
theorem lw_p68 : lw_okq (⟨"FallingRulesModel", "laysTerm", "()V"⟩, 32) := ⟨⟨by decide +kernel, by decide +kernel⟩, List.mem_of_getElem? (i := 732) (by decide +kernel), List.mem_of_getElem? (i := 1062) (by decide +kernel), List.mem_of_getElem? (i := 1063) (by decide +kernel)⟩
theorem lw_p69 : lw_okq (⟨"FallingRulesModel", "findsTurn", "()Z"⟩, 32) := ⟨⟨by decide +kernel, by decide +kernel⟩, List.mem_of_getElem? (i := 732) (by decide +kernel), List.mem_of_getElem? (i := 1066) (by decide +kernel), List.mem_of_getElem? (i := 1067) (by decide +kernel)⟩
theorem lw_p70 : lw_okq (⟨"FallingRulesModel", "ruleAt", "(I)I"⟩, 32) := ⟨⟨by decide +kernel, by decide +kernel⟩, List.mem_of_getElem? (i := 732) (by decide +kernel), List.mem_of_getElem? (i := 1070) (by decide +kernel), List.mem_of_getElem? (i := 1071) (by decide +kernel)⟩
theorem lw_p71 : lw_okq (⟨"FallingRulesModel", "fits", "(II)Z"⟩, 32) := ⟨⟨by decide +kernel, by decide +kernel⟩, List.mem_of_getElem? (i := 732) (by decide +kernel), List.mem_of_getElem? (i := 1074) (by decide +kernel), List.mem_of_getElem? (i := 1075) (by decide +kernel)⟩
theorem lw_p72 : lw_okq (⟨"FallingRulesModel", "binds", "(II)Z"⟩, 32) := ⟨⟨by decide +kernel, by decide +kernel⟩, List.mem_of_getElem? (i := 732) (by decide +kernel), List.mem_of_getElem? (i := 1078) (by decide +kernel), List.mem_of_getElem? (i := 1079) (by decide +kernel)⟩
theorem lw_p73 : lw_okq (⟨"FallingRulesModel", "doesTurn", "()Z"⟩, 32) := ⟨⟨by decide +kernel, by decide +kernel⟩, List.mem_of_getElem? (i := 732) (by decide +kernel), List.mem_of_getElem? (i := 1082) (by decide +kernel), List.mem_of_getElem? (i := 1083) (by decide +kernel)⟩
theorem lw_p74 : lw_okq (⟨"FallingRulesModel", "makes", "(II)V"⟩, 32) := ⟨⟨by decide +kernel, by decide +kernel⟩, List.mem_of_getElem? (i := 732) (by decide +kernel), List.mem_of_getElem? (i := 1086) (by decide +kernel), List.mem_of_getElem? (i := 1087) (by decide +kernel)⟩
theorem lw_p75 : lw_okq (⟨"FallingRulesModel", "settled", "()I"⟩, 32) := ⟨⟨by decide +kernel, by decide +kernel⟩, List.mem_of_getElem? (i := 732) (by decide +kernel), List.mem_of_getElem? (i := 1094) (by decide +kernel), List.mem_of_getElem? (i := 1095) (by decide +kernel)⟩
theorem lw_p76 : lw_okq (⟨"FallingRulesModel", "nextOf", "(I)I"⟩, 32) := ⟨⟨by decide +kernel, by decide +kernel⟩, List.mem_of_getElem? (i := 732) (by decide +kernel), List.mem_of_getElem? (i := 1102) (by decide +kernel), List.mem_of_getElem? (i := 1103) (by decide +kernel)⟩
theorem lw_p77 : lw_okq (⟨"FallingRulesModel", "toldOf", "(I)I"⟩, 32) := ⟨⟨by decide +kernel, by decide +kernel⟩, List.mem_of_getElem? (i := 732) (by decide +kernel), List.mem_of_getElem? (i := 1114) (by decide +kernel), List.mem_of_getElem? (i := 1115) (by decide +kernel)⟩
theorem lw_p78 : lw_okq (⟨"FallingRulesModel", "mix", "(J)V"⟩, 32) := ⟨⟨by decide +kernel, by decide +kernel⟩, List.mem_of_getElem? (i := 732) (by decide +kernel), List.mem_of_getElem? (i := 1123) (by decide +kernel), List.mem_of_getElem? (i := 1124) (by decide +kernel)⟩
def lw_privs_5 : List (MethodName × Nat) := [(⟨"FallingRulesModel", "callsTold", "(I)I"⟩, 32), (⟨"FallingRulesModel", "lighterOf", "(I)I"⟩, 32), (⟨"FallingRulesModel", "isLighter", "(I)Z"⟩, 32), (⟨"FallingRulesModel", "callTold", "(II)I"⟩, 32), (⟨"FallingRulesModel", "laysTerm", "()V"⟩, 32), (⟨"FallingRulesModel", "findsTurn", "()Z"⟩, 32), (⟨"FallingRulesModel", "ruleAt", "(I)I"⟩, 32), (⟨"FallingRulesModel", "fits", "(II)Z"⟩, 32), (⟨"FallingRulesModel", "binds", "(II)Z"⟩, 32), (⟨"FallingRulesModel", "doesTurn", "()Z"⟩, 32), (⟨"FallingRulesModel", "makes", "(II)V"⟩, 32), (⟨"FallingRulesModel", "settled", "()I"⟩, 32), (⟨"FallingRulesModel", "nextOf", "(I)I"⟩, 32), (⟨"FallingRulesModel", "toldOf", "(I)I"⟩, 32), (⟨"FallingRulesModel", "mix", "(J)V"⟩, 32)]
theorem lw_r5 : ∀ q ∈ lw_privs_5, lw_okq q := List.forall_mem_cons.mpr ⟨lw_p64, List.forall_mem_cons.mpr ⟨lw_p65, List.forall_mem_cons.mpr ⟨lw_p66, List.forall_mem_cons.mpr ⟨lw_p67, List.forall_mem_cons.mpr ⟨lw_p68, List.forall_mem_cons.mpr ⟨lw_p69, List.forall_mem_cons.mpr ⟨lw_p70, List.forall_mem_cons.mpr ⟨lw_p71, List.forall_mem_cons.mpr ⟨lw_p72, List.forall_mem_cons.mpr ⟨lw_p73, List.forall_mem_cons.mpr ⟨lw_p74, List.forall_mem_cons.mpr ⟨lw_p75, List.forall_mem_cons.mpr ⟨lw_p76, List.forall_mem_cons.mpr ⟨lw_p77, List.forall_mem_cons.mpr ⟨lw_p78, fun _ h => absurd h List.not_mem_nil⟩⟩⟩⟩⟩⟩⟩⟩⟩⟩⟩⟩⟩⟩⟩
def lw_privs : List (MethodName × Nat) := lw_privs_1 ++ (lw_privs_2 ++ (lw_privs_3 ++ (lw_privs_4 ++ (lw_privs_5))))
def lw_tbl : List Cond := k2_sels lw_privs ++ tables_1
theorem lw_privs_ok : ∀ q ∈ lw_privs, lw_okq q := by
  show ∀ q ∈ lw_privs_1 ++ (lw_privs_2 ++ (lw_privs_3 ++ (lw_privs_4 ++ (lw_privs_5)))), lw_okq q
  exact List.forall_mem_append.mpr ⟨lw_r1, List.forall_mem_append.mpr ⟨lw_r2, List.forall_mem_append.mpr ⟨lw_r3, List.forall_mem_append.mpr ⟨lw_r4, lw_r5⟩⟩⟩⟩
def RX0 : String := "FallingRules$CallBook"
def TX0 : u_T := fun k => match k with
  | 0 => ("FallingRules$CallBook", "ruleOf", "[I", true)
  | 1 => ("FallingRules$CallBook", "placeOf", "[I", true)
  | 2 => ("FallingRules$CallBook", "ringOf", "[I", true)
  | 3 => ("FallingRules$CallBook", "followers", "[J", true)
  | 4 => ("FallingRules$CallBook", "reached", "[J", true)
  | 5 => ("FallingRules$CallBook", "ofRule", "[J", true)
  | 6 => ("FallingRules$CallBook", "lightest", "[I", true)
  | 7 => ("FallingRules$CallBook", "heads", "I", false)
  | 8 => ("FallingRules$CallBook", "count", "I", false)
  | 9 => ("FallingRules$CallBook", "rings", "I", false)
  | _ => ("FallingRules$CallBook", "sure", "Z", false)
def tyX0 : Nat → FieldType := fun k => match k with
  | 0 => .array .int
  | 1 => .array .int
  | 2 => .array .int
  | 3 => .array .long
  | 4 => .array .long
  | 5 => .array .long
  | 6 => .array .int
  | 7 => .int
  | 8 => .int
  | 9 => .int
  | _ => .boolean
abbrev wsX00 : List Cond := u_ws RX0 TX0 11
theorem nmX0 : ∀ a, a < 11 → ∀ b, b < 11 → a ≠ b → (TX0 a).2.1 ≠ (TX0 b).2.1 := by decide +kernel
theorem tyX0_ok : ∀ k, k < 11 → parseFieldDescriptor (TX0 k).2.2.1 = some (tyX0 k) := by decide +kernel
abbrev cX0_init : ByteArray := prog_2_method_1_code
def yX0_init : MethodName := ⟨RX0, "<init>", "()V"⟩
abbrev cX0_has : ByteArray := prog_2_method_2_code
def yX0_has : MethodName := ⟨RX0, "has", "(I)Z"⟩
abbrev cX0_partSize : ByteArray := prog_2_method_3_code
def yX0_partSize : MethodName := ⟨RX0, "partSize", "(LFallingRules$State;I)I"⟩
abbrev cX0_fillFrom : ByteArray := prog_2_method_4_code
def yX0_fillFrom : MethodName := ⟨RX0, "fillFrom", "(LFallingRules$State;)V"⟩
abbrev cX0_isHead : ByteArray := prog_2_method_5_code
def yX0_isHead : MethodName := ⟨RX0, "isHead", "(I)Z"⟩
abbrev cX0_findHeads : ByteArray := prog_2_method_6_code
def yX0_findHeads : MethodName := ⟨RX0, "findHeads", "(LFallingRules$State;)V"⟩
abbrev cX0_collect : ByteArray := prog_2_method_7_code
def yX0_collect : MethodName := ⟨RX0, "collect", "(LFallingRules$State;)V"⟩
abbrev cX0_followersOf : ByteArray := prog_2_method_8_code
def yX0_followersOf : MethodName := ⟨RX0, "followersOf", "(LFallingRules$State;I)J"⟩
abbrev cX0_comesTo : ByteArray := prog_2_method_9_code
def yX0_comesTo : MethodName := ⟨RX0, "comesTo", "(LFallingRules$Term;ILFallingRules$Term;)Z"⟩
abbrev cX0_reachOn : ByteArray := prog_2_method_10_code
def yX0_reachOn : MethodName := ⟨RX0, "reachOn", "()V"⟩
abbrev cX0_findRings : ByteArray := prog_2_method_11_code
def yX0_findRings : MethodName := ⟨RX0, "findRings", "()V"⟩
abbrev cX0_nameRing : ByteArray := prog_2_method_12_code
def yX0_nameRing : MethodName := ⟨RX0, "nameRing", "(I)V"⟩
def RX1 : String := "FallingRules$History"
def TX1 : u_T := fun k => match k with
  | 0 => ("FallingRules$History", "kept", "[LFallingRules$State;", true)
  | _ => ("FallingRules$History", "count", "I", false)
def tyX1 : Nat → FieldType := fun k => match k with
  | 0 => .array (.object "FallingRules$State")
  | _ => .int
abbrev wsX10 : List Cond := u_ws RX1 TX1 2
theorem nmX1 : ∀ a, a < 2 → ∀ b, b < 2 → a ≠ b → (TX1 a).2.1 ≠ (TX1 b).2.1 := by decide +kernel
theorem tyX1_ok : ∀ k, k < 2 → parseFieldDescriptor (TX1 k).2.2.1 = some (tyX1 k) := by decide +kernel
abbrev cX1_init : ByteArray := prog_3_method_1_code
def yX1_init : MethodName := ⟨RX1, "<init>", "()V"⟩
abbrev cX1_keep : ByteArray := prog_3_method_2_code
def yX1_keep : MethodName := ⟨RX1, "keep", "(LFallingRules$State;)V"⟩
abbrev cX1_giveBack : ByteArray := prog_3_method_3_code
def yX1_giveBack : MethodName := ⟨RX1, "giveBack", "(LFallingRules$State;)V"⟩
abbrev cX1_loseOldest : ByteArray := prog_3_method_4_code
def yX1_loseOldest : MethodName := ⟨RX1, "loseOldest", "()V"⟩
def RX2 : String := "FallingRules$Reader"
def TX2 : u_T := fun k => match k with
  | 0 => ("FallingRules$Reader", "text", "[I", true)
  | 1 => ("FallingRules$Reader", "missing", "[I", true)
  | 2 => ("FallingRules$Reader", "length", "I", false)
  | 3 => ("FallingRules$Reader", "at", "I", false)
  | _ => ("FallingRules$Reader", "depth", "I", false)
def tyX2 : Nat → FieldType := fun k => match k with
  | 0 => .array .int
  | 1 => .array .int
  | 2 => .int
  | 3 => .int
  | _ => .int
abbrev wsX20 : List Cond := u_ws RX2 TX2 5
theorem nmX2 : ∀ a, a < 5 → ∀ b, b < 5 → a ≠ b → (TX2 a).2.1 ≠ (TX2 b).2.1 := by decide +kernel
theorem tyX2_ok : ∀ k, k < 5 → parseFieldDescriptor (TX2 k).2.2.1 = some (tyX2 k) := by decide +kernel
abbrev cX2_init : ByteArray := prog_4_method_1_code
def yX2_init : MethodName := ⟨RX2, "<init>", "()V"⟩
abbrev cX2_append : ByteArray := prog_4_method_2_code
def yX2_append : MethodName := ⟨RX2, "append", "(I)V"⟩
abbrev cX2_readRules : ByteArray := prog_4_method_3_code
def yX2_readRules : MethodName := ⟨RX2, "readRules", "(LFallingRules$State;)I"⟩
abbrev cX2_readWhole : ByteArray := prog_4_method_4_code
def yX2_readWhole : MethodName := ⟨RX2, "readWhole", "(LFallingRules$Term;)Z"⟩
abbrev cX2_readRule : ByteArray := prog_4_method_5_code
def yX2_readRule : MethodName := ⟨RX2, "readRule", "(LFallingRules$Rule;)Z"⟩
abbrev cX2_readTerm : ByteArray := prog_4_method_6_code
def yX2_readTerm : MethodName := ⟨RX2, "readTerm", "(LFallingRules$Term;III)Z"⟩
abbrev cX2_readLetter : ByteArray := prog_4_method_7_code
def yX2_readLetter : MethodName := ⟨RX2, "readLetter", "(LFallingRules$Term;I)Z"⟩
abbrev cX2_opens : ByteArray := prog_4_method_8_code
def yX2_opens : MethodName := ⟨RX2, "opens", "(I)Z"⟩
abbrev cX2_closes : ByteArray := prog_4_method_9_code
def yX2_closes : MethodName := ⟨RX2, "closes", "()Z"⟩
abbrev cX2_takes : ByteArray := prog_4_method_10_code
def yX2_takes : MethodName := ⟨RX2, "takes", "(I)Z"⟩
abbrev cX2_skipBlanks : ByteArray := prog_4_method_11_code
def yX2_skipBlanks : MethodName := ⟨RX2, "skipBlanks", "()V"⟩
def RX3 : String := "FallingRules$Rule"
def TX3 : u_T := fun k => match k with
  | 0 => ("FallingRules$Rule", "left", "LFallingRules$Term;", true)
  | _ => ("FallingRules$Rule", "right", "LFallingRules$Term;", true)
def tyX3 : Nat → FieldType := fun k => match k with
  | 0 => .object "FallingRules$Term"
  | _ => .object "FallingRules$Term"
abbrev wsX30 : List Cond := u_ws RX3 TX3 2
theorem nmX3 : ∀ a, a < 2 → ∀ b, b < 2 → a ≠ b → (TX3 a).2.1 ≠ (TX3 b).2.1 := by decide +kernel
theorem tyX3_ok : ∀ k, k < 2 → parseFieldDescriptor (TX3 k).2.2.1 = some (tyX3 k) := by decide +kernel
abbrev cX3_init : ByteArray := prog_5_method_1_code
def yX3_init : MethodName := ⟨RX3, "<init>", "()V"⟩
abbrev cX3_copyFrom : ByteArray := prog_5_method_2_code
def yX3_copyFrom : MethodName := ⟨RX3, "copyFrom", "(LFallingRules$Rule;)V"⟩
def RX4 : String := "FallingRules$Scales"
def TX4 : u_T := fun k => match k with
  | 0 => ("FallingRules$Scales", "left", "LFallingRules$Shares;", true)
  | 1 => ("FallingRules$Scales", "right", "LFallingRules$Shares;", true)
  | 2 => ("FallingRules$Scales", "rows", "[I", true)
  | 3 => ("FallingRules$Scales", "totals", "[J", true)
  | _ => ("FallingRules$Scales", "rowCount", "I", false)
def tyX4 : Nat → FieldType := fun k => match k with
  | 0 => .object "FallingRules$Shares"
  | 1 => .object "FallingRules$Shares"
  | 2 => .array .int
  | 3 => .array .long
  | _ => .int
abbrev wsX40 : List Cond := u_ws RX4 TX4 5
theorem nmX4 : ∀ a, a < 5 → ∀ b, b < 5 → a ≠ b → (TX4 a).2.1 ≠ (TX4 b).2.1 := by decide +kernel
theorem tyX4_ok : ∀ k, k < 5 → parseFieldDescriptor (TX4 k).2.2.1 = some (tyX4 k) := by decide +kernel
abbrev cX4_init : ByteArray := prog_6_method_1_code
def yX4_init : MethodName := ⟨RX4, "<init>", "()V"⟩
abbrev cX4_compareSides : ByteArray := prog_6_method_2_code
def yX4_compareSides : MethodName := ⟨RX4, "compareSides", "(LFallingRules$Rule;[I)I"⟩
abbrev cX4_weightLeftOver : ByteArray := prog_6_method_3_code
def yX4_weightLeftOver : MethodName := ⟨RX4, "weightLeftOver", "(LFallingRules$Term;[I)I"⟩
abbrev cX4_totalAt : ByteArray := prog_6_method_4_code
def yX4_totalAt : MethodName := ⟨RX4, "totalAt", "(LFallingRules$Term;I)J"⟩
abbrev cX4_leastWeights : ByteArray := prog_6_method_5_code
def yX4_leastWeights : MethodName := ⟨RX4, "leastWeights", "(LFallingRules$State;LFallingRules$CallBook;I)I"⟩
abbrev cX4_fillRows : ByteArray := prog_6_method_6_code
def yX4_fillRows : MethodName := ⟨RX4, "fillRows", "(LFallingRules$State;LFallingRules$CallBook;IIII)Z"⟩
abbrev cX4_addCallRows : ByteArray := prog_6_method_7_code
def yX4_addCallRows : MethodName := ⟨RX4, "addCallRows", "(LFallingRules$CallBook;II)Z"⟩
abbrev cX4_addRow : ByteArray := prog_6_method_8_code
def yX4_addRow : MethodName := ⟨RX4, "addRow", "(II)Z"⟩
abbrev cX4_leastByRows : ByteArray := prog_6_method_9_code
def yX4_leastByRows : MethodName := ⟨RX4, "leastByRows", "(III)I"⟩
abbrev cX4_meetsRows : ByteArray := prog_6_method_10_code
def yX4_meetsRows : MethodName := ⟨RX4, "meetsRows", "(IIII)Z"⟩
abbrev cX4_sumOfRow : ByteArray := prog_6_method_11_code
def yX4_sumOfRow : MethodName := ⟨RX4, "sumOfRow", "(IIIII)I"⟩
def RX5 : String := "FallingRules$Script"
def TX5 : u_T := fun k => match k with
  | 0 => ("FallingRules$Script", "bytes", "[I", true)
  | _ => ("FallingRules$Script", "size", "I", false)
def tyX5 : Nat → FieldType := fun k => match k with
  | 0 => .array .int
  | _ => .int
abbrev wsX50 : List Cond := u_ws RX5 TX5 2
theorem nmX5 : ∀ a, a < 2 → ∀ b, b < 2 → a ≠ b → (TX5 a).2.1 ≠ (TX5 b).2.1 := by decide +kernel
theorem tyX5_ok : ∀ k, k < 2 → parseFieldDescriptor (TX5 k).2.2.1 = some (tyX5 k) := by decide +kernel
abbrev cX5_init : ByteArray := prog_7_method_1_code
def yX5_init : MethodName := ⟨RX5, "<init>", "()V"⟩
abbrev cX5_writeRule : ByteArray := prog_7_method_2_code
def yX5_writeRule : MethodName := ⟨RX5, "writeRule", "(LFallingRules$Rule;)V"⟩
abbrev cX5_writeSide : ByteArray := prog_7_method_3_code
def yX5_writeSide : MethodName := ⟨RX5, "writeSide", "(LFallingRules$Term;)V"⟩
abbrev cX5_writeBehind : ByteArray := prog_7_method_4_code
def yX5_writeBehind : MethodName := ⟨RX5, "writeBehind", "(LFallingRules$Term;I)V"⟩
abbrev cX5_put : ByteArray := prog_7_method_5_code
def yX5_put : MethodName := ⟨RX5, "put", "(I)V"⟩
def RX6 : String := "FallingRules$Shares"
def TX6 : u_T := fun k => match k with
  | _ => ("FallingRules$Shares", "times", "[I", true)
def tyX6 : Nat → FieldType := fun k => match k with
  | _ => .array .int
abbrev wsX60 : List Cond := u_ws RX6 TX6 1
theorem nmX6 : ∀ a, a < 1 → ∀ b, b < 1 → a ≠ b → (TX6 a).2.1 ≠ (TX6 b).2.1 := by decide +kernel
theorem tyX6_ok : ∀ k, k < 1 → parseFieldDescriptor (TX6 k).2.2.1 = some (tyX6 k) := by decide +kernel
abbrev cX6_init : ByteArray := prog_8_method_1_code
def yX6_init : MethodName := ⟨RX6, "<init>", "()V"⟩
abbrev cX6_countIn : ByteArray := prog_8_method_2_code
def yX6_countIn : MethodName := ⟨RX6, "countIn", "(LFallingRules$Term;III)V"⟩
abbrev cX6_addPart : ByteArray := prog_8_method_3_code
def yX6_addPart : MethodName := ⟨RX6, "addPart", "(III)V"⟩
def RX7 : String := "FallingRules$State"
def TX7 : u_T := fun k => match k with
  | 0 => ("FallingRules$State", "rules", "[LFallingRules$Rule;", true)
  | 1 => ("FallingRules$State", "whole", "LFallingRules$Term;", true)
  | _ => ("FallingRules$State", "count", "I", false)
def tyX7 : Nat → FieldType := fun k => match k with
  | 0 => .array (.object "FallingRules$Rule")
  | 1 => .object "FallingRules$Term"
  | _ => .int
abbrev wsX70 : List Cond := u_ws RX7 TX7 3
theorem nmX7 : ∀ a, a < 3 → ∀ b, b < 3 → a ≠ b → (TX7 a).2.1 ≠ (TX7 b).2.1 := by decide +kernel
theorem tyX7_ok : ∀ k, k < 3 → parseFieldDescriptor (TX7 k).2.2.1 = some (tyX7 k) := by decide +kernel
abbrev cX7_init : ByteArray := prog_9_method_1_code
def yX7_init : MethodName := ⟨RX7, "<init>", "()V"⟩
abbrev cX7_copyFrom : ByteArray := prog_9_method_2_code
def yX7_copyFrom : MethodName := ⟨RX7, "copyFrom", "(LFallingRules$State;)V"⟩
abbrev cX7_removeRule : ByteArray := prog_9_method_3_code
def yX7_removeRule : MethodName := ⟨RX7, "removeRule", "(I)V"⟩
abbrev cX7_moveToFront : ByteArray := prog_9_method_4_code
def yX7_moveToFront : MethodName := ⟨RX7, "moveToFront", "(I)V"⟩
def RX8 : String := "FallingRules$Term"
def TX8 : u_T := fun k => match k with
  | 0 => ("FallingRules$Term", "letters", "[I", true)
  | 1 => ("FallingRules$Term", "ends", "[I", true)
  | _ => ("FallingRules$Term", "size", "I", false)
def tyX8 : Nat → FieldType := fun k => match k with
  | 0 => .array .int
  | 1 => .array .int
  | _ => .int
abbrev wsX80 : List Cond := u_ws RX8 TX8 3
theorem nmX8 : ∀ a, a < 3 → ∀ b, b < 3 → a ≠ b → (TX8 a).2.1 ≠ (TX8 b).2.1 := by decide +kernel
theorem tyX8_ok : ∀ k, k < 3 → parseFieldDescriptor (TX8 k).2.2.1 = some (tyX8 k) := by decide +kernel
abbrev cX8_init : ByteArray := prog_10_method_1_code
def yX8_init : MethodName := ⟨RX8, "<init>", "(I)V"⟩
abbrev cX8_startAs : ByteArray := prog_10_method_2_code
def yX8_startAs : MethodName := ⟨RX8, "startAs", "(I)V"⟩
abbrev cX8_addLetter : ByteArray := prog_10_method_3_code
def yX8_addLetter : MethodName := ⟨RX8, "addLetter", "(I)V"⟩
abbrev cX8_addPart : ByteArray := prog_10_method_4_code
def yX8_addPart : MethodName := ⟨RX8, "addPart", "(LFallingRules$Term;I)V"⟩
abbrev cX8_findEnds : ByteArray := prog_10_method_5_code
def yX8_findEnds : MethodName := ⟨RX8, "findEnds", "()V"⟩
abbrev cX8_copyFrom : ByteArray := prog_10_method_6_code
def yX8_copyFrom : MethodName := ⟨RX8, "copyFrom", "(LFallingRules$Term;)V"⟩
abbrev cX8_partSize : ByteArray := prog_10_method_7_code
def yX8_partSize : MethodName := ⟨RX8, "partSize", "(I)I"⟩
abbrev cX8_sameParts : ByteArray := prog_10_method_8_code
def yX8_sameParts : MethodName := ⟨RX8, "sameParts", "(II)Z"⟩
abbrev cX8_unknowns : ByteArray := prog_10_method_9_code
def yX8_unknowns : MethodName := ⟨RX8, "unknowns", "()I"⟩
def RX9 : String := "FallingRules$Turner"
def TX9 : u_T := fun k => match k with
  | 0 => ("FallingRules$Turner", "built", "LFallingRules$Term;", true)
  | 1 => ("FallingRules$Turner", "bound", "[I", true)
  | 2 => ("FallingRules$Turner", "at", "I", false)
  | _ => ("FallingRules$Turner", "rule", "I", false)
def tyX9 : Nat → FieldType := fun k => match k with
  | 0 => .object "FallingRules$Term"
  | 1 => .array .int
  | 2 => .int
  | _ => .int
abbrev wsX90 : List Cond := u_ws RX9 TX9 4
theorem nmX9 : ∀ a, a < 4 → ∀ b, b < 4 → a ≠ b → (TX9 a).2.1 ≠ (TX9 b).2.1 := by decide +kernel
theorem tyX9_ok : ∀ k, k < 4 → parseFieldDescriptor (TX9 k).2.2.1 = some (tyX9 k) := by decide +kernel
abbrev cX9_init : ByteArray := prog_11_method_1_code
def yX9_init : MethodName := ⟨RX9, "<init>", "()V"⟩
abbrev cX9_turnMany : ByteArray := prog_11_method_2_code
def yX9_turnMany : MethodName := ⟨RX9, "turnMany", "(LFallingRules$State;LFallingRules$Term;I)I"⟩
abbrev cX9_seek : ByteArray := prog_11_method_3_code
def yX9_seek : MethodName := ⟨RX9, "seek", "(LFallingRules$State;LFallingRules$Term;)Z"⟩
abbrev cX9_leastRuleAt : ByteArray := prog_11_method_4_code
def yX9_leastRuleAt : MethodName := ⟨RX9, "leastRuleAt", "(LFallingRules$State;LFallingRules$Term;I)I"⟩
abbrev cX9_fits : ByteArray := prog_11_method_5_code
def yX9_fits : MethodName := ⟨RX9, "fits", "(LFallingRules$Term;LFallingRules$Term;I)Z"⟩
abbrev cX9_build : ByteArray := prog_11_method_6_code
def yX9_build : MethodName := ⟨RX9, "build", "(LFallingRules$Rule;LFallingRules$Term;)Z"⟩
abbrev cX9_sizeBehind : ByteArray := prog_11_method_7_code
def yX9_sizeBehind : MethodName := ⟨RX9, "sizeBehind", "(LFallingRules$Term;LFallingRules$Term;)I"⟩
def RX10 : String := "FallingRules"
def TX10 : u_T := fun k => match k with
  | 0 => ("FallingRules", "now", "LFallingRules$State;", true)
  | 1 => ("FallingRules", "history", "LFallingRules$History;", true)
  | 2 => ("FallingRules", "reader", "LFallingRules$Reader;", true)
  | 3 => ("FallingRules", "script", "LFallingRules$Script;", true)
  | 4 => ("FallingRules", "book", "LFallingRules$CallBook;", true)
  | 5 => ("FallingRules", "scales", "LFallingRules$Scales;", true)
  | 6 => ("FallingRules", "turner", "LFallingRules$Turner;", true)
  | 7 => ("FallingRules", "spare", "LFallingRules$Term;", true)
  | 8 => ("FallingRules", "figures", "[I", true)
  | 9 => ("FallingRules", "bookIsRight", "Z", false)
  | 10 => ("FallingRules", "ringsAreWeighed", "Z", false)
  | 11 => ("FallingRules", "fallFound", "I", false)
  | 12 => ("FallingRules", "timesBad", "I", false)
  | 13 => ("FallingRules", "timesNo", "I", false)
  | _ => ("FallingRules", "timesFull", "I", false)
def tyX10 : Nat → FieldType := fun k => match k with
  | 0 => .object "FallingRules$State"
  | 1 => .object "FallingRules$History"
  | 2 => .object "FallingRules$Reader"
  | 3 => .object "FallingRules$Script"
  | 4 => .object "FallingRules$CallBook"
  | 5 => .object "FallingRules$Scales"
  | 6 => .object "FallingRules$Turner"
  | 7 => .object "FallingRules$Term"
  | 8 => .array .int
  | 9 => .boolean
  | 10 => .boolean
  | 11 => .int
  | 12 => .int
  | 13 => .int
  | _ => .int
abbrev wsX100 : List Cond := u_ws RX10 TX10 15
theorem nmX10 : ∀ a, a < 15 → ∀ b, b < 15 → a ≠ b → (TX10 a).2.1 ≠ (TX10 b).2.1 := by decide +kernel
theorem tyX10_ok : ∀ k, k < 15 → parseFieldDescriptor (TX10 k).2.2.1 = some (tyX10 k) := by decide +kernel
abbrev cX10_init : ByteArray := prog_1_method_1_code
def yX10_init : MethodName := ⟨RX10, "<init>", "()V"⟩
abbrev cX10_type : ByteArray := prog_1_method_2_code
def yX10_type : MethodName := ⟨RX10, "type", "(I)I"⟩
abbrev cX10_clear : ByteArray := prog_1_method_3_code
def yX10_clear : MethodName := ⟨RX10, "clear", "()I"⟩
abbrev cX10_reads : ByteArray := prog_1_method_4_code
def yX10_reads : MethodName := ⟨RX10, "reads", "()I"⟩
abbrev cX10_term : ByteArray := prog_1_method_5_code
def yX10_term : MethodName := ⟨RX10, "term", "()I"⟩
abbrev cX10_drops : ByteArray := prog_1_method_6_code
def yX10_drops : MethodName := ⟨RX10, "drops", "(I)I"⟩
abbrev cX10_first : ByteArray := prog_1_method_7_code
def yX10_first : MethodName := ⟨RX10, "first", "(I)I"⟩
abbrev cX10_of : ByteArray := prog_1_method_8_code
def yX10_of : MethodName := ⟨RX10, "of", "(II)I"⟩
abbrev cX10_shown : ByteArray := prog_1_method_9_code
def yX10_shown : MethodName := ⟨RX10, "shown", "(II)I"⟩
abbrev cX10_fall : ByteArray := prog_1_method_10_code
def yX10_fall : MethodName := ⟨RX10, "fall", "()I"⟩
abbrev cX10_weighs : ByteArray := prog_1_method_11_code
def yX10_weighs : MethodName := ⟨RX10, "weighs", "(II)I"⟩
abbrev cX10_weight : ByteArray := prog_1_method_12_code
def yX10_weight : MethodName := ⟨RX10, "weight", "(I)I"⟩
abbrev cX10_calls : ByteArray := prog_1_method_13_code
def yX10_calls : MethodName := ⟨RX10, "calls", "(I)I"⟩
abbrev cX10_call : ByteArray := prog_1_method_14_code
def yX10_call : MethodName := ⟨RX10, "call", "(II)I"⟩
abbrev cX10_follows : ByteArray := prog_1_method_15_code
def yX10_follows : MethodName := ⟨RX10, "follows", "(II)I"⟩
abbrev cX10_lighter : ByteArray := prog_1_method_16_code
def yX10_lighter : MethodName := ⟨RX10, "lighter", "(I)I"⟩
abbrev cX10_turns : ByteArray := prog_1_method_17_code
def yX10_turns : MethodName := ⟨RX10, "turns", "(I)I"⟩
abbrev cX10_settles : ByteArray := prog_1_method_18_code
def yX10_settles : MethodName := ⟨RX10, "settles", "()I"⟩
abbrev cX10_next : ByteArray := prog_1_method_19_code
def yX10_next : MethodName := ⟨RX10, "next", "(I)I"⟩
abbrev cX10_letter : ByteArray := prog_1_method_20_code
def yX10_letter : MethodName := ⟨RX10, "letter", "(I)I"⟩
abbrev cX10_back : ByteArray := prog_1_method_21_code
def yX10_back : MethodName := ⟨RX10, "back", "()I"⟩
abbrev cX10_told : ByteArray := prog_1_method_22_code
def yX10_told : MethodName := ⟨RX10, "told", "(I)I"⟩
abbrev cX10_digest : ByteArray := prog_1_method_23_code
def yX10_digest : MethodName := ⟨RX10, "digest", "()J"⟩
abbrev cX10_refuseBad : ByteArray := prog_1_method_24_code
def yX10_refuseBad : MethodName := ⟨RX10, "refuseBad", "()I"⟩
abbrev cX10_isRule : ByteArray := prog_1_method_25_code
def yX10_isRule : MethodName := ⟨RX10, "isRule", "(I)Z"⟩
abbrev cX10_forgetFindings : ByteArray := prog_1_method_26_code
def yX10_forgetFindings : MethodName := ⟨RX10, "forgetFindings", "()V"⟩
abbrev cX10_keepBookRight : ByteArray := prog_1_method_27_code
def yX10_keepBookRight : MethodName := ⟨RX10, "keepBookRight", "()V"⟩
abbrev cX10_weighRings : ByteArray := prog_1_method_28_code
def yX10_weighRings : MethodName := ⟨RX10, "weighRings", "()V"⟩
abbrev cX10_splitFigures : ByteArray := prog_1_method_29_code
def yX10_splitFigures : MethodName := ⟨RX10, "splitFigures", "(I)Z"⟩
abbrev cX10_hasBit : ByteArray := prog_1_method_30_code
def yX10_hasBit : MethodName := ⟨RX10, "hasBit", "(JI)Z"⟩
abbrev cX10_unknownBit : ByteArray := prog_1_method_31_code
def yX10_unknownBit : MethodName := ⟨RX10, "unknownBit", "(I)I"⟩
abbrev cX10_isUnknown : ByteArray := prog_1_method_32_code
def yX10_isUnknown : MethodName := ⟨RX10, "isUnknown", "(I)Z"⟩
abbrev cX10_partsBehind : ByteArray := prog_1_method_33_code
def yX10_partsBehind : MethodName := ⟨RX10, "partsBehind", "(I)I"⟩
abbrev cX10_slotOf : ByteArray := prog_1_method_34_code
def yX10_slotOf : MethodName := ⟨RX10, "slotOf", "(I)I"⟩
def RX11 : String := "FallingRulesModel"
def TX11 : u_T := fun k => match k with
  | 0 => ("FallingRulesModel", "now", "[I", true)
  | 1 => ("FallingRulesModel", "read", "[I", true)
  | 2 => ("FallingRulesModel", "past", "[I", true)
  | 3 => ("FallingRulesModel", "states", "I", false)
  | 4 => ("FallingRulesModel", "refusals", "[I", true)
  | 5 => ("FallingRulesModel", "text", "[I", true)
  | 6 => ("FallingRulesModel", "bytes", "I", false)
  | 7 => ("FallingRulesModel", "spot", "I", false)
  | 8 => ("FallingRulesModel", "due", "[I", true)
  | 9 => ("FallingRulesModel", "dueMany", "I", false)
  | 10 => ("FallingRulesModel", "written", "[I", true)
  | 11 => ("FallingRulesModel", "writtenMany", "I", false)
  | 12 => ("FallingRulesModel", "figures", "[I", true)
  | 13 => ("FallingRulesModel", "plain", "[J", true)
  | 14 => ("FallingRulesModel", "byX", "[J", true)
  | 15 => ("FallingRulesModel", "byY", "[J", true)
  | 16 => ("FallingRulesModel", "callRule", "[I", true)
  | 17 => ("FallingRulesModel", "callAt", "[I", true)
  | 18 => ("FallingRulesModel", "callMany", "I", false)
  | 19 => ("FallingRulesModel", "follow", "[Z", true)
  | 20 => ("FallingRulesModel", "reach", "[Z", true)
  | 21 => ("FallingRulesModel", "ring", "[I", true)
  | 22 => ("FallingRulesModel", "ringMany", "I", false)
  | 23 => ("FallingRulesModel", "turned", "[I", true)
  | 24 => ("FallingRulesModel", "turnedMany", "I", false)
  | 25 => ("FallingRulesModel", "made", "[I", true)
  | 26 => ("FallingRulesModel", "boundAt", "[I", true)
  | 27 => ("FallingRulesModel", "boundLong", "[I", true)
  | 28 => ("FallingRulesModel", "turnRule", "I", false)
  | 29 => ("FallingRulesModel", "turnAt", "I", false)
  | 30 => ("FallingRulesModel", "madeMany", "I", false)
  | _ => ("FallingRulesModel", "hash", "J", false)
def tyX11 : Nat → FieldType := fun k => match k with
  | 0 => .array .int
  | 1 => .array .int
  | 2 => .array .int
  | 3 => .int
  | 4 => .array .int
  | 5 => .array .int
  | 6 => .int
  | 7 => .int
  | 8 => .array .int
  | 9 => .int
  | 10 => .array .int
  | 11 => .int
  | 12 => .array .int
  | 13 => .array .long
  | 14 => .array .long
  | 15 => .array .long
  | 16 => .array .int
  | 17 => .array .int
  | 18 => .int
  | 19 => .array .boolean
  | 20 => .array .boolean
  | 21 => .array .int
  | 22 => .int
  | 23 => .array .int
  | 24 => .int
  | 25 => .array .int
  | 26 => .array .int
  | 27 => .array .int
  | 28 => .int
  | 29 => .int
  | 30 => .int
  | _ => .long
abbrev wsX110 : List Cond := u_ws RX11 TX11 32
theorem nmX11 : ∀ a, a < 32 → ∀ b, b < 32 → a ≠ b → (TX11 a).2.1 ≠ (TX11 b).2.1 := by decide +kernel
theorem tyX11_ok : ∀ k, k < 32 → parseFieldDescriptor (TX11 k).2.2.1 = some (tyX11 k) := by decide +kernel
abbrev cX11_init : ByteArray := prog_13_method_1_code
def yX11_init : MethodName := ⟨RX11, "<init>", "()V"⟩
abbrev cX11_in : ByteArray := prog_13_method_3_code
def yX11_in : MethodName := ⟨RX11, "in", "(III)Z"⟩
abbrev cX11_refuses : ByteArray := prog_13_method_4_code
def yX11_refuses : MethodName := ⟨RX11, "refuses", "(I)I"⟩
abbrev cX11_copies : ByteArray := prog_13_method_5_code
def yX11_copies : MethodName := ⟨RX11, "copies", "([II[II)V"⟩
abbrev cX11_remembers : ByteArray := prog_13_method_6_code
def yX11_remembers : MethodName := ⟨RX11, "remembers", "()V"⟩
abbrev cX11_back : ByteArray := prog_13_method_7_code
def yX11_back : MethodName := ⟨RX11, "back", "()I"⟩
abbrev cX11_wants : ByteArray := prog_13_method_8_code
def yX11_wants : MethodName := ⟨RX11, "wants", "(I)I"⟩
abbrev cX11_isUnknown : ByteArray := prog_13_method_9_code
def yX11_isUnknown : MethodName := ⟨RX11, "isUnknown", "(I)Z"⟩
abbrev cX11_longAt : ByteArray := prog_13_method_10_code
def yX11_longAt : MethodName := ⟨RX11, "longAt", "([II)I"⟩
abbrev cX11_leftOf : ByteArray := prog_13_method_11_code
def yX11_leftOf : MethodName := ⟨RX11, "leftOf", "(I)I"⟩
abbrev cX11_rightOf : ByteArray := prog_13_method_12_code
def yX11_rightOf : MethodName := ⟨RX11, "rightOf", "(I)I"⟩
abbrev cX11_leftLong : ByteArray := prog_13_method_13_code
def yX11_leftLong : MethodName := ⟨RX11, "leftLong", "([II)I"⟩
abbrev cX11_rightLong : ByteArray := prog_13_method_14_code
def yX11_rightLong : MethodName := ⟨RX11, "rightLong", "([II)I"⟩
abbrev cX11_unknowns : ByteArray := prog_13_method_15_code
def yX11_unknowns : MethodName := ⟨RX11, "unknowns", "([III)I"⟩
abbrev cX11_wantsMore : ByteArray := prog_13_method_16_code
def yX11_wantsMore : MethodName := ⟨RX11, "wantsMore", "(I)V"⟩
abbrev cX11_blanks : ByteArray := prog_13_method_17_code
def yX11_blanks : MethodName := ⟨RX11, "blanks", "()V"⟩
abbrev cX11_isLetter : ByteArray := prog_13_method_18_code
def yX11_isLetter : MethodName := ⟨RX11, "isLetter", "(I)Z"⟩
abbrev cX11_opens : ByteArray := prog_13_method_19_code
def yX11_opens : MethodName := ⟨RX11, "opens", "(I)V"⟩
abbrev cX11_takesTerm : ByteArray := prog_13_method_20_code
def yX11_takesTerm : MethodName := ⟨RX11, "takesTerm", "(III)I"⟩
abbrev cX11_takesSign : ByteArray := prog_13_method_21_code
def yX11_takesSign : MethodName := ⟨RX11, "takesSign", "(I)Z"⟩
abbrev cX11_takesRule : ByteArray := prog_13_method_22_code
def yX11_takesRule : MethodName := ⟨RX11, "takesRule", "()Z"⟩
abbrev cX11_readsRules : ByteArray := prog_13_method_23_code
def yX11_readsRules : MethodName := ⟨RX11, "readsRules", "()I"⟩
abbrev cX11_readsTerm : ByteArray := prog_13_method_24_code
def yX11_readsTerm : MethodName := ⟨RX11, "readsTerm", "()I"⟩
abbrev cX11_type : ByteArray := prog_13_method_25_code
def yX11_type : MethodName := ⟨RX11, "type", "(I)I"⟩
abbrev cX11_clear : ByteArray := prog_13_method_26_code
def yX11_clear : MethodName := ⟨RX11, "clear", "()I"⟩
abbrev cX11_reads : ByteArray := prog_13_method_27_code
def yX11_reads : MethodName := ⟨RX11, "reads", "()I"⟩
abbrev cX11_term : ByteArray := prog_13_method_28_code
def yX11_term : MethodName := ⟨RX11, "term", "()I"⟩
abbrev cX11_isRule : ByteArray := prog_13_method_29_code
def yX11_isRule : MethodName := ⟨RX11, "isRule", "(I)Z"⟩
abbrev cX11_movesRule : ByteArray := prog_13_method_30_code
def yX11_movesRule : MethodName := ⟨RX11, "movesRule", "(II)V"⟩
abbrev cX11_drops : ByteArray := prog_13_method_31_code
def yX11_drops : MethodName := ⟨RX11, "drops", "(I)I"⟩
abbrev cX11_first : ByteArray := prog_13_method_32_code
def yX11_first : MethodName := ⟨RX11, "first", "(I)I"⟩
abbrev cX11_heads : ByteArray := prog_13_method_33_code
def yX11_heads : MethodName := ⟨RX11, "heads", "()I"⟩
abbrev cX11_isHead : ByteArray := prog_13_method_34_code
def yX11_isHead : MethodName := ⟨RX11, "isHead", "(I)Z"⟩
abbrev cX11_ruleTold : ByteArray := prog_13_method_35_code
def yX11_ruleTold : MethodName := ⟨RX11, "ruleTold", "(II)I"⟩
abbrev cX11_of : ByteArray := prog_13_method_36_code
def yX11_of : MethodName := ⟨RX11, "of", "(II)I"⟩
abbrev cX11_writes : ByteArray := prog_13_method_37_code
def yX11_writes : MethodName := ⟨RX11, "writes", "(I)V"⟩
abbrev cX11_writesTerm : ByteArray := prog_13_method_38_code
def yX11_writesTerm : MethodName := ⟨RX11, "writesTerm", "(II)V"⟩
abbrev cX11_shown : ByteArray := prog_13_method_39_code
def yX11_shown : MethodName := ⟨RX11, "shown", "(II)I"⟩
abbrev cX11_laysFigures : ByteArray := prog_13_method_40_code
def yX11_laysFigures : MethodName := ⟨RX11, "laysFigures", "(II)Z"⟩
abbrev cX11_weighsTerm : ByteArray := prog_13_method_41_code
def yX11_weighsTerm : MethodName := ⟨RX11, "weighsTerm", "([III)V"⟩
abbrev cX11_compares : ByteArray := prog_13_method_42_code
def yX11_compares : MethodName := ⟨RX11, "compares", "(IIII)I"⟩
abbrev cX11_comparesRule : ByteArray := prog_13_method_43_code
def yX11_comparesRule : MethodName := ⟨RX11, "comparesRule", "(I)I"⟩
abbrev cX11_goesOn : ByteArray := prog_13_method_44_code
def yX11_goesOn : MethodName := ⟨RX11, "goesOn", "(II)Z"⟩
abbrev cX11_numberOf : ByteArray := prog_13_method_45_code
def yX11_numberOf : MethodName := ⟨RX11, "numberOf", "()I"⟩
abbrev cX11_areAll : ByteArray := prog_13_method_46_code
def yX11_areAll : MethodName := ⟨RX11, "areAll", "(I)Z"⟩
abbrev cX11_fall : ByteArray := prog_13_method_47_code
def yX11_fall : MethodName := ⟨RX11, "fall", "()I"⟩
abbrev cX11_weighs : ByteArray := prog_13_method_48_code
def yX11_weighs : MethodName := ⟨RX11, "weighs", "(II)I"⟩
abbrev cX11_weight : ByteArray := prog_13_method_49_code
def yX11_weight : MethodName := ⟨RX11, "weight", "(I)I"⟩
abbrev cX11_mayFollow : ByteArray := prog_13_method_50_code
def yX11_mayFollow : MethodName := ⟨RX11, "mayFollow", "(II)Z"⟩
abbrev cX11_laysRings : ByteArray := prog_13_method_51_code
def yX11_laysRings : MethodName := ⟨RX11, "laysRings", "()V"⟩
abbrev cX11_laysCalls : ByteArray := prog_13_method_52_code
def yX11_laysCalls : MethodName := ⟨RX11, "laysCalls", "()V"⟩
abbrev cX11_isLighter : ByteArray := prog_13_method_53_code
def yX11_isLighter : MethodName := ⟨RX11, "isLighter", "(I)Z"⟩
abbrev cX11_lighterOf : ByteArray := prog_13_method_54_code
def yX11_lighterOf : MethodName := ⟨RX11, "lighterOf", "(I)I"⟩
abbrev cX11_callsTold : ByteArray := prog_13_method_55_code
def yX11_callsTold : MethodName := ⟨RX11, "callsTold", "(I)I"⟩
abbrev cX11_calls : ByteArray := prog_13_method_56_code
def yX11_calls : MethodName := ⟨RX11, "calls", "(I)I"⟩
abbrev cX11_callTold : ByteArray := prog_13_method_57_code
def yX11_callTold : MethodName := ⟨RX11, "callTold", "(II)I"⟩
abbrev cX11_call : ByteArray := prog_13_method_58_code
def yX11_call : MethodName := ⟨RX11, "call", "(II)I"⟩
abbrev cX11_follows : ByteArray := prog_13_method_59_code
def yX11_follows : MethodName := ⟨RX11, "follows", "(II)I"⟩
abbrev cX11_lighter : ByteArray := prog_13_method_60_code
def yX11_lighter : MethodName := ⟨RX11, "lighter", "(I)I"⟩
abbrev cX11_laysTerm : ByteArray := prog_13_method_61_code
def yX11_laysTerm : MethodName := ⟨RX11, "laysTerm", "()V"⟩
abbrev cX11_binds : ByteArray := prog_13_method_62_code
def yX11_binds : MethodName := ⟨RX11, "binds", "(II)Z"⟩
abbrev cX11_fits : ByteArray := prog_13_method_63_code
def yX11_fits : MethodName := ⟨RX11, "fits", "(II)Z"⟩
abbrev cX11_ruleAt : ByteArray := prog_13_method_64_code
def yX11_ruleAt : MethodName := ⟨RX11, "ruleAt", "(I)I"⟩
abbrev cX11_findsTurn : ByteArray := prog_13_method_65_code
def yX11_findsTurn : MethodName := ⟨RX11, "findsTurn", "()Z"⟩
abbrev cX11_makes : ByteArray := prog_13_method_66_code
def yX11_makes : MethodName := ⟨RX11, "makes", "(II)V"⟩
abbrev cX11_doesTurn : ByteArray := prog_13_method_67_code
def yX11_doesTurn : MethodName := ⟨RX11, "doesTurn", "()Z"⟩
abbrev cX11_turns : ByteArray := prog_13_method_68_code
def yX11_turns : MethodName := ⟨RX11, "turns", "(I)I"⟩
abbrev cX11_settled : ByteArray := prog_13_method_69_code
def yX11_settled : MethodName := ⟨RX11, "settled", "()I"⟩
abbrev cX11_settles : ByteArray := prog_13_method_70_code
def yX11_settles : MethodName := ⟨RX11, "settles", "()I"⟩
abbrev cX11_nextOf : ByteArray := prog_13_method_71_code
def yX11_nextOf : MethodName := ⟨RX11, "nextOf", "(I)I"⟩
abbrev cX11_next : ByteArray := prog_13_method_72_code
def yX11_next : MethodName := ⟨RX11, "next", "(I)I"⟩
abbrev cX11_letter : ByteArray := prog_13_method_73_code
def yX11_letter : MethodName := ⟨RX11, "letter", "(I)I"⟩
abbrev cX11_toldOf : ByteArray := prog_13_method_74_code
def yX11_toldOf : MethodName := ⟨RX11, "toldOf", "(I)I"⟩
abbrev cX11_told : ByteArray := prog_13_method_75_code
def yX11_told : MethodName := ⟨RX11, "told", "(I)I"⟩
abbrev cX11_mix : ByteArray := prog_13_method_76_code
def yX11_mix : MethodName := ⟨RX11, "mix", "(J)V"⟩
abbrev cX11_digest : ByteArray := prog_13_method_77_code
def yX11_digest : MethodName := ⟨RX11, "digest", "()J"⟩
def RJ13 : String := "java/lang/Long"
abbrev cJ13_bitCount_95d88 : ByteArray := prog_14_method_50_code
def yJ13_bitCount_95d88 : MethodName := ⟨RJ13, "bitCount", "(J)I"⟩
def RJ9 : String := "java/lang/Math"
abbrev cJ9_max_7cf53 : ByteArray := prog_15_method_65_code
def yJ9_max_7cf53 : MethodName := ⟨RJ9, "max", "(II)I"⟩
abbrev cJ9_min_7cf53 : ByteArray := prog_15_method_69_code
def yJ9_min_7cf53 : MethodName := ⟨RJ9, "min", "(II)I"⟩
def RJ10 : String := "java/lang/System"
def RL : String := "FallingRulesLaw"
abbrev cL_law : ByteArray := code
def yL_law : MethodName := ⟨RL, "law", "([I)Z"⟩
abbrev vwCl : List vw_C := [(RX0, TX0, 11), (RX1, TX1, 2), (RX2, TX2, 5), (RX3, TX3, 2), (RX4, TX4, 5), (RX5, TX5, 2), (RX6, TX6, 1), (RX7, TX7, 3), (RX8, TX8, 3), (RX9, TX9, 4), (RX10, TX10, 15), (RX11, TX11, 32)]

def GW : List Cond := lw_tbl.filter goodWord
theorem inGW {w : Cond} (h : w ∈ lw_tbl) (g : goodWord w = true) : w ∈ GW := List.mem_filter.mpr ⟨h, g⟩
theorem GW_good {w : Cond} (h : w ∈ GW) : w ∈ GW ∧ ((w.onTables && w.keeps) = true ∨ ∃ ty, w = .arrayClass ty) := ⟨h, good_of_word (List.mem_filter.mp h).2⟩
theorem GW_in {w : Cond} (h : w ∈ GW) : w ∈ lw_tbl := (List.mem_filter.mp h).1
theorem inGW_l {ws : List Cond} (ps : List Nat) (hp : ws = ps.filterMap (fun i => lw_tbl[i]?)) (h : ws.all goodWord = true) : ∀ w ∈ ws, w ∈ GW := by
  intro w hw
  have h1 := List.all_eq_true.mp h w hw
  rw [hp] at hw
  obtain ⟨i, -, hi⟩ := List.mem_filterMap.mp hw
  exact inGW (List.mem_of_getElem? hi) h1
set_option maxRecDepth 20000 in
theorem inGX0 : ∀ w ∈ u_ws RX0 TX0 11, w ∈ GW := inGW_l [281, 283, 285, 287, 289, 291, 293, 295, 297, 299, 301] (by decide +kernel) (by decide +kernel)
set_option maxRecDepth 20000 in
theorem inGX1 : ∀ w ∈ u_ws RX1 TX1 2, w ∈ GW := inGW_l [209, 211] (by decide +kernel) (by decide +kernel)
set_option maxRecDepth 20000 in
theorem inGX2 : ∀ w ∈ u_ws RX2 TX2 5, w ∈ GW := inGW_l [227, 229, 231, 233, 235] (by decide +kernel) (by decide +kernel)
set_option maxRecDepth 20000 in
theorem inGX3 : ∀ w ∈ u_ws RX3 TX3 2, w ∈ GW := inGW_l [171, 173] (by decide +kernel) (by decide +kernel)
set_option maxRecDepth 20000 in
theorem inGX4 : ∀ w ∈ u_ws RX4 TX4 5, w ∈ GW := inGW_l [327, 329, 331, 333, 335] (by decide +kernel) (by decide +kernel)
set_option maxRecDepth 20000 in
theorem inGX5 : ∀ w ∈ u_ws RX5 TX5 2, w ∈ GW := inGW_l [248, 250] (by decide +kernel) (by decide +kernel)
set_option maxRecDepth 20000 in
theorem inGX6 : ∀ w ∈ u_ws RX6 TX6 1, w ∈ GW := inGW_l [319] (by decide +kernel) (by decide +kernel)
set_option maxRecDepth 20000 in
theorem inGX7 : ∀ w ∈ u_ws RX7 TX7 3, w ∈ GW := inGW_l [190, 192, 194] (by decide +kernel) (by decide +kernel)
set_option maxRecDepth 20000 in
theorem inGX8 : ∀ w ∈ u_ws RX8 TX8 3, w ∈ GW := inGW_l [142, 144, 146] (by decide +kernel) (by decide +kernel)
set_option maxRecDepth 20000 in
theorem inGX9 : ∀ w ∈ u_ws RX9 TX9 4, w ∈ GW := inGW_l [352, 354, 356, 358] (by decide +kernel) (by decide +kernel)
set_option maxRecDepth 20000 in
theorem inGX10 : ∀ w ∈ u_ws RX10 TX10 15, w ∈ GW := inGW_l [393, 395, 397, 399, 401, 403, 405, 407, 409, 411, 413, 415, 417, 419, 421] (by decide +kernel) (by decide +kernel)
set_option maxRecDepth 20000 in
theorem inGX11 : ∀ w ∈ u_ws RX11 TX11 32, w ∈ GW := inGW_l [848, 850, 852, 854, 856, 858, 860, 862, 864, 866, 868, 870, 872, 874, 876, 878, 880, 882, 884, 886, 888, 890, 892, 894, 896, 898, 900, 902, 904, 906, 908, 910] (by decide +kernel) (by decide +kernel)
