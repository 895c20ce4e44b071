section
-- ===== PART A: goes FIRST, ahead of the names: the tables' words, and 'selects' of the private methods out of them =====
/-- a private method of a class that the tables say can be made, by its rows of tables_1 -/
def lw_okq (q : MethodName × Nat) : Prop := (q.1.cls ≠ "java/lang/invoke/MethodHandle" ∧ q.1.cls ≠ "java/lang/invoke/VarHandle") ∧ Cond.instantiable q.1.cls q.2 ∈ tables_1 ∧ Cond.privateMethod q.1 ∈ tables_1 ∧ Cond.instanceMethod q.1 ∈ tables_1
theorem lw_p0 : lw_okq (⟨"FallingRules", "refuseBad", "()I"⟩, 15) := ⟨⟨by decide +kernel, by decide +kernel⟩, List.mem_of_getElem? (i := 17) (by decide +kernel), List.mem_of_getElem? (i := 350) (by decide +kernel), List.mem_of_getElem? (i := 351) (by decide +kernel)⟩
theorem lw_p1 : lw_okq (⟨"FallingRules$Reader", "readRule", "(LFallingRules$Rule;)Z"⟩, 5) := ⟨⟨by decide +kernel, by decide +kernel⟩, List.mem_of_getElem? (i := 136) (by decide +kernel), List.mem_of_getElem? (i := 370) (by decide +kernel), List.mem_of_getElem? (i := 371) (by decide +kernel)⟩
theorem lw_p2 : lw_okq (⟨"FallingRules$Reader", "readTerm", "(LFallingRules$Term;III)Z"⟩, 5) := ⟨⟨by decide +kernel, by decide +kernel⟩, List.mem_of_getElem? (i := 136) (by decide +kernel), List.mem_of_getElem? (i := 374) (by decide +kernel), List.mem_of_getElem? (i := 375) (by decide +kernel)⟩
theorem lw_p3 : lw_okq (⟨"FallingRules$Reader", "readLetter", "(LFallingRules$Term;I)Z"⟩, 5) := ⟨⟨by decide +kernel, by decide +kernel⟩, List.mem_of_getElem? (i := 136) (by decide +kernel), List.mem_of_getElem? (i := 378) (by decide +kernel), List.mem_of_getElem? (i := 379) (by decide +kernel)⟩
theorem lw_p4 : lw_okq (⟨"FallingRules$Reader", "skipBlanks", "()V"⟩, 5) := ⟨⟨by decide +kernel, by decide +kernel⟩, List.mem_of_getElem? (i := 136) (by decide +kernel), List.mem_of_getElem? (i := 382) (by decide +kernel), List.mem_of_getElem? (i := 383) (by decide +kernel)⟩
theorem lw_p5 : lw_okq (⟨"FallingRules$Reader", "opens", "(I)Z"⟩, 5) := ⟨⟨by decide +kernel, by decide +kernel⟩, List.mem_of_getElem? (i := 136) (by decide +kernel), List.mem_of_getElem? (i := 394) (by decide +kernel), List.mem_of_getElem? (i := 395) (by decide +kernel)⟩
theorem lw_p6 : lw_okq (⟨"FallingRules$Reader", "takes", "(I)Z"⟩, 5) := ⟨⟨by decide +kernel, by decide +kernel⟩, List.mem_of_getElem? (i := 136) (by decide +kernel), List.mem_of_getElem? (i := 398) (by decide +kernel), List.mem_of_getElem? (i := 399) (by decide +kernel)⟩
theorem lw_p7 : lw_okq (⟨"FallingRules$Reader", "closes", "()Z"⟩, 5) := ⟨⟨by decide +kernel, by decide +kernel⟩, List.mem_of_getElem? (i := 136) (by decide +kernel), List.mem_of_getElem? (i := 402) (by decide +kernel), List.mem_of_getElem? (i := 403) (by decide +kernel)⟩
theorem lw_p8 : lw_okq (⟨"FallingRules$History", "loseOldest", "()V"⟩, 2) := ⟨⟨by decide +kernel, by decide +kernel⟩, List.mem_of_getElem? (i := 119) (by decide +kernel), List.mem_of_getElem? (i := 416) (by decide +kernel), List.mem_of_getElem? (i := 417) (by decide +kernel)⟩
theorem lw_p9 : lw_okq (⟨"FallingRules", "forgetFindings", "()V"⟩, 15) := ⟨⟨by decide +kernel, by decide +kernel⟩, List.mem_of_getElem? (i := 17) (by decide +kernel), List.mem_of_getElem? (i := 439) (by decide +kernel), List.mem_of_getElem? (i := 440) (by decide +kernel)⟩
theorem lw_p10 : lw_okq (⟨"FallingRules", "isRule", "(I)Z"⟩, 15) := ⟨⟨by decide +kernel, by decide +kernel⟩, List.mem_of_getElem? (i := 17) (by decide +kernel), List.mem_of_getElem? (i := 456) (by decide +kernel), List.mem_of_getElem? (i := 457) (by decide +kernel)⟩
theorem lw_p11 : lw_okq (⟨"FallingRules", "keepBookRight", "()V"⟩, 15) := ⟨⟨by decide +kernel, by decide +kernel⟩, List.mem_of_getElem? (i := 17) (by decide +kernel), List.mem_of_getElem? (i := 477) (by decide +kernel), List.mem_of_getElem? (i := 478) (by decide +kernel)⟩
theorem lw_p12 : lw_okq (⟨"FallingRules$CallBook", "findHeads", "(LFallingRules$State;)V"⟩, 11) := ⟨⟨by decide +kernel, by decide +kernel⟩, List.mem_of_getElem? (i := 175) (by decide +kernel), List.mem_of_getElem? (i := 485) (by decide +kernel), List.mem_of_getElem? (i := 486) (by decide +kernel)⟩
theorem lw_p13 : lw_okq (⟨"FallingRules$CallBook", "collect", "(LFallingRules$State;)V"⟩, 11) := ⟨⟨by decide +kernel, by decide +kernel⟩, List.mem_of_getElem? (i := 175) (by decide +kernel), List.mem_of_getElem? (i := 489) (by decide +kernel), List.mem_of_getElem? (i := 490) (by decide +kernel)⟩
theorem lw_p14 : lw_okq (⟨"FallingRules$CallBook", "isHead", "(I)Z"⟩, 11) := ⟨⟨by decide +kernel, by decide +kernel⟩, List.mem_of_getElem? (i := 175) (by decide +kernel), List.mem_of_getElem? (i := 493) (by decide +kernel), List.mem_of_getElem? (i := 494) (by decide +kernel)⟩
theorem lw_p15 : lw_okq (⟨"FallingRules$CallBook", "followersOf", "(LFallingRules$State;I)J"⟩, 11) := ⟨⟨by decide +kernel, by decide +kernel⟩, List.mem_of_getElem? (i := 175) (by decide +kernel), List.mem_of_getElem? (i := 497) (by decide +kernel), List.mem_of_getElem? (i := 498) (by decide +kernel)⟩
def lw_privs_1 : List (MethodName × Nat) := [(⟨"FallingRules", "refuseBad", "()I"⟩, 15), (⟨"FallingRules$Reader", "readRule", "(LFallingRules$Rule;)Z"⟩, 5), (⟨"FallingRules$Reader", "readTerm", "(LFallingRules$Term;III)Z"⟩, 5), (⟨"FallingRules$Reader", "readLetter", "(LFallingRules$Term;I)Z"⟩, 5), (⟨"FallingRules$Reader", "skipBlanks", "()V"⟩, 5), (⟨"FallingRules$Reader", "opens", "(I)Z"⟩, 5), (⟨"FallingRules$Reader", "takes", "(I)Z"⟩, 5), (⟨"FallingRules$Reader", "closes", "()Z"⟩, 5), (⟨"FallingRules$History", "loseOldest", "()V"⟩, 2), (⟨"FallingRules", "forgetFindings", "()V"⟩, 15), (⟨"FallingRules", "isRule", "(I)Z"⟩, 15), (⟨"FallingRules", "keepBookRight", "()V"⟩, 15), (⟨"FallingRules$CallBook", "findHeads", "(LFallingRules$State;)V"⟩, 11), (⟨"FallingRules$CallBook", "collect", "(LFallingRules$State;)V"⟩, 11), (⟨"FallingRules$CallBook", "isHead", "(I)Z"⟩, 11), (⟨"FallingRules$CallBook", "followersOf", "(LFallingRules$State;I)J"⟩, 11)]
theorem lw_r1 : ∀ q ∈ lw_privs_1, lw_okq q := List.forall_mem_cons.mpr ⟨lw_p0, List.forall_mem_cons.mpr ⟨lw_p1, List.forall_mem_cons.mpr ⟨lw_p2, List.forall_mem_cons.mpr ⟨lw_p3, List.forall_mem_cons.mpr ⟨lw_p4, List.forall_mem_cons.mpr ⟨lw_p5, List.forall_mem_cons.mpr ⟨lw_p6, List.forall_mem_cons.mpr ⟨lw_p7, List.forall_mem_cons.mpr ⟨lw_p8, List.forall_mem_cons.mpr ⟨lw_p9, List.forall_mem_cons.mpr ⟨lw_p10, List.forall_mem_cons.mpr ⟨lw_p11, List.forall_mem_cons.mpr ⟨lw_p12, List.forall_mem_cons.mpr ⟨lw_p13, List.forall_mem_cons.mpr ⟨lw_p14, List.forall_mem_cons.mpr ⟨lw_p15, fun _ h => absurd h List.not_mem_nil⟩⟩⟩⟩⟩⟩⟩⟩⟩⟩⟩⟩⟩⟩⟩⟩
theorem lw_p16 : lw_okq (⟨"FallingRules$CallBook", "comesTo", "(LFallingRules$Term;ILFallingRules$Term;)Z"⟩, 11) := ⟨⟨by decide +kernel, by decide +kernel⟩, List.mem_of_getElem? (i := 175) (by decide +kernel), List.mem_of_getElem? (i := 501) (by decide +kernel), List.mem_of_getElem? (i := 502) (by decide +kernel)⟩
theorem lw_p17 : lw_okq (⟨"FallingRules$CallBook", "reachOn", "()V"⟩, 11) := ⟨⟨by decide +kernel, by decide +kernel⟩, List.mem_of_getElem? (i := 175) (by decide +kernel), List.mem_of_getElem? (i := 508) (by decide +kernel), List.mem_of_getElem? (i := 509) (by decide +kernel)⟩
theorem lw_p18 : lw_okq (⟨"FallingRules$CallBook", "findRings", "()V"⟩, 11) := ⟨⟨by decide +kernel, by decide +kernel⟩, List.mem_of_getElem? (i := 175) (by decide +kernel), List.mem_of_getElem? (i := 515) (by decide +kernel), List.mem_of_getElem? (i := 516) (by decide +kernel)⟩
theorem lw_p19 : lw_okq (⟨"FallingRules$CallBook", "nameRing", "(I)V"⟩, 11) := ⟨⟨by decide +kernel, by decide +kernel⟩, List.mem_of_getElem? (i := 175) (by decide +kernel), List.mem_of_getElem? (i := 519) (by decide +kernel), List.mem_of_getElem? (i := 520) (by decide +kernel)⟩
theorem lw_p20 : lw_okq (⟨"FallingRules$Script", "writeSide", "(LFallingRules$Term;)V"⟩, 2) := ⟨⟨by decide +kernel, by decide +kernel⟩, List.mem_of_getElem? (i := 160) (by decide +kernel), List.mem_of_getElem? (i := 537) (by decide +kernel), List.mem_of_getElem? (i := 538) (by decide +kernel)⟩
theorem lw_p21 : lw_okq (⟨"FallingRules$Script", "put", "(I)V"⟩, 2) := ⟨⟨by decide +kernel, by decide +kernel⟩, List.mem_of_getElem? (i := 160) (by decide +kernel), List.mem_of_getElem? (i := 541) (by decide +kernel), List.mem_of_getElem? (i := 542) (by decide +kernel)⟩
theorem lw_p22 : lw_okq (⟨"FallingRules$Script", "writeBehind", "(LFallingRules$Term;I)V"⟩, 2) := ⟨⟨by decide +kernel, by decide +kernel⟩, List.mem_of_getElem? (i := 160) (by decide +kernel), List.mem_of_getElem? (i := 546) (by decide +kernel), List.mem_of_getElem? (i := 547) (by decide +kernel)⟩
theorem lw_p23 : lw_okq (⟨"FallingRules$Scales", "fillRows", "(LFallingRules$State;LFallingRules$CallBook;IIII)Z"⟩, 5) := ⟨⟨by decide +kernel, by decide +kernel⟩, List.mem_of_getElem? (i := 227) (by decide +kernel), List.mem_of_getElem? (i := 558) (by decide +kernel), List.mem_of_getElem? (i := 559) (by decide +kernel)⟩
theorem lw_p24 : lw_okq (⟨"FallingRules$Shares", "addPart", "(III)V"⟩, 1) := ⟨⟨by decide +kernel, by decide +kernel⟩, List.mem_of_getElem? (i := 233) (by decide +kernel), List.mem_of_getElem? (i := 567) (by decide +kernel), List.mem_of_getElem? (i := 568) (by decide +kernel)⟩
theorem lw_p25 : lw_okq (⟨"FallingRules$Scales", "addRow", "(II)Z"⟩, 5) := ⟨⟨by decide +kernel, by decide +kernel⟩, List.mem_of_getElem? (i := 227) (by decide +kernel), List.mem_of_getElem? (i := 571) (by decide +kernel), List.mem_of_getElem? (i := 572) (by decide +kernel)⟩
theorem lw_p26 : lw_okq (⟨"FallingRules$Scales", "addCallRows", "(LFallingRules$CallBook;II)Z"⟩, 5) := ⟨⟨by decide +kernel, by decide +kernel⟩, List.mem_of_getElem? (i := 227) (by decide +kernel), List.mem_of_getElem? (i := 575) (by decide +kernel), List.mem_of_getElem? (i := 576) (by decide +kernel)⟩
theorem lw_p27 : lw_okq (⟨"FallingRules$Scales", "leastByRows", "(III)I"⟩, 5) := ⟨⟨by decide +kernel, by decide +kernel⟩, List.mem_of_getElem? (i := 227) (by decide +kernel), List.mem_of_getElem? (i := 579) (by decide +kernel), List.mem_of_getElem? (i := 580) (by decide +kernel)⟩
theorem lw_p28 : lw_okq (⟨"FallingRules$Scales", "meetsRows", "(IIII)Z"⟩, 5) := ⟨⟨by decide +kernel, by decide +kernel⟩, List.mem_of_getElem? (i := 227) (by decide +kernel), List.mem_of_getElem? (i := 583) (by decide +kernel), List.mem_of_getElem? (i := 584) (by decide +kernel)⟩
theorem lw_p29 : lw_okq (⟨"FallingRules$Scales", "sumOfRow", "(IIIII)I"⟩, 5) := ⟨⟨by decide +kernel, by decide +kernel⟩, List.mem_of_getElem? (i := 227) (by decide +kernel), List.mem_of_getElem? (i := 587) (by decide +kernel), List.mem_of_getElem? (i := 588) (by decide +kernel)⟩
theorem lw_p30 : lw_okq (⟨"FallingRules", "splitFigures", "(I)Z"⟩, 15) := ⟨⟨by decide +kernel, by decide +kernel⟩, List.mem_of_getElem? (i := 17) (by decide +kernel), List.mem_of_getElem? (i := 595) (by decide +kernel), List.mem_of_getElem? (i := 596) (by decide +kernel)⟩
theorem lw_p31 : lw_okq (⟨"FallingRules$Scales", "totalAt", "(LFallingRules$Term;I)J"⟩, 5) := ⟨⟨by decide +kernel, by decide +kernel⟩, List.mem_of_getElem? (i := 227) (by decide +kernel), List.mem_of_getElem? (i := 612) (by decide +kernel), List.mem_of_getElem? (i := 613) (by decide +kernel)⟩
def lw_privs_2 : List (MethodName × Nat) := [(⟨"FallingRules$CallBook", "comesTo", "(LFallingRules$Term;ILFallingRules$Term;)Z"⟩, 11), (⟨"FallingRules$CallBook", "reachOn", "()V"⟩, 11), (⟨"FallingRules$CallBook", "findRings", "()V"⟩, 11), (⟨"FallingRules$CallBook", "nameRing", "(I)V"⟩, 11), (⟨"FallingRules$Script", "writeSide", "(LFallingRules$Term;)V"⟩, 2), (⟨"FallingRules$Script", "put", "(I)V"⟩, 2), (⟨"FallingRules$Script", "writeBehind", "(LFallingRules$Term;I)V"⟩, 2), (⟨"FallingRules$Scales", "fillRows", "(LFallingRules$State;LFallingRules$CallBook;IIII)Z"⟩, 5), (⟨"FallingRules$Shares", "addPart", "(III)V"⟩, 1), (⟨"FallingRules$Scales", "addRow", "(II)Z"⟩, 5), (⟨"FallingRules$Scales", "addCallRows", "(LFallingRules$CallBook;II)Z"⟩, 5), (⟨"FallingRules$Scales", "leastByRows", "(III)I"⟩, 5), (⟨"FallingRules$Scales", "meetsRows", "(IIII)Z"⟩, 5), (⟨"FallingRules$Scales", "sumOfRow", "(IIIII)I"⟩, 5), (⟨"FallingRules", "splitFigures", "(I)Z"⟩, 15), (⟨"FallingRules$Scales", "totalAt", "(LFallingRules$Term;I)J"⟩, 5)]
theorem lw_r2 : ∀ q ∈ lw_privs_2, lw_okq q := List.forall_mem_cons.mpr ⟨lw_p16, List.forall_mem_cons.mpr ⟨lw_p17, List.forall_mem_cons.mpr ⟨lw_p18, List.forall_mem_cons.mpr ⟨lw_p19, List.forall_mem_cons.mpr ⟨lw_p20, List.forall_mem_cons.mpr ⟨lw_p21, List.forall_mem_cons.mpr ⟨lw_p22, List.forall_mem_cons.mpr ⟨lw_p23, List.forall_mem_cons.mpr ⟨lw_p24, List.forall_mem_cons.mpr ⟨lw_p25, List.forall_mem_cons.mpr ⟨lw_p26, List.forall_mem_cons.mpr ⟨lw_p27, List.forall_mem_cons.mpr ⟨lw_p28, List.forall_mem_cons.mpr ⟨lw_p29, List.forall_mem_cons.mpr ⟨lw_p30, List.forall_mem_cons.mpr ⟨lw_p31, fun _ h => absurd h List.not_mem_nil⟩⟩⟩⟩⟩⟩⟩⟩⟩⟩⟩⟩⟩⟩⟩⟩
theorem lw_p32 : lw_okq (⟨"FallingRules", "weighRings", "()V"⟩, 15) := ⟨⟨by decide +kernel, by decide +kernel⟩, List.mem_of_getElem? (i := 17) (by decide +kernel), List.mem_of_getElem? (i := 621) (by decide +kernel), List.mem_of_getElem? (i := 622) (by decide +kernel)⟩
theorem lw_p33 : lw_okq (⟨"FallingRules$Turner", "leastRuleAt", "(LFallingRules$State;LFallingRules$Term;I)I"⟩, 4) := ⟨⟨by decide +kernel, by decide +kernel⟩, List.mem_of_getElem? (i := 260) (by decide +kernel), List.mem_of_getElem? (i := 662) (by decide +kernel), List.mem_of_getElem? (i := 663) (by decide +kernel)⟩
theorem lw_p34 : lw_okq (⟨"FallingRules$Turner", "fits", "(LFallingRules$Term;LFallingRules$Term;I)Z"⟩, 4) := ⟨⟨by decide +kernel, by decide +kernel⟩, List.mem_of_getElem? (i := 260) (by decide +kernel), List.mem_of_getElem? (i := 666) (by decide +kernel), List.mem_of_getElem? (i := 667) (by decide +kernel)⟩
theorem lw_p35 : lw_okq (⟨"FallingRules$Turner", "build", "(LFallingRules$Rule;LFallingRules$Term;)Z"⟩, 4) := ⟨⟨by decide +kernel, by decide +kernel⟩, List.mem_of_getElem? (i := 260) (by decide +kernel), List.mem_of_getElem? (i := 675) (by decide +kernel), List.mem_of_getElem? (i := 676) (by decide +kernel)⟩
theorem lw_p36 : lw_okq (⟨"FallingRules$Turner", "sizeBehind", "(LFallingRules$Term;LFallingRules$Term;)I"⟩, 4) := ⟨⟨by decide +kernel, by decide +kernel⟩, List.mem_of_getElem? (i := 260) (by decide +kernel), List.mem_of_getElem? (i := 679) (by decide +kernel), List.mem_of_getElem? (i := 680) (by decide +kernel)⟩
theorem lw_p37 : lw_okq (⟨"FallingRulesModel", "refuses", "(I)I"⟩, 32) := ⟨⟨by decide +kernel, by decide +kernel⟩, List.mem_of_getElem? (i := 732) (by decide +kernel), List.mem_of_getElem? (i := 840) (by decide +kernel), List.mem_of_getElem? (i := 841) (by decide +kernel)⟩
theorem lw_p38 : lw_okq (⟨"FallingRulesModel", "readsRules", "()I"⟩, 32) := ⟨⟨by decide +kernel, by decide +kernel⟩, List.mem_of_getElem? (i := 732) (by decide +kernel), List.mem_of_getElem? (i := 862) (by decide +kernel), List.mem_of_getElem? (i := 863) (by decide +kernel)⟩
theorem lw_p39 : lw_okq (⟨"FallingRulesModel", "blanks", "()V"⟩, 32) := ⟨⟨by decide +kernel, by decide +kernel⟩, List.mem_of_getElem? (i := 732) (by decide +kernel), List.mem_of_getElem? (i := 866) (by decide +kernel), List.mem_of_getElem? (i := 867) (by decide +kernel)⟩
theorem lw_p40 : lw_okq (⟨"FallingRulesModel", "takesRule", "()Z"⟩, 32) := ⟨⟨by decide +kernel, by decide +kernel⟩, List.mem_of_getElem? (i := 732) (by decide +kernel), List.mem_of_getElem? (i := 870) (by decide +kernel), List.mem_of_getElem? (i := 871) (by decide +kernel)⟩
theorem lw_p41 : lw_okq (⟨"FallingRulesModel", "takesTerm", "(III)I"⟩, 32) := ⟨⟨by decide +kernel, by decide +kernel⟩, List.mem_of_getElem? (i := 732) (by decide +kernel), List.mem_of_getElem? (i := 880) (by decide +kernel), List.mem_of_getElem? (i := 881) (by decide +kernel)⟩
theorem lw_p42 : lw_okq (⟨"FallingRulesModel", "wantsMore", "(I)V"⟩, 32) := ⟨⟨by decide +kernel, by decide +kernel⟩, List.mem_of_getElem? (i := 732) (by decide +kernel), List.mem_of_getElem? (i := 884) (by decide +kernel), List.mem_of_getElem? (i := 885) (by decide +kernel)⟩
theorem lw_p43 : lw_okq (⟨"FallingRulesModel", "opens", "(I)V"⟩, 32) := ⟨⟨by decide +kernel, by decide +kernel⟩, List.mem_of_getElem? (i := 732) (by decide +kernel), List.mem_of_getElem? (i := 891) (by decide +kernel), List.mem_of_getElem? (i := 892) (by decide +kernel)⟩
theorem lw_p44 : lw_okq (⟨"FallingRulesModel", "takesSign", "(I)Z"⟩, 32) := ⟨⟨by decide +kernel, by decide +kernel⟩, List.mem_of_getElem? (i := 732) (by decide +kernel), List.mem_of_getElem? (i := 898) (by decide +kernel), List.mem_of_getElem? (i := 899) (by decide +kernel)⟩
theorem lw_p45 : lw_okq (⟨"FallingRulesModel", "remembers", "()V"⟩, 32) := ⟨⟨by decide +kernel, by decide +kernel⟩, List.mem_of_getElem? (i := 732) (by decide +kernel), List.mem_of_getElem? (i := 908) (by decide +kernel), List.mem_of_getElem? (i := 909) (by decide +kernel)⟩
theorem lw_p46 : lw_okq (⟨"FallingRulesModel", "readsTerm", "()I"⟩, 32) := ⟨⟨by decide +kernel, by decide +kernel⟩, List.mem_of_getElem? (i := 732) (by decide +kernel), List.mem_of_getElem? (i := 916) (by decide +kernel), List.mem_of_getElem? (i := 917) (by decide +kernel)⟩
theorem lw_p47 : lw_okq (⟨"FallingRulesModel", "isRule", "(I)Z"⟩, 32) := ⟨⟨by decide +kernel, by decide +kernel⟩, List.mem_of_getElem? (i := 732) (by decide +kernel), List.mem_of_getElem? (i := 924) (by decide +kernel), List.mem_of_getElem? (i := 925) (by decide +kernel)⟩
def lw_privs_3 : List (MethodName × Nat) := [(⟨"FallingRules", "weighRings", "()V"⟩, 15), (⟨"FallingRules$Turner", "leastRuleAt", "(LFallingRules$State;LFallingRules$Term;I)I"⟩, 4), (⟨"FallingRules$Turner", "fits", "(LFallingRules$Term;LFallingRules$Term;I)Z"⟩, 4), (⟨"FallingRules$Turner", "build", "(LFallingRules$Rule;LFallingRules$Term;)Z"⟩, 4), (⟨"FallingRules$Turner", "sizeBehind", "(LFallingRules$Term;LFallingRules$Term;)I"⟩, 4), (⟨"FallingRulesModel", "refuses", "(I)I"⟩, 32), (⟨"FallingRulesModel", "readsRules", "()I"⟩, 32), (⟨"FallingRulesModel", "blanks", "()V"⟩, 32), (⟨"FallingRulesModel", "takesRule", "()Z"⟩, 32), (⟨"FallingRulesModel", "takesTerm", "(III)I"⟩, 32), (⟨"FallingRulesModel", "wantsMore", "(I)V"⟩, 32), (⟨"FallingRulesModel", "opens", "(I)V"⟩, 32), (⟨"FallingRulesModel", "takesSign", "(I)Z"⟩, 32), (⟨"FallingRulesModel", "remembers", "()V"⟩, 32), (⟨"FallingRulesModel", "readsTerm", "()I"⟩, 32), (⟨"FallingRulesModel", "isRule", "(I)Z"⟩, 32)]
theorem lw_r3 : ∀ q ∈ lw_privs_3, lw_okq q := List.forall_mem_cons.mpr ⟨lw_p32, List.forall_mem_cons.mpr ⟨lw_p33, List.forall_mem_cons.mpr ⟨lw_p34, List.forall_mem_cons.mpr ⟨lw_p35, List.forall_mem_cons.mpr ⟨lw_p36, List.forall_mem_cons.mpr ⟨lw_p37, List.forall_mem_cons.mpr ⟨lw_p38, List.forall_mem_cons.mpr ⟨lw_p39, List.forall_mem_cons.mpr ⟨lw_p40, List.forall_mem_cons.mpr ⟨lw_p41, List.forall_mem_cons.mpr ⟨lw_p42, List.forall_mem_cons.mpr ⟨lw_p43, List.forall_mem_cons.mpr ⟨lw_p44, List.forall_mem_cons.mpr ⟨lw_p45, List.forall_mem_cons.mpr ⟨lw_p46, List.forall_mem_cons.mpr ⟨lw_p47, fun _ h => absurd h List.not_mem_nil⟩⟩⟩⟩⟩⟩⟩⟩⟩⟩⟩⟩⟩⟩⟩⟩
theorem lw_p48 : lw_okq (⟨"FallingRulesModel", "movesRule", "(II)V"⟩, 32) := ⟨⟨by decide +kernel, by decide +kernel⟩, List.mem_of_getElem? (i := 732) (by decide +kernel), List.mem_of_getElem? (i := 928) (by decide +kernel), List.mem_of_getElem? (i := 929) (by decide +kernel)⟩
theorem lw_p49 : lw_okq (⟨"FallingRulesModel", "ruleTold", "(II)I"⟩, 32) := ⟨⟨by decide +kernel, by decide +kernel⟩, List.mem_of_getElem? (i := 732) (by decide +kernel), List.mem_of_getElem? (i := 940) (by decide +kernel), List.mem_of_getElem? (i := 941) (by decide +kernel)⟩
theorem lw_p50 : lw_okq (⟨"FallingRulesModel", "isHead", "(I)Z"⟩, 32) := ⟨⟨by decide +kernel, by decide +kernel⟩, List.mem_of_getElem? (i := 732) (by decide +kernel), List.mem_of_getElem? (i := 950) (by decide +kernel), List.mem_of_getElem? (i := 951) (by decide +kernel)⟩
theorem lw_p51 : lw_okq (⟨"FallingRulesModel", "heads", "()I"⟩, 32) := ⟨⟨by decide +kernel, by decide +kernel⟩, List.mem_of_getElem? (i := 732) (by decide +kernel), List.mem_of_getElem? (i := 954) (by decide +kernel), List.mem_of_getElem? (i := 955) (by decide +kernel)⟩
theorem lw_p52 : lw_okq (⟨"FallingRulesModel", "writesTerm", "(II)V"⟩, 32) := ⟨⟨by decide +kernel, by decide +kernel⟩, List.mem_of_getElem? (i := 732) (by decide +kernel), List.mem_of_getElem? (i := 962) (by decide +kernel), List.mem_of_getElem? (i := 963) (by decide +kernel)⟩
theorem lw_p53 : lw_okq (⟨"FallingRulesModel", "writes", "(I)V"⟩, 32) := ⟨⟨by decide +kernel, by decide +kernel⟩, List.mem_of_getElem? (i := 732) (by decide +kernel), List.mem_of_getElem? (i := 966) (by decide +kernel), List.mem_of_getElem? (i := 967) (by decide +kernel)⟩
theorem lw_p54 : lw_okq (⟨"FallingRulesModel", "laysFigures", "(II)Z"⟩, 32) := ⟨⟨by decide +kernel, by decide +kernel⟩, List.mem_of_getElem? (i := 732) (by decide +kernel), List.mem_of_getElem? (i := 974) (by decide +kernel), List.mem_of_getElem? (i := 975) (by decide +kernel)⟩
theorem lw_p55 : lw_okq (⟨"FallingRulesModel", "areAll", "(I)Z"⟩, 32) := ⟨⟨by decide +kernel, by decide +kernel⟩, List.mem_of_getElem? (i := 732) (by decide +kernel), List.mem_of_getElem? (i := 978) (by decide +kernel), List.mem_of_getElem? (i := 979) (by decide +kernel)⟩
theorem lw_p56 : lw_okq (⟨"FallingRulesModel", "comparesRule", "(I)I"⟩, 32) := ⟨⟨by decide +kernel, by decide +kernel⟩, List.mem_of_getElem? (i := 732) (by decide +kernel), List.mem_of_getElem? (i := 982) (by decide +kernel), List.mem_of_getElem? (i := 983) (by decide +kernel)⟩
theorem lw_p57 : lw_okq (⟨"FallingRulesModel", "compares", "(IIII)I"⟩, 32) := ⟨⟨by decide +kernel, by decide +kernel⟩, List.mem_of_getElem? (i := 732) (by decide +kernel), List.mem_of_getElem? (i := 986) (by decide +kernel), List.mem_of_getElem? (i := 987) (by decide +kernel)⟩
theorem lw_p58 : lw_okq (⟨"FallingRulesModel", "weighsTerm", "([III)V"⟩, 32) := ⟨⟨by decide +kernel, by decide +kernel⟩, List.mem_of_getElem? (i := 732) (by decide +kernel), List.mem_of_getElem? (i := 990) (by decide +kernel), List.mem_of_getElem? (i := 991) (by decide +kernel)⟩
theorem lw_p59 : lw_okq (⟨"FallingRulesModel", "numberOf", "()I"⟩, 32) := ⟨⟨by decide +kernel, by decide +kernel⟩, List.mem_of_getElem? (i := 732) (by decide +kernel), List.mem_of_getElem? (i := 995) (by decide +kernel), List.mem_of_getElem? (i := 996) (by decide +kernel)⟩
theorem lw_p60 : lw_okq (⟨"FallingRulesModel", "goesOn", "(II)Z"⟩, 32) := ⟨⟨by decide +kernel, by decide +kernel⟩, List.mem_of_getElem? (i := 732) (by decide +kernel), List.mem_of_getElem? (i := 999) (by decide +kernel), List.mem_of_getElem? (i := 1000) (by decide +kernel)⟩
theorem lw_p61 : lw_okq (⟨"FallingRulesModel", "laysCalls", "()V"⟩, 32) := ⟨⟨by decide +kernel, by decide +kernel⟩, List.mem_of_getElem? (i := 732) (by decide +kernel), List.mem_of_getElem? (i := 1015) (by decide +kernel), List.mem_of_getElem? (i := 1016) (by decide +kernel)⟩
theorem lw_p62 : lw_okq (⟨"FallingRulesModel", "mayFollow", "(II)Z"⟩, 32) := ⟨⟨by decide +kernel, by decide +kernel⟩, List.mem_of_getElem? (i := 732) (by decide +kernel), List.mem_of_getElem? (i := 1019) (by decide +kernel), List.mem_of_getElem? (i := 1020) (by decide +kernel)⟩
theorem lw_p63 : lw_okq (⟨"FallingRulesModel", "laysRings", "()V"⟩, 32) := ⟨⟨by decide +kernel, by decide +kernel⟩, List.mem_of_getElem? (i := 732) (by decide +kernel), List.mem_of_getElem? (i := 1026) (by decide +kernel), List.mem_of_getElem? (i := 1027) (by decide +kernel)⟩
def lw_privs_4 : List (MethodName × Nat) := [(⟨"FallingRulesModel", "movesRule", "(II)V"⟩, 32), (⟨"FallingRulesModel", "ruleTold", "(II)I"⟩, 32), (⟨"FallingRulesModel", "isHead", "(I)Z"⟩, 32), (⟨"FallingRulesModel", "heads", "()I"⟩, 32), (⟨"FallingRulesModel", "writesTerm", "(II)V"⟩, 32), (⟨"FallingRulesModel", "writes", "(I)V"⟩, 32), (⟨"FallingRulesModel", "laysFigures", "(II)Z"⟩, 32), (⟨"FallingRulesModel", "areAll", "(I)Z"⟩, 32), (⟨"FallingRulesModel", "comparesRule", "(I)I"⟩, 32), (⟨"FallingRulesModel", "compares", "(IIII)I"⟩, 32), (⟨"FallingRulesModel", "weighsTerm", "([III)V"⟩, 32), (⟨"FallingRulesModel", "numberOf", "()I"⟩, 32), (⟨"FallingRulesModel", "goesOn", "(II)Z"⟩, 32), (⟨"FallingRulesModel", "laysCalls", "()V"⟩, 32), (⟨"FallingRulesModel", "mayFollow", "(II)Z"⟩, 32), (⟨"FallingRulesModel", "laysRings", "()V"⟩, 32)]
theorem lw_r4 : ∀ q ∈ lw_privs_4, lw_okq q := List.forall_mem_cons.mpr ⟨lw_p48, List.forall_mem_cons.mpr ⟨lw_p49, List.forall_mem_cons.mpr ⟨lw_p50, List.forall_mem_cons.mpr ⟨lw_p51, List.forall_mem_cons.mpr ⟨lw_p52, List.forall_mem_cons.mpr ⟨lw_p53, List.forall_mem_cons.mpr ⟨lw_p54, List.forall_mem_cons.mpr ⟨lw_p55, List.forall_mem_cons.mpr ⟨lw_p56, List.forall_mem_cons.mpr ⟨lw_p57, List.forall_mem_cons.mpr ⟨lw_p58, List.forall_mem_cons.mpr ⟨lw_p59, List.forall_mem_cons.mpr ⟨lw_p60, List.forall_mem_cons.mpr ⟨lw_p61, List.forall_mem_cons.mpr ⟨lw_p62, List.forall_mem_cons.mpr ⟨lw_p63, fun _ h => absurd h List.not_mem_nil⟩⟩⟩⟩⟩⟩⟩⟩⟩⟩⟩⟩⟩⟩⟩⟩
theorem lw_p64 : lw_okq (⟨"FallingRulesModel", "callsTold", "(I)I"⟩, 32) := ⟨⟨by decide +kernel, by decide +kernel⟩, List.mem_of_getElem? (i := 732) (by decide +kernel), List.mem_of_getElem? (i := 1030) (by decide +kernel), List.mem_of_getElem? (i := 1031) (by decide +kernel)⟩
theorem lw_p65 : lw_okq (⟨"FallingRulesModel", "lighterOf", "(I)I"⟩, 32) := ⟨⟨by decide +kernel, by decide +kernel⟩, List.mem_of_getElem? (i := 732) (by decide +kernel), List.mem_of_getElem? (i := 1034) (by decide +kernel), List.mem_of_getElem? (i := 1035) (by decide +kernel)⟩
theorem lw_p66 : lw_okq (⟨"FallingRulesModel", "isLighter", "(I)Z"⟩, 32) := ⟨⟨by decide +kernel, by decide +kernel⟩, List.mem_of_getElem? (i := 732) (by decide +kernel), List.mem_of_getElem? (i := 1038) (by decide +kernel), List.mem_of_getElem? (i := 1039) (by decide +kernel)⟩
theorem lw_p67 : lw_okq (⟨"FallingRulesModel", "callTold", "(II)I"⟩, 32) := ⟨⟨by decide +kernel, by decide +kernel⟩, List.mem_of_getElem? (i := 732) (by decide +kernel), List.mem_of_getElem? (i := 1046) (by decide +kernel), List.mem_of_getElem? (i := 1047) (by decide +kernel)⟩
theorem lw_p68 : lw_okq (⟨"FallingRulesModel", "laysTerm", "()V"⟩, 32) := ⟨⟨by decide +kernel, by decide +kernel⟩, List.mem_of_getElem? (i := 732) (by decide +kernel), List.mem_of_getElem? (i := 1062) (by decide +kernel), List.mem_of_getElem? (i := 1063) (by decide +kernel)⟩
theorem lw_p69 : lw_okq (⟨"FallingRulesModel", "findsTurn", "()Z"⟩, 32) := ⟨⟨by decide +kernel, by decide +kernel⟩, List.mem_of_getElem? (i := 732) (by decide +kernel), List.mem_of_getElem? (i := 1066) (by decide +kernel), List.mem_of_getElem? (i := 1067) (by decide +kernel)⟩
theorem lw_p70 : lw_okq (⟨"FallingRulesModel", "ruleAt", "(I)I"⟩, 32) := ⟨⟨by decide +kernel, by decide +kernel⟩, List.mem_of_getElem? (i := 732) (by decide +kernel), List.mem_of_getElem? (i := 1070) (by decide +kernel), List.mem_of_getElem? (i := 1071) (by decide +kernel)⟩
theorem lw_p71 : lw_okq (⟨"FallingRulesModel", "fits", "(II)Z"⟩, 32) := ⟨⟨by decide +kernel, by decide +kernel⟩, List.mem_of_getElem? (i := 732) (by decide +kernel), List.mem_of_getElem? (i := 1074) (by decide +kernel), List.mem_of_getElem? (i := 1075) (by decide +kernel)⟩
theorem lw_p72 : lw_okq (⟨"FallingRulesModel", "binds", "(II)Z"⟩, 32) := ⟨⟨by decide +kernel, by decide +kernel⟩, List.mem_of_getElem? (i := 732) (by decide +kernel), List.mem_of_getElem? (i := 1078) (by decide +kernel), List.mem_of_getElem? (i := 1079) (by decide +kernel)⟩
theorem lw_p73 : lw_okq (⟨"FallingRulesModel", "doesTurn", "()Z"⟩, 32) := ⟨⟨by decide +kernel, by decide +kernel⟩, List.mem_of_getElem? (i := 732) (by decide +kernel), List.mem_of_getElem? (i := 1082) (by decide +kernel), List.mem_of_getElem? (i := 1083) (by decide +kernel)⟩
theorem lw_p74 : lw_okq (⟨"FallingRulesModel", "makes", "(II)V"⟩, 32) := ⟨⟨by decide +kernel, by decide +kernel⟩, List.mem_of_getElem? (i := 732) (by decide +kernel), List.mem_of_getElem? (i := 1086) (by decide +kernel), List.mem_of_getElem? (i := 1087) (by decide +kernel)⟩
theorem lw_p75 : lw_okq (⟨"FallingRulesModel", "settled", "()I"⟩, 32) := ⟨⟨by decide +kernel, by decide +kernel⟩, List.mem_of_getElem? (i := 732) (by decide +kernel), List.mem_of_getElem? (i := 1094) (by decide +kernel), List.mem_of_getElem? (i := 1095) (by decide +kernel)⟩
theorem lw_p76 : lw_okq (⟨"FallingRulesModel", "nextOf", "(I)I"⟩, 32) := ⟨⟨by decide +kernel, by decide +kernel⟩, List.mem_of_getElem? (i := 732) (by decide +kernel), List.mem_of_getElem? (i := 1102) (by decide +kernel), List.mem_of_getElem? (i := 1103) (by decide +kernel)⟩
theorem lw_p77 : lw_okq (⟨"FallingRulesModel", "toldOf", "(I)I"⟩, 32) := ⟨⟨by decide +kernel, by decide +kernel⟩, List.mem_of_getElem? (i := 732) (by decide +kernel), List.mem_of_getElem? (i := 1114) (by decide +kernel), List.mem_of_getElem? (i := 1115) (by decide +kernel)⟩
theorem lw_p78 : lw_okq (⟨"FallingRulesModel", "mix", "(J)V"⟩, 32) := ⟨⟨by decide +kernel, by decide +kernel⟩, List.mem_of_getElem? (i := 732) (by decide +kernel), List.mem_of_getElem? (i := 1123) (by decide +kernel), List.mem_of_getElem? (i := 1124) (by decide +kernel)⟩
def lw_privs_5 : List (MethodName × Nat) := [(⟨"FallingRulesModel", "callsTold", "(I)I"⟩, 32), (⟨"FallingRulesModel", "lighterOf", "(I)I"⟩, 32), (⟨"FallingRulesModel", "isLighter", "(I)Z"⟩, 32), (⟨"FallingRulesModel", "callTold", "(II)I"⟩, 32), (⟨"FallingRulesModel", "laysTerm", "()V"⟩, 32), (⟨"FallingRulesModel", "findsTurn", "()Z"⟩, 32), (⟨"FallingRulesModel", "ruleAt", "(I)I"⟩, 32), (⟨"FallingRulesModel", "fits", "(II)Z"⟩, 32), (⟨"FallingRulesModel", "binds", "(II)Z"⟩, 32), (⟨"FallingRulesModel", "doesTurn", "()Z"⟩, 32), (⟨"FallingRulesModel", "makes", "(II)V"⟩, 32), (⟨"FallingRulesModel", "settled", "()I"⟩, 32), (⟨"FallingRulesModel", "nextOf", "(I)I"⟩, 32), (⟨"FallingRulesModel", "toldOf", "(I)I"⟩, 32), (⟨"FallingRulesModel", "mix", "(J)V"⟩, 32)]
theorem lw_r5 : ∀ q ∈ lw_privs_5, lw_okq q := List.forall_mem_cons.mpr ⟨lw_p64, List.forall_mem_cons.mpr ⟨lw_p65, List.forall_mem_cons.mpr ⟨lw_p66, List.forall_mem_cons.mpr ⟨lw_p67, List.forall_mem_cons.mpr ⟨lw_p68, List.forall_mem_cons.mpr ⟨lw_p69, List.forall_mem_cons.mpr ⟨lw_p70, List.forall_mem_cons.mpr ⟨lw_p71, List.forall_mem_cons.mpr ⟨lw_p72, List.forall_mem_cons.mpr ⟨lw_p73, List.forall_mem_cons.mpr ⟨lw_p74, List.forall_mem_cons.mpr ⟨lw_p75, List.forall_mem_cons.mpr ⟨lw_p76, List.forall_mem_cons.mpr ⟨lw_p77, List.forall_mem_cons.mpr ⟨lw_p78, fun _ h => absurd h List.not_mem_nil⟩⟩⟩⟩⟩⟩⟩⟩⟩⟩⟩⟩⟩⟩⟩
def lw_privs : List (MethodName × Nat) := lw_privs_1 ++ (lw_privs_2 ++ (lw_privs_3 ++ (lw_privs_4 ++ (lw_privs_5))))
def lw_tbl : List Cond := k2_sels lw_privs ++ tables_1
theorem lw_privs_ok : ∀ q ∈ lw_privs, lw_okq q := by
  show ∀ q ∈ lw_privs_1 ++ (lw_privs_2 ++ (lw_privs_3 ++ (lw_privs_4 ++ (lw_privs_5)))), lw_okq q
  exact List.forall_mem_append.mpr ⟨lw_r1, List.forall_mem_append.mpr ⟨lw_r2, List.forall_mem_append.mpr ⟨lw_r3, List.forall_mem_append.mpr ⟨lw_r4, lw_r5⟩⟩⟩⟩
def RX0 : String := "FallingRules$CallBook"
def TX0 : u_T := fun k => match k with
  | 0 => ("FallingRules$CallBook", "ruleOf", "[I", true)
  | 1 => ("FallingRules$CallBook", "placeOf", "[I", true)
  | 2 => ("FallingRules$CallBook", "ringOf", "[I", true)
  | 3 => ("FallingRules$CallBook", "followers", "[J", true)
  | 4 => ("FallingRules$CallBook", "reached", "[J", true)
  | 5 => ("FallingRules$CallBook", "ofRule", "[J", true)
  | 6 => ("FallingRules$CallBook", "lightest", "[I", true)
  | 7 => ("FallingRules$CallBook", "heads", "I", false)
  | 8 => ("FallingRules$CallBook", "count", "I", false)
  | 9 => ("FallingRules$CallBook", "rings", "I", false)
  | _ => ("FallingRules$CallBook", "sure", "Z", false)
def tyX0 : Nat → FieldType := fun k => match k with
  | 0 => .array .int
  | 1 => .array .int
  | 2 => .array .int
  | 3 => .array .long
  | 4 => .array .long
  | 5 => .array .long
  | 6 => .array .int
  | 7 => .int
  | 8 => .int
  | 9 => .int
  | _ => .boolean
abbrev wsX00 : List Cond := u_ws RX0 TX0 11
theorem nmX0 : ∀ a, a < 11 → ∀ b, b < 11 → a ≠ b → (TX0 a).2.1 ≠ (TX0 b).2.1 := by decide +kernel
theorem tyX0_ok : ∀ k, k < 11 → parseFieldDescriptor (TX0 k).2.2.1 = some (tyX0 k) := by decide +kernel
abbrev cX0_init : ByteArray := prog_2_method_1_code
def yX0_init : MethodName := ⟨RX0, "<init>", "()V"⟩
abbrev cX0_has : ByteArray := prog_2_method_2_code
def yX0_has : MethodName := ⟨RX0, "has", "(I)Z"⟩
abbrev cX0_partSize : ByteArray := prog_2_method_3_code
def yX0_partSize : MethodName := ⟨RX0, "partSize", "(LFallingRules$State;I)I"⟩
abbrev cX0_fillFrom : ByteArray := prog_2_method_4_code
def yX0_fillFrom : MethodName := ⟨RX0, "fillFrom", "(LFallingRules$State;)V"⟩
abbrev cX0_isHead : ByteArray := prog_2_method_5_code
def yX0_isHead : MethodName := ⟨RX0, "isHead", "(I)Z"⟩
abbrev cX0_findHeads : ByteArray := prog_2_method_6_code
def yX0_findHeads : MethodName := ⟨RX0, "findHeads", "(LFallingRules$State;)V"⟩
abbrev cX0_collect : ByteArray := prog_2_method_7_code
def yX0_collect : MethodName := ⟨RX0, "collect", "(LFallingRules$State;)V"⟩
abbrev cX0_followersOf : ByteArray := prog_2_method_8_code
def yX0_followersOf : MethodName := ⟨RX0, "followersOf", "(LFallingRules$State;I)J"⟩
abbrev cX0_comesTo : ByteArray := prog_2_method_9_code
def yX0_comesTo : MethodName := ⟨RX0, "comesTo", "(LFallingRules$Term;ILFallingRules$Term;)Z"⟩
abbrev cX0_reachOn : ByteArray := prog_2_method_10_code
def yX0_reachOn : MethodName := ⟨RX0, "reachOn", "()V"⟩
abbrev cX0_findRings : ByteArray := prog_2_method_11_code
def yX0_findRings : MethodName := ⟨RX0, "findRings", "()V"⟩
abbrev cX0_nameRing : ByteArray := prog_2_method_12_code
def yX0_nameRing : MethodName := ⟨RX0, "nameRing", "(I)V"⟩
def RX1 : String := "FallingRules$History"
def TX1 : u_T := fun k => match k with
  | 0 => ("FallingRules$History", "kept", "[LFallingRules$State;", true)
  | _ => ("FallingRules$History", "count", "I", false)
def tyX1 : Nat → FieldType := fun k => match k with
  | 0 => .array (.object "FallingRules$State")
  | _ => .int
abbrev wsX10 : List Cond := u_ws RX1 TX1 2
theorem nmX1 : ∀ a, a < 2 → ∀ b, b < 2 → a ≠ b → (TX1 a).2.1 ≠ (TX1 b).2.1 := by decide +kernel
theorem tyX1_ok : ∀ k, k < 2 → parseFieldDescriptor (TX1 k).2.2.1 = some (tyX1 k) := by decide +kernel
abbrev cX1_init : ByteArray := prog_3_method_1_code
def yX1_init : MethodName := ⟨RX1, "<init>", "()V"⟩
abbrev cX1_keep : ByteArray := prog_3_method_2_code
def yX1_keep : MethodName := ⟨RX1, "keep", "(LFallingRules$State;)V"⟩
abbrev cX1_giveBack : ByteArray := prog_3_method_3_code
def yX1_giveBack : MethodName := ⟨RX1, "giveBack", "(LFallingRules$State;)V"⟩
abbrev cX1_loseOldest : ByteArray := prog_3_method_4_code
def yX1_loseOldest : MethodName := ⟨RX1, "loseOldest", "()V"⟩
def RX2 : String := "FallingRules$Reader"
def TX2 : u_T := fun k => match k with
  | 0 => ("FallingRules$Reader", "text", "[I", true)
  | 1 => ("FallingRules$Reader", "missing", "[I", true)
  | 2 => ("FallingRules$Reader", "length", "I", false)
  | 3 => ("FallingRules$Reader", "at", "I", false)
  | _ => ("FallingRules$Reader", "depth", "I", false)
def tyX2 : Nat → FieldType := fun k => match k with
  | 0 => .array .int
  | 1 => .array .int
  | 2 => .int
  | 3 => .int
  | _ => .int
abbrev wsX20 : List Cond := u_ws RX2 TX2 5
theorem nmX2 : ∀ a, a < 5 → ∀ b, b < 5 → a ≠ b → (TX2 a).2.1 ≠ (TX2 b).2.1 := by decide +kernel
theorem tyX2_ok : ∀ k, k < 5 → parseFieldDescriptor (TX2 k).2.2.1 = some (tyX2 k) := by decide +kernel
abbrev cX2_init : ByteArray := prog_4_method_1_code
def yX2_init : MethodName := ⟨RX2, "<init>", "()V"⟩
abbrev cX2_append : ByteArray := prog_4_method_2_code
def yX2_append : MethodName := ⟨RX2, "append", "(I)V"⟩
abbrev cX2_readRules : ByteArray := prog_4_method_3_code
def yX2_readRules : MethodName := ⟨RX2, "readRules", "(LFallingRules$State;)I"⟩
abbrev cX2_readWhole : ByteArray := prog_4_method_4_code
def yX2_readWhole : MethodName := ⟨RX2, "readWhole", "(LFallingRules$Term;)Z"⟩
abbrev cX2_readRule : ByteArray := prog_4_method_5_code
def yX2_readRule : MethodName := ⟨RX2, "readRule", "(LFallingRules$Rule;)Z"⟩
abbrev cX2_readTerm : ByteArray := prog_4_method_6_code
def yX2_readTerm : MethodName := ⟨RX2, "readTerm", "(LFallingRules$Term;III)Z"⟩
abbrev cX2_readLetter : ByteArray := prog_4_method_7_code
def yX2_readLetter : MethodName := ⟨RX2, "readLetter", "(LFallingRules$Term;I)Z"⟩
abbrev cX2_opens : ByteArray := prog_4_method_8_code
def yX2_opens : MethodName := ⟨RX2, "opens", "(I)Z"⟩
abbrev cX2_closes : ByteArray := prog_4_method_9_code
def yX2_closes : MethodName := ⟨RX2, "closes", "()Z"⟩
abbrev cX2_takes : ByteArray := prog_4_method_10_code
def yX2_takes : MethodName := ⟨RX2, "takes", "(I)Z"⟩
abbrev cX2_skipBlanks : ByteArray := prog_4_method_11_code
def yX2_skipBlanks : MethodName := ⟨RX2, "skipBlanks", "()V"⟩
def RX3 : String := "FallingRules$Rule"
def TX3 : u_T := fun k => match k with
  | 0 => ("FallingRules$Rule", "left", "LFallingRules$Term;", true)
  | _ => ("FallingRules$Rule", "right", "LFallingRules$Term;", true)
def tyX3 : Nat → FieldType := fun k => match k with
  | 0 => .object "FallingRules$Term"
  | _ => .object "FallingRules$Term"
abbrev wsX30 : List Cond := u_ws RX3 TX3 2
theorem nmX3 : ∀ a, a < 2 → ∀ b, b < 2 → a ≠ b → (TX3 a).2.1 ≠ (TX3 b).2.1 := by decide +kernel
theorem tyX3_ok : ∀ k, k < 2 → parseFieldDescriptor (TX3 k).2.2.1 = some (tyX3 k) := by decide +kernel
abbrev cX3_init : ByteArray := prog_5_method_1_code
def yX3_init : MethodName := ⟨RX3, "<init>", "()V"⟩
abbrev cX3_copyFrom : ByteArray := prog_5_method_2_code
def yX3_copyFrom : MethodName := ⟨RX3, "copyFrom", "(LFallingRules$Rule;)V"⟩
def RX4 : String := "FallingRules$Scales"
def TX4 : u_T := fun k => match k with
  | 0 => ("FallingRules$Scales", "left", "LFallingRules$Shares;", true)
  | 1 => ("FallingRules$Scales", "right", "LFallingRules$Shares;", true)
  | 2 => ("FallingRules$Scales", "rows", "[I", true)
  | 3 => ("FallingRules$Scales", "totals", "[J", true)
  | _ => ("FallingRules$Scales", "rowCount", "I", false)
def tyX4 : Nat → FieldType := fun k => match k with
  | 0 => .object "FallingRules$Shares"
  | 1 => .object "FallingRules$Shares"
  | 2 => .array .int
  | 3 => .array .long
  | _ => .int
abbrev wsX40 : List Cond := u_ws RX4 TX4 5
theorem nmX4 : ∀ a, a < 5 → ∀ b, b < 5 → a ≠ b → (TX4 a).2.1 ≠ (TX4 b).2.1 := by decide +kernel
theorem tyX4_ok : ∀ k, k < 5 → parseFieldDescriptor (TX4 k).2.2.1 = some (tyX4 k) := by decide +kernel
abbrev cX4_init : ByteArray := prog_6_method_1_code
def yX4_init : MethodName := ⟨RX4, "<init>", "()V"⟩
abbrev cX4_compareSides : ByteArray := prog_6_method_2_code
def yX4_compareSides : MethodName := ⟨RX4, "compareSides", "(LFallingRules$Rule;[I)I"⟩
abbrev cX4_weightLeftOver : ByteArray := prog_6_method_3_code
def yX4_weightLeftOver : MethodName := ⟨RX4, "weightLeftOver", "(LFallingRules$Term;[I)I"⟩
abbrev cX4_totalAt : ByteArray := prog_6_method_4_code
def yX4_totalAt : MethodName := ⟨RX4, "totalAt", "(LFallingRules$Term;I)J"⟩
abbrev cX4_leastWeights : ByteArray := prog_6_method_5_code
def yX4_leastWeights : MethodName := ⟨RX4, "leastWeights", "(LFallingRules$State;LFallingRules$CallBook;I)I"⟩
abbrev cX4_fillRows : ByteArray := prog_6_method_6_code
def yX4_fillRows : MethodName := ⟨RX4, "fillRows", "(LFallingRules$State;LFallingRules$CallBook;IIII)Z"⟩
abbrev cX4_addCallRows : ByteArray := prog_6_method_7_code
def yX4_addCallRows : MethodName := ⟨RX4, "addCallRows", "(LFallingRules$CallBook;II)Z"⟩
abbrev cX4_addRow : ByteArray := prog_6_method_8_code
def yX4_addRow : MethodName := ⟨RX4, "addRow", "(II)Z"⟩
abbrev cX4_leastByRows : ByteArray := prog_6_method_9_code
def yX4_leastByRows : MethodName := ⟨RX4, "leastByRows", "(III)I"⟩
abbrev cX4_meetsRows : ByteArray := prog_6_method_10_code
def yX4_meetsRows : MethodName := ⟨RX4, "meetsRows", "(IIII)Z"⟩
abbrev cX4_sumOfRow : ByteArray := prog_6_method_11_code
def yX4_sumOfRow : MethodName := ⟨RX4, "sumOfRow", "(IIIII)I"⟩
def RX5 : String := "FallingRules$Script"
def TX5 : u_T := fun k => match k with
  | 0 => ("FallingRules$Script", "bytes", "[I", true)
  | _ => ("FallingRules$Script", "size", "I", false)
def tyX5 : Nat → FieldType := fun k => match k with
  | 0 => .array .int
  | _ => .int
abbrev wsX50 : List Cond := u_ws RX5 TX5 2
theorem nmX5 : ∀ a, a < 2 → ∀ b, b < 2 → a ≠ b → (TX5 a).2.1 ≠ (TX5 b).2.1 := by decide +kernel
theorem tyX5_ok : ∀ k, k < 2 → parseFieldDescriptor (TX5 k).2.2.1 = some (tyX5 k) := by decide +kernel
abbrev cX5_init : ByteArray := prog_7_method_1_code
def yX5_init : MethodName := ⟨RX5, "<init>", "()V"⟩
abbrev cX5_writeRule : ByteArray := prog_7_method_2_code
def yX5_writeRule : MethodName := ⟨RX5, "writeRule", "(LFallingRules$Rule;)V"⟩
abbrev cX5_writeSide : ByteArray := prog_7_method_3_code
def yX5_writeSide : MethodName := ⟨RX5, "writeSide", "(LFallingRules$Term;)V"⟩
abbrev cX5_writeBehind : ByteArray := prog_7_method_4_code
def yX5_writeBehind : MethodName := ⟨RX5, "writeBehind", "(LFallingRules$Term;I)V"⟩
abbrev cX5_put : ByteArray := prog_7_method_5_code
def yX5_put : MethodName := ⟨RX5, "put", "(I)V"⟩
def RX6 : String := "FallingRules$Shares"
def TX6 : u_T := fun k => match k with
  | _ => ("FallingRules$Shares", "times", "[I", true)
def tyX6 : Nat → FieldType := fun k => match k with
  | _ => .array .int
abbrev wsX60 : List Cond := u_ws RX6 TX6 1
theorem nmX6 : ∀ a, a < 1 → ∀ b, b < 1 → a ≠ b → (TX6 a).2.1 ≠ (TX6 b).2.1 := by decide +kernel
theorem tyX6_ok : ∀ k, k < 1 → parseFieldDescriptor (TX6 k).2.2.1 = some (tyX6 k) := by decide +kernel
abbrev cX6_init : ByteArray := prog_8_method_1_code
def yX6_init : MethodName := ⟨RX6, "<init>", "()V"⟩
abbrev cX6_countIn : ByteArray := prog_8_method_2_code
def yX6_countIn : MethodName := ⟨RX6, "countIn", "(LFallingRules$Term;III)V"⟩
abbrev cX6_addPart : ByteArray := prog_8_method_3_code
def yX6_addPart : MethodName := ⟨RX6, "addPart", "(III)V"⟩
def RX7 : String := "FallingRules$State"
def TX7 : u_T := fun k => match k with
  | 0 => ("FallingRules$State", "rules", "[LFallingRules$Rule;", true)
  | 1 => ("FallingRules$State", "whole", "LFallingRules$Term;", true)
  | _ => ("FallingRules$State", "count", "I", false)
def tyX7 : Nat → FieldType := fun k => match k with
  | 0 => .array (.object "FallingRules$Rule")
  | 1 => .object "FallingRules$Term"
  | _ => .int
abbrev wsX70 : List Cond := u_ws RX7 TX7 3
theorem nmX7 : ∀ a, a < 3 → ∀ b, b < 3 → a ≠ b → (TX7 a).2.1 ≠ (TX7 b).2.1 := by decide +kernel
theorem tyX7_ok : ∀ k, k < 3 → parseFieldDescriptor (TX7 k).2.2.1 = some (tyX7 k) := by decide +kernel
abbrev cX7_init : ByteArray := prog_9_method_1_code
def yX7_init : MethodName := ⟨RX7, "<init>", "()V"⟩
abbrev cX7_copyFrom : ByteArray := prog_9_method_2_code
def yX7_copyFrom : MethodName := ⟨RX7, "copyFrom", "(LFallingRules$State;)V"⟩
abbrev cX7_removeRule : ByteArray := prog_9_method_3_code
def yX7_removeRule : MethodName := ⟨RX7, "removeRule", "(I)V"⟩
abbrev cX7_moveToFront : ByteArray := prog_9_method_4_code
def yX7_moveToFront : MethodName := ⟨RX7, "moveToFront", "(I)V"⟩
def RX8 : String := "FallingRules$Term"
def TX8 : u_T := fun k => match k with
  | 0 => ("FallingRules$Term", "letters", "[I", true)
  | 1 => ("FallingRules$Term", "ends", "[I", true)
  | _ => ("FallingRules$Term", "size", "I", false)
def tyX8 : Nat → FieldType := fun k => match k with
  | 0 => .array .int
  | 1 => .array .int
  | _ => .int
abbrev wsX80 : List Cond := u_ws RX8 TX8 3
theorem nmX8 : ∀ a, a < 3 → ∀ b, b < 3 → a ≠ b → (TX8 a).2.1 ≠ (TX8 b).2.1 := by decide +kernel
theorem tyX8_ok : ∀ k, k < 3 → parseFieldDescriptor (TX8 k).2.2.1 = some (tyX8 k) := by decide +kernel
abbrev cX8_init : ByteArray := prog_10_method_1_code
def yX8_init : MethodName := ⟨RX8, "<init>", "(I)V"⟩
abbrev cX8_startAs : ByteArray := prog_10_method_2_code
def yX8_startAs : MethodName := ⟨RX8, "startAs", "(I)V"⟩
abbrev cX8_addLetter : ByteArray := prog_10_method_3_code
def yX8_addLetter : MethodName := ⟨RX8, "addLetter", "(I)V"⟩
abbrev cX8_addPart : ByteArray := prog_10_method_4_code
def yX8_addPart : MethodName := ⟨RX8, "addPart", "(LFallingRules$Term;I)V"⟩
abbrev cX8_findEnds : ByteArray := prog_10_method_5_code
def yX8_findEnds : MethodName := ⟨RX8, "findEnds", "()V"⟩
abbrev cX8_copyFrom : ByteArray := prog_10_method_6_code
def yX8_copyFrom : MethodName := ⟨RX8, "copyFrom", "(LFallingRules$Term;)V"⟩
abbrev cX8_partSize : ByteArray := prog_10_method_7_code
def yX8_partSize : MethodName := ⟨RX8, "partSize", "(I)I"⟩
abbrev cX8_sameParts : ByteArray := prog_10_method_8_code
def yX8_sameParts : MethodName := ⟨RX8, "sameParts", "(II)Z"⟩
abbrev cX8_unknowns : ByteArray := prog_10_method_9_code
def yX8_unknowns : MethodName := ⟨RX8, "unknowns", "()I"⟩
def RX9 : String := "FallingRules$Turner"
def TX9 : u_T := fun k => match k with
  | 0 => ("FallingRules$Turner", "built", "LFallingRules$Term;", true)
  | 1 => ("FallingRules$Turner", "bound", "[I", true)
  | 2 => ("FallingRules$Turner", "at", "I", false)
  | _ => ("FallingRules$Turner", "rule", "I", false)
def tyX9 : Nat → FieldType := fun k => match k with
  | 0 => .object "FallingRules$Term"
  | 1 => .array .int
  | 2 => .int
  | _ => .int
abbrev wsX90 : List Cond := u_ws RX9 TX9 4
theorem nmX9 : ∀ a, a < 4 → ∀ b, b < 4 → a ≠ b → (TX9 a).2.1 ≠ (TX9 b).2.1 := by decide +kernel
theorem tyX9_ok : ∀ k, k < 4 → parseFieldDescriptor (TX9 k).2.2.1 = some (tyX9 k) := by decide +kernel
abbrev cX9_init : ByteArray := prog_11_method_1_code
def yX9_init : MethodName := ⟨RX9, "<init>", "()V"⟩
abbrev cX9_turnMany : ByteArray := prog_11_method_2_code
def yX9_turnMany : MethodName := ⟨RX9, "turnMany", "(LFallingRules$State;LFallingRules$Term;I)I"⟩
abbrev cX9_seek : ByteArray := prog_11_method_3_code
def yX9_seek : MethodName := ⟨RX9, "seek", "(LFallingRules$State;LFallingRules$Term;)Z"⟩
abbrev cX9_leastRuleAt : ByteArray := prog_11_method_4_code
def yX9_leastRuleAt : MethodName := ⟨RX9, "leastRuleAt", "(LFallingRules$State;LFallingRules$Term;I)I"⟩
abbrev cX9_fits : ByteArray := prog_11_method_5_code
def yX9_fits : MethodName := ⟨RX9, "fits", "(LFallingRules$Term;LFallingRules$Term;I)Z"⟩
abbrev cX9_build : ByteArray := prog_11_method_6_code
def yX9_build : MethodName := ⟨RX9, "build", "(LFallingRules$Rule;LFallingRules$Term;)Z"⟩
abbrev cX9_sizeBehind : ByteArray := prog_11_method_7_code
def yX9_sizeBehind : MethodName := ⟨RX9, "sizeBehind", "(LFallingRules$Term;LFallingRules$Term;)I"⟩
def RX10 : String := "FallingRules"
def TX10 : u_T := fun k => match k with
  | 0 => ("FallingRules", "now", "LFallingRules$State;", true)
  | 1 => ("FallingRules", "history", "LFallingRules$History;", true)
  | 2 => ("FallingRules", "reader", "LFallingRules$Reader;", true)
  | 3 => ("FallingRules", "script", "LFallingRules$Script;", true)
  | 4 => ("FallingRules", "book", "LFallingRules$CallBook;", true)
  | 5 => ("FallingRules", "scales", "LFallingRules$Scales;", true)
  | 6 => ("FallingRules", "turner", "LFallingRules$Turner;", true)
  | 7 => ("FallingRules", "spare", "LFallingRules$Term;", true)
  | 8 => ("FallingRules", "figures", "[I", true)
  | 9 => ("FallingRules", "bookIsRight", "Z", false)
  | 10 => ("FallingRules", "ringsAreWeighed", "Z", false)
  | 11 => ("FallingRules", "fallFound", "I", false)
  | 12 => ("FallingRules", "timesBad", "I", false)
  | 13 => ("FallingRules", "timesNo", "I", false)
  | _ => ("FallingRules", "timesFull", "I", false)
def tyX10 : Nat → FieldType := fun k => match k with
  | 0 => .object "FallingRules$State"
  | 1 => .object "FallingRules$History"
  | 2 => .object "FallingRules$Reader"
  | 3 => .object "FallingRules$Script"
  | 4 => .object "FallingRules$CallBook"
  | 5 => .object "FallingRules$Scales"
  | 6 => .object "FallingRules$Turner"
  | 7 => .object "FallingRules$Term"
  | 8 => .array .int
  | 9 => .boolean
  | 10 => .boolean
  | 11 => .int
  | 12 => .int
  | 13 => .int
  | _ => .int
abbrev wsX100 : List Cond := u_ws RX10 TX10 15
theorem nmX10 : ∀ a, a < 15 → ∀ b, b < 15 → a ≠ b → (TX10 a).2.1 ≠ (TX10 b).2.1 := by decide +kernel
theorem tyX10_ok : ∀ k, k < 15 → parseFieldDescriptor (TX10 k).2.2.1 = some (tyX10 k) := by decide +kernel
abbrev cX10_init : ByteArray := prog_1_method_1_code
def yX10_init : MethodName := ⟨RX10, "<init>", "()V"⟩
abbrev cX10_type : ByteArray := prog_1_method_2_code
def yX10_type : MethodName := ⟨RX10, "type", "(I)I"⟩
abbrev cX10_clear : ByteArray := prog_1_method_3_code
def yX10_clear : MethodName := ⟨RX10, "clear", "()I"⟩
abbrev cX10_reads : ByteArray := prog_1_method_4_code
def yX10_reads : MethodName := ⟨RX10, "reads", "()I"⟩
abbrev cX10_term : ByteArray := prog_1_method_5_code
def yX10_term : MethodName := ⟨RX10, "term", "()I"⟩
abbrev cX10_drops : ByteArray := prog_1_method_6_code
def yX10_drops : MethodName := ⟨RX10, "drops", "(I)I"⟩
abbrev cX10_first : ByteArray := prog_1_method_7_code
def yX10_first : MethodName := ⟨RX10, "first", "(I)I"⟩
abbrev cX10_of : ByteArray := prog_1_method_8_code
def yX10_of : MethodName := ⟨RX10, "of", "(II)I"⟩
abbrev cX10_shown : ByteArray := prog_1_method_9_code
def yX10_shown : MethodName := ⟨RX10, "shown", "(II)I"⟩
abbrev cX10_fall : ByteArray := prog_1_method_10_code
def yX10_fall : MethodName := ⟨RX10, "fall", "()I"⟩
abbrev cX10_weighs : ByteArray := prog_1_method_11_code
def yX10_weighs : MethodName := ⟨RX10, "weighs", "(II)I"⟩
abbrev cX10_weight : ByteArray := prog_1_method_12_code
def yX10_weight : MethodName := ⟨RX10, "weight", "(I)I"⟩
abbrev cX10_calls : ByteArray := prog_1_method_13_code
def yX10_calls : MethodName := ⟨RX10, "calls", "(I)I"⟩
abbrev cX10_call : ByteArray := prog_1_method_14_code
def yX10_call : MethodName := ⟨RX10, "call", "(II)I"⟩
abbrev cX10_follows : ByteArray := prog_1_method_15_code
def yX10_follows : MethodName := ⟨RX10, "follows", "(II)I"⟩
abbrev cX10_lighter : ByteArray := prog_1_method_16_code
def yX10_lighter : MethodName := ⟨RX10, "lighter", "(I)I"⟩
abbrev cX10_turns : ByteArray := prog_1_method_17_code
def yX10_turns : MethodName := ⟨RX10, "turns", "(I)I"⟩
abbrev cX10_settles : ByteArray := prog_1_method_18_code
def yX10_settles : MethodName := ⟨RX10, "settles", "()I"⟩
abbrev cX10_next : ByteArray := prog_1_method_19_code
def yX10_next : MethodName := ⟨RX10, "next", "(I)I"⟩
abbrev cX10_letter : ByteArray := prog_1_method_20_code
def yX10_letter : MethodName := ⟨RX10, "letter", "(I)I"⟩
abbrev cX10_back : ByteArray := prog_1_method_21_code
def yX10_back : MethodName := ⟨RX10, "back", "()I"⟩
abbrev cX10_told : ByteArray := prog_1_method_22_code
def yX10_told : MethodName := ⟨RX10, "told", "(I)I"⟩
abbrev cX10_digest : ByteArray := prog_1_method_23_code
def yX10_digest : MethodName := ⟨RX10, "digest", "()J"⟩
abbrev cX10_refuseBad : ByteArray := prog_1_method_24_code
def yX10_refuseBad : MethodName := ⟨RX10, "refuseBad", "()I"⟩
abbrev cX10_isRule : ByteArray := prog_1_method_25_code
def yX10_isRule : MethodName := ⟨RX10, "isRule", "(I)Z"⟩
abbrev cX10_forgetFindings : ByteArray := prog_1_method_26_code
def yX10_forgetFindings : MethodName := ⟨RX10, "forgetFindings", "()V"⟩
abbrev cX10_keepBookRight : ByteArray := prog_1_method_27_code
def yX10_keepBookRight : MethodName := ⟨RX10, "keepBookRight", "()V"⟩
abbrev cX10_weighRings : ByteArray := prog_1_method_28_code
def yX10_weighRings : MethodName := ⟨RX10, "weighRings", "()V"⟩
abbrev cX10_splitFigures : ByteArray := prog_1_method_29_code
def yX10_splitFigures : MethodName := ⟨RX10, "splitFigures", "(I)Z"⟩
abbrev cX10_hasBit : ByteArray := prog_1_method_30_code
def yX10_hasBit : MethodName := ⟨RX10, "hasBit", "(JI)Z"⟩
abbrev cX10_unknownBit : ByteArray := prog_1_method_31_code
def yX10_unknownBit : MethodName := ⟨RX10, "unknownBit", "(I)I"⟩
abbrev cX10_isUnknown : ByteArray := prog_1_method_32_code
def yX10_isUnknown : MethodName := ⟨RX10, "isUnknown", "(I)Z"⟩
abbrev cX10_partsBehind : ByteArray := prog_1_method_33_code
def yX10_partsBehind : MethodName := ⟨RX10, "partsBehind", "(I)I"⟩
abbrev cX10_slotOf : ByteArray := prog_1_method_34_code
def yX10_slotOf : MethodName := ⟨RX10, "slotOf", "(I)I"⟩
def RX11 : String := "FallingRulesModel"
def TX11 : u_T := fun k => match k with
  | 0 => ("FallingRulesModel", "now", "[I", true)
  | 1 => ("FallingRulesModel", "read", "[I", true)
  | 2 => ("FallingRulesModel", "past", "[I", true)
  | 3 => ("FallingRulesModel", "states", "I", false)
  | 4 => ("FallingRulesModel", "refusals", "[I", true)
  | 5 => ("FallingRulesModel", "text", "[I", true)
  | 6 => ("FallingRulesModel", "bytes", "I", false)
  | 7 => ("FallingRulesModel", "spot", "I", false)
  | 8 => ("FallingRulesModel", "due", "[I", true)
  | 9 => ("FallingRulesModel", "dueMany", "I", false)
  | 10 => ("FallingRulesModel", "written", "[I", true)
  | 11 => ("FallingRulesModel", "writtenMany", "I", false)
  | 12 => ("FallingRulesModel", "figures", "[I", true)
  | 13 => ("FallingRulesModel", "plain", "[J", true)
  | 14 => ("FallingRulesModel", "byX", "[J", true)
  | 15 => ("FallingRulesModel", "byY", "[J", true)
  | 16 => ("FallingRulesModel", "callRule", "[I", true)
  | 17 => ("FallingRulesModel", "callAt", "[I", true)
  | 18 => ("FallingRulesModel", "callMany", "I", false)
  | 19 => ("FallingRulesModel", "follow", "[Z", true)
  | 20 => ("FallingRulesModel", "reach", "[Z", true)
  | 21 => ("FallingRulesModel", "ring", "[I", true)
  | 22 => ("FallingRulesModel", "ringMany", "I", false)
  | 23 => ("FallingRulesModel", "turned", "[I", true)
  | 24 => ("FallingRulesModel", "turnedMany", "I", false)
  | 25 => ("FallingRulesModel", "made", "[I", true)
  | 26 => ("FallingRulesModel", "boundAt", "[I", true)
  | 27 => ("FallingRulesModel", "boundLong", "[I", true)
  | 28 => ("FallingRulesModel", "turnRule", "I", false)
  | 29 => ("FallingRulesModel", "turnAt", "I", false)
  | 30 => ("FallingRulesModel", "madeMany", "I", false)
  | _ => ("FallingRulesModel", "hash", "J", false)
def tyX11 : Nat → FieldType := fun k => match k with
  | 0 => .array .int
  | 1 => .array .int
  | 2 => .array .int
  | 3 => .int
  | 4 => .array .int
  | 5 => .array .int
  | 6 => .int
  | 7 => .int
  | 8 => .array .int
  | 9 => .int
  | 10 => .array .int
  | 11 => .int
  | 12 => .array .int
  | 13 => .array .long
  | 14 => .array .long
  | 15 => .array .long
  | 16 => .array .int
  | 17 => .array .int
  | 18 => .int
  | 19 => .array .boolean
  | 20 => .array .boolean
  | 21 => .array .int
  | 22 => .int
  | 23 => .array .int
  | 24 => .int
  | 25 => .array .int
  | 26 => .array .int
  | 27 => .array .int
  | 28 => .int
  | 29 => .int
  | 30 => .int
  | _ => .long
abbrev wsX110 : List Cond := u_ws RX11 TX11 32
theorem nmX11 : ∀ a, a < 32 → ∀ b, b < 32 → a ≠ b → (TX11 a).2.1 ≠ (TX11 b).2.1 := by decide +kernel
theorem tyX11_ok : ∀ k, k < 32 → parseFieldDescriptor (TX11 k).2.2.1 = some (tyX11 k) := by decide +kernel
abbrev cX11_init : ByteArray := prog_13_method_1_code
def yX11_init : MethodName := ⟨RX11, "<init>", "()V"⟩
abbrev cX11_in : ByteArray := prog_13_method_3_code
def yX11_in : MethodName := ⟨RX11, "in", "(III)Z"⟩
abbrev cX11_refuses : ByteArray := prog_13_method_4_code
def yX11_refuses : MethodName := ⟨RX11, "refuses", "(I)I"⟩
abbrev cX11_copies : ByteArray := prog_13_method_5_code
def yX11_copies : MethodName := ⟨RX11, "copies", "([II[II)V"⟩
abbrev cX11_remembers : ByteArray := prog_13_method_6_code
def yX11_remembers : MethodName := ⟨RX11, "remembers", "()V"⟩
abbrev cX11_back : ByteArray := prog_13_method_7_code
def yX11_back : MethodName := ⟨RX11, "back", "()I"⟩
abbrev cX11_wants : ByteArray := prog_13_method_8_code
def yX11_wants : MethodName := ⟨RX11, "wants", "(I)I"⟩
abbrev cX11_isUnknown : ByteArray := prog_13_method_9_code
def yX11_isUnknown : MethodName := ⟨RX11, "isUnknown", "(I)Z"⟩
abbrev cX11_longAt : ByteArray := prog_13_method_10_code
def yX11_longAt : MethodName := ⟨RX11, "longAt", "([II)I"⟩
abbrev cX11_leftOf : ByteArray := prog_13_method_11_code
def yX11_leftOf : MethodName := ⟨RX11, "leftOf", "(I)I"⟩
abbrev cX11_rightOf : ByteArray := prog_13_method_12_code
def yX11_rightOf : MethodName := ⟨RX11, "rightOf", "(I)I"⟩
abbrev cX11_leftLong : ByteArray := prog_13_method_13_code
def yX11_leftLong : MethodName := ⟨RX11, "leftLong", "([II)I"⟩
abbrev cX11_rightLong : ByteArray := prog_13_method_14_code
def yX11_rightLong : MethodName := ⟨RX11, "rightLong", "([II)I"⟩
abbrev cX11_unknowns : ByteArray := prog_13_method_15_code
def yX11_unknowns : MethodName := ⟨RX11, "unknowns", "([III)I"⟩
abbrev cX11_wantsMore : ByteArray := prog_13_method_16_code
def yX11_wantsMore : MethodName := ⟨RX11, "wantsMore", "(I)V"⟩
abbrev cX11_blanks : ByteArray := prog_13_method_17_code
def yX11_blanks : MethodName := ⟨RX11, "blanks", "()V"⟩
abbrev cX11_isLetter : ByteArray := prog_13_method_18_code
def yX11_isLetter : MethodName := ⟨RX11, "isLetter", "(I)Z"⟩
abbrev cX11_opens : ByteArray := prog_13_method_19_code
def yX11_opens : MethodName := ⟨RX11, "opens", "(I)V"⟩
abbrev cX11_takesTerm : ByteArray := prog_13_method_20_code
def yX11_takesTerm : MethodName := ⟨RX11, "takesTerm", "(III)I"⟩
abbrev cX11_takesSign : ByteArray := prog_13_method_21_code
def yX11_takesSign : MethodName := ⟨RX11, "takesSign", "(I)Z"⟩
abbrev cX11_takesRule : ByteArray := prog_13_method_22_code
def yX11_takesRule : MethodName := ⟨RX11, "takesRule", "()Z"⟩
abbrev cX11_readsRules : ByteArray := prog_13_method_23_code
def yX11_readsRules : MethodName := ⟨RX11, "readsRules", "()I"⟩
abbrev cX11_readsTerm : ByteArray := prog_13_method_24_code
def yX11_readsTerm : MethodName := ⟨RX11, "readsTerm", "()I"⟩
abbrev cX11_type : ByteArray := prog_13_method_25_code
def yX11_type : MethodName := ⟨RX11, "type", "(I)I"⟩
abbrev cX11_clear : ByteArray := prog_13_method_26_code
def yX11_clear : MethodName := ⟨RX11, "clear", "()I"⟩
abbrev cX11_reads : ByteArray := prog_13_method_27_code
def yX11_reads : MethodName := ⟨RX11, "reads", "()I"⟩
abbrev cX11_term : ByteArray := prog_13_method_28_code
def yX11_term : MethodName := ⟨RX11, "term", "()I"⟩
abbrev cX11_isRule : ByteArray := prog_13_method_29_code
def yX11_isRule : MethodName := ⟨RX11, "isRule", "(I)Z"⟩
abbrev cX11_movesRule : ByteArray := prog_13_method_30_code
def yX11_movesRule : MethodName := ⟨RX11, "movesRule", "(II)V"⟩
abbrev cX11_drops : ByteArray := prog_13_method_31_code
def yX11_drops : MethodName := ⟨RX11, "drops", "(I)I"⟩
abbrev cX11_first : ByteArray := prog_13_method_32_code
def yX11_first : MethodName := ⟨RX11, "first", "(I)I"⟩
abbrev cX11_heads : ByteArray := prog_13_method_33_code
def yX11_heads : MethodName := ⟨RX11, "heads", "()I"⟩
abbrev cX11_isHead : ByteArray := prog_13_method_34_code
def yX11_isHead : MethodName := ⟨RX11, "isHead", "(I)Z"⟩
abbrev cX11_ruleTold : ByteArray := prog_13_method_35_code
def yX11_ruleTold : MethodName := ⟨RX11, "ruleTold", "(II)I"⟩
abbrev cX11_of : ByteArray := prog_13_method_36_code
def yX11_of : MethodName := ⟨RX11, "of", "(II)I"⟩
abbrev cX11_writes : ByteArray := prog_13_method_37_code
def yX11_writes : MethodName := ⟨RX11, "writes", "(I)V"⟩
abbrev cX11_writesTerm : ByteArray := prog_13_method_38_code
def yX11_writesTerm : MethodName := ⟨RX11, "writesTerm", "(II)V"⟩
abbrev cX11_shown : ByteArray := prog_13_method_39_code
def yX11_shown : MethodName := ⟨RX11, "shown", "(II)I"⟩
abbrev cX11_laysFigures : ByteArray := prog_13_method_40_code
def yX11_laysFigures : MethodName := ⟨RX11, "laysFigures", "(II)Z"⟩
abbrev cX11_weighsTerm : ByteArray := prog_13_method_41_code
def yX11_weighsTerm : MethodName := ⟨RX11, "weighsTerm", "([III)V"⟩
abbrev cX11_compares : ByteArray := prog_13_method_42_code
def yX11_compares : MethodName := ⟨RX11, "compares", "(IIII)I"⟩
abbrev cX11_comparesRule : ByteArray := prog_13_method_43_code
def yX11_comparesRule : MethodName := ⟨RX11, "comparesRule", "(I)I"⟩
abbrev cX11_goesOn : ByteArray := prog_13_method_44_code
def yX11_goesOn : MethodName := ⟨RX11, "goesOn", "(II)Z"⟩
abbrev cX11_numberOf : ByteArray := prog_13_method_45_code
def yX11_numberOf : MethodName := ⟨RX11, "numberOf", "()I"⟩
abbrev cX11_areAll : ByteArray := prog_13_method_46_code
def yX11_areAll : MethodName := ⟨RX11, "areAll", "(I)Z"⟩
abbrev cX11_fall : ByteArray := prog_13_method_47_code
def yX11_fall : MethodName := ⟨RX11, "fall", "()I"⟩
abbrev cX11_weighs : ByteArray := prog_13_method_48_code
def yX11_weighs : MethodName := ⟨RX11, "weighs", "(II)I"⟩
abbrev cX11_weight : ByteArray := prog_13_method_49_code
def yX11_weight : MethodName := ⟨RX11, "weight", "(I)I"⟩
abbrev cX11_mayFollow : ByteArray := prog_13_method_50_code
def yX11_mayFollow : MethodName := ⟨RX11, "mayFollow", "(II)Z"⟩
abbrev cX11_laysRings : ByteArray := prog_13_method_51_code
def yX11_laysRings : MethodName := ⟨RX11, "laysRings", "()V"⟩
abbrev cX11_laysCalls : ByteArray := prog_13_method_52_code
def yX11_laysCalls : MethodName := ⟨RX11, "laysCalls", "()V"⟩
abbrev cX11_isLighter : ByteArray := prog_13_method_53_code
def yX11_isLighter : MethodName := ⟨RX11, "isLighter", "(I)Z"⟩
abbrev cX11_lighterOf : ByteArray := prog_13_method_54_code
def yX11_lighterOf : MethodName := ⟨RX11, "lighterOf", "(I)I"⟩
abbrev cX11_callsTold : ByteArray := prog_13_method_55_code
def yX11_callsTold : MethodName := ⟨RX11, "callsTold", "(I)I"⟩
abbrev cX11_calls : ByteArray := prog_13_method_56_code
def yX11_calls : MethodName := ⟨RX11, "calls", "(I)I"⟩
abbrev cX11_callTold : ByteArray := prog_13_method_57_code
def yX11_callTold : MethodName := ⟨RX11, "callTold", "(II)I"⟩
abbrev cX11_call : ByteArray := prog_13_method_58_code
def yX11_call : MethodName := ⟨RX11, "call", "(II)I"⟩
abbrev cX11_follows : ByteArray := prog_13_method_59_code
def yX11_follows : MethodName := ⟨RX11, "follows", "(II)I"⟩
abbrev cX11_lighter : ByteArray := prog_13_method_60_code
def yX11_lighter : MethodName := ⟨RX11, "lighter", "(I)I"⟩
abbrev cX11_laysTerm : ByteArray := prog_13_method_61_code
def yX11_laysTerm : MethodName := ⟨RX11, "laysTerm", "()V"⟩
abbrev cX11_binds : ByteArray := prog_13_method_62_code
def yX11_binds : MethodName := ⟨RX11, "binds", "(II)Z"⟩
abbrev cX11_fits : ByteArray := prog_13_method_63_code
def yX11_fits : MethodName := ⟨RX11, "fits", "(II)Z"⟩
abbrev cX11_ruleAt : ByteArray := prog_13_method_64_code
def yX11_ruleAt : MethodName := ⟨RX11, "ruleAt", "(I)I"⟩
abbrev cX11_findsTurn : ByteArray := prog_13_method_65_code
def yX11_findsTurn : MethodName := ⟨RX11, "findsTurn", "()Z"⟩
abbrev cX11_makes : ByteArray := prog_13_method_66_code
def yX11_makes : MethodName := ⟨RX11, "makes", "(II)V"⟩
abbrev cX11_doesTurn : ByteArray := prog_13_method_67_code
def yX11_doesTurn : MethodName := ⟨RX11, "doesTurn", "()Z"⟩
abbrev cX11_turns : ByteArray := prog_13_method_68_code
def yX11_turns : MethodName := ⟨RX11, "turns", "(I)I"⟩
abbrev cX11_settled : ByteArray := prog_13_method_69_code
def yX11_settled : MethodName := ⟨RX11, "settled", "()I"⟩
abbrev cX11_settles : ByteArray := prog_13_method_70_code
def yX11_settles : MethodName := ⟨RX11, "settles", "()I"⟩
abbrev cX11_nextOf : ByteArray := prog_13_method_71_code
def yX11_nextOf : MethodName := ⟨RX11, "nextOf", "(I)I"⟩
abbrev cX11_next : ByteArray := prog_13_method_72_code
def yX11_next : MethodName := ⟨RX11, "next", "(I)I"⟩
abbrev cX11_letter : ByteArray := prog_13_method_73_code
def yX11_letter : MethodName := ⟨RX11, "letter", "(I)I"⟩
abbrev cX11_toldOf : ByteArray := prog_13_method_74_code
def yX11_toldOf : MethodName := ⟨RX11, "toldOf", "(I)I"⟩
abbrev cX11_told : ByteArray := prog_13_method_75_code
def yX11_told : MethodName := ⟨RX11, "told", "(I)I"⟩
abbrev cX11_mix : ByteArray := prog_13_method_76_code
def yX11_mix : MethodName := ⟨RX11, "mix", "(J)V"⟩
abbrev cX11_digest : ByteArray := prog_13_method_77_code
def yX11_digest : MethodName := ⟨RX11, "digest", "()J"⟩
def RJ13 : String := "java/lang/Long"
abbrev cJ13_bitCount_95d88 : ByteArray := prog_14_method_50_code
def yJ13_bitCount_95d88 : MethodName := ⟨RJ13, "bitCount", "(J)I"⟩
def RJ9 : String := "java/lang/Math"
abbrev cJ9_max_7cf53 : ByteArray := prog_15_method_65_code
def yJ9_max_7cf53 : MethodName := ⟨RJ9, "max", "(II)I"⟩
abbrev cJ9_min_7cf53 : ByteArray := prog_15_method_69_code
def yJ9_min_7cf53 : MethodName := ⟨RJ9, "min", "(II)I"⟩
def RJ10 : String := "java/lang/System"
def RL : String := "FallingRulesLaw"
abbrev cL_law : ByteArray := code
def yL_law : MethodName := ⟨RL, "law", "([I)Z"⟩
abbrev vwCl : List vw_C := [(RX0, TX0, 11), (RX1, TX1, 2), (RX2, TX2, 5), (RX3, TX3, 2), (RX4, TX4, 5), (RX5, TX5, 2), (RX6, TX6, 1), (RX7, TX7, 3), (RX8, TX8, 3), (RX9, TX9, 4), (RX10, TX10, 15), (RX11, TX11, 32)]

def GW : List Cond := lw_tbl.filter goodWord
theorem inGW {w : Cond} (h : w ∈ lw_tbl) (g : goodWord w = true) : w ∈ GW := List.mem_filter.mpr ⟨h, g⟩
theorem GW_good {w : Cond} (h : w ∈ GW) : w ∈ GW ∧ ((w.onTables && w.keeps) = true ∨ ∃ ty, w = .arrayClass ty) := ⟨h, good_of_word (List.mem_filter.mp h).2⟩
theorem GW_in {w : Cond} (h : w ∈ GW) : w ∈ lw_tbl := (List.mem_filter.mp h).1
theorem inGW_l {ws : List Cond} (ps : List Nat) (hp : ws = ps.filterMap (fun i => lw_tbl[i]?)) (h : ws.all goodWord = true) : ∀ w ∈ ws, w ∈ GW := by
  intro w hw
  have h1 := List.all_eq_true.mp h w hw
  rw [hp] at hw
  obtain ⟨i, -, hi⟩ := List.mem_filterMap.mp hw
  exact inGW (List.mem_of_getElem? hi) h1
set_option maxRecDepth 20000 in
theorem inGX0 : ∀ w ∈ u_ws RX0 TX0 11, w ∈ GW := inGW_l [281, 283, 285, 287, 289, 291, 293, 295, 297, 299, 301] (by decide +kernel) (by decide +kernel)
set_option maxRecDepth 20000 in
theorem inGX1 : ∀ w ∈ u_ws RX1 TX1 2, w ∈ GW := inGW_l [209, 211] (by decide +kernel) (by decide +kernel)
set_option maxRecDepth 20000 in
theorem inGX2 : ∀ w ∈ u_ws RX2 TX2 5, w ∈ GW := inGW_l [227, 229, 231, 233, 235] (by decide +kernel) (by decide +kernel)
set_option maxRecDepth 20000 in
theorem inGX3 : ∀ w ∈ u_ws RX3 TX3 2, w ∈ GW := inGW_l [171, 173] (by decide +kernel) (by decide +kernel)
set_option maxRecDepth 20000 in
theorem inGX4 : ∀ w ∈ u_ws RX4 TX4 5, w ∈ GW := inGW_l [327, 329, 331, 333, 335] (by decide +kernel) (by decide +kernel)
set_option maxRecDepth 20000 in
theorem inGX5 : ∀ w ∈ u_ws RX5 TX5 2, w ∈ GW := inGW_l [248, 250] (by decide +kernel) (by decide +kernel)
set_option maxRecDepth 20000 in
theorem inGX6 : ∀ w ∈ u_ws RX6 TX6 1, w ∈ GW := inGW_l [319] (by decide +kernel) (by decide +kernel)
set_option maxRecDepth 20000 in
theorem inGX7 : ∀ w ∈ u_ws RX7 TX7 3, w ∈ GW := inGW_l [190, 192, 194] (by decide +kernel) (by decide +kernel)
set_option maxRecDepth 20000 in
theorem inGX8 : ∀ w ∈ u_ws RX8 TX8 3, w ∈ GW := inGW_l [142, 144, 146] (by decide +kernel) (by decide +kernel)
set_option maxRecDepth 20000 in
theorem inGX9 : ∀ w ∈ u_ws RX9 TX9 4, w ∈ GW := inGW_l [352, 354, 356, 358] (by decide +kernel) (by decide +kernel)
set_option maxRecDepth 20000 in
theorem inGX10 : ∀ w ∈ u_ws RX10 TX10 15, w ∈ GW := inGW_l [393, 395, 397, 399, 401, 403, 405, 407, 409, 411, 413, 415, 417, 419, 421] (by decide +kernel) (by decide +kernel)
set_option maxRecDepth 20000 in
theorem inGX11 : ∀ w ∈ u_ws RX11 TX11 32, w ∈ GW := inGW_l [848, 850, 852, 854, 856, 858, 860, 862, 864, 866, 868, 870, 872, 874, 876, 878, 880, 882, 884, 886, 888, 890, 892, 894, 896, 898, 900, 902, 904, 906, 908, 910] (by decide +kernel) (by decide +kernel)
end
section
theorem dX0_init_0 : decode cX0_init 0 = .ok (.aload_n 0, 1) := by decide +kernel
theorem dX0_init_1 : decode cX0_init 1 = .ok (.invokespecial 3, 3) := by decide +kernel
theorem dX0_init_4 : decode cX0_init 4 = .ok (.aload_n 0, 1) := by decide +kernel
theorem dX0_init_5 : decode cX0_init 5 = .ok (.bipush 60, 2) := by decide +kernel
theorem dX0_init_7 : decode cX0_init 7 = .ok (.newarray .int, 2) := by decide +kernel
theorem dX0_init_9 : decode cX0_init 9 = .ok (.putfield 9, 3) := by decide +kernel
theorem dX0_init_12 : decode cX0_init 12 = .ok (.aload_n 0, 1) := by decide +kernel
theorem dX0_init_13 : decode cX0_init 13 = .ok (.bipush 60, 2) := by decide +kernel
theorem dX0_init_15 : decode cX0_init 15 = .ok (.newarray .int, 2) := by decide +kernel
theorem dX0_init_17 : decode cX0_init 17 = .ok (.putfield 15, 3) := by decide +kernel
theorem dX0_init_20 : decode cX0_init 20 = .ok (.aload_n 0, 1) := by decide +kernel
theorem dX0_init_21 : decode cX0_init 21 = .ok (.bipush 60, 2) := by decide +kernel
theorem dX0_init_23 : decode cX0_init 23 = .ok (.newarray .int, 2) := by decide +kernel
theorem dX0_init_25 : decode cX0_init 25 = .ok (.putfield 18, 3) := by decide +kernel
theorem dX0_init_28 : decode cX0_init 28 = .ok (.aload_n 0, 1) := by decide +kernel
theorem dX0_init_29 : decode cX0_init 29 = .ok (.bipush 60, 2) := by decide +kernel
theorem dX0_init_31 : decode cX0_init 31 = .ok (.newarray .long, 2) := by decide +kernel
theorem dX0_init_33 : decode cX0_init 33 = .ok (.putfield 21, 3) := by decide +kernel
theorem dX0_init_36 : decode cX0_init 36 = .ok (.aload_n 0, 1) := by decide +kernel
theorem dX0_init_37 : decode cX0_init 37 = .ok (.bipush 60, 2) := by decide +kernel
theorem dX0_init_39 : decode cX0_init 39 = .ok (.newarray .long, 2) := by decide +kernel
theorem dX0_init_41 : decode cX0_init 41 = .ok (.putfield 25, 3) := by decide +kernel
theorem dX0_init_44 : decode cX0_init 44 = .ok (.aload_n 0, 1) := by decide +kernel
theorem dX0_init_45 : decode cX0_init 45 = .ok (.iconst 5, 1) := by decide +kernel
theorem dX0_init_46 : decode cX0_init 46 = .ok (.newarray .long, 2) := by decide +kernel
theorem dX0_init_48 : decode cX0_init 48 = .ok (.putfield 28, 3) := by decide +kernel
theorem dX0_init_51 : decode cX0_init 51 = .ok (.aload_n 0, 1) := by decide +kernel
theorem dX0_init_52 : decode cX0_init 52 = .ok (.bipush 60, 2) := by decide +kernel
theorem dX0_init_54 : decode cX0_init 54 = .ok (.newarray .int, 2) := by decide +kernel
theorem dX0_init_56 : decode cX0_init 56 = .ok (.putfield 31, 3) := by decide +kernel
theorem dX0_init_59 : decode cX0_init 59 = .ok (.return_, 1) := by decide +kernel
theorem dX0_has_0 : decode cX0_has 0 = .ok (.iload_n 1, 1) := by decide +kernel
theorem dX0_has_1 : decode cX0_has 1 = .ok (.ifCond .lt 15, 3) := by decide +kernel
theorem dX0_has_4 : decode cX0_has 4 = .ok (.iload_n 1, 1) := by decide +kernel
theorem dX0_has_5 : decode cX0_has 5 = .ok (.aload_n 0, 1) := by decide +kernel
theorem dX0_has_6 : decode cX0_has 6 = .ok (.getfield 34, 3) := by decide +kernel
theorem dX0_has_9 : decode cX0_has 9 = .ok (.if_icmp .ge 7, 3) := by decide +kernel
theorem dX0_has_12 : decode cX0_has 12 = .ok (.iconst 1, 1) := by decide +kernel
theorem dX0_has_13 : decode cX0_has 13 = .ok (.goto 4, 3) := by decide +kernel
theorem dX0_has_16 : decode cX0_has 16 = .ok (.iconst 0, 1) := by decide +kernel
theorem dX0_has_17 : decode cX0_has 17 = .ok (.ireturn, 1) := by decide +kernel
theorem dX0_partSize_0 : decode cX0_partSize 0 = .ok (.aload_n 1, 1) := by decide +kernel
theorem dX0_partSize_1 : decode cX0_partSize 1 = .ok (.getfield 38, 3) := by decide +kernel
theorem dX0_partSize_4 : decode cX0_partSize 4 = .ok (.aload_n 0, 1) := by decide +kernel
theorem dX0_partSize_5 : decode cX0_partSize 5 = .ok (.getfield 9, 3) := by decide +kernel
theorem dX0_partSize_8 : decode cX0_partSize 8 = .ok (.iload_n 2, 1) := by decide +kernel
theorem dX0_partSize_9 : decode cX0_partSize 9 = .ok (.iaload, 1) := by decide +kernel
theorem dX0_partSize_10 : decode cX0_partSize 10 = .ok (.aaload, 1) := by decide +kernel
theorem dX0_partSize_11 : decode cX0_partSize 11 = .ok (.getfield 44, 3) := by decide +kernel
theorem dX0_partSize_14 : decode cX0_partSize 14 = .ok (.aload_n 0, 1) := by decide +kernel
theorem dX0_partSize_15 : decode cX0_partSize 15 = .ok (.getfield 15, 3) := by decide +kernel
theorem dX0_partSize_18 : decode cX0_partSize 18 = .ok (.iload_n 2, 1) := by decide +kernel
theorem dX0_partSize_19 : decode cX0_partSize 19 = .ok (.iaload, 1) := by decide +kernel
theorem dX0_partSize_20 : decode cX0_partSize 20 = .ok (.invokevirtual 50, 3) := by decide +kernel
theorem dX0_partSize_23 : decode cX0_partSize 23 = .ok (.ireturn, 1) := by decide +kernel
theorem dX0_fillFrom_0 : decode cX0_fillFrom 0 = .ok (.aload_n 0, 1) := by decide +kernel
theorem dX0_fillFrom_1 : decode cX0_fillFrom 1 = .ok (.aload_n 1, 1) := by decide +kernel
theorem dX0_fillFrom_2 : decode cX0_fillFrom 2 = .ok (.invokevirtual 56, 3) := by decide +kernel
theorem dX0_fillFrom_5 : decode cX0_fillFrom 5 = .ok (.aload_n 0, 1) := by decide +kernel
theorem dX0_fillFrom_6 : decode cX0_fillFrom 6 = .ok (.aload_n 1, 1) := by decide +kernel
theorem dX0_fillFrom_7 : decode cX0_fillFrom 7 = .ok (.invokevirtual 60, 3) := by decide +kernel
theorem dX0_fillFrom_10 : decode cX0_fillFrom 10 = .ok (.iconst 0, 1) := by decide +kernel
theorem dX0_fillFrom_11 : decode cX0_fillFrom 11 = .ok (.istore_n 2, 1) := by decide +kernel
theorem dX0_fillFrom_12 : decode cX0_fillFrom 12 = .ok (.iload_n 2, 1) := by decide +kernel
theorem dX0_fillFrom_13 : decode cX0_fillFrom 13 = .ok (.aload_n 0, 1) := by decide +kernel
theorem dX0_fillFrom_14 : decode cX0_fillFrom 14 = .ok (.getfield 34, 3) := by decide +kernel
theorem dX0_fillFrom_17 : decode cX0_fillFrom 17 = .ok (.if_icmp .ge 33, 3) := by decide +kernel
theorem dX0_fillFrom_20 : decode cX0_fillFrom 20 = .ok (.aload_n 0, 1) := by decide +kernel
theorem dX0_fillFrom_21 : decode cX0_fillFrom 21 = .ok (.getfield 21, 3) := by decide +kernel
theorem dX0_fillFrom_24 : decode cX0_fillFrom 24 = .ok (.iload_n 2, 1) := by decide +kernel
theorem dX0_fillFrom_25 : decode cX0_fillFrom 25 = .ok (.aload_n 0, 1) := by decide +kernel
theorem dX0_fillFrom_26 : decode cX0_fillFrom 26 = .ok (.aload_n 1, 1) := by decide +kernel
theorem dX0_fillFrom_27 : decode cX0_fillFrom 27 = .ok (.iload_n 2, 1) := by decide +kernel
theorem dX0_fillFrom_28 : decode cX0_fillFrom 28 = .ok (.invokevirtual 63, 3) := by decide +kernel
theorem dX0_fillFrom_31 : decode cX0_fillFrom 31 = .ok (.lastore, 1) := by decide +kernel
theorem dX0_fillFrom_32 : decode cX0_fillFrom 32 = .ok (.aload_n 0, 1) := by decide +kernel
theorem dX0_fillFrom_33 : decode cX0_fillFrom 33 = .ok (.getfield 25, 3) := by decide +kernel
theorem dX0_fillFrom_36 : decode cX0_fillFrom 36 = .ok (.iload_n 2, 1) := by decide +kernel
theorem dX0_fillFrom_37 : decode cX0_fillFrom 37 = .ok (.aload_n 0, 1) := by decide +kernel
theorem dX0_fillFrom_38 : decode cX0_fillFrom 38 = .ok (.getfield 21, 3) := by decide +kernel
theorem dX0_fillFrom_41 : decode cX0_fillFrom 41 = .ok (.iload_n 2, 1) := by decide +kernel
theorem dX0_fillFrom_42 : decode cX0_fillFrom 42 = .ok (.laload, 1) := by decide +kernel
theorem dX0_fillFrom_43 : decode cX0_fillFrom 43 = .ok (.lastore, 1) := by decide +kernel
theorem dX0_fillFrom_44 : decode cX0_fillFrom 44 = .ok (.iinc 2 1, 3) := by decide +kernel
theorem dX0_fillFrom_47 : decode cX0_fillFrom 47 = .ok (.goto (-35), 3) := by decide +kernel
theorem dX0_fillFrom_50 : decode cX0_fillFrom 50 = .ok (.aload_n 0, 1) := by decide +kernel
theorem dX0_fillFrom_51 : decode cX0_fillFrom 51 = .ok (.invokevirtual 67, 3) := by decide +kernel
theorem dX0_fillFrom_54 : decode cX0_fillFrom 54 = .ok (.aload_n 0, 1) := by decide +kernel
theorem dX0_fillFrom_55 : decode cX0_fillFrom 55 = .ok (.invokevirtual 70, 3) := by decide +kernel
theorem dX0_fillFrom_58 : decode cX0_fillFrom 58 = .ok (.return_, 1) := by decide +kernel
theorem dX0_isHead_0 : decode cX0_isHead 0 = .ok (.aload_n 0, 1) := by decide +kernel
theorem dX0_isHead_1 : decode cX0_isHead 1 = .ok (.getfield 73, 3) := by decide +kernel
theorem dX0_isHead_4 : decode cX0_isHead 4 = .ok (.iload_n 1, 1) := by decide +kernel
theorem dX0_isHead_5 : decode cX0_isHead 5 = .ok (.bipush 97, 2) := by decide +kernel
theorem dX0_isHead_7 : decode cX0_isHead 7 = .ok (.isub, 1) := by decide +kernel
theorem dX0_isHead_8 : decode cX0_isHead 8 = .ok (.iushr, 1) := by decide +kernel
theorem dX0_isHead_9 : decode cX0_isHead 9 = .ok (.iconst 1, 1) := by decide +kernel
theorem dX0_isHead_10 : decode cX0_isHead 10 = .ok (.iand, 1) := by decide +kernel
theorem dX0_isHead_11 : decode cX0_isHead 11 = .ok (.ifCond .eq 7, 3) := by decide +kernel
theorem dX0_isHead_14 : decode cX0_isHead 14 = .ok (.iconst 1, 1) := by decide +kernel
theorem dX0_isHead_15 : decode cX0_isHead 15 = .ok (.goto 4, 3) := by decide +kernel
theorem dX0_isHead_18 : decode cX0_isHead 18 = .ok (.iconst 0, 1) := by decide +kernel
theorem dX0_isHead_19 : decode cX0_isHead 19 = .ok (.ireturn, 1) := by decide +kernel
theorem dX0_findHeads_0 : decode cX0_findHeads 0 = .ok (.aload_n 0, 1) := by decide +kernel
theorem dX0_findHeads_1 : decode cX0_findHeads 1 = .ok (.iconst 0, 1) := by decide +kernel
theorem dX0_findHeads_2 : decode cX0_findHeads 2 = .ok (.putfield 73, 3) := by decide +kernel
theorem dX0_findHeads_5 : decode cX0_findHeads 5 = .ok (.iconst 0, 1) := by decide +kernel
theorem dX0_findHeads_6 : decode cX0_findHeads 6 = .ok (.istore_n 2, 1) := by decide +kernel
theorem dX0_findHeads_7 : decode cX0_findHeads 7 = .ok (.iload_n 2, 1) := by decide +kernel
theorem dX0_findHeads_8 : decode cX0_findHeads 8 = .ok (.aload_n 1, 1) := by decide +kernel
theorem dX0_findHeads_9 : decode cX0_findHeads 9 = .ok (.getfield 76, 3) := by decide +kernel
theorem dX0_findHeads_12 : decode cX0_findHeads 12 = .ok (.if_icmp .ge 37, 3) := by decide +kernel
theorem dX0_findHeads_15 : decode cX0_findHeads 15 = .ok (.aload_n 0, 1) := by decide +kernel
theorem dX0_findHeads_16 : decode cX0_findHeads 16 = .ok (.dup, 1) := by decide +kernel
theorem dX0_findHeads_17 : decode cX0_findHeads 17 = .ok (.getfield 73, 3) := by decide +kernel
theorem dX0_findHeads_20 : decode cX0_findHeads 20 = .ok (.iconst 1, 1) := by decide +kernel
theorem dX0_findHeads_21 : decode cX0_findHeads 21 = .ok (.aload_n 1, 1) := by decide +kernel
theorem dX0_findHeads_22 : decode cX0_findHeads 22 = .ok (.getfield 38, 3) := by decide +kernel
theorem dX0_findHeads_25 : decode cX0_findHeads 25 = .ok (.iload_n 2, 1) := by decide +kernel
theorem dX0_findHeads_26 : decode cX0_findHeads 26 = .ok (.aaload, 1) := by decide +kernel
theorem dX0_findHeads_27 : decode cX0_findHeads 27 = .ok (.getfield 77, 3) := by decide +kernel
theorem dX0_findHeads_30 : decode cX0_findHeads 30 = .ok (.getfield 80, 3) := by decide +kernel
theorem dX0_findHeads_33 : decode cX0_findHeads 33 = .ok (.iconst 0, 1) := by decide +kernel
theorem dX0_findHeads_34 : decode cX0_findHeads 34 = .ok (.iaload, 1) := by decide +kernel
theorem dX0_findHeads_35 : decode cX0_findHeads 35 = .ok (.bipush 97, 2) := by decide +kernel
theorem dX0_findHeads_37 : decode cX0_findHeads 37 = .ok (.isub, 1) := by decide +kernel
theorem dX0_findHeads_38 : decode cX0_findHeads 38 = .ok (.ishl, 1) := by decide +kernel
theorem dX0_findHeads_39 : decode cX0_findHeads 39 = .ok (.ior, 1) := by decide +kernel
theorem dX0_findHeads_40 : decode cX0_findHeads 40 = .ok (.putfield 73, 3) := by decide +kernel
theorem dX0_findHeads_43 : decode cX0_findHeads 43 = .ok (.iinc 2 1, 3) := by decide +kernel
theorem dX0_findHeads_46 : decode cX0_findHeads 46 = .ok (.goto (-39), 3) := by decide +kernel
theorem dX0_findHeads_49 : decode cX0_findHeads 49 = .ok (.return_, 1) := by decide +kernel
theorem dX0_collect_0 : decode cX0_collect 0 = .ok (.aload_n 0, 1) := by decide +kernel
theorem dX0_collect_1 : decode cX0_collect 1 = .ok (.iconst 0, 1) := by decide +kernel
theorem dX0_collect_2 : decode cX0_collect 2 = .ok (.putfield 34, 3) := by decide +kernel
theorem dX0_collect_5 : decode cX0_collect 5 = .ok (.iconst 0, 1) := by decide +kernel
theorem dX0_collect_6 : decode cX0_collect 6 = .ok (.istore_n 2, 1) := by decide +kernel
theorem dX0_collect_7 : decode cX0_collect 7 = .ok (.iload_n 2, 1) := by decide +kernel
theorem dX0_collect_8 : decode cX0_collect 8 = .ok (.aload_n 1, 1) := by decide +kernel
theorem dX0_collect_9 : decode cX0_collect 9 = .ok (.getfield 76, 3) := by decide +kernel
theorem dX0_collect_12 : decode cX0_collect 12 = .ok (.if_icmp .ge 113, 3) := by decide +kernel
theorem dX0_collect_15 : decode cX0_collect 15 = .ok (.aload_n 0, 1) := by decide +kernel
theorem dX0_collect_16 : decode cX0_collect 16 = .ok (.getfield 28, 3) := by decide +kernel
theorem dX0_collect_19 : decode cX0_collect 19 = .ok (.iload_n 2, 1) := by decide +kernel
theorem dX0_collect_20 : decode cX0_collect 20 = .ok (.lconst 0, 1) := by decide +kernel
theorem dX0_collect_21 : decode cX0_collect 21 = .ok (.lastore, 1) := by decide +kernel
theorem dX0_collect_22 : decode cX0_collect 22 = .ok (.aload_n 1, 1) := by decide +kernel
theorem dX0_collect_23 : decode cX0_collect 23 = .ok (.getfield 38, 3) := by decide +kernel
theorem dX0_collect_26 : decode cX0_collect 26 = .ok (.iload_n 2, 1) := by decide +kernel
theorem dX0_collect_27 : decode cX0_collect 27 = .ok (.aaload, 1) := by decide +kernel
theorem dX0_collect_28 : decode cX0_collect 28 = .ok (.getfield 44, 3) := by decide +kernel
theorem dX0_collect_31 : decode cX0_collect 31 = .ok (.astore_n 3, 1) := by decide +kernel
theorem dX0_collect_32 : decode cX0_collect 32 = .ok (.iconst 0, 1) := by decide +kernel
theorem dX0_collect_33 : decode cX0_collect 33 = .ok (.istore 4, 2) := by decide +kernel
theorem dX0_collect_35 : decode cX0_collect 35 = .ok (.iload 4, 2) := by decide +kernel
theorem dX0_collect_37 : decode cX0_collect 37 = .ok (.aload_n 3, 1) := by decide +kernel
theorem dX0_collect_38 : decode cX0_collect 38 = .ok (.getfield 83, 3) := by decide +kernel
theorem dX0_collect_41 : decode cX0_collect 41 = .ok (.if_icmp .ge 78, 3) := by decide +kernel
theorem dX0_collect_44 : decode cX0_collect 44 = .ok (.aload_n 0, 1) := by decide +kernel
theorem dX0_collect_45 : decode cX0_collect 45 = .ok (.aload_n 3, 1) := by decide +kernel
theorem dX0_collect_46 : decode cX0_collect 46 = .ok (.getfield 80, 3) := by decide +kernel
theorem dX0_collect_49 : decode cX0_collect 49 = .ok (.iload 4, 2) := by decide +kernel
theorem dX0_collect_51 : decode cX0_collect 51 = .ok (.iaload, 1) := by decide +kernel
theorem dX0_collect_52 : decode cX0_collect 52 = .ok (.invokevirtual 86, 3) := by decide +kernel
theorem dX0_collect_55 : decode cX0_collect 55 = .ok (.ifCond .eq 58, 3) := by decide +kernel
theorem dX0_collect_58 : decode cX0_collect 58 = .ok (.aload_n 0, 1) := by decide +kernel
theorem dX0_collect_59 : decode cX0_collect 59 = .ok (.getfield 34, 3) := by decide +kernel
theorem dX0_collect_62 : decode cX0_collect 62 = .ok (.bipush 60, 2) := by decide +kernel
theorem dX0_collect_64 : decode cX0_collect 64 = .ok (.if_icmp .ge 49, 3) := by decide +kernel
theorem dX0_collect_67 : decode cX0_collect 67 = .ok (.aload_n 0, 1) := by decide +kernel
theorem dX0_collect_68 : decode cX0_collect 68 = .ok (.getfield 9, 3) := by decide +kernel
theorem dX0_collect_71 : decode cX0_collect 71 = .ok (.aload_n 0, 1) := by decide +kernel
theorem dX0_collect_72 : decode cX0_collect 72 = .ok (.getfield 34, 3) := by decide +kernel
theorem dX0_collect_75 : decode cX0_collect 75 = .ok (.iload_n 2, 1) := by decide +kernel
theorem dX0_collect_76 : decode cX0_collect 76 = .ok (.iastore, 1) := by decide +kernel
theorem dX0_collect_77 : decode cX0_collect 77 = .ok (.aload_n 0, 1) := by decide +kernel
theorem dX0_collect_78 : decode cX0_collect 78 = .ok (.getfield 15, 3) := by decide +kernel
theorem dX0_collect_81 : decode cX0_collect 81 = .ok (.aload_n 0, 1) := by decide +kernel
theorem dX0_collect_82 : decode cX0_collect 82 = .ok (.getfield 34, 3) := by decide +kernel
theorem dX0_collect_85 : decode cX0_collect 85 = .ok (.iload 4, 2) := by decide +kernel
theorem dX0_collect_87 : decode cX0_collect 87 = .ok (.iastore, 1) := by decide +kernel
theorem dX0_collect_88 : decode cX0_collect 88 = .ok (.aload_n 0, 1) := by decide +kernel
theorem dX0_collect_89 : decode cX0_collect 89 = .ok (.getfield 28, 3) := by decide +kernel
theorem dX0_collect_92 : decode cX0_collect 92 = .ok (.iload_n 2, 1) := by decide +kernel
theorem dX0_collect_93 : decode cX0_collect 93 = .ok (.dup2, 1) := by decide +kernel
theorem dX0_collect_94 : decode cX0_collect 94 = .ok (.laload, 1) := by decide +kernel
theorem dX0_collect_95 : decode cX0_collect 95 = .ok (.lconst 1, 1) := by decide +kernel
theorem dX0_collect_96 : decode cX0_collect 96 = .ok (.aload_n 0, 1) := by decide +kernel
theorem dX0_collect_97 : decode cX0_collect 97 = .ok (.getfield 34, 3) := by decide +kernel
theorem dX0_collect_100 : decode cX0_collect 100 = .ok (.lshl, 1) := by decide +kernel
theorem dX0_collect_101 : decode cX0_collect 101 = .ok (.lor, 1) := by decide +kernel
theorem dX0_collect_102 : decode cX0_collect 102 = .ok (.lastore, 1) := by decide +kernel
theorem dX0_collect_103 : decode cX0_collect 103 = .ok (.aload_n 0, 1) := by decide +kernel
theorem dX0_collect_104 : decode cX0_collect 104 = .ok (.dup, 1) := by decide +kernel
theorem dX0_collect_105 : decode cX0_collect 105 = .ok (.getfield 34, 3) := by decide +kernel
theorem dX0_collect_108 : decode cX0_collect 108 = .ok (.iconst 1, 1) := by decide +kernel
theorem dX0_collect_109 : decode cX0_collect 109 = .ok (.iadd, 1) := by decide +kernel
theorem dX0_collect_110 : decode cX0_collect 110 = .ok (.putfield 34, 3) := by decide +kernel
theorem dX0_collect_113 : decode cX0_collect 113 = .ok (.iinc 4 1, 3) := by decide +kernel
theorem dX0_collect_116 : decode cX0_collect 116 = .ok (.goto (-81), 3) := by decide +kernel
theorem dX0_collect_119 : decode cX0_collect 119 = .ok (.iinc 2 1, 3) := by decide +kernel
theorem dX0_collect_122 : decode cX0_collect 122 = .ok (.goto (-115), 3) := by decide +kernel
theorem dX0_collect_125 : decode cX0_collect 125 = .ok (.return_, 1) := by decide +kernel
theorem dX0_followersOf_0 : decode cX0_followersOf 0 = .ok (.aload_n 1, 1) := by decide +kernel
theorem dX0_followersOf_1 : decode cX0_followersOf 1 = .ok (.getfield 38, 3) := by decide +kernel
theorem dX0_followersOf_4 : decode cX0_followersOf 4 = .ok (.aload_n 0, 1) := by decide +kernel
theorem dX0_followersOf_5 : decode cX0_followersOf 5 = .ok (.getfield 9, 3) := by decide +kernel
theorem dX0_followersOf_8 : decode cX0_followersOf 8 = .ok (.iload_n 2, 1) := by decide +kernel
theorem dX0_followersOf_9 : decode cX0_followersOf 9 = .ok (.iaload, 1) := by decide +kernel
theorem dX0_followersOf_10 : decode cX0_followersOf 10 = .ok (.aaload, 1) := by decide +kernel
theorem dX0_followersOf_11 : decode cX0_followersOf 11 = .ok (.getfield 44, 3) := by decide +kernel
theorem dX0_followersOf_14 : decode cX0_followersOf 14 = .ok (.astore_n 3, 1) := by decide +kernel
theorem dX0_followersOf_15 : decode cX0_followersOf 15 = .ok (.lconst 0, 1) := by decide +kernel
theorem dX0_followersOf_16 : decode cX0_followersOf 16 = .ok (.lstore 4, 2) := by decide +kernel
theorem dX0_followersOf_18 : decode cX0_followersOf 18 = .ok (.iconst 0, 1) := by decide +kernel
theorem dX0_followersOf_19 : decode cX0_followersOf 19 = .ok (.istore 6, 2) := by decide +kernel
theorem dX0_followersOf_21 : decode cX0_followersOf 21 = .ok (.iload 6, 2) := by decide +kernel
theorem dX0_followersOf_23 : decode cX0_followersOf 23 = .ok (.aload_n 1, 1) := by decide +kernel
theorem dX0_followersOf_24 : decode cX0_followersOf 24 = .ok (.getfield 76, 3) := by decide +kernel
theorem dX0_followersOf_27 : decode cX0_followersOf 27 = .ok (.if_icmp .ge 45, 3) := by decide +kernel
theorem dX0_followersOf_30 : decode cX0_followersOf 30 = .ok (.aload_n 0, 1) := by decide +kernel
theorem dX0_followersOf_31 : decode cX0_followersOf 31 = .ok (.aload_n 3, 1) := by decide +kernel
theorem dX0_followersOf_32 : decode cX0_followersOf 32 = .ok (.aload_n 0, 1) := by decide +kernel
theorem dX0_followersOf_33 : decode cX0_followersOf 33 = .ok (.getfield 15, 3) := by decide +kernel
theorem dX0_followersOf_36 : decode cX0_followersOf 36 = .ok (.iload_n 2, 1) := by decide +kernel
theorem dX0_followersOf_37 : decode cX0_followersOf 37 = .ok (.iaload, 1) := by decide +kernel
theorem dX0_followersOf_38 : decode cX0_followersOf 38 = .ok (.aload_n 1, 1) := by decide +kernel
theorem dX0_followersOf_39 : decode cX0_followersOf 39 = .ok (.getfield 38, 3) := by decide +kernel
theorem dX0_followersOf_42 : decode cX0_followersOf 42 = .ok (.iload 6, 2) := by decide +kernel
theorem dX0_followersOf_44 : decode cX0_followersOf 44 = .ok (.aaload, 1) := by decide +kernel
theorem dX0_followersOf_45 : decode cX0_followersOf 45 = .ok (.getfield 77, 3) := by decide +kernel
theorem dX0_followersOf_48 : decode cX0_followersOf 48 = .ok (.invokevirtual 90, 3) := by decide +kernel
theorem dX0_followersOf_51 : decode cX0_followersOf 51 = .ok (.ifCond .eq 15, 3) := by decide +kernel
theorem dX0_followersOf_54 : decode cX0_followersOf 54 = .ok (.lload 4, 2) := by decide +kernel
theorem dX0_followersOf_56 : decode cX0_followersOf 56 = .ok (.aload_n 0, 1) := by decide +kernel
theorem dX0_followersOf_57 : decode cX0_followersOf 57 = .ok (.getfield 28, 3) := by decide +kernel
theorem dX0_followersOf_60 : decode cX0_followersOf 60 = .ok (.iload 6, 2) := by decide +kernel
theorem dX0_followersOf_62 : decode cX0_followersOf 62 = .ok (.laload, 1) := by decide +kernel
theorem dX0_followersOf_63 : decode cX0_followersOf 63 = .ok (.lor, 1) := by decide +kernel
theorem dX0_followersOf_64 : decode cX0_followersOf 64 = .ok (.lstore 4, 2) := by decide +kernel
theorem dX0_followersOf_66 : decode cX0_followersOf 66 = .ok (.iinc 6 1, 3) := by decide +kernel
theorem dX0_followersOf_69 : decode cX0_followersOf 69 = .ok (.goto (-48), 3) := by decide +kernel
theorem dX0_followersOf_72 : decode cX0_followersOf 72 = .ok (.lload 4, 2) := by decide +kernel
theorem dX0_followersOf_74 : decode cX0_followersOf 74 = .ok (.lreturn, 1) := by decide +kernel
theorem dX0_comesTo_0 : decode cX0_comesTo 0 = .ok (.aload_n 1, 1) := by decide +kernel
theorem dX0_comesTo_1 : decode cX0_comesTo 1 = .ok (.getfield 80, 3) := by decide +kernel
theorem dX0_comesTo_4 : decode cX0_comesTo 4 = .ok (.iload_n 2, 1) := by decide +kernel
theorem dX0_comesTo_5 : decode cX0_comesTo 5 = .ok (.iaload, 1) := by decide +kernel
theorem dX0_comesTo_6 : decode cX0_comesTo 6 = .ok (.aload_n 3, 1) := by decide +kernel
theorem dX0_comesTo_7 : decode cX0_comesTo 7 = .ok (.getfield 80, 3) := by decide +kernel
theorem dX0_comesTo_10 : decode cX0_comesTo 10 = .ok (.iconst 0, 1) := by decide +kernel
theorem dX0_comesTo_11 : decode cX0_comesTo 11 = .ok (.iaload, 1) := by decide +kernel
theorem dX0_comesTo_12 : decode cX0_comesTo 12 = .ok (.if_icmp .eq 5, 3) := by decide +kernel
theorem dX0_comesTo_15 : decode cX0_comesTo 15 = .ok (.iconst 0, 1) := by decide +kernel
theorem dX0_comesTo_16 : decode cX0_comesTo 16 = .ok (.ireturn, 1) := by decide +kernel
theorem dX0_comesTo_17 : decode cX0_comesTo 17 = .ok (.aload_n 1, 1) := by decide +kernel
theorem dX0_comesTo_18 : decode cX0_comesTo 18 = .ok (.getfield 94, 3) := by decide +kernel
theorem dX0_comesTo_21 : decode cX0_comesTo 21 = .ok (.iload_n 2, 1) := by decide +kernel
theorem dX0_comesTo_22 : decode cX0_comesTo 22 = .ok (.iaload, 1) := by decide +kernel
theorem dX0_comesTo_23 : decode cX0_comesTo 23 = .ok (.istore 4, 2) := by decide +kernel
theorem dX0_comesTo_25 : decode cX0_comesTo 25 = .ok (.iload_n 2, 1) := by decide +kernel
theorem dX0_comesTo_26 : decode cX0_comesTo 26 = .ok (.iconst 1, 1) := by decide +kernel
theorem dX0_comesTo_27 : decode cX0_comesTo 27 = .ok (.iadd, 1) := by decide +kernel
theorem dX0_comesTo_28 : decode cX0_comesTo 28 = .ok (.istore 5, 2) := by decide +kernel
theorem dX0_comesTo_30 : decode cX0_comesTo 30 = .ok (.iconst 1, 1) := by decide +kernel
theorem dX0_comesTo_31 : decode cX0_comesTo 31 = .ok (.istore 6, 2) := by decide +kernel
theorem dX0_comesTo_33 : decode cX0_comesTo 33 = .ok (.iconst 0, 1) := by decide +kernel
theorem dX0_comesTo_34 : decode cX0_comesTo 34 = .ok (.istore 7, 2) := by decide +kernel
theorem dX0_comesTo_36 : decode cX0_comesTo 36 = .ok (.iload 7, 2) := by decide +kernel
theorem dX0_comesTo_38 : decode cX0_comesTo 38 = .ok (.bipush 12, 2) := by decide +kernel
theorem dX0_comesTo_40 : decode cX0_comesTo 40 = .ok (.if_icmp .ge 107, 3) := by decide +kernel
theorem dX0_comesTo_43 : decode cX0_comesTo 43 = .ok (.iload 5, 2) := by decide +kernel
theorem dX0_comesTo_45 : decode cX0_comesTo 45 = .ok (.iload 4, 2) := by decide +kernel
theorem dX0_comesTo_47 : decode cX0_comesTo 47 = .ok (.if_icmp .ge 100, 3) := by decide +kernel
theorem dX0_comesTo_50 : decode cX0_comesTo 50 = .ok (.iload 6, 2) := by decide +kernel
theorem dX0_comesTo_52 : decode cX0_comesTo 52 = .ok (.aload_n 3, 1) := by decide +kernel
theorem dX0_comesTo_53 : decode cX0_comesTo 53 = .ok (.getfield 83, 3) := by decide +kernel
theorem dX0_comesTo_56 : decode cX0_comesTo 56 = .ok (.if_icmp .ge 91, 3) := by decide +kernel
theorem dX0_comesTo_59 : decode cX0_comesTo 59 = .ok (.aload_n 1, 1) := by decide +kernel
theorem dX0_comesTo_60 : decode cX0_comesTo 60 = .ok (.getfield 80, 3) := by decide +kernel
theorem dX0_comesTo_63 : decode cX0_comesTo 63 = .ok (.iload 5, 2) := by decide +kernel
theorem dX0_comesTo_65 : decode cX0_comesTo 65 = .ok (.iaload, 1) := by decide +kernel
theorem dX0_comesTo_66 : decode cX0_comesTo 66 = .ok (.istore 8, 2) := by decide +kernel
theorem dX0_comesTo_68 : decode cX0_comesTo 68 = .ok (.aload_n 3, 1) := by decide +kernel
theorem dX0_comesTo_69 : decode cX0_comesTo 69 = .ok (.getfield 80, 3) := by decide +kernel
theorem dX0_comesTo_72 : decode cX0_comesTo 72 = .ok (.iload 6, 2) := by decide +kernel
theorem dX0_comesTo_74 : decode cX0_comesTo 74 = .ok (.iaload, 1) := by decide +kernel
theorem dX0_comesTo_75 : decode cX0_comesTo 75 = .ok (.istore 9, 2) := by decide +kernel
theorem dX0_comesTo_77 : decode cX0_comesTo 77 = .ok (.iload 9, 2) := by decide +kernel
theorem dX0_comesTo_79 : decode cX0_comesTo 79 = .ok (.invokestatic 97, 3) := by decide +kernel
theorem dX0_comesTo_82 : decode cX0_comesTo 82 = .ok (.ifCond .ne 20, 3) := by decide +kernel
theorem dX0_comesTo_85 : decode cX0_comesTo 85 = .ok (.iload 8, 2) := by decide +kernel
theorem dX0_comesTo_87 : decode cX0_comesTo 87 = .ok (.invokestatic 97, 3) := by decide +kernel
theorem dX0_comesTo_90 : decode cX0_comesTo 90 = .ok (.ifCond .ne 12, 3) := by decide +kernel
theorem dX0_comesTo_93 : decode cX0_comesTo 93 = .ok (.aload_n 0, 1) := by decide +kernel
theorem dX0_comesTo_94 : decode cX0_comesTo 94 = .ok (.iload 8, 2) := by decide +kernel
theorem dX0_comesTo_96 : decode cX0_comesTo 96 = .ok (.invokevirtual 86, 3) := by decide +kernel
theorem dX0_comesTo_99 : decode cX0_comesTo 99 = .ok (.ifCond .eq 24, 3) := by decide +kernel
theorem dX0_comesTo_102 : decode cX0_comesTo 102 = .ok (.aload_n 1, 1) := by decide +kernel
theorem dX0_comesTo_103 : decode cX0_comesTo 103 = .ok (.getfield 94, 3) := by decide +kernel
theorem dX0_comesTo_106 : decode cX0_comesTo 106 = .ok (.iload 5, 2) := by decide +kernel
theorem dX0_comesTo_108 : decode cX0_comesTo 108 = .ok (.iaload, 1) := by decide +kernel
theorem dX0_comesTo_109 : decode cX0_comesTo 109 = .ok (.istore 5, 2) := by decide +kernel
theorem dX0_comesTo_111 : decode cX0_comesTo 111 = .ok (.aload_n 3, 1) := by decide +kernel
theorem dX0_comesTo_112 : decode cX0_comesTo 112 = .ok (.getfield 94, 3) := by decide +kernel
theorem dX0_comesTo_115 : decode cX0_comesTo 115 = .ok (.iload 6, 2) := by decide +kernel
theorem dX0_comesTo_117 : decode cX0_comesTo 117 = .ok (.iaload, 1) := by decide +kernel
theorem dX0_comesTo_118 : decode cX0_comesTo 118 = .ok (.istore 6, 2) := by decide +kernel
theorem dX0_comesTo_120 : decode cX0_comesTo 120 = .ok (.goto 21, 3) := by decide +kernel
theorem dX0_comesTo_123 : decode cX0_comesTo 123 = .ok (.iload 8, 2) := by decide +kernel
theorem dX0_comesTo_125 : decode cX0_comesTo 125 = .ok (.iload 9, 2) := by decide +kernel
theorem dX0_comesTo_127 : decode cX0_comesTo 127 = .ok (.if_icmp .ne 12, 3) := by decide +kernel
theorem dX0_comesTo_130 : decode cX0_comesTo 130 = .ok (.iinc 5 1, 3) := by decide +kernel
theorem dX0_comesTo_133 : decode cX0_comesTo 133 = .ok (.iinc 6 1, 3) := by decide +kernel
theorem dX0_comesTo_136 : decode cX0_comesTo 136 = .ok (.goto 5, 3) := by decide +kernel
theorem dX0_comesTo_139 : decode cX0_comesTo 139 = .ok (.iconst 0, 1) := by decide +kernel
theorem dX0_comesTo_140 : decode cX0_comesTo 140 = .ok (.ireturn, 1) := by decide +kernel
theorem dX0_comesTo_141 : decode cX0_comesTo 141 = .ok (.iinc 7 1, 3) := by decide +kernel
theorem dX0_comesTo_144 : decode cX0_comesTo 144 = .ok (.goto (-108), 3) := by decide +kernel
theorem dX0_comesTo_147 : decode cX0_comesTo 147 = .ok (.iconst 1, 1) := by decide +kernel
theorem dX0_comesTo_148 : decode cX0_comesTo 148 = .ok (.ireturn, 1) := by decide +kernel
theorem dX0_reachOn_0 : decode cX0_reachOn 0 = .ok (.iconst 0, 1) := by decide +kernel
theorem dX0_reachOn_1 : decode cX0_reachOn 1 = .ok (.istore_n 1, 1) := by decide +kernel
theorem dX0_reachOn_2 : decode cX0_reachOn 2 = .ok (.iload_n 1, 1) := by decide +kernel
theorem dX0_reachOn_3 : decode cX0_reachOn 3 = .ok (.aload_n 0, 1) := by decide +kernel
theorem dX0_reachOn_4 : decode cX0_reachOn 4 = .ok (.getfield 34, 3) := by decide +kernel
theorem dX0_reachOn_7 : decode cX0_reachOn 7 = .ok (.if_icmp .ge 53, 3) := by decide +kernel
theorem dX0_reachOn_10 : decode cX0_reachOn 10 = .ok (.iconst 0, 1) := by decide +kernel
theorem dX0_reachOn_11 : decode cX0_reachOn 11 = .ok (.istore_n 2, 1) := by decide +kernel
theorem dX0_reachOn_12 : decode cX0_reachOn 12 = .ok (.iload_n 2, 1) := by decide +kernel
theorem dX0_reachOn_13 : decode cX0_reachOn 13 = .ok (.aload_n 0, 1) := by decide +kernel
theorem dX0_reachOn_14 : decode cX0_reachOn 14 = .ok (.getfield 34, 3) := by decide +kernel
theorem dX0_reachOn_17 : decode cX0_reachOn 17 = .ok (.if_icmp .ge 37, 3) := by decide +kernel
theorem dX0_reachOn_20 : decode cX0_reachOn 20 = .ok (.aload_n 0, 1) := by decide +kernel
theorem dX0_reachOn_21 : decode cX0_reachOn 21 = .ok (.getfield 25, 3) := by decide +kernel
theorem dX0_reachOn_24 : decode cX0_reachOn 24 = .ok (.iload_n 2, 1) := by decide +kernel
theorem dX0_reachOn_25 : decode cX0_reachOn 25 = .ok (.laload, 1) := by decide +kernel
theorem dX0_reachOn_26 : decode cX0_reachOn 26 = .ok (.iload_n 1, 1) := by decide +kernel
theorem dX0_reachOn_27 : decode cX0_reachOn 27 = .ok (.invokestatic 100, 3) := by decide +kernel
theorem dX0_reachOn_30 : decode cX0_reachOn 30 = .ok (.ifCond .eq 18, 3) := by decide +kernel
theorem dX0_reachOn_33 : decode cX0_reachOn 33 = .ok (.aload_n 0, 1) := by decide +kernel
theorem dX0_reachOn_34 : decode cX0_reachOn 34 = .ok (.getfield 25, 3) := by decide +kernel
theorem dX0_reachOn_37 : decode cX0_reachOn 37 = .ok (.iload_n 2, 1) := by decide +kernel
theorem dX0_reachOn_38 : decode cX0_reachOn 38 = .ok (.dup2, 1) := by decide +kernel
theorem dX0_reachOn_39 : decode cX0_reachOn 39 = .ok (.laload, 1) := by decide +kernel
theorem dX0_reachOn_40 : decode cX0_reachOn 40 = .ok (.aload_n 0, 1) := by decide +kernel
theorem dX0_reachOn_41 : decode cX0_reachOn 41 = .ok (.getfield 25, 3) := by decide +kernel
theorem dX0_reachOn_44 : decode cX0_reachOn 44 = .ok (.iload_n 1, 1) := by decide +kernel
theorem dX0_reachOn_45 : decode cX0_reachOn 45 = .ok (.laload, 1) := by decide +kernel
theorem dX0_reachOn_46 : decode cX0_reachOn 46 = .ok (.lor, 1) := by decide +kernel
theorem dX0_reachOn_47 : decode cX0_reachOn 47 = .ok (.lastore, 1) := by decide +kernel
theorem dX0_reachOn_48 : decode cX0_reachOn 48 = .ok (.iinc 2 1, 3) := by decide +kernel
theorem dX0_reachOn_51 : decode cX0_reachOn 51 = .ok (.goto (-39), 3) := by decide +kernel
theorem dX0_reachOn_54 : decode cX0_reachOn 54 = .ok (.iinc 1 1, 3) := by decide +kernel
theorem dX0_reachOn_57 : decode cX0_reachOn 57 = .ok (.goto (-55), 3) := by decide +kernel
theorem dX0_reachOn_60 : decode cX0_reachOn 60 = .ok (.return_, 1) := by decide +kernel
theorem dX0_findRings_0 : decode cX0_findRings 0 = .ok (.aload_n 0, 1) := by decide +kernel
theorem dX0_findRings_1 : decode cX0_findRings 1 = .ok (.iconst 0, 1) := by decide +kernel
theorem dX0_findRings_2 : decode cX0_findRings 2 = .ok (.putfield 104, 3) := by decide +kernel
theorem dX0_findRings_5 : decode cX0_findRings 5 = .ok (.iconst 0, 1) := by decide +kernel
theorem dX0_findRings_6 : decode cX0_findRings 6 = .ok (.istore_n 1, 1) := by decide +kernel
theorem dX0_findRings_7 : decode cX0_findRings 7 = .ok (.iload_n 1, 1) := by decide +kernel
theorem dX0_findRings_8 : decode cX0_findRings 8 = .ok (.aload_n 0, 1) := by decide +kernel
theorem dX0_findRings_9 : decode cX0_findRings 9 = .ok (.getfield 34, 3) := by decide +kernel
theorem dX0_findRings_12 : decode cX0_findRings 12 = .ok (.if_icmp .ge 16, 3) := by decide +kernel
theorem dX0_findRings_15 : decode cX0_findRings 15 = .ok (.aload_n 0, 1) := by decide +kernel
theorem dX0_findRings_16 : decode cX0_findRings 16 = .ok (.getfield 18, 3) := by decide +kernel
theorem dX0_findRings_19 : decode cX0_findRings 19 = .ok (.iload_n 1, 1) := by decide +kernel
theorem dX0_findRings_20 : decode cX0_findRings 20 = .ok (.iconst (-1), 1) := by decide +kernel
theorem dX0_findRings_21 : decode cX0_findRings 21 = .ok (.iastore, 1) := by decide +kernel
theorem dX0_findRings_22 : decode cX0_findRings 22 = .ok (.iinc 1 1, 3) := by decide +kernel
theorem dX0_findRings_25 : decode cX0_findRings 25 = .ok (.goto (-18), 3) := by decide +kernel
theorem dX0_findRings_28 : decode cX0_findRings 28 = .ok (.iconst 0, 1) := by decide +kernel
theorem dX0_findRings_29 : decode cX0_findRings 29 = .ok (.istore_n 1, 1) := by decide +kernel
theorem dX0_findRings_30 : decode cX0_findRings 30 = .ok (.iload_n 1, 1) := by decide +kernel
theorem dX0_findRings_31 : decode cX0_findRings 31 = .ok (.aload_n 0, 1) := by decide +kernel
theorem dX0_findRings_32 : decode cX0_findRings 32 = .ok (.getfield 34, 3) := by decide +kernel
theorem dX0_findRings_35 : decode cX0_findRings 35 = .ok (.if_icmp .ge 37, 3) := by decide +kernel
theorem dX0_findRings_38 : decode cX0_findRings 38 = .ok (.aload_n 0, 1) := by decide +kernel
theorem dX0_findRings_39 : decode cX0_findRings 39 = .ok (.getfield 18, 3) := by decide +kernel
theorem dX0_findRings_42 : decode cX0_findRings 42 = .ok (.iload_n 1, 1) := by decide +kernel
theorem dX0_findRings_43 : decode cX0_findRings 43 = .ok (.iaload, 1) := by decide +kernel
theorem dX0_findRings_44 : decode cX0_findRings 44 = .ok (.iconst (-1), 1) := by decide +kernel
theorem dX0_findRings_45 : decode cX0_findRings 45 = .ok (.if_icmp .ne 21, 3) := by decide +kernel
theorem dX0_findRings_48 : decode cX0_findRings 48 = .ok (.aload_n 0, 1) := by decide +kernel
theorem dX0_findRings_49 : decode cX0_findRings 49 = .ok (.getfield 25, 3) := by decide +kernel
theorem dX0_findRings_52 : decode cX0_findRings 52 = .ok (.iload_n 1, 1) := by decide +kernel
theorem dX0_findRings_53 : decode cX0_findRings 53 = .ok (.laload, 1) := by decide +kernel
theorem dX0_findRings_54 : decode cX0_findRings 54 = .ok (.iload_n 1, 1) := by decide +kernel
theorem dX0_findRings_55 : decode cX0_findRings 55 = .ok (.invokestatic 100, 3) := by decide +kernel
theorem dX0_findRings_58 : decode cX0_findRings 58 = .ok (.ifCond .eq 8, 3) := by decide +kernel
theorem dX0_findRings_61 : decode cX0_findRings 61 = .ok (.aload_n 0, 1) := by decide +kernel
theorem dX0_findRings_62 : decode cX0_findRings 62 = .ok (.iload_n 1, 1) := by decide +kernel
theorem dX0_findRings_63 : decode cX0_findRings 63 = .ok (.invokevirtual 107, 3) := by decide +kernel
theorem dX0_findRings_66 : decode cX0_findRings 66 = .ok (.iinc 1 1, 3) := by decide +kernel
theorem dX0_findRings_69 : decode cX0_findRings 69 = .ok (.goto (-39), 3) := by decide +kernel
theorem dX0_findRings_72 : decode cX0_findRings 72 = .ok (.return_, 1) := by decide +kernel
theorem dX0_nameRing_0 : decode cX0_nameRing 0 = .ok (.iload_n 1, 1) := by decide +kernel
theorem dX0_nameRing_1 : decode cX0_nameRing 1 = .ok (.istore_n 2, 1) := by decide +kernel
theorem dX0_nameRing_2 : decode cX0_nameRing 2 = .ok (.iload_n 2, 1) := by decide +kernel
theorem dX0_nameRing_3 : decode cX0_nameRing 3 = .ok (.aload_n 0, 1) := by decide +kernel
theorem dX0_nameRing_4 : decode cX0_nameRing 4 = .ok (.getfield 34, 3) := by decide +kernel
theorem dX0_nameRing_7 : decode cX0_nameRing 7 = .ok (.if_icmp .ge 45, 3) := by decide +kernel
theorem dX0_nameRing_10 : decode cX0_nameRing 10 = .ok (.aload_n 0, 1) := by decide +kernel
theorem dX0_nameRing_11 : decode cX0_nameRing 11 = .ok (.getfield 25, 3) := by decide +kernel
theorem dX0_nameRing_14 : decode cX0_nameRing 14 = .ok (.iload_n 1, 1) := by decide +kernel
theorem dX0_nameRing_15 : decode cX0_nameRing 15 = .ok (.laload, 1) := by decide +kernel
theorem dX0_nameRing_16 : decode cX0_nameRing 16 = .ok (.iload_n 2, 1) := by decide +kernel
theorem dX0_nameRing_17 : decode cX0_nameRing 17 = .ok (.invokestatic 100, 3) := by decide +kernel
theorem dX0_nameRing_20 : decode cX0_nameRing 20 = .ok (.ifCond .eq 26, 3) := by decide +kernel
theorem dX0_nameRing_23 : decode cX0_nameRing 23 = .ok (.aload_n 0, 1) := by decide +kernel
theorem dX0_nameRing_24 : decode cX0_nameRing 24 = .ok (.getfield 25, 3) := by decide +kernel
theorem dX0_nameRing_27 : decode cX0_nameRing 27 = .ok (.iload_n 2, 1) := by decide +kernel
theorem dX0_nameRing_28 : decode cX0_nameRing 28 = .ok (.laload, 1) := by decide +kernel
theorem dX0_nameRing_29 : decode cX0_nameRing 29 = .ok (.iload_n 1, 1) := by decide +kernel
theorem dX0_nameRing_30 : decode cX0_nameRing 30 = .ok (.invokestatic 100, 3) := by decide +kernel
theorem dX0_nameRing_33 : decode cX0_nameRing 33 = .ok (.ifCond .eq 13, 3) := by decide +kernel
theorem dX0_nameRing_36 : decode cX0_nameRing 36 = .ok (.aload_n 0, 1) := by decide +kernel
theorem dX0_nameRing_37 : decode cX0_nameRing 37 = .ok (.getfield 18, 3) := by decide +kernel
theorem dX0_nameRing_40 : decode cX0_nameRing 40 = .ok (.iload_n 2, 1) := by decide +kernel
theorem dX0_nameRing_41 : decode cX0_nameRing 41 = .ok (.aload_n 0, 1) := by decide +kernel
theorem dX0_nameRing_42 : decode cX0_nameRing 42 = .ok (.getfield 104, 3) := by decide +kernel
theorem dX0_nameRing_45 : decode cX0_nameRing 45 = .ok (.iastore, 1) := by decide +kernel
theorem dX0_nameRing_46 : decode cX0_nameRing 46 = .ok (.iinc 2 1, 3) := by decide +kernel
theorem dX0_nameRing_49 : decode cX0_nameRing 49 = .ok (.goto (-47), 3) := by decide +kernel
theorem dX0_nameRing_52 : decode cX0_nameRing 52 = .ok (.aload_n 0, 1) := by decide +kernel
theorem dX0_nameRing_53 : decode cX0_nameRing 53 = .ok (.dup, 1) := by decide +kernel
theorem dX0_nameRing_54 : decode cX0_nameRing 54 = .ok (.getfield 104, 3) := by decide +kernel
theorem dX0_nameRing_57 : decode cX0_nameRing 57 = .ok (.iconst 1, 1) := by decide +kernel
theorem dX0_nameRing_58 : decode cX0_nameRing 58 = .ok (.iadd, 1) := by decide +kernel
theorem dX0_nameRing_59 : decode cX0_nameRing 59 = .ok (.putfield 104, 3) := by decide +kernel
theorem dX0_nameRing_62 : decode cX0_nameRing 62 = .ok (.return_, 1) := by decide +kernel
theorem dX1_init_0 : decode cX1_init 0 = .ok (.aload_n 0, 1) := by decide +kernel
theorem dX1_init_1 : decode cX1_init 1 = .ok (.invokespecial 3, 3) := by decide +kernel
theorem dX1_init_4 : decode cX1_init 4 = .ok (.aload_n 0, 1) := by decide +kernel
theorem dX1_init_5 : decode cX1_init 5 = .ok (.iconst 5, 1) := by decide +kernel
theorem dX1_init_6 : decode cX1_init 6 = .ok (.anewarray 9, 3) := by decide +kernel
theorem dX1_init_9 : decode cX1_init 9 = .ok (.putfield 11, 3) := by decide +kernel
theorem dX1_init_12 : decode cX1_init 12 = .ok (.iconst 0, 1) := by decide +kernel
theorem dX1_init_13 : decode cX1_init 13 = .ok (.istore_n 1, 1) := by decide +kernel
theorem dX1_init_14 : decode cX1_init 14 = .ok (.iload_n 1, 1) := by decide +kernel
theorem dX1_init_15 : decode cX1_init 15 = .ok (.iconst 5, 1) := by decide +kernel
theorem dX1_init_16 : decode cX1_init 16 = .ok (.if_icmp .ge 22, 3) := by decide +kernel
theorem dX1_init_19 : decode cX1_init 19 = .ok (.aload_n 0, 1) := by decide +kernel
theorem dX1_init_20 : decode cX1_init 20 = .ok (.getfield 11, 3) := by decide +kernel
theorem dX1_init_23 : decode cX1_init 23 = .ok (.iload_n 1, 1) := by decide +kernel
theorem dX1_init_24 : decode cX1_init 24 = .ok (.new 9, 3) := by decide +kernel
theorem dX1_init_27 : decode cX1_init 27 = .ok (.dup, 1) := by decide +kernel
theorem dX1_init_28 : decode cX1_init 28 = .ok (.invokespecial 17, 3) := by decide +kernel
theorem dX1_init_31 : decode cX1_init 31 = .ok (.aastore, 1) := by decide +kernel
theorem dX1_init_32 : decode cX1_init 32 = .ok (.iinc 1 1, 3) := by decide +kernel
theorem dX1_init_35 : decode cX1_init 35 = .ok (.goto (-21), 3) := by decide +kernel
theorem dX1_init_38 : decode cX1_init 38 = .ok (.return_, 1) := by decide +kernel
theorem dX1_keep_0 : decode cX1_keep 0 = .ok (.aload_n 0, 1) := by decide +kernel
theorem dX1_keep_1 : decode cX1_keep 1 = .ok (.getfield 18, 3) := by decide +kernel
theorem dX1_keep_4 : decode cX1_keep 4 = .ok (.iconst 5, 1) := by decide +kernel
theorem dX1_keep_5 : decode cX1_keep 5 = .ok (.if_icmp .ne 7, 3) := by decide +kernel
theorem dX1_keep_8 : decode cX1_keep 8 = .ok (.aload_n 0, 1) := by decide +kernel
theorem dX1_keep_9 : decode cX1_keep 9 = .ok (.invokevirtual 22, 3) := by decide +kernel
theorem dX1_keep_12 : decode cX1_keep 12 = .ok (.aload_n 0, 1) := by decide +kernel
theorem dX1_keep_13 : decode cX1_keep 13 = .ok (.getfield 11, 3) := by decide +kernel
theorem dX1_keep_16 : decode cX1_keep 16 = .ok (.aload_n 0, 1) := by decide +kernel
theorem dX1_keep_17 : decode cX1_keep 17 = .ok (.getfield 18, 3) := by decide +kernel
theorem dX1_keep_20 : decode cX1_keep 20 = .ok (.aaload, 1) := by decide +kernel
theorem dX1_keep_21 : decode cX1_keep 21 = .ok (.aload_n 1, 1) := by decide +kernel
theorem dX1_keep_22 : decode cX1_keep 22 = .ok (.invokevirtual 25, 3) := by decide +kernel
theorem dX1_keep_25 : decode cX1_keep 25 = .ok (.aload_n 0, 1) := by decide +kernel
theorem dX1_keep_26 : decode cX1_keep 26 = .ok (.dup, 1) := by decide +kernel
theorem dX1_keep_27 : decode cX1_keep 27 = .ok (.getfield 18, 3) := by decide +kernel
theorem dX1_keep_30 : decode cX1_keep 30 = .ok (.iconst 1, 1) := by decide +kernel
theorem dX1_keep_31 : decode cX1_keep 31 = .ok (.iadd, 1) := by decide +kernel
theorem dX1_keep_32 : decode cX1_keep 32 = .ok (.putfield 18, 3) := by decide +kernel
theorem dX1_keep_35 : decode cX1_keep 35 = .ok (.return_, 1) := by decide +kernel
theorem dX1_giveBack_0 : decode cX1_giveBack 0 = .ok (.aload_n 0, 1) := by decide +kernel
theorem dX1_giveBack_1 : decode cX1_giveBack 1 = .ok (.dup, 1) := by decide +kernel
theorem dX1_giveBack_2 : decode cX1_giveBack 2 = .ok (.getfield 18, 3) := by decide +kernel
theorem dX1_giveBack_5 : decode cX1_giveBack 5 = .ok (.iconst 1, 1) := by decide +kernel
theorem dX1_giveBack_6 : decode cX1_giveBack 6 = .ok (.isub, 1) := by decide +kernel
theorem dX1_giveBack_7 : decode cX1_giveBack 7 = .ok (.putfield 18, 3) := by decide +kernel
theorem dX1_giveBack_10 : decode cX1_giveBack 10 = .ok (.aload_n 1, 1) := by decide +kernel
theorem dX1_giveBack_11 : decode cX1_giveBack 11 = .ok (.aload_n 0, 1) := by decide +kernel
theorem dX1_giveBack_12 : decode cX1_giveBack 12 = .ok (.getfield 11, 3) := by decide +kernel
theorem dX1_giveBack_15 : decode cX1_giveBack 15 = .ok (.aload_n 0, 1) := by decide +kernel
theorem dX1_giveBack_16 : decode cX1_giveBack 16 = .ok (.getfield 18, 3) := by decide +kernel
theorem dX1_giveBack_19 : decode cX1_giveBack 19 = .ok (.aaload, 1) := by decide +kernel
theorem dX1_giveBack_20 : decode cX1_giveBack 20 = .ok (.invokevirtual 25, 3) := by decide +kernel
theorem dX1_giveBack_23 : decode cX1_giveBack 23 = .ok (.return_, 1) := by decide +kernel
theorem dX1_loseOldest_0 : decode cX1_loseOldest 0 = .ok (.aload_n 0, 1) := by decide +kernel
theorem dX1_loseOldest_1 : decode cX1_loseOldest 1 = .ok (.getfield 11, 3) := by decide +kernel
theorem dX1_loseOldest_4 : decode cX1_loseOldest 4 = .ok (.iconst 0, 1) := by decide +kernel
theorem dX1_loseOldest_5 : decode cX1_loseOldest 5 = .ok (.aaload, 1) := by decide +kernel
theorem dX1_loseOldest_6 : decode cX1_loseOldest 6 = .ok (.astore_n 1, 1) := by decide +kernel
theorem dX1_loseOldest_7 : decode cX1_loseOldest 7 = .ok (.iconst 0, 1) := by decide +kernel
theorem dX1_loseOldest_8 : decode cX1_loseOldest 8 = .ok (.istore_n 2, 1) := by decide +kernel
theorem dX1_loseOldest_9 : decode cX1_loseOldest 9 = .ok (.iload_n 2, 1) := by decide +kernel
theorem dX1_loseOldest_10 : decode cX1_loseOldest 10 = .ok (.iconst 1, 1) := by decide +kernel
theorem dX1_loseOldest_11 : decode cX1_loseOldest 11 = .ok (.iadd, 1) := by decide +kernel
theorem dX1_loseOldest_12 : decode cX1_loseOldest 12 = .ok (.iconst 5, 1) := by decide +kernel
theorem dX1_loseOldest_13 : decode cX1_loseOldest 13 = .ok (.if_icmp .ge 23, 3) := by decide +kernel
theorem dX1_loseOldest_16 : decode cX1_loseOldest 16 = .ok (.aload_n 0, 1) := by decide +kernel
theorem dX1_loseOldest_17 : decode cX1_loseOldest 17 = .ok (.getfield 11, 3) := by decide +kernel
theorem dX1_loseOldest_20 : decode cX1_loseOldest 20 = .ok (.iload_n 2, 1) := by decide +kernel
theorem dX1_loseOldest_21 : decode cX1_loseOldest 21 = .ok (.aload_n 0, 1) := by decide +kernel
theorem dX1_loseOldest_22 : decode cX1_loseOldest 22 = .ok (.getfield 11, 3) := by decide +kernel
theorem dX1_loseOldest_25 : decode cX1_loseOldest 25 = .ok (.iload_n 2, 1) := by decide +kernel
theorem dX1_loseOldest_26 : decode cX1_loseOldest 26 = .ok (.iconst 1, 1) := by decide +kernel
theorem dX1_loseOldest_27 : decode cX1_loseOldest 27 = .ok (.iadd, 1) := by decide +kernel
theorem dX1_loseOldest_28 : decode cX1_loseOldest 28 = .ok (.aaload, 1) := by decide +kernel
theorem dX1_loseOldest_29 : decode cX1_loseOldest 29 = .ok (.aastore, 1) := by decide +kernel
theorem dX1_loseOldest_30 : decode cX1_loseOldest 30 = .ok (.iinc 2 1, 3) := by decide +kernel
theorem dX1_loseOldest_33 : decode cX1_loseOldest 33 = .ok (.goto (-24), 3) := by decide +kernel
theorem dX1_loseOldest_36 : decode cX1_loseOldest 36 = .ok (.aload_n 0, 1) := by decide +kernel
theorem dX1_loseOldest_37 : decode cX1_loseOldest 37 = .ok (.getfield 11, 3) := by decide +kernel
theorem dX1_loseOldest_40 : decode cX1_loseOldest 40 = .ok (.iconst 4, 1) := by decide +kernel
theorem dX1_loseOldest_41 : decode cX1_loseOldest 41 = .ok (.aload_n 1, 1) := by decide +kernel
theorem dX1_loseOldest_42 : decode cX1_loseOldest 42 = .ok (.aastore, 1) := by decide +kernel
theorem dX1_loseOldest_43 : decode cX1_loseOldest 43 = .ok (.aload_n 0, 1) := by decide +kernel
theorem dX1_loseOldest_44 : decode cX1_loseOldest 44 = .ok (.dup, 1) := by decide +kernel
theorem dX1_loseOldest_45 : decode cX1_loseOldest 45 = .ok (.getfield 18, 3) := by decide +kernel
theorem dX1_loseOldest_48 : decode cX1_loseOldest 48 = .ok (.iconst 1, 1) := by decide +kernel
theorem dX1_loseOldest_49 : decode cX1_loseOldest 49 = .ok (.isub, 1) := by decide +kernel
theorem dX1_loseOldest_50 : decode cX1_loseOldest 50 = .ok (.putfield 18, 3) := by decide +kernel
theorem dX1_loseOldest_53 : decode cX1_loseOldest 53 = .ok (.return_, 1) := by decide +kernel
theorem dX2_init_0 : decode cX2_init 0 = .ok (.aload_n 0, 1) := by decide +kernel
theorem dX2_init_1 : decode cX2_init 1 = .ok (.invokespecial 3, 3) := by decide +kernel
theorem dX2_init_4 : decode cX2_init 4 = .ok (.aload_n 0, 1) := by decide +kernel
theorem dX2_init_5 : decode cX2_init 5 = .ok (.bipush 120, 2) := by decide +kernel
theorem dX2_init_7 : decode cX2_init 7 = .ok (.newarray .int, 2) := by decide +kernel
theorem dX2_init_9 : decode cX2_init 9 = .ok (.putfield 9, 3) := by decide +kernel
theorem dX2_init_12 : decode cX2_init 12 = .ok (.aload_n 0, 1) := by decide +kernel
theorem dX2_init_13 : decode cX2_init 13 = .ok (.bipush 60, 2) := by decide +kernel
theorem dX2_init_15 : decode cX2_init 15 = .ok (.newarray .int, 2) := by decide +kernel
theorem dX2_init_17 : decode cX2_init 17 = .ok (.putfield 15, 3) := by decide +kernel
theorem dX2_init_20 : decode cX2_init 20 = .ok (.return_, 1) := by decide +kernel
theorem dX2_append_0 : decode cX2_append 0 = .ok (.aload_n 0, 1) := by decide +kernel
theorem dX2_append_1 : decode cX2_append 1 = .ok (.getfield 18, 3) := by decide +kernel
theorem dX2_append_4 : decode cX2_append 4 = .ok (.bipush 120, 2) := by decide +kernel
theorem dX2_append_6 : decode cX2_append 6 = .ok (.if_icmp .ge 23, 3) := by decide +kernel
theorem dX2_append_9 : decode cX2_append 9 = .ok (.aload_n 0, 1) := by decide +kernel
theorem dX2_append_10 : decode cX2_append 10 = .ok (.getfield 9, 3) := by decide +kernel
theorem dX2_append_13 : decode cX2_append 13 = .ok (.aload_n 0, 1) := by decide +kernel
theorem dX2_append_14 : decode cX2_append 14 = .ok (.getfield 18, 3) := by decide +kernel
theorem dX2_append_17 : decode cX2_append 17 = .ok (.iload_n 1, 1) := by decide +kernel
theorem dX2_append_18 : decode cX2_append 18 = .ok (.iastore, 1) := by decide +kernel
theorem dX2_append_19 : decode cX2_append 19 = .ok (.aload_n 0, 1) := by decide +kernel
theorem dX2_append_20 : decode cX2_append 20 = .ok (.dup, 1) := by decide +kernel
theorem dX2_append_21 : decode cX2_append 21 = .ok (.getfield 18, 3) := by decide +kernel
theorem dX2_append_24 : decode cX2_append 24 = .ok (.iconst 1, 1) := by decide +kernel
theorem dX2_append_25 : decode cX2_append 25 = .ok (.iadd, 1) := by decide +kernel
theorem dX2_append_26 : decode cX2_append 26 = .ok (.putfield 18, 3) := by decide +kernel
theorem dX2_append_29 : decode cX2_append 29 = .ok (.return_, 1) := by decide +kernel
theorem dX2_readRules_0 : decode cX2_readRules 0 = .ok (.aload_n 0, 1) := by decide +kernel
theorem dX2_readRules_1 : decode cX2_readRules 1 = .ok (.iconst 0, 1) := by decide +kernel
theorem dX2_readRules_2 : decode cX2_readRules 2 = .ok (.putfield 22, 3) := by decide +kernel
theorem dX2_readRules_5 : decode cX2_readRules 5 = .ok (.aload_n 1, 1) := by decide +kernel
theorem dX2_readRules_6 : decode cX2_readRules 6 = .ok (.getfield 25, 3) := by decide +kernel
theorem dX2_readRules_9 : decode cX2_readRules 9 = .ok (.istore_n 2, 1) := by decide +kernel
theorem dX2_readRules_10 : decode cX2_readRules 10 = .ok (.iload_n 2, 1) := by decide +kernel
theorem dX2_readRules_11 : decode cX2_readRules 11 = .ok (.iconst 5, 1) := by decide +kernel
theorem dX2_readRules_12 : decode cX2_readRules 12 = .ok (.if_icmp .ge 43, 3) := by decide +kernel
theorem dX2_readRules_15 : decode cX2_readRules 15 = .ok (.aload_n 0, 1) := by decide +kernel
theorem dX2_readRules_16 : decode cX2_readRules 16 = .ok (.aload_n 1, 1) := by decide +kernel
theorem dX2_readRules_17 : decode cX2_readRules 17 = .ok (.getfield 30, 3) := by decide +kernel
theorem dX2_readRules_20 : decode cX2_readRules 20 = .ok (.iload_n 2, 1) := by decide +kernel
theorem dX2_readRules_21 : decode cX2_readRules 21 = .ok (.aaload, 1) := by decide +kernel
theorem dX2_readRules_22 : decode cX2_readRules 22 = .ok (.invokevirtual 34, 3) := by decide +kernel
theorem dX2_readRules_25 : decode cX2_readRules 25 = .ok (.ifCond .ne 5, 3) := by decide +kernel
theorem dX2_readRules_28 : decode cX2_readRules 28 = .ok (.iconst (-1), 1) := by decide +kernel
theorem dX2_readRules_29 : decode cX2_readRules 29 = .ok (.ireturn, 1) := by decide +kernel
theorem dX2_readRules_30 : decode cX2_readRules 30 = .ok (.aload_n 0, 1) := by decide +kernel
theorem dX2_readRules_31 : decode cX2_readRules 31 = .ok (.invokevirtual 38, 3) := by decide +kernel
theorem dX2_readRules_34 : decode cX2_readRules 34 = .ok (.aload_n 0, 1) := by decide +kernel
theorem dX2_readRules_35 : decode cX2_readRules 35 = .ok (.getfield 22, 3) := by decide +kernel
theorem dX2_readRules_38 : decode cX2_readRules 38 = .ok (.aload_n 0, 1) := by decide +kernel
theorem dX2_readRules_39 : decode cX2_readRules 39 = .ok (.getfield 18, 3) := by decide +kernel
theorem dX2_readRules_42 : decode cX2_readRules 42 = .ok (.if_icmp .ne 7, 3) := by decide +kernel
theorem dX2_readRules_45 : decode cX2_readRules 45 = .ok (.iload_n 2, 1) := by decide +kernel
theorem dX2_readRules_46 : decode cX2_readRules 46 = .ok (.iconst 1, 1) := by decide +kernel
theorem dX2_readRules_47 : decode cX2_readRules 47 = .ok (.iadd, 1) := by decide +kernel
theorem dX2_readRules_48 : decode cX2_readRules 48 = .ok (.ireturn, 1) := by decide +kernel
theorem dX2_readRules_49 : decode cX2_readRules 49 = .ok (.iinc 2 1, 3) := by decide +kernel
theorem dX2_readRules_52 : decode cX2_readRules 52 = .ok (.goto (-42), 3) := by decide +kernel
theorem dX2_readRules_55 : decode cX2_readRules 55 = .ok (.aload_n 0, 1) := by decide +kernel
theorem dX2_readRules_56 : decode cX2_readRules 56 = .ok (.invokevirtual 38, 3) := by decide +kernel
theorem dX2_readRules_59 : decode cX2_readRules 59 = .ok (.iconst (-1), 1) := by decide +kernel
theorem dX2_readRules_60 : decode cX2_readRules 60 = .ok (.ireturn, 1) := by decide +kernel
theorem dX2_readWhole_0 : decode cX2_readWhole 0 = .ok (.aload_n 0, 1) := by decide +kernel
theorem dX2_readWhole_1 : decode cX2_readWhole 1 = .ok (.iconst 0, 1) := by decide +kernel
theorem dX2_readWhole_2 : decode cX2_readWhole 2 = .ok (.putfield 22, 3) := by decide +kernel
theorem dX2_readWhole_5 : decode cX2_readWhole 5 = .ok (.aload_n 0, 1) := by decide +kernel
theorem dX2_readWhole_6 : decode cX2_readWhole 6 = .ok (.aload_n 1, 1) := by decide +kernel
theorem dX2_readWhole_7 : decode cX2_readWhole 7 = .ok (.bipush 60, 2) := by decide +kernel
theorem dX2_readWhole_9 : decode cX2_readWhole 9 = .ok (.iconst 3, 1) := by decide +kernel
theorem dX2_readWhole_10 : decode cX2_readWhole 10 = .ok (.iconst 3, 1) := by decide +kernel
theorem dX2_readWhole_11 : decode cX2_readWhole 11 = .ok (.invokevirtual 41, 3) := by decide +kernel
theorem dX2_readWhole_14 : decode cX2_readWhole 14 = .ok (.ifCond .ne 5, 3) := by decide +kernel
theorem dX2_readWhole_17 : decode cX2_readWhole 17 = .ok (.iconst 0, 1) := by decide +kernel
theorem dX2_readWhole_18 : decode cX2_readWhole 18 = .ok (.ireturn, 1) := by decide +kernel
theorem dX2_readWhole_19 : decode cX2_readWhole 19 = .ok (.aload_n 0, 1) := by decide +kernel
theorem dX2_readWhole_20 : decode cX2_readWhole 20 = .ok (.invokevirtual 38, 3) := by decide +kernel
theorem dX2_readWhole_23 : decode cX2_readWhole 23 = .ok (.aload_n 0, 1) := by decide +kernel
theorem dX2_readWhole_24 : decode cX2_readWhole 24 = .ok (.getfield 22, 3) := by decide +kernel
theorem dX2_readWhole_27 : decode cX2_readWhole 27 = .ok (.aload_n 0, 1) := by decide +kernel
theorem dX2_readWhole_28 : decode cX2_readWhole 28 = .ok (.getfield 18, 3) := by decide +kernel
theorem dX2_readWhole_31 : decode cX2_readWhole 31 = .ok (.if_icmp .ne 7, 3) := by decide +kernel
theorem dX2_readWhole_34 : decode cX2_readWhole 34 = .ok (.iconst 1, 1) := by decide +kernel
theorem dX2_readWhole_35 : decode cX2_readWhole 35 = .ok (.goto 4, 3) := by decide +kernel
theorem dX2_readWhole_38 : decode cX2_readWhole 38 = .ok (.iconst 0, 1) := by decide +kernel
theorem dX2_readWhole_39 : decode cX2_readWhole 39 = .ok (.ireturn, 1) := by decide +kernel
theorem dX2_readRule_0 : decode cX2_readRule 0 = .ok (.aload_n 0, 1) := by decide +kernel
theorem dX2_readRule_1 : decode cX2_readRule 1 = .ok (.aload_n 1, 1) := by decide +kernel
theorem dX2_readRule_2 : decode cX2_readRule 2 = .ok (.getfield 45, 3) := by decide +kernel
theorem dX2_readRule_5 : decode cX2_readRule 5 = .ok (.bipush 12, 2) := by decide +kernel
theorem dX2_readRule_7 : decode cX2_readRule 7 = .ok (.iconst 0, 1) := by decide +kernel
theorem dX2_readRule_8 : decode cX2_readRule 8 = .ok (.iconst 3, 1) := by decide +kernel
theorem dX2_readRule_9 : decode cX2_readRule 9 = .ok (.invokevirtual 41, 3) := by decide +kernel
theorem dX2_readRule_12 : decode cX2_readRule 12 = .ok (.ifCond .eq 12, 3) := by decide +kernel
theorem dX2_readRule_15 : decode cX2_readRule 15 = .ok (.aload_n 0, 1) := by decide +kernel
theorem dX2_readRule_16 : decode cX2_readRule 16 = .ok (.bipush 62, 2) := by decide +kernel
theorem dX2_readRule_18 : decode cX2_readRule 18 = .ok (.invokevirtual 51, 3) := by decide +kernel
theorem dX2_readRule_21 : decode cX2_readRule 21 = .ok (.ifCond .ne 5, 3) := by decide +kernel
theorem dX2_readRule_24 : decode cX2_readRule 24 = .ok (.iconst 0, 1) := by decide +kernel
theorem dX2_readRule_25 : decode cX2_readRule 25 = .ok (.ireturn, 1) := by decide +kernel
theorem dX2_readRule_26 : decode cX2_readRule 26 = .ok (.aload_n 1, 1) := by decide +kernel
theorem dX2_readRule_27 : decode cX2_readRule 27 = .ok (.getfield 45, 3) := by decide +kernel
theorem dX2_readRule_30 : decode cX2_readRule 30 = .ok (.invokevirtual 55, 3) := by decide +kernel
theorem dX2_readRule_33 : decode cX2_readRule 33 = .ok (.istore_n 2, 1) := by decide +kernel
theorem dX2_readRule_34 : decode cX2_readRule 34 = .ok (.aload_n 0, 1) := by decide +kernel
theorem dX2_readRule_35 : decode cX2_readRule 35 = .ok (.aload_n 1, 1) := by decide +kernel
theorem dX2_readRule_36 : decode cX2_readRule 36 = .ok (.getfield 61, 3) := by decide +kernel
theorem dX2_readRule_39 : decode cX2_readRule 39 = .ok (.bipush 12, 2) := by decide +kernel
theorem dX2_readRule_41 : decode cX2_readRule 41 = .ok (.iload_n 2, 1) := by decide +kernel
theorem dX2_readRule_42 : decode cX2_readRule 42 = .ok (.iload_n 2, 1) := by decide +kernel
theorem dX2_readRule_43 : decode cX2_readRule 43 = .ok (.invokevirtual 41, 3) := by decide +kernel
theorem dX2_readRule_46 : decode cX2_readRule 46 = .ok (.ifCond .eq 16, 3) := by decide +kernel
theorem dX2_readRule_49 : decode cX2_readRule 49 = .ok (.aload_n 0, 1) := by decide +kernel
theorem dX2_readRule_50 : decode cX2_readRule 50 = .ok (.bipush 59, 2) := by decide +kernel
theorem dX2_readRule_52 : decode cX2_readRule 52 = .ok (.invokevirtual 51, 3) := by decide +kernel
theorem dX2_readRule_55 : decode cX2_readRule 55 = .ok (.ifCond .eq 7, 3) := by decide +kernel
theorem dX2_readRule_58 : decode cX2_readRule 58 = .ok (.iconst 1, 1) := by decide +kernel
theorem dX2_readRule_59 : decode cX2_readRule 59 = .ok (.goto 4, 3) := by decide +kernel
theorem dX2_readRule_62 : decode cX2_readRule 62 = .ok (.iconst 0, 1) := by decide +kernel
theorem dX2_readRule_63 : decode cX2_readRule 63 = .ok (.ireturn, 1) := by decide +kernel
theorem dX2_readTerm_0 : decode cX2_readTerm 0 = .ok (.aload_n 1, 1) := by decide +kernel
theorem dX2_readTerm_1 : decode cX2_readTerm 1 = .ok (.iconst 0, 1) := by decide +kernel
theorem dX2_readTerm_2 : decode cX2_readTerm 2 = .ok (.putfield 64, 3) := by decide +kernel
theorem dX2_readTerm_5 : decode cX2_readTerm 5 = .ok (.aload_n 0, 1) := by decide +kernel
theorem dX2_readTerm_6 : decode cX2_readTerm 6 = .ok (.iconst 0, 1) := by decide +kernel
theorem dX2_readTerm_7 : decode cX2_readTerm 7 = .ok (.putfield 67, 3) := by decide +kernel
theorem dX2_readTerm_10 : decode cX2_readTerm 10 = .ok (.iconst 0, 1) := by decide +kernel
theorem dX2_readTerm_11 : decode cX2_readTerm 11 = .ok (.istore 5, 2) := by decide +kernel
theorem dX2_readTerm_13 : decode cX2_readTerm 13 = .ok (.iload 5, 2) := by decide +kernel
theorem dX2_readTerm_15 : decode cX2_readTerm 15 = .ok (.iload_n 2, 1) := by decide +kernel
theorem dX2_readTerm_16 : decode cX2_readTerm 16 = .ok (.if_icmp .ge 81, 3) := by decide +kernel
theorem dX2_readTerm_19 : decode cX2_readTerm 19 = .ok (.aload_n 0, 1) := by decide +kernel
theorem dX2_readTerm_20 : decode cX2_readTerm 20 = .ok (.aload_n 1, 1) := by decide +kernel
theorem dX2_readTerm_21 : decode cX2_readTerm 21 = .ok (.iload 5, 2) := by decide +kernel
theorem dX2_readTerm_23 : decode cX2_readTerm 23 = .ok (.ifCond .ne 7, 3) := by decide +kernel
theorem dX2_readTerm_26 : decode cX2_readTerm 26 = .ok (.iload_n 3, 1) := by decide +kernel
theorem dX2_readTerm_27 : decode cX2_readTerm 27 = .ok (.goto 5, 3) := by decide +kernel
theorem dX2_readTerm_30 : decode cX2_readTerm 30 = .ok (.iload 4, 2) := by decide +kernel
theorem dX2_readTerm_32 : decode cX2_readTerm 32 = .ok (.invokevirtual 70, 3) := by decide +kernel
theorem dX2_readTerm_35 : decode cX2_readTerm 35 = .ok (.ifCond .ne 5, 3) := by decide +kernel
theorem dX2_readTerm_38 : decode cX2_readTerm 38 = .ok (.iconst 0, 1) := by decide +kernel
theorem dX2_readTerm_39 : decode cX2_readTerm 39 = .ok (.ireturn, 1) := by decide +kernel
theorem dX2_readTerm_40 : decode cX2_readTerm 40 = .ok (.aload_n 1, 1) := by decide +kernel
theorem dX2_readTerm_41 : decode cX2_readTerm 41 = .ok (.getfield 74, 3) := by decide +kernel
theorem dX2_readTerm_44 : decode cX2_readTerm 44 = .ok (.iload 5, 2) := by decide +kernel
theorem dX2_readTerm_46 : decode cX2_readTerm 46 = .ok (.iaload, 1) := by decide +kernel
theorem dX2_readTerm_47 : decode cX2_readTerm 47 = .ok (.invokestatic 77, 3) := by decide +kernel
theorem dX2_readTerm_50 : decode cX2_readTerm 50 = .ok (.istore 6, 2) := by decide +kernel
theorem dX2_readTerm_52 : decode cX2_readTerm 52 = .ok (.iload 6, 2) := by decide +kernel
theorem dX2_readTerm_54 : decode cX2_readTerm 54 = .ok (.ifCond .le 15, 3) := by decide +kernel
theorem dX2_readTerm_57 : decode cX2_readTerm 57 = .ok (.aload_n 0, 1) := by decide +kernel
theorem dX2_readTerm_58 : decode cX2_readTerm 58 = .ok (.iload 6, 2) := by decide +kernel
theorem dX2_readTerm_60 : decode cX2_readTerm 60 = .ok (.invokevirtual 81, 3) := by decide +kernel
theorem dX2_readTerm_63 : decode cX2_readTerm 63 = .ok (.ifCond .ne 15, 3) := by decide +kernel
theorem dX2_readTerm_66 : decode cX2_readTerm 66 = .ok (.goto 10, 3) := by decide +kernel
theorem dX2_readTerm_69 : decode cX2_readTerm 69 = .ok (.aload_n 0, 1) := by decide +kernel
theorem dX2_readTerm_70 : decode cX2_readTerm 70 = .ok (.invokevirtual 84, 3) := by decide +kernel
theorem dX2_readTerm_73 : decode cX2_readTerm 73 = .ok (.ifCond .ne 5, 3) := by decide +kernel
theorem dX2_readTerm_76 : decode cX2_readTerm 76 = .ok (.iconst 0, 1) := by decide +kernel
theorem dX2_readTerm_77 : decode cX2_readTerm 77 = .ok (.ireturn, 1) := by decide +kernel
theorem dX2_readTerm_78 : decode cX2_readTerm 78 = .ok (.aload_n 0, 1) := by decide +kernel
theorem dX2_readTerm_79 : decode cX2_readTerm 79 = .ok (.getfield 67, 3) := by decide +kernel
theorem dX2_readTerm_82 : decode cX2_readTerm 82 = .ok (.ifCond .ne 9, 3) := by decide +kernel
theorem dX2_readTerm_85 : decode cX2_readTerm 85 = .ok (.aload_n 1, 1) := by decide +kernel
theorem dX2_readTerm_86 : decode cX2_readTerm 86 = .ok (.invokevirtual 88, 3) := by decide +kernel
theorem dX2_readTerm_89 : decode cX2_readTerm 89 = .ok (.iconst 1, 1) := by decide +kernel
theorem dX2_readTerm_90 : decode cX2_readTerm 90 = .ok (.ireturn, 1) := by decide +kernel
theorem dX2_readTerm_91 : decode cX2_readTerm 91 = .ok (.iinc 5 1, 3) := by decide +kernel
theorem dX2_readTerm_94 : decode cX2_readTerm 94 = .ok (.goto (-81), 3) := by decide +kernel
theorem dX2_readTerm_97 : decode cX2_readTerm 97 = .ok (.aload_n 0, 1) := by decide +kernel
theorem dX2_readTerm_98 : decode cX2_readTerm 98 = .ok (.invokevirtual 38, 3) := by decide +kernel
theorem dX2_readTerm_101 : decode cX2_readTerm 101 = .ok (.iconst 0, 1) := by decide +kernel
theorem dX2_readTerm_102 : decode cX2_readTerm 102 = .ok (.ireturn, 1) := by decide +kernel
theorem dX2_readLetter_0 : decode cX2_readLetter 0 = .ok (.aload_n 0, 1) := by decide +kernel
theorem dX2_readLetter_1 : decode cX2_readLetter 1 = .ok (.invokevirtual 38, 3) := by decide +kernel
theorem dX2_readLetter_4 : decode cX2_readLetter 4 = .ok (.aload_n 0, 1) := by decide +kernel
theorem dX2_readLetter_5 : decode cX2_readLetter 5 = .ok (.getfield 22, 3) := by decide +kernel
theorem dX2_readLetter_8 : decode cX2_readLetter 8 = .ok (.aload_n 0, 1) := by decide +kernel
theorem dX2_readLetter_9 : decode cX2_readLetter 9 = .ok (.getfield 18, 3) := by decide +kernel
theorem dX2_readLetter_12 : decode cX2_readLetter 12 = .ok (.if_icmp .ge 19, 3) := by decide +kernel
theorem dX2_readLetter_15 : decode cX2_readLetter 15 = .ok (.aload_n 0, 1) := by decide +kernel
theorem dX2_readLetter_16 : decode cX2_readLetter 16 = .ok (.getfield 9, 3) := by decide +kernel
theorem dX2_readLetter_19 : decode cX2_readLetter 19 = .ok (.aload_n 0, 1) := by decide +kernel
theorem dX2_readLetter_20 : decode cX2_readLetter 20 = .ok (.getfield 22, 3) := by decide +kernel
theorem dX2_readLetter_23 : decode cX2_readLetter 23 = .ok (.iaload, 1) := by decide +kernel
theorem dX2_readLetter_24 : decode cX2_readLetter 24 = .ok (.invokestatic 91, 3) := by decide +kernel
theorem dX2_readLetter_27 : decode cX2_readLetter 27 = .ok (.iconst (-1), 1) := by decide +kernel
theorem dX2_readLetter_28 : decode cX2_readLetter 28 = .ok (.if_icmp .ne 5, 3) := by decide +kernel
theorem dX2_readLetter_31 : decode cX2_readLetter 31 = .ok (.iconst 0, 1) := by decide +kernel
theorem dX2_readLetter_32 : decode cX2_readLetter 32 = .ok (.ireturn, 1) := by decide +kernel
theorem dX2_readLetter_33 : decode cX2_readLetter 33 = .ok (.aload_n 0, 1) := by decide +kernel
theorem dX2_readLetter_34 : decode cX2_readLetter 34 = .ok (.getfield 9, 3) := by decide +kernel
theorem dX2_readLetter_37 : decode cX2_readLetter 37 = .ok (.aload_n 0, 1) := by decide +kernel
theorem dX2_readLetter_38 : decode cX2_readLetter 38 = .ok (.getfield 22, 3) := by decide +kernel
theorem dX2_readLetter_41 : decode cX2_readLetter 41 = .ok (.iaload, 1) := by decide +kernel
theorem dX2_readLetter_42 : decode cX2_readLetter 42 = .ok (.invokestatic 94, 3) := by decide +kernel
theorem dX2_readLetter_45 : decode cX2_readLetter 45 = .ok (.istore_n 3, 1) := by decide +kernel
theorem dX2_readLetter_46 : decode cX2_readLetter 46 = .ok (.iload_n 3, 1) := by decide +kernel
theorem dX2_readLetter_47 : decode cX2_readLetter 47 = .ok (.iload_n 2, 1) := by decide +kernel
theorem dX2_readLetter_48 : decode cX2_readLetter 48 = .ok (.iand, 1) := by decide +kernel
theorem dX2_readLetter_49 : decode cX2_readLetter 49 = .ok (.iload_n 3, 1) := by decide +kernel
theorem dX2_readLetter_50 : decode cX2_readLetter 50 = .ok (.if_icmp .eq 5, 3) := by decide +kernel
theorem dX2_readLetter_53 : decode cX2_readLetter 53 = .ok (.iconst 0, 1) := by decide +kernel
theorem dX2_readLetter_54 : decode cX2_readLetter 54 = .ok (.ireturn, 1) := by decide +kernel
theorem dX2_readLetter_55 : decode cX2_readLetter 55 = .ok (.aload_n 1, 1) := by decide +kernel
theorem dX2_readLetter_56 : decode cX2_readLetter 56 = .ok (.aload_n 0, 1) := by decide +kernel
theorem dX2_readLetter_57 : decode cX2_readLetter 57 = .ok (.getfield 9, 3) := by decide +kernel
theorem dX2_readLetter_60 : decode cX2_readLetter 60 = .ok (.aload_n 0, 1) := by decide +kernel
theorem dX2_readLetter_61 : decode cX2_readLetter 61 = .ok (.getfield 22, 3) := by decide +kernel
theorem dX2_readLetter_64 : decode cX2_readLetter 64 = .ok (.iaload, 1) := by decide +kernel
theorem dX2_readLetter_65 : decode cX2_readLetter 65 = .ok (.invokevirtual 97, 3) := by decide +kernel
theorem dX2_readLetter_68 : decode cX2_readLetter 68 = .ok (.aload_n 0, 1) := by decide +kernel
theorem dX2_readLetter_69 : decode cX2_readLetter 69 = .ok (.dup, 1) := by decide +kernel
theorem dX2_readLetter_70 : decode cX2_readLetter 70 = .ok (.getfield 22, 3) := by decide +kernel
theorem dX2_readLetter_73 : decode cX2_readLetter 73 = .ok (.iconst 1, 1) := by decide +kernel
theorem dX2_readLetter_74 : decode cX2_readLetter 74 = .ok (.iadd, 1) := by decide +kernel
theorem dX2_readLetter_75 : decode cX2_readLetter 75 = .ok (.putfield 22, 3) := by decide +kernel
theorem dX2_readLetter_78 : decode cX2_readLetter 78 = .ok (.iconst 1, 1) := by decide +kernel
theorem dX2_readLetter_79 : decode cX2_readLetter 79 = .ok (.ireturn, 1) := by decide +kernel
theorem dX2_opens_0 : decode cX2_opens 0 = .ok (.aload_n 0, 1) := by decide +kernel
theorem dX2_opens_1 : decode cX2_opens 1 = .ok (.getfield 67, 3) := by decide +kernel
theorem dX2_opens_4 : decode cX2_opens 4 = .ok (.bipush 60, 2) := by decide +kernel
theorem dX2_opens_6 : decode cX2_opens 6 = .ok (.if_icmp .ge 12, 3) := by decide +kernel
theorem dX2_opens_9 : decode cX2_opens 9 = .ok (.aload_n 0, 1) := by decide +kernel
theorem dX2_opens_10 : decode cX2_opens 10 = .ok (.bipush 40, 2) := by decide +kernel
theorem dX2_opens_12 : decode cX2_opens 12 = .ok (.invokevirtual 51, 3) := by decide +kernel
theorem dX2_opens_15 : decode cX2_opens 15 = .ok (.ifCond .ne 5, 3) := by decide +kernel
theorem dX2_opens_18 : decode cX2_opens 18 = .ok (.iconst 0, 1) := by decide +kernel
theorem dX2_opens_19 : decode cX2_opens 19 = .ok (.ireturn, 1) := by decide +kernel
theorem dX2_opens_20 : decode cX2_opens 20 = .ok (.aload_n 0, 1) := by decide +kernel
theorem dX2_opens_21 : decode cX2_opens 21 = .ok (.getfield 15, 3) := by decide +kernel
theorem dX2_opens_24 : decode cX2_opens 24 = .ok (.aload_n 0, 1) := by decide +kernel
theorem dX2_opens_25 : decode cX2_opens 25 = .ok (.getfield 67, 3) := by decide +kernel
theorem dX2_opens_28 : decode cX2_opens 28 = .ok (.iload_n 1, 1) := by decide +kernel
theorem dX2_opens_29 : decode cX2_opens 29 = .ok (.iastore, 1) := by decide +kernel
theorem dX2_opens_30 : decode cX2_opens 30 = .ok (.aload_n 0, 1) := by decide +kernel
theorem dX2_opens_31 : decode cX2_opens 31 = .ok (.dup, 1) := by decide +kernel
theorem dX2_opens_32 : decode cX2_opens 32 = .ok (.getfield 67, 3) := by decide +kernel
theorem dX2_opens_35 : decode cX2_opens 35 = .ok (.iconst 1, 1) := by decide +kernel
theorem dX2_opens_36 : decode cX2_opens 36 = .ok (.iadd, 1) := by decide +kernel
theorem dX2_opens_37 : decode cX2_opens 37 = .ok (.putfield 67, 3) := by decide +kernel
theorem dX2_opens_40 : decode cX2_opens 40 = .ok (.iconst 1, 1) := by decide +kernel
theorem dX2_opens_41 : decode cX2_opens 41 = .ok (.ireturn, 1) := by decide +kernel
theorem dX2_closes_0 : decode cX2_closes 0 = .ok (.aload_n 0, 1) := by decide +kernel
theorem dX2_closes_1 : decode cX2_closes 1 = .ok (.getfield 67, 3) := by decide +kernel
theorem dX2_closes_4 : decode cX2_closes 4 = .ok (.ifCond .le 63, 3) := by decide +kernel
theorem dX2_closes_7 : decode cX2_closes 7 = .ok (.aload_n 0, 1) := by decide +kernel
theorem dX2_closes_8 : decode cX2_closes 8 = .ok (.getfield 15, 3) := by decide +kernel
theorem dX2_closes_11 : decode cX2_closes 11 = .ok (.aload_n 0, 1) := by decide +kernel
theorem dX2_closes_12 : decode cX2_closes 12 = .ok (.getfield 67, 3) := by decide +kernel
theorem dX2_closes_15 : decode cX2_closes 15 = .ok (.iconst 1, 1) := by decide +kernel
theorem dX2_closes_16 : decode cX2_closes 16 = .ok (.isub, 1) := by decide +kernel
theorem dX2_closes_17 : decode cX2_closes 17 = .ok (.dup2, 1) := by decide +kernel
theorem dX2_closes_18 : decode cX2_closes 18 = .ok (.iaload, 1) := by decide +kernel
theorem dX2_closes_19 : decode cX2_closes 19 = .ok (.iconst 1, 1) := by decide +kernel
theorem dX2_closes_20 : decode cX2_closes 20 = .ok (.isub, 1) := by decide +kernel
theorem dX2_closes_21 : decode cX2_closes 21 = .ok (.iastore, 1) := by decide +kernel
theorem dX2_closes_22 : decode cX2_closes 22 = .ok (.aload_n 0, 1) := by decide +kernel
theorem dX2_closes_23 : decode cX2_closes 23 = .ok (.getfield 15, 3) := by decide +kernel
theorem dX2_closes_26 : decode cX2_closes 26 = .ok (.aload_n 0, 1) := by decide +kernel
theorem dX2_closes_27 : decode cX2_closes 27 = .ok (.getfield 67, 3) := by decide +kernel
theorem dX2_closes_30 : decode cX2_closes 30 = .ok (.iconst 1, 1) := by decide +kernel
theorem dX2_closes_31 : decode cX2_closes 31 = .ok (.isub, 1) := by decide +kernel
theorem dX2_closes_32 : decode cX2_closes 32 = .ok (.iaload, 1) := by decide +kernel
theorem dX2_closes_33 : decode cX2_closes 33 = .ok (.ifCond .le 10, 3) := by decide +kernel
theorem dX2_closes_36 : decode cX2_closes 36 = .ok (.aload_n 0, 1) := by decide +kernel
theorem dX2_closes_37 : decode cX2_closes 37 = .ok (.bipush 44, 2) := by decide +kernel
theorem dX2_closes_39 : decode cX2_closes 39 = .ok (.invokevirtual 51, 3) := by decide +kernel
theorem dX2_closes_42 : decode cX2_closes 42 = .ok (.ireturn, 1) := by decide +kernel
theorem dX2_closes_43 : decode cX2_closes 43 = .ok (.aload_n 0, 1) := by decide +kernel
theorem dX2_closes_44 : decode cX2_closes 44 = .ok (.bipush 41, 2) := by decide +kernel
theorem dX2_closes_46 : decode cX2_closes 46 = .ok (.invokevirtual 51, 3) := by decide +kernel
theorem dX2_closes_49 : decode cX2_closes 49 = .ok (.ifCond .ne 5, 3) := by decide +kernel
theorem dX2_closes_52 : decode cX2_closes 52 = .ok (.iconst 0, 1) := by decide +kernel
theorem dX2_closes_53 : decode cX2_closes 53 = .ok (.ireturn, 1) := by decide +kernel
theorem dX2_closes_54 : decode cX2_closes 54 = .ok (.aload_n 0, 1) := by decide +kernel
theorem dX2_closes_55 : decode cX2_closes 55 = .ok (.dup, 1) := by decide +kernel
theorem dX2_closes_56 : decode cX2_closes 56 = .ok (.getfield 67, 3) := by decide +kernel
theorem dX2_closes_59 : decode cX2_closes 59 = .ok (.iconst 1, 1) := by decide +kernel
theorem dX2_closes_60 : decode cX2_closes 60 = .ok (.isub, 1) := by decide +kernel
theorem dX2_closes_61 : decode cX2_closes 61 = .ok (.putfield 67, 3) := by decide +kernel
theorem dX2_closes_64 : decode cX2_closes 64 = .ok (.goto (-64), 3) := by decide +kernel
theorem dX2_closes_67 : decode cX2_closes 67 = .ok (.iconst 1, 1) := by decide +kernel
theorem dX2_closes_68 : decode cX2_closes 68 = .ok (.ireturn, 1) := by decide +kernel
theorem dX2_takes_0 : decode cX2_takes 0 = .ok (.aload_n 0, 1) := by decide +kernel
theorem dX2_takes_1 : decode cX2_takes 1 = .ok (.invokevirtual 38, 3) := by decide +kernel
theorem dX2_takes_4 : decode cX2_takes 4 = .ok (.aload_n 0, 1) := by decide +kernel
theorem dX2_takes_5 : decode cX2_takes 5 = .ok (.getfield 22, 3) := by decide +kernel
theorem dX2_takes_8 : decode cX2_takes 8 = .ok (.aload_n 0, 1) := by decide +kernel
theorem dX2_takes_9 : decode cX2_takes 9 = .ok (.getfield 18, 3) := by decide +kernel
theorem dX2_takes_12 : decode cX2_takes 12 = .ok (.if_icmp .ge 16, 3) := by decide +kernel
theorem dX2_takes_15 : decode cX2_takes 15 = .ok (.aload_n 0, 1) := by decide +kernel
theorem dX2_takes_16 : decode cX2_takes 16 = .ok (.getfield 9, 3) := by decide +kernel
theorem dX2_takes_19 : decode cX2_takes 19 = .ok (.aload_n 0, 1) := by decide +kernel
theorem dX2_takes_20 : decode cX2_takes 20 = .ok (.getfield 22, 3) := by decide +kernel
theorem dX2_takes_23 : decode cX2_takes 23 = .ok (.iaload, 1) := by decide +kernel
theorem dX2_takes_24 : decode cX2_takes 24 = .ok (.iload_n 1, 1) := by decide +kernel
theorem dX2_takes_25 : decode cX2_takes 25 = .ok (.if_icmp .eq 5, 3) := by decide +kernel
theorem dX2_takes_28 : decode cX2_takes 28 = .ok (.iconst 0, 1) := by decide +kernel
theorem dX2_takes_29 : decode cX2_takes 29 = .ok (.ireturn, 1) := by decide +kernel
theorem dX2_takes_30 : decode cX2_takes 30 = .ok (.aload_n 0, 1) := by decide +kernel
theorem dX2_takes_31 : decode cX2_takes 31 = .ok (.dup, 1) := by decide +kernel
theorem dX2_takes_32 : decode cX2_takes 32 = .ok (.getfield 22, 3) := by decide +kernel
theorem dX2_takes_35 : decode cX2_takes 35 = .ok (.iconst 1, 1) := by decide +kernel
theorem dX2_takes_36 : decode cX2_takes 36 = .ok (.iadd, 1) := by decide +kernel
theorem dX2_takes_37 : decode cX2_takes 37 = .ok (.putfield 22, 3) := by decide +kernel
theorem dX2_takes_40 : decode cX2_takes 40 = .ok (.iconst 1, 1) := by decide +kernel
theorem dX2_takes_41 : decode cX2_takes 41 = .ok (.ireturn, 1) := by decide +kernel
theorem dX2_skipBlanks_0 : decode cX2_skipBlanks 0 = .ok (.aload_n 0, 1) := by decide +kernel
theorem dX2_skipBlanks_1 : decode cX2_skipBlanks 1 = .ok (.getfield 22, 3) := by decide +kernel
theorem dX2_skipBlanks_4 : decode cX2_skipBlanks 4 = .ok (.aload_n 0, 1) := by decide +kernel
theorem dX2_skipBlanks_5 : decode cX2_skipBlanks 5 = .ok (.getfield 18, 3) := by decide +kernel
theorem dX2_skipBlanks_8 : decode cX2_skipBlanks 8 = .ok (.if_icmp .ge 30, 3) := by decide +kernel
theorem dX2_skipBlanks_11 : decode cX2_skipBlanks 11 = .ok (.aload_n 0, 1) := by decide +kernel
theorem dX2_skipBlanks_12 : decode cX2_skipBlanks 12 = .ok (.getfield 9, 3) := by decide +kernel
theorem dX2_skipBlanks_15 : decode cX2_skipBlanks 15 = .ok (.aload_n 0, 1) := by decide +kernel
theorem dX2_skipBlanks_16 : decode cX2_skipBlanks 16 = .ok (.getfield 22, 3) := by decide +kernel
theorem dX2_skipBlanks_19 : decode cX2_skipBlanks 19 = .ok (.iaload, 1) := by decide +kernel
theorem dX2_skipBlanks_20 : decode cX2_skipBlanks 20 = .ok (.bipush 32, 2) := by decide +kernel
theorem dX2_skipBlanks_22 : decode cX2_skipBlanks 22 = .ok (.if_icmp .ne 16, 3) := by decide +kernel
theorem dX2_skipBlanks_25 : decode cX2_skipBlanks 25 = .ok (.aload_n 0, 1) := by decide +kernel
theorem dX2_skipBlanks_26 : decode cX2_skipBlanks 26 = .ok (.dup, 1) := by decide +kernel
theorem dX2_skipBlanks_27 : decode cX2_skipBlanks 27 = .ok (.getfield 22, 3) := by decide +kernel
theorem dX2_skipBlanks_30 : decode cX2_skipBlanks 30 = .ok (.iconst 1, 1) := by decide +kernel
theorem dX2_skipBlanks_31 : decode cX2_skipBlanks 31 = .ok (.iadd, 1) := by decide +kernel
theorem dX2_skipBlanks_32 : decode cX2_skipBlanks 32 = .ok (.putfield 22, 3) := by decide +kernel
theorem dX2_skipBlanks_35 : decode cX2_skipBlanks 35 = .ok (.goto (-35), 3) := by decide +kernel
theorem dX2_skipBlanks_38 : decode cX2_skipBlanks 38 = .ok (.return_, 1) := by decide +kernel
theorem dX3_init_0 : decode cX3_init 0 = .ok (.aload_n 0, 1) := by decide +kernel
theorem dX3_init_1 : decode cX3_init 1 = .ok (.invokespecial 3, 3) := by decide +kernel
theorem dX3_init_4 : decode cX3_init 4 = .ok (.aload_n 0, 1) := by decide +kernel
theorem dX3_init_5 : decode cX3_init 5 = .ok (.new 9, 3) := by decide +kernel
theorem dX3_init_8 : decode cX3_init 8 = .ok (.dup, 1) := by decide +kernel
theorem dX3_init_9 : decode cX3_init 9 = .ok (.bipush 12, 2) := by decide +kernel
theorem dX3_init_11 : decode cX3_init 11 = .ok (.invokespecial 11, 3) := by decide +kernel
theorem dX3_init_14 : decode cX3_init 14 = .ok (.putfield 14, 3) := by decide +kernel
theorem dX3_init_17 : decode cX3_init 17 = .ok (.aload_n 0, 1) := by decide +kernel
theorem dX3_init_18 : decode cX3_init 18 = .ok (.new 9, 3) := by decide +kernel
theorem dX3_init_21 : decode cX3_init 21 = .ok (.dup, 1) := by decide +kernel
theorem dX3_init_22 : decode cX3_init 22 = .ok (.bipush 12, 2) := by decide +kernel
theorem dX3_init_24 : decode cX3_init 24 = .ok (.invokespecial 11, 3) := by decide +kernel
theorem dX3_init_27 : decode cX3_init 27 = .ok (.putfield 20, 3) := by decide +kernel
theorem dX3_init_30 : decode cX3_init 30 = .ok (.return_, 1) := by decide +kernel
theorem dX3_copyFrom_0 : decode cX3_copyFrom 0 = .ok (.aload_n 0, 1) := by decide +kernel
theorem dX3_copyFrom_1 : decode cX3_copyFrom 1 = .ok (.getfield 14, 3) := by decide +kernel
theorem dX3_copyFrom_4 : decode cX3_copyFrom 4 = .ok (.aload_n 1, 1) := by decide +kernel
theorem dX3_copyFrom_5 : decode cX3_copyFrom 5 = .ok (.getfield 14, 3) := by decide +kernel
theorem dX3_copyFrom_8 : decode cX3_copyFrom 8 = .ok (.invokevirtual 23, 3) := by decide +kernel
theorem dX3_copyFrom_11 : decode cX3_copyFrom 11 = .ok (.aload_n 0, 1) := by decide +kernel
theorem dX3_copyFrom_12 : decode cX3_copyFrom 12 = .ok (.getfield 20, 3) := by decide +kernel
theorem dX3_copyFrom_15 : decode cX3_copyFrom 15 = .ok (.aload_n 1, 1) := by decide +kernel
theorem dX3_copyFrom_16 : decode cX3_copyFrom 16 = .ok (.getfield 20, 3) := by decide +kernel
theorem dX3_copyFrom_19 : decode cX3_copyFrom 19 = .ok (.invokevirtual 23, 3) := by decide +kernel
theorem dX3_copyFrom_22 : decode cX3_copyFrom 22 = .ok (.return_, 1) := by decide +kernel
theorem dX4_init_0 : decode cX4_init 0 = .ok (.aload_n 0, 1) := by decide +kernel
theorem dX4_init_1 : decode cX4_init 1 = .ok (.invokespecial 3, 3) := by decide +kernel
theorem dX4_init_4 : decode cX4_init 4 = .ok (.aload_n 0, 1) := by decide +kernel
theorem dX4_init_5 : decode cX4_init 5 = .ok (.new 9, 3) := by decide +kernel
theorem dX4_init_8 : decode cX4_init 8 = .ok (.dup, 1) := by decide +kernel
theorem dX4_init_9 : decode cX4_init 9 = .ok (.invokespecial 11, 3) := by decide +kernel
theorem dX4_init_12 : decode cX4_init 12 = .ok (.putfield 12, 3) := by decide +kernel
theorem dX4_init_15 : decode cX4_init 15 = .ok (.aload_n 0, 1) := by decide +kernel
theorem dX4_init_16 : decode cX4_init 16 = .ok (.new 9, 3) := by decide +kernel
theorem dX4_init_19 : decode cX4_init 19 = .ok (.dup, 1) := by decide +kernel
theorem dX4_init_20 : decode cX4_init 20 = .ok (.invokespecial 11, 3) := by decide +kernel
theorem dX4_init_23 : decode cX4_init 23 = .ok (.putfield 18, 3) := by decide +kernel
theorem dX4_init_26 : decode cX4_init 26 = .ok (.aload_n 0, 1) := by decide +kernel
theorem dX4_init_27 : decode cX4_init 27 = .ok (.sipush 325, 3) := by decide +kernel
theorem dX4_init_30 : decode cX4_init 30 = .ok (.newarray .int, 2) := by decide +kernel
theorem dX4_init_32 : decode cX4_init 32 = .ok (.putfield 21, 3) := by decide +kernel
theorem dX4_init_35 : decode cX4_init 35 = .ok (.aload_n 0, 1) := by decide +kernel
theorem dX4_init_36 : decode cX4_init 36 = .ok (.bipush 60, 2) := by decide +kernel
theorem dX4_init_38 : decode cX4_init 38 = .ok (.newarray .long, 2) := by decide +kernel
theorem dX4_init_40 : decode cX4_init 40 = .ok (.putfield 25, 3) := by decide +kernel
theorem dX4_init_43 : decode cX4_init 43 = .ok (.return_, 1) := by decide +kernel
theorem dX4_compareSides_0 : decode cX4_compareSides 0 = .ok (.aload_n 0, 1) := by decide +kernel
theorem dX4_compareSides_1 : decode cX4_compareSides 1 = .ok (.getfield 12, 3) := by decide +kernel
theorem dX4_compareSides_4 : decode cX4_compareSides 4 = .ok (.aload_n 1, 1) := by decide +kernel
theorem dX4_compareSides_5 : decode cX4_compareSides 5 = .ok (.getfield 29, 3) := by decide +kernel
theorem dX4_compareSides_8 : decode cX4_compareSides 8 = .ok (.aload_n 2, 1) := by decide +kernel
theorem dX4_compareSides_9 : decode cX4_compareSides 9 = .ok (.iconst 4, 1) := by decide +kernel
theorem dX4_compareSides_10 : decode cX4_compareSides 10 = .ok (.iaload, 1) := by decide +kernel
theorem dX4_compareSides_11 : decode cX4_compareSides 11 = .ok (.aload_n 2, 1) := by decide +kernel
theorem dX4_compareSides_12 : decode cX4_compareSides 12 = .ok (.iconst 5, 1) := by decide +kernel
theorem dX4_compareSides_13 : decode cX4_compareSides 13 = .ok (.iaload, 1) := by decide +kernel
theorem dX4_compareSides_14 : decode cX4_compareSides 14 = .ok (.aload_n 2, 1) := by decide +kernel
theorem dX4_compareSides_15 : decode cX4_compareSides 15 = .ok (.bipush 6, 2) := by decide +kernel
theorem dX4_compareSides_17 : decode cX4_compareSides 17 = .ok (.iaload, 1) := by decide +kernel
theorem dX4_compareSides_18 : decode cX4_compareSides 18 = .ok (.invokevirtual 34, 3) := by decide +kernel
theorem dX4_compareSides_21 : decode cX4_compareSides 21 = .ok (.aload_n 0, 1) := by decide +kernel
theorem dX4_compareSides_22 : decode cX4_compareSides 22 = .ok (.getfield 18, 3) := by decide +kernel
theorem dX4_compareSides_25 : decode cX4_compareSides 25 = .ok (.aload_n 1, 1) := by decide +kernel
theorem dX4_compareSides_26 : decode cX4_compareSides 26 = .ok (.getfield 38, 3) := by decide +kernel
theorem dX4_compareSides_29 : decode cX4_compareSides 29 = .ok (.aload_n 2, 1) := by decide +kernel
theorem dX4_compareSides_30 : decode cX4_compareSides 30 = .ok (.iconst 4, 1) := by decide +kernel
theorem dX4_compareSides_31 : decode cX4_compareSides 31 = .ok (.iaload, 1) := by decide +kernel
theorem dX4_compareSides_32 : decode cX4_compareSides 32 = .ok (.aload_n 2, 1) := by decide +kernel
theorem dX4_compareSides_33 : decode cX4_compareSides 33 = .ok (.iconst 5, 1) := by decide +kernel
theorem dX4_compareSides_34 : decode cX4_compareSides 34 = .ok (.iaload, 1) := by decide +kernel
theorem dX4_compareSides_35 : decode cX4_compareSides 35 = .ok (.aload_n 2, 1) := by decide +kernel
theorem dX4_compareSides_36 : decode cX4_compareSides 36 = .ok (.bipush 6, 2) := by decide +kernel
theorem dX4_compareSides_38 : decode cX4_compareSides 38 = .ok (.iaload, 1) := by decide +kernel
theorem dX4_compareSides_39 : decode cX4_compareSides 39 = .ok (.invokevirtual 34, 3) := by decide +kernel
theorem dX4_compareSides_42 : decode cX4_compareSides 42 = .ok (.aload_n 0, 1) := by decide +kernel
theorem dX4_compareSides_43 : decode cX4_compareSides 43 = .ok (.iconst 0, 1) := by decide +kernel
theorem dX4_compareSides_44 : decode cX4_compareSides 44 = .ok (.putfield 40, 3) := by decide +kernel
theorem dX4_compareSides_47 : decode cX4_compareSides 47 = .ok (.aload_n 0, 1) := by decide +kernel
theorem dX4_compareSides_48 : decode cX4_compareSides 48 = .ok (.iconst 0, 1) := by decide +kernel
theorem dX4_compareSides_49 : decode cX4_compareSides 49 = .ok (.iconst 1, 1) := by decide +kernel
theorem dX4_compareSides_50 : decode cX4_compareSides 50 = .ok (.invokevirtual 44, 3) := by decide +kernel
theorem dX4_compareSides_53 : decode cX4_compareSides 53 = .ok (.ifCond .ne 5, 3) := by decide +kernel
theorem dX4_compareSides_56 : decode cX4_compareSides 56 = .ok (.iconst 0, 1) := by decide +kernel
theorem dX4_compareSides_57 : decode cX4_compareSides 57 = .ok (.ireturn, 1) := by decide +kernel
theorem dX4_compareSides_58 : decode cX4_compareSides 58 = .ok (.aload_n 0, 1) := by decide +kernel
theorem dX4_compareSides_59 : decode cX4_compareSides 59 = .ok (.iconst 0, 1) := by decide +kernel
theorem dX4_compareSides_60 : decode cX4_compareSides 60 = .ok (.aload_n 2, 1) := by decide +kernel
theorem dX4_compareSides_61 : decode cX4_compareSides 61 = .ok (.iconst 0, 1) := by decide +kernel
theorem dX4_compareSides_62 : decode cX4_compareSides 62 = .ok (.iaload, 1) := by decide +kernel
theorem dX4_compareSides_63 : decode cX4_compareSides 63 = .ok (.aload_n 2, 1) := by decide +kernel
theorem dX4_compareSides_64 : decode cX4_compareSides 64 = .ok (.iconst 1, 1) := by decide +kernel
theorem dX4_compareSides_65 : decode cX4_compareSides 65 = .ok (.iaload, 1) := by decide +kernel
theorem dX4_compareSides_66 : decode cX4_compareSides 66 = .ok (.aload_n 2, 1) := by decide +kernel
theorem dX4_compareSides_67 : decode cX4_compareSides 67 = .ok (.iconst 2, 1) := by decide +kernel
theorem dX4_compareSides_68 : decode cX4_compareSides 68 = .ok (.iaload, 1) := by decide +kernel
theorem dX4_compareSides_69 : decode cX4_compareSides 69 = .ok (.aload_n 2, 1) := by decide +kernel
theorem dX4_compareSides_70 : decode cX4_compareSides 70 = .ok (.iconst 3, 1) := by decide +kernel
theorem dX4_compareSides_71 : decode cX4_compareSides 71 = .ok (.iaload, 1) := by decide +kernel
theorem dX4_compareSides_72 : decode cX4_compareSides 72 = .ok (.invokevirtual 48, 3) := by decide +kernel
theorem dX4_compareSides_75 : decode cX4_compareSides 75 = .ok (.istore_n 3, 1) := by decide +kernel
theorem dX4_compareSides_76 : decode cX4_compareSides 76 = .ok (.iload_n 3, 1) := by decide +kernel
theorem dX4_compareSides_77 : decode cX4_compareSides 77 = .ok (.ifCond .le 5, 3) := by decide +kernel
theorem dX4_compareSides_80 : decode cX4_compareSides 80 = .ok (.iconst 2, 1) := by decide +kernel
theorem dX4_compareSides_81 : decode cX4_compareSides 81 = .ok (.ireturn, 1) := by decide +kernel
theorem dX4_compareSides_82 : decode cX4_compareSides 82 = .ok (.iload_n 3, 1) := by decide +kernel
theorem dX4_compareSides_83 : decode cX4_compareSides 83 = .ok (.ifCond .ne 7, 3) := by decide +kernel
theorem dX4_compareSides_86 : decode cX4_compareSides 86 = .ok (.iconst 1, 1) := by decide +kernel
theorem dX4_compareSides_87 : decode cX4_compareSides 87 = .ok (.goto 4, 3) := by decide +kernel
theorem dX4_compareSides_90 : decode cX4_compareSides 90 = .ok (.iconst 0, 1) := by decide +kernel
theorem dX4_compareSides_91 : decode cX4_compareSides 91 = .ok (.ireturn, 1) := by decide +kernel
theorem dX4_weightLeftOver_0 : decode cX4_weightLeftOver 0 = .ok (.aload_n 1, 1) := by decide +kernel
theorem dX4_weightLeftOver_1 : decode cX4_weightLeftOver 1 = .ok (.getfield 52, 3) := by decide +kernel
theorem dX4_weightLeftOver_4 : decode cX4_weightLeftOver 4 = .ok (.iconst 1, 1) := by decide +kernel
theorem dX4_weightLeftOver_5 : decode cX4_weightLeftOver 5 = .ok (.isub, 1) := by decide +kernel
theorem dX4_weightLeftOver_6 : decode cX4_weightLeftOver 6 = .ok (.istore_n 3, 1) := by decide +kernel
theorem dX4_weightLeftOver_7 : decode cX4_weightLeftOver 7 = .ok (.iload_n 3, 1) := by decide +kernel
theorem dX4_weightLeftOver_8 : decode cX4_weightLeftOver 8 = .ok (.ifCond .lt 149, 3) := by decide +kernel
theorem dX4_weightLeftOver_11 : decode cX4_weightLeftOver 11 = .ok (.aload_n 1, 1) := by decide +kernel
theorem dX4_weightLeftOver_12 : decode cX4_weightLeftOver 12 = .ok (.getfield 57, 3) := by decide +kernel
theorem dX4_weightLeftOver_15 : decode cX4_weightLeftOver 15 = .ok (.iload_n 3, 1) := by decide +kernel
theorem dX4_weightLeftOver_16 : decode cX4_weightLeftOver 16 = .ok (.iaload, 1) := by decide +kernel
theorem dX4_weightLeftOver_17 : decode cX4_weightLeftOver 17 = .ok (.invokestatic 60, 3) := by decide +kernel
theorem dX4_weightLeftOver_20 : decode cX4_weightLeftOver 20 = .ok (.istore 4, 2) := by decide +kernel
theorem dX4_weightLeftOver_22 : decode cX4_weightLeftOver 22 = .ok (.iload 4, 2) := by decide +kernel
theorem dX4_weightLeftOver_24 : decode cX4_weightLeftOver 24 = .ok (.ifCond .lt 17, 3) := by decide +kernel
theorem dX4_weightLeftOver_27 : decode cX4_weightLeftOver 27 = .ok (.iload 4, 2) := by decide +kernel
theorem dX4_weightLeftOver_29 : decode cX4_weightLeftOver 29 = .ok (.iconst 4, 1) := by decide +kernel
theorem dX4_weightLeftOver_30 : decode cX4_weightLeftOver 30 = .ok (.if_icmp .ge 11, 3) := by decide +kernel
theorem dX4_weightLeftOver_33 : decode cX4_weightLeftOver 33 = .ok (.aload_n 2, 1) := by decide +kernel
theorem dX4_weightLeftOver_34 : decode cX4_weightLeftOver 34 = .ok (.iload 4, 2) := by decide +kernel
theorem dX4_weightLeftOver_36 : decode cX4_weightLeftOver 36 = .ok (.iaload, 1) := by decide +kernel
theorem dX4_weightLeftOver_37 : decode cX4_weightLeftOver 37 = .ok (.i2l, 1) := by decide +kernel
theorem dX4_weightLeftOver_38 : decode cX4_weightLeftOver 38 = .ok (.goto 4, 3) := by decide +kernel
theorem dX4_weightLeftOver_41 : decode cX4_weightLeftOver 41 = .ok (.lconst 0, 1) := by decide +kernel
theorem dX4_weightLeftOver_42 : decode cX4_weightLeftOver 42 = .ok (.lstore 5, 2) := by decide +kernel
theorem dX4_weightLeftOver_44 : decode cX4_weightLeftOver 44 = .ok (.aload_n 1, 1) := by decide +kernel
theorem dX4_weightLeftOver_45 : decode cX4_weightLeftOver 45 = .ok (.getfield 57, 3) := by decide +kernel
theorem dX4_weightLeftOver_48 : decode cX4_weightLeftOver 48 = .ok (.iload_n 3, 1) := by decide +kernel
theorem dX4_weightLeftOver_49 : decode cX4_weightLeftOver 49 = .ok (.iaload, 1) := by decide +kernel
theorem dX4_weightLeftOver_50 : decode cX4_weightLeftOver 50 = .ok (.bipush 102, 2) := by decide +kernel
theorem dX4_weightLeftOver_52 : decode cX4_weightLeftOver 52 = .ok (.if_icmp .ne 24, 3) := by decide +kernel
theorem dX4_weightLeftOver_55 : decode cX4_weightLeftOver 55 = .ok (.lload 5, 2) := by decide +kernel
theorem dX4_weightLeftOver_57 : decode cX4_weightLeftOver 57 = .ok (.aload_n 2, 1) := by decide +kernel
theorem dX4_weightLeftOver_58 : decode cX4_weightLeftOver 58 = .ok (.iconst 4, 1) := by decide +kernel
theorem dX4_weightLeftOver_59 : decode cX4_weightLeftOver 59 = .ok (.iaload, 1) := by decide +kernel
theorem dX4_weightLeftOver_60 : decode cX4_weightLeftOver 60 = .ok (.i2l, 1) := by decide +kernel
theorem dX4_weightLeftOver_61 : decode cX4_weightLeftOver 61 = .ok (.aload_n 0, 1) := by decide +kernel
theorem dX4_weightLeftOver_62 : decode cX4_weightLeftOver 62 = .ok (.aload_n 1, 1) := by decide +kernel
theorem dX4_weightLeftOver_63 : decode cX4_weightLeftOver 63 = .ok (.iload_n 3, 1) := by decide +kernel
theorem dX4_weightLeftOver_64 : decode cX4_weightLeftOver 64 = .ok (.iconst 1, 1) := by decide +kernel
theorem dX4_weightLeftOver_65 : decode cX4_weightLeftOver 65 = .ok (.iadd, 1) := by decide +kernel
theorem dX4_weightLeftOver_66 : decode cX4_weightLeftOver 66 = .ok (.invokevirtual 64, 3) := by decide +kernel
theorem dX4_weightLeftOver_69 : decode cX4_weightLeftOver 69 = .ok (.lmul, 1) := by decide +kernel
theorem dX4_weightLeftOver_70 : decode cX4_weightLeftOver 70 = .ok (.ladd, 1) := by decide +kernel
theorem dX4_weightLeftOver_71 : decode cX4_weightLeftOver 71 = .ok (.lstore 5, 2) := by decide +kernel
theorem dX4_weightLeftOver_73 : decode cX4_weightLeftOver 73 = .ok (.goto 66, 3) := by decide +kernel
theorem dX4_weightLeftOver_76 : decode cX4_weightLeftOver 76 = .ok (.aload_n 1, 1) := by decide +kernel
theorem dX4_weightLeftOver_77 : decode cX4_weightLeftOver 77 = .ok (.getfield 57, 3) := by decide +kernel
theorem dX4_weightLeftOver_80 : decode cX4_weightLeftOver 80 = .ok (.iload_n 3, 1) := by decide +kernel
theorem dX4_weightLeftOver_81 : decode cX4_weightLeftOver 81 = .ok (.iaload, 1) := by decide +kernel
theorem dX4_weightLeftOver_82 : decode cX4_weightLeftOver 82 = .ok (.bipush 103, 2) := by decide +kernel
theorem dX4_weightLeftOver_84 : decode cX4_weightLeftOver 84 = .ok (.if_icmp .ne 55, 3) := by decide +kernel
theorem dX4_weightLeftOver_87 : decode cX4_weightLeftOver 87 = .ok (.iload_n 3, 1) := by decide +kernel
theorem dX4_weightLeftOver_88 : decode cX4_weightLeftOver 88 = .ok (.iconst 1, 1) := by decide +kernel
theorem dX4_weightLeftOver_89 : decode cX4_weightLeftOver 89 = .ok (.iadd, 1) := by decide +kernel
theorem dX4_weightLeftOver_90 : decode cX4_weightLeftOver 90 = .ok (.aload_n 1, 1) := by decide +kernel
theorem dX4_weightLeftOver_91 : decode cX4_weightLeftOver 91 = .ok (.getfield 52, 3) := by decide +kernel
theorem dX4_weightLeftOver_94 : decode cX4_weightLeftOver 94 = .ok (.if_icmp .ge 45, 3) := by decide +kernel
theorem dX4_weightLeftOver_97 : decode cX4_weightLeftOver 97 = .ok (.lload 5, 2) := by decide +kernel
theorem dX4_weightLeftOver_99 : decode cX4_weightLeftOver 99 = .ok (.aload_n 2, 1) := by decide +kernel
theorem dX4_weightLeftOver_100 : decode cX4_weightLeftOver 100 = .ok (.iconst 5, 1) := by decide +kernel
theorem dX4_weightLeftOver_101 : decode cX4_weightLeftOver 101 = .ok (.iaload, 1) := by decide +kernel
theorem dX4_weightLeftOver_102 : decode cX4_weightLeftOver 102 = .ok (.i2l, 1) := by decide +kernel
theorem dX4_weightLeftOver_103 : decode cX4_weightLeftOver 103 = .ok (.aload_n 0, 1) := by decide +kernel
theorem dX4_weightLeftOver_104 : decode cX4_weightLeftOver 104 = .ok (.aload_n 1, 1) := by decide +kernel
theorem dX4_weightLeftOver_105 : decode cX4_weightLeftOver 105 = .ok (.iload_n 3, 1) := by decide +kernel
theorem dX4_weightLeftOver_106 : decode cX4_weightLeftOver 106 = .ok (.iconst 1, 1) := by decide +kernel
theorem dX4_weightLeftOver_107 : decode cX4_weightLeftOver 107 = .ok (.iadd, 1) := by decide +kernel
theorem dX4_weightLeftOver_108 : decode cX4_weightLeftOver 108 = .ok (.invokevirtual 64, 3) := by decide +kernel
theorem dX4_weightLeftOver_111 : decode cX4_weightLeftOver 111 = .ok (.lmul, 1) := by decide +kernel
theorem dX4_weightLeftOver_112 : decode cX4_weightLeftOver 112 = .ok (.ladd, 1) := by decide +kernel
theorem dX4_weightLeftOver_113 : decode cX4_weightLeftOver 113 = .ok (.lstore 5, 2) := by decide +kernel
theorem dX4_weightLeftOver_115 : decode cX4_weightLeftOver 115 = .ok (.lload 5, 2) := by decide +kernel
theorem dX4_weightLeftOver_117 : decode cX4_weightLeftOver 117 = .ok (.aload_n 2, 1) := by decide +kernel
theorem dX4_weightLeftOver_118 : decode cX4_weightLeftOver 118 = .ok (.bipush 6, 2) := by decide +kernel
theorem dX4_weightLeftOver_120 : decode cX4_weightLeftOver 120 = .ok (.iaload, 1) := by decide +kernel
theorem dX4_weightLeftOver_121 : decode cX4_weightLeftOver 121 = .ok (.i2l, 1) := by decide +kernel
theorem dX4_weightLeftOver_122 : decode cX4_weightLeftOver 122 = .ok (.aload_n 0, 1) := by decide +kernel
theorem dX4_weightLeftOver_123 : decode cX4_weightLeftOver 123 = .ok (.aload_n 1, 1) := by decide +kernel
theorem dX4_weightLeftOver_124 : decode cX4_weightLeftOver 124 = .ok (.aload_n 1, 1) := by decide +kernel
theorem dX4_weightLeftOver_125 : decode cX4_weightLeftOver 125 = .ok (.getfield 68, 3) := by decide +kernel
theorem dX4_weightLeftOver_128 : decode cX4_weightLeftOver 128 = .ok (.iload_n 3, 1) := by decide +kernel
theorem dX4_weightLeftOver_129 : decode cX4_weightLeftOver 129 = .ok (.iconst 1, 1) := by decide +kernel
theorem dX4_weightLeftOver_130 : decode cX4_weightLeftOver 130 = .ok (.iadd, 1) := by decide +kernel
theorem dX4_weightLeftOver_131 : decode cX4_weightLeftOver 131 = .ok (.iaload, 1) := by decide +kernel
theorem dX4_weightLeftOver_132 : decode cX4_weightLeftOver 132 = .ok (.invokevirtual 64, 3) := by decide +kernel
theorem dX4_weightLeftOver_135 : decode cX4_weightLeftOver 135 = .ok (.lmul, 1) := by decide +kernel
theorem dX4_weightLeftOver_136 : decode cX4_weightLeftOver 136 = .ok (.ladd, 1) := by decide +kernel
theorem dX4_weightLeftOver_137 : decode cX4_weightLeftOver 137 = .ok (.lstore 5, 2) := by decide +kernel
theorem dX4_weightLeftOver_139 : decode cX4_weightLeftOver 139 = .ok (.aload_n 0, 1) := by decide +kernel
theorem dX4_weightLeftOver_140 : decode cX4_weightLeftOver 140 = .ok (.getfield 25, 3) := by decide +kernel
theorem dX4_weightLeftOver_143 : decode cX4_weightLeftOver 143 = .ok (.iload_n 3, 1) := by decide +kernel
theorem dX4_weightLeftOver_144 : decode cX4_weightLeftOver 144 = .ok (.lload 5, 2) := by decide +kernel
theorem dX4_weightLeftOver_146 : decode cX4_weightLeftOver 146 = .ok (.ldc2_w 71, 3) := by decide +kernel
theorem dX4_weightLeftOver_149 : decode cX4_weightLeftOver 149 = .ok (.lrem, 1) := by decide +kernel
theorem dX4_weightLeftOver_150 : decode cX4_weightLeftOver 150 = .ok (.lastore, 1) := by decide +kernel
theorem dX4_weightLeftOver_151 : decode cX4_weightLeftOver 151 = .ok (.iinc 3 (-1), 3) := by decide +kernel
theorem dX4_weightLeftOver_154 : decode cX4_weightLeftOver 154 = .ok (.goto (-147), 3) := by decide +kernel
theorem dX4_weightLeftOver_157 : decode cX4_weightLeftOver 157 = .ok (.aload_n 0, 1) := by decide +kernel
theorem dX4_weightLeftOver_158 : decode cX4_weightLeftOver 158 = .ok (.getfield 25, 3) := by decide +kernel
theorem dX4_weightLeftOver_161 : decode cX4_weightLeftOver 161 = .ok (.iconst 0, 1) := by decide +kernel
theorem dX4_weightLeftOver_162 : decode cX4_weightLeftOver 162 = .ok (.laload, 1) := by decide +kernel
theorem dX4_weightLeftOver_163 : decode cX4_weightLeftOver 163 = .ok (.l2i, 1) := by decide +kernel
theorem dX4_weightLeftOver_164 : decode cX4_weightLeftOver 164 = .ok (.ireturn, 1) := by decide +kernel
theorem dX4_totalAt_0 : decode cX4_totalAt 0 = .ok (.iload_n 2, 1) := by decide +kernel
theorem dX4_totalAt_1 : decode cX4_totalAt 1 = .ok (.ifCond .lt 20, 3) := by decide +kernel
theorem dX4_totalAt_4 : decode cX4_totalAt 4 = .ok (.iload_n 2, 1) := by decide +kernel
theorem dX4_totalAt_5 : decode cX4_totalAt 5 = .ok (.aload_n 1, 1) := by decide +kernel
theorem dX4_totalAt_6 : decode cX4_totalAt 6 = .ok (.getfield 52, 3) := by decide +kernel
theorem dX4_totalAt_9 : decode cX4_totalAt 9 = .ok (.if_icmp .ge 12, 3) := by decide +kernel
theorem dX4_totalAt_12 : decode cX4_totalAt 12 = .ok (.aload_n 0, 1) := by decide +kernel
theorem dX4_totalAt_13 : decode cX4_totalAt 13 = .ok (.getfield 25, 3) := by decide +kernel
theorem dX4_totalAt_16 : decode cX4_totalAt 16 = .ok (.iload_n 2, 1) := by decide +kernel
theorem dX4_totalAt_17 : decode cX4_totalAt 17 = .ok (.laload, 1) := by decide +kernel
theorem dX4_totalAt_18 : decode cX4_totalAt 18 = .ok (.goto 4, 3) := by decide +kernel
theorem dX4_totalAt_21 : decode cX4_totalAt 21 = .ok (.lconst 0, 1) := by decide +kernel
theorem dX4_totalAt_22 : decode cX4_totalAt 22 = .ok (.lreturn, 1) := by decide +kernel
theorem dX4_leastWeights_0 : decode cX4_leastWeights 0 = .ok (.iload_n 3, 1) := by decide +kernel
theorem dX4_leastWeights_1 : decode cX4_leastWeights 1 = .ok (.iconst (-1), 1) := by decide +kernel
theorem dX4_leastWeights_2 : decode cX4_leastWeights 2 = .ok (.if_icmp .ne 7, 3) := by decide +kernel
theorem dX4_leastWeights_5 : decode cX4_leastWeights 5 = .ok (.iconst 1, 1) := by decide +kernel
theorem dX4_leastWeights_6 : decode cX4_leastWeights 6 = .ok (.goto 4, 3) := by decide +kernel
theorem dX4_leastWeights_9 : decode cX4_leastWeights 9 = .ok (.iconst 0, 1) := by decide +kernel
theorem dX4_leastWeights_10 : decode cX4_leastWeights 10 = .ok (.istore 4, 2) := by decide +kernel
theorem dX4_leastWeights_12 : decode cX4_leastWeights 12 = .ok (.iload_n 3, 1) := by decide +kernel
theorem dX4_leastWeights_13 : decode cX4_leastWeights 13 = .ok (.iconst (-1), 1) := by decide +kernel
theorem dX4_leastWeights_14 : decode cX4_leastWeights 14 = .ok (.if_icmp .ne 7, 3) := by decide +kernel
theorem dX4_leastWeights_17 : decode cX4_leastWeights 17 = .ok (.iconst 3, 1) := by decide +kernel
theorem dX4_leastWeights_18 : decode cX4_leastWeights 18 = .ok (.goto 4, 3) := by decide +kernel
theorem dX4_leastWeights_21 : decode cX4_leastWeights 21 = .ok (.iconst 2, 1) := by decide +kernel
theorem dX4_leastWeights_22 : decode cX4_leastWeights 22 = .ok (.istore 5, 2) := by decide +kernel
theorem dX4_leastWeights_24 : decode cX4_leastWeights 24 = .ok (.iconst (-1), 1) := by decide +kernel
theorem dX4_leastWeights_25 : decode cX4_leastWeights 25 = .ok (.istore 6, 2) := by decide +kernel
theorem dX4_leastWeights_27 : decode cX4_leastWeights 27 = .ok (.iload 4, 2) := by decide +kernel
theorem dX4_leastWeights_29 : decode cX4_leastWeights 29 = .ok (.istore 7, 2) := by decide +kernel
theorem dX4_leastWeights_31 : decode cX4_leastWeights 31 = .ok (.iload 7, 2) := by decide +kernel
theorem dX4_leastWeights_33 : decode cX4_leastWeights 33 = .ok (.iload 4, 2) := by decide +kernel
theorem dX4_leastWeights_35 : decode cX4_leastWeights 35 = .ok (.iconst 2, 1) := by decide +kernel
theorem dX4_leastWeights_36 : decode cX4_leastWeights 36 = .ok (.iadd, 1) := by decide +kernel
theorem dX4_leastWeights_37 : decode cX4_leastWeights 37 = .ok (.if_icmp .gt 87, 3) := by decide +kernel
theorem dX4_leastWeights_40 : decode cX4_leastWeights 40 = .ok (.iload 4, 2) := by decide +kernel
theorem dX4_leastWeights_42 : decode cX4_leastWeights 42 = .ok (.istore 8, 2) := by decide +kernel
theorem dX4_leastWeights_44 : decode cX4_leastWeights 44 = .ok (.iload 8, 2) := by decide +kernel
theorem dX4_leastWeights_46 : decode cX4_leastWeights 46 = .ok (.iload 4, 2) := by decide +kernel
theorem dX4_leastWeights_48 : decode cX4_leastWeights 48 = .ok (.iconst 2, 1) := by decide +kernel
theorem dX4_leastWeights_49 : decode cX4_leastWeights 49 = .ok (.iadd, 1) := by decide +kernel
theorem dX4_leastWeights_50 : decode cX4_leastWeights 50 = .ok (.if_icmp .gt 68, 3) := by decide +kernel
theorem dX4_leastWeights_53 : decode cX4_leastWeights 53 = .ok (.iload 4, 2) := by decide +kernel
theorem dX4_leastWeights_55 : decode cX4_leastWeights 55 = .ok (.istore 9, 2) := by decide +kernel
theorem dX4_leastWeights_57 : decode cX4_leastWeights 57 = .ok (.iload 9, 2) := by decide +kernel
theorem dX4_leastWeights_59 : decode cX4_leastWeights 59 = .ok (.iload 4, 2) := by decide +kernel
theorem dX4_leastWeights_61 : decode cX4_leastWeights 61 = .ok (.iconst 2, 1) := by decide +kernel
theorem dX4_leastWeights_62 : decode cX4_leastWeights 62 = .ok (.iadd, 1) := by decide +kernel
theorem dX4_leastWeights_63 : decode cX4_leastWeights 63 = .ok (.if_icmp .gt 49, 3) := by decide +kernel
theorem dX4_leastWeights_66 : decode cX4_leastWeights 66 = .ok (.aload_n 0, 1) := by decide +kernel
theorem dX4_leastWeights_67 : decode cX4_leastWeights 67 = .ok (.aload_n 1, 1) := by decide +kernel
theorem dX4_leastWeights_68 : decode cX4_leastWeights 68 = .ok (.aload_n 2, 1) := by decide +kernel
theorem dX4_leastWeights_69 : decode cX4_leastWeights 69 = .ok (.iload_n 3, 1) := by decide +kernel
theorem dX4_leastWeights_70 : decode cX4_leastWeights 70 = .ok (.iload 7, 2) := by decide +kernel
theorem dX4_leastWeights_72 : decode cX4_leastWeights 72 = .ok (.iload 8, 2) := by decide +kernel
theorem dX4_leastWeights_74 : decode cX4_leastWeights 74 = .ok (.iload 9, 2) := by decide +kernel
theorem dX4_leastWeights_76 : decode cX4_leastWeights 76 = .ok (.invokevirtual 73, 3) := by decide +kernel
theorem dX4_leastWeights_79 : decode cX4_leastWeights 79 = .ok (.ifCond .eq 27, 3) := by decide +kernel
theorem dX4_leastWeights_82 : decode cX4_leastWeights 82 = .ok (.aload_n 0, 1) := by decide +kernel
theorem dX4_leastWeights_83 : decode cX4_leastWeights 83 = .ok (.bipush 100, 2) := by decide +kernel
theorem dX4_leastWeights_85 : decode cX4_leastWeights 85 = .ok (.iload 7, 2) := by decide +kernel
theorem dX4_leastWeights_87 : decode cX4_leastWeights 87 = .ok (.imul, 1) := by decide +kernel
theorem dX4_leastWeights_88 : decode cX4_leastWeights 88 = .ok (.bipush 10, 2) := by decide +kernel
theorem dX4_leastWeights_90 : decode cX4_leastWeights 90 = .ok (.iload 8, 2) := by decide +kernel
theorem dX4_leastWeights_92 : decode cX4_leastWeights 92 = .ok (.imul, 1) := by decide +kernel
theorem dX4_leastWeights_93 : decode cX4_leastWeights 93 = .ok (.iadd, 1) := by decide +kernel
theorem dX4_leastWeights_94 : decode cX4_leastWeights 94 = .ok (.iload 9, 2) := by decide +kernel
theorem dX4_leastWeights_96 : decode cX4_leastWeights 96 = .ok (.iadd, 1) := by decide +kernel
theorem dX4_leastWeights_97 : decode cX4_leastWeights 97 = .ok (.iload 5, 2) := by decide +kernel
theorem dX4_leastWeights_99 : decode cX4_leastWeights 99 = .ok (.iload 6, 2) := by decide +kernel
theorem dX4_leastWeights_101 : decode cX4_leastWeights 101 = .ok (.invokevirtual 77, 3) := by decide +kernel
theorem dX4_leastWeights_104 : decode cX4_leastWeights 104 = .ok (.istore 6, 2) := by decide +kernel
theorem dX4_leastWeights_106 : decode cX4_leastWeights 106 = .ok (.iinc 9 1, 3) := by decide +kernel
theorem dX4_leastWeights_109 : decode cX4_leastWeights 109 = .ok (.goto (-52), 3) := by decide +kernel
theorem dX4_leastWeights_112 : decode cX4_leastWeights 112 = .ok (.iinc 8 1, 3) := by decide +kernel
theorem dX4_leastWeights_115 : decode cX4_leastWeights 115 = .ok (.goto (-71), 3) := by decide +kernel
theorem dX4_leastWeights_118 : decode cX4_leastWeights 118 = .ok (.iinc 7 1, 3) := by decide +kernel
theorem dX4_leastWeights_121 : decode cX4_leastWeights 121 = .ok (.goto (-90), 3) := by decide +kernel
theorem dX4_leastWeights_124 : decode cX4_leastWeights 124 = .ok (.iload 6, 2) := by decide +kernel
theorem dX4_leastWeights_126 : decode cX4_leastWeights 126 = .ok (.ireturn, 1) := by decide +kernel
theorem dX4_fillRows_0 : decode cX4_fillRows 0 = .ok (.aload_n 0, 1) := by decide +kernel
theorem dX4_fillRows_1 : decode cX4_fillRows 1 = .ok (.iconst 0, 1) := by decide +kernel
theorem dX4_fillRows_2 : decode cX4_fillRows 2 = .ok (.putfield 40, 3) := by decide +kernel
theorem dX4_fillRows_5 : decode cX4_fillRows 5 = .ok (.iconst 0, 1) := by decide +kernel
theorem dX4_fillRows_6 : decode cX4_fillRows 6 = .ok (.istore 7, 2) := by decide +kernel
theorem dX4_fillRows_8 : decode cX4_fillRows 8 = .ok (.iload 7, 2) := by decide +kernel
theorem dX4_fillRows_10 : decode cX4_fillRows 10 = .ok (.aload_n 1, 1) := by decide +kernel
theorem dX4_fillRows_11 : decode cX4_fillRows 11 = .ok (.getfield 81, 3) := by decide +kernel
theorem dX4_fillRows_14 : decode cX4_fillRows 14 = .ok (.if_icmp .ge 93, 3) := by decide +kernel
theorem dX4_fillRows_17 : decode cX4_fillRows 17 = .ok (.aload_n 0, 1) := by decide +kernel
theorem dX4_fillRows_18 : decode cX4_fillRows 18 = .ok (.getfield 12, 3) := by decide +kernel
theorem dX4_fillRows_21 : decode cX4_fillRows 21 = .ok (.aload_n 1, 1) := by decide +kernel
theorem dX4_fillRows_22 : decode cX4_fillRows 22 = .ok (.getfield 86, 3) := by decide +kernel
theorem dX4_fillRows_25 : decode cX4_fillRows 25 = .ok (.iload 7, 2) := by decide +kernel
theorem dX4_fillRows_27 : decode cX4_fillRows 27 = .ok (.aaload, 1) := by decide +kernel
theorem dX4_fillRows_28 : decode cX4_fillRows 28 = .ok (.getfield 29, 3) := by decide +kernel
theorem dX4_fillRows_31 : decode cX4_fillRows 31 = .ok (.iload 4, 2) := by decide +kernel
theorem dX4_fillRows_33 : decode cX4_fillRows 33 = .ok (.iload 5, 2) := by decide +kernel
theorem dX4_fillRows_35 : decode cX4_fillRows 35 = .ok (.iload 6, 2) := by decide +kernel
theorem dX4_fillRows_37 : decode cX4_fillRows 37 = .ok (.invokevirtual 34, 3) := by decide +kernel
theorem dX4_fillRows_40 : decode cX4_fillRows 40 = .ok (.aload_n 0, 1) := by decide +kernel
theorem dX4_fillRows_41 : decode cX4_fillRows 41 = .ok (.getfield 18, 3) := by decide +kernel
theorem dX4_fillRows_44 : decode cX4_fillRows 44 = .ok (.aload_n 1, 1) := by decide +kernel
theorem dX4_fillRows_45 : decode cX4_fillRows 45 = .ok (.getfield 86, 3) := by decide +kernel
theorem dX4_fillRows_48 : decode cX4_fillRows 48 = .ok (.iload 7, 2) := by decide +kernel
theorem dX4_fillRows_50 : decode cX4_fillRows 50 = .ok (.aaload, 1) := by decide +kernel
theorem dX4_fillRows_51 : decode cX4_fillRows 51 = .ok (.getfield 38, 3) := by decide +kernel
theorem dX4_fillRows_54 : decode cX4_fillRows 54 = .ok (.iload 4, 2) := by decide +kernel
theorem dX4_fillRows_56 : decode cX4_fillRows 56 = .ok (.iload 5, 2) := by decide +kernel
theorem dX4_fillRows_58 : decode cX4_fillRows 58 = .ok (.iload 6, 2) := by decide +kernel
theorem dX4_fillRows_60 : decode cX4_fillRows 60 = .ok (.invokevirtual 34, 3) := by decide +kernel
theorem dX4_fillRows_63 : decode cX4_fillRows 63 = .ok (.aload_n 0, 1) := by decide +kernel
theorem dX4_fillRows_64 : decode cX4_fillRows 64 = .ok (.iconst 0, 1) := by decide +kernel
theorem dX4_fillRows_65 : decode cX4_fillRows 65 = .ok (.iload_n 3, 1) := by decide +kernel
theorem dX4_fillRows_66 : decode cX4_fillRows 66 = .ok (.iconst (-1), 1) := by decide +kernel
theorem dX4_fillRows_67 : decode cX4_fillRows 67 = .ok (.if_icmp .ne 7, 3) := by decide +kernel
theorem dX4_fillRows_70 : decode cX4_fillRows 70 = .ok (.iconst 1, 1) := by decide +kernel
theorem dX4_fillRows_71 : decode cX4_fillRows 71 = .ok (.goto 4, 3) := by decide +kernel
theorem dX4_fillRows_74 : decode cX4_fillRows 74 = .ok (.iconst 0, 1) := by decide +kernel
theorem dX4_fillRows_75 : decode cX4_fillRows 75 = .ok (.invokevirtual 44, 3) := by decide +kernel
theorem dX4_fillRows_78 : decode cX4_fillRows 78 = .ok (.ifCond .ne 5, 3) := by decide +kernel
theorem dX4_fillRows_81 : decode cX4_fillRows 81 = .ok (.iconst 0, 1) := by decide +kernel
theorem dX4_fillRows_82 : decode cX4_fillRows 82 = .ok (.ireturn, 1) := by decide +kernel
theorem dX4_fillRows_83 : decode cX4_fillRows 83 = .ok (.iload_n 3, 1) := by decide +kernel
theorem dX4_fillRows_84 : decode cX4_fillRows 84 = .ok (.iconst (-1), 1) := by decide +kernel
theorem dX4_fillRows_85 : decode cX4_fillRows 85 = .ok (.if_icmp .eq 16, 3) := by decide +kernel
theorem dX4_fillRows_88 : decode cX4_fillRows 88 = .ok (.aload_n 0, 1) := by decide +kernel
theorem dX4_fillRows_89 : decode cX4_fillRows 89 = .ok (.aload_n 2, 1) := by decide +kernel
theorem dX4_fillRows_90 : decode cX4_fillRows 90 = .ok (.iload_n 3, 1) := by decide +kernel
theorem dX4_fillRows_91 : decode cX4_fillRows 91 = .ok (.iload 7, 2) := by decide +kernel
theorem dX4_fillRows_93 : decode cX4_fillRows 93 = .ok (.invokevirtual 90, 3) := by decide +kernel
theorem dX4_fillRows_96 : decode cX4_fillRows 96 = .ok (.ifCond .ne 5, 3) := by decide +kernel
theorem dX4_fillRows_99 : decode cX4_fillRows 99 = .ok (.iconst 0, 1) := by decide +kernel
theorem dX4_fillRows_100 : decode cX4_fillRows 100 = .ok (.ireturn, 1) := by decide +kernel
theorem dX4_fillRows_101 : decode cX4_fillRows 101 = .ok (.iinc 7 1, 3) := by decide +kernel
theorem dX4_fillRows_104 : decode cX4_fillRows 104 = .ok (.goto (-96), 3) := by decide +kernel
theorem dX4_fillRows_107 : decode cX4_fillRows 107 = .ok (.iconst 1, 1) := by decide +kernel
theorem dX4_fillRows_108 : decode cX4_fillRows 108 = .ok (.ireturn, 1) := by decide +kernel
theorem dX4_addCallRows_0 : decode cX4_addCallRows 0 = .ok (.iconst 0, 1) := by decide +kernel
theorem dX4_addCallRows_1 : decode cX4_addCallRows 1 = .ok (.istore 4, 2) := by decide +kernel
theorem dX4_addCallRows_3 : decode cX4_addCallRows 3 = .ok (.iload 4, 2) := by decide +kernel
theorem dX4_addCallRows_5 : decode cX4_addCallRows 5 = .ok (.aload_n 1, 1) := by decide +kernel
theorem dX4_addCallRows_6 : decode cX4_addCallRows 6 = .ok (.getfield 94, 3) := by decide +kernel
theorem dX4_addCallRows_9 : decode cX4_addCallRows 9 = .ok (.if_icmp .ge 48, 3) := by decide +kernel
theorem dX4_addCallRows_12 : decode cX4_addCallRows 12 = .ok (.aload_n 1, 1) := by decide +kernel
theorem dX4_addCallRows_13 : decode cX4_addCallRows 13 = .ok (.getfield 97, 3) := by decide +kernel
theorem dX4_addCallRows_16 : decode cX4_addCallRows 16 = .ok (.iload 4, 2) := by decide +kernel
theorem dX4_addCallRows_18 : decode cX4_addCallRows 18 = .ok (.iaload, 1) := by decide +kernel
theorem dX4_addCallRows_19 : decode cX4_addCallRows 19 = .ok (.iload_n 3, 1) := by decide +kernel
theorem dX4_addCallRows_20 : decode cX4_addCallRows 20 = .ok (.if_icmp .ne 31, 3) := by decide +kernel
theorem dX4_addCallRows_23 : decode cX4_addCallRows 23 = .ok (.aload_n 1, 1) := by decide +kernel
theorem dX4_addCallRows_24 : decode cX4_addCallRows 24 = .ok (.getfield 100, 3) := by decide +kernel
theorem dX4_addCallRows_27 : decode cX4_addCallRows 27 = .ok (.iload 4, 2) := by decide +kernel
theorem dX4_addCallRows_29 : decode cX4_addCallRows 29 = .ok (.iaload, 1) := by decide +kernel
theorem dX4_addCallRows_30 : decode cX4_addCallRows 30 = .ok (.iload_n 2, 1) := by decide +kernel
theorem dX4_addCallRows_31 : decode cX4_addCallRows 31 = .ok (.if_icmp .ne 20, 3) := by decide +kernel
theorem dX4_addCallRows_34 : decode cX4_addCallRows 34 = .ok (.aload_n 0, 1) := by decide +kernel
theorem dX4_addCallRows_35 : decode cX4_addCallRows 35 = .ok (.aload_n 1, 1) := by decide +kernel
theorem dX4_addCallRows_36 : decode cX4_addCallRows 36 = .ok (.getfield 103, 3) := by decide +kernel
theorem dX4_addCallRows_39 : decode cX4_addCallRows 39 = .ok (.iload 4, 2) := by decide +kernel
theorem dX4_addCallRows_41 : decode cX4_addCallRows 41 = .ok (.iaload, 1) := by decide +kernel
theorem dX4_addCallRows_42 : decode cX4_addCallRows 42 = .ok (.iconst 1, 1) := by decide +kernel
theorem dX4_addCallRows_43 : decode cX4_addCallRows 43 = .ok (.invokevirtual 44, 3) := by decide +kernel
theorem dX4_addCallRows_46 : decode cX4_addCallRows 46 = .ok (.ifCond .ne 5, 3) := by decide +kernel
theorem dX4_addCallRows_49 : decode cX4_addCallRows 49 = .ok (.iconst 0, 1) := by decide +kernel
theorem dX4_addCallRows_50 : decode cX4_addCallRows 50 = .ok (.ireturn, 1) := by decide +kernel
theorem dX4_addCallRows_51 : decode cX4_addCallRows 51 = .ok (.iinc 4 1, 3) := by decide +kernel
theorem dX4_addCallRows_54 : decode cX4_addCallRows 54 = .ok (.goto (-51), 3) := by decide +kernel
theorem dX4_addCallRows_57 : decode cX4_addCallRows 57 = .ok (.iconst 1, 1) := by decide +kernel
theorem dX4_addCallRows_58 : decode cX4_addCallRows 58 = .ok (.ireturn, 1) := by decide +kernel
theorem dX4_addRow_0 : decode cX4_addRow 0 = .ok (.iload_n 1, 1) := by decide +kernel
theorem dX4_addRow_1 : decode cX4_addRow 1 = .ok (.bipush 6, 2) := by decide +kernel
theorem dX4_addRow_3 : decode cX4_addRow 3 = .ok (.imul, 1) := by decide +kernel
theorem dX4_addRow_4 : decode cX4_addRow 4 = .ok (.istore_n 3, 1) := by decide +kernel
theorem dX4_addRow_5 : decode cX4_addRow 5 = .ok (.iload_n 3, 1) := by decide +kernel
theorem dX4_addRow_6 : decode cX4_addRow 6 = .ok (.ifCond .lt 18, 3) := by decide +kernel
theorem dX4_addRow_9 : decode cX4_addRow 9 = .ok (.iload_n 3, 1) := by decide +kernel
theorem dX4_addRow_10 : decode cX4_addRow 10 = .ok (.bipush 6, 2) := by decide +kernel
theorem dX4_addRow_12 : decode cX4_addRow 12 = .ok (.iadd, 1) := by decide +kernel
theorem dX4_addRow_13 : decode cX4_addRow 13 = .ok (.aload_n 0, 1) := by decide +kernel
theorem dX4_addRow_14 : decode cX4_addRow 14 = .ok (.getfield 18, 3) := by decide +kernel
theorem dX4_addRow_17 : decode cX4_addRow 17 = .ok (.getfield 106, 3) := by decide +kernel
theorem dX4_addRow_20 : decode cX4_addRow 20 = .ok (.arraylength, 1) := by decide +kernel
theorem dX4_addRow_21 : decode cX4_addRow 21 = .ok (.if_icmp .le 5, 3) := by decide +kernel
theorem dX4_addRow_24 : decode cX4_addRow 24 = .ok (.iconst 0, 1) := by decide +kernel
theorem dX4_addRow_25 : decode cX4_addRow 25 = .ok (.ireturn, 1) := by decide +kernel
theorem dX4_addRow_26 : decode cX4_addRow 26 = .ok (.aload_n 0, 1) := by decide +kernel
theorem dX4_addRow_27 : decode cX4_addRow 27 = .ok (.getfield 12, 3) := by decide +kernel
theorem dX4_addRow_30 : decode cX4_addRow 30 = .ok (.getfield 106, 3) := by decide +kernel
theorem dX4_addRow_33 : decode cX4_addRow 33 = .ok (.iconst 4, 1) := by decide +kernel
theorem dX4_addRow_34 : decode cX4_addRow 34 = .ok (.iaload, 1) := by decide +kernel
theorem dX4_addRow_35 : decode cX4_addRow 35 = .ok (.aload_n 0, 1) := by decide +kernel
theorem dX4_addRow_36 : decode cX4_addRow 36 = .ok (.getfield 18, 3) := by decide +kernel
theorem dX4_addRow_39 : decode cX4_addRow 39 = .ok (.getfield 106, 3) := by decide +kernel
theorem dX4_addRow_42 : decode cX4_addRow 42 = .ok (.iload_n 3, 1) := by decide +kernel
theorem dX4_addRow_43 : decode cX4_addRow 43 = .ok (.iconst 4, 1) := by decide +kernel
theorem dX4_addRow_44 : decode cX4_addRow 44 = .ok (.iadd, 1) := by decide +kernel
theorem dX4_addRow_45 : decode cX4_addRow 45 = .ok (.iaload, 1) := by decide +kernel
theorem dX4_addRow_46 : decode cX4_addRow 46 = .ok (.if_icmp .lt 26, 3) := by decide +kernel
theorem dX4_addRow_49 : decode cX4_addRow 49 = .ok (.aload_n 0, 1) := by decide +kernel
theorem dX4_addRow_50 : decode cX4_addRow 50 = .ok (.getfield 12, 3) := by decide +kernel
theorem dX4_addRow_53 : decode cX4_addRow 53 = .ok (.getfield 106, 3) := by decide +kernel
theorem dX4_addRow_56 : decode cX4_addRow 56 = .ok (.iconst 5, 1) := by decide +kernel
theorem dX4_addRow_57 : decode cX4_addRow 57 = .ok (.iaload, 1) := by decide +kernel
theorem dX4_addRow_58 : decode cX4_addRow 58 = .ok (.aload_n 0, 1) := by decide +kernel
theorem dX4_addRow_59 : decode cX4_addRow 59 = .ok (.getfield 18, 3) := by decide +kernel
theorem dX4_addRow_62 : decode cX4_addRow 62 = .ok (.getfield 106, 3) := by decide +kernel
theorem dX4_addRow_65 : decode cX4_addRow 65 = .ok (.iload_n 3, 1) := by decide +kernel
theorem dX4_addRow_66 : decode cX4_addRow 66 = .ok (.iconst 5, 1) := by decide +kernel
theorem dX4_addRow_67 : decode cX4_addRow 67 = .ok (.iadd, 1) := by decide +kernel
theorem dX4_addRow_68 : decode cX4_addRow 68 = .ok (.iaload, 1) := by decide +kernel
theorem dX4_addRow_69 : decode cX4_addRow 69 = .ok (.if_icmp .ge 5, 3) := by decide +kernel
theorem dX4_addRow_72 : decode cX4_addRow 72 = .ok (.iconst 0, 1) := by decide +kernel
theorem dX4_addRow_73 : decode cX4_addRow 73 = .ok (.ireturn, 1) := by decide +kernel
theorem dX4_addRow_74 : decode cX4_addRow 74 = .ok (.aload_n 0, 1) := by decide +kernel
theorem dX4_addRow_75 : decode cX4_addRow 75 = .ok (.getfield 40, 3) := by decide +kernel
theorem dX4_addRow_78 : decode cX4_addRow 78 = .ok (.iconst 5, 1) := by decide +kernel
theorem dX4_addRow_79 : decode cX4_addRow 79 = .ok (.imul, 1) := by decide +kernel
theorem dX4_addRow_80 : decode cX4_addRow 80 = .ok (.istore 4, 2) := by decide +kernel
theorem dX4_addRow_82 : decode cX4_addRow 82 = .ok (.iload 4, 2) := by decide +kernel
theorem dX4_addRow_84 : decode cX4_addRow 84 = .ok (.iconst 5, 1) := by decide +kernel
theorem dX4_addRow_85 : decode cX4_addRow 85 = .ok (.iadd, 1) := by decide +kernel
theorem dX4_addRow_86 : decode cX4_addRow 86 = .ok (.aload_n 0, 1) := by decide +kernel
theorem dX4_addRow_87 : decode cX4_addRow 87 = .ok (.getfield 21, 3) := by decide +kernel
theorem dX4_addRow_90 : decode cX4_addRow 90 = .ok (.arraylength, 1) := by decide +kernel
theorem dX4_addRow_91 : decode cX4_addRow 91 = .ok (.if_icmp .le 5, 3) := by decide +kernel
theorem dX4_addRow_94 : decode cX4_addRow 94 = .ok (.iconst 0, 1) := by decide +kernel
theorem dX4_addRow_95 : decode cX4_addRow 95 = .ok (.ireturn, 1) := by decide +kernel
theorem dX4_addRow_96 : decode cX4_addRow 96 = .ok (.iconst 0, 1) := by decide +kernel
theorem dX4_addRow_97 : decode cX4_addRow 97 = .ok (.istore 5, 2) := by decide +kernel
theorem dX4_addRow_99 : decode cX4_addRow 99 = .ok (.iload 5, 2) := by decide +kernel
theorem dX4_addRow_101 : decode cX4_addRow 101 = .ok (.iconst 4, 1) := by decide +kernel
theorem dX4_addRow_102 : decode cX4_addRow 102 = .ok (.if_icmp .ge 42, 3) := by decide +kernel
theorem dX4_addRow_105 : decode cX4_addRow 105 = .ok (.aload_n 0, 1) := by decide +kernel
theorem dX4_addRow_106 : decode cX4_addRow 106 = .ok (.getfield 21, 3) := by decide +kernel
theorem dX4_addRow_109 : decode cX4_addRow 109 = .ok (.iload 4, 2) := by decide +kernel
theorem dX4_addRow_111 : decode cX4_addRow 111 = .ok (.iload 5, 2) := by decide +kernel
theorem dX4_addRow_113 : decode cX4_addRow 113 = .ok (.iadd, 1) := by decide +kernel
theorem dX4_addRow_114 : decode cX4_addRow 114 = .ok (.aload_n 0, 1) := by decide +kernel
theorem dX4_addRow_115 : decode cX4_addRow 115 = .ok (.getfield 12, 3) := by decide +kernel
theorem dX4_addRow_118 : decode cX4_addRow 118 = .ok (.getfield 106, 3) := by decide +kernel
theorem dX4_addRow_121 : decode cX4_addRow 121 = .ok (.iload 5, 2) := by decide +kernel
theorem dX4_addRow_123 : decode cX4_addRow 123 = .ok (.iaload, 1) := by decide +kernel
theorem dX4_addRow_124 : decode cX4_addRow 124 = .ok (.aload_n 0, 1) := by decide +kernel
theorem dX4_addRow_125 : decode cX4_addRow 125 = .ok (.getfield 18, 3) := by decide +kernel
theorem dX4_addRow_128 : decode cX4_addRow 128 = .ok (.getfield 106, 3) := by decide +kernel
theorem dX4_addRow_131 : decode cX4_addRow 131 = .ok (.iload_n 3, 1) := by decide +kernel
theorem dX4_addRow_132 : decode cX4_addRow 132 = .ok (.iload 5, 2) := by decide +kernel
theorem dX4_addRow_134 : decode cX4_addRow 134 = .ok (.iadd, 1) := by decide +kernel
theorem dX4_addRow_135 : decode cX4_addRow 135 = .ok (.iaload, 1) := by decide +kernel
theorem dX4_addRow_136 : decode cX4_addRow 136 = .ok (.isub, 1) := by decide +kernel
theorem dX4_addRow_137 : decode cX4_addRow 137 = .ok (.iastore, 1) := by decide +kernel
theorem dX4_addRow_138 : decode cX4_addRow 138 = .ok (.iinc 5 1, 3) := by decide +kernel
theorem dX4_addRow_141 : decode cX4_addRow 141 = .ok (.goto (-42), 3) := by decide +kernel
theorem dX4_addRow_144 : decode cX4_addRow 144 = .ok (.aload_n 0, 1) := by decide +kernel
theorem dX4_addRow_145 : decode cX4_addRow 145 = .ok (.getfield 21, 3) := by decide +kernel
theorem dX4_addRow_148 : decode cX4_addRow 148 = .ok (.iload 4, 2) := by decide +kernel
theorem dX4_addRow_150 : decode cX4_addRow 150 = .ok (.iconst 4, 1) := by decide +kernel
theorem dX4_addRow_151 : decode cX4_addRow 151 = .ok (.iadd, 1) := by decide +kernel
theorem dX4_addRow_152 : decode cX4_addRow 152 = .ok (.iload_n 2, 1) := by decide +kernel
theorem dX4_addRow_153 : decode cX4_addRow 153 = .ok (.iastore, 1) := by decide +kernel
theorem dX4_addRow_154 : decode cX4_addRow 154 = .ok (.aload_n 0, 1) := by decide +kernel
theorem dX4_addRow_155 : decode cX4_addRow 155 = .ok (.dup, 1) := by decide +kernel
theorem dX4_addRow_156 : decode cX4_addRow 156 = .ok (.getfield 40, 3) := by decide +kernel
theorem dX4_addRow_159 : decode cX4_addRow 159 = .ok (.iconst 1, 1) := by decide +kernel
theorem dX4_addRow_160 : decode cX4_addRow 160 = .ok (.iadd, 1) := by decide +kernel
theorem dX4_addRow_161 : decode cX4_addRow 161 = .ok (.putfield 40, 3) := by decide +kernel
theorem dX4_addRow_164 : decode cX4_addRow 164 = .ok (.iconst 1, 1) := by decide +kernel
theorem dX4_addRow_165 : decode cX4_addRow 165 = .ok (.ireturn, 1) := by decide +kernel
theorem dX4_leastByRows_0 : decode cX4_leastByRows 0 = .ok (.iconst 0, 1) := by decide +kernel
theorem dX4_leastByRows_1 : decode cX4_leastByRows 1 = .ok (.istore 4, 2) := by decide +kernel
theorem dX4_leastByRows_3 : decode cX4_leastByRows 3 = .ok (.iload 4, 2) := by decide +kernel
theorem dX4_leastByRows_5 : decode cX4_leastByRows 5 = .ok (.iload_n 2, 1) := by decide +kernel
theorem dX4_leastByRows_6 : decode cX4_leastByRows 6 = .ok (.if_icmp .gt 114, 3) := by decide +kernel
theorem dX4_leastByRows_9 : decode cX4_leastByRows 9 = .ok (.iconst 0, 1) := by decide +kernel
theorem dX4_leastByRows_10 : decode cX4_leastByRows 10 = .ok (.istore 5, 2) := by decide +kernel
theorem dX4_leastByRows_12 : decode cX4_leastByRows 12 = .ok (.iload 5, 2) := by decide +kernel
theorem dX4_leastByRows_14 : decode cX4_leastByRows 14 = .ok (.iload_n 2, 1) := by decide +kernel
theorem dX4_leastByRows_15 : decode cX4_leastByRows 15 = .ok (.if_icmp .gt 99, 3) := by decide +kernel
theorem dX4_leastByRows_18 : decode cX4_leastByRows 18 = .ok (.iconst 0, 1) := by decide +kernel
theorem dX4_leastByRows_19 : decode cX4_leastByRows 19 = .ok (.istore 6, 2) := by decide +kernel
theorem dX4_leastByRows_21 : decode cX4_leastByRows 21 = .ok (.iload 6, 2) := by decide +kernel
theorem dX4_leastByRows_23 : decode cX4_leastByRows 23 = .ok (.iload_n 2, 1) := by decide +kernel
theorem dX4_leastByRows_24 : decode cX4_leastByRows 24 = .ok (.if_icmp .gt 84, 3) := by decide +kernel
theorem dX4_leastByRows_27 : decode cX4_leastByRows 27 = .ok (.iconst 0, 1) := by decide +kernel
theorem dX4_leastByRows_28 : decode cX4_leastByRows 28 = .ok (.istore 7, 2) := by decide +kernel
theorem dX4_leastByRows_30 : decode cX4_leastByRows 30 = .ok (.iload 7, 2) := by decide +kernel
theorem dX4_leastByRows_32 : decode cX4_leastByRows 32 = .ok (.iload_n 2, 1) := by decide +kernel
theorem dX4_leastByRows_33 : decode cX4_leastByRows 33 = .ok (.if_icmp .gt 69, 3) := by decide +kernel
theorem dX4_leastByRows_36 : decode cX4_leastByRows 36 = .ok (.sipush 1000, 3) := by decide +kernel
theorem dX4_leastByRows_39 : decode cX4_leastByRows 39 = .ok (.sipush 1000, 3) := by decide +kernel
theorem dX4_leastByRows_42 : decode cX4_leastByRows 42 = .ok (.iload 4, 2) := by decide +kernel
theorem dX4_leastByRows_44 : decode cX4_leastByRows 44 = .ok (.imul, 1) := by decide +kernel
theorem dX4_leastByRows_45 : decode cX4_leastByRows 45 = .ok (.bipush 100, 2) := by decide +kernel
theorem dX4_leastByRows_47 : decode cX4_leastByRows 47 = .ok (.iload 5, 2) := by decide +kernel
theorem dX4_leastByRows_49 : decode cX4_leastByRows 49 = .ok (.imul, 1) := by decide +kernel
theorem dX4_leastByRows_50 : decode cX4_leastByRows 50 = .ok (.iadd, 1) := by decide +kernel
theorem dX4_leastByRows_51 : decode cX4_leastByRows 51 = .ok (.bipush 10, 2) := by decide +kernel
theorem dX4_leastByRows_53 : decode cX4_leastByRows 53 = .ok (.iload 6, 2) := by decide +kernel
theorem dX4_leastByRows_55 : decode cX4_leastByRows 55 = .ok (.imul, 1) := by decide +kernel
theorem dX4_leastByRows_56 : decode cX4_leastByRows 56 = .ok (.iadd, 1) := by decide +kernel
theorem dX4_leastByRows_57 : decode cX4_leastByRows 57 = .ok (.iload 7, 2) := by decide +kernel
theorem dX4_leastByRows_59 : decode cX4_leastByRows 59 = .ok (.iadd, 1) := by decide +kernel
theorem dX4_leastByRows_60 : decode cX4_leastByRows 60 = .ok (.imul, 1) := by decide +kernel
theorem dX4_leastByRows_61 : decode cX4_leastByRows 61 = .ok (.iload_n 1, 1) := by decide +kernel
theorem dX4_leastByRows_62 : decode cX4_leastByRows 62 = .ok (.iadd, 1) := by decide +kernel
theorem dX4_leastByRows_63 : decode cX4_leastByRows 63 = .ok (.istore 8, 2) := by decide +kernel
theorem dX4_leastByRows_65 : decode cX4_leastByRows 65 = .ok (.iload_n 3, 1) := by decide +kernel
theorem dX4_leastByRows_66 : decode cX4_leastByRows 66 = .ok (.iconst (-1), 1) := by decide +kernel
theorem dX4_leastByRows_67 : decode cX4_leastByRows 67 = .ok (.if_icmp .eq 11, 3) := by decide +kernel
theorem dX4_leastByRows_70 : decode cX4_leastByRows 70 = .ok (.iload 8, 2) := by decide +kernel
theorem dX4_leastByRows_72 : decode cX4_leastByRows 72 = .ok (.iload_n 3, 1) := by decide +kernel
theorem dX4_leastByRows_73 : decode cX4_leastByRows 73 = .ok (.if_icmp .le 5, 3) := by decide +kernel
theorem dX4_leastByRows_76 : decode cX4_leastByRows 76 = .ok (.iload_n 3, 1) := by decide +kernel
theorem dX4_leastByRows_77 : decode cX4_leastByRows 77 = .ok (.ireturn, 1) := by decide +kernel
theorem dX4_leastByRows_78 : decode cX4_leastByRows 78 = .ok (.aload_n 0, 1) := by decide +kernel
theorem dX4_leastByRows_79 : decode cX4_leastByRows 79 = .ok (.iload 4, 2) := by decide +kernel
theorem dX4_leastByRows_81 : decode cX4_leastByRows 81 = .ok (.iload 5, 2) := by decide +kernel
theorem dX4_leastByRows_83 : decode cX4_leastByRows 83 = .ok (.iload 6, 2) := by decide +kernel
theorem dX4_leastByRows_85 : decode cX4_leastByRows 85 = .ok (.iload 7, 2) := by decide +kernel
theorem dX4_leastByRows_87 : decode cX4_leastByRows 87 = .ok (.invokevirtual 109, 3) := by decide +kernel
theorem dX4_leastByRows_90 : decode cX4_leastByRows 90 = .ok (.ifCond .eq 6, 3) := by decide +kernel
theorem dX4_leastByRows_93 : decode cX4_leastByRows 93 = .ok (.iload 8, 2) := by decide +kernel
theorem dX4_leastByRows_95 : decode cX4_leastByRows 95 = .ok (.ireturn, 1) := by decide +kernel
theorem dX4_leastByRows_96 : decode cX4_leastByRows 96 = .ok (.iinc 7 1, 3) := by decide +kernel
theorem dX4_leastByRows_99 : decode cX4_leastByRows 99 = .ok (.goto (-69), 3) := by decide +kernel
theorem dX4_leastByRows_102 : decode cX4_leastByRows 102 = .ok (.iinc 6 1, 3) := by decide +kernel
theorem dX4_leastByRows_105 : decode cX4_leastByRows 105 = .ok (.goto (-84), 3) := by decide +kernel
theorem dX4_leastByRows_108 : decode cX4_leastByRows 108 = .ok (.iinc 5 1, 3) := by decide +kernel
theorem dX4_leastByRows_111 : decode cX4_leastByRows 111 = .ok (.goto (-99), 3) := by decide +kernel
theorem dX4_leastByRows_114 : decode cX4_leastByRows 114 = .ok (.iinc 4 1, 3) := by decide +kernel
theorem dX4_leastByRows_117 : decode cX4_leastByRows 117 = .ok (.goto (-114), 3) := by decide +kernel
theorem dX4_leastByRows_120 : decode cX4_leastByRows 120 = .ok (.iload_n 3, 1) := by decide +kernel
theorem dX4_leastByRows_121 : decode cX4_leastByRows 121 = .ok (.ireturn, 1) := by decide +kernel
theorem dX4_meetsRows_0 : decode cX4_meetsRows 0 = .ok (.iconst 0, 1) := by decide +kernel
theorem dX4_meetsRows_1 : decode cX4_meetsRows 1 = .ok (.istore 5, 2) := by decide +kernel
theorem dX4_meetsRows_3 : decode cX4_meetsRows 3 = .ok (.iload 5, 2) := by decide +kernel
theorem dX4_meetsRows_5 : decode cX4_meetsRows 5 = .ok (.aload_n 0, 1) := by decide +kernel
theorem dX4_meetsRows_6 : decode cX4_meetsRows 6 = .ok (.getfield 40, 3) := by decide +kernel
theorem dX4_meetsRows_9 : decode cX4_meetsRows 9 = .ok (.if_icmp .ge 36, 3) := by decide +kernel
theorem dX4_meetsRows_12 : decode cX4_meetsRows 12 = .ok (.aload_n 0, 1) := by decide +kernel
theorem dX4_meetsRows_13 : decode cX4_meetsRows 13 = .ok (.iload 5, 2) := by decide +kernel
theorem dX4_meetsRows_15 : decode cX4_meetsRows 15 = .ok (.iload_n 1, 1) := by decide +kernel
theorem dX4_meetsRows_16 : decode cX4_meetsRows 16 = .ok (.iload_n 2, 1) := by decide +kernel
theorem dX4_meetsRows_17 : decode cX4_meetsRows 17 = .ok (.iload_n 3, 1) := by decide +kernel
theorem dX4_meetsRows_18 : decode cX4_meetsRows 18 = .ok (.iload 4, 2) := by decide +kernel
theorem dX4_meetsRows_20 : decode cX4_meetsRows 20 = .ok (.invokevirtual 48, 3) := by decide +kernel
theorem dX4_meetsRows_23 : decode cX4_meetsRows 23 = .ok (.aload_n 0, 1) := by decide +kernel
theorem dX4_meetsRows_24 : decode cX4_meetsRows 24 = .ok (.getfield 21, 3) := by decide +kernel
theorem dX4_meetsRows_27 : decode cX4_meetsRows 27 = .ok (.iload 5, 2) := by decide +kernel
theorem dX4_meetsRows_29 : decode cX4_meetsRows 29 = .ok (.iconst 5, 1) := by decide +kernel
theorem dX4_meetsRows_30 : decode cX4_meetsRows 30 = .ok (.imul, 1) := by decide +kernel
theorem dX4_meetsRows_31 : decode cX4_meetsRows 31 = .ok (.iconst 4, 1) := by decide +kernel
theorem dX4_meetsRows_32 : decode cX4_meetsRows 32 = .ok (.iadd, 1) := by decide +kernel
theorem dX4_meetsRows_33 : decode cX4_meetsRows 33 = .ok (.iaload, 1) := by decide +kernel
theorem dX4_meetsRows_34 : decode cX4_meetsRows 34 = .ok (.if_icmp .ge 5, 3) := by decide +kernel
theorem dX4_meetsRows_37 : decode cX4_meetsRows 37 = .ok (.iconst 0, 1) := by decide +kernel
theorem dX4_meetsRows_38 : decode cX4_meetsRows 38 = .ok (.ireturn, 1) := by decide +kernel
theorem dX4_meetsRows_39 : decode cX4_meetsRows 39 = .ok (.iinc 5 1, 3) := by decide +kernel
theorem dX4_meetsRows_42 : decode cX4_meetsRows 42 = .ok (.goto (-39), 3) := by decide +kernel
theorem dX4_meetsRows_45 : decode cX4_meetsRows 45 = .ok (.iconst 1, 1) := by decide +kernel
theorem dX4_meetsRows_46 : decode cX4_meetsRows 46 = .ok (.ireturn, 1) := by decide +kernel
theorem dX4_sumOfRow_0 : decode cX4_sumOfRow 0 = .ok (.iload_n 1, 1) := by decide +kernel
theorem dX4_sumOfRow_1 : decode cX4_sumOfRow 1 = .ok (.iconst 5, 1) := by decide +kernel
theorem dX4_sumOfRow_2 : decode cX4_sumOfRow 2 = .ok (.imul, 1) := by decide +kernel
theorem dX4_sumOfRow_3 : decode cX4_sumOfRow 3 = .ok (.istore 6, 2) := by decide +kernel
theorem dX4_sumOfRow_5 : decode cX4_sumOfRow 5 = .ok (.iload_n 2, 1) := by decide +kernel
theorem dX4_sumOfRow_6 : decode cX4_sumOfRow 6 = .ok (.aload_n 0, 1) := by decide +kernel
theorem dX4_sumOfRow_7 : decode cX4_sumOfRow 7 = .ok (.getfield 21, 3) := by decide +kernel
theorem dX4_sumOfRow_10 : decode cX4_sumOfRow 10 = .ok (.iload 6, 2) := by decide +kernel
theorem dX4_sumOfRow_12 : decode cX4_sumOfRow 12 = .ok (.iaload, 1) := by decide +kernel
theorem dX4_sumOfRow_13 : decode cX4_sumOfRow 13 = .ok (.imul, 1) := by decide +kernel
theorem dX4_sumOfRow_14 : decode cX4_sumOfRow 14 = .ok (.iload_n 3, 1) := by decide +kernel
theorem dX4_sumOfRow_15 : decode cX4_sumOfRow 15 = .ok (.aload_n 0, 1) := by decide +kernel
theorem dX4_sumOfRow_16 : decode cX4_sumOfRow 16 = .ok (.getfield 21, 3) := by decide +kernel
theorem dX4_sumOfRow_19 : decode cX4_sumOfRow 19 = .ok (.iload 6, 2) := by decide +kernel
theorem dX4_sumOfRow_21 : decode cX4_sumOfRow 21 = .ok (.iconst 1, 1) := by decide +kernel
theorem dX4_sumOfRow_22 : decode cX4_sumOfRow 22 = .ok (.iadd, 1) := by decide +kernel
theorem dX4_sumOfRow_23 : decode cX4_sumOfRow 23 = .ok (.iaload, 1) := by decide +kernel
theorem dX4_sumOfRow_24 : decode cX4_sumOfRow 24 = .ok (.imul, 1) := by decide +kernel
theorem dX4_sumOfRow_25 : decode cX4_sumOfRow 25 = .ok (.iadd, 1) := by decide +kernel
theorem dX4_sumOfRow_26 : decode cX4_sumOfRow 26 = .ok (.iload 4, 2) := by decide +kernel
theorem dX4_sumOfRow_28 : decode cX4_sumOfRow 28 = .ok (.aload_n 0, 1) := by decide +kernel
theorem dX4_sumOfRow_29 : decode cX4_sumOfRow 29 = .ok (.getfield 21, 3) := by decide +kernel
theorem dX4_sumOfRow_32 : decode cX4_sumOfRow 32 = .ok (.iload 6, 2) := by decide +kernel
theorem dX4_sumOfRow_34 : decode cX4_sumOfRow 34 = .ok (.iconst 2, 1) := by decide +kernel
theorem dX4_sumOfRow_35 : decode cX4_sumOfRow 35 = .ok (.iadd, 1) := by decide +kernel
theorem dX4_sumOfRow_36 : decode cX4_sumOfRow 36 = .ok (.iaload, 1) := by decide +kernel
theorem dX4_sumOfRow_37 : decode cX4_sumOfRow 37 = .ok (.imul, 1) := by decide +kernel
theorem dX4_sumOfRow_38 : decode cX4_sumOfRow 38 = .ok (.iadd, 1) := by decide +kernel
theorem dX4_sumOfRow_39 : decode cX4_sumOfRow 39 = .ok (.iload 5, 2) := by decide +kernel
theorem dX4_sumOfRow_41 : decode cX4_sumOfRow 41 = .ok (.aload_n 0, 1) := by decide +kernel
theorem dX4_sumOfRow_42 : decode cX4_sumOfRow 42 = .ok (.getfield 21, 3) := by decide +kernel
theorem dX4_sumOfRow_45 : decode cX4_sumOfRow 45 = .ok (.iload 6, 2) := by decide +kernel
theorem dX4_sumOfRow_47 : decode cX4_sumOfRow 47 = .ok (.iconst 3, 1) := by decide +kernel
theorem dX4_sumOfRow_48 : decode cX4_sumOfRow 48 = .ok (.iadd, 1) := by decide +kernel
theorem dX4_sumOfRow_49 : decode cX4_sumOfRow 49 = .ok (.iaload, 1) := by decide +kernel
theorem dX4_sumOfRow_50 : decode cX4_sumOfRow 50 = .ok (.imul, 1) := by decide +kernel
theorem dX4_sumOfRow_51 : decode cX4_sumOfRow 51 = .ok (.iadd, 1) := by decide +kernel
theorem dX4_sumOfRow_52 : decode cX4_sumOfRow 52 = .ok (.ireturn, 1) := by decide +kernel
theorem dX5_init_0 : decode cX5_init 0 = .ok (.aload_n 0, 1) := by decide +kernel
theorem dX5_init_1 : decode cX5_init 1 = .ok (.invokespecial 3, 3) := by decide +kernel
theorem dX5_init_4 : decode cX5_init 4 = .ok (.aload_n 0, 1) := by decide +kernel
theorem dX5_init_5 : decode cX5_init 5 = .ok (.bipush 97, 2) := by decide +kernel
theorem dX5_init_7 : decode cX5_init 7 = .ok (.newarray .int, 2) := by decide +kernel
theorem dX5_init_9 : decode cX5_init 9 = .ok (.putfield 9, 3) := by decide +kernel
theorem dX5_init_12 : decode cX5_init 12 = .ok (.return_, 1) := by decide +kernel
theorem dX5_writeRule_0 : decode cX5_writeRule 0 = .ok (.aload_n 0, 1) := by decide +kernel
theorem dX5_writeRule_1 : decode cX5_writeRule 1 = .ok (.iconst 0, 1) := by decide +kernel
theorem dX5_writeRule_2 : decode cX5_writeRule 2 = .ok (.putfield 15, 3) := by decide +kernel
theorem dX5_writeRule_5 : decode cX5_writeRule 5 = .ok (.aload_n 0, 1) := by decide +kernel
theorem dX5_writeRule_6 : decode cX5_writeRule 6 = .ok (.aload_n 1, 1) := by decide +kernel
theorem dX5_writeRule_7 : decode cX5_writeRule 7 = .ok (.getfield 19, 3) := by decide +kernel
theorem dX5_writeRule_10 : decode cX5_writeRule 10 = .ok (.invokevirtual 25, 3) := by decide +kernel
theorem dX5_writeRule_13 : decode cX5_writeRule 13 = .ok (.aload_n 0, 1) := by decide +kernel
theorem dX5_writeRule_14 : decode cX5_writeRule 14 = .ok (.bipush 62, 2) := by decide +kernel
theorem dX5_writeRule_16 : decode cX5_writeRule 16 = .ok (.invokevirtual 29, 3) := by decide +kernel
theorem dX5_writeRule_19 : decode cX5_writeRule 19 = .ok (.aload_n 0, 1) := by decide +kernel
theorem dX5_writeRule_20 : decode cX5_writeRule 20 = .ok (.aload_n 1, 1) := by decide +kernel
theorem dX5_writeRule_21 : decode cX5_writeRule 21 = .ok (.getfield 33, 3) := by decide +kernel
theorem dX5_writeRule_24 : decode cX5_writeRule 24 = .ok (.invokevirtual 25, 3) := by decide +kernel
theorem dX5_writeRule_27 : decode cX5_writeRule 27 = .ok (.return_, 1) := by decide +kernel
theorem dX5_writeSide_0 : decode cX5_writeSide 0 = .ok (.iconst 0, 1) := by decide +kernel
theorem dX5_writeSide_1 : decode cX5_writeSide 1 = .ok (.istore_n 2, 1) := by decide +kernel
theorem dX5_writeSide_2 : decode cX5_writeSide 2 = .ok (.iload_n 2, 1) := by decide +kernel
theorem dX5_writeSide_3 : decode cX5_writeSide 3 = .ok (.aload_n 1, 1) := by decide +kernel
theorem dX5_writeSide_4 : decode cX5_writeSide 4 = .ok (.getfield 36, 3) := by decide +kernel
theorem dX5_writeSide_7 : decode cX5_writeSide 7 = .ok (.if_icmp .ge 48, 3) := by decide +kernel
theorem dX5_writeSide_10 : decode cX5_writeSide 10 = .ok (.aload_n 0, 1) := by decide +kernel
theorem dX5_writeSide_11 : decode cX5_writeSide 11 = .ok (.aload_n 1, 1) := by decide +kernel
theorem dX5_writeSide_12 : decode cX5_writeSide 12 = .ok (.getfield 39, 3) := by decide +kernel
theorem dX5_writeSide_15 : decode cX5_writeSide 15 = .ok (.iload_n 2, 1) := by decide +kernel
theorem dX5_writeSide_16 : decode cX5_writeSide 16 = .ok (.iaload, 1) := by decide +kernel
theorem dX5_writeSide_17 : decode cX5_writeSide 17 = .ok (.invokevirtual 29, 3) := by decide +kernel
theorem dX5_writeSide_20 : decode cX5_writeSide 20 = .ok (.aload_n 1, 1) := by decide +kernel
theorem dX5_writeSide_21 : decode cX5_writeSide 21 = .ok (.getfield 39, 3) := by decide +kernel
theorem dX5_writeSide_24 : decode cX5_writeSide 24 = .ok (.iload_n 2, 1) := by decide +kernel
theorem dX5_writeSide_25 : decode cX5_writeSide 25 = .ok (.iaload, 1) := by decide +kernel
theorem dX5_writeSide_26 : decode cX5_writeSide 26 = .ok (.invokestatic 42, 3) := by decide +kernel
theorem dX5_writeSide_29 : decode cX5_writeSide 29 = .ok (.ifCond .le 12, 3) := by decide +kernel
theorem dX5_writeSide_32 : decode cX5_writeSide 32 = .ok (.aload_n 0, 1) := by decide +kernel
theorem dX5_writeSide_33 : decode cX5_writeSide 33 = .ok (.bipush 40, 2) := by decide +kernel
theorem dX5_writeSide_35 : decode cX5_writeSide 35 = .ok (.invokevirtual 29, 3) := by decide +kernel
theorem dX5_writeSide_38 : decode cX5_writeSide 38 = .ok (.goto 11, 3) := by decide +kernel
theorem dX5_writeSide_41 : decode cX5_writeSide 41 = .ok (.aload_n 0, 1) := by decide +kernel
theorem dX5_writeSide_42 : decode cX5_writeSide 42 = .ok (.aload_n 1, 1) := by decide +kernel
theorem dX5_writeSide_43 : decode cX5_writeSide 43 = .ok (.iload_n 2, 1) := by decide +kernel
theorem dX5_writeSide_44 : decode cX5_writeSide 44 = .ok (.iconst 1, 1) := by decide +kernel
theorem dX5_writeSide_45 : decode cX5_writeSide 45 = .ok (.iadd, 1) := by decide +kernel
theorem dX5_writeSide_46 : decode cX5_writeSide 46 = .ok (.invokevirtual 46, 3) := by decide +kernel
theorem dX5_writeSide_49 : decode cX5_writeSide 49 = .ok (.iinc 2 1, 3) := by decide +kernel
theorem dX5_writeSide_52 : decode cX5_writeSide 52 = .ok (.goto (-50), 3) := by decide +kernel
theorem dX5_writeSide_55 : decode cX5_writeSide 55 = .ok (.return_, 1) := by decide +kernel
theorem dX5_writeBehind_0 : decode cX5_writeBehind 0 = .ok (.iload_n 2, 1) := by decide +kernel
theorem dX5_writeBehind_1 : decode cX5_writeBehind 1 = .ok (.iconst 2, 1) := by decide +kernel
theorem dX5_writeBehind_2 : decode cX5_writeBehind 2 = .ok (.isub, 1) := by decide +kernel
theorem dX5_writeBehind_3 : decode cX5_writeBehind 3 = .ok (.istore_n 3, 1) := by decide +kernel
theorem dX5_writeBehind_4 : decode cX5_writeBehind 4 = .ok (.iload_n 3, 1) := by decide +kernel
theorem dX5_writeBehind_5 : decode cX5_writeBehind 5 = .ok (.ifCond .lt 25, 3) := by decide +kernel
theorem dX5_writeBehind_8 : decode cX5_writeBehind 8 = .ok (.aload_n 1, 1) := by decide +kernel
theorem dX5_writeBehind_9 : decode cX5_writeBehind 9 = .ok (.getfield 50, 3) := by decide +kernel
theorem dX5_writeBehind_12 : decode cX5_writeBehind 12 = .ok (.iload_n 3, 1) := by decide +kernel
theorem dX5_writeBehind_13 : decode cX5_writeBehind 13 = .ok (.iaload, 1) := by decide +kernel
theorem dX5_writeBehind_14 : decode cX5_writeBehind 14 = .ok (.iload_n 2, 1) := by decide +kernel
theorem dX5_writeBehind_15 : decode cX5_writeBehind 15 = .ok (.if_icmp .ne 9, 3) := by decide +kernel
theorem dX5_writeBehind_18 : decode cX5_writeBehind 18 = .ok (.aload_n 0, 1) := by decide +kernel
theorem dX5_writeBehind_19 : decode cX5_writeBehind 19 = .ok (.bipush 41, 2) := by decide +kernel
theorem dX5_writeBehind_21 : decode cX5_writeBehind 21 = .ok (.invokevirtual 29, 3) := by decide +kernel
theorem dX5_writeBehind_24 : decode cX5_writeBehind 24 = .ok (.iinc 3 (-1), 3) := by decide +kernel
theorem dX5_writeBehind_27 : decode cX5_writeBehind 27 = .ok (.goto (-23), 3) := by decide +kernel
theorem dX5_writeBehind_30 : decode cX5_writeBehind 30 = .ok (.iload_n 2, 1) := by decide +kernel
theorem dX5_writeBehind_31 : decode cX5_writeBehind 31 = .ok (.iconst 2, 1) := by decide +kernel
theorem dX5_writeBehind_32 : decode cX5_writeBehind 32 = .ok (.isub, 1) := by decide +kernel
theorem dX5_writeBehind_33 : decode cX5_writeBehind 33 = .ok (.istore_n 3, 1) := by decide +kernel
theorem dX5_writeBehind_34 : decode cX5_writeBehind 34 = .ok (.iload_n 3, 1) := by decide +kernel
theorem dX5_writeBehind_35 : decode cX5_writeBehind 35 = .ok (.ifCond .lt 38, 3) := by decide +kernel
theorem dX5_writeBehind_38 : decode cX5_writeBehind 38 = .ok (.aload_n 1, 1) := by decide +kernel
theorem dX5_writeBehind_39 : decode cX5_writeBehind 39 = .ok (.getfield 39, 3) := by decide +kernel
theorem dX5_writeBehind_42 : decode cX5_writeBehind 42 = .ok (.iload_n 3, 1) := by decide +kernel
theorem dX5_writeBehind_43 : decode cX5_writeBehind 43 = .ok (.iaload, 1) := by decide +kernel
theorem dX5_writeBehind_44 : decode cX5_writeBehind 44 = .ok (.bipush 103, 2) := by decide +kernel
theorem dX5_writeBehind_46 : decode cX5_writeBehind 46 = .ok (.if_icmp .ne 21, 3) := by decide +kernel
theorem dX5_writeBehind_49 : decode cX5_writeBehind 49 = .ok (.aload_n 1, 1) := by decide +kernel
theorem dX5_writeBehind_50 : decode cX5_writeBehind 50 = .ok (.getfield 50, 3) := by decide +kernel
theorem dX5_writeBehind_53 : decode cX5_writeBehind 53 = .ok (.iload_n 3, 1) := by decide +kernel
theorem dX5_writeBehind_54 : decode cX5_writeBehind 54 = .ok (.iconst 1, 1) := by decide +kernel
theorem dX5_writeBehind_55 : decode cX5_writeBehind 55 = .ok (.iadd, 1) := by decide +kernel
theorem dX5_writeBehind_56 : decode cX5_writeBehind 56 = .ok (.iaload, 1) := by decide +kernel
theorem dX5_writeBehind_57 : decode cX5_writeBehind 57 = .ok (.iload_n 2, 1) := by decide +kernel
theorem dX5_writeBehind_58 : decode cX5_writeBehind 58 = .ok (.if_icmp .ne 9, 3) := by decide +kernel
theorem dX5_writeBehind_61 : decode cX5_writeBehind 61 = .ok (.aload_n 0, 1) := by decide +kernel
theorem dX5_writeBehind_62 : decode cX5_writeBehind 62 = .ok (.bipush 44, 2) := by decide +kernel
theorem dX5_writeBehind_64 : decode cX5_writeBehind 64 = .ok (.invokevirtual 29, 3) := by decide +kernel
theorem dX5_writeBehind_67 : decode cX5_writeBehind 67 = .ok (.iinc 3 (-1), 3) := by decide +kernel
theorem dX5_writeBehind_70 : decode cX5_writeBehind 70 = .ok (.goto (-36), 3) := by decide +kernel
theorem dX5_writeBehind_73 : decode cX5_writeBehind 73 = .ok (.return_, 1) := by decide +kernel
theorem dX5_put_0 : decode cX5_put 0 = .ok (.aload_n 0, 1) := by decide +kernel
theorem dX5_put_1 : decode cX5_put 1 = .ok (.getfield 15, 3) := by decide +kernel
theorem dX5_put_4 : decode cX5_put 4 = .ok (.aload_n 0, 1) := by decide +kernel
theorem dX5_put_5 : decode cX5_put 5 = .ok (.getfield 9, 3) := by decide +kernel
theorem dX5_put_8 : decode cX5_put 8 = .ok (.arraylength, 1) := by decide +kernel
theorem dX5_put_9 : decode cX5_put 9 = .ok (.if_icmp .ge 23, 3) := by decide +kernel
theorem dX5_put_12 : decode cX5_put 12 = .ok (.aload_n 0, 1) := by decide +kernel
theorem dX5_put_13 : decode cX5_put 13 = .ok (.getfield 9, 3) := by decide +kernel
theorem dX5_put_16 : decode cX5_put 16 = .ok (.aload_n 0, 1) := by decide +kernel
theorem dX5_put_17 : decode cX5_put 17 = .ok (.getfield 15, 3) := by decide +kernel
theorem dX5_put_20 : decode cX5_put 20 = .ok (.iload_n 1, 1) := by decide +kernel
theorem dX5_put_21 : decode cX5_put 21 = .ok (.iastore, 1) := by decide +kernel
theorem dX5_put_22 : decode cX5_put 22 = .ok (.aload_n 0, 1) := by decide +kernel
theorem dX5_put_23 : decode cX5_put 23 = .ok (.dup, 1) := by decide +kernel
theorem dX5_put_24 : decode cX5_put 24 = .ok (.getfield 15, 3) := by decide +kernel
theorem dX5_put_27 : decode cX5_put 27 = .ok (.iconst 1, 1) := by decide +kernel
theorem dX5_put_28 : decode cX5_put 28 = .ok (.iadd, 1) := by decide +kernel
theorem dX5_put_29 : decode cX5_put 29 = .ok (.putfield 15, 3) := by decide +kernel
theorem dX5_put_32 : decode cX5_put 32 = .ok (.return_, 1) := by decide +kernel
theorem dX6_init_0 : decode cX6_init 0 = .ok (.aload_n 0, 1) := by decide +kernel
theorem dX6_init_1 : decode cX6_init 1 = .ok (.invokespecial 3, 3) := by decide +kernel
theorem dX6_init_4 : decode cX6_init 4 = .ok (.aload_n 0, 1) := by decide +kernel
theorem dX6_init_5 : decode cX6_init 5 = .ok (.bipush 72, 2) := by decide +kernel
theorem dX6_init_7 : decode cX6_init 7 = .ok (.newarray .int, 2) := by decide +kernel
theorem dX6_init_9 : decode cX6_init 9 = .ok (.putfield 11, 3) := by decide +kernel
theorem dX6_init_12 : decode cX6_init 12 = .ok (.return_, 1) := by decide +kernel
theorem dX6_countIn_0 : decode cX6_countIn 0 = .ok (.aload_n 1, 1) := by decide +kernel
theorem dX6_countIn_1 : decode cX6_countIn 1 = .ok (.getfield 15, 3) := by decide +kernel
theorem dX6_countIn_4 : decode cX6_countIn 4 = .ok (.iconst 1, 1) := by decide +kernel
theorem dX6_countIn_5 : decode cX6_countIn 5 = .ok (.isub, 1) := by decide +kernel
theorem dX6_countIn_6 : decode cX6_countIn 6 = .ok (.istore 5, 2) := by decide +kernel
theorem dX6_countIn_8 : decode cX6_countIn 8 = .ok (.iload 5, 2) := by decide +kernel
theorem dX6_countIn_10 : decode cX6_countIn 10 = .ok (.ifCond .lt 152, 3) := by decide +kernel
theorem dX6_countIn_13 : decode cX6_countIn 13 = .ok (.iconst 0, 1) := by decide +kernel
theorem dX6_countIn_14 : decode cX6_countIn 14 = .ok (.istore 6, 2) := by decide +kernel
theorem dX6_countIn_16 : decode cX6_countIn 16 = .ok (.iload 6, 2) := by decide +kernel
theorem dX6_countIn_18 : decode cX6_countIn 18 = .ok (.bipush 6, 2) := by decide +kernel
theorem dX6_countIn_20 : decode cX6_countIn 20 = .ok (.if_icmp .ge 23, 3) := by decide +kernel
theorem dX6_countIn_23 : decode cX6_countIn 23 = .ok (.aload_n 0, 1) := by decide +kernel
theorem dX6_countIn_24 : decode cX6_countIn 24 = .ok (.getfield 11, 3) := by decide +kernel
theorem dX6_countIn_27 : decode cX6_countIn 27 = .ok (.iload 5, 2) := by decide +kernel
theorem dX6_countIn_29 : decode cX6_countIn 29 = .ok (.bipush 6, 2) := by decide +kernel
theorem dX6_countIn_31 : decode cX6_countIn 31 = .ok (.imul, 1) := by decide +kernel
theorem dX6_countIn_32 : decode cX6_countIn 32 = .ok (.iload 6, 2) := by decide +kernel
theorem dX6_countIn_34 : decode cX6_countIn 34 = .ok (.iadd, 1) := by decide +kernel
theorem dX6_countIn_35 : decode cX6_countIn 35 = .ok (.iconst 0, 1) := by decide +kernel
theorem dX6_countIn_36 : decode cX6_countIn 36 = .ok (.iastore, 1) := by decide +kernel
theorem dX6_countIn_37 : decode cX6_countIn 37 = .ok (.iinc 6 1, 3) := by decide +kernel
theorem dX6_countIn_40 : decode cX6_countIn 40 = .ok (.goto (-24), 3) := by decide +kernel
theorem dX6_countIn_43 : decode cX6_countIn 43 = .ok (.aload_n 1, 1) := by decide +kernel
theorem dX6_countIn_44 : decode cX6_countIn 44 = .ok (.getfield 21, 3) := by decide +kernel
theorem dX6_countIn_47 : decode cX6_countIn 47 = .ok (.iload 5, 2) := by decide +kernel
theorem dX6_countIn_49 : decode cX6_countIn 49 = .ok (.iaload, 1) := by decide +kernel
theorem dX6_countIn_50 : decode cX6_countIn 50 = .ok (.invokestatic 24, 3) := by decide +kernel
theorem dX6_countIn_53 : decode cX6_countIn 53 = .ok (.istore 6, 2) := by decide +kernel
theorem dX6_countIn_55 : decode cX6_countIn 55 = .ok (.iload 6, 2) := by decide +kernel
theorem dX6_countIn_57 : decode cX6_countIn 57 = .ok (.iconst (-1), 1) := by decide +kernel
theorem dX6_countIn_58 : decode cX6_countIn 58 = .ok (.if_icmp .eq 17, 3) := by decide +kernel
theorem dX6_countIn_61 : decode cX6_countIn 61 = .ok (.aload_n 0, 1) := by decide +kernel
theorem dX6_countIn_62 : decode cX6_countIn 62 = .ok (.getfield 11, 3) := by decide +kernel
theorem dX6_countIn_65 : decode cX6_countIn 65 = .ok (.iload 5, 2) := by decide +kernel
theorem dX6_countIn_67 : decode cX6_countIn 67 = .ok (.bipush 6, 2) := by decide +kernel
theorem dX6_countIn_69 : decode cX6_countIn 69 = .ok (.imul, 1) := by decide +kernel
theorem dX6_countIn_70 : decode cX6_countIn 70 = .ok (.iload 6, 2) := by decide +kernel
theorem dX6_countIn_72 : decode cX6_countIn 72 = .ok (.iadd, 1) := by decide +kernel
theorem dX6_countIn_73 : decode cX6_countIn 73 = .ok (.iconst 1, 1) := by decide +kernel
theorem dX6_countIn_74 : decode cX6_countIn 74 = .ok (.iastore, 1) := by decide +kernel
theorem dX6_countIn_75 : decode cX6_countIn 75 = .ok (.aload_n 1, 1) := by decide +kernel
theorem dX6_countIn_76 : decode cX6_countIn 76 = .ok (.getfield 21, 3) := by decide +kernel
theorem dX6_countIn_79 : decode cX6_countIn 79 = .ok (.iload 5, 2) := by decide +kernel
theorem dX6_countIn_81 : decode cX6_countIn 81 = .ok (.iaload, 1) := by decide +kernel
theorem dX6_countIn_82 : decode cX6_countIn 82 = .ok (.bipush 102, 2) := by decide +kernel
theorem dX6_countIn_84 : decode cX6_countIn 84 = .ok (.if_icmp .ne 17, 3) := by decide +kernel
theorem dX6_countIn_87 : decode cX6_countIn 87 = .ok (.aload_n 0, 1) := by decide +kernel
theorem dX6_countIn_88 : decode cX6_countIn 88 = .ok (.iload 5, 2) := by decide +kernel
theorem dX6_countIn_90 : decode cX6_countIn 90 = .ok (.iload 5, 2) := by decide +kernel
theorem dX6_countIn_92 : decode cX6_countIn 92 = .ok (.iconst 1, 1) := by decide +kernel
theorem dX6_countIn_93 : decode cX6_countIn 93 = .ok (.iadd, 1) := by decide +kernel
theorem dX6_countIn_94 : decode cX6_countIn 94 = .ok (.iload_n 2, 1) := by decide +kernel
theorem dX6_countIn_95 : decode cX6_countIn 95 = .ok (.invokevirtual 28, 3) := by decide +kernel
theorem dX6_countIn_98 : decode cX6_countIn 98 = .ok (.goto 58, 3) := by decide +kernel
theorem dX6_countIn_101 : decode cX6_countIn 101 = .ok (.aload_n 1, 1) := by decide +kernel
theorem dX6_countIn_102 : decode cX6_countIn 102 = .ok (.getfield 21, 3) := by decide +kernel
theorem dX6_countIn_105 : decode cX6_countIn 105 = .ok (.iload 5, 2) := by decide +kernel
theorem dX6_countIn_107 : decode cX6_countIn 107 = .ok (.iaload, 1) := by decide +kernel
theorem dX6_countIn_108 : decode cX6_countIn 108 = .ok (.bipush 103, 2) := by decide +kernel
theorem dX6_countIn_110 : decode cX6_countIn 110 = .ok (.if_icmp .ne 46, 3) := by decide +kernel
theorem dX6_countIn_113 : decode cX6_countIn 113 = .ok (.aload_n 0, 1) := by decide +kernel
theorem dX6_countIn_114 : decode cX6_countIn 114 = .ok (.iload 5, 2) := by decide +kernel
theorem dX6_countIn_116 : decode cX6_countIn 116 = .ok (.iload 5, 2) := by decide +kernel
theorem dX6_countIn_118 : decode cX6_countIn 118 = .ok (.iconst 1, 1) := by decide +kernel
theorem dX6_countIn_119 : decode cX6_countIn 119 = .ok (.iadd, 1) := by decide +kernel
theorem dX6_countIn_120 : decode cX6_countIn 120 = .ok (.iload_n 3, 1) := by decide +kernel
theorem dX6_countIn_121 : decode cX6_countIn 121 = .ok (.invokevirtual 28, 3) := by decide +kernel
theorem dX6_countIn_124 : decode cX6_countIn 124 = .ok (.aload_n 0, 1) := by decide +kernel
theorem dX6_countIn_125 : decode cX6_countIn 125 = .ok (.iload 5, 2) := by decide +kernel
theorem dX6_countIn_127 : decode cX6_countIn 127 = .ok (.iload 5, 2) := by decide +kernel
theorem dX6_countIn_129 : decode cX6_countIn 129 = .ok (.iconst 1, 1) := by decide +kernel
theorem dX6_countIn_130 : decode cX6_countIn 130 = .ok (.iadd, 1) := by decide +kernel
theorem dX6_countIn_131 : decode cX6_countIn 131 = .ok (.aload_n 1, 1) := by decide +kernel
theorem dX6_countIn_132 : decode cX6_countIn 132 = .ok (.getfield 15, 3) := by decide +kernel
theorem dX6_countIn_135 : decode cX6_countIn 135 = .ok (.if_icmp .ge 15, 3) := by decide +kernel
theorem dX6_countIn_138 : decode cX6_countIn 138 = .ok (.aload_n 1, 1) := by decide +kernel
theorem dX6_countIn_139 : decode cX6_countIn 139 = .ok (.getfield 32, 3) := by decide +kernel
theorem dX6_countIn_142 : decode cX6_countIn 142 = .ok (.iload 5, 2) := by decide +kernel
theorem dX6_countIn_144 : decode cX6_countIn 144 = .ok (.iconst 1, 1) := by decide +kernel
theorem dX6_countIn_145 : decode cX6_countIn 145 = .ok (.iadd, 1) := by decide +kernel
theorem dX6_countIn_146 : decode cX6_countIn 146 = .ok (.iaload, 1) := by decide +kernel
theorem dX6_countIn_147 : decode cX6_countIn 147 = .ok (.goto 4, 3) := by decide +kernel
theorem dX6_countIn_150 : decode cX6_countIn 150 = .ok (.iconst (-1), 1) := by decide +kernel
theorem dX6_countIn_151 : decode cX6_countIn 151 = .ok (.iload 4, 2) := by decide +kernel
theorem dX6_countIn_153 : decode cX6_countIn 153 = .ok (.invokevirtual 28, 3) := by decide +kernel
theorem dX6_countIn_156 : decode cX6_countIn 156 = .ok (.iinc 5 (-1), 3) := by decide +kernel
theorem dX6_countIn_159 : decode cX6_countIn 159 = .ok (.goto (-151), 3) := by decide +kernel
theorem dX6_countIn_162 : decode cX6_countIn 162 = .ok (.return_, 1) := by decide +kernel
theorem dX6_addPart_0 : decode cX6_addPart 0 = .ok (.iload_n 2, 1) := by decide +kernel
theorem dX6_addPart_1 : decode cX6_addPart 1 = .ok (.ifCond .lt 9, 3) := by decide +kernel
theorem dX6_addPart_4 : decode cX6_addPart 4 = .ok (.iload_n 2, 1) := by decide +kernel
theorem dX6_addPart_5 : decode cX6_addPart 5 = .ok (.bipush 12, 2) := by decide +kernel
theorem dX6_addPart_7 : decode cX6_addPart 7 = .ok (.if_icmp .lt 4, 3) := by decide +kernel
theorem dX6_addPart_10 : decode cX6_addPart 10 = .ok (.return_, 1) := by decide +kernel
theorem dX6_addPart_11 : decode cX6_addPart 11 = .ok (.iconst 0, 1) := by decide +kernel
theorem dX6_addPart_12 : decode cX6_addPart 12 = .ok (.istore 4, 2) := by decide +kernel
theorem dX6_addPart_14 : decode cX6_addPart 14 = .ok (.iload 4, 2) := by decide +kernel
theorem dX6_addPart_16 : decode cX6_addPart 16 = .ok (.bipush 6, 2) := by decide +kernel
theorem dX6_addPart_18 : decode cX6_addPart 18 = .ok (.if_icmp .ge 38, 3) := by decide +kernel
theorem dX6_addPart_21 : decode cX6_addPart 21 = .ok (.aload_n 0, 1) := by decide +kernel
theorem dX6_addPart_22 : decode cX6_addPart 22 = .ok (.getfield 11, 3) := by decide +kernel
theorem dX6_addPart_25 : decode cX6_addPart 25 = .ok (.iload_n 1, 1) := by decide +kernel
theorem dX6_addPart_26 : decode cX6_addPart 26 = .ok (.bipush 6, 2) := by decide +kernel
theorem dX6_addPart_28 : decode cX6_addPart 28 = .ok (.imul, 1) := by decide +kernel
theorem dX6_addPart_29 : decode cX6_addPart 29 = .ok (.iload 4, 2) := by decide +kernel
theorem dX6_addPart_31 : decode cX6_addPart 31 = .ok (.iadd, 1) := by decide +kernel
theorem dX6_addPart_32 : decode cX6_addPart 32 = .ok (.dup2, 1) := by decide +kernel
theorem dX6_addPart_33 : decode cX6_addPart 33 = .ok (.iaload, 1) := by decide +kernel
theorem dX6_addPart_34 : decode cX6_addPart 34 = .ok (.iload_n 3, 1) := by decide +kernel
theorem dX6_addPart_35 : decode cX6_addPart 35 = .ok (.aload_n 0, 1) := by decide +kernel
theorem dX6_addPart_36 : decode cX6_addPart 36 = .ok (.getfield 11, 3) := by decide +kernel
theorem dX6_addPart_39 : decode cX6_addPart 39 = .ok (.iload_n 2, 1) := by decide +kernel
theorem dX6_addPart_40 : decode cX6_addPart 40 = .ok (.bipush 6, 2) := by decide +kernel
theorem dX6_addPart_42 : decode cX6_addPart 42 = .ok (.imul, 1) := by decide +kernel
theorem dX6_addPart_43 : decode cX6_addPart 43 = .ok (.iload 4, 2) := by decide +kernel
theorem dX6_addPart_45 : decode cX6_addPart 45 = .ok (.iadd, 1) := by decide +kernel
theorem dX6_addPart_46 : decode cX6_addPart 46 = .ok (.iaload, 1) := by decide +kernel
theorem dX6_addPart_47 : decode cX6_addPart 47 = .ok (.imul, 1) := by decide +kernel
theorem dX6_addPart_48 : decode cX6_addPart 48 = .ok (.iadd, 1) := by decide +kernel
theorem dX6_addPart_49 : decode cX6_addPart 49 = .ok (.iastore, 1) := by decide +kernel
theorem dX6_addPart_50 : decode cX6_addPart 50 = .ok (.iinc 4 1, 3) := by decide +kernel
theorem dX6_addPart_53 : decode cX6_addPart 53 = .ok (.goto (-39), 3) := by decide +kernel
theorem dX6_addPart_56 : decode cX6_addPart 56 = .ok (.return_, 1) := by decide +kernel
theorem dX7_init_0 : decode cX7_init 0 = .ok (.aload_n 0, 1) := by decide +kernel
theorem dX7_init_1 : decode cX7_init 1 = .ok (.invokespecial 3, 3) := by decide +kernel
theorem dX7_init_4 : decode cX7_init 4 = .ok (.aload_n 0, 1) := by decide +kernel
theorem dX7_init_5 : decode cX7_init 5 = .ok (.iconst 5, 1) := by decide +kernel
theorem dX7_init_6 : decode cX7_init 6 = .ok (.anewarray 9, 3) := by decide +kernel
theorem dX7_init_9 : decode cX7_init 9 = .ok (.putfield 11, 3) := by decide +kernel
theorem dX7_init_12 : decode cX7_init 12 = .ok (.aload_n 0, 1) := by decide +kernel
theorem dX7_init_13 : decode cX7_init 13 = .ok (.new 17, 3) := by decide +kernel
theorem dX7_init_16 : decode cX7_init 16 = .ok (.dup, 1) := by decide +kernel
theorem dX7_init_17 : decode cX7_init 17 = .ok (.bipush 60, 2) := by decide +kernel
theorem dX7_init_19 : decode cX7_init 19 = .ok (.invokespecial 19, 3) := by decide +kernel
theorem dX7_init_22 : decode cX7_init 22 = .ok (.putfield 22, 3) := by decide +kernel
theorem dX7_init_25 : decode cX7_init 25 = .ok (.iconst 0, 1) := by decide +kernel
theorem dX7_init_26 : decode cX7_init 26 = .ok (.istore_n 1, 1) := by decide +kernel
theorem dX7_init_27 : decode cX7_init 27 = .ok (.iload_n 1, 1) := by decide +kernel
theorem dX7_init_28 : decode cX7_init 28 = .ok (.iconst 5, 1) := by decide +kernel
theorem dX7_init_29 : decode cX7_init 29 = .ok (.if_icmp .ge 22, 3) := by decide +kernel
theorem dX7_init_32 : decode cX7_init 32 = .ok (.aload_n 0, 1) := by decide +kernel
theorem dX7_init_33 : decode cX7_init 33 = .ok (.getfield 11, 3) := by decide +kernel
theorem dX7_init_36 : decode cX7_init 36 = .ok (.iload_n 1, 1) := by decide +kernel
theorem dX7_init_37 : decode cX7_init 37 = .ok (.new 9, 3) := by decide +kernel
theorem dX7_init_40 : decode cX7_init 40 = .ok (.dup, 1) := by decide +kernel
theorem dX7_init_41 : decode cX7_init 41 = .ok (.invokespecial 26, 3) := by decide +kernel
theorem dX7_init_44 : decode cX7_init 44 = .ok (.aastore, 1) := by decide +kernel
theorem dX7_init_45 : decode cX7_init 45 = .ok (.iinc 1 1, 3) := by decide +kernel
theorem dX7_init_48 : decode cX7_init 48 = .ok (.goto (-21), 3) := by decide +kernel
theorem dX7_init_51 : decode cX7_init 51 = .ok (.return_, 1) := by decide +kernel
theorem dX7_copyFrom_0 : decode cX7_copyFrom 0 = .ok (.aload_n 0, 1) := by decide +kernel
theorem dX7_copyFrom_1 : decode cX7_copyFrom 1 = .ok (.aload_n 1, 1) := by decide +kernel
theorem dX7_copyFrom_2 : decode cX7_copyFrom 2 = .ok (.getfield 27, 3) := by decide +kernel
theorem dX7_copyFrom_5 : decode cX7_copyFrom 5 = .ok (.putfield 27, 3) := by decide +kernel
theorem dX7_copyFrom_8 : decode cX7_copyFrom 8 = .ok (.iconst 0, 1) := by decide +kernel
theorem dX7_copyFrom_9 : decode cX7_copyFrom 9 = .ok (.istore_n 2, 1) := by decide +kernel
theorem dX7_copyFrom_10 : decode cX7_copyFrom 10 = .ok (.iload_n 2, 1) := by decide +kernel
theorem dX7_copyFrom_11 : decode cX7_copyFrom 11 = .ok (.aload_n 0, 1) := by decide +kernel
theorem dX7_copyFrom_12 : decode cX7_copyFrom 12 = .ok (.getfield 27, 3) := by decide +kernel
theorem dX7_copyFrom_15 : decode cX7_copyFrom 15 = .ok (.if_icmp .ge 24, 3) := by decide +kernel
theorem dX7_copyFrom_18 : decode cX7_copyFrom 18 = .ok (.aload_n 0, 1) := by decide +kernel
theorem dX7_copyFrom_19 : decode cX7_copyFrom 19 = .ok (.getfield 11, 3) := by decide +kernel
theorem dX7_copyFrom_22 : decode cX7_copyFrom 22 = .ok (.iload_n 2, 1) := by decide +kernel
theorem dX7_copyFrom_23 : decode cX7_copyFrom 23 = .ok (.aaload, 1) := by decide +kernel
theorem dX7_copyFrom_24 : decode cX7_copyFrom 24 = .ok (.aload_n 1, 1) := by decide +kernel
theorem dX7_copyFrom_25 : decode cX7_copyFrom 25 = .ok (.getfield 11, 3) := by decide +kernel
theorem dX7_copyFrom_28 : decode cX7_copyFrom 28 = .ok (.iload_n 2, 1) := by decide +kernel
theorem dX7_copyFrom_29 : decode cX7_copyFrom 29 = .ok (.aaload, 1) := by decide +kernel
theorem dX7_copyFrom_30 : decode cX7_copyFrom 30 = .ok (.invokevirtual 31, 3) := by decide +kernel
theorem dX7_copyFrom_33 : decode cX7_copyFrom 33 = .ok (.iinc 2 1, 3) := by decide +kernel
theorem dX7_copyFrom_36 : decode cX7_copyFrom 36 = .ok (.goto (-26), 3) := by decide +kernel
theorem dX7_copyFrom_39 : decode cX7_copyFrom 39 = .ok (.aload_n 0, 1) := by decide +kernel
theorem dX7_copyFrom_40 : decode cX7_copyFrom 40 = .ok (.getfield 22, 3) := by decide +kernel
theorem dX7_copyFrom_43 : decode cX7_copyFrom 43 = .ok (.aload_n 1, 1) := by decide +kernel
theorem dX7_copyFrom_44 : decode cX7_copyFrom 44 = .ok (.getfield 22, 3) := by decide +kernel
theorem dX7_copyFrom_47 : decode cX7_copyFrom 47 = .ok (.invokevirtual 35, 3) := by decide +kernel
theorem dX7_copyFrom_50 : decode cX7_copyFrom 50 = .ok (.return_, 1) := by decide +kernel
theorem dX7_removeRule_0 : decode cX7_removeRule 0 = .ok (.aload_n 0, 1) := by decide +kernel
theorem dX7_removeRule_1 : decode cX7_removeRule 1 = .ok (.getfield 11, 3) := by decide +kernel
theorem dX7_removeRule_4 : decode cX7_removeRule 4 = .ok (.iload_n 1, 1) := by decide +kernel
theorem dX7_removeRule_5 : decode cX7_removeRule 5 = .ok (.aaload, 1) := by decide +kernel
theorem dX7_removeRule_6 : decode cX7_removeRule 6 = .ok (.astore_n 2, 1) := by decide +kernel
theorem dX7_removeRule_7 : decode cX7_removeRule 7 = .ok (.iload_n 1, 1) := by decide +kernel
theorem dX7_removeRule_8 : decode cX7_removeRule 8 = .ok (.istore_n 3, 1) := by decide +kernel
theorem dX7_removeRule_9 : decode cX7_removeRule 9 = .ok (.iload_n 3, 1) := by decide +kernel
theorem dX7_removeRule_10 : decode cX7_removeRule 10 = .ok (.iconst 1, 1) := by decide +kernel
theorem dX7_removeRule_11 : decode cX7_removeRule 11 = .ok (.iadd, 1) := by decide +kernel
theorem dX7_removeRule_12 : decode cX7_removeRule 12 = .ok (.aload_n 0, 1) := by decide +kernel
theorem dX7_removeRule_13 : decode cX7_removeRule 13 = .ok (.getfield 27, 3) := by decide +kernel
theorem dX7_removeRule_16 : decode cX7_removeRule 16 = .ok (.if_icmp .ge 23, 3) := by decide +kernel
theorem dX7_removeRule_19 : decode cX7_removeRule 19 = .ok (.aload_n 0, 1) := by decide +kernel
theorem dX7_removeRule_20 : decode cX7_removeRule 20 = .ok (.getfield 11, 3) := by decide +kernel
theorem dX7_removeRule_23 : decode cX7_removeRule 23 = .ok (.iload_n 3, 1) := by decide +kernel
theorem dX7_removeRule_24 : decode cX7_removeRule 24 = .ok (.aload_n 0, 1) := by decide +kernel
theorem dX7_removeRule_25 : decode cX7_removeRule 25 = .ok (.getfield 11, 3) := by decide +kernel
theorem dX7_removeRule_28 : decode cX7_removeRule 28 = .ok (.iload_n 3, 1) := by decide +kernel
theorem dX7_removeRule_29 : decode cX7_removeRule 29 = .ok (.iconst 1, 1) := by decide +kernel
theorem dX7_removeRule_30 : decode cX7_removeRule 30 = .ok (.iadd, 1) := by decide +kernel
theorem dX7_removeRule_31 : decode cX7_removeRule 31 = .ok (.aaload, 1) := by decide +kernel
theorem dX7_removeRule_32 : decode cX7_removeRule 32 = .ok (.aastore, 1) := by decide +kernel
theorem dX7_removeRule_33 : decode cX7_removeRule 33 = .ok (.iinc 3 1, 3) := by decide +kernel
theorem dX7_removeRule_36 : decode cX7_removeRule 36 = .ok (.goto (-27), 3) := by decide +kernel
theorem dX7_removeRule_39 : decode cX7_removeRule 39 = .ok (.aload_n 0, 1) := by decide +kernel
theorem dX7_removeRule_40 : decode cX7_removeRule 40 = .ok (.getfield 11, 3) := by decide +kernel
theorem dX7_removeRule_43 : decode cX7_removeRule 43 = .ok (.aload_n 0, 1) := by decide +kernel
theorem dX7_removeRule_44 : decode cX7_removeRule 44 = .ok (.getfield 27, 3) := by decide +kernel
theorem dX7_removeRule_47 : decode cX7_removeRule 47 = .ok (.iconst 1, 1) := by decide +kernel
theorem dX7_removeRule_48 : decode cX7_removeRule 48 = .ok (.isub, 1) := by decide +kernel
theorem dX7_removeRule_49 : decode cX7_removeRule 49 = .ok (.aload_n 2, 1) := by decide +kernel
theorem dX7_removeRule_50 : decode cX7_removeRule 50 = .ok (.aastore, 1) := by decide +kernel
theorem dX7_removeRule_51 : decode cX7_removeRule 51 = .ok (.aload_n 0, 1) := by decide +kernel
theorem dX7_removeRule_52 : decode cX7_removeRule 52 = .ok (.dup, 1) := by decide +kernel
theorem dX7_removeRule_53 : decode cX7_removeRule 53 = .ok (.getfield 27, 3) := by decide +kernel
theorem dX7_removeRule_56 : decode cX7_removeRule 56 = .ok (.iconst 1, 1) := by decide +kernel
theorem dX7_removeRule_57 : decode cX7_removeRule 57 = .ok (.isub, 1) := by decide +kernel
theorem dX7_removeRule_58 : decode cX7_removeRule 58 = .ok (.putfield 27, 3) := by decide +kernel
theorem dX7_removeRule_61 : decode cX7_removeRule 61 = .ok (.return_, 1) := by decide +kernel
theorem dX7_moveToFront_0 : decode cX7_moveToFront 0 = .ok (.aload_n 0, 1) := by decide +kernel
theorem dX7_moveToFront_1 : decode cX7_moveToFront 1 = .ok (.getfield 11, 3) := by decide +kernel
theorem dX7_moveToFront_4 : decode cX7_moveToFront 4 = .ok (.iload_n 1, 1) := by decide +kernel
theorem dX7_moveToFront_5 : decode cX7_moveToFront 5 = .ok (.aaload, 1) := by decide +kernel
theorem dX7_moveToFront_6 : decode cX7_moveToFront 6 = .ok (.astore_n 2, 1) := by decide +kernel
theorem dX7_moveToFront_7 : decode cX7_moveToFront 7 = .ok (.iload_n 1, 1) := by decide +kernel
theorem dX7_moveToFront_8 : decode cX7_moveToFront 8 = .ok (.istore_n 3, 1) := by decide +kernel
theorem dX7_moveToFront_9 : decode cX7_moveToFront 9 = .ok (.iload_n 3, 1) := by decide +kernel
theorem dX7_moveToFront_10 : decode cX7_moveToFront 10 = .ok (.ifCond .le 23, 3) := by decide +kernel
theorem dX7_moveToFront_13 : decode cX7_moveToFront 13 = .ok (.aload_n 0, 1) := by decide +kernel
theorem dX7_moveToFront_14 : decode cX7_moveToFront 14 = .ok (.getfield 11, 3) := by decide +kernel
theorem dX7_moveToFront_17 : decode cX7_moveToFront 17 = .ok (.iload_n 3, 1) := by decide +kernel
theorem dX7_moveToFront_18 : decode cX7_moveToFront 18 = .ok (.aload_n 0, 1) := by decide +kernel
theorem dX7_moveToFront_19 : decode cX7_moveToFront 19 = .ok (.getfield 11, 3) := by decide +kernel
theorem dX7_moveToFront_22 : decode cX7_moveToFront 22 = .ok (.iload_n 3, 1) := by decide +kernel
theorem dX7_moveToFront_23 : decode cX7_moveToFront 23 = .ok (.iconst 1, 1) := by decide +kernel
theorem dX7_moveToFront_24 : decode cX7_moveToFront 24 = .ok (.isub, 1) := by decide +kernel
theorem dX7_moveToFront_25 : decode cX7_moveToFront 25 = .ok (.aaload, 1) := by decide +kernel
theorem dX7_moveToFront_26 : decode cX7_moveToFront 26 = .ok (.aastore, 1) := by decide +kernel
theorem dX7_moveToFront_27 : decode cX7_moveToFront 27 = .ok (.iinc 3 (-1), 3) := by decide +kernel
theorem dX7_moveToFront_30 : decode cX7_moveToFront 30 = .ok (.goto (-21), 3) := by decide +kernel
theorem dX7_moveToFront_33 : decode cX7_moveToFront 33 = .ok (.aload_n 0, 1) := by decide +kernel
theorem dX7_moveToFront_34 : decode cX7_moveToFront 34 = .ok (.getfield 11, 3) := by decide +kernel
theorem dX7_moveToFront_37 : decode cX7_moveToFront 37 = .ok (.iconst 0, 1) := by decide +kernel
theorem dX7_moveToFront_38 : decode cX7_moveToFront 38 = .ok (.aload_n 2, 1) := by decide +kernel
theorem dX7_moveToFront_39 : decode cX7_moveToFront 39 = .ok (.aastore, 1) := by decide +kernel
theorem dX7_moveToFront_40 : decode cX7_moveToFront 40 = .ok (.return_, 1) := by decide +kernel
theorem dX8_init_0 : decode cX8_init 0 = .ok (.aload_n 0, 1) := by decide +kernel
theorem dX8_init_1 : decode cX8_init 1 = .ok (.invokespecial 1, 3) := by decide +kernel
theorem dX8_init_4 : decode cX8_init 4 = .ok (.iconst 1, 1) := by decide +kernel
theorem dX8_init_5 : decode cX8_init 5 = .ok (.iload_n 1, 1) := by decide +kernel
theorem dX8_init_6 : decode cX8_init 6 = .ok (.invokestatic 7, 3) := by decide +kernel
theorem dX8_init_9 : decode cX8_init 9 = .ok (.istore_n 2, 1) := by decide +kernel
theorem dX8_init_10 : decode cX8_init 10 = .ok (.aload_n 0, 1) := by decide +kernel
theorem dX8_init_11 : decode cX8_init 11 = .ok (.iload_n 2, 1) := by decide +kernel
theorem dX8_init_12 : decode cX8_init 12 = .ok (.newarray .int, 2) := by decide +kernel
theorem dX8_init_14 : decode cX8_init 14 = .ok (.putfield 13, 3) := by decide +kernel
theorem dX8_init_17 : decode cX8_init 17 = .ok (.aload_n 0, 1) := by decide +kernel
theorem dX8_init_18 : decode cX8_init 18 = .ok (.iload_n 2, 1) := by decide +kernel
theorem dX8_init_19 : decode cX8_init 19 = .ok (.newarray .int, 2) := by decide +kernel
theorem dX8_init_21 : decode cX8_init 21 = .ok (.putfield 19, 3) := by decide +kernel
theorem dX8_init_24 : decode cX8_init 24 = .ok (.return_, 1) := by decide +kernel
theorem dX8_startAs_0 : decode cX8_startAs 0 = .ok (.aload_n 0, 1) := by decide +kernel
theorem dX8_startAs_1 : decode cX8_startAs 1 = .ok (.iconst 0, 1) := by decide +kernel
theorem dX8_startAs_2 : decode cX8_startAs 2 = .ok (.putfield 22, 3) := by decide +kernel
theorem dX8_startAs_5 : decode cX8_startAs 5 = .ok (.aload_n 0, 1) := by decide +kernel
theorem dX8_startAs_6 : decode cX8_startAs 6 = .ok (.iload_n 1, 1) := by decide +kernel
theorem dX8_startAs_7 : decode cX8_startAs 7 = .ok (.invokevirtual 26, 3) := by decide +kernel
theorem dX8_startAs_10 : decode cX8_startAs 10 = .ok (.aload_n 0, 1) := by decide +kernel
theorem dX8_startAs_11 : decode cX8_startAs 11 = .ok (.invokevirtual 30, 3) := by decide +kernel
theorem dX8_startAs_14 : decode cX8_startAs 14 = .ok (.return_, 1) := by decide +kernel
theorem dX8_addLetter_0 : decode cX8_addLetter 0 = .ok (.aload_n 0, 1) := by decide +kernel
theorem dX8_addLetter_1 : decode cX8_addLetter 1 = .ok (.getfield 22, 3) := by decide +kernel
theorem dX8_addLetter_4 : decode cX8_addLetter 4 = .ok (.aload_n 0, 1) := by decide +kernel
theorem dX8_addLetter_5 : decode cX8_addLetter 5 = .ok (.getfield 13, 3) := by decide +kernel
theorem dX8_addLetter_8 : decode cX8_addLetter 8 = .ok (.arraylength, 1) := by decide +kernel
theorem dX8_addLetter_9 : decode cX8_addLetter 9 = .ok (.if_icmp .ge 23, 3) := by decide +kernel
theorem dX8_addLetter_12 : decode cX8_addLetter 12 = .ok (.aload_n 0, 1) := by decide +kernel
theorem dX8_addLetter_13 : decode cX8_addLetter 13 = .ok (.getfield 13, 3) := by decide +kernel
theorem dX8_addLetter_16 : decode cX8_addLetter 16 = .ok (.aload_n 0, 1) := by decide +kernel
theorem dX8_addLetter_17 : decode cX8_addLetter 17 = .ok (.getfield 22, 3) := by decide +kernel
theorem dX8_addLetter_20 : decode cX8_addLetter 20 = .ok (.iload_n 1, 1) := by decide +kernel
theorem dX8_addLetter_21 : decode cX8_addLetter 21 = .ok (.iastore, 1) := by decide +kernel
theorem dX8_addLetter_22 : decode cX8_addLetter 22 = .ok (.aload_n 0, 1) := by decide +kernel
theorem dX8_addLetter_23 : decode cX8_addLetter 23 = .ok (.dup, 1) := by decide +kernel
theorem dX8_addLetter_24 : decode cX8_addLetter 24 = .ok (.getfield 22, 3) := by decide +kernel
theorem dX8_addLetter_27 : decode cX8_addLetter 27 = .ok (.iconst 1, 1) := by decide +kernel
theorem dX8_addLetter_28 : decode cX8_addLetter 28 = .ok (.iadd, 1) := by decide +kernel
theorem dX8_addLetter_29 : decode cX8_addLetter 29 = .ok (.putfield 22, 3) := by decide +kernel
theorem dX8_addLetter_32 : decode cX8_addLetter 32 = .ok (.return_, 1) := by decide +kernel
theorem dX8_addPart_0 : decode cX8_addPart 0 = .ok (.iload_n 2, 1) := by decide +kernel
theorem dX8_addPart_1 : decode cX8_addPart 1 = .ok (.ifCond .lt 11, 3) := by decide +kernel
theorem dX8_addPart_4 : decode cX8_addPart 4 = .ok (.iload_n 2, 1) := by decide +kernel
theorem dX8_addPart_5 : decode cX8_addPart 5 = .ok (.aload_n 1, 1) := by decide +kernel
theorem dX8_addPart_6 : decode cX8_addPart 6 = .ok (.getfield 22, 3) := by decide +kernel
theorem dX8_addPart_9 : decode cX8_addPart 9 = .ok (.if_icmp .lt 4, 3) := by decide +kernel
theorem dX8_addPart_12 : decode cX8_addPart 12 = .ok (.return_, 1) := by decide +kernel
theorem dX8_addPart_13 : decode cX8_addPart 13 = .ok (.aload_n 1, 1) := by decide +kernel
theorem dX8_addPart_14 : decode cX8_addPart 14 = .ok (.getfield 19, 3) := by decide +kernel
theorem dX8_addPart_17 : decode cX8_addPart 17 = .ok (.iload_n 2, 1) := by decide +kernel
theorem dX8_addPart_18 : decode cX8_addPart 18 = .ok (.iaload, 1) := by decide +kernel
theorem dX8_addPart_19 : decode cX8_addPart 19 = .ok (.istore_n 3, 1) := by decide +kernel
theorem dX8_addPart_20 : decode cX8_addPart 20 = .ok (.iload_n 2, 1) := by decide +kernel
theorem dX8_addPart_21 : decode cX8_addPart 21 = .ok (.istore 4, 2) := by decide +kernel
theorem dX8_addPart_23 : decode cX8_addPart 23 = .ok (.iload 4, 2) := by decide +kernel
theorem dX8_addPart_25 : decode cX8_addPart 25 = .ok (.iload_n 3, 1) := by decide +kernel
theorem dX8_addPart_26 : decode cX8_addPart 26 = .ok (.if_icmp .ge 20, 3) := by decide +kernel
theorem dX8_addPart_29 : decode cX8_addPart 29 = .ok (.aload_n 0, 1) := by decide +kernel
theorem dX8_addPart_30 : decode cX8_addPart 30 = .ok (.aload_n 1, 1) := by decide +kernel
theorem dX8_addPart_31 : decode cX8_addPart 31 = .ok (.getfield 13, 3) := by decide +kernel
theorem dX8_addPart_34 : decode cX8_addPart 34 = .ok (.iload 4, 2) := by decide +kernel
theorem dX8_addPart_36 : decode cX8_addPart 36 = .ok (.iaload, 1) := by decide +kernel
theorem dX8_addPart_37 : decode cX8_addPart 37 = .ok (.invokevirtual 26, 3) := by decide +kernel
theorem dX8_addPart_40 : decode cX8_addPart 40 = .ok (.iinc 4 1, 3) := by decide +kernel
theorem dX8_addPart_43 : decode cX8_addPart 43 = .ok (.goto (-20), 3) := by decide +kernel
theorem dX8_addPart_46 : decode cX8_addPart 46 = .ok (.return_, 1) := by decide +kernel
theorem dX8_findEnds_0 : decode cX8_findEnds 0 = .ok (.aload_n 0, 1) := by decide +kernel
theorem dX8_findEnds_1 : decode cX8_findEnds 1 = .ok (.getfield 22, 3) := by decide +kernel
theorem dX8_findEnds_4 : decode cX8_findEnds 4 = .ok (.iconst 1, 1) := by decide +kernel
theorem dX8_findEnds_5 : decode cX8_findEnds 5 = .ok (.isub, 1) := by decide +kernel
theorem dX8_findEnds_6 : decode cX8_findEnds 6 = .ok (.istore_n 1, 1) := by decide +kernel
theorem dX8_findEnds_7 : decode cX8_findEnds 7 = .ok (.iload_n 1, 1) := by decide +kernel
theorem dX8_findEnds_8 : decode cX8_findEnds 8 = .ok (.ifCond .lt 55, 3) := by decide +kernel
theorem dX8_findEnds_11 : decode cX8_findEnds 11 = .ok (.iload_n 1, 1) := by decide +kernel
theorem dX8_findEnds_12 : decode cX8_findEnds 12 = .ok (.iconst 1, 1) := by decide +kernel
theorem dX8_findEnds_13 : decode cX8_findEnds 13 = .ok (.iadd, 1) := by decide +kernel
theorem dX8_findEnds_14 : decode cX8_findEnds 14 = .ok (.istore_n 2, 1) := by decide +kernel
theorem dX8_findEnds_15 : decode cX8_findEnds 15 = .ok (.aload_n 0, 1) := by decide +kernel
theorem dX8_findEnds_16 : decode cX8_findEnds 16 = .ok (.getfield 13, 3) := by decide +kernel
theorem dX8_findEnds_19 : decode cX8_findEnds 19 = .ok (.iload_n 1, 1) := by decide +kernel
theorem dX8_findEnds_20 : decode cX8_findEnds 20 = .ok (.iaload, 1) := by decide +kernel
theorem dX8_findEnds_21 : decode cX8_findEnds 21 = .ok (.invokestatic 33, 3) := by decide +kernel
theorem dX8_findEnds_24 : decode cX8_findEnds 24 = .ok (.istore_n 3, 1) := by decide +kernel
theorem dX8_findEnds_25 : decode cX8_findEnds 25 = .ok (.iload_n 3, 1) := by decide +kernel
theorem dX8_findEnds_26 : decode cX8_findEnds 26 = .ok (.ifCond .le 24, 3) := by decide +kernel
theorem dX8_findEnds_29 : decode cX8_findEnds 29 = .ok (.iload_n 2, 1) := by decide +kernel
theorem dX8_findEnds_30 : decode cX8_findEnds 30 = .ok (.aload_n 0, 1) := by decide +kernel
theorem dX8_findEnds_31 : decode cX8_findEnds 31 = .ok (.getfield 22, 3) := by decide +kernel
theorem dX8_findEnds_34 : decode cX8_findEnds 34 = .ok (.if_icmp .ge 16, 3) := by decide +kernel
theorem dX8_findEnds_37 : decode cX8_findEnds 37 = .ok (.aload_n 0, 1) := by decide +kernel
theorem dX8_findEnds_38 : decode cX8_findEnds 38 = .ok (.getfield 19, 3) := by decide +kernel
theorem dX8_findEnds_41 : decode cX8_findEnds 41 = .ok (.iload_n 2, 1) := by decide +kernel
theorem dX8_findEnds_42 : decode cX8_findEnds 42 = .ok (.iaload, 1) := by decide +kernel
theorem dX8_findEnds_43 : decode cX8_findEnds 43 = .ok (.istore_n 2, 1) := by decide +kernel
theorem dX8_findEnds_44 : decode cX8_findEnds 44 = .ok (.iinc 3 (-1), 3) := by decide +kernel
theorem dX8_findEnds_47 : decode cX8_findEnds 47 = .ok (.goto (-22), 3) := by decide +kernel
theorem dX8_findEnds_50 : decode cX8_findEnds 50 = .ok (.aload_n 0, 1) := by decide +kernel
theorem dX8_findEnds_51 : decode cX8_findEnds 51 = .ok (.getfield 19, 3) := by decide +kernel
theorem dX8_findEnds_54 : decode cX8_findEnds 54 = .ok (.iload_n 1, 1) := by decide +kernel
theorem dX8_findEnds_55 : decode cX8_findEnds 55 = .ok (.iload_n 2, 1) := by decide +kernel
theorem dX8_findEnds_56 : decode cX8_findEnds 56 = .ok (.iastore, 1) := by decide +kernel
theorem dX8_findEnds_57 : decode cX8_findEnds 57 = .ok (.iinc 1 (-1), 3) := by decide +kernel
theorem dX8_findEnds_60 : decode cX8_findEnds 60 = .ok (.goto (-53), 3) := by decide +kernel
theorem dX8_findEnds_63 : decode cX8_findEnds 63 = .ok (.return_, 1) := by decide +kernel
theorem dX8_copyFrom_0 : decode cX8_copyFrom 0 = .ok (.aload_n 0, 1) := by decide +kernel
theorem dX8_copyFrom_1 : decode cX8_copyFrom 1 = .ok (.aload_n 1, 1) := by decide +kernel
theorem dX8_copyFrom_2 : decode cX8_copyFrom 2 = .ok (.getfield 22, 3) := by decide +kernel
theorem dX8_copyFrom_5 : decode cX8_copyFrom 5 = .ok (.aload_n 0, 1) := by decide +kernel
theorem dX8_copyFrom_6 : decode cX8_copyFrom 6 = .ok (.getfield 13, 3) := by decide +kernel
theorem dX8_copyFrom_9 : decode cX8_copyFrom 9 = .ok (.arraylength, 1) := by decide +kernel
theorem dX8_copyFrom_10 : decode cX8_copyFrom 10 = .ok (.invokestatic 39, 3) := by decide +kernel
theorem dX8_copyFrom_13 : decode cX8_copyFrom 13 = .ok (.putfield 22, 3) := by decide +kernel
theorem dX8_copyFrom_16 : decode cX8_copyFrom 16 = .ok (.aload_n 1, 1) := by decide +kernel
theorem dX8_copyFrom_17 : decode cX8_copyFrom 17 = .ok (.getfield 13, 3) := by decide +kernel
theorem dX8_copyFrom_20 : decode cX8_copyFrom 20 = .ok (.iconst 0, 1) := by decide +kernel
theorem dX8_copyFrom_21 : decode cX8_copyFrom 21 = .ok (.aload_n 0, 1) := by decide +kernel
theorem dX8_copyFrom_22 : decode cX8_copyFrom 22 = .ok (.getfield 13, 3) := by decide +kernel
theorem dX8_copyFrom_25 : decode cX8_copyFrom 25 = .ok (.iconst 0, 1) := by decide +kernel
theorem dX8_copyFrom_26 : decode cX8_copyFrom 26 = .ok (.aload_n 0, 1) := by decide +kernel
theorem dX8_copyFrom_27 : decode cX8_copyFrom 27 = .ok (.getfield 22, 3) := by decide +kernel
theorem dX8_copyFrom_30 : decode cX8_copyFrom 30 = .ok (.invokestatic 42, 3) := by decide +kernel
theorem dX8_copyFrom_33 : decode cX8_copyFrom 33 = .ok (.aload_n 1, 1) := by decide +kernel
theorem dX8_copyFrom_34 : decode cX8_copyFrom 34 = .ok (.getfield 19, 3) := by decide +kernel
theorem dX8_copyFrom_37 : decode cX8_copyFrom 37 = .ok (.iconst 0, 1) := by decide +kernel
theorem dX8_copyFrom_38 : decode cX8_copyFrom 38 = .ok (.aload_n 0, 1) := by decide +kernel
theorem dX8_copyFrom_39 : decode cX8_copyFrom 39 = .ok (.getfield 19, 3) := by decide +kernel
theorem dX8_copyFrom_42 : decode cX8_copyFrom 42 = .ok (.iconst 0, 1) := by decide +kernel
theorem dX8_copyFrom_43 : decode cX8_copyFrom 43 = .ok (.aload_n 0, 1) := by decide +kernel
theorem dX8_copyFrom_44 : decode cX8_copyFrom 44 = .ok (.getfield 22, 3) := by decide +kernel
theorem dX8_copyFrom_47 : decode cX8_copyFrom 47 = .ok (.invokestatic 42, 3) := by decide +kernel
theorem dX8_copyFrom_50 : decode cX8_copyFrom 50 = .ok (.return_, 1) := by decide +kernel
theorem dX8_partSize_0 : decode cX8_partSize 0 = .ok (.iload_n 1, 1) := by decide +kernel
theorem dX8_partSize_1 : decode cX8_partSize 1 = .ok (.ifCond .lt 22, 3) := by decide +kernel
theorem dX8_partSize_4 : decode cX8_partSize 4 = .ok (.iload_n 1, 1) := by decide +kernel
theorem dX8_partSize_5 : decode cX8_partSize 5 = .ok (.aload_n 0, 1) := by decide +kernel
theorem dX8_partSize_6 : decode cX8_partSize 6 = .ok (.getfield 22, 3) := by decide +kernel
theorem dX8_partSize_9 : decode cX8_partSize 9 = .ok (.if_icmp .ge 14, 3) := by decide +kernel
theorem dX8_partSize_12 : decode cX8_partSize 12 = .ok (.aload_n 0, 1) := by decide +kernel
theorem dX8_partSize_13 : decode cX8_partSize 13 = .ok (.getfield 19, 3) := by decide +kernel
theorem dX8_partSize_16 : decode cX8_partSize 16 = .ok (.iload_n 1, 1) := by decide +kernel
theorem dX8_partSize_17 : decode cX8_partSize 17 = .ok (.iaload, 1) := by decide +kernel
theorem dX8_partSize_18 : decode cX8_partSize 18 = .ok (.iload_n 1, 1) := by decide +kernel
theorem dX8_partSize_19 : decode cX8_partSize 19 = .ok (.isub, 1) := by decide +kernel
theorem dX8_partSize_20 : decode cX8_partSize 20 = .ok (.goto 4, 3) := by decide +kernel
theorem dX8_partSize_23 : decode cX8_partSize 23 = .ok (.iconst 0, 1) := by decide +kernel
theorem dX8_partSize_24 : decode cX8_partSize 24 = .ok (.ireturn, 1) := by decide +kernel
theorem dX8_sameParts_0 : decode cX8_sameParts 0 = .ok (.iload_n 1, 1) := by decide +kernel
theorem dX8_sameParts_1 : decode cX8_sameParts 1 = .ok (.ifCond .lt 42, 3) := by decide +kernel
theorem dX8_sameParts_4 : decode cX8_sameParts 4 = .ok (.iload_n 1, 1) := by decide +kernel
theorem dX8_sameParts_5 : decode cX8_sameParts 5 = .ok (.aload_n 0, 1) := by decide +kernel
theorem dX8_sameParts_6 : decode cX8_sameParts 6 = .ok (.getfield 22, 3) := by decide +kernel
theorem dX8_sameParts_9 : decode cX8_sameParts 9 = .ok (.if_icmp .ge 34, 3) := by decide +kernel
theorem dX8_sameParts_12 : decode cX8_sameParts 12 = .ok (.iload_n 2, 1) := by decide +kernel
theorem dX8_sameParts_13 : decode cX8_sameParts 13 = .ok (.ifCond .lt 30, 3) := by decide +kernel
theorem dX8_sameParts_16 : decode cX8_sameParts 16 = .ok (.iload_n 2, 1) := by decide +kernel
theorem dX8_sameParts_17 : decode cX8_sameParts 17 = .ok (.aload_n 0, 1) := by decide +kernel
theorem dX8_sameParts_18 : decode cX8_sameParts 18 = .ok (.getfield 22, 3) := by decide +kernel
theorem dX8_sameParts_21 : decode cX8_sameParts 21 = .ok (.if_icmp .ge 22, 3) := by decide +kernel
theorem dX8_sameParts_24 : decode cX8_sameParts 24 = .ok (.aload_n 0, 1) := by decide +kernel
theorem dX8_sameParts_25 : decode cX8_sameParts 25 = .ok (.getfield 19, 3) := by decide +kernel
theorem dX8_sameParts_28 : decode cX8_sameParts 28 = .ok (.iload_n 1, 1) := by decide +kernel
theorem dX8_sameParts_29 : decode cX8_sameParts 29 = .ok (.iaload, 1) := by decide +kernel
theorem dX8_sameParts_30 : decode cX8_sameParts 30 = .ok (.iload_n 1, 1) := by decide +kernel
theorem dX8_sameParts_31 : decode cX8_sameParts 31 = .ok (.isub, 1) := by decide +kernel
theorem dX8_sameParts_32 : decode cX8_sameParts 32 = .ok (.aload_n 0, 1) := by decide +kernel
theorem dX8_sameParts_33 : decode cX8_sameParts 33 = .ok (.getfield 19, 3) := by decide +kernel
theorem dX8_sameParts_36 : decode cX8_sameParts 36 = .ok (.iload_n 2, 1) := by decide +kernel
theorem dX8_sameParts_37 : decode cX8_sameParts 37 = .ok (.iaload, 1) := by decide +kernel
theorem dX8_sameParts_38 : decode cX8_sameParts 38 = .ok (.iload_n 2, 1) := by decide +kernel
theorem dX8_sameParts_39 : decode cX8_sameParts 39 = .ok (.isub, 1) := by decide +kernel
theorem dX8_sameParts_40 : decode cX8_sameParts 40 = .ok (.if_icmp .eq 5, 3) := by decide +kernel
theorem dX8_sameParts_43 : decode cX8_sameParts 43 = .ok (.iconst 0, 1) := by decide +kernel
theorem dX8_sameParts_44 : decode cX8_sameParts 44 = .ok (.ireturn, 1) := by decide +kernel
theorem dX8_sameParts_45 : decode cX8_sameParts 45 = .ok (.aload_n 0, 1) := by decide +kernel
theorem dX8_sameParts_46 : decode cX8_sameParts 46 = .ok (.getfield 19, 3) := by decide +kernel
theorem dX8_sameParts_49 : decode cX8_sameParts 49 = .ok (.iload_n 1, 1) := by decide +kernel
theorem dX8_sameParts_50 : decode cX8_sameParts 50 = .ok (.iaload, 1) := by decide +kernel
theorem dX8_sameParts_51 : decode cX8_sameParts 51 = .ok (.iload_n 1, 1) := by decide +kernel
theorem dX8_sameParts_52 : decode cX8_sameParts 52 = .ok (.isub, 1) := by decide +kernel
theorem dX8_sameParts_53 : decode cX8_sameParts 53 = .ok (.istore_n 3, 1) := by decide +kernel
theorem dX8_sameParts_54 : decode cX8_sameParts 54 = .ok (.iconst 0, 1) := by decide +kernel
theorem dX8_sameParts_55 : decode cX8_sameParts 55 = .ok (.istore 4, 2) := by decide +kernel
theorem dX8_sameParts_57 : decode cX8_sameParts 57 = .ok (.iload 4, 2) := by decide +kernel
theorem dX8_sameParts_59 : decode cX8_sameParts 59 = .ok (.iload_n 3, 1) := by decide +kernel
theorem dX8_sameParts_60 : decode cX8_sameParts 60 = .ok (.if_icmp .ge 32, 3) := by decide +kernel
theorem dX8_sameParts_63 : decode cX8_sameParts 63 = .ok (.aload_n 0, 1) := by decide +kernel
theorem dX8_sameParts_64 : decode cX8_sameParts 64 = .ok (.getfield 13, 3) := by decide +kernel
theorem dX8_sameParts_67 : decode cX8_sameParts 67 = .ok (.iload_n 1, 1) := by decide +kernel
theorem dX8_sameParts_68 : decode cX8_sameParts 68 = .ok (.iload 4, 2) := by decide +kernel
theorem dX8_sameParts_70 : decode cX8_sameParts 70 = .ok (.iadd, 1) := by decide +kernel
theorem dX8_sameParts_71 : decode cX8_sameParts 71 = .ok (.iaload, 1) := by decide +kernel
theorem dX8_sameParts_72 : decode cX8_sameParts 72 = .ok (.aload_n 0, 1) := by decide +kernel
theorem dX8_sameParts_73 : decode cX8_sameParts 73 = .ok (.getfield 13, 3) := by decide +kernel
theorem dX8_sameParts_76 : decode cX8_sameParts 76 = .ok (.iload_n 2, 1) := by decide +kernel
theorem dX8_sameParts_77 : decode cX8_sameParts 77 = .ok (.iload 4, 2) := by decide +kernel
theorem dX8_sameParts_79 : decode cX8_sameParts 79 = .ok (.iadd, 1) := by decide +kernel
theorem dX8_sameParts_80 : decode cX8_sameParts 80 = .ok (.iaload, 1) := by decide +kernel
theorem dX8_sameParts_81 : decode cX8_sameParts 81 = .ok (.if_icmp .eq 5, 3) := by decide +kernel
theorem dX8_sameParts_84 : decode cX8_sameParts 84 = .ok (.iconst 0, 1) := by decide +kernel
theorem dX8_sameParts_85 : decode cX8_sameParts 85 = .ok (.ireturn, 1) := by decide +kernel
theorem dX8_sameParts_86 : decode cX8_sameParts 86 = .ok (.iinc 4 1, 3) := by decide +kernel
theorem dX8_sameParts_89 : decode cX8_sameParts 89 = .ok (.goto (-32), 3) := by decide +kernel
theorem dX8_sameParts_92 : decode cX8_sameParts 92 = .ok (.iconst 1, 1) := by decide +kernel
theorem dX8_sameParts_93 : decode cX8_sameParts 93 = .ok (.ireturn, 1) := by decide +kernel
theorem dX8_unknowns_0 : decode cX8_unknowns 0 = .ok (.iconst 0, 1) := by decide +kernel
theorem dX8_unknowns_1 : decode cX8_unknowns 1 = .ok (.istore_n 1, 1) := by decide +kernel
theorem dX8_unknowns_2 : decode cX8_unknowns 2 = .ok (.iconst 0, 1) := by decide +kernel
theorem dX8_unknowns_3 : decode cX8_unknowns 3 = .ok (.istore_n 2, 1) := by decide +kernel
theorem dX8_unknowns_4 : decode cX8_unknowns 4 = .ok (.iload_n 2, 1) := by decide +kernel
theorem dX8_unknowns_5 : decode cX8_unknowns 5 = .ok (.aload_n 0, 1) := by decide +kernel
theorem dX8_unknowns_6 : decode cX8_unknowns 6 = .ok (.getfield 22, 3) := by decide +kernel
theorem dX8_unknowns_9 : decode cX8_unknowns 9 = .ok (.if_icmp .ge 21, 3) := by decide +kernel
theorem dX8_unknowns_12 : decode cX8_unknowns 12 = .ok (.iload_n 1, 1) := by decide +kernel
theorem dX8_unknowns_13 : decode cX8_unknowns 13 = .ok (.aload_n 0, 1) := by decide +kernel
theorem dX8_unknowns_14 : decode cX8_unknowns 14 = .ok (.getfield 13, 3) := by decide +kernel
theorem dX8_unknowns_17 : decode cX8_unknowns 17 = .ok (.iload_n 2, 1) := by decide +kernel
theorem dX8_unknowns_18 : decode cX8_unknowns 18 = .ok (.iaload, 1) := by decide +kernel
theorem dX8_unknowns_19 : decode cX8_unknowns 19 = .ok (.invokestatic 48, 3) := by decide +kernel
theorem dX8_unknowns_22 : decode cX8_unknowns 22 = .ok (.ior, 1) := by decide +kernel
theorem dX8_unknowns_23 : decode cX8_unknowns 23 = .ok (.istore_n 1, 1) := by decide +kernel
theorem dX8_unknowns_24 : decode cX8_unknowns 24 = .ok (.iinc 2 1, 3) := by decide +kernel
theorem dX8_unknowns_27 : decode cX8_unknowns 27 = .ok (.goto (-23), 3) := by decide +kernel
theorem dX8_unknowns_30 : decode cX8_unknowns 30 = .ok (.iload_n 1, 1) := by decide +kernel
theorem dX8_unknowns_31 : decode cX8_unknowns 31 = .ok (.ireturn, 1) := by decide +kernel
theorem dX9_init_0 : decode cX9_init 0 = .ok (.aload_n 0, 1) := by decide +kernel
theorem dX9_init_1 : decode cX9_init 1 = .ok (.invokespecial 3, 3) := by decide +kernel
theorem dX9_init_4 : decode cX9_init 4 = .ok (.aload_n 0, 1) := by decide +kernel
theorem dX9_init_5 : decode cX9_init 5 = .ok (.new 9, 3) := by decide +kernel
theorem dX9_init_8 : decode cX9_init 8 = .ok (.dup, 1) := by decide +kernel
theorem dX9_init_9 : decode cX9_init 9 = .ok (.bipush 60, 2) := by decide +kernel
theorem dX9_init_11 : decode cX9_init 11 = .ok (.invokespecial 11, 3) := by decide +kernel
theorem dX9_init_14 : decode cX9_init 14 = .ok (.putfield 14, 3) := by decide +kernel
theorem dX9_init_17 : decode cX9_init 17 = .ok (.aload_n 0, 1) := by decide +kernel
theorem dX9_init_18 : decode cX9_init 18 = .ok (.iconst 3, 1) := by decide +kernel
theorem dX9_init_19 : decode cX9_init 19 = .ok (.newarray .int, 2) := by decide +kernel
theorem dX9_init_21 : decode cX9_init 21 = .ok (.putfield 20, 3) := by decide +kernel
theorem dX9_init_24 : decode cX9_init 24 = .ok (.return_, 1) := by decide +kernel
theorem dX9_turnMany_0 : decode cX9_turnMany 0 = .ok (.iconst 0, 1) := by decide +kernel
theorem dX9_turnMany_1 : decode cX9_turnMany 1 = .ok (.istore 4, 2) := by decide +kernel
theorem dX9_turnMany_3 : decode cX9_turnMany 3 = .ok (.iload 4, 2) := by decide +kernel
theorem dX9_turnMany_5 : decode cX9_turnMany 5 = .ok (.iload_n 3, 1) := by decide +kernel
theorem dX9_turnMany_6 : decode cX9_turnMany 6 = .ok (.if_icmp .ge 46, 3) := by decide +kernel
theorem dX9_turnMany_9 : decode cX9_turnMany 9 = .ok (.aload_n 0, 1) := by decide +kernel
theorem dX9_turnMany_10 : decode cX9_turnMany 10 = .ok (.aload_n 1, 1) := by decide +kernel
theorem dX9_turnMany_11 : decode cX9_turnMany 11 = .ok (.aload_n 2, 1) := by decide +kernel
theorem dX9_turnMany_12 : decode cX9_turnMany 12 = .ok (.invokevirtual 24, 3) := by decide +kernel
theorem dX9_turnMany_15 : decode cX9_turnMany 15 = .ok (.ifCond .eq 20, 3) := by decide +kernel
theorem dX9_turnMany_18 : decode cX9_turnMany 18 = .ok (.aload_n 0, 1) := by decide +kernel
theorem dX9_turnMany_19 : decode cX9_turnMany 19 = .ok (.aload_n 1, 1) := by decide +kernel
theorem dX9_turnMany_20 : decode cX9_turnMany 20 = .ok (.getfield 28, 3) := by decide +kernel
theorem dX9_turnMany_23 : decode cX9_turnMany 23 = .ok (.aload_n 0, 1) := by decide +kernel
theorem dX9_turnMany_24 : decode cX9_turnMany 24 = .ok (.getfield 34, 3) := by decide +kernel
theorem dX9_turnMany_27 : decode cX9_turnMany 27 = .ok (.aaload, 1) := by decide +kernel
theorem dX9_turnMany_28 : decode cX9_turnMany 28 = .ok (.aload_n 2, 1) := by decide +kernel
theorem dX9_turnMany_29 : decode cX9_turnMany 29 = .ok (.invokevirtual 38, 3) := by decide +kernel
theorem dX9_turnMany_32 : decode cX9_turnMany 32 = .ok (.ifCond .ne 6, 3) := by decide +kernel
theorem dX9_turnMany_35 : decode cX9_turnMany 35 = .ok (.iload 4, 2) := by decide +kernel
theorem dX9_turnMany_37 : decode cX9_turnMany 37 = .ok (.ireturn, 1) := by decide +kernel
theorem dX9_turnMany_38 : decode cX9_turnMany 38 = .ok (.aload_n 2, 1) := by decide +kernel
theorem dX9_turnMany_39 : decode cX9_turnMany 39 = .ok (.aload_n 0, 1) := by decide +kernel
theorem dX9_turnMany_40 : decode cX9_turnMany 40 = .ok (.getfield 14, 3) := by decide +kernel
theorem dX9_turnMany_43 : decode cX9_turnMany 43 = .ok (.invokevirtual 42, 3) := by decide +kernel
theorem dX9_turnMany_46 : decode cX9_turnMany 46 = .ok (.iinc 4 1, 3) := by decide +kernel
theorem dX9_turnMany_49 : decode cX9_turnMany 49 = .ok (.goto (-46), 3) := by decide +kernel
theorem dX9_turnMany_52 : decode cX9_turnMany 52 = .ok (.iload_n 3, 1) := by decide +kernel
theorem dX9_turnMany_53 : decode cX9_turnMany 53 = .ok (.ireturn, 1) := by decide +kernel
theorem dX9_seek_0 : decode cX9_seek 0 = .ok (.aload_n 0, 1) := by decide +kernel
theorem dX9_seek_1 : decode cX9_seek 1 = .ok (.iconst (-1), 1) := by decide +kernel
theorem dX9_seek_2 : decode cX9_seek 2 = .ok (.putfield 46, 3) := by decide +kernel
theorem dX9_seek_5 : decode cX9_seek 5 = .ok (.iconst 0, 1) := by decide +kernel
theorem dX9_seek_6 : decode cX9_seek 6 = .ok (.istore_n 3, 1) := by decide +kernel
theorem dX9_seek_7 : decode cX9_seek 7 = .ok (.iload_n 3, 1) := by decide +kernel
theorem dX9_seek_8 : decode cX9_seek 8 = .ok (.aload_n 2, 1) := by decide +kernel
theorem dX9_seek_9 : decode cX9_seek 9 = .ok (.getfield 49, 3) := by decide +kernel
theorem dX9_seek_12 : decode cX9_seek 12 = .ok (.if_icmp .ge 59, 3) := by decide +kernel
theorem dX9_seek_15 : decode cX9_seek 15 = .ok (.aload_n 0, 1) := by decide +kernel
theorem dX9_seek_16 : decode cX9_seek 16 = .ok (.getfield 46, 3) := by decide +kernel
theorem dX9_seek_19 : decode cX9_seek 19 = .ok (.iconst (-1), 1) := by decide +kernel
theorem dX9_seek_20 : decode cX9_seek 20 = .ok (.if_icmp .eq 19, 3) := by decide +kernel
theorem dX9_seek_23 : decode cX9_seek 23 = .ok (.iload_n 3, 1) := by decide +kernel
theorem dX9_seek_24 : decode cX9_seek 24 = .ok (.aload_n 2, 1) := by decide +kernel
theorem dX9_seek_25 : decode cX9_seek 25 = .ok (.getfield 52, 3) := by decide +kernel
theorem dX9_seek_28 : decode cX9_seek 28 = .ok (.aload_n 0, 1) := by decide +kernel
theorem dX9_seek_29 : decode cX9_seek 29 = .ok (.getfield 46, 3) := by decide +kernel
theorem dX9_seek_32 : decode cX9_seek 32 = .ok (.iaload, 1) := by decide +kernel
theorem dX9_seek_33 : decode cX9_seek 33 = .ok (.if_icmp .lt 6, 3) := by decide +kernel
theorem dX9_seek_36 : decode cX9_seek 36 = .ok (.goto 35, 3) := by decide +kernel
theorem dX9_seek_39 : decode cX9_seek 39 = .ok (.aload_n 0, 1) := by decide +kernel
theorem dX9_seek_40 : decode cX9_seek 40 = .ok (.aload_n 1, 1) := by decide +kernel
theorem dX9_seek_41 : decode cX9_seek 41 = .ok (.aload_n 2, 1) := by decide +kernel
theorem dX9_seek_42 : decode cX9_seek 42 = .ok (.iload_n 3, 1) := by decide +kernel
theorem dX9_seek_43 : decode cX9_seek 43 = .ok (.invokevirtual 55, 3) := by decide +kernel
theorem dX9_seek_46 : decode cX9_seek 46 = .ok (.istore 4, 2) := by decide +kernel
theorem dX9_seek_48 : decode cX9_seek 48 = .ok (.iload 4, 2) := by decide +kernel
theorem dX9_seek_50 : decode cX9_seek 50 = .ok (.iconst (-1), 1) := by decide +kernel
theorem dX9_seek_51 : decode cX9_seek 51 = .ok (.if_icmp .eq 14, 3) := by decide +kernel
theorem dX9_seek_54 : decode cX9_seek 54 = .ok (.aload_n 0, 1) := by decide +kernel
theorem dX9_seek_55 : decode cX9_seek 55 = .ok (.iload_n 3, 1) := by decide +kernel
theorem dX9_seek_56 : decode cX9_seek 56 = .ok (.putfield 46, 3) := by decide +kernel
theorem dX9_seek_59 : decode cX9_seek 59 = .ok (.aload_n 0, 1) := by decide +kernel
theorem dX9_seek_60 : decode cX9_seek 60 = .ok (.iload 4, 2) := by decide +kernel
theorem dX9_seek_62 : decode cX9_seek 62 = .ok (.putfield 34, 3) := by decide +kernel
theorem dX9_seek_65 : decode cX9_seek 65 = .ok (.iinc 3 1, 3) := by decide +kernel
theorem dX9_seek_68 : decode cX9_seek 68 = .ok (.goto (-61), 3) := by decide +kernel
theorem dX9_seek_71 : decode cX9_seek 71 = .ok (.aload_n 0, 1) := by decide +kernel
theorem dX9_seek_72 : decode cX9_seek 72 = .ok (.getfield 46, 3) := by decide +kernel
theorem dX9_seek_75 : decode cX9_seek 75 = .ok (.iconst (-1), 1) := by decide +kernel
theorem dX9_seek_76 : decode cX9_seek 76 = .ok (.if_icmp .eq 7, 3) := by decide +kernel
theorem dX9_seek_79 : decode cX9_seek 79 = .ok (.iconst 1, 1) := by decide +kernel
theorem dX9_seek_80 : decode cX9_seek 80 = .ok (.goto 4, 3) := by decide +kernel
theorem dX9_seek_83 : decode cX9_seek 83 = .ok (.iconst 0, 1) := by decide +kernel
theorem dX9_seek_84 : decode cX9_seek 84 = .ok (.ireturn, 1) := by decide +kernel
theorem dX9_leastRuleAt_0 : decode cX9_leastRuleAt 0 = .ok (.iconst 0, 1) := by decide +kernel
theorem dX9_leastRuleAt_1 : decode cX9_leastRuleAt 1 = .ok (.istore 4, 2) := by decide +kernel
theorem dX9_leastRuleAt_3 : decode cX9_leastRuleAt 3 = .ok (.iload 4, 2) := by decide +kernel
theorem dX9_leastRuleAt_5 : decode cX9_leastRuleAt 5 = .ok (.aload_n 1, 1) := by decide +kernel
theorem dX9_leastRuleAt_6 : decode cX9_leastRuleAt 6 = .ok (.getfield 59, 3) := by decide +kernel
theorem dX9_leastRuleAt_9 : decode cX9_leastRuleAt 9 = .ok (.if_icmp .ge 31, 3) := by decide +kernel
theorem dX9_leastRuleAt_12 : decode cX9_leastRuleAt 12 = .ok (.aload_n 0, 1) := by decide +kernel
theorem dX9_leastRuleAt_13 : decode cX9_leastRuleAt 13 = .ok (.aload_n 1, 1) := by decide +kernel
theorem dX9_leastRuleAt_14 : decode cX9_leastRuleAt 14 = .ok (.getfield 28, 3) := by decide +kernel
theorem dX9_leastRuleAt_17 : decode cX9_leastRuleAt 17 = .ok (.iload 4, 2) := by decide +kernel
theorem dX9_leastRuleAt_19 : decode cX9_leastRuleAt 19 = .ok (.aaload, 1) := by decide +kernel
theorem dX9_leastRuleAt_20 : decode cX9_leastRuleAt 20 = .ok (.getfield 62, 3) := by decide +kernel
theorem dX9_leastRuleAt_23 : decode cX9_leastRuleAt 23 = .ok (.aload_n 2, 1) := by decide +kernel
theorem dX9_leastRuleAt_24 : decode cX9_leastRuleAt 24 = .ok (.iload_n 3, 1) := by decide +kernel
theorem dX9_leastRuleAt_25 : decode cX9_leastRuleAt 25 = .ok (.invokevirtual 67, 3) := by decide +kernel
theorem dX9_leastRuleAt_28 : decode cX9_leastRuleAt 28 = .ok (.ifCond .eq 6, 3) := by decide +kernel
theorem dX9_leastRuleAt_31 : decode cX9_leastRuleAt 31 = .ok (.iload 4, 2) := by decide +kernel
theorem dX9_leastRuleAt_33 : decode cX9_leastRuleAt 33 = .ok (.ireturn, 1) := by decide +kernel
theorem dX9_leastRuleAt_34 : decode cX9_leastRuleAt 34 = .ok (.iinc 4 1, 3) := by decide +kernel
theorem dX9_leastRuleAt_37 : decode cX9_leastRuleAt 37 = .ok (.goto (-34), 3) := by decide +kernel
theorem dX9_leastRuleAt_40 : decode cX9_leastRuleAt 40 = .ok (.iconst (-1), 1) := by decide +kernel
theorem dX9_leastRuleAt_41 : decode cX9_leastRuleAt 41 = .ok (.ireturn, 1) := by decide +kernel
theorem dX9_fits_0 : decode cX9_fits 0 = .ok (.aload_n 0, 1) := by decide +kernel
theorem dX9_fits_1 : decode cX9_fits 1 = .ok (.getfield 20, 3) := by decide +kernel
theorem dX9_fits_4 : decode cX9_fits 4 = .ok (.iconst 1, 1) := by decide +kernel
theorem dX9_fits_5 : decode cX9_fits 5 = .ok (.iconst (-1), 1) := by decide +kernel
theorem dX9_fits_6 : decode cX9_fits 6 = .ok (.iastore, 1) := by decide +kernel
theorem dX9_fits_7 : decode cX9_fits 7 = .ok (.aload_n 0, 1) := by decide +kernel
theorem dX9_fits_8 : decode cX9_fits 8 = .ok (.getfield 20, 3) := by decide +kernel
theorem dX9_fits_11 : decode cX9_fits 11 = .ok (.iconst 2, 1) := by decide +kernel
theorem dX9_fits_12 : decode cX9_fits 12 = .ok (.iconst (-1), 1) := by decide +kernel
theorem dX9_fits_13 : decode cX9_fits 13 = .ok (.iastore, 1) := by decide +kernel
theorem dX9_fits_14 : decode cX9_fits 14 = .ok (.iload_n 3, 1) := by decide +kernel
theorem dX9_fits_15 : decode cX9_fits 15 = .ok (.istore 4, 2) := by decide +kernel
theorem dX9_fits_17 : decode cX9_fits 17 = .ok (.iconst 0, 1) := by decide +kernel
theorem dX9_fits_18 : decode cX9_fits 18 = .ok (.istore 5, 2) := by decide +kernel
theorem dX9_fits_20 : decode cX9_fits 20 = .ok (.iload 5, 2) := by decide +kernel
theorem dX9_fits_22 : decode cX9_fits 22 = .ok (.aload_n 1, 1) := by decide +kernel
theorem dX9_fits_23 : decode cX9_fits 23 = .ok (.getfield 49, 3) := by decide +kernel
theorem dX9_fits_26 : decode cX9_fits 26 = .ok (.if_icmp .ge 129, 3) := by decide +kernel
theorem dX9_fits_29 : decode cX9_fits 29 = .ok (.iload 4, 2) := by decide +kernel
theorem dX9_fits_31 : decode cX9_fits 31 = .ok (.ifCond .lt 12, 3) := by decide +kernel
theorem dX9_fits_34 : decode cX9_fits 34 = .ok (.iload 4, 2) := by decide +kernel
theorem dX9_fits_36 : decode cX9_fits 36 = .ok (.aload_n 2, 1) := by decide +kernel
theorem dX9_fits_37 : decode cX9_fits 37 = .ok (.getfield 49, 3) := by decide +kernel
theorem dX9_fits_40 : decode cX9_fits 40 = .ok (.if_icmp .lt 5, 3) := by decide +kernel
theorem dX9_fits_43 : decode cX9_fits 43 = .ok (.iconst 0, 1) := by decide +kernel
theorem dX9_fits_44 : decode cX9_fits 44 = .ok (.ireturn, 1) := by decide +kernel
theorem dX9_fits_45 : decode cX9_fits 45 = .ok (.aload_n 1, 1) := by decide +kernel
theorem dX9_fits_46 : decode cX9_fits 46 = .ok (.getfield 71, 3) := by decide +kernel
theorem dX9_fits_49 : decode cX9_fits 49 = .ok (.iload 5, 2) := by decide +kernel
theorem dX9_fits_51 : decode cX9_fits 51 = .ok (.iaload, 1) := by decide +kernel
theorem dX9_fits_52 : decode cX9_fits 52 = .ok (.istore 6, 2) := by decide +kernel
theorem dX9_fits_54 : decode cX9_fits 54 = .ok (.iload 6, 2) := by decide +kernel
theorem dX9_fits_56 : decode cX9_fits 56 = .ok (.invokestatic 74, 3) := by decide +kernel
theorem dX9_fits_59 : decode cX9_fits 59 = .ok (.istore 7, 2) := by decide +kernel
theorem dX9_fits_61 : decode cX9_fits 61 = .ok (.iload 7, 2) := by decide +kernel
theorem dX9_fits_63 : decode cX9_fits 63 = .ok (.ifCond .ne 17, 3) := by decide +kernel
theorem dX9_fits_66 : decode cX9_fits 66 = .ok (.aload_n 2, 1) := by decide +kernel
theorem dX9_fits_67 : decode cX9_fits 67 = .ok (.getfield 71, 3) := by decide +kernel
theorem dX9_fits_70 : decode cX9_fits 70 = .ok (.iload 4, 2) := by decide +kernel
theorem dX9_fits_72 : decode cX9_fits 72 = .ok (.iaload, 1) := by decide +kernel
theorem dX9_fits_73 : decode cX9_fits 73 = .ok (.iload 6, 2) := by decide +kernel
theorem dX9_fits_75 : decode cX9_fits 75 = .ok (.if_icmp .eq 5, 3) := by decide +kernel
theorem dX9_fits_78 : decode cX9_fits 78 = .ok (.iconst 0, 1) := by decide +kernel
theorem dX9_fits_79 : decode cX9_fits 79 = .ok (.ireturn, 1) := by decide +kernel
theorem dX9_fits_80 : decode cX9_fits 80 = .ok (.iload 7, 2) := by decide +kernel
theorem dX9_fits_82 : decode cX9_fits 82 = .ok (.ifCond .eq 23, 3) := by decide +kernel
theorem dX9_fits_85 : decode cX9_fits 85 = .ok (.aload_n 0, 1) := by decide +kernel
theorem dX9_fits_86 : decode cX9_fits 86 = .ok (.getfield 20, 3) := by decide +kernel
theorem dX9_fits_89 : decode cX9_fits 89 = .ok (.iload 7, 2) := by decide +kernel
theorem dX9_fits_91 : decode cX9_fits 91 = .ok (.iaload, 1) := by decide +kernel
theorem dX9_fits_92 : decode cX9_fits 92 = .ok (.iconst (-1), 1) := by decide +kernel
theorem dX9_fits_93 : decode cX9_fits 93 = .ok (.if_icmp .ne 12, 3) := by decide +kernel
theorem dX9_fits_96 : decode cX9_fits 96 = .ok (.aload_n 0, 1) := by decide +kernel
theorem dX9_fits_97 : decode cX9_fits 97 = .ok (.getfield 20, 3) := by decide +kernel
theorem dX9_fits_100 : decode cX9_fits 100 = .ok (.iload 7, 2) := by decide +kernel
theorem dX9_fits_102 : decode cX9_fits 102 = .ok (.iload 4, 2) := by decide +kernel
theorem dX9_fits_104 : decode cX9_fits 104 = .ok (.iastore, 1) := by decide +kernel
theorem dX9_fits_105 : decode cX9_fits 105 = .ok (.iload 7, 2) := by decide +kernel
theorem dX9_fits_107 : decode cX9_fits 107 = .ok (.ifCond .eq 21, 3) := by decide +kernel
theorem dX9_fits_110 : decode cX9_fits 110 = .ok (.aload_n 2, 1) := by decide +kernel
theorem dX9_fits_111 : decode cX9_fits 111 = .ok (.aload_n 0, 1) := by decide +kernel
theorem dX9_fits_112 : decode cX9_fits 112 = .ok (.getfield 20, 3) := by decide +kernel
theorem dX9_fits_115 : decode cX9_fits 115 = .ok (.iload 7, 2) := by decide +kernel
theorem dX9_fits_117 : decode cX9_fits 117 = .ok (.iaload, 1) := by decide +kernel
theorem dX9_fits_118 : decode cX9_fits 118 = .ok (.iload 4, 2) := by decide +kernel
theorem dX9_fits_120 : decode cX9_fits 120 = .ok (.invokevirtual 78, 3) := by decide +kernel
theorem dX9_fits_123 : decode cX9_fits 123 = .ok (.ifCond .ne 5, 3) := by decide +kernel
theorem dX9_fits_126 : decode cX9_fits 126 = .ok (.iconst 0, 1) := by decide +kernel
theorem dX9_fits_127 : decode cX9_fits 127 = .ok (.ireturn, 1) := by decide +kernel
theorem dX9_fits_128 : decode cX9_fits 128 = .ok (.iload 7, 2) := by decide +kernel
theorem dX9_fits_130 : decode cX9_fits 130 = .ok (.ifCond .ne 10, 3) := by decide +kernel
theorem dX9_fits_133 : decode cX9_fits 133 = .ok (.iload 4, 2) := by decide +kernel
theorem dX9_fits_135 : decode cX9_fits 135 = .ok (.iconst 1, 1) := by decide +kernel
theorem dX9_fits_136 : decode cX9_fits 136 = .ok (.iadd, 1) := by decide +kernel
theorem dX9_fits_137 : decode cX9_fits 137 = .ok (.goto 10, 3) := by decide +kernel
end
section
theorem dX9_fits_140 : decode cX9_fits 140 = .ok (.aload_n 2, 1) := by decide +kernel
theorem dX9_fits_141 : decode cX9_fits 141 = .ok (.getfield 52, 3) := by decide +kernel
theorem dX9_fits_144 : decode cX9_fits 144 = .ok (.iload 4, 2) := by decide +kernel
theorem dX9_fits_146 : decode cX9_fits 146 = .ok (.iaload, 1) := by decide +kernel
theorem dX9_fits_147 : decode cX9_fits 147 = .ok (.istore 4, 2) := by decide +kernel
theorem dX9_fits_149 : decode cX9_fits 149 = .ok (.iinc 5 1, 3) := by decide +kernel
theorem dX9_fits_152 : decode cX9_fits 152 = .ok (.goto (-132), 3) := by decide +kernel
theorem dX9_fits_155 : decode cX9_fits 155 = .ok (.iconst 1, 1) := by decide +kernel
theorem dX9_fits_156 : decode cX9_fits 156 = .ok (.ireturn, 1) := by decide +kernel
theorem dX9_build_0 : decode cX9_build 0 = .ok (.aload_n 0, 1) := by decide +kernel
theorem dX9_build_1 : decode cX9_build 1 = .ok (.aload_n 1, 1) := by decide +kernel
theorem dX9_build_2 : decode cX9_build 2 = .ok (.getfield 62, 3) := by decide +kernel
theorem dX9_build_5 : decode cX9_build 5 = .ok (.aload_n 2, 1) := by decide +kernel
theorem dX9_build_6 : decode cX9_build 6 = .ok (.aload_n 0, 1) := by decide +kernel
theorem dX9_build_7 : decode cX9_build 7 = .ok (.getfield 46, 3) := by decide +kernel
theorem dX9_build_10 : decode cX9_build 10 = .ok (.invokevirtual 67, 3) := by decide +kernel
theorem dX9_build_13 : decode cX9_build 13 = .ok (.ifCond .eq 17, 3) := by decide +kernel
theorem dX9_build_16 : decode cX9_build 16 = .ok (.aload_n 0, 1) := by decide +kernel
theorem dX9_build_17 : decode cX9_build 17 = .ok (.aload_n 1, 1) := by decide +kernel
theorem dX9_build_18 : decode cX9_build 18 = .ok (.getfield 82, 3) := by decide +kernel
theorem dX9_build_21 : decode cX9_build 21 = .ok (.aload_n 2, 1) := by decide +kernel
theorem dX9_build_22 : decode cX9_build 22 = .ok (.invokevirtual 85, 3) := by decide +kernel
theorem dX9_build_25 : decode cX9_build 25 = .ok (.bipush 60, 2) := by decide +kernel
theorem dX9_build_27 : decode cX9_build 27 = .ok (.if_icmp .le 5, 3) := by decide +kernel
theorem dX9_build_30 : decode cX9_build 30 = .ok (.iconst 0, 1) := by decide +kernel
theorem dX9_build_31 : decode cX9_build 31 = .ok (.ireturn, 1) := by decide +kernel
theorem dX9_build_32 : decode cX9_build 32 = .ok (.aload_n 0, 1) := by decide +kernel
theorem dX9_build_33 : decode cX9_build 33 = .ok (.getfield 14, 3) := by decide +kernel
theorem dX9_build_36 : decode cX9_build 36 = .ok (.iconst 0, 1) := by decide +kernel
theorem dX9_build_37 : decode cX9_build 37 = .ok (.putfield 49, 3) := by decide +kernel
theorem dX9_build_40 : decode cX9_build 40 = .ok (.iconst 0, 1) := by decide +kernel
theorem dX9_build_41 : decode cX9_build 41 = .ok (.istore_n 3, 1) := by decide +kernel
theorem dX9_build_42 : decode cX9_build 42 = .ok (.iload_n 3, 1) := by decide +kernel
theorem dX9_build_43 : decode cX9_build 43 = .ok (.aload_n 0, 1) := by decide +kernel
theorem dX9_build_44 : decode cX9_build 44 = .ok (.getfield 46, 3) := by decide +kernel
theorem dX9_build_47 : decode cX9_build 47 = .ok (.if_icmp .ge 22, 3) := by decide +kernel
theorem dX9_build_50 : decode cX9_build 50 = .ok (.aload_n 0, 1) := by decide +kernel
theorem dX9_build_51 : decode cX9_build 51 = .ok (.getfield 14, 3) := by decide +kernel
theorem dX9_build_54 : decode cX9_build 54 = .ok (.aload_n 2, 1) := by decide +kernel
theorem dX9_build_55 : decode cX9_build 55 = .ok (.getfield 71, 3) := by decide +kernel
theorem dX9_build_58 : decode cX9_build 58 = .ok (.iload_n 3, 1) := by decide +kernel
theorem dX9_build_59 : decode cX9_build 59 = .ok (.iaload, 1) := by decide +kernel
theorem dX9_build_60 : decode cX9_build 60 = .ok (.invokevirtual 89, 3) := by decide +kernel
theorem dX9_build_63 : decode cX9_build 63 = .ok (.iinc 3 1, 3) := by decide +kernel
theorem dX9_build_66 : decode cX9_build 66 = .ok (.goto (-24), 3) := by decide +kernel
theorem dX9_build_69 : decode cX9_build 69 = .ok (.iconst 0, 1) := by decide +kernel
theorem dX9_build_70 : decode cX9_build 70 = .ok (.istore_n 3, 1) := by decide +kernel
theorem dX9_build_71 : decode cX9_build 71 = .ok (.iload_n 3, 1) := by decide +kernel
theorem dX9_build_72 : decode cX9_build 72 = .ok (.aload_n 1, 1) := by decide +kernel
theorem dX9_build_73 : decode cX9_build 73 = .ok (.getfield 82, 3) := by decide +kernel
theorem dX9_build_76 : decode cX9_build 76 = .ok (.getfield 49, 3) := by decide +kernel
theorem dX9_build_79 : decode cX9_build 79 = .ok (.if_icmp .ge 58, 3) := by decide +kernel
theorem dX9_build_82 : decode cX9_build 82 = .ok (.aload_n 1, 1) := by decide +kernel
theorem dX9_build_83 : decode cX9_build 83 = .ok (.getfield 82, 3) := by decide +kernel
theorem dX9_build_86 : decode cX9_build 86 = .ok (.getfield 71, 3) := by decide +kernel
theorem dX9_build_89 : decode cX9_build 89 = .ok (.iload_n 3, 1) := by decide +kernel
theorem dX9_build_90 : decode cX9_build 90 = .ok (.iaload, 1) := by decide +kernel
theorem dX9_build_91 : decode cX9_build 91 = .ok (.istore 4, 2) := by decide +kernel
theorem dX9_build_93 : decode cX9_build 93 = .ok (.iload 4, 2) := by decide +kernel
theorem dX9_build_95 : decode cX9_build 95 = .ok (.invokestatic 92, 3) := by decide +kernel
theorem dX9_build_98 : decode cX9_build 98 = .ok (.ifCond .eq 24, 3) := by decide +kernel
theorem dX9_build_101 : decode cX9_build 101 = .ok (.aload_n 0, 1) := by decide +kernel
theorem dX9_build_102 : decode cX9_build 102 = .ok (.getfield 14, 3) := by decide +kernel
theorem dX9_build_105 : decode cX9_build 105 = .ok (.aload_n 2, 1) := by decide +kernel
theorem dX9_build_106 : decode cX9_build 106 = .ok (.aload_n 0, 1) := by decide +kernel
theorem dX9_build_107 : decode cX9_build 107 = .ok (.getfield 20, 3) := by decide +kernel
theorem dX9_build_110 : decode cX9_build 110 = .ok (.iload 4, 2) := by decide +kernel
theorem dX9_build_112 : decode cX9_build 112 = .ok (.invokestatic 74, 3) := by decide +kernel
theorem dX9_build_115 : decode cX9_build 115 = .ok (.iaload, 1) := by decide +kernel
theorem dX9_build_116 : decode cX9_build 116 = .ok (.invokevirtual 96, 3) := by decide +kernel
theorem dX9_build_119 : decode cX9_build 119 = .ok (.goto 12, 3) := by decide +kernel
theorem dX9_build_122 : decode cX9_build 122 = .ok (.aload_n 0, 1) := by decide +kernel
theorem dX9_build_123 : decode cX9_build 123 = .ok (.getfield 14, 3) := by decide +kernel
theorem dX9_build_126 : decode cX9_build 126 = .ok (.iload 4, 2) := by decide +kernel
theorem dX9_build_128 : decode cX9_build 128 = .ok (.invokevirtual 89, 3) := by decide +kernel
theorem dX9_build_131 : decode cX9_build 131 = .ok (.iinc 3 1, 3) := by decide +kernel
theorem dX9_build_134 : decode cX9_build 134 = .ok (.goto (-63), 3) := by decide +kernel
theorem dX9_build_137 : decode cX9_build 137 = .ok (.aload_n 2, 1) := by decide +kernel
theorem dX9_build_138 : decode cX9_build 138 = .ok (.getfield 52, 3) := by decide +kernel
theorem dX9_build_141 : decode cX9_build 141 = .ok (.aload_n 0, 1) := by decide +kernel
theorem dX9_build_142 : decode cX9_build 142 = .ok (.getfield 46, 3) := by decide +kernel
theorem dX9_build_145 : decode cX9_build 145 = .ok (.iaload, 1) := by decide +kernel
theorem dX9_build_146 : decode cX9_build 146 = .ok (.istore_n 3, 1) := by decide +kernel
theorem dX9_build_147 : decode cX9_build 147 = .ok (.iload_n 3, 1) := by decide +kernel
theorem dX9_build_148 : decode cX9_build 148 = .ok (.aload_n 2, 1) := by decide +kernel
theorem dX9_build_149 : decode cX9_build 149 = .ok (.getfield 49, 3) := by decide +kernel
theorem dX9_build_152 : decode cX9_build 152 = .ok (.if_icmp .ge 22, 3) := by decide +kernel
theorem dX9_build_155 : decode cX9_build 155 = .ok (.aload_n 0, 1) := by decide +kernel
theorem dX9_build_156 : decode cX9_build 156 = .ok (.getfield 14, 3) := by decide +kernel
theorem dX9_build_159 : decode cX9_build 159 = .ok (.aload_n 2, 1) := by decide +kernel
theorem dX9_build_160 : decode cX9_build 160 = .ok (.getfield 71, 3) := by decide +kernel
theorem dX9_build_163 : decode cX9_build 163 = .ok (.iload_n 3, 1) := by decide +kernel
theorem dX9_build_164 : decode cX9_build 164 = .ok (.iaload, 1) := by decide +kernel
theorem dX9_build_165 : decode cX9_build 165 = .ok (.invokevirtual 89, 3) := by decide +kernel
theorem dX9_build_168 : decode cX9_build 168 = .ok (.iinc 3 1, 3) := by decide +kernel
theorem dX9_build_171 : decode cX9_build 171 = .ok (.goto (-24), 3) := by decide +kernel
theorem dX9_build_174 : decode cX9_build 174 = .ok (.aload_n 0, 1) := by decide +kernel
theorem dX9_build_175 : decode cX9_build 175 = .ok (.getfield 14, 3) := by decide +kernel
theorem dX9_build_178 : decode cX9_build 178 = .ok (.invokevirtual 100, 3) := by decide +kernel
theorem dX9_build_181 : decode cX9_build 181 = .ok (.iconst 1, 1) := by decide +kernel
theorem dX9_build_182 : decode cX9_build 182 = .ok (.ireturn, 1) := by decide +kernel
theorem dX9_sizeBehind_0 : decode cX9_sizeBehind 0 = .ok (.aload_n 2, 1) := by decide +kernel
theorem dX9_sizeBehind_1 : decode cX9_sizeBehind 1 = .ok (.getfield 49, 3) := by decide +kernel
theorem dX9_sizeBehind_4 : decode cX9_sizeBehind 4 = .ok (.aload_n 2, 1) := by decide +kernel
theorem dX9_sizeBehind_5 : decode cX9_sizeBehind 5 = .ok (.aload_n 0, 1) := by decide +kernel
theorem dX9_sizeBehind_6 : decode cX9_sizeBehind 6 = .ok (.getfield 46, 3) := by decide +kernel
theorem dX9_sizeBehind_9 : decode cX9_sizeBehind 9 = .ok (.invokevirtual 103, 3) := by decide +kernel
theorem dX9_sizeBehind_12 : decode cX9_sizeBehind 12 = .ok (.isub, 1) := by decide +kernel
theorem dX9_sizeBehind_13 : decode cX9_sizeBehind 13 = .ok (.istore_n 3, 1) := by decide +kernel
theorem dX9_sizeBehind_14 : decode cX9_sizeBehind 14 = .ok (.iconst 0, 1) := by decide +kernel
theorem dX9_sizeBehind_15 : decode cX9_sizeBehind 15 = .ok (.istore 4, 2) := by decide +kernel
theorem dX9_sizeBehind_17 : decode cX9_sizeBehind 17 = .ok (.iload 4, 2) := by decide +kernel
theorem dX9_sizeBehind_19 : decode cX9_sizeBehind 19 = .ok (.aload_n 1, 1) := by decide +kernel
theorem dX9_sizeBehind_20 : decode cX9_sizeBehind 20 = .ok (.getfield 49, 3) := by decide +kernel
theorem dX9_sizeBehind_23 : decode cX9_sizeBehind 23 = .ok (.if_icmp .ge 44, 3) := by decide +kernel
theorem dX9_sizeBehind_26 : decode cX9_sizeBehind 26 = .ok (.aload_n 1, 1) := by decide +kernel
theorem dX9_sizeBehind_27 : decode cX9_sizeBehind 27 = .ok (.getfield 71, 3) := by decide +kernel
theorem dX9_sizeBehind_30 : decode cX9_sizeBehind 30 = .ok (.iload 4, 2) := by decide +kernel
theorem dX9_sizeBehind_32 : decode cX9_sizeBehind 32 = .ok (.iaload, 1) := by decide +kernel
theorem dX9_sizeBehind_33 : decode cX9_sizeBehind 33 = .ok (.invokestatic 74, 3) := by decide +kernel
theorem dX9_sizeBehind_36 : decode cX9_sizeBehind 36 = .ok (.istore 5, 2) := by decide +kernel
theorem dX9_sizeBehind_38 : decode cX9_sizeBehind 38 = .ok (.iload_n 3, 1) := by decide +kernel
theorem dX9_sizeBehind_39 : decode cX9_sizeBehind 39 = .ok (.iload 5, 2) := by decide +kernel
theorem dX9_sizeBehind_41 : decode cX9_sizeBehind 41 = .ok (.ifCond .ne 7, 3) := by decide +kernel
theorem dX9_sizeBehind_44 : decode cX9_sizeBehind 44 = .ok (.iconst 1, 1) := by decide +kernel
theorem dX9_sizeBehind_45 : decode cX9_sizeBehind 45 = .ok (.goto 14, 3) := by decide +kernel
theorem dX9_sizeBehind_48 : decode cX9_sizeBehind 48 = .ok (.aload_n 2, 1) := by decide +kernel
theorem dX9_sizeBehind_49 : decode cX9_sizeBehind 49 = .ok (.aload_n 0, 1) := by decide +kernel
theorem dX9_sizeBehind_50 : decode cX9_sizeBehind 50 = .ok (.getfield 20, 3) := by decide +kernel
theorem dX9_sizeBehind_53 : decode cX9_sizeBehind 53 = .ok (.iload 5, 2) := by decide +kernel
theorem dX9_sizeBehind_55 : decode cX9_sizeBehind 55 = .ok (.iaload, 1) := by decide +kernel
theorem dX9_sizeBehind_56 : decode cX9_sizeBehind 56 = .ok (.invokevirtual 103, 3) := by decide +kernel
theorem dX9_sizeBehind_59 : decode cX9_sizeBehind 59 = .ok (.iadd, 1) := by decide +kernel
theorem dX9_sizeBehind_60 : decode cX9_sizeBehind 60 = .ok (.istore_n 3, 1) := by decide +kernel
theorem dX9_sizeBehind_61 : decode cX9_sizeBehind 61 = .ok (.iinc 4 1, 3) := by decide +kernel
theorem dX9_sizeBehind_64 : decode cX9_sizeBehind 64 = .ok (.goto (-47), 3) := by decide +kernel
theorem dX9_sizeBehind_67 : decode cX9_sizeBehind 67 = .ok (.iload_n 3, 1) := by decide +kernel
theorem dX9_sizeBehind_68 : decode cX9_sizeBehind 68 = .ok (.ireturn, 1) := by decide +kernel
theorem dX10_init_0 : decode cX10_init 0 = .ok (.aload_n 0, 1) := by decide +kernel
theorem dX10_init_1 : decode cX10_init 1 = .ok (.invokespecial 1, 3) := by decide +kernel
theorem dX10_init_4 : decode cX10_init 4 = .ok (.aload_n 0, 1) := by decide +kernel
theorem dX10_init_5 : decode cX10_init 5 = .ok (.new 7, 3) := by decide +kernel
theorem dX10_init_8 : decode cX10_init 8 = .ok (.dup, 1) := by decide +kernel
theorem dX10_init_9 : decode cX10_init 9 = .ok (.invokespecial 9, 3) := by decide +kernel
theorem dX10_init_12 : decode cX10_init 12 = .ok (.putfield 10, 3) := by decide +kernel
theorem dX10_init_15 : decode cX10_init 15 = .ok (.aload_n 0, 1) := by decide +kernel
theorem dX10_init_16 : decode cX10_init 16 = .ok (.new 16, 3) := by decide +kernel
theorem dX10_init_19 : decode cX10_init 19 = .ok (.dup, 1) := by decide +kernel
theorem dX10_init_20 : decode cX10_init 20 = .ok (.invokespecial 18, 3) := by decide +kernel
theorem dX10_init_23 : decode cX10_init 23 = .ok (.putfield 19, 3) := by decide +kernel
theorem dX10_init_26 : decode cX10_init 26 = .ok (.aload_n 0, 1) := by decide +kernel
theorem dX10_init_27 : decode cX10_init 27 = .ok (.new 23, 3) := by decide +kernel
theorem dX10_init_30 : decode cX10_init 30 = .ok (.dup, 1) := by decide +kernel
theorem dX10_init_31 : decode cX10_init 31 = .ok (.invokespecial 25, 3) := by decide +kernel
theorem dX10_init_34 : decode cX10_init 34 = .ok (.putfield 26, 3) := by decide +kernel
theorem dX10_init_37 : decode cX10_init 37 = .ok (.aload_n 0, 1) := by decide +kernel
theorem dX10_init_38 : decode cX10_init 38 = .ok (.new 30, 3) := by decide +kernel
theorem dX10_init_41 : decode cX10_init 41 = .ok (.dup, 1) := by decide +kernel
theorem dX10_init_42 : decode cX10_init 42 = .ok (.invokespecial 32, 3) := by decide +kernel
theorem dX10_init_45 : decode cX10_init 45 = .ok (.putfield 33, 3) := by decide +kernel
theorem dX10_init_48 : decode cX10_init 48 = .ok (.aload_n 0, 1) := by decide +kernel
theorem dX10_init_49 : decode cX10_init 49 = .ok (.new 37, 3) := by decide +kernel
theorem dX10_init_52 : decode cX10_init 52 = .ok (.dup, 1) := by decide +kernel
theorem dX10_init_53 : decode cX10_init 53 = .ok (.invokespecial 39, 3) := by decide +kernel
theorem dX10_init_56 : decode cX10_init 56 = .ok (.putfield 40, 3) := by decide +kernel
theorem dX10_init_59 : decode cX10_init 59 = .ok (.aload_n 0, 1) := by decide +kernel
theorem dX10_init_60 : decode cX10_init 60 = .ok (.new 44, 3) := by decide +kernel
theorem dX10_init_63 : decode cX10_init 63 = .ok (.dup, 1) := by decide +kernel
theorem dX10_init_64 : decode cX10_init 64 = .ok (.invokespecial 46, 3) := by decide +kernel
theorem dX10_init_67 : decode cX10_init 67 = .ok (.putfield 47, 3) := by decide +kernel
theorem dX10_init_70 : decode cX10_init 70 = .ok (.aload_n 0, 1) := by decide +kernel
theorem dX10_init_71 : decode cX10_init 71 = .ok (.new 51, 3) := by decide +kernel
theorem dX10_init_74 : decode cX10_init 74 = .ok (.dup, 1) := by decide +kernel
theorem dX10_init_75 : decode cX10_init 75 = .ok (.invokespecial 53, 3) := by decide +kernel
theorem dX10_init_78 : decode cX10_init 78 = .ok (.putfield 54, 3) := by decide +kernel
theorem dX10_init_81 : decode cX10_init 81 = .ok (.aload_n 0, 1) := by decide +kernel
theorem dX10_init_82 : decode cX10_init 82 = .ok (.new 58, 3) := by decide +kernel
theorem dX10_init_85 : decode cX10_init 85 = .ok (.dup, 1) := by decide +kernel
theorem dX10_init_86 : decode cX10_init 86 = .ok (.bipush 60, 2) := by decide +kernel
theorem dX10_init_88 : decode cX10_init 88 = .ok (.invokespecial 60, 3) := by decide +kernel
theorem dX10_init_91 : decode cX10_init 91 = .ok (.putfield 63, 3) := by decide +kernel
theorem dX10_init_94 : decode cX10_init 94 = .ok (.aload_n 0, 1) := by decide +kernel
theorem dX10_init_95 : decode cX10_init 95 = .ok (.bipush 7, 2) := by decide +kernel
theorem dX10_init_97 : decode cX10_init 97 = .ok (.newarray .int, 2) := by decide +kernel
theorem dX10_init_99 : decode cX10_init 99 = .ok (.putfield 67, 3) := by decide +kernel
theorem dX10_init_102 : decode cX10_init 102 = .ok (.aload_n 0, 1) := by decide +kernel
theorem dX10_init_103 : decode cX10_init 103 = .ok (.bipush (-9), 2) := by decide +kernel
theorem dX10_init_105 : decode cX10_init 105 = .ok (.putfield 71, 3) := by decide +kernel
theorem dX10_init_108 : decode cX10_init 108 = .ok (.aload_n 0, 1) := by decide +kernel
theorem dX10_init_109 : decode cX10_init 109 = .ok (.getfield 10, 3) := by decide +kernel
theorem dX10_init_112 : decode cX10_init 112 = .ok (.getfield 75, 3) := by decide +kernel
theorem dX10_init_115 : decode cX10_init 115 = .ok (.bipush 97, 2) := by decide +kernel
theorem dX10_init_117 : decode cX10_init 117 = .ok (.invokevirtual 78, 3) := by decide +kernel
theorem dX10_init_120 : decode cX10_init 120 = .ok (.return_, 1) := by decide +kernel
theorem dX10_type_0 : decode cX10_type 0 = .ok (.iload_n 1, 1) := by decide +kernel
theorem dX10_type_1 : decode cX10_type 1 = .ok (.ifCond .lt 9, 3) := by decide +kernel
theorem dX10_type_4 : decode cX10_type 4 = .ok (.iload_n 1, 1) := by decide +kernel
theorem dX10_type_5 : decode cX10_type 5 = .ok (.bipush 127, 2) := by decide +kernel
theorem dX10_type_7 : decode cX10_type 7 = .ok (.if_icmp .le 8, 3) := by decide +kernel
theorem dX10_type_10 : decode cX10_type 10 = .ok (.aload_n 0, 1) := by decide +kernel
theorem dX10_type_11 : decode cX10_type 11 = .ok (.invokevirtual 81, 3) := by decide +kernel
theorem dX10_type_14 : decode cX10_type 14 = .ok (.ireturn, 1) := by decide +kernel
theorem dX10_type_15 : decode cX10_type 15 = .ok (.aload_n 0, 1) := by decide +kernel
theorem dX10_type_16 : decode cX10_type 16 = .ok (.getfield 26, 3) := by decide +kernel
theorem dX10_type_19 : decode cX10_type 19 = .ok (.getfield 85, 3) := by decide +kernel
theorem dX10_type_22 : decode cX10_type 22 = .ok (.bipush 120, 2) := by decide +kernel
theorem dX10_type_24 : decode cX10_type 24 = .ok (.if_icmp .lt 16, 3) := by decide +kernel
theorem dX10_type_27 : decode cX10_type 27 = .ok (.aload_n 0, 1) := by decide +kernel
theorem dX10_type_28 : decode cX10_type 28 = .ok (.dup, 1) := by decide +kernel
theorem dX10_type_29 : decode cX10_type 29 = .ok (.getfield 88, 3) := by decide +kernel
theorem dX10_type_32 : decode cX10_type 32 = .ok (.iconst 1, 1) := by decide +kernel
theorem dX10_type_33 : decode cX10_type 33 = .ok (.iadd, 1) := by decide +kernel
theorem dX10_type_34 : decode cX10_type 34 = .ok (.putfield 88, 3) := by decide +kernel
theorem dX10_type_37 : decode cX10_type 37 = .ok (.bipush (-4), 2) := by decide +kernel
theorem dX10_type_39 : decode cX10_type 39 = .ok (.ireturn, 1) := by decide +kernel
theorem dX10_type_40 : decode cX10_type 40 = .ok (.aload_n 0, 1) := by decide +kernel
theorem dX10_type_41 : decode cX10_type 41 = .ok (.getfield 26, 3) := by decide +kernel
theorem dX10_type_44 : decode cX10_type 44 = .ok (.iload_n 1, 1) := by decide +kernel
theorem dX10_type_45 : decode cX10_type 45 = .ok (.invokevirtual 91, 3) := by decide +kernel
theorem dX10_type_48 : decode cX10_type 48 = .ok (.aload_n 0, 1) := by decide +kernel
theorem dX10_type_49 : decode cX10_type 49 = .ok (.getfield 26, 3) := by decide +kernel
theorem dX10_type_52 : decode cX10_type 52 = .ok (.getfield 85, 3) := by decide +kernel
theorem dX10_type_55 : decode cX10_type 55 = .ok (.ireturn, 1) := by decide +kernel
theorem dX10_clear_0 : decode cX10_clear 0 = .ok (.aload_n 0, 1) := by decide +kernel
theorem dX10_clear_1 : decode cX10_clear 1 = .ok (.getfield 26, 3) := by decide +kernel
theorem dX10_clear_4 : decode cX10_clear 4 = .ok (.getfield 85, 3) := by decide +kernel
theorem dX10_clear_7 : decode cX10_clear 7 = .ok (.istore_n 1, 1) := by decide +kernel
theorem dX10_clear_8 : decode cX10_clear 8 = .ok (.aload_n 0, 1) := by decide +kernel
theorem dX10_clear_9 : decode cX10_clear 9 = .ok (.getfield 26, 3) := by decide +kernel
theorem dX10_clear_12 : decode cX10_clear 12 = .ok (.iconst 0, 1) := by decide +kernel
theorem dX10_clear_13 : decode cX10_clear 13 = .ok (.putfield 85, 3) := by decide +kernel
theorem dX10_clear_16 : decode cX10_clear 16 = .ok (.iload_n 1, 1) := by decide +kernel
theorem dX10_clear_17 : decode cX10_clear 17 = .ok (.ireturn, 1) := by decide +kernel
theorem dX10_reads_0 : decode cX10_reads 0 = .ok (.aload_n 0, 1) := by decide +kernel
theorem dX10_reads_1 : decode cX10_reads 1 = .ok (.getfield 26, 3) := by decide +kernel
theorem dX10_reads_4 : decode cX10_reads 4 = .ok (.aload_n 0, 1) := by decide +kernel
theorem dX10_reads_5 : decode cX10_reads 5 = .ok (.getfield 10, 3) := by decide +kernel
theorem dX10_reads_8 : decode cX10_reads 8 = .ok (.invokevirtual 94, 3) := by decide +kernel
theorem dX10_reads_11 : decode cX10_reads 11 = .ok (.istore_n 1, 1) := by decide +kernel
theorem dX10_reads_12 : decode cX10_reads 12 = .ok (.iload_n 1, 1) := by decide +kernel
theorem dX10_reads_13 : decode cX10_reads 13 = .ok (.iconst (-1), 1) := by decide +kernel
theorem dX10_reads_14 : decode cX10_reads 14 = .ok (.if_icmp .ne 14, 3) := by decide +kernel
theorem dX10_reads_17 : decode cX10_reads 17 = .ok (.bipush (-10), 2) := by decide +kernel
theorem dX10_reads_19 : decode cX10_reads 19 = .ok (.aload_n 0, 1) := by decide +kernel
theorem dX10_reads_20 : decode cX10_reads 20 = .ok (.getfield 26, 3) := by decide +kernel
theorem dX10_reads_23 : decode cX10_reads 23 = .ok (.getfield 98, 3) := by decide +kernel
theorem dX10_reads_26 : decode cX10_reads 26 = .ok (.isub, 1) := by decide +kernel
theorem dX10_reads_27 : decode cX10_reads 27 = .ok (.ireturn, 1) := by decide +kernel
theorem dX10_reads_28 : decode cX10_reads 28 = .ok (.aload_n 0, 1) := by decide +kernel
theorem dX10_reads_29 : decode cX10_reads 29 = .ok (.getfield 19, 3) := by decide +kernel
theorem dX10_reads_32 : decode cX10_reads 32 = .ok (.aload_n 0, 1) := by decide +kernel
theorem dX10_reads_33 : decode cX10_reads 33 = .ok (.getfield 10, 3) := by decide +kernel
theorem dX10_reads_36 : decode cX10_reads 36 = .ok (.invokevirtual 101, 3) := by decide +kernel
theorem dX10_reads_39 : decode cX10_reads 39 = .ok (.aload_n 0, 1) := by decide +kernel
theorem dX10_reads_40 : decode cX10_reads 40 = .ok (.getfield 10, 3) := by decide +kernel
theorem dX10_reads_43 : decode cX10_reads 43 = .ok (.iload_n 1, 1) := by decide +kernel
theorem dX10_reads_44 : decode cX10_reads 44 = .ok (.putfield 105, 3) := by decide +kernel
theorem dX10_reads_47 : decode cX10_reads 47 = .ok (.aload_n 0, 1) := by decide +kernel
theorem dX10_reads_48 : decode cX10_reads 48 = .ok (.invokevirtual 108, 3) := by decide +kernel
theorem dX10_reads_51 : decode cX10_reads 51 = .ok (.iload_n 1, 1) := by decide +kernel
theorem dX10_reads_52 : decode cX10_reads 52 = .ok (.ireturn, 1) := by decide +kernel
theorem dX10_term_0 : decode cX10_term 0 = .ok (.aload_n 0, 1) := by decide +kernel
theorem dX10_term_1 : decode cX10_term 1 = .ok (.getfield 26, 3) := by decide +kernel
theorem dX10_term_4 : decode cX10_term 4 = .ok (.aload_n 0, 1) := by decide +kernel
theorem dX10_term_5 : decode cX10_term 5 = .ok (.getfield 63, 3) := by decide +kernel
theorem dX10_term_8 : decode cX10_term 8 = .ok (.invokevirtual 111, 3) := by decide +kernel
theorem dX10_term_11 : decode cX10_term 11 = .ok (.ifCond .ne 14, 3) := by decide +kernel
theorem dX10_term_14 : decode cX10_term 14 = .ok (.bipush (-10), 2) := by decide +kernel
theorem dX10_term_16 : decode cX10_term 16 = .ok (.aload_n 0, 1) := by decide +kernel
theorem dX10_term_17 : decode cX10_term 17 = .ok (.getfield 26, 3) := by decide +kernel
theorem dX10_term_20 : decode cX10_term 20 = .ok (.getfield 98, 3) := by decide +kernel
theorem dX10_term_23 : decode cX10_term 23 = .ok (.isub, 1) := by decide +kernel
theorem dX10_term_24 : decode cX10_term 24 = .ok (.ireturn, 1) := by decide +kernel
theorem dX10_term_25 : decode cX10_term 25 = .ok (.aload_n 0, 1) := by decide +kernel
theorem dX10_term_26 : decode cX10_term 26 = .ok (.getfield 19, 3) := by decide +kernel
theorem dX10_term_29 : decode cX10_term 29 = .ok (.aload_n 0, 1) := by decide +kernel
theorem dX10_term_30 : decode cX10_term 30 = .ok (.getfield 10, 3) := by decide +kernel
theorem dX10_term_33 : decode cX10_term 33 = .ok (.invokevirtual 101, 3) := by decide +kernel
theorem dX10_term_36 : decode cX10_term 36 = .ok (.aload_n 0, 1) := by decide +kernel
theorem dX10_term_37 : decode cX10_term 37 = .ok (.getfield 10, 3) := by decide +kernel
theorem dX10_term_40 : decode cX10_term 40 = .ok (.getfield 75, 3) := by decide +kernel
theorem dX10_term_43 : decode cX10_term 43 = .ok (.aload_n 0, 1) := by decide +kernel
theorem dX10_term_44 : decode cX10_term 44 = .ok (.getfield 63, 3) := by decide +kernel
theorem dX10_term_47 : decode cX10_term 47 = .ok (.invokevirtual 115, 3) := by decide +kernel
theorem dX10_term_50 : decode cX10_term 50 = .ok (.aload_n 0, 1) := by decide +kernel
theorem dX10_term_51 : decode cX10_term 51 = .ok (.getfield 10, 3) := by decide +kernel
theorem dX10_term_54 : decode cX10_term 54 = .ok (.getfield 75, 3) := by decide +kernel
theorem dX10_term_57 : decode cX10_term 57 = .ok (.getfield 119, 3) := by decide +kernel
theorem dX10_term_60 : decode cX10_term 60 = .ok (.ireturn, 1) := by decide +kernel
theorem dX10_drops_0 : decode cX10_drops 0 = .ok (.aload_n 0, 1) := by decide +kernel
theorem dX10_drops_1 : decode cX10_drops 1 = .ok (.iload_n 1, 1) := by decide +kernel
theorem dX10_drops_2 : decode cX10_drops 2 = .ok (.invokevirtual 122, 3) := by decide +kernel
theorem dX10_drops_5 : decode cX10_drops 5 = .ok (.ifCond .ne 8, 3) := by decide +kernel
theorem dX10_drops_8 : decode cX10_drops 8 = .ok (.aload_n 0, 1) := by decide +kernel
theorem dX10_drops_9 : decode cX10_drops 9 = .ok (.invokevirtual 81, 3) := by decide +kernel
theorem dX10_drops_12 : decode cX10_drops 12 = .ok (.ireturn, 1) := by decide +kernel
theorem dX10_drops_13 : decode cX10_drops 13 = .ok (.aload_n 0, 1) := by decide +kernel
theorem dX10_drops_14 : decode cX10_drops 14 = .ok (.getfield 19, 3) := by decide +kernel
theorem dX10_drops_17 : decode cX10_drops 17 = .ok (.aload_n 0, 1) := by decide +kernel
theorem dX10_drops_18 : decode cX10_drops 18 = .ok (.getfield 10, 3) := by decide +kernel
theorem dX10_drops_21 : decode cX10_drops 21 = .ok (.invokevirtual 101, 3) := by decide +kernel
theorem dX10_drops_24 : decode cX10_drops 24 = .ok (.aload_n 0, 1) := by decide +kernel
theorem dX10_drops_25 : decode cX10_drops 25 = .ok (.getfield 10, 3) := by decide +kernel
theorem dX10_drops_28 : decode cX10_drops 28 = .ok (.iload_n 1, 1) := by decide +kernel
theorem dX10_drops_29 : decode cX10_drops 29 = .ok (.invokevirtual 126, 3) := by decide +kernel
theorem dX10_drops_32 : decode cX10_drops 32 = .ok (.aload_n 0, 1) := by decide +kernel
theorem dX10_drops_33 : decode cX10_drops 33 = .ok (.invokevirtual 108, 3) := by decide +kernel
theorem dX10_drops_36 : decode cX10_drops 36 = .ok (.aload_n 0, 1) := by decide +kernel
theorem dX10_drops_37 : decode cX10_drops 37 = .ok (.getfield 10, 3) := by decide +kernel
theorem dX10_drops_40 : decode cX10_drops 40 = .ok (.getfield 105, 3) := by decide +kernel
theorem dX10_drops_43 : decode cX10_drops 43 = .ok (.ireturn, 1) := by decide +kernel
theorem dX10_first_0 : decode cX10_first 0 = .ok (.aload_n 0, 1) := by decide +kernel
theorem dX10_first_1 : decode cX10_first 1 = .ok (.iload_n 1, 1) := by decide +kernel
theorem dX10_first_2 : decode cX10_first 2 = .ok (.invokevirtual 122, 3) := by decide +kernel
theorem dX10_first_5 : decode cX10_first 5 = .ok (.ifCond .ne 8, 3) := by decide +kernel
theorem dX10_first_8 : decode cX10_first 8 = .ok (.aload_n 0, 1) := by decide +kernel
theorem dX10_first_9 : decode cX10_first 9 = .ok (.invokevirtual 81, 3) := by decide +kernel
theorem dX10_first_12 : decode cX10_first 12 = .ok (.ireturn, 1) := by decide +kernel
theorem dX10_first_13 : decode cX10_first 13 = .ok (.aload_n 0, 1) := by decide +kernel
theorem dX10_first_14 : decode cX10_first 14 = .ok (.getfield 19, 3) := by decide +kernel
theorem dX10_first_17 : decode cX10_first 17 = .ok (.aload_n 0, 1) := by decide +kernel
theorem dX10_first_18 : decode cX10_first 18 = .ok (.getfield 10, 3) := by decide +kernel
theorem dX10_first_21 : decode cX10_first 21 = .ok (.invokevirtual 101, 3) := by decide +kernel
theorem dX10_first_24 : decode cX10_first 24 = .ok (.aload_n 0, 1) := by decide +kernel
theorem dX10_first_25 : decode cX10_first 25 = .ok (.getfield 10, 3) := by decide +kernel
theorem dX10_first_28 : decode cX10_first 28 = .ok (.iload_n 1, 1) := by decide +kernel
theorem dX10_first_29 : decode cX10_first 29 = .ok (.invokevirtual 129, 3) := by decide +kernel
theorem dX10_first_32 : decode cX10_first 32 = .ok (.aload_n 0, 1) := by decide +kernel
theorem dX10_first_33 : decode cX10_first 33 = .ok (.invokevirtual 108, 3) := by decide +kernel
theorem dX10_first_36 : decode cX10_first 36 = .ok (.iload_n 1, 1) := by decide +kernel
theorem dX10_first_37 : decode cX10_first 37 = .ok (.ireturn, 1) := by decide +kernel
theorem dX10_of_0 : decode cX10_of 0 = .ok (.aload_n 0, 1) := by decide +kernel
theorem dX10_of_1 : decode cX10_of 1 = .ok (.iload_n 1, 1) := by decide +kernel
theorem dX10_of_2 : decode cX10_of 2 = .ok (.invokevirtual 122, 3) := by decide +kernel
theorem dX10_of_5 : decode cX10_of 5 = .ok (.ifCond .eq 12, 3) := by decide +kernel
theorem dX10_of_8 : decode cX10_of 8 = .ok (.iload_n 2, 1) := by decide +kernel
theorem dX10_of_9 : decode cX10_of 9 = .ok (.ifCond .lt 8, 3) := by decide +kernel
theorem dX10_of_12 : decode cX10_of 12 = .ok (.iload_n 2, 1) := by decide +kernel
theorem dX10_of_13 : decode cX10_of 13 = .ok (.iconst 5, 1) := by decide +kernel
theorem dX10_of_14 : decode cX10_of 14 = .ok (.if_icmp .le 8, 3) := by decide +kernel
theorem dX10_of_17 : decode cX10_of 17 = .ok (.aload_n 0, 1) := by decide +kernel
theorem dX10_of_18 : decode cX10_of 18 = .ok (.invokevirtual 81, 3) := by decide +kernel
theorem dX10_of_21 : decode cX10_of 21 = .ok (.ireturn, 1) := by decide +kernel
theorem dX10_of_22 : decode cX10_of 22 = .ok (.aload_n 0, 1) := by decide +kernel
theorem dX10_of_23 : decode cX10_of 23 = .ok (.getfield 10, 3) := by decide +kernel
theorem dX10_of_26 : decode cX10_of 26 = .ok (.getfield 132, 3) := by decide +kernel
theorem dX10_of_29 : decode cX10_of 29 = .ok (.iload_n 1, 1) := by decide +kernel
theorem dX10_of_30 : decode cX10_of 30 = .ok (.aaload, 1) := by decide +kernel
theorem dX10_of_31 : decode cX10_of 31 = .ok (.astore_n 3, 1) := by decide +kernel
theorem dX10_of_32 : decode cX10_of 32 = .ok (.iload_n 2, 1) := by decide +kernel
theorem dX10_of_33 : decode cX10_of 33 = .ok (.tableswitch 77 0 4 #[35, 43, 51, 61, 69], 35) := by decide +kernel
theorem dX10_of_68 : decode cX10_of 68 = .ok (.aload_n 3, 1) := by decide +kernel
theorem dX10_of_69 : decode cX10_of 69 = .ok (.getfield 136, 3) := by decide +kernel
theorem dX10_of_72 : decode cX10_of 72 = .ok (.getfield 119, 3) := by decide +kernel
theorem dX10_of_75 : decode cX10_of 75 = .ok (.ireturn, 1) := by decide +kernel
theorem dX10_of_76 : decode cX10_of 76 = .ok (.aload_n 3, 1) := by decide +kernel
theorem dX10_of_77 : decode cX10_of 77 = .ok (.getfield 141, 3) := by decide +kernel
theorem dX10_of_80 : decode cX10_of 80 = .ok (.getfield 119, 3) := by decide +kernel
theorem dX10_of_83 : decode cX10_of 83 = .ok (.ireturn, 1) := by decide +kernel
theorem dX10_of_84 : decode cX10_of 84 = .ok (.aload_n 3, 1) := by decide +kernel
theorem dX10_of_85 : decode cX10_of 85 = .ok (.getfield 136, 3) := by decide +kernel
theorem dX10_of_88 : decode cX10_of 88 = .ok (.getfield 144, 3) := by decide +kernel
theorem dX10_of_91 : decode cX10_of 91 = .ok (.iconst 0, 1) := by decide +kernel
theorem dX10_of_92 : decode cX10_of 92 = .ok (.iaload, 1) := by decide +kernel
theorem dX10_of_93 : decode cX10_of 93 = .ok (.ireturn, 1) := by decide +kernel
theorem dX10_of_94 : decode cX10_of 94 = .ok (.aload_n 3, 1) := by decide +kernel
theorem dX10_of_95 : decode cX10_of 95 = .ok (.getfield 136, 3) := by decide +kernel
theorem dX10_of_98 : decode cX10_of 98 = .ok (.invokevirtual 147, 3) := by decide +kernel
theorem dX10_of_101 : decode cX10_of 101 = .ok (.ireturn, 1) := by decide +kernel
theorem dX10_of_102 : decode cX10_of 102 = .ok (.aload_n 3, 1) := by decide +kernel
theorem dX10_of_103 : decode cX10_of 103 = .ok (.getfield 141, 3) := by decide +kernel
theorem dX10_of_106 : decode cX10_of 106 = .ok (.invokevirtual 147, 3) := by decide +kernel
theorem dX10_of_109 : decode cX10_of 109 = .ok (.ireturn, 1) := by decide +kernel
theorem dX10_of_110 : decode cX10_of 110 = .ok (.aload_n 0, 1) := by decide +kernel
theorem dX10_of_111 : decode cX10_of 111 = .ok (.invokevirtual 150, 3) := by decide +kernel
theorem dX10_of_114 : decode cX10_of 114 = .ok (.aload_n 0, 1) := by decide +kernel
theorem dX10_of_115 : decode cX10_of 115 = .ok (.getfield 40, 3) := by decide +kernel
theorem dX10_of_118 : decode cX10_of 118 = .ok (.getfield 153, 3) := by decide +kernel
theorem dX10_of_121 : decode cX10_of 121 = .ok (.iload_n 1, 1) := by decide +kernel
theorem dX10_of_122 : decode cX10_of 122 = .ok (.laload, 1) := by decide +kernel
theorem dX10_of_123 : decode cX10_of 123 = .ok (.invokestatic 157, 3) := by decide +kernel
theorem dX10_of_126 : decode cX10_of 126 = .ok (.ireturn, 1) := by decide +kernel
theorem dX10_shown_0 : decode cX10_shown 0 = .ok (.aload_n 0, 1) := by decide +kernel
theorem dX10_shown_1 : decode cX10_shown 1 = .ok (.iload_n 1, 1) := by decide +kernel
theorem dX10_shown_2 : decode cX10_shown 2 = .ok (.invokevirtual 122, 3) := by decide +kernel
theorem dX10_shown_5 : decode cX10_shown 5 = .ok (.ifCond .eq 8, 3) := by decide +kernel
theorem dX10_shown_8 : decode cX10_shown 8 = .ok (.iload_n 2, 1) := by decide +kernel
theorem dX10_shown_9 : decode cX10_shown 9 = .ok (.iconst (-1), 1) := by decide +kernel
theorem dX10_shown_10 : decode cX10_shown 10 = .ok (.if_icmp .ge 8, 3) := by decide +kernel
theorem dX10_shown_13 : decode cX10_shown 13 = .ok (.aload_n 0, 1) := by decide +kernel
theorem dX10_shown_14 : decode cX10_shown 14 = .ok (.invokevirtual 81, 3) := by decide +kernel
theorem dX10_shown_17 : decode cX10_shown 17 = .ok (.ireturn, 1) := by decide +kernel
theorem dX10_shown_18 : decode cX10_shown 18 = .ok (.aload_n 0, 1) := by decide +kernel
theorem dX10_shown_19 : decode cX10_shown 19 = .ok (.getfield 33, 3) := by decide +kernel
theorem dX10_shown_22 : decode cX10_shown 22 = .ok (.aload_n 0, 1) := by decide +kernel
theorem dX10_shown_23 : decode cX10_shown 23 = .ok (.getfield 10, 3) := by decide +kernel
theorem dX10_shown_26 : decode cX10_shown 26 = .ok (.getfield 132, 3) := by decide +kernel
theorem dX10_shown_29 : decode cX10_shown 29 = .ok (.iload_n 1, 1) := by decide +kernel
theorem dX10_shown_30 : decode cX10_shown 30 = .ok (.aaload, 1) := by decide +kernel
theorem dX10_shown_31 : decode cX10_shown 31 = .ok (.invokevirtual 163, 3) := by decide +kernel
theorem dX10_shown_34 : decode cX10_shown 34 = .ok (.iload_n 2, 1) := by decide +kernel
theorem dX10_shown_35 : decode cX10_shown 35 = .ok (.iconst (-1), 1) := by decide +kernel
theorem dX10_shown_36 : decode cX10_shown 36 = .ok (.if_icmp .ne 11, 3) := by decide +kernel
theorem dX10_shown_39 : decode cX10_shown 39 = .ok (.aload_n 0, 1) := by decide +kernel
theorem dX10_shown_40 : decode cX10_shown 40 = .ok (.getfield 33, 3) := by decide +kernel
theorem dX10_shown_43 : decode cX10_shown 43 = .ok (.getfield 167, 3) := by decide +kernel
theorem dX10_shown_46 : decode cX10_shown 46 = .ok (.ireturn, 1) := by decide +kernel
theorem dX10_shown_47 : decode cX10_shown 47 = .ok (.iload_n 2, 1) := by decide +kernel
theorem dX10_shown_48 : decode cX10_shown 48 = .ok (.aload_n 0, 1) := by decide +kernel
theorem dX10_shown_49 : decode cX10_shown 49 = .ok (.getfield 33, 3) := by decide +kernel
theorem dX10_shown_52 : decode cX10_shown 52 = .ok (.getfield 167, 3) := by decide +kernel
theorem dX10_shown_55 : decode cX10_shown 55 = .ok (.if_icmp .ge 15, 3) := by decide +kernel
theorem dX10_shown_58 : decode cX10_shown 58 = .ok (.aload_n 0, 1) := by decide +kernel
theorem dX10_shown_59 : decode cX10_shown 59 = .ok (.getfield 33, 3) := by decide +kernel
theorem dX10_shown_62 : decode cX10_shown 62 = .ok (.getfield 168, 3) := by decide +kernel
theorem dX10_shown_65 : decode cX10_shown 65 = .ok (.iload_n 2, 1) := by decide +kernel
theorem dX10_shown_66 : decode cX10_shown 66 = .ok (.iaload, 1) := by decide +kernel
theorem dX10_shown_67 : decode cX10_shown 67 = .ok (.goto 5, 3) := by decide +kernel
theorem dX10_shown_70 : decode cX10_shown 70 = .ok (.bipush (-5), 2) := by decide +kernel
theorem dX10_shown_72 : decode cX10_shown 72 = .ok (.ireturn, 1) := by decide +kernel
theorem dX10_fall_0 : decode cX10_fall 0 = .ok (.aload_n 0, 1) := by decide +kernel
theorem dX10_fall_1 : decode cX10_fall 1 = .ok (.getfield 71, 3) := by decide +kernel
theorem dX10_fall_4 : decode cX10_fall 4 = .ok (.bipush (-9), 2) := by decide +kernel
theorem dX10_fall_6 : decode cX10_fall 6 = .ok (.if_icmp .ne 23, 3) := by decide +kernel
theorem dX10_fall_9 : decode cX10_fall 9 = .ok (.aload_n 0, 1) := by decide +kernel
theorem dX10_fall_10 : decode cX10_fall 10 = .ok (.aload_n 0, 1) := by decide +kernel
theorem dX10_fall_11 : decode cX10_fall 11 = .ok (.getfield 47, 3) := by decide +kernel
theorem dX10_fall_14 : decode cX10_fall 14 = .ok (.aload_n 0, 1) := by decide +kernel
theorem dX10_fall_15 : decode cX10_fall 15 = .ok (.getfield 10, 3) := by decide +kernel
theorem dX10_fall_18 : decode cX10_fall 18 = .ok (.aload_n 0, 1) := by decide +kernel
theorem dX10_fall_19 : decode cX10_fall 19 = .ok (.getfield 40, 3) := by decide +kernel
theorem dX10_fall_22 : decode cX10_fall 22 = .ok (.iconst (-1), 1) := by decide +kernel
theorem dX10_fall_23 : decode cX10_fall 23 = .ok (.invokevirtual 171, 3) := by decide +kernel
theorem dX10_fall_26 : decode cX10_fall 26 = .ok (.putfield 71, 3) := by decide +kernel
theorem dX10_fall_29 : decode cX10_fall 29 = .ok (.aload_n 0, 1) := by decide +kernel
theorem dX10_fall_30 : decode cX10_fall 30 = .ok (.getfield 71, 3) := by decide +kernel
theorem dX10_fall_33 : decode cX10_fall 33 = .ok (.ireturn, 1) := by decide +kernel
theorem dX10_weighs_0 : decode cX10_weighs 0 = .ok (.aload_n 0, 1) := by decide +kernel
theorem dX10_weighs_1 : decode cX10_weighs 1 = .ok (.iload_n 1, 1) := by decide +kernel
theorem dX10_weighs_2 : decode cX10_weighs 2 = .ok (.invokevirtual 175, 3) := by decide +kernel
theorem dX10_weighs_5 : decode cX10_weighs 5 = .ok (.ifCond .eq 11, 3) := by decide +kernel
theorem dX10_weighs_8 : decode cX10_weighs 8 = .ok (.aload_n 0, 1) := by decide +kernel
theorem dX10_weighs_9 : decode cX10_weighs 9 = .ok (.iload_n 2, 1) := by decide +kernel
theorem dX10_weighs_10 : decode cX10_weighs 10 = .ok (.invokevirtual 122, 3) := by decide +kernel
theorem dX10_weighs_13 : decode cX10_weighs 13 = .ok (.ifCond .ne 8, 3) := by decide +kernel
theorem dX10_weighs_16 : decode cX10_weighs 16 = .ok (.aload_n 0, 1) := by decide +kernel
theorem dX10_weighs_17 : decode cX10_weighs 17 = .ok (.invokevirtual 81, 3) := by decide +kernel
theorem dX10_weighs_20 : decode cX10_weighs 20 = .ok (.ireturn, 1) := by decide +kernel
theorem dX10_weighs_21 : decode cX10_weighs 21 = .ok (.aload_n 0, 1) := by decide +kernel
theorem dX10_weighs_22 : decode cX10_weighs 22 = .ok (.getfield 47, 3) := by decide +kernel
theorem dX10_weighs_25 : decode cX10_weighs 25 = .ok (.aload_n 0, 1) := by decide +kernel
theorem dX10_weighs_26 : decode cX10_weighs 26 = .ok (.getfield 10, 3) := by decide +kernel
theorem dX10_weighs_29 : decode cX10_weighs 29 = .ok (.getfield 132, 3) := by decide +kernel
theorem dX10_weighs_32 : decode cX10_weighs 32 = .ok (.iload_n 2, 1) := by decide +kernel
theorem dX10_weighs_33 : decode cX10_weighs 33 = .ok (.aaload, 1) := by decide +kernel
theorem dX10_weighs_34 : decode cX10_weighs 34 = .ok (.aload_n 0, 1) := by decide +kernel
theorem dX10_weighs_35 : decode cX10_weighs 35 = .ok (.getfield 67, 3) := by decide +kernel
theorem dX10_weighs_38 : decode cX10_weighs 38 = .ok (.invokevirtual 178, 3) := by decide +kernel
theorem dX10_weighs_41 : decode cX10_weighs 41 = .ok (.ireturn, 1) := by decide +kernel
theorem dX10_weight_0 : decode cX10_weight 0 = .ok (.aload_n 0, 1) := by decide +kernel
theorem dX10_weight_1 : decode cX10_weight 1 = .ok (.iload_n 1, 1) := by decide +kernel
theorem dX10_weight_2 : decode cX10_weight 2 = .ok (.invokevirtual 175, 3) := by decide +kernel
theorem dX10_weight_5 : decode cX10_weight 5 = .ok (.ifCond .ne 8, 3) := by decide +kernel
theorem dX10_weight_8 : decode cX10_weight 8 = .ok (.aload_n 0, 1) := by decide +kernel
theorem dX10_weight_9 : decode cX10_weight 9 = .ok (.invokevirtual 81, 3) := by decide +kernel
theorem dX10_weight_12 : decode cX10_weight 12 = .ok (.ireturn, 1) := by decide +kernel
theorem dX10_weight_13 : decode cX10_weight 13 = .ok (.aload_n 0, 1) := by decide +kernel
theorem dX10_weight_14 : decode cX10_weight 14 = .ok (.getfield 47, 3) := by decide +kernel
theorem dX10_weight_17 : decode cX10_weight 17 = .ok (.aload_n 0, 1) := by decide +kernel
theorem dX10_weight_18 : decode cX10_weight 18 = .ok (.getfield 10, 3) := by decide +kernel
theorem dX10_weight_21 : decode cX10_weight 21 = .ok (.getfield 75, 3) := by decide +kernel
theorem dX10_weight_24 : decode cX10_weight 24 = .ok (.aload_n 0, 1) := by decide +kernel
theorem dX10_weight_25 : decode cX10_weight 25 = .ok (.getfield 67, 3) := by decide +kernel
theorem dX10_weight_28 : decode cX10_weight 28 = .ok (.invokevirtual 182, 3) := by decide +kernel
theorem dX10_weight_31 : decode cX10_weight 31 = .ok (.ireturn, 1) := by decide +kernel
theorem dX10_calls_0 : decode cX10_calls 0 = .ok (.iload_n 1, 1) := by decide +kernel
theorem dX10_calls_1 : decode cX10_calls 1 = .ok (.ifCond .lt 8, 3) := by decide +kernel
theorem dX10_calls_4 : decode cX10_calls 4 = .ok (.iload_n 1, 1) := by decide +kernel
theorem dX10_calls_5 : decode cX10_calls 5 = .ok (.iconst 2, 1) := by decide +kernel
theorem dX10_calls_6 : decode cX10_calls 6 = .ok (.if_icmp .le 8, 3) := by decide +kernel
theorem dX10_calls_9 : decode cX10_calls 9 = .ok (.aload_n 0, 1) := by decide +kernel
theorem dX10_calls_10 : decode cX10_calls 10 = .ok (.invokevirtual 81, 3) := by decide +kernel
theorem dX10_calls_13 : decode cX10_calls 13 = .ok (.ireturn, 1) := by decide +kernel
theorem dX10_calls_14 : decode cX10_calls 14 = .ok (.aload_n 0, 1) := by decide +kernel
theorem dX10_calls_15 : decode cX10_calls 15 = .ok (.invokevirtual 150, 3) := by decide +kernel
theorem dX10_calls_18 : decode cX10_calls 18 = .ok (.iload_n 1, 1) := by decide +kernel
theorem dX10_calls_19 : decode cX10_calls 19 = .ok (.ifCond .ne 11, 3) := by decide +kernel
theorem dX10_calls_22 : decode cX10_calls 22 = .ok (.aload_n 0, 1) := by decide +kernel
theorem dX10_calls_23 : decode cX10_calls 23 = .ok (.getfield 40, 3) := by decide +kernel
theorem dX10_calls_26 : decode cX10_calls 26 = .ok (.getfield 186, 3) := by decide +kernel
theorem dX10_calls_29 : decode cX10_calls 29 = .ok (.ireturn, 1) := by decide +kernel
theorem dX10_calls_30 : decode cX10_calls 30 = .ok (.iload_n 1, 1) := by decide +kernel
theorem dX10_calls_31 : decode cX10_calls 31 = .ok (.iconst 1, 1) := by decide +kernel
theorem dX10_calls_32 : decode cX10_calls 32 = .ok (.if_icmp .ne 11, 3) := by decide +kernel
theorem dX10_calls_35 : decode cX10_calls 35 = .ok (.aload_n 0, 1) := by decide +kernel
theorem dX10_calls_36 : decode cX10_calls 36 = .ok (.getfield 40, 3) := by decide +kernel
theorem dX10_calls_39 : decode cX10_calls 39 = .ok (.getfield 187, 3) := by decide +kernel
theorem dX10_calls_42 : decode cX10_calls 42 = .ok (.ireturn, 1) := by decide +kernel
theorem dX10_calls_43 : decode cX10_calls 43 = .ok (.aload_n 0, 1) := by decide +kernel
theorem dX10_calls_44 : decode cX10_calls 44 = .ok (.invokevirtual 190, 3) := by decide +kernel
theorem dX10_calls_47 : decode cX10_calls 47 = .ok (.aload_n 0, 1) := by decide +kernel
theorem dX10_calls_48 : decode cX10_calls 48 = .ok (.getfield 40, 3) := by decide +kernel
theorem dX10_calls_51 : decode cX10_calls 51 = .ok (.getfield 193, 3) := by decide +kernel
theorem dX10_calls_54 : decode cX10_calls 54 = .ok (.ifCond .eq 7, 3) := by decide +kernel
theorem dX10_calls_57 : decode cX10_calls 57 = .ok (.iconst 1, 1) := by decide +kernel
theorem dX10_calls_58 : decode cX10_calls 58 = .ok (.goto 4, 3) := by decide +kernel
theorem dX10_calls_61 : decode cX10_calls 61 = .ok (.iconst 0, 1) := by decide +kernel
theorem dX10_calls_62 : decode cX10_calls 62 = .ok (.ireturn, 1) := by decide +kernel
theorem dX10_call_0 : decode cX10_call 0 = .ok (.aload_n 0, 1) := by decide +kernel
theorem dX10_call_1 : decode cX10_call 1 = .ok (.invokevirtual 150, 3) := by decide +kernel
theorem dX10_call_4 : decode cX10_call 4 = .ok (.aload_n 0, 1) := by decide +kernel
theorem dX10_call_5 : decode cX10_call 5 = .ok (.getfield 40, 3) := by decide +kernel
theorem dX10_call_8 : decode cX10_call 8 = .ok (.iload_n 1, 1) := by decide +kernel
theorem dX10_call_9 : decode cX10_call 9 = .ok (.invokevirtual 197, 3) := by decide +kernel
theorem dX10_call_12 : decode cX10_call 12 = .ok (.ifCond .eq 12, 3) := by decide +kernel
theorem dX10_call_15 : decode cX10_call 15 = .ok (.iload_n 2, 1) := by decide +kernel
theorem dX10_call_16 : decode cX10_call 16 = .ok (.ifCond .lt 8, 3) := by decide +kernel
theorem dX10_call_19 : decode cX10_call 19 = .ok (.iload_n 2, 1) := by decide +kernel
theorem dX10_call_20 : decode cX10_call 20 = .ok (.iconst 3, 1) := by decide +kernel
theorem dX10_call_21 : decode cX10_call 21 = .ok (.if_icmp .le 8, 3) := by decide +kernel
theorem dX10_call_24 : decode cX10_call 24 = .ok (.aload_n 0, 1) := by decide +kernel
theorem dX10_call_25 : decode cX10_call 25 = .ok (.invokevirtual 81, 3) := by decide +kernel
theorem dX10_call_28 : decode cX10_call 28 = .ok (.ireturn, 1) := by decide +kernel
theorem dX10_call_29 : decode cX10_call 29 = .ok (.iload_n 2, 1) := by decide +kernel
theorem dX10_call_30 : decode cX10_call 30 = .ok (.tableswitch 59 0 2 #[26, 36, 49], 26) := by decide +kernel
theorem dX10_call_56 : decode cX10_call 56 = .ok (.aload_n 0, 1) := by decide +kernel
theorem dX10_call_57 : decode cX10_call 57 = .ok (.getfield 40, 3) := by decide +kernel
theorem dX10_call_60 : decode cX10_call 60 = .ok (.getfield 200, 3) := by decide +kernel
theorem dX10_call_63 : decode cX10_call 63 = .ok (.iload_n 1, 1) := by decide +kernel
theorem dX10_call_64 : decode cX10_call 64 = .ok (.iaload, 1) := by decide +kernel
theorem dX10_call_65 : decode cX10_call 65 = .ok (.ireturn, 1) := by decide +kernel
theorem dX10_call_66 : decode cX10_call 66 = .ok (.aload_n 0, 1) := by decide +kernel
theorem dX10_call_67 : decode cX10_call 67 = .ok (.getfield 40, 3) := by decide +kernel
theorem dX10_call_70 : decode cX10_call 70 = .ok (.aload_n 0, 1) := by decide +kernel
theorem dX10_call_71 : decode cX10_call 71 = .ok (.getfield 10, 3) := by decide +kernel
theorem dX10_call_74 : decode cX10_call 74 = .ok (.iload_n 1, 1) := by decide +kernel
theorem dX10_call_75 : decode cX10_call 75 = .ok (.invokevirtual 203, 3) := by decide +kernel
theorem dX10_call_78 : decode cX10_call 78 = .ok (.ireturn, 1) := by decide +kernel
theorem dX10_call_79 : decode cX10_call 79 = .ok (.aload_n 0, 1) := by decide +kernel
theorem dX10_call_80 : decode cX10_call 80 = .ok (.getfield 40, 3) := by decide +kernel
theorem dX10_call_83 : decode cX10_call 83 = .ok (.getfield 207, 3) := by decide +kernel
theorem dX10_call_86 : decode cX10_call 86 = .ok (.iload_n 1, 1) := by decide +kernel
theorem dX10_call_87 : decode cX10_call 87 = .ok (.iaload, 1) := by decide +kernel
theorem dX10_call_88 : decode cX10_call 88 = .ok (.ireturn, 1) := by decide +kernel
theorem dX10_call_89 : decode cX10_call 89 = .ok (.aload_n 0, 1) := by decide +kernel
theorem dX10_call_90 : decode cX10_call 90 = .ok (.getfield 40, 3) := by decide +kernel
theorem dX10_call_93 : decode cX10_call 93 = .ok (.getfield 210, 3) := by decide +kernel
theorem dX10_call_96 : decode cX10_call 96 = .ok (.iload_n 1, 1) := by decide +kernel
theorem dX10_call_97 : decode cX10_call 97 = .ok (.laload, 1) := by decide +kernel
theorem dX10_call_98 : decode cX10_call 98 = .ok (.invokestatic 157, 3) := by decide +kernel
theorem dX10_call_101 : decode cX10_call 101 = .ok (.ireturn, 1) := by decide +kernel
theorem dX10_follows_0 : decode cX10_follows 0 = .ok (.aload_n 0, 1) := by decide +kernel
theorem dX10_follows_1 : decode cX10_follows 1 = .ok (.invokevirtual 150, 3) := by decide +kernel
theorem dX10_follows_4 : decode cX10_follows 4 = .ok (.aload_n 0, 1) := by decide +kernel
theorem dX10_follows_5 : decode cX10_follows 5 = .ok (.getfield 40, 3) := by decide +kernel
theorem dX10_follows_8 : decode cX10_follows 8 = .ok (.iload_n 1, 1) := by decide +kernel
theorem dX10_follows_9 : decode cX10_follows 9 = .ok (.invokevirtual 197, 3) := by decide +kernel
theorem dX10_follows_12 : decode cX10_follows 12 = .ok (.ifCond .eq 14, 3) := by decide +kernel
theorem dX10_follows_15 : decode cX10_follows 15 = .ok (.aload_n 0, 1) := by decide +kernel
theorem dX10_follows_16 : decode cX10_follows 16 = .ok (.getfield 40, 3) := by decide +kernel
theorem dX10_follows_19 : decode cX10_follows 19 = .ok (.iload_n 2, 1) := by decide +kernel
theorem dX10_follows_20 : decode cX10_follows 20 = .ok (.invokevirtual 197, 3) := by decide +kernel
theorem dX10_follows_23 : decode cX10_follows 23 = .ok (.ifCond .ne 8, 3) := by decide +kernel
theorem dX10_follows_26 : decode cX10_follows 26 = .ok (.aload_n 0, 1) := by decide +kernel
theorem dX10_follows_27 : decode cX10_follows 27 = .ok (.invokevirtual 81, 3) := by decide +kernel
theorem dX10_follows_30 : decode cX10_follows 30 = .ok (.ireturn, 1) := by decide +kernel
theorem dX10_follows_31 : decode cX10_follows 31 = .ok (.aload_n 0, 1) := by decide +kernel
theorem dX10_follows_32 : decode cX10_follows 32 = .ok (.getfield 40, 3) := by decide +kernel
theorem dX10_follows_35 : decode cX10_follows 35 = .ok (.getfield 210, 3) := by decide +kernel
theorem dX10_follows_38 : decode cX10_follows 38 = .ok (.iload_n 1, 1) := by decide +kernel
theorem dX10_follows_39 : decode cX10_follows 39 = .ok (.laload, 1) := by decide +kernel
theorem dX10_follows_40 : decode cX10_follows 40 = .ok (.iload_n 2, 1) := by decide +kernel
theorem dX10_follows_41 : decode cX10_follows 41 = .ok (.invokestatic 213, 3) := by decide +kernel
theorem dX10_follows_44 : decode cX10_follows 44 = .ok (.ifCond .eq 7, 3) := by decide +kernel
theorem dX10_follows_47 : decode cX10_follows 47 = .ok (.iconst 1, 1) := by decide +kernel
theorem dX10_follows_48 : decode cX10_follows 48 = .ok (.goto 4, 3) := by decide +kernel
theorem dX10_follows_51 : decode cX10_follows 51 = .ok (.iconst 0, 1) := by decide +kernel
theorem dX10_follows_52 : decode cX10_follows 52 = .ok (.ireturn, 1) := by decide +kernel
theorem dX10_lighter_0 : decode cX10_lighter 0 = .ok (.aload_n 0, 1) := by decide +kernel
theorem dX10_lighter_1 : decode cX10_lighter 1 = .ok (.invokevirtual 150, 3) := by decide +kernel
theorem dX10_lighter_4 : decode cX10_lighter 4 = .ok (.iload_n 1, 1) := by decide +kernel
theorem dX10_lighter_5 : decode cX10_lighter 5 = .ok (.ifCond .lt 14, 3) := by decide +kernel
theorem dX10_lighter_8 : decode cX10_lighter 8 = .ok (.iload_n 1, 1) := by decide +kernel
theorem dX10_lighter_9 : decode cX10_lighter 9 = .ok (.aload_n 0, 1) := by decide +kernel
theorem dX10_lighter_10 : decode cX10_lighter 10 = .ok (.getfield 40, 3) := by decide +kernel
theorem dX10_lighter_13 : decode cX10_lighter 13 = .ok (.getfield 187, 3) := by decide +kernel
theorem dX10_lighter_16 : decode cX10_lighter 16 = .ok (.if_icmp .lt 8, 3) := by decide +kernel
theorem dX10_lighter_19 : decode cX10_lighter 19 = .ok (.aload_n 0, 1) := by decide +kernel
theorem dX10_lighter_20 : decode cX10_lighter 20 = .ok (.invokevirtual 81, 3) := by decide +kernel
theorem dX10_lighter_23 : decode cX10_lighter 23 = .ok (.ireturn, 1) := by decide +kernel
theorem dX10_lighter_24 : decode cX10_lighter 24 = .ok (.aload_n 0, 1) := by decide +kernel
theorem dX10_lighter_25 : decode cX10_lighter 25 = .ok (.invokevirtual 190, 3) := by decide +kernel
theorem dX10_lighter_28 : decode cX10_lighter 28 = .ok (.aload_n 0, 1) := by decide +kernel
theorem dX10_lighter_29 : decode cX10_lighter 29 = .ok (.getfield 40, 3) := by decide +kernel
theorem dX10_lighter_32 : decode cX10_lighter 32 = .ok (.getfield 217, 3) := by decide +kernel
theorem dX10_lighter_35 : decode cX10_lighter 35 = .ok (.iload_n 1, 1) := by decide +kernel
theorem dX10_lighter_36 : decode cX10_lighter 36 = .ok (.iaload, 1) := by decide +kernel
theorem dX10_lighter_37 : decode cX10_lighter 37 = .ok (.ireturn, 1) := by decide +kernel
theorem dX10_turns_0 : decode cX10_turns 0 = .ok (.iload_n 1, 1) := by decide +kernel
theorem dX10_turns_1 : decode cX10_turns 1 = .ok (.ifCond .lt 9, 3) := by decide +kernel
theorem dX10_turns_4 : decode cX10_turns 4 = .ok (.iload_n 1, 1) := by decide +kernel
theorem dX10_turns_5 : decode cX10_turns 5 = .ok (.bipush 30, 2) := by decide +kernel
theorem dX10_turns_7 : decode cX10_turns 7 = .ok (.if_icmp .le 8, 3) := by decide +kernel
theorem dX10_turns_10 : decode cX10_turns 10 = .ok (.aload_n 0, 1) := by decide +kernel
theorem dX10_turns_11 : decode cX10_turns 11 = .ok (.invokevirtual 81, 3) := by decide +kernel
theorem dX10_turns_14 : decode cX10_turns 14 = .ok (.ireturn, 1) := by decide +kernel
theorem dX10_turns_15 : decode cX10_turns 15 = .ok (.aload_n 0, 1) := by decide +kernel
theorem dX10_turns_16 : decode cX10_turns 16 = .ok (.getfield 19, 3) := by decide +kernel
theorem dX10_turns_19 : decode cX10_turns 19 = .ok (.aload_n 0, 1) := by decide +kernel
theorem dX10_turns_20 : decode cX10_turns 20 = .ok (.getfield 10, 3) := by decide +kernel
theorem dX10_turns_23 : decode cX10_turns 23 = .ok (.invokevirtual 101, 3) := by decide +kernel
theorem dX10_turns_26 : decode cX10_turns 26 = .ok (.aload_n 0, 1) := by decide +kernel
theorem dX10_turns_27 : decode cX10_turns 27 = .ok (.getfield 54, 3) := by decide +kernel
theorem dX10_turns_30 : decode cX10_turns 30 = .ok (.aload_n 0, 1) := by decide +kernel
theorem dX10_turns_31 : decode cX10_turns 31 = .ok (.getfield 10, 3) := by decide +kernel
theorem dX10_turns_34 : decode cX10_turns 34 = .ok (.aload_n 0, 1) := by decide +kernel
theorem dX10_turns_35 : decode cX10_turns 35 = .ok (.getfield 10, 3) := by decide +kernel
theorem dX10_turns_38 : decode cX10_turns 38 = .ok (.getfield 75, 3) := by decide +kernel
theorem dX10_turns_41 : decode cX10_turns 41 = .ok (.iload_n 1, 1) := by decide +kernel
theorem dX10_turns_42 : decode cX10_turns 42 = .ok (.invokevirtual 220, 3) := by decide +kernel
theorem dX10_turns_45 : decode cX10_turns 45 = .ok (.ireturn, 1) := by decide +kernel
theorem dX10_settles_0 : decode cX10_settles 0 = .ok (.aload_n 0, 1) := by decide +kernel
theorem dX10_settles_1 : decode cX10_settles 1 = .ok (.getfield 63, 3) := by decide +kernel
theorem dX10_settles_4 : decode cX10_settles 4 = .ok (.aload_n 0, 1) := by decide +kernel
theorem dX10_settles_5 : decode cX10_settles 5 = .ok (.getfield 10, 3) := by decide +kernel
theorem dX10_settles_8 : decode cX10_settles 8 = .ok (.getfield 75, 3) := by decide +kernel
theorem dX10_settles_11 : decode cX10_settles 11 = .ok (.invokevirtual 115, 3) := by decide +kernel
theorem dX10_settles_14 : decode cX10_settles 14 = .ok (.aload_n 0, 1) := by decide +kernel
theorem dX10_settles_15 : decode cX10_settles 15 = .ok (.getfield 54, 3) := by decide +kernel
theorem dX10_settles_18 : decode cX10_settles 18 = .ok (.aload_n 0, 1) := by decide +kernel
theorem dX10_settles_19 : decode cX10_settles 19 = .ok (.getfield 10, 3) := by decide +kernel
theorem dX10_settles_22 : decode cX10_settles 22 = .ok (.aload_n 0, 1) := by decide +kernel
theorem dX10_settles_23 : decode cX10_settles 23 = .ok (.getfield 63, 3) := by decide +kernel
theorem dX10_settles_26 : decode cX10_settles 26 = .ok (.bipush 30, 2) := by decide +kernel
theorem dX10_settles_28 : decode cX10_settles 28 = .ok (.invokevirtual 220, 3) := by decide +kernel
theorem dX10_settles_31 : decode cX10_settles 31 = .ok (.istore_n 1, 1) := by decide +kernel
theorem dX10_settles_32 : decode cX10_settles 32 = .ok (.aload_n 0, 1) := by decide +kernel
theorem dX10_settles_33 : decode cX10_settles 33 = .ok (.getfield 54, 3) := by decide +kernel
theorem dX10_settles_36 : decode cX10_settles 36 = .ok (.aload_n 0, 1) := by decide +kernel
theorem dX10_settles_37 : decode cX10_settles 37 = .ok (.getfield 10, 3) := by decide +kernel
theorem dX10_settles_40 : decode cX10_settles 40 = .ok (.aload_n 0, 1) := by decide +kernel
theorem dX10_settles_41 : decode cX10_settles 41 = .ok (.getfield 63, 3) := by decide +kernel
theorem dX10_settles_44 : decode cX10_settles 44 = .ok (.invokevirtual 224, 3) := by decide +kernel
theorem dX10_settles_47 : decode cX10_settles 47 = .ok (.ifCond .eq 7, 3) := by decide +kernel
theorem dX10_settles_50 : decode cX10_settles 50 = .ok (.iconst (-1), 1) := by decide +kernel
theorem dX10_settles_51 : decode cX10_settles 51 = .ok (.goto 4, 3) := by decide +kernel
theorem dX10_settles_54 : decode cX10_settles 54 = .ok (.iload_n 1, 1) := by decide +kernel
theorem dX10_settles_55 : decode cX10_settles 55 = .ok (.ireturn, 1) := by decide +kernel
theorem dX10_next_0 : decode cX10_next 0 = .ok (.iload_n 1, 1) := by decide +kernel
theorem dX10_next_1 : decode cX10_next 1 = .ok (.ifCond .lt 8, 3) := by decide +kernel
theorem dX10_next_4 : decode cX10_next 4 = .ok (.iload_n 1, 1) := by decide +kernel
theorem dX10_next_5 : decode cX10_next 5 = .ok (.iconst 1, 1) := by decide +kernel
theorem dX10_next_6 : decode cX10_next 6 = .ok (.if_icmp .le 8, 3) := by decide +kernel
theorem dX10_next_9 : decode cX10_next 9 = .ok (.aload_n 0, 1) := by decide +kernel
theorem dX10_next_10 : decode cX10_next 10 = .ok (.invokevirtual 81, 3) := by decide +kernel
theorem dX10_next_13 : decode cX10_next 13 = .ok (.ireturn, 1) := by decide +kernel
theorem dX10_next_14 : decode cX10_next 14 = .ok (.aload_n 0, 1) := by decide +kernel
theorem dX10_next_15 : decode cX10_next 15 = .ok (.getfield 54, 3) := by decide +kernel
theorem dX10_next_18 : decode cX10_next 18 = .ok (.aload_n 0, 1) := by decide +kernel
theorem dX10_next_19 : decode cX10_next 19 = .ok (.getfield 10, 3) := by decide +kernel
theorem dX10_next_22 : decode cX10_next 22 = .ok (.aload_n 0, 1) := by decide +kernel
theorem dX10_next_23 : decode cX10_next 23 = .ok (.getfield 10, 3) := by decide +kernel
theorem dX10_next_26 : decode cX10_next 26 = .ok (.getfield 75, 3) := by decide +kernel
theorem dX10_next_29 : decode cX10_next 29 = .ok (.invokevirtual 224, 3) := by decide +kernel
theorem dX10_next_32 : decode cX10_next 32 = .ok (.ifCond .ne 5, 3) := by decide +kernel
theorem dX10_next_35 : decode cX10_next 35 = .ok (.iconst (-1), 1) := by decide +kernel
theorem dX10_next_36 : decode cX10_next 36 = .ok (.ireturn, 1) := by decide +kernel
theorem dX10_next_37 : decode cX10_next 37 = .ok (.iload_n 1, 1) := by decide +kernel
theorem dX10_next_38 : decode cX10_next 38 = .ok (.ifCond .ne 13, 3) := by decide +kernel
theorem dX10_next_41 : decode cX10_next 41 = .ok (.aload_n 0, 1) := by decide +kernel
theorem dX10_next_42 : decode cX10_next 42 = .ok (.getfield 54, 3) := by decide +kernel
theorem dX10_next_45 : decode cX10_next 45 = .ok (.getfield 228, 3) := by decide +kernel
theorem dX10_next_48 : decode cX10_next 48 = .ok (.goto 10, 3) := by decide +kernel
theorem dX10_next_51 : decode cX10_next 51 = .ok (.aload_n 0, 1) := by decide +kernel
theorem dX10_next_52 : decode cX10_next 52 = .ok (.getfield 54, 3) := by decide +kernel
theorem dX10_next_55 : decode cX10_next 55 = .ok (.getfield 231, 3) := by decide +kernel
theorem dX10_next_58 : decode cX10_next 58 = .ok (.ireturn, 1) := by decide +kernel
theorem dX10_letter_0 : decode cX10_letter 0 = .ok (.iload_n 1, 1) := by decide +kernel
theorem dX10_letter_1 : decode cX10_letter 1 = .ok (.iconst (-1), 1) := by decide +kernel
theorem dX10_letter_2 : decode cX10_letter 2 = .ok (.if_icmp .ge 8, 3) := by decide +kernel
theorem dX10_letter_5 : decode cX10_letter 5 = .ok (.aload_n 0, 1) := by decide +kernel
theorem dX10_letter_6 : decode cX10_letter 6 = .ok (.invokevirtual 81, 3) := by decide +kernel
theorem dX10_letter_9 : decode cX10_letter 9 = .ok (.ireturn, 1) := by decide +kernel
theorem dX10_letter_10 : decode cX10_letter 10 = .ok (.iload_n 1, 1) := by decide +kernel
theorem dX10_letter_11 : decode cX10_letter 11 = .ok (.iconst (-1), 1) := by decide +kernel
theorem dX10_letter_12 : decode cX10_letter 12 = .ok (.if_icmp .ne 14, 3) := by decide +kernel
theorem dX10_letter_15 : decode cX10_letter 15 = .ok (.aload_n 0, 1) := by decide +kernel
theorem dX10_letter_16 : decode cX10_letter 16 = .ok (.getfield 10, 3) := by decide +kernel
theorem dX10_letter_19 : decode cX10_letter 19 = .ok (.getfield 75, 3) := by decide +kernel
theorem dX10_letter_22 : decode cX10_letter 22 = .ok (.getfield 119, 3) := by decide +kernel
theorem dX10_letter_25 : decode cX10_letter 25 = .ok (.ireturn, 1) := by decide +kernel
theorem dX10_letter_26 : decode cX10_letter 26 = .ok (.iload_n 1, 1) := by decide +kernel
theorem dX10_letter_27 : decode cX10_letter 27 = .ok (.aload_n 0, 1) := by decide +kernel
theorem dX10_letter_28 : decode cX10_letter 28 = .ok (.getfield 10, 3) := by decide +kernel
theorem dX10_letter_31 : decode cX10_letter 31 = .ok (.getfield 75, 3) := by decide +kernel
theorem dX10_letter_34 : decode cX10_letter 34 = .ok (.getfield 119, 3) := by decide +kernel
theorem dX10_letter_37 : decode cX10_letter 37 = .ok (.if_icmp .ge 18, 3) := by decide +kernel
theorem dX10_letter_40 : decode cX10_letter 40 = .ok (.aload_n 0, 1) := by decide +kernel
theorem dX10_letter_41 : decode cX10_letter 41 = .ok (.getfield 10, 3) := by decide +kernel
theorem dX10_letter_44 : decode cX10_letter 44 = .ok (.getfield 75, 3) := by decide +kernel
theorem dX10_letter_47 : decode cX10_letter 47 = .ok (.getfield 144, 3) := by decide +kernel
theorem dX10_letter_50 : decode cX10_letter 50 = .ok (.iload_n 1, 1) := by decide +kernel
theorem dX10_letter_51 : decode cX10_letter 51 = .ok (.iaload, 1) := by decide +kernel
theorem dX10_letter_52 : decode cX10_letter 52 = .ok (.goto 5, 3) := by decide +kernel
theorem dX10_letter_55 : decode cX10_letter 55 = .ok (.bipush (-5), 2) := by decide +kernel
theorem dX10_letter_57 : decode cX10_letter 57 = .ok (.ireturn, 1) := by decide +kernel
theorem dX10_back_0 : decode cX10_back 0 = .ok (.aload_n 0, 1) := by decide +kernel
theorem dX10_back_1 : decode cX10_back 1 = .ok (.getfield 19, 3) := by decide +kernel
theorem dX10_back_4 : decode cX10_back 4 = .ok (.getfield 232, 3) := by decide +kernel
theorem dX10_back_7 : decode cX10_back 7 = .ok (.ifCond .ne 16, 3) := by decide +kernel
theorem dX10_back_10 : decode cX10_back 10 = .ok (.aload_n 0, 1) := by decide +kernel
theorem dX10_back_11 : decode cX10_back 11 = .ok (.dup, 1) := by decide +kernel
theorem dX10_back_12 : decode cX10_back 12 = .ok (.getfield 233, 3) := by decide +kernel
theorem dX10_back_15 : decode cX10_back 15 = .ok (.iconst 1, 1) := by decide +kernel
theorem dX10_back_16 : decode cX10_back 16 = .ok (.iadd, 1) := by decide +kernel
theorem dX10_back_17 : decode cX10_back 17 = .ok (.putfield 233, 3) := by decide +kernel
theorem dX10_back_20 : decode cX10_back 20 = .ok (.bipush (-3), 2) := by decide +kernel
theorem dX10_back_22 : decode cX10_back 22 = .ok (.ireturn, 1) := by decide +kernel
theorem dX10_back_23 : decode cX10_back 23 = .ok (.aload_n 0, 1) := by decide +kernel
theorem dX10_back_24 : decode cX10_back 24 = .ok (.getfield 19, 3) := by decide +kernel
theorem dX10_back_27 : decode cX10_back 27 = .ok (.aload_n 0, 1) := by decide +kernel
theorem dX10_back_28 : decode cX10_back 28 = .ok (.getfield 10, 3) := by decide +kernel
theorem dX10_back_31 : decode cX10_back 31 = .ok (.invokevirtual 236, 3) := by decide +kernel
theorem dX10_back_34 : decode cX10_back 34 = .ok (.aload_n 0, 1) := by decide +kernel
theorem dX10_back_35 : decode cX10_back 35 = .ok (.invokevirtual 108, 3) := by decide +kernel
theorem dX10_back_38 : decode cX10_back 38 = .ok (.aload_n 0, 1) := by decide +kernel
theorem dX10_back_39 : decode cX10_back 39 = .ok (.getfield 19, 3) := by decide +kernel
theorem dX10_back_42 : decode cX10_back 42 = .ok (.getfield 232, 3) := by decide +kernel
theorem dX10_back_45 : decode cX10_back 45 = .ok (.ireturn, 1) := by decide +kernel
theorem dX10_told_0 : decode cX10_told 0 = .ok (.iload_n 1, 1) := by decide +kernel
theorem dX10_told_1 : decode cX10_told 1 = .ok (.tableswitch 93 0 6 #[43, 48, 53, 58, 66, 74, 85], 43) := by decide +kernel
theorem dX10_told_44 : decode cX10_told 44 = .ok (.aload_n 0, 1) := by decide +kernel
theorem dX10_told_45 : decode cX10_told 45 = .ok (.getfield 239, 3) := by decide +kernel
theorem dX10_told_48 : decode cX10_told 48 = .ok (.ireturn, 1) := by decide +kernel
theorem dX10_told_49 : decode cX10_told 49 = .ok (.aload_n 0, 1) := by decide +kernel
theorem dX10_told_50 : decode cX10_told 50 = .ok (.getfield 233, 3) := by decide +kernel
theorem dX10_told_53 : decode cX10_told 53 = .ok (.ireturn, 1) := by decide +kernel
theorem dX10_told_54 : decode cX10_told 54 = .ok (.aload_n 0, 1) := by decide +kernel
theorem dX10_told_55 : decode cX10_told 55 = .ok (.getfield 88, 3) := by decide +kernel
theorem dX10_told_58 : decode cX10_told 58 = .ok (.ireturn, 1) := by decide +kernel
theorem dX10_told_59 : decode cX10_told 59 = .ok (.aload_n 0, 1) := by decide +kernel
theorem dX10_told_60 : decode cX10_told 60 = .ok (.getfield 26, 3) := by decide +kernel
theorem dX10_told_63 : decode cX10_told 63 = .ok (.getfield 85, 3) := by decide +kernel
theorem dX10_told_66 : decode cX10_told 66 = .ok (.ireturn, 1) := by decide +kernel
theorem dX10_told_67 : decode cX10_told 67 = .ok (.aload_n 0, 1) := by decide +kernel
theorem dX10_told_68 : decode cX10_told 68 = .ok (.getfield 10, 3) := by decide +kernel
theorem dX10_told_71 : decode cX10_told 71 = .ok (.getfield 105, 3) := by decide +kernel
theorem dX10_told_74 : decode cX10_told 74 = .ok (.ireturn, 1) := by decide +kernel
theorem dX10_told_75 : decode cX10_told 75 = .ok (.aload_n 0, 1) := by decide +kernel
theorem dX10_told_76 : decode cX10_told 76 = .ok (.getfield 10, 3) := by decide +kernel
theorem dX10_told_79 : decode cX10_told 79 = .ok (.getfield 75, 3) := by decide +kernel
theorem dX10_told_82 : decode cX10_told 82 = .ok (.getfield 119, 3) := by decide +kernel
theorem dX10_told_85 : decode cX10_told 85 = .ok (.ireturn, 1) := by decide +kernel
theorem dX10_told_86 : decode cX10_told 86 = .ok (.aload_n 0, 1) := by decide +kernel
theorem dX10_told_87 : decode cX10_told 87 = .ok (.getfield 19, 3) := by decide +kernel
theorem dX10_told_90 : decode cX10_told 90 = .ok (.getfield 232, 3) := by decide +kernel
theorem dX10_told_93 : decode cX10_told 93 = .ok (.ireturn, 1) := by decide +kernel
theorem dX10_told_94 : decode cX10_told 94 = .ok (.aload_n 0, 1) := by decide +kernel
theorem dX10_told_95 : decode cX10_told 95 = .ok (.invokevirtual 81, 3) := by decide +kernel
theorem dX10_told_98 : decode cX10_told 98 = .ok (.ireturn, 1) := by decide +kernel
theorem dX10_digest_0 : decode cX10_digest 0 = .ok (.ldc2_w 242, 3) := by decide +kernel
theorem dX10_digest_3 : decode cX10_digest 3 = .ok (.lstore_n 1, 1) := by decide +kernel
theorem dX10_digest_4 : decode cX10_digest 4 = .ok (.iconst 0, 1) := by decide +kernel
theorem dX10_digest_5 : decode cX10_digest 5 = .ok (.istore_n 3, 1) := by decide +kernel
theorem dX10_digest_6 : decode cX10_digest 6 = .ok (.iload_n 3, 1) := by decide +kernel
theorem dX10_digest_7 : decode cX10_digest 7 = .ok (.bipush 6, 2) := by decide +kernel
theorem dX10_digest_9 : decode cX10_digest 9 = .ok (.if_icmp .gt 22, 3) := by decide +kernel
theorem dX10_digest_12 : decode cX10_digest 12 = .ok (.ldc2_w 244, 3) := by decide +kernel
theorem dX10_digest_15 : decode cX10_digest 15 = .ok (.lload_n 1, 1) := by decide +kernel
theorem dX10_digest_16 : decode cX10_digest 16 = .ok (.lmul, 1) := by decide +kernel
theorem dX10_digest_17 : decode cX10_digest 17 = .ok (.aload_n 0, 1) := by decide +kernel
theorem dX10_digest_18 : decode cX10_digest 18 = .ok (.iload_n 3, 1) := by decide +kernel
theorem dX10_digest_19 : decode cX10_digest 19 = .ok (.invokevirtual 246, 3) := by decide +kernel
theorem dX10_digest_22 : decode cX10_digest 22 = .ok (.i2l, 1) := by decide +kernel
theorem dX10_digest_23 : decode cX10_digest 23 = .ok (.ladd, 1) := by decide +kernel
theorem dX10_digest_24 : decode cX10_digest 24 = .ok (.lstore_n 1, 1) := by decide +kernel
theorem dX10_digest_25 : decode cX10_digest 25 = .ok (.iinc 3 1, 3) := by decide +kernel
theorem dX10_digest_28 : decode cX10_digest 28 = .ok (.goto (-22), 3) := by decide +kernel
theorem dX10_digest_31 : decode cX10_digest 31 = .ok (.iconst 0, 1) := by decide +kernel
theorem dX10_digest_32 : decode cX10_digest 32 = .ok (.istore_n 3, 1) := by decide +kernel
theorem dX10_digest_33 : decode cX10_digest 33 = .ok (.iload_n 3, 1) := by decide +kernel
theorem dX10_digest_34 : decode cX10_digest 34 = .ok (.aload_n 0, 1) := by decide +kernel
theorem dX10_digest_35 : decode cX10_digest 35 = .ok (.getfield 10, 3) := by decide +kernel
theorem dX10_digest_38 : decode cX10_digest 38 = .ok (.getfield 105, 3) := by decide +kernel
theorem dX10_digest_41 : decode cX10_digest 41 = .ok (.if_icmp .ge 54, 3) := by decide +kernel
theorem dX10_digest_44 : decode cX10_digest 44 = .ok (.iconst 0, 1) := by decide +kernel
theorem dX10_digest_45 : decode cX10_digest 45 = .ok (.istore 4, 2) := by decide +kernel
theorem dX10_digest_47 : decode cX10_digest 47 = .ok (.iload 4, 2) := by decide +kernel
theorem dX10_digest_49 : decode cX10_digest 49 = .ok (.iconst 5, 1) := by decide +kernel
theorem dX10_digest_50 : decode cX10_digest 50 = .ok (.if_icmp .gt 24, 3) := by decide +kernel
theorem dX10_digest_53 : decode cX10_digest 53 = .ok (.ldc2_w 244, 3) := by decide +kernel
theorem dX10_digest_56 : decode cX10_digest 56 = .ok (.lload_n 1, 1) := by decide +kernel
theorem dX10_digest_57 : decode cX10_digest 57 = .ok (.lmul, 1) := by decide +kernel
theorem dX10_digest_58 : decode cX10_digest 58 = .ok (.aload_n 0, 1) := by decide +kernel
theorem dX10_digest_59 : decode cX10_digest 59 = .ok (.iload_n 3, 1) := by decide +kernel
theorem dX10_digest_60 : decode cX10_digest 60 = .ok (.iload 4, 2) := by decide +kernel
theorem dX10_digest_62 : decode cX10_digest 62 = .ok (.invokevirtual 250, 3) := by decide +kernel
theorem dX10_digest_65 : decode cX10_digest 65 = .ok (.i2l, 1) := by decide +kernel
theorem dX10_digest_66 : decode cX10_digest 66 = .ok (.ladd, 1) := by decide +kernel
theorem dX10_digest_67 : decode cX10_digest 67 = .ok (.lstore_n 1, 1) := by decide +kernel
theorem dX10_digest_68 : decode cX10_digest 68 = .ok (.iinc 4 1, 3) := by decide +kernel
theorem dX10_digest_71 : decode cX10_digest 71 = .ok (.goto (-24), 3) := by decide +kernel
theorem dX10_digest_74 : decode cX10_digest 74 = .ok (.ldc2_w 244, 3) := by decide +kernel
theorem dX10_digest_77 : decode cX10_digest 77 = .ok (.lload_n 1, 1) := by decide +kernel
theorem dX10_digest_78 : decode cX10_digest 78 = .ok (.lmul, 1) := by decide +kernel
theorem dX10_digest_79 : decode cX10_digest 79 = .ok (.aload_n 0, 1) := by decide +kernel
theorem dX10_digest_80 : decode cX10_digest 80 = .ok (.ldc 254, 2) := by decide +kernel
theorem dX10_digest_82 : decode cX10_digest 82 = .ok (.iload_n 3, 1) := by decide +kernel
theorem dX10_digest_83 : decode cX10_digest 83 = .ok (.invokevirtual 255, 3) := by decide +kernel
theorem dX10_digest_86 : decode cX10_digest 86 = .ok (.i2l, 1) := by decide +kernel
theorem dX10_digest_87 : decode cX10_digest 87 = .ok (.ladd, 1) := by decide +kernel
theorem dX10_digest_88 : decode cX10_digest 88 = .ok (.lstore_n 1, 1) := by decide +kernel
theorem dX10_digest_89 : decode cX10_digest 89 = .ok (.iinc 3 1, 3) := by decide +kernel
theorem dX10_digest_92 : decode cX10_digest 92 = .ok (.goto (-59), 3) := by decide +kernel
theorem dX10_digest_95 : decode cX10_digest 95 = .ok (.iconst 0, 1) := by decide +kernel
theorem dX10_digest_96 : decode cX10_digest 96 = .ok (.istore_n 3, 1) := by decide +kernel
theorem dX10_digest_97 : decode cX10_digest 97 = .ok (.iload_n 3, 1) := by decide +kernel
theorem dX10_digest_98 : decode cX10_digest 98 = .ok (.aload_n 0, 1) := by decide +kernel
theorem dX10_digest_99 : decode cX10_digest 99 = .ok (.getfield 10, 3) := by decide +kernel
theorem dX10_digest_102 : decode cX10_digest 102 = .ok (.getfield 75, 3) := by decide +kernel
theorem dX10_digest_105 : decode cX10_digest 105 = .ok (.getfield 119, 3) := by decide +kernel
theorem dX10_digest_108 : decode cX10_digest 108 = .ok (.if_icmp .ge 29, 3) := by decide +kernel
theorem dX10_digest_111 : decode cX10_digest 111 = .ok (.ldc2_w 244, 3) := by decide +kernel
theorem dX10_digest_114 : decode cX10_digest 114 = .ok (.lload_n 1, 1) := by decide +kernel
theorem dX10_digest_115 : decode cX10_digest 115 = .ok (.lmul, 1) := by decide +kernel
theorem dX10_digest_116 : decode cX10_digest 116 = .ok (.aload_n 0, 1) := by decide +kernel
theorem dX10_digest_117 : decode cX10_digest 117 = .ok (.getfield 10, 3) := by decide +kernel
theorem dX10_digest_120 : decode cX10_digest 120 = .ok (.getfield 75, 3) := by decide +kernel
theorem dX10_digest_123 : decode cX10_digest 123 = .ok (.getfield 144, 3) := by decide +kernel
theorem dX10_digest_126 : decode cX10_digest 126 = .ok (.iload_n 3, 1) := by decide +kernel
theorem dX10_digest_127 : decode cX10_digest 127 = .ok (.iaload, 1) := by decide +kernel
theorem dX10_digest_128 : decode cX10_digest 128 = .ok (.i2l, 1) := by decide +kernel
theorem dX10_digest_129 : decode cX10_digest 129 = .ok (.ladd, 1) := by decide +kernel
theorem dX10_digest_130 : decode cX10_digest 130 = .ok (.lstore_n 1, 1) := by decide +kernel
theorem dX10_digest_131 : decode cX10_digest 131 = .ok (.iinc 3 1, 3) := by decide +kernel
theorem dX10_digest_134 : decode cX10_digest 134 = .ok (.goto (-37), 3) := by decide +kernel
theorem dX10_digest_137 : decode cX10_digest 137 = .ok (.ldc2_w 244, 3) := by decide +kernel
theorem dX10_digest_140 : decode cX10_digest 140 = .ok (.lload_n 1, 1) := by decide +kernel
theorem dX10_digest_141 : decode cX10_digest 141 = .ok (.lmul, 1) := by decide +kernel
theorem dX10_digest_142 : decode cX10_digest 142 = .ok (.aload_n 0, 1) := by decide +kernel
theorem dX10_digest_143 : decode cX10_digest 143 = .ok (.invokevirtual 258, 3) := by decide +kernel
theorem dX10_digest_146 : decode cX10_digest 146 = .ok (.i2l, 1) := by decide +kernel
theorem dX10_digest_147 : decode cX10_digest 147 = .ok (.ladd, 1) := by decide +kernel
theorem dX10_digest_148 : decode cX10_digest 148 = .ok (.lstore_n 1, 1) := by decide +kernel
theorem dX10_digest_149 : decode cX10_digest 149 = .ok (.iconst 0, 1) := by decide +kernel
theorem dX10_digest_150 : decode cX10_digest 150 = .ok (.istore_n 3, 1) := by decide +kernel
theorem dX10_digest_151 : decode cX10_digest 151 = .ok (.iload_n 3, 1) := by decide +kernel
theorem dX10_digest_152 : decode cX10_digest 152 = .ok (.iconst 2, 1) := by decide +kernel
theorem dX10_digest_153 : decode cX10_digest 153 = .ok (.if_icmp .gt 22, 3) := by decide +kernel
theorem dX10_digest_156 : decode cX10_digest 156 = .ok (.ldc2_w 244, 3) := by decide +kernel
theorem dX10_digest_159 : decode cX10_digest 159 = .ok (.lload_n 1, 1) := by decide +kernel
theorem dX10_digest_160 : decode cX10_digest 160 = .ok (.lmul, 1) := by decide +kernel
theorem dX10_digest_161 : decode cX10_digest 161 = .ok (.aload_n 0, 1) := by decide +kernel
theorem dX10_digest_162 : decode cX10_digest 162 = .ok (.iload_n 3, 1) := by decide +kernel
theorem dX10_digest_163 : decode cX10_digest 163 = .ok (.invokevirtual 261, 3) := by decide +kernel
theorem dX10_digest_166 : decode cX10_digest 166 = .ok (.i2l, 1) := by decide +kernel
theorem dX10_digest_167 : decode cX10_digest 167 = .ok (.ladd, 1) := by decide +kernel
theorem dX10_digest_168 : decode cX10_digest 168 = .ok (.lstore_n 1, 1) := by decide +kernel
theorem dX10_digest_169 : decode cX10_digest 169 = .ok (.iinc 3 1, 3) := by decide +kernel
theorem dX10_digest_172 : decode cX10_digest 172 = .ok (.goto (-21), 3) := by decide +kernel
theorem dX10_digest_175 : decode cX10_digest 175 = .ok (.iconst 0, 1) := by decide +kernel
theorem dX10_digest_176 : decode cX10_digest 176 = .ok (.istore_n 3, 1) := by decide +kernel
theorem dX10_digest_177 : decode cX10_digest 177 = .ok (.iload_n 3, 1) := by decide +kernel
theorem dX10_digest_178 : decode cX10_digest 178 = .ok (.aload_n 0, 1) := by decide +kernel
theorem dX10_digest_179 : decode cX10_digest 179 = .ok (.getfield 40, 3) := by decide +kernel
theorem dX10_digest_182 : decode cX10_digest 182 = .ok (.getfield 186, 3) := by decide +kernel
theorem dX10_digest_185 : decode cX10_digest 185 = .ok (.if_icmp .ge 39, 3) := by decide +kernel
theorem dX10_digest_188 : decode cX10_digest 188 = .ok (.iconst 0, 1) := by decide +kernel
theorem dX10_digest_189 : decode cX10_digest 189 = .ok (.istore 4, 2) := by decide +kernel
theorem dX10_digest_191 : decode cX10_digest 191 = .ok (.iload 4, 2) := by decide +kernel
theorem dX10_digest_193 : decode cX10_digest 193 = .ok (.iconst 3, 1) := by decide +kernel
theorem dX10_digest_194 : decode cX10_digest 194 = .ok (.if_icmp .gt 24, 3) := by decide +kernel
theorem dX10_digest_197 : decode cX10_digest 197 = .ok (.ldc2_w 244, 3) := by decide +kernel
theorem dX10_digest_200 : decode cX10_digest 200 = .ok (.lload_n 1, 1) := by decide +kernel
theorem dX10_digest_201 : decode cX10_digest 201 = .ok (.lmul, 1) := by decide +kernel
theorem dX10_digest_202 : decode cX10_digest 202 = .ok (.aload_n 0, 1) := by decide +kernel
theorem dX10_digest_203 : decode cX10_digest 203 = .ok (.iload_n 3, 1) := by decide +kernel
theorem dX10_digest_204 : decode cX10_digest 204 = .ok (.iload 4, 2) := by decide +kernel
theorem dX10_digest_206 : decode cX10_digest 206 = .ok (.invokevirtual 264, 3) := by decide +kernel
theorem dX10_digest_209 : decode cX10_digest 209 = .ok (.i2l, 1) := by decide +kernel
theorem dX10_digest_210 : decode cX10_digest 210 = .ok (.ladd, 1) := by decide +kernel
theorem dX10_digest_211 : decode cX10_digest 211 = .ok (.lstore_n 1, 1) := by decide +kernel
theorem dX10_digest_212 : decode cX10_digest 212 = .ok (.iinc 4 1, 3) := by decide +kernel
theorem dX10_digest_215 : decode cX10_digest 215 = .ok (.goto (-24), 3) := by decide +kernel
theorem dX10_digest_218 : decode cX10_digest 218 = .ok (.iinc 3 1, 3) := by decide +kernel
theorem dX10_digest_221 : decode cX10_digest 221 = .ok (.goto (-44), 3) := by decide +kernel
theorem dX10_digest_224 : decode cX10_digest 224 = .ok (.ldc2_w 244, 3) := by decide +kernel
theorem dX10_digest_227 : decode cX10_digest 227 = .ok (.lload_n 1, 1) := by decide +kernel
theorem dX10_digest_228 : decode cX10_digest 228 = .ok (.lmul, 1) := by decide +kernel
theorem dX10_digest_229 : decode cX10_digest 229 = .ok (.aload_n 0, 1) := by decide +kernel
theorem dX10_digest_230 : decode cX10_digest 230 = .ok (.invokevirtual 267, 3) := by decide +kernel
theorem dX10_digest_233 : decode cX10_digest 233 = .ok (.i2l, 1) := by decide +kernel
theorem dX10_digest_234 : decode cX10_digest 234 = .ok (.ladd, 1) := by decide +kernel
theorem dX10_digest_235 : decode cX10_digest 235 = .ok (.lstore_n 1, 1) := by decide +kernel
theorem dX10_digest_236 : decode cX10_digest 236 = .ok (.ldc2_w 244, 3) := by decide +kernel
theorem dX10_digest_239 : decode cX10_digest 239 = .ok (.lload_n 1, 1) := by decide +kernel
theorem dX10_digest_240 : decode cX10_digest 240 = .ok (.lmul, 1) := by decide +kernel
theorem dX10_digest_241 : decode cX10_digest 241 = .ok (.aload_n 0, 1) := by decide +kernel
theorem dX10_digest_242 : decode cX10_digest 242 = .ok (.iconst 0, 1) := by decide +kernel
theorem dX10_digest_243 : decode cX10_digest 243 = .ok (.invokevirtual 270, 3) := by decide +kernel
theorem dX10_digest_246 : decode cX10_digest 246 = .ok (.i2l, 1) := by decide +kernel
theorem dX10_digest_247 : decode cX10_digest 247 = .ok (.ladd, 1) := by decide +kernel
theorem dX10_digest_248 : decode cX10_digest 248 = .ok (.lstore_n 1, 1) := by decide +kernel
theorem dX10_digest_249 : decode cX10_digest 249 = .ok (.ldc2_w 244, 3) := by decide +kernel
theorem dX10_digest_252 : decode cX10_digest 252 = .ok (.lload_n 1, 1) := by decide +kernel
theorem dX10_digest_253 : decode cX10_digest 253 = .ok (.lmul, 1) := by decide +kernel
theorem dX10_digest_254 : decode cX10_digest 254 = .ok (.aload_n 0, 1) := by decide +kernel
theorem dX10_digest_255 : decode cX10_digest 255 = .ok (.iconst 1, 1) := by decide +kernel
theorem dX10_digest_256 : decode cX10_digest 256 = .ok (.invokevirtual 270, 3) := by decide +kernel
theorem dX10_digest_259 : decode cX10_digest 259 = .ok (.i2l, 1) := by decide +kernel
theorem dX10_digest_260 : decode cX10_digest 260 = .ok (.ladd, 1) := by decide +kernel
theorem dX10_digest_261 : decode cX10_digest 261 = .ok (.lreturn, 1) := by decide +kernel
theorem dX10_refuseBad_0 : decode cX10_refuseBad 0 = .ok (.aload_n 0, 1) := by decide +kernel
theorem dX10_refuseBad_1 : decode cX10_refuseBad 1 = .ok (.dup, 1) := by decide +kernel
theorem dX10_refuseBad_2 : decode cX10_refuseBad 2 = .ok (.getfield 239, 3) := by decide +kernel
theorem dX10_refuseBad_5 : decode cX10_refuseBad 5 = .ok (.iconst 1, 1) := by decide +kernel
theorem dX10_refuseBad_6 : decode cX10_refuseBad 6 = .ok (.iadd, 1) := by decide +kernel
theorem dX10_refuseBad_7 : decode cX10_refuseBad 7 = .ok (.putfield 239, 3) := by decide +kernel
theorem dX10_refuseBad_10 : decode cX10_refuseBad 10 = .ok (.bipush (-2), 2) := by decide +kernel
theorem dX10_refuseBad_12 : decode cX10_refuseBad 12 = .ok (.ireturn, 1) := by decide +kernel
theorem dX10_isRule_0 : decode cX10_isRule 0 = .ok (.iload_n 1, 1) := by decide +kernel
theorem dX10_isRule_1 : decode cX10_isRule 1 = .ok (.ifCond .lt 18, 3) := by decide +kernel
theorem dX10_isRule_4 : decode cX10_isRule 4 = .ok (.iload_n 1, 1) := by decide +kernel
theorem dX10_isRule_5 : decode cX10_isRule 5 = .ok (.aload_n 0, 1) := by decide +kernel
theorem dX10_isRule_6 : decode cX10_isRule 6 = .ok (.getfield 10, 3) := by decide +kernel
theorem dX10_isRule_9 : decode cX10_isRule 9 = .ok (.getfield 105, 3) := by decide +kernel
theorem dX10_isRule_12 : decode cX10_isRule 12 = .ok (.if_icmp .ge 7, 3) := by decide +kernel
theorem dX10_isRule_15 : decode cX10_isRule 15 = .ok (.iconst 1, 1) := by decide +kernel
theorem dX10_isRule_16 : decode cX10_isRule 16 = .ok (.goto 4, 3) := by decide +kernel
theorem dX10_isRule_19 : decode cX10_isRule 19 = .ok (.iconst 0, 1) := by decide +kernel
theorem dX10_isRule_20 : decode cX10_isRule 20 = .ok (.ireturn, 1) := by decide +kernel
theorem dX10_forgetFindings_0 : decode cX10_forgetFindings 0 = .ok (.aload_n 0, 1) := by decide +kernel
theorem dX10_forgetFindings_1 : decode cX10_forgetFindings 1 = .ok (.iconst 0, 1) := by decide +kernel
theorem dX10_forgetFindings_2 : decode cX10_forgetFindings 2 = .ok (.putfield 273, 3) := by decide +kernel
theorem dX10_forgetFindings_5 : decode cX10_forgetFindings 5 = .ok (.aload_n 0, 1) := by decide +kernel
theorem dX10_forgetFindings_6 : decode cX10_forgetFindings 6 = .ok (.iconst 0, 1) := by decide +kernel
theorem dX10_forgetFindings_7 : decode cX10_forgetFindings 7 = .ok (.putfield 276, 3) := by decide +kernel
theorem dX10_forgetFindings_10 : decode cX10_forgetFindings 10 = .ok (.aload_n 0, 1) := by decide +kernel
theorem dX10_forgetFindings_11 : decode cX10_forgetFindings 11 = .ok (.bipush (-9), 2) := by decide +kernel
theorem dX10_forgetFindings_13 : decode cX10_forgetFindings 13 = .ok (.putfield 71, 3) := by decide +kernel
theorem dX10_forgetFindings_16 : decode cX10_forgetFindings 16 = .ok (.return_, 1) := by decide +kernel
theorem dX10_keepBookRight_0 : decode cX10_keepBookRight 0 = .ok (.aload_n 0, 1) := by decide +kernel
theorem dX10_keepBookRight_1 : decode cX10_keepBookRight 1 = .ok (.getfield 273, 3) := by decide +kernel
theorem dX10_keepBookRight_4 : decode cX10_keepBookRight 4 = .ok (.ifCond .ne 19, 3) := by decide +kernel
theorem dX10_keepBookRight_7 : decode cX10_keepBookRight 7 = .ok (.aload_n 0, 1) := by decide +kernel
theorem dX10_keepBookRight_8 : decode cX10_keepBookRight 8 = .ok (.getfield 40, 3) := by decide +kernel
theorem dX10_keepBookRight_11 : decode cX10_keepBookRight 11 = .ok (.aload_n 0, 1) := by decide +kernel
theorem dX10_keepBookRight_12 : decode cX10_keepBookRight 12 = .ok (.getfield 10, 3) := by decide +kernel
theorem dX10_keepBookRight_15 : decode cX10_keepBookRight 15 = .ok (.invokevirtual 279, 3) := by decide +kernel
theorem dX10_keepBookRight_18 : decode cX10_keepBookRight 18 = .ok (.aload_n 0, 1) := by decide +kernel
theorem dX10_keepBookRight_19 : decode cX10_keepBookRight 19 = .ok (.iconst 1, 1) := by decide +kernel
theorem dX10_keepBookRight_20 : decode cX10_keepBookRight 20 = .ok (.putfield 273, 3) := by decide +kernel
theorem dX10_keepBookRight_23 : decode cX10_keepBookRight 23 = .ok (.return_, 1) := by decide +kernel
theorem dX10_weighRings_0 : decode cX10_weighRings 0 = .ok (.aload_n 0, 1) := by decide +kernel
theorem dX10_weighRings_1 : decode cX10_weighRings 1 = .ok (.getfield 276, 3) := by decide +kernel
theorem dX10_weighRings_4 : decode cX10_weighRings 4 = .ok (.ifCond .eq 4, 3) := by decide +kernel
theorem dX10_weighRings_7 : decode cX10_weighRings 7 = .ok (.return_, 1) := by decide +kernel
theorem dX10_weighRings_8 : decode cX10_weighRings 8 = .ok (.aload_n 0, 1) := by decide +kernel
theorem dX10_weighRings_9 : decode cX10_weighRings 9 = .ok (.getfield 40, 3) := by decide +kernel
theorem dX10_weighRings_12 : decode cX10_weighRings 12 = .ok (.iconst 1, 1) := by decide +kernel
theorem dX10_weighRings_13 : decode cX10_weighRings 13 = .ok (.putfield 193, 3) := by decide +kernel
theorem dX10_weighRings_16 : decode cX10_weighRings 16 = .ok (.iconst 0, 1) := by decide +kernel
theorem dX10_weighRings_17 : decode cX10_weighRings 17 = .ok (.istore_n 1, 1) := by decide +kernel
theorem dX10_weighRings_18 : decode cX10_weighRings 18 = .ok (.iload_n 1, 1) := by decide +kernel
theorem dX10_weighRings_19 : decode cX10_weighRings 19 = .ok (.aload_n 0, 1) := by decide +kernel
theorem dX10_weighRings_20 : decode cX10_weighRings 20 = .ok (.getfield 40, 3) := by decide +kernel
theorem dX10_weighRings_23 : decode cX10_weighRings 23 = .ok (.getfield 187, 3) := by decide +kernel
theorem dX10_weighRings_26 : decode cX10_weighRings 26 = .ok (.if_icmp .ge 55, 3) := by decide +kernel
theorem dX10_weighRings_29 : decode cX10_weighRings 29 = .ok (.aload_n 0, 1) := by decide +kernel
theorem dX10_weighRings_30 : decode cX10_weighRings 30 = .ok (.getfield 40, 3) := by decide +kernel
theorem dX10_weighRings_33 : decode cX10_weighRings 33 = .ok (.getfield 217, 3) := by decide +kernel
theorem dX10_weighRings_36 : decode cX10_weighRings 36 = .ok (.iload_n 1, 1) := by decide +kernel
theorem dX10_weighRings_37 : decode cX10_weighRings 37 = .ok (.aload_n 0, 1) := by decide +kernel
theorem dX10_weighRings_38 : decode cX10_weighRings 38 = .ok (.getfield 47, 3) := by decide +kernel
theorem dX10_weighRings_41 : decode cX10_weighRings 41 = .ok (.aload_n 0, 1) := by decide +kernel
theorem dX10_weighRings_42 : decode cX10_weighRings 42 = .ok (.getfield 10, 3) := by decide +kernel
theorem dX10_weighRings_45 : decode cX10_weighRings 45 = .ok (.aload_n 0, 1) := by decide +kernel
theorem dX10_weighRings_46 : decode cX10_weighRings 46 = .ok (.getfield 40, 3) := by decide +kernel
theorem dX10_weighRings_49 : decode cX10_weighRings 49 = .ok (.iload_n 1, 1) := by decide +kernel
theorem dX10_weighRings_50 : decode cX10_weighRings 50 = .ok (.invokevirtual 171, 3) := by decide +kernel
theorem dX10_weighRings_53 : decode cX10_weighRings 53 = .ok (.iastore, 1) := by decide +kernel
theorem dX10_weighRings_54 : decode cX10_weighRings 54 = .ok (.aload_n 0, 1) := by decide +kernel
theorem dX10_weighRings_55 : decode cX10_weighRings 55 = .ok (.getfield 40, 3) := by decide +kernel
theorem dX10_weighRings_58 : decode cX10_weighRings 58 = .ok (.getfield 217, 3) := by decide +kernel
theorem dX10_weighRings_61 : decode cX10_weighRings 61 = .ok (.iload_n 1, 1) := by decide +kernel
theorem dX10_weighRings_62 : decode cX10_weighRings 62 = .ok (.iaload, 1) := by decide +kernel
theorem dX10_weighRings_63 : decode cX10_weighRings 63 = .ok (.iconst (-1), 1) := by decide +kernel
theorem dX10_weighRings_64 : decode cX10_weighRings 64 = .ok (.if_icmp .ne 11, 3) := by decide +kernel
theorem dX10_weighRings_67 : decode cX10_weighRings 67 = .ok (.aload_n 0, 1) := by decide +kernel
theorem dX10_weighRings_68 : decode cX10_weighRings 68 = .ok (.getfield 40, 3) := by decide +kernel
theorem dX10_weighRings_71 : decode cX10_weighRings 71 = .ok (.iconst 0, 1) := by decide +kernel
theorem dX10_weighRings_72 : decode cX10_weighRings 72 = .ok (.putfield 193, 3) := by decide +kernel
theorem dX10_weighRings_75 : decode cX10_weighRings 75 = .ok (.iinc 1 1, 3) := by decide +kernel
theorem dX10_weighRings_78 : decode cX10_weighRings 78 = .ok (.goto (-60), 3) := by decide +kernel
theorem dX10_weighRings_81 : decode cX10_weighRings 81 = .ok (.aload_n 0, 1) := by decide +kernel
theorem dX10_weighRings_82 : decode cX10_weighRings 82 = .ok (.iconst 1, 1) := by decide +kernel
theorem dX10_weighRings_83 : decode cX10_weighRings 83 = .ok (.putfield 276, 3) := by decide +kernel
theorem dX10_weighRings_86 : decode cX10_weighRings 86 = .ok (.return_, 1) := by decide +kernel
theorem dX10_splitFigures_0 : decode cX10_splitFigures 0 = .ok (.iload_n 1, 1) := by decide +kernel
theorem dX10_splitFigures_1 : decode cX10_splitFigures 1 = .ok (.ifCond .ge 5, 3) := by decide +kernel
theorem dX10_splitFigures_4 : decode cX10_splitFigures 4 = .ok (.iconst 0, 1) := by decide +kernel
theorem dX10_splitFigures_5 : decode cX10_splitFigures 5 = .ok (.ireturn, 1) := by decide +kernel
theorem dX10_splitFigures_6 : decode cX10_splitFigures 6 = .ok (.iload_n 1, 1) := by decide +kernel
theorem dX10_splitFigures_7 : decode cX10_splitFigures 7 = .ok (.istore_n 2, 1) := by decide +kernel
theorem dX10_splitFigures_8 : decode cX10_splitFigures 8 = .ok (.bipush 6, 2) := by decide +kernel
theorem dX10_splitFigures_10 : decode cX10_splitFigures 10 = .ok (.istore_n 3, 1) := by decide +kernel
theorem dX10_splitFigures_11 : decode cX10_splitFigures 11 = .ok (.iload_n 3, 1) := by decide +kernel
theorem dX10_splitFigures_12 : decode cX10_splitFigures 12 = .ok (.ifCond .lt 36, 3) := by decide +kernel
theorem dX10_splitFigures_15 : decode cX10_splitFigures 15 = .ok (.aload_n 0, 1) := by decide +kernel
theorem dX10_splitFigures_16 : decode cX10_splitFigures 16 = .ok (.getfield 67, 3) := by decide +kernel
theorem dX10_splitFigures_19 : decode cX10_splitFigures 19 = .ok (.iload_n 3, 1) := by decide +kernel
theorem dX10_splitFigures_20 : decode cX10_splitFigures 20 = .ok (.iload_n 2, 1) := by decide +kernel
theorem dX10_splitFigures_21 : decode cX10_splitFigures 21 = .ok (.bipush 10, 2) := by decide +kernel
theorem dX10_splitFigures_23 : decode cX10_splitFigures 23 = .ok (.irem, 1) := by decide +kernel
theorem dX10_splitFigures_24 : decode cX10_splitFigures 24 = .ok (.iastore, 1) := by decide +kernel
theorem dX10_splitFigures_25 : decode cX10_splitFigures 25 = .ok (.iload_n 2, 1) := by decide +kernel
theorem dX10_splitFigures_26 : decode cX10_splitFigures 26 = .ok (.bipush 10, 2) := by decide +kernel
theorem dX10_splitFigures_28 : decode cX10_splitFigures 28 = .ok (.idiv, 1) := by decide +kernel
theorem dX10_splitFigures_29 : decode cX10_splitFigures 29 = .ok (.istore_n 2, 1) := by decide +kernel
theorem dX10_splitFigures_30 : decode cX10_splitFigures 30 = .ok (.aload_n 0, 1) := by decide +kernel
theorem dX10_splitFigures_31 : decode cX10_splitFigures 31 = .ok (.getfield 67, 3) := by decide +kernel
theorem dX10_splitFigures_34 : decode cX10_splitFigures 34 = .ok (.iload_n 3, 1) := by decide +kernel
theorem dX10_splitFigures_35 : decode cX10_splitFigures 35 = .ok (.iaload, 1) := by decide +kernel
theorem dX10_splitFigures_36 : decode cX10_splitFigures 36 = .ok (.iconst 3, 1) := by decide +kernel
theorem dX10_splitFigures_37 : decode cX10_splitFigures 37 = .ok (.if_icmp .le 5, 3) := by decide +kernel
theorem dX10_splitFigures_40 : decode cX10_splitFigures 40 = .ok (.iconst 0, 1) := by decide +kernel
theorem dX10_splitFigures_41 : decode cX10_splitFigures 41 = .ok (.ireturn, 1) := by decide +kernel
theorem dX10_splitFigures_42 : decode cX10_splitFigures 42 = .ok (.iinc 3 (-1), 3) := by decide +kernel
theorem dX10_splitFigures_45 : decode cX10_splitFigures 45 = .ok (.goto (-34), 3) := by decide +kernel
theorem dX10_splitFigures_48 : decode cX10_splitFigures 48 = .ok (.iload_n 2, 1) := by decide +kernel
theorem dX10_splitFigures_49 : decode cX10_splitFigures 49 = .ok (.ifCond .ne 7, 3) := by decide +kernel
theorem dX10_splitFigures_52 : decode cX10_splitFigures 52 = .ok (.iconst 1, 1) := by decide +kernel
theorem dX10_splitFigures_53 : decode cX10_splitFigures 53 = .ok (.goto 4, 3) := by decide +kernel
theorem dX10_splitFigures_56 : decode cX10_splitFigures 56 = .ok (.iconst 0, 1) := by decide +kernel
theorem dX10_splitFigures_57 : decode cX10_splitFigures 57 = .ok (.ireturn, 1) := by decide +kernel
theorem dX10_hasBit_0 : decode cX10_hasBit 0 = .ok (.lload_n 0, 1) := by decide +kernel
theorem dX10_hasBit_1 : decode cX10_hasBit 1 = .ok (.iload_n 2, 1) := by decide +kernel
theorem dX10_hasBit_2 : decode cX10_hasBit 2 = .ok (.lushr, 1) := by decide +kernel
theorem dX10_hasBit_3 : decode cX10_hasBit 3 = .ok (.lconst 1, 1) := by decide +kernel
theorem dX10_hasBit_4 : decode cX10_hasBit 4 = .ok (.land, 1) := by decide +kernel
theorem dX10_hasBit_5 : decode cX10_hasBit 5 = .ok (.lconst 0, 1) := by decide +kernel
theorem dX10_hasBit_6 : decode cX10_hasBit 6 = .ok (.lcmp, 1) := by decide +kernel
theorem dX10_hasBit_7 : decode cX10_hasBit 7 = .ok (.ifCond .eq 7, 3) := by decide +kernel
theorem dX10_hasBit_10 : decode cX10_hasBit 10 = .ok (.iconst 1, 1) := by decide +kernel
theorem dX10_hasBit_11 : decode cX10_hasBit 11 = .ok (.goto 4, 3) := by decide +kernel
theorem dX10_hasBit_14 : decode cX10_hasBit 14 = .ok (.iconst 0, 1) := by decide +kernel
theorem dX10_hasBit_15 : decode cX10_hasBit 15 = .ok (.ireturn, 1) := by decide +kernel
theorem dX10_unknownBit_0 : decode cX10_unknownBit 0 = .ok (.iload_n 0, 1) := by decide +kernel
theorem dX10_unknownBit_1 : decode cX10_unknownBit 1 = .ok (.bipush 120, 2) := by decide +kernel
theorem dX10_unknownBit_3 : decode cX10_unknownBit 3 = .ok (.if_icmp .ne 5, 3) := by decide +kernel
theorem dX10_unknownBit_6 : decode cX10_unknownBit 6 = .ok (.iconst 1, 1) := by decide +kernel
theorem dX10_unknownBit_7 : decode cX10_unknownBit 7 = .ok (.ireturn, 1) := by decide +kernel
theorem dX10_unknownBit_8 : decode cX10_unknownBit 8 = .ok (.iload_n 0, 1) := by decide +kernel
theorem dX10_unknownBit_9 : decode cX10_unknownBit 9 = .ok (.bipush 121, 2) := by decide +kernel
theorem dX10_unknownBit_11 : decode cX10_unknownBit 11 = .ok (.if_icmp .ne 7, 3) := by decide +kernel
theorem dX10_unknownBit_14 : decode cX10_unknownBit 14 = .ok (.iconst 2, 1) := by decide +kernel
theorem dX10_unknownBit_15 : decode cX10_unknownBit 15 = .ok (.goto 4, 3) := by decide +kernel
theorem dX10_unknownBit_18 : decode cX10_unknownBit 18 = .ok (.iconst 0, 1) := by decide +kernel
theorem dX10_unknownBit_19 : decode cX10_unknownBit 19 = .ok (.ireturn, 1) := by decide +kernel
theorem dX10_isUnknown_0 : decode cX10_isUnknown 0 = .ok (.iload_n 0, 1) := by decide +kernel
theorem dX10_isUnknown_1 : decode cX10_isUnknown 1 = .ok (.bipush 120, 2) := by decide +kernel
theorem dX10_isUnknown_3 : decode cX10_isUnknown 3 = .ok (.if_icmp .eq 9, 3) := by decide +kernel
theorem dX10_isUnknown_6 : decode cX10_isUnknown 6 = .ok (.iload_n 0, 1) := by decide +kernel
theorem dX10_isUnknown_7 : decode cX10_isUnknown 7 = .ok (.bipush 121, 2) := by decide +kernel
theorem dX10_isUnknown_9 : decode cX10_isUnknown 9 = .ok (.if_icmp .ne 7, 3) := by decide +kernel
theorem dX10_isUnknown_12 : decode cX10_isUnknown 12 = .ok (.iconst 1, 1) := by decide +kernel
theorem dX10_isUnknown_13 : decode cX10_isUnknown 13 = .ok (.goto 4, 3) := by decide +kernel
theorem dX10_isUnknown_16 : decode cX10_isUnknown 16 = .ok (.iconst 0, 1) := by decide +kernel
theorem dX10_isUnknown_17 : decode cX10_isUnknown 17 = .ok (.ireturn, 1) := by decide +kernel
theorem dX10_partsBehind_0 : decode cX10_partsBehind 0 = .ok (.iload_n 0, 1) := by decide +kernel
theorem dX10_partsBehind_1 : decode cX10_partsBehind 1 = .ok (.bipush 103, 2) := by decide +kernel
theorem dX10_partsBehind_3 : decode cX10_partsBehind 3 = .ok (.if_icmp .ne 5, 3) := by decide +kernel
theorem dX10_partsBehind_6 : decode cX10_partsBehind 6 = .ok (.iconst 2, 1) := by decide +kernel
theorem dX10_partsBehind_7 : decode cX10_partsBehind 7 = .ok (.ireturn, 1) := by decide +kernel
theorem dX10_partsBehind_8 : decode cX10_partsBehind 8 = .ok (.iload_n 0, 1) := by decide +kernel
theorem dX10_partsBehind_9 : decode cX10_partsBehind 9 = .ok (.bipush 102, 2) := by decide +kernel
theorem dX10_partsBehind_11 : decode cX10_partsBehind 11 = .ok (.if_icmp .ne 7, 3) := by decide +kernel
theorem dX10_partsBehind_14 : decode cX10_partsBehind 14 = .ok (.iconst 1, 1) := by decide +kernel
theorem dX10_partsBehind_15 : decode cX10_partsBehind 15 = .ok (.goto 4, 3) := by decide +kernel
theorem dX10_partsBehind_18 : decode cX10_partsBehind 18 = .ok (.iconst 0, 1) := by decide +kernel
theorem dX10_partsBehind_19 : decode cX10_partsBehind 19 = .ok (.ireturn, 1) := by decide +kernel
theorem dX10_slotOf_0 : decode cX10_slotOf 0 = .ok (.iload_n 0, 1) := by decide +kernel
theorem dX10_slotOf_1 : decode cX10_slotOf 1 = .ok (.lookupswitch 71 #[(97, 59), (98, 61), (102, 63), (103, 65), (120, 67), (121, 69)], 59) := by decide +kernel
theorem dX10_slotOf_60 : decode cX10_slotOf 60 = .ok (.iconst 0, 1) := by decide +kernel
theorem dX10_slotOf_61 : decode cX10_slotOf 61 = .ok (.ireturn, 1) := by decide +kernel
theorem dX10_slotOf_62 : decode cX10_slotOf 62 = .ok (.iconst 1, 1) := by decide +kernel
theorem dX10_slotOf_63 : decode cX10_slotOf 63 = .ok (.ireturn, 1) := by decide +kernel
theorem dX10_slotOf_64 : decode cX10_slotOf 64 = .ok (.iconst 2, 1) := by decide +kernel
theorem dX10_slotOf_65 : decode cX10_slotOf 65 = .ok (.ireturn, 1) := by decide +kernel
theorem dX10_slotOf_66 : decode cX10_slotOf 66 = .ok (.iconst 3, 1) := by decide +kernel
theorem dX10_slotOf_67 : decode cX10_slotOf 67 = .ok (.ireturn, 1) := by decide +kernel
theorem dX10_slotOf_68 : decode cX10_slotOf 68 = .ok (.iconst 4, 1) := by decide +kernel
theorem dX10_slotOf_69 : decode cX10_slotOf 69 = .ok (.ireturn, 1) := by decide +kernel
theorem dX10_slotOf_70 : decode cX10_slotOf 70 = .ok (.iconst 5, 1) := by decide +kernel
theorem dX10_slotOf_71 : decode cX10_slotOf 71 = .ok (.ireturn, 1) := by decide +kernel
theorem dX10_slotOf_72 : decode cX10_slotOf 72 = .ok (.iconst (-1), 1) := by decide +kernel
theorem dX10_slotOf_73 : decode cX10_slotOf 73 = .ok (.ireturn, 1) := by decide +kernel
theorem dX11_init_0 : decode cX11_init 0 = .ok (.aload_n 0, 1) := by decide +kernel
theorem dX11_init_1 : decode cX11_init 1 = .ok (.invokespecial 1, 3) := by decide +kernel
theorem dX11_init_4 : decode cX11_init 4 = .ok (.aload_n 0, 1) := by decide +kernel
theorem dX11_init_5 : decode cX11_init 5 = .ok (.sipush 192, 3) := by decide +kernel
theorem dX11_init_8 : decode cX11_init 8 = .ok (.newarray .int, 2) := by decide +kernel
theorem dX11_init_10 : decode cX11_init 10 = .ok (.putfield 7, 3) := by decide +kernel
theorem dX11_init_13 : decode cX11_init 13 = .ok (.aload_n 0, 1) := by decide +kernel
theorem dX11_init_14 : decode cX11_init 14 = .ok (.sipush 192, 3) := by decide +kernel
theorem dX11_init_17 : decode cX11_init 17 = .ok (.newarray .int, 2) := by decide +kernel
theorem dX11_init_19 : decode cX11_init 19 = .ok (.putfield 13, 3) := by decide +kernel
theorem dX11_init_22 : decode cX11_init 22 = .ok (.aload_n 0, 1) := by decide +kernel
theorem dX11_init_23 : decode cX11_init 23 = .ok (.sipush 960, 3) := by decide +kernel
theorem dX11_init_26 : decode cX11_init 26 = .ok (.newarray .int, 2) := by decide +kernel
theorem dX11_init_28 : decode cX11_init 28 = .ok (.putfield 16, 3) := by decide +kernel
theorem dX11_init_31 : decode cX11_init 31 = .ok (.aload_n 0, 1) := by decide +kernel
theorem dX11_init_32 : decode cX11_init 32 = .ok (.iconst 3, 1) := by decide +kernel
theorem dX11_init_33 : decode cX11_init 33 = .ok (.newarray .int, 2) := by decide +kernel
theorem dX11_init_35 : decode cX11_init 35 = .ok (.putfield 19, 3) := by decide +kernel
theorem dX11_init_38 : decode cX11_init 38 = .ok (.aload_n 0, 1) := by decide +kernel
theorem dX11_init_39 : decode cX11_init 39 = .ok (.bipush 120, 2) := by decide +kernel
theorem dX11_init_41 : decode cX11_init 41 = .ok (.newarray .int, 2) := by decide +kernel
theorem dX11_init_43 : decode cX11_init 43 = .ok (.putfield 22, 3) := by decide +kernel
theorem dX11_init_46 : decode cX11_init 46 = .ok (.aload_n 0, 1) := by decide +kernel
theorem dX11_init_47 : decode cX11_init 47 = .ok (.sipush 300, 3) := by decide +kernel
theorem dX11_init_50 : decode cX11_init 50 = .ok (.newarray .int, 2) := by decide +kernel
theorem dX11_init_52 : decode cX11_init 52 = .ok (.putfield 25, 3) := by decide +kernel
theorem dX11_init_55 : decode cX11_init 55 = .ok (.aload_n 0, 1) := by decide +kernel
theorem dX11_init_56 : decode cX11_init 56 = .ok (.bipush 100, 2) := by decide +kernel
theorem dX11_init_58 : decode cX11_init 58 = .ok (.newarray .int, 2) := by decide +kernel
theorem dX11_init_60 : decode cX11_init 60 = .ok (.putfield 28, 3) := by decide +kernel
theorem dX11_init_63 : decode cX11_init 63 = .ok (.aload_n 0, 1) := by decide +kernel
theorem dX11_init_64 : decode cX11_init 64 = .ok (.bipush 7, 2) := by decide +kernel
theorem dX11_init_66 : decode cX11_init 66 = .ok (.newarray .int, 2) := by decide +kernel
theorem dX11_init_68 : decode cX11_init 68 = .ok (.putfield 31, 3) := by decide +kernel
theorem dX11_init_71 : decode cX11_init 71 = .ok (.aload_n 0, 1) := by decide +kernel
theorem dX11_init_72 : decode cX11_init 72 = .ok (.bipush 64, 2) := by decide +kernel
theorem dX11_init_74 : decode cX11_init 74 = .ok (.newarray .long, 2) := by decide +kernel
theorem dX11_init_76 : decode cX11_init 76 = .ok (.putfield 34, 3) := by decide +kernel
theorem dX11_init_79 : decode cX11_init 79 = .ok (.aload_n 0, 1) := by decide +kernel
theorem dX11_init_80 : decode cX11_init 80 = .ok (.bipush 64, 2) := by decide +kernel
theorem dX11_init_82 : decode cX11_init 82 = .ok (.newarray .long, 2) := by decide +kernel
theorem dX11_init_84 : decode cX11_init 84 = .ok (.putfield 38, 3) := by decide +kernel
theorem dX11_init_87 : decode cX11_init 87 = .ok (.aload_n 0, 1) := by decide +kernel
theorem dX11_init_88 : decode cX11_init 88 = .ok (.bipush 64, 2) := by decide +kernel
theorem dX11_init_90 : decode cX11_init 90 = .ok (.newarray .long, 2) := by decide +kernel
theorem dX11_init_92 : decode cX11_init 92 = .ok (.putfield 41, 3) := by decide +kernel
theorem dX11_init_95 : decode cX11_init 95 = .ok (.aload_n 0, 1) := by decide +kernel
theorem dX11_init_96 : decode cX11_init 96 = .ok (.bipush 60, 2) := by decide +kernel
theorem dX11_init_98 : decode cX11_init 98 = .ok (.newarray .int, 2) := by decide +kernel
theorem dX11_init_100 : decode cX11_init 100 = .ok (.putfield 44, 3) := by decide +kernel
theorem dX11_init_103 : decode cX11_init 103 = .ok (.aload_n 0, 1) := by decide +kernel
theorem dX11_init_104 : decode cX11_init 104 = .ok (.bipush 60, 2) := by decide +kernel
theorem dX11_init_106 : decode cX11_init 106 = .ok (.newarray .int, 2) := by decide +kernel
theorem dX11_init_108 : decode cX11_init 108 = .ok (.putfield 47, 3) := by decide +kernel
theorem dX11_init_111 : decode cX11_init 111 = .ok (.aload_n 0, 1) := by decide +kernel
theorem dX11_init_112 : decode cX11_init 112 = .ok (.sipush 3600, 3) := by decide +kernel
theorem dX11_init_115 : decode cX11_init 115 = .ok (.newarray .boolean, 2) := by decide +kernel
theorem dX11_init_117 : decode cX11_init 117 = .ok (.putfield 50, 3) := by decide +kernel
theorem dX11_init_120 : decode cX11_init 120 = .ok (.aload_n 0, 1) := by decide +kernel
theorem dX11_init_121 : decode cX11_init 121 = .ok (.sipush 3600, 3) := by decide +kernel
theorem dX11_init_124 : decode cX11_init 124 = .ok (.newarray .boolean, 2) := by decide +kernel
theorem dX11_init_126 : decode cX11_init 126 = .ok (.putfield 54, 3) := by decide +kernel
theorem dX11_init_129 : decode cX11_init 129 = .ok (.aload_n 0, 1) := by decide +kernel
theorem dX11_init_130 : decode cX11_init 130 = .ok (.bipush 60, 2) := by decide +kernel
theorem dX11_init_132 : decode cX11_init 132 = .ok (.newarray .int, 2) := by decide +kernel
theorem dX11_init_134 : decode cX11_init 134 = .ok (.putfield 57, 3) := by decide +kernel
theorem dX11_init_137 : decode cX11_init 137 = .ok (.aload_n 0, 1) := by decide +kernel
theorem dX11_init_138 : decode cX11_init 138 = .ok (.sipush 200, 3) := by decide +kernel
theorem dX11_init_141 : decode cX11_init 141 = .ok (.newarray .int, 2) := by decide +kernel
theorem dX11_init_143 : decode cX11_init 143 = .ok (.putfield 60, 3) := by decide +kernel
theorem dX11_init_146 : decode cX11_init 146 = .ok (.aload_n 0, 1) := by decide +kernel
theorem dX11_init_147 : decode cX11_init 147 = .ok (.sipush 200, 3) := by decide +kernel
theorem dX11_init_150 : decode cX11_init 150 = .ok (.newarray .int, 2) := by decide +kernel
theorem dX11_init_152 : decode cX11_init 152 = .ok (.putfield 63, 3) := by decide +kernel
theorem dX11_init_155 : decode cX11_init 155 = .ok (.aload_n 0, 1) := by decide +kernel
theorem dX11_init_156 : decode cX11_init 156 = .ok (.iconst 2, 1) := by decide +kernel
theorem dX11_init_157 : decode cX11_init 157 = .ok (.newarray .int, 2) := by decide +kernel
theorem dX11_init_159 : decode cX11_init 159 = .ok (.putfield 66, 3) := by decide +kernel
theorem dX11_init_162 : decode cX11_init 162 = .ok (.aload_n 0, 1) := by decide +kernel
theorem dX11_init_163 : decode cX11_init 163 = .ok (.iconst 2, 1) := by decide +kernel
theorem dX11_init_164 : decode cX11_init 164 = .ok (.newarray .int, 2) := by decide +kernel
theorem dX11_init_166 : decode cX11_init 166 = .ok (.putfield 69, 3) := by decide +kernel
theorem dX11_init_169 : decode cX11_init 169 = .ok (.aload_n 0, 1) := by decide +kernel
theorem dX11_init_170 : decode cX11_init 170 = .ok (.getfield 7, 3) := by decide +kernel
theorem dX11_init_173 : decode cX11_init 173 = .ok (.sipush 131, 3) := by decide +kernel
theorem dX11_init_176 : decode cX11_init 176 = .ok (.iconst 1, 1) := by decide +kernel
theorem dX11_init_177 : decode cX11_init 177 = .ok (.iastore, 1) := by decide +kernel
theorem dX11_init_178 : decode cX11_init 178 = .ok (.aload_n 0, 1) := by decide +kernel
theorem dX11_init_179 : decode cX11_init 179 = .ok (.getfield 7, 3) := by decide +kernel
theorem dX11_init_182 : decode cX11_init 182 = .ok (.sipush 132, 3) := by decide +kernel
theorem dX11_init_185 : decode cX11_init 185 = .ok (.bipush 97, 2) := by decide +kernel
theorem dX11_init_187 : decode cX11_init 187 = .ok (.iastore, 1) := by decide +kernel
theorem dX11_init_188 : decode cX11_init 188 = .ok (.return_, 1) := by decide +kernel
theorem dX11_in_0 : decode cX11_in 0 = .ok (.iload_n 0, 1) := by decide +kernel
theorem dX11_in_1 : decode cX11_in 1 = .ok (.iload_n 1, 1) := by decide +kernel
theorem dX11_in_2 : decode cX11_in 2 = .ok (.if_icmp .lt 12, 3) := by decide +kernel
theorem dX11_in_5 : decode cX11_in 5 = .ok (.iload_n 0, 1) := by decide +kernel
theorem dX11_in_6 : decode cX11_in 6 = .ok (.iload_n 2, 1) := by decide +kernel
theorem dX11_in_7 : decode cX11_in 7 = .ok (.if_icmp .gt 7, 3) := by decide +kernel
theorem dX11_in_10 : decode cX11_in 10 = .ok (.iconst 1, 1) := by decide +kernel
theorem dX11_in_11 : decode cX11_in 11 = .ok (.goto 4, 3) := by decide +kernel
theorem dX11_in_14 : decode cX11_in 14 = .ok (.iconst 0, 1) := by decide +kernel
theorem dX11_in_15 : decode cX11_in 15 = .ok (.ireturn, 1) := by decide +kernel
theorem dX11_refuses_0 : decode cX11_refuses 0 = .ok (.aload_n 0, 1) := by decide +kernel
theorem dX11_refuses_1 : decode cX11_refuses 1 = .ok (.getfield 19, 3) := by decide +kernel
theorem dX11_refuses_4 : decode cX11_refuses 4 = .ok (.bipush (-2), 2) := by decide +kernel
theorem dX11_refuses_6 : decode cX11_refuses 6 = .ok (.iload_n 1, 1) := by decide +kernel
theorem dX11_refuses_7 : decode cX11_refuses 7 = .ok (.isub, 1) := by decide +kernel
theorem dX11_refuses_8 : decode cX11_refuses 8 = .ok (.dup2, 1) := by decide +kernel
theorem dX11_refuses_9 : decode cX11_refuses 9 = .ok (.iaload, 1) := by decide +kernel
theorem dX11_refuses_10 : decode cX11_refuses 10 = .ok (.iconst 1, 1) := by decide +kernel
theorem dX11_refuses_11 : decode cX11_refuses 11 = .ok (.iadd, 1) := by decide +kernel
theorem dX11_refuses_12 : decode cX11_refuses 12 = .ok (.iastore, 1) := by decide +kernel
theorem dX11_refuses_13 : decode cX11_refuses 13 = .ok (.iload_n 1, 1) := by decide +kernel
theorem dX11_refuses_14 : decode cX11_refuses 14 = .ok (.ireturn, 1) := by decide +kernel
theorem dX11_copies_0 : decode cX11_copies 0 = .ok (.iconst 0, 1) := by decide +kernel
theorem dX11_copies_1 : decode cX11_copies 1 = .ok (.istore 4, 2) := by decide +kernel
theorem dX11_copies_3 : decode cX11_copies 3 = .ok (.iload 4, 2) := by decide +kernel
theorem dX11_copies_5 : decode cX11_copies 5 = .ok (.sipush 192, 3) := by decide +kernel
theorem dX11_copies_8 : decode cX11_copies 8 = .ok (.if_icmp .ge 21, 3) := by decide +kernel
theorem dX11_copies_11 : decode cX11_copies 11 = .ok (.aload_n 2, 1) := by decide +kernel
theorem dX11_copies_12 : decode cX11_copies 12 = .ok (.iload_n 3, 1) := by decide +kernel
theorem dX11_copies_13 : decode cX11_copies 13 = .ok (.iload 4, 2) := by decide +kernel
theorem dX11_copies_15 : decode cX11_copies 15 = .ok (.iadd, 1) := by decide +kernel
theorem dX11_copies_16 : decode cX11_copies 16 = .ok (.aload_n 0, 1) := by decide +kernel
theorem dX11_copies_17 : decode cX11_copies 17 = .ok (.iload_n 1, 1) := by decide +kernel
theorem dX11_copies_18 : decode cX11_copies 18 = .ok (.iload 4, 2) := by decide +kernel
theorem dX11_copies_20 : decode cX11_copies 20 = .ok (.iadd, 1) := by decide +kernel
theorem dX11_copies_21 : decode cX11_copies 21 = .ok (.iaload, 1) := by decide +kernel
theorem dX11_copies_22 : decode cX11_copies 22 = .ok (.iastore, 1) := by decide +kernel
theorem dX11_copies_23 : decode cX11_copies 23 = .ok (.iinc 4 1, 3) := by decide +kernel
theorem dX11_copies_26 : decode cX11_copies 26 = .ok (.goto (-23), 3) := by decide +kernel
theorem dX11_copies_29 : decode cX11_copies 29 = .ok (.return_, 1) := by decide +kernel
theorem dX11_remembers_0 : decode cX11_remembers 0 = .ok (.aload_n 0, 1) := by decide +kernel
theorem dX11_remembers_1 : decode cX11_remembers 1 = .ok (.getfield 72, 3) := by decide +kernel
theorem dX11_remembers_4 : decode cX11_remembers 4 = .ok (.iconst 5, 1) := by decide +kernel
theorem dX11_remembers_5 : decode cX11_remembers 5 = .ok (.if_icmp .ne 44, 3) := by decide +kernel
theorem dX11_remembers_8 : decode cX11_remembers 8 = .ok (.iconst 0, 1) := by decide +kernel
theorem dX11_remembers_9 : decode cX11_remembers 9 = .ok (.istore_n 1, 1) := by decide +kernel
theorem dX11_remembers_10 : decode cX11_remembers 10 = .ok (.iload_n 1, 1) := by decide +kernel
theorem dX11_remembers_11 : decode cX11_remembers 11 = .ok (.sipush 768, 3) := by decide +kernel
theorem dX11_remembers_14 : decode cX11_remembers 14 = .ok (.if_icmp .ge 25, 3) := by decide +kernel
theorem dX11_remembers_17 : decode cX11_remembers 17 = .ok (.aload_n 0, 1) := by decide +kernel
theorem dX11_remembers_18 : decode cX11_remembers 18 = .ok (.getfield 16, 3) := by decide +kernel
theorem dX11_remembers_21 : decode cX11_remembers 21 = .ok (.iload_n 1, 1) := by decide +kernel
theorem dX11_remembers_22 : decode cX11_remembers 22 = .ok (.aload_n 0, 1) := by decide +kernel
theorem dX11_remembers_23 : decode cX11_remembers 23 = .ok (.getfield 16, 3) := by decide +kernel
theorem dX11_remembers_26 : decode cX11_remembers 26 = .ok (.iload_n 1, 1) := by decide +kernel
theorem dX11_remembers_27 : decode cX11_remembers 27 = .ok (.sipush 192, 3) := by decide +kernel
theorem dX11_remembers_30 : decode cX11_remembers 30 = .ok (.iadd, 1) := by decide +kernel
theorem dX11_remembers_31 : decode cX11_remembers 31 = .ok (.iaload, 1) := by decide +kernel
theorem dX11_remembers_32 : decode cX11_remembers 32 = .ok (.iastore, 1) := by decide +kernel
theorem dX11_remembers_33 : decode cX11_remembers 33 = .ok (.iinc 1 1, 3) := by decide +kernel
theorem dX11_remembers_36 : decode cX11_remembers 36 = .ok (.goto (-26), 3) := by decide +kernel
theorem dX11_remembers_39 : decode cX11_remembers 39 = .ok (.aload_n 0, 1) := by decide +kernel
theorem dX11_remembers_40 : decode cX11_remembers 40 = .ok (.dup, 1) := by decide +kernel
theorem dX11_remembers_41 : decode cX11_remembers 41 = .ok (.getfield 72, 3) := by decide +kernel
theorem dX11_remembers_44 : decode cX11_remembers 44 = .ok (.iconst 1, 1) := by decide +kernel
theorem dX11_remembers_45 : decode cX11_remembers 45 = .ok (.isub, 1) := by decide +kernel
theorem dX11_remembers_46 : decode cX11_remembers 46 = .ok (.putfield 72, 3) := by decide +kernel
theorem dX11_remembers_49 : decode cX11_remembers 49 = .ok (.aload_n 0, 1) := by decide +kernel
theorem dX11_remembers_50 : decode cX11_remembers 50 = .ok (.getfield 7, 3) := by decide +kernel
theorem dX11_remembers_53 : decode cX11_remembers 53 = .ok (.iconst 0, 1) := by decide +kernel
theorem dX11_remembers_54 : decode cX11_remembers 54 = .ok (.aload_n 0, 1) := by decide +kernel
theorem dX11_remembers_55 : decode cX11_remembers 55 = .ok (.getfield 16, 3) := by decide +kernel
theorem dX11_remembers_58 : decode cX11_remembers 58 = .ok (.sipush 192, 3) := by decide +kernel
theorem dX11_remembers_61 : decode cX11_remembers 61 = .ok (.aload_n 0, 1) := by decide +kernel
theorem dX11_remembers_62 : decode cX11_remembers 62 = .ok (.getfield 72, 3) := by decide +kernel
theorem dX11_remembers_65 : decode cX11_remembers 65 = .ok (.imul, 1) := by decide +kernel
theorem dX11_remembers_66 : decode cX11_remembers 66 = .ok (.invokestatic 76, 3) := by decide +kernel
theorem dX11_remembers_69 : decode cX11_remembers 69 = .ok (.aload_n 0, 1) := by decide +kernel
theorem dX11_remembers_70 : decode cX11_remembers 70 = .ok (.dup, 1) := by decide +kernel
theorem dX11_remembers_71 : decode cX11_remembers 71 = .ok (.getfield 72, 3) := by decide +kernel
theorem dX11_remembers_74 : decode cX11_remembers 74 = .ok (.iconst 1, 1) := by decide +kernel
theorem dX11_remembers_75 : decode cX11_remembers 75 = .ok (.iadd, 1) := by decide +kernel
theorem dX11_remembers_76 : decode cX11_remembers 76 = .ok (.putfield 72, 3) := by decide +kernel
theorem dX11_remembers_79 : decode cX11_remembers 79 = .ok (.return_, 1) := by decide +kernel
theorem dX11_back_0 : decode cX11_back 0 = .ok (.aload_n 0, 1) := by decide +kernel
theorem dX11_back_1 : decode cX11_back 1 = .ok (.getfield 72, 3) := by decide +kernel
theorem dX11_back_4 : decode cX11_back 4 = .ok (.ifCond .ne 10, 3) := by decide +kernel
theorem dX11_back_7 : decode cX11_back 7 = .ok (.aload_n 0, 1) := by decide +kernel
theorem dX11_back_8 : decode cX11_back 8 = .ok (.bipush (-3), 2) := by decide +kernel
theorem dX11_back_10 : decode cX11_back 10 = .ok (.invokevirtual 80, 3) := by decide +kernel
theorem dX11_back_13 : decode cX11_back 13 = .ok (.ireturn, 1) := by decide +kernel
theorem dX11_back_14 : decode cX11_back 14 = .ok (.aload_n 0, 1) := by decide +kernel
theorem dX11_back_15 : decode cX11_back 15 = .ok (.dup, 1) := by decide +kernel
theorem dX11_back_16 : decode cX11_back 16 = .ok (.getfield 72, 3) := by decide +kernel
theorem dX11_back_19 : decode cX11_back 19 = .ok (.iconst 1, 1) := by decide +kernel
theorem dX11_back_20 : decode cX11_back 20 = .ok (.isub, 1) := by decide +kernel
theorem dX11_back_21 : decode cX11_back 21 = .ok (.putfield 72, 3) := by decide +kernel
theorem dX11_back_24 : decode cX11_back 24 = .ok (.aload_n 0, 1) := by decide +kernel
theorem dX11_back_25 : decode cX11_back 25 = .ok (.getfield 16, 3) := by decide +kernel
theorem dX11_back_28 : decode cX11_back 28 = .ok (.sipush 192, 3) := by decide +kernel
theorem dX11_back_31 : decode cX11_back 31 = .ok (.aload_n 0, 1) := by decide +kernel
theorem dX11_back_32 : decode cX11_back 32 = .ok (.getfield 72, 3) := by decide +kernel
theorem dX11_back_35 : decode cX11_back 35 = .ok (.imul, 1) := by decide +kernel
theorem dX11_back_36 : decode cX11_back 36 = .ok (.aload_n 0, 1) := by decide +kernel
theorem dX11_back_37 : decode cX11_back 37 = .ok (.getfield 7, 3) := by decide +kernel
theorem dX11_back_40 : decode cX11_back 40 = .ok (.iconst 0, 1) := by decide +kernel
theorem dX11_back_41 : decode cX11_back 41 = .ok (.invokestatic 76, 3) := by decide +kernel
theorem dX11_back_44 : decode cX11_back 44 = .ok (.aload_n 0, 1) := by decide +kernel
theorem dX11_back_45 : decode cX11_back 45 = .ok (.getfield 72, 3) := by decide +kernel
theorem dX11_back_48 : decode cX11_back 48 = .ok (.ireturn, 1) := by decide +kernel
theorem dX11_wants_0 : decode cX11_wants 0 = .ok (.iload_n 0, 1) := by decide +kernel
theorem dX11_wants_1 : decode cX11_wants 1 = .ok (.bipush 102, 2) := by decide +kernel
theorem dX11_wants_3 : decode cX11_wants 3 = .ok (.if_icmp .ne 7, 3) := by decide +kernel
theorem dX11_wants_6 : decode cX11_wants 6 = .ok (.iconst 1, 1) := by decide +kernel
theorem dX11_wants_7 : decode cX11_wants 7 = .ok (.goto 14, 3) := by decide +kernel
theorem dX11_wants_10 : decode cX11_wants 10 = .ok (.iload_n 0, 1) := by decide +kernel
theorem dX11_wants_11 : decode cX11_wants 11 = .ok (.bipush 103, 2) := by decide +kernel
theorem dX11_wants_13 : decode cX11_wants 13 = .ok (.if_icmp .ne 7, 3) := by decide +kernel
theorem dX11_wants_16 : decode cX11_wants 16 = .ok (.iconst 2, 1) := by decide +kernel
theorem dX11_wants_17 : decode cX11_wants 17 = .ok (.goto 4, 3) := by decide +kernel
theorem dX11_wants_20 : decode cX11_wants 20 = .ok (.iconst 0, 1) := by decide +kernel
theorem dX11_wants_21 : decode cX11_wants 21 = .ok (.ireturn, 1) := by decide +kernel
theorem dX11_isUnknown_0 : decode cX11_isUnknown 0 = .ok (.iload_n 0, 1) := by decide +kernel
theorem dX11_isUnknown_1 : decode cX11_isUnknown 1 = .ok (.bipush 120, 2) := by decide +kernel
theorem dX11_isUnknown_3 : decode cX11_isUnknown 3 = .ok (.if_icmp .eq 9, 3) := by decide +kernel
theorem dX11_isUnknown_6 : decode cX11_isUnknown 6 = .ok (.iload_n 0, 1) := by decide +kernel
theorem dX11_isUnknown_7 : decode cX11_isUnknown 7 = .ok (.bipush 121, 2) := by decide +kernel
theorem dX11_isUnknown_9 : decode cX11_isUnknown 9 = .ok (.if_icmp .ne 7, 3) := by decide +kernel
theorem dX11_isUnknown_12 : decode cX11_isUnknown 12 = .ok (.iconst 1, 1) := by decide +kernel
theorem dX11_isUnknown_13 : decode cX11_isUnknown 13 = .ok (.goto 4, 3) := by decide +kernel
theorem dX11_isUnknown_16 : decode cX11_isUnknown 16 = .ok (.iconst 0, 1) := by decide +kernel
theorem dX11_isUnknown_17 : decode cX11_isUnknown 17 = .ok (.ireturn, 1) := by decide +kernel
theorem dX11_longAt_0 : decode cX11_longAt 0 = .ok (.iconst 1, 1) := by decide +kernel
theorem dX11_longAt_1 : decode cX11_longAt 1 = .ok (.istore_n 2, 1) := by decide +kernel
theorem dX11_longAt_2 : decode cX11_longAt 2 = .ok (.iconst 0, 1) := by decide +kernel
theorem dX11_longAt_3 : decode cX11_longAt 3 = .ok (.istore_n 3, 1) := by decide +kernel
theorem dX11_longAt_4 : decode cX11_longAt 4 = .ok (.iload_n 2, 1) := by decide +kernel
theorem dX11_longAt_5 : decode cX11_longAt 5 = .ok (.ifCond .le 22, 3) := by decide +kernel
theorem dX11_longAt_8 : decode cX11_longAt 8 = .ok (.iload_n 2, 1) := by decide +kernel
theorem dX11_longAt_9 : decode cX11_longAt 9 = .ok (.aload_n 0, 1) := by decide +kernel
theorem dX11_longAt_10 : decode cX11_longAt 10 = .ok (.iload_n 1, 1) := by decide +kernel
theorem dX11_longAt_11 : decode cX11_longAt 11 = .ok (.iload_n 3, 1) := by decide +kernel
theorem dX11_longAt_12 : decode cX11_longAt 12 = .ok (.iadd, 1) := by decide +kernel
theorem dX11_longAt_13 : decode cX11_longAt 13 = .ok (.iaload, 1) := by decide +kernel
theorem dX11_longAt_14 : decode cX11_longAt 14 = .ok (.invokestatic 84, 3) := by decide +kernel
theorem dX11_longAt_17 : decode cX11_longAt 17 = .ok (.iconst 1, 1) := by decide +kernel
theorem dX11_longAt_18 : decode cX11_longAt 18 = .ok (.isub, 1) := by decide +kernel
theorem dX11_longAt_19 : decode cX11_longAt 19 = .ok (.iadd, 1) := by decide +kernel
theorem dX11_longAt_20 : decode cX11_longAt 20 = .ok (.istore_n 2, 1) := by decide +kernel
theorem dX11_longAt_21 : decode cX11_longAt 21 = .ok (.iinc 3 1, 3) := by decide +kernel
theorem dX11_longAt_24 : decode cX11_longAt 24 = .ok (.goto (-20), 3) := by decide +kernel
theorem dX11_longAt_27 : decode cX11_longAt 27 = .ok (.iload_n 3, 1) := by decide +kernel
theorem dX11_longAt_28 : decode cX11_longAt 28 = .ok (.ireturn, 1) := by decide +kernel
theorem dX11_leftOf_0 : decode cX11_leftOf 0 = .ok (.iconst 1, 1) := by decide +kernel
theorem dX11_leftOf_1 : decode cX11_leftOf 1 = .ok (.bipush 26, 2) := by decide +kernel
theorem dX11_leftOf_3 : decode cX11_leftOf 3 = .ok (.iload_n 0, 1) := by decide +kernel
theorem dX11_leftOf_4 : decode cX11_leftOf 4 = .ok (.imul, 1) := by decide +kernel
theorem dX11_leftOf_5 : decode cX11_leftOf 5 = .ok (.iadd, 1) := by decide +kernel
theorem dX11_leftOf_6 : decode cX11_leftOf 6 = .ok (.iconst 2, 1) := by decide +kernel
theorem dX11_leftOf_7 : decode cX11_leftOf 7 = .ok (.iadd, 1) := by decide +kernel
theorem dX11_leftOf_8 : decode cX11_leftOf 8 = .ok (.ireturn, 1) := by decide +kernel
theorem dX11_rightOf_0 : decode cX11_rightOf 0 = .ok (.iconst 1, 1) := by decide +kernel
theorem dX11_rightOf_1 : decode cX11_rightOf 1 = .ok (.bipush 26, 2) := by decide +kernel
theorem dX11_rightOf_3 : decode cX11_rightOf 3 = .ok (.iload_n 0, 1) := by decide +kernel
theorem dX11_rightOf_4 : decode cX11_rightOf 4 = .ok (.imul, 1) := by decide +kernel
theorem dX11_rightOf_5 : decode cX11_rightOf 5 = .ok (.iadd, 1) := by decide +kernel
theorem dX11_rightOf_6 : decode cX11_rightOf 6 = .ok (.bipush 14, 2) := by decide +kernel
theorem dX11_rightOf_8 : decode cX11_rightOf 8 = .ok (.iadd, 1) := by decide +kernel
theorem dX11_rightOf_9 : decode cX11_rightOf 9 = .ok (.ireturn, 1) := by decide +kernel
theorem dX11_leftLong_0 : decode cX11_leftLong 0 = .ok (.aload_n 0, 1) := by decide +kernel
theorem dX11_leftLong_1 : decode cX11_leftLong 1 = .ok (.iconst 1, 1) := by decide +kernel
theorem dX11_leftLong_2 : decode cX11_leftLong 2 = .ok (.bipush 26, 2) := by decide +kernel
theorem dX11_leftLong_4 : decode cX11_leftLong 4 = .ok (.iload_n 1, 1) := by decide +kernel
theorem dX11_leftLong_5 : decode cX11_leftLong 5 = .ok (.imul, 1) := by decide +kernel
theorem dX11_leftLong_6 : decode cX11_leftLong 6 = .ok (.iadd, 1) := by decide +kernel
theorem dX11_leftLong_7 : decode cX11_leftLong 7 = .ok (.iaload, 1) := by decide +kernel
theorem dX11_leftLong_8 : decode cX11_leftLong 8 = .ok (.ireturn, 1) := by decide +kernel
theorem dX11_rightLong_0 : decode cX11_rightLong 0 = .ok (.aload_n 0, 1) := by decide +kernel
theorem dX11_rightLong_1 : decode cX11_rightLong 1 = .ok (.iconst 1, 1) := by decide +kernel
theorem dX11_rightLong_2 : decode cX11_rightLong 2 = .ok (.bipush 26, 2) := by decide +kernel
theorem dX11_rightLong_4 : decode cX11_rightLong 4 = .ok (.iload_n 1, 1) := by decide +kernel
theorem dX11_rightLong_5 : decode cX11_rightLong 5 = .ok (.imul, 1) := by decide +kernel
theorem dX11_rightLong_6 : decode cX11_rightLong 6 = .ok (.iadd, 1) := by decide +kernel
theorem dX11_rightLong_7 : decode cX11_rightLong 7 = .ok (.iconst 1, 1) := by decide +kernel
theorem dX11_rightLong_8 : decode cX11_rightLong 8 = .ok (.iadd, 1) := by decide +kernel
theorem dX11_rightLong_9 : decode cX11_rightLong 9 = .ok (.iaload, 1) := by decide +kernel
theorem dX11_rightLong_10 : decode cX11_rightLong 10 = .ok (.ireturn, 1) := by decide +kernel
theorem dX11_unknowns_0 : decode cX11_unknowns 0 = .ok (.iconst 0, 1) := by decide +kernel
theorem dX11_unknowns_1 : decode cX11_unknowns 1 = .ok (.istore_n 3, 1) := by decide +kernel
theorem dX11_unknowns_2 : decode cX11_unknowns 2 = .ok (.iconst 0, 1) := by decide +kernel
theorem dX11_unknowns_3 : decode cX11_unknowns 3 = .ok (.istore 4, 2) := by decide +kernel
theorem dX11_unknowns_5 : decode cX11_unknowns 5 = .ok (.iload 4, 2) := by decide +kernel
theorem dX11_unknowns_7 : decode cX11_unknowns 7 = .ok (.iload_n 2, 1) := by decide +kernel
theorem dX11_unknowns_8 : decode cX11_unknowns 8 = .ok (.if_icmp .ge 43, 3) := by decide +kernel
theorem dX11_unknowns_11 : decode cX11_unknowns 11 = .ok (.iload_n 3, 1) := by decide +kernel
theorem dX11_unknowns_12 : decode cX11_unknowns 12 = .ok (.aload_n 0, 1) := by decide +kernel
theorem dX11_unknowns_13 : decode cX11_unknowns 13 = .ok (.iload_n 1, 1) := by decide +kernel
theorem dX11_unknowns_14 : decode cX11_unknowns 14 = .ok (.iload 4, 2) := by decide +kernel
theorem dX11_unknowns_16 : decode cX11_unknowns 16 = .ok (.iadd, 1) := by decide +kernel
theorem dX11_unknowns_17 : decode cX11_unknowns 17 = .ok (.iaload, 1) := by decide +kernel
theorem dX11_unknowns_18 : decode cX11_unknowns 18 = .ok (.bipush 120, 2) := by decide +kernel
theorem dX11_unknowns_20 : decode cX11_unknowns 20 = .ok (.if_icmp .ne 7, 3) := by decide +kernel
theorem dX11_unknowns_23 : decode cX11_unknowns 23 = .ok (.iconst 1, 1) := by decide +kernel
theorem dX11_unknowns_24 : decode cX11_unknowns 24 = .ok (.goto 19, 3) := by decide +kernel
theorem dX11_unknowns_27 : decode cX11_unknowns 27 = .ok (.aload_n 0, 1) := by decide +kernel
theorem dX11_unknowns_28 : decode cX11_unknowns 28 = .ok (.iload_n 1, 1) := by decide +kernel
theorem dX11_unknowns_29 : decode cX11_unknowns 29 = .ok (.iload 4, 2) := by decide +kernel
theorem dX11_unknowns_31 : decode cX11_unknowns 31 = .ok (.iadd, 1) := by decide +kernel
theorem dX11_unknowns_32 : decode cX11_unknowns 32 = .ok (.iaload, 1) := by decide +kernel
theorem dX11_unknowns_33 : decode cX11_unknowns 33 = .ok (.bipush 121, 2) := by decide +kernel
theorem dX11_unknowns_35 : decode cX11_unknowns 35 = .ok (.if_icmp .ne 7, 3) := by decide +kernel
theorem dX11_unknowns_38 : decode cX11_unknowns 38 = .ok (.iconst 2, 1) := by decide +kernel
theorem dX11_unknowns_39 : decode cX11_unknowns 39 = .ok (.goto 4, 3) := by decide +kernel
theorem dX11_unknowns_42 : decode cX11_unknowns 42 = .ok (.iconst 0, 1) := by decide +kernel
theorem dX11_unknowns_43 : decode cX11_unknowns 43 = .ok (.ior, 1) := by decide +kernel
theorem dX11_unknowns_44 : decode cX11_unknowns 44 = .ok (.istore_n 3, 1) := by decide +kernel
theorem dX11_unknowns_45 : decode cX11_unknowns 45 = .ok (.iinc 4 1, 3) := by decide +kernel
theorem dX11_unknowns_48 : decode cX11_unknowns 48 = .ok (.goto (-43), 3) := by decide +kernel
theorem dX11_unknowns_51 : decode cX11_unknowns 51 = .ok (.iload_n 3, 1) := by decide +kernel
theorem dX11_unknowns_52 : decode cX11_unknowns 52 = .ok (.ireturn, 1) := by decide +kernel
theorem dX11_wantsMore_0 : decode cX11_wantsMore 0 = .ok (.aload_n 0, 1) := by decide +kernel
theorem dX11_wantsMore_1 : decode cX11_wantsMore 1 = .ok (.getfield 25, 3) := by decide +kernel
theorem dX11_wantsMore_4 : decode cX11_wantsMore 4 = .ok (.aload_n 0, 1) := by decide +kernel
theorem dX11_wantsMore_5 : decode cX11_wantsMore 5 = .ok (.getfield 87, 3) := by decide +kernel
theorem dX11_wantsMore_8 : decode cX11_wantsMore 8 = .ok (.iload_n 1, 1) := by decide +kernel
theorem dX11_wantsMore_9 : decode cX11_wantsMore 9 = .ok (.iastore, 1) := by decide +kernel
theorem dX11_wantsMore_10 : decode cX11_wantsMore 10 = .ok (.aload_n 0, 1) := by decide +kernel
theorem dX11_wantsMore_11 : decode cX11_wantsMore 11 = .ok (.dup, 1) := by decide +kernel
theorem dX11_wantsMore_12 : decode cX11_wantsMore 12 = .ok (.getfield 87, 3) := by decide +kernel
theorem dX11_wantsMore_15 : decode cX11_wantsMore 15 = .ok (.iconst 1, 1) := by decide +kernel
theorem dX11_wantsMore_16 : decode cX11_wantsMore 16 = .ok (.iadd, 1) := by decide +kernel
theorem dX11_wantsMore_17 : decode cX11_wantsMore 17 = .ok (.putfield 87, 3) := by decide +kernel
theorem dX11_wantsMore_20 : decode cX11_wantsMore 20 = .ok (.return_, 1) := by decide +kernel
theorem dX11_blanks_0 : decode cX11_blanks 0 = .ok (.aload_n 0, 1) := by decide +kernel
theorem dX11_blanks_1 : decode cX11_blanks 1 = .ok (.getfield 90, 3) := by decide +kernel
theorem dX11_blanks_4 : decode cX11_blanks 4 = .ok (.aload_n 0, 1) := by decide +kernel
theorem dX11_blanks_5 : decode cX11_blanks 5 = .ok (.getfield 93, 3) := by decide +kernel
theorem dX11_blanks_8 : decode cX11_blanks 8 = .ok (.if_icmp .ge 30, 3) := by decide +kernel
theorem dX11_blanks_11 : decode cX11_blanks 11 = .ok (.aload_n 0, 1) := by decide +kernel
theorem dX11_blanks_12 : decode cX11_blanks 12 = .ok (.getfield 22, 3) := by decide +kernel
theorem dX11_blanks_15 : decode cX11_blanks 15 = .ok (.aload_n 0, 1) := by decide +kernel
theorem dX11_blanks_16 : decode cX11_blanks 16 = .ok (.getfield 90, 3) := by decide +kernel
theorem dX11_blanks_19 : decode cX11_blanks 19 = .ok (.iaload, 1) := by decide +kernel
theorem dX11_blanks_20 : decode cX11_blanks 20 = .ok (.bipush 32, 2) := by decide +kernel
theorem dX11_blanks_22 : decode cX11_blanks 22 = .ok (.if_icmp .ne 16, 3) := by decide +kernel
theorem dX11_blanks_25 : decode cX11_blanks 25 = .ok (.aload_n 0, 1) := by decide +kernel
theorem dX11_blanks_26 : decode cX11_blanks 26 = .ok (.dup, 1) := by decide +kernel
theorem dX11_blanks_27 : decode cX11_blanks 27 = .ok (.getfield 90, 3) := by decide +kernel
theorem dX11_blanks_30 : decode cX11_blanks 30 = .ok (.iconst 1, 1) := by decide +kernel
theorem dX11_blanks_31 : decode cX11_blanks 31 = .ok (.iadd, 1) := by decide +kernel
theorem dX11_blanks_32 : decode cX11_blanks 32 = .ok (.putfield 90, 3) := by decide +kernel
theorem dX11_blanks_35 : decode cX11_blanks 35 = .ok (.goto (-35), 3) := by decide +kernel
theorem dX11_blanks_38 : decode cX11_blanks 38 = .ok (.return_, 1) := by decide +kernel
theorem dX11_isLetter_0 : decode cX11_isLetter 0 = .ok (.iload_n 0, 1) := by decide +kernel
theorem dX11_isLetter_1 : decode cX11_isLetter 1 = .ok (.bipush 97, 2) := by decide +kernel
theorem dX11_isLetter_3 : decode cX11_isLetter 3 = .ok (.bipush 98, 2) := by decide +kernel
theorem dX11_isLetter_5 : decode cX11_isLetter 5 = .ok (.invokestatic 96, 3) := by decide +kernel
theorem dX11_isLetter_8 : decode cX11_isLetter 8 = .ok (.ifCond .ne 21, 3) := by decide +kernel
theorem dX11_isLetter_11 : decode cX11_isLetter 11 = .ok (.iload_n 0, 1) := by decide +kernel
theorem dX11_isLetter_12 : decode cX11_isLetter 12 = .ok (.bipush 102, 2) := by decide +kernel
theorem dX11_isLetter_14 : decode cX11_isLetter 14 = .ok (.bipush 103, 2) := by decide +kernel
theorem dX11_isLetter_16 : decode cX11_isLetter 16 = .ok (.invokestatic 96, 3) := by decide +kernel
theorem dX11_isLetter_19 : decode cX11_isLetter 19 = .ok (.ifCond .ne 10, 3) := by decide +kernel
theorem dX11_isLetter_22 : decode cX11_isLetter 22 = .ok (.iload_n 0, 1) := by decide +kernel
theorem dX11_isLetter_23 : decode cX11_isLetter 23 = .ok (.invokestatic 100, 3) := by decide +kernel
theorem dX11_isLetter_26 : decode cX11_isLetter 26 = .ok (.ifCond .eq 7, 3) := by decide +kernel
theorem dX11_isLetter_29 : decode cX11_isLetter 29 = .ok (.iconst 1, 1) := by decide +kernel
theorem dX11_isLetter_30 : decode cX11_isLetter 30 = .ok (.goto 4, 3) := by decide +kernel
theorem dX11_isLetter_33 : decode cX11_isLetter 33 = .ok (.iconst 0, 1) := by decide +kernel
theorem dX11_isLetter_34 : decode cX11_isLetter 34 = .ok (.ireturn, 1) := by decide +kernel
theorem dX11_opens_0 : decode cX11_opens 0 = .ok (.iload_n 1, 1) := by decide +kernel
theorem dX11_opens_1 : decode cX11_opens 1 = .ok (.invokestatic 84, 3) := by decide +kernel
theorem dX11_opens_4 : decode cX11_opens 4 = .ok (.ifCond .le 41, 3) := by decide +kernel
theorem dX11_opens_7 : decode cX11_opens 7 = .ok (.aload_n 0, 1) := by decide +kernel
theorem dX11_opens_8 : decode cX11_opens 8 = .ok (.bipush 41, 2) := by decide +kernel
theorem dX11_opens_10 : decode cX11_opens 10 = .ok (.invokevirtual 104, 3) := by decide +kernel
theorem dX11_opens_13 : decode cX11_opens 13 = .ok (.aload_n 0, 1) := by decide +kernel
theorem dX11_opens_14 : decode cX11_opens 14 = .ok (.bipush 84, 2) := by decide +kernel
theorem dX11_opens_16 : decode cX11_opens 16 = .ok (.invokevirtual 104, 3) := by decide +kernel
theorem dX11_opens_19 : decode cX11_opens 19 = .ok (.iload_n 1, 1) := by decide +kernel
theorem dX11_opens_20 : decode cX11_opens 20 = .ok (.invokestatic 84, 3) := by decide +kernel
theorem dX11_opens_23 : decode cX11_opens 23 = .ok (.iconst 1, 1) := by decide +kernel
theorem dX11_opens_24 : decode cX11_opens 24 = .ok (.if_icmp .le 15, 3) := by decide +kernel
theorem dX11_opens_27 : decode cX11_opens 27 = .ok (.aload_n 0, 1) := by decide +kernel
theorem dX11_opens_28 : decode cX11_opens 28 = .ok (.bipush 44, 2) := by decide +kernel
theorem dX11_opens_30 : decode cX11_opens 30 = .ok (.invokevirtual 104, 3) := by decide +kernel
theorem dX11_opens_33 : decode cX11_opens 33 = .ok (.aload_n 0, 1) := by decide +kernel
theorem dX11_opens_34 : decode cX11_opens 34 = .ok (.bipush 84, 2) := by decide +kernel
theorem dX11_opens_36 : decode cX11_opens 36 = .ok (.invokevirtual 104, 3) := by decide +kernel
theorem dX11_opens_39 : decode cX11_opens 39 = .ok (.aload_n 0, 1) := by decide +kernel
theorem dX11_opens_40 : decode cX11_opens 40 = .ok (.bipush 40, 2) := by decide +kernel
theorem dX11_opens_42 : decode cX11_opens 42 = .ok (.invokevirtual 104, 3) := by decide +kernel
theorem dX11_opens_45 : decode cX11_opens 45 = .ok (.return_, 1) := by decide +kernel
theorem dX11_takesTerm_0 : decode cX11_takesTerm 0 = .ok (.iconst 0, 1) := by decide +kernel
theorem dX11_takesTerm_1 : decode cX11_takesTerm 1 = .ok (.istore 4, 2) := by decide +kernel
theorem dX11_takesTerm_3 : decode cX11_takesTerm 3 = .ok (.aload_n 0, 1) := by decide +kernel
theorem dX11_takesTerm_4 : decode cX11_takesTerm 4 = .ok (.iconst 0, 1) := by decide +kernel
theorem dX11_takesTerm_5 : decode cX11_takesTerm 5 = .ok (.putfield 87, 3) := by decide +kernel
theorem dX11_takesTerm_8 : decode cX11_takesTerm 8 = .ok (.aload_n 0, 1) := by decide +kernel
theorem dX11_takesTerm_9 : decode cX11_takesTerm 9 = .ok (.bipush 84, 2) := by decide +kernel
theorem dX11_takesTerm_11 : decode cX11_takesTerm 11 = .ok (.invokevirtual 104, 3) := by decide +kernel
theorem dX11_takesTerm_14 : decode cX11_takesTerm 14 = .ok (.aload_n 0, 1) := by decide +kernel
theorem dX11_takesTerm_15 : decode cX11_takesTerm 15 = .ok (.getfield 87, 3) := by decide +kernel
theorem dX11_takesTerm_18 : decode cX11_takesTerm 18 = .ok (.ifCond .le 156, 3) := by decide +kernel
theorem dX11_takesTerm_21 : decode cX11_takesTerm 21 = .ok (.aload_n 0, 1) := by decide +kernel
theorem dX11_takesTerm_22 : decode cX11_takesTerm 22 = .ok (.invokevirtual 108, 3) := by decide +kernel
theorem dX11_takesTerm_25 : decode cX11_takesTerm 25 = .ok (.aload_n 0, 1) := by decide +kernel
theorem dX11_takesTerm_26 : decode cX11_takesTerm 26 = .ok (.getfield 90, 3) := by decide +kernel
theorem dX11_takesTerm_29 : decode cX11_takesTerm 29 = .ok (.aload_n 0, 1) := by decide +kernel
theorem dX11_takesTerm_30 : decode cX11_takesTerm 30 = .ok (.getfield 93, 3) := by decide +kernel
theorem dX11_takesTerm_33 : decode cX11_takesTerm 33 = .ok (.if_icmp .ne 5, 3) := by decide +kernel
theorem dX11_takesTerm_36 : decode cX11_takesTerm 36 = .ok (.iconst (-1), 1) := by decide +kernel
theorem dX11_takesTerm_37 : decode cX11_takesTerm 37 = .ok (.ireturn, 1) := by decide +kernel
theorem dX11_takesTerm_38 : decode cX11_takesTerm 38 = .ok (.aload_n 0, 1) := by decide +kernel
theorem dX11_takesTerm_39 : decode cX11_takesTerm 39 = .ok (.getfield 22, 3) := by decide +kernel
theorem dX11_takesTerm_42 : decode cX11_takesTerm 42 = .ok (.aload_n 0, 1) := by decide +kernel
theorem dX11_takesTerm_43 : decode cX11_takesTerm 43 = .ok (.getfield 90, 3) := by decide +kernel
theorem dX11_takesTerm_46 : decode cX11_takesTerm 46 = .ok (.iaload, 1) := by decide +kernel
theorem dX11_takesTerm_47 : decode cX11_takesTerm 47 = .ok (.istore 5, 2) := by decide +kernel
theorem dX11_takesTerm_49 : decode cX11_takesTerm 49 = .ok (.aload_n 0, 1) := by decide +kernel
theorem dX11_takesTerm_50 : decode cX11_takesTerm 50 = .ok (.dup, 1) := by decide +kernel
theorem dX11_takesTerm_51 : decode cX11_takesTerm 51 = .ok (.getfield 87, 3) := by decide +kernel
theorem dX11_takesTerm_54 : decode cX11_takesTerm 54 = .ok (.iconst 1, 1) := by decide +kernel
theorem dX11_takesTerm_55 : decode cX11_takesTerm 55 = .ok (.isub, 1) := by decide +kernel
theorem dX11_takesTerm_56 : decode cX11_takesTerm 56 = .ok (.putfield 87, 3) := by decide +kernel
theorem dX11_takesTerm_59 : decode cX11_takesTerm 59 = .ok (.aload_n 0, 1) := by decide +kernel
theorem dX11_takesTerm_60 : decode cX11_takesTerm 60 = .ok (.getfield 25, 3) := by decide +kernel
theorem dX11_takesTerm_63 : decode cX11_takesTerm 63 = .ok (.aload_n 0, 1) := by decide +kernel
theorem dX11_takesTerm_64 : decode cX11_takesTerm 64 = .ok (.getfield 87, 3) := by decide +kernel
theorem dX11_takesTerm_67 : decode cX11_takesTerm 67 = .ok (.iaload, 1) := by decide +kernel
theorem dX11_takesTerm_68 : decode cX11_takesTerm 68 = .ok (.bipush 84, 2) := by decide +kernel
theorem dX11_takesTerm_70 : decode cX11_takesTerm 70 = .ok (.if_icmp .ne 75, 3) := by decide +kernel
theorem dX11_takesTerm_73 : decode cX11_takesTerm 73 = .ok (.iload 5, 2) := by decide +kernel
theorem dX11_takesTerm_75 : decode cX11_takesTerm 75 = .ok (.invokestatic 100, 3) := by decide +kernel
theorem dX11_takesTerm_78 : decode cX11_takesTerm 78 = .ok (.ifCond .eq 16, 3) := by decide +kernel
theorem dX11_takesTerm_81 : decode cX11_takesTerm 81 = .ok (.iload_n 3, 1) := by decide +kernel
theorem dX11_takesTerm_82 : decode cX11_takesTerm 82 = .ok (.iload 5, 2) := by decide +kernel
theorem dX11_takesTerm_84 : decode cX11_takesTerm 84 = .ok (.bipush 120, 2) := by decide +kernel
theorem dX11_takesTerm_86 : decode cX11_takesTerm 86 = .ok (.isub, 1) := by decide +kernel
theorem dX11_takesTerm_87 : decode cX11_takesTerm 87 = .ok (.ishr, 1) := by decide +kernel
theorem dX11_takesTerm_88 : decode cX11_takesTerm 88 = .ok (.iconst 1, 1) := by decide +kernel
theorem dX11_takesTerm_89 : decode cX11_takesTerm 89 = .ok (.iand, 1) := by decide +kernel
theorem dX11_takesTerm_90 : decode cX11_takesTerm 90 = .ok (.iconst 1, 1) := by decide +kernel
theorem dX11_takesTerm_91 : decode cX11_takesTerm 91 = .ok (.if_icmp .ne 7, 3) := by decide +kernel
theorem dX11_takesTerm_94 : decode cX11_takesTerm 94 = .ok (.iconst 1, 1) := by decide +kernel
theorem dX11_takesTerm_95 : decode cX11_takesTerm 95 = .ok (.goto 4, 3) := by decide +kernel
theorem dX11_takesTerm_98 : decode cX11_takesTerm 98 = .ok (.iconst 0, 1) := by decide +kernel
theorem dX11_takesTerm_99 : decode cX11_takesTerm 99 = .ok (.istore 6, 2) := by decide +kernel
theorem dX11_takesTerm_101 : decode cX11_takesTerm 101 = .ok (.iload 5, 2) := by decide +kernel
theorem dX11_takesTerm_103 : decode cX11_takesTerm 103 = .ok (.invokestatic 111, 3) := by decide +kernel
theorem dX11_takesTerm_106 : decode cX11_takesTerm 106 = .ok (.ifCond .eq 14, 3) := by decide +kernel
theorem dX11_takesTerm_109 : decode cX11_takesTerm 109 = .ok (.iload 4, 2) := by decide +kernel
theorem dX11_takesTerm_111 : decode cX11_takesTerm 111 = .ok (.iload_n 2, 1) := by decide +kernel
theorem dX11_takesTerm_112 : decode cX11_takesTerm 112 = .ok (.if_icmp .eq 8, 3) := by decide +kernel
theorem dX11_takesTerm_115 : decode cX11_takesTerm 115 = .ok (.iload 6, 2) := by decide +kernel
theorem dX11_takesTerm_117 : decode cX11_takesTerm 117 = .ok (.ifCond .ne 5, 3) := by decide +kernel
theorem dX11_takesTerm_120 : decode cX11_takesTerm 120 = .ok (.iconst (-1), 1) := by decide +kernel
theorem dX11_takesTerm_121 : decode cX11_takesTerm 121 = .ok (.ireturn, 1) := by decide +kernel
theorem dX11_takesTerm_122 : decode cX11_takesTerm 122 = .ok (.aload_n 0, 1) := by decide +kernel
theorem dX11_takesTerm_123 : decode cX11_takesTerm 123 = .ok (.getfield 13, 3) := by decide +kernel
theorem dX11_takesTerm_126 : decode cX11_takesTerm 126 = .ok (.iload_n 1, 1) := by decide +kernel
theorem dX11_takesTerm_127 : decode cX11_takesTerm 127 = .ok (.iload 4, 2) := by decide +kernel
theorem dX11_takesTerm_129 : decode cX11_takesTerm 129 = .ok (.iadd, 1) := by decide +kernel
theorem dX11_takesTerm_130 : decode cX11_takesTerm 130 = .ok (.iload 5, 2) := by decide +kernel
theorem dX11_takesTerm_132 : decode cX11_takesTerm 132 = .ok (.iastore, 1) := by decide +kernel
theorem dX11_takesTerm_133 : decode cX11_takesTerm 133 = .ok (.iinc 4 1, 3) := by decide +kernel
theorem dX11_takesTerm_136 : decode cX11_takesTerm 136 = .ok (.aload_n 0, 1) := by decide +kernel
theorem dX11_takesTerm_137 : decode cX11_takesTerm 137 = .ok (.iload 5, 2) := by decide +kernel
theorem dX11_takesTerm_139 : decode cX11_takesTerm 139 = .ok (.invokevirtual 114, 3) := by decide +kernel
theorem dX11_takesTerm_142 : decode cX11_takesTerm 142 = .ok (.goto 19, 3) := by decide +kernel
theorem dX11_takesTerm_145 : decode cX11_takesTerm 145 = .ok (.iload 5, 2) := by decide +kernel
theorem dX11_takesTerm_147 : decode cX11_takesTerm 147 = .ok (.aload_n 0, 1) := by decide +kernel
theorem dX11_takesTerm_148 : decode cX11_takesTerm 148 = .ok (.getfield 25, 3) := by decide +kernel
theorem dX11_takesTerm_151 : decode cX11_takesTerm 151 = .ok (.aload_n 0, 1) := by decide +kernel
theorem dX11_takesTerm_152 : decode cX11_takesTerm 152 = .ok (.getfield 87, 3) := by decide +kernel
theorem dX11_takesTerm_155 : decode cX11_takesTerm 155 = .ok (.iaload, 1) := by decide +kernel
theorem dX11_takesTerm_156 : decode cX11_takesTerm 156 = .ok (.if_icmp .eq 5, 3) := by decide +kernel
theorem dX11_takesTerm_159 : decode cX11_takesTerm 159 = .ok (.iconst (-1), 1) := by decide +kernel
theorem dX11_takesTerm_160 : decode cX11_takesTerm 160 = .ok (.ireturn, 1) := by decide +kernel
theorem dX11_takesTerm_161 : decode cX11_takesTerm 161 = .ok (.aload_n 0, 1) := by decide +kernel
theorem dX11_takesTerm_162 : decode cX11_takesTerm 162 = .ok (.dup, 1) := by decide +kernel
theorem dX11_takesTerm_163 : decode cX11_takesTerm 163 = .ok (.getfield 90, 3) := by decide +kernel
theorem dX11_takesTerm_166 : decode cX11_takesTerm 166 = .ok (.iconst 1, 1) := by decide +kernel
theorem dX11_takesTerm_167 : decode cX11_takesTerm 167 = .ok (.iadd, 1) := by decide +kernel
theorem dX11_takesTerm_168 : decode cX11_takesTerm 168 = .ok (.putfield 90, 3) := by decide +kernel
theorem dX11_takesTerm_171 : decode cX11_takesTerm 171 = .ok (.goto (-157), 3) := by decide +kernel
theorem dX11_takesTerm_174 : decode cX11_takesTerm 174 = .ok (.aload_n 0, 1) := by decide +kernel
theorem dX11_takesTerm_175 : decode cX11_takesTerm 175 = .ok (.invokevirtual 108, 3) := by decide +kernel
theorem dX11_takesTerm_178 : decode cX11_takesTerm 178 = .ok (.iload 4, 2) := by decide +kernel
theorem dX11_takesTerm_180 : decode cX11_takesTerm 180 = .ok (.ireturn, 1) := by decide +kernel
theorem dX11_takesSign_0 : decode cX11_takesSign 0 = .ok (.aload_n 0, 1) := by decide +kernel
theorem dX11_takesSign_1 : decode cX11_takesSign 1 = .ok (.getfield 90, 3) := by decide +kernel
theorem dX11_takesSign_4 : decode cX11_takesSign 4 = .ok (.aload_n 0, 1) := by decide +kernel
theorem dX11_takesSign_5 : decode cX11_takesSign 5 = .ok (.getfield 93, 3) := by decide +kernel
theorem dX11_takesSign_8 : decode cX11_takesSign 8 = .ok (.if_icmp .ge 20, 3) := by decide +kernel
theorem dX11_takesSign_11 : decode cX11_takesSign 11 = .ok (.aload_n 0, 1) := by decide +kernel
theorem dX11_takesSign_12 : decode cX11_takesSign 12 = .ok (.getfield 22, 3) := by decide +kernel
theorem dX11_takesSign_15 : decode cX11_takesSign 15 = .ok (.aload_n 0, 1) := by decide +kernel
theorem dX11_takesSign_16 : decode cX11_takesSign 16 = .ok (.getfield 90, 3) := by decide +kernel
theorem dX11_takesSign_19 : decode cX11_takesSign 19 = .ok (.iaload, 1) := by decide +kernel
theorem dX11_takesSign_20 : decode cX11_takesSign 20 = .ok (.iload_n 1, 1) := by decide +kernel
theorem dX11_takesSign_21 : decode cX11_takesSign 21 = .ok (.if_icmp .ne 7, 3) := by decide +kernel
theorem dX11_takesSign_24 : decode cX11_takesSign 24 = .ok (.iconst 1, 1) := by decide +kernel
theorem dX11_takesSign_25 : decode cX11_takesSign 25 = .ok (.goto 4, 3) := by decide +kernel
theorem dX11_takesSign_28 : decode cX11_takesSign 28 = .ok (.iconst 0, 1) := by decide +kernel
theorem dX11_takesSign_29 : decode cX11_takesSign 29 = .ok (.istore_n 2, 1) := by decide +kernel
theorem dX11_takesSign_30 : decode cX11_takesSign 30 = .ok (.aload_n 0, 1) := by decide +kernel
theorem dX11_takesSign_31 : decode cX11_takesSign 31 = .ok (.dup, 1) := by decide +kernel
theorem dX11_takesSign_32 : decode cX11_takesSign 32 = .ok (.getfield 90, 3) := by decide +kernel
theorem dX11_takesSign_35 : decode cX11_takesSign 35 = .ok (.iload_n 2, 1) := by decide +kernel
theorem dX11_takesSign_36 : decode cX11_takesSign 36 = .ok (.ifCond .eq 7, 3) := by decide +kernel
theorem dX11_takesSign_39 : decode cX11_takesSign 39 = .ok (.iconst 1, 1) := by decide +kernel
theorem dX11_takesSign_40 : decode cX11_takesSign 40 = .ok (.goto 4, 3) := by decide +kernel
theorem dX11_takesSign_43 : decode cX11_takesSign 43 = .ok (.iconst 0, 1) := by decide +kernel
theorem dX11_takesSign_44 : decode cX11_takesSign 44 = .ok (.iadd, 1) := by decide +kernel
theorem dX11_takesSign_45 : decode cX11_takesSign 45 = .ok (.putfield 90, 3) := by decide +kernel
theorem dX11_takesSign_48 : decode cX11_takesSign 48 = .ok (.iload_n 2, 1) := by decide +kernel
theorem dX11_takesSign_49 : decode cX11_takesSign 49 = .ok (.ireturn, 1) := by decide +kernel
theorem dX11_takesRule_0 : decode cX11_takesRule 0 = .ok (.aload_n 0, 1) := by decide +kernel
theorem dX11_takesRule_1 : decode cX11_takesRule 1 = .ok (.getfield 13, 3) := by decide +kernel
theorem dX11_takesRule_4 : decode cX11_takesRule 4 = .ok (.iconst 0, 1) := by decide +kernel
theorem dX11_takesRule_5 : decode cX11_takesRule 5 = .ok (.iaload, 1) := by decide +kernel
theorem dX11_takesRule_6 : decode cX11_takesRule 6 = .ok (.istore_n 1, 1) := by decide +kernel
theorem dX11_takesRule_7 : decode cX11_takesRule 7 = .ok (.iload_n 1, 1) := by decide +kernel
theorem dX11_takesRule_8 : decode cX11_takesRule 8 = .ok (.iconst 5, 1) := by decide +kernel
theorem dX11_takesRule_9 : decode cX11_takesRule 9 = .ok (.if_icmp .eq 29, 3) := by decide +kernel
theorem dX11_takesRule_12 : decode cX11_takesRule 12 = .ok (.aload_n 0, 1) := by decide +kernel
theorem dX11_takesRule_13 : decode cX11_takesRule 13 = .ok (.getfield 90, 3) := by decide +kernel
theorem dX11_takesRule_16 : decode cX11_takesRule 16 = .ok (.aload_n 0, 1) := by decide +kernel
theorem dX11_takesRule_17 : decode cX11_takesRule 17 = .ok (.getfield 93, 3) := by decide +kernel
theorem dX11_takesRule_20 : decode cX11_takesRule 20 = .ok (.if_icmp .ge 20, 3) := by decide +kernel
theorem dX11_takesRule_23 : decode cX11_takesRule 23 = .ok (.aload_n 0, 1) := by decide +kernel
theorem dX11_takesRule_24 : decode cX11_takesRule 24 = .ok (.getfield 22, 3) := by decide +kernel
theorem dX11_takesRule_27 : decode cX11_takesRule 27 = .ok (.aload_n 0, 1) := by decide +kernel
theorem dX11_takesRule_28 : decode cX11_takesRule 28 = .ok (.getfield 90, 3) := by decide +kernel
theorem dX11_takesRule_31 : decode cX11_takesRule 31 = .ok (.iaload, 1) := by decide +kernel
theorem dX11_takesRule_32 : decode cX11_takesRule 32 = .ok (.invokestatic 100, 3) := by decide +kernel
theorem dX11_takesRule_35 : decode cX11_takesRule 35 = .ok (.ifCond .eq 5, 3) := by decide +kernel
theorem dX11_takesRule_38 : decode cX11_takesRule 38 = .ok (.iconst 0, 1) := by decide +kernel
theorem dX11_takesRule_39 : decode cX11_takesRule 39 = .ok (.ireturn, 1) := by decide +kernel
theorem dX11_takesRule_40 : decode cX11_takesRule 40 = .ok (.aload_n 0, 1) := by decide +kernel
theorem dX11_takesRule_41 : decode cX11_takesRule 41 = .ok (.iload_n 1, 1) := by decide +kernel
theorem dX11_takesRule_42 : decode cX11_takesRule 42 = .ok (.invokestatic 117, 3) := by decide +kernel
theorem dX11_takesRule_45 : decode cX11_takesRule 45 = .ok (.bipush 12, 2) := by decide +kernel
theorem dX11_takesRule_47 : decode cX11_takesRule 47 = .ok (.iconst 3, 1) := by decide +kernel
theorem dX11_takesRule_48 : decode cX11_takesRule 48 = .ok (.invokevirtual 120, 3) := by decide +kernel
theorem dX11_takesRule_51 : decode cX11_takesRule 51 = .ok (.istore_n 2, 1) := by decide +kernel
theorem dX11_takesRule_52 : decode cX11_takesRule 52 = .ok (.iload_n 2, 1) := by decide +kernel
theorem dX11_takesRule_53 : decode cX11_takesRule 53 = .ok (.iconst (-1), 1) := by decide +kernel
theorem dX11_takesRule_54 : decode cX11_takesRule 54 = .ok (.if_icmp .eq 12, 3) := by decide +kernel
theorem dX11_takesRule_57 : decode cX11_takesRule 57 = .ok (.aload_n 0, 1) := by decide +kernel
theorem dX11_takesRule_58 : decode cX11_takesRule 58 = .ok (.bipush 62, 2) := by decide +kernel
theorem dX11_takesRule_60 : decode cX11_takesRule 60 = .ok (.invokevirtual 124, 3) := by decide +kernel
theorem dX11_takesRule_63 : decode cX11_takesRule 63 = .ok (.ifCond .ne 5, 3) := by decide +kernel
theorem dX11_takesRule_66 : decode cX11_takesRule 66 = .ok (.iconst 0, 1) := by decide +kernel
theorem dX11_takesRule_67 : decode cX11_takesRule 67 = .ok (.ireturn, 1) := by decide +kernel
theorem dX11_takesRule_68 : decode cX11_takesRule 68 = .ok (.aload_n 0, 1) := by decide +kernel
theorem dX11_takesRule_69 : decode cX11_takesRule 69 = .ok (.iload_n 1, 1) := by decide +kernel
theorem dX11_takesRule_70 : decode cX11_takesRule 70 = .ok (.invokestatic 127, 3) := by decide +kernel
theorem dX11_takesRule_73 : decode cX11_takesRule 73 = .ok (.bipush 12, 2) := by decide +kernel
theorem dX11_takesRule_75 : decode cX11_takesRule 75 = .ok (.aload_n 0, 1) := by decide +kernel
theorem dX11_takesRule_76 : decode cX11_takesRule 76 = .ok (.getfield 13, 3) := by decide +kernel
theorem dX11_takesRule_79 : decode cX11_takesRule 79 = .ok (.iload_n 1, 1) := by decide +kernel
theorem dX11_takesRule_80 : decode cX11_takesRule 80 = .ok (.invokestatic 117, 3) := by decide +kernel
theorem dX11_takesRule_83 : decode cX11_takesRule 83 = .ok (.iload_n 2, 1) := by decide +kernel
theorem dX11_takesRule_84 : decode cX11_takesRule 84 = .ok (.invokestatic 130, 3) := by decide +kernel
theorem dX11_takesRule_87 : decode cX11_takesRule 87 = .ok (.invokevirtual 120, 3) := by decide +kernel
theorem dX11_takesRule_90 : decode cX11_takesRule 90 = .ok (.istore_n 3, 1) := by decide +kernel
theorem dX11_takesRule_91 : decode cX11_takesRule 91 = .ok (.iload_n 3, 1) := by decide +kernel
theorem dX11_takesRule_92 : decode cX11_takesRule 92 = .ok (.iconst (-1), 1) := by decide +kernel
theorem dX11_takesRule_93 : decode cX11_takesRule 93 = .ok (.if_icmp .eq 12, 3) := by decide +kernel
theorem dX11_takesRule_96 : decode cX11_takesRule 96 = .ok (.aload_n 0, 1) := by decide +kernel
theorem dX11_takesRule_97 : decode cX11_takesRule 97 = .ok (.bipush 59, 2) := by decide +kernel
theorem dX11_takesRule_99 : decode cX11_takesRule 99 = .ok (.invokevirtual 124, 3) := by decide +kernel
theorem dX11_takesRule_102 : decode cX11_takesRule 102 = .ok (.ifCond .ne 5, 3) := by decide +kernel
theorem dX11_takesRule_105 : decode cX11_takesRule 105 = .ok (.iconst 0, 1) := by decide +kernel
theorem dX11_takesRule_106 : decode cX11_takesRule 106 = .ok (.ireturn, 1) := by decide +kernel
theorem dX11_takesRule_107 : decode cX11_takesRule 107 = .ok (.aload_n 0, 1) := by decide +kernel
theorem dX11_takesRule_108 : decode cX11_takesRule 108 = .ok (.getfield 13, 3) := by decide +kernel
theorem dX11_takesRule_111 : decode cX11_takesRule 111 = .ok (.iconst 1, 1) := by decide +kernel
theorem dX11_takesRule_112 : decode cX11_takesRule 112 = .ok (.bipush 26, 2) := by decide +kernel
theorem dX11_takesRule_114 : decode cX11_takesRule 114 = .ok (.iload_n 1, 1) := by decide +kernel
theorem dX11_takesRule_115 : decode cX11_takesRule 115 = .ok (.imul, 1) := by decide +kernel
theorem dX11_takesRule_116 : decode cX11_takesRule 116 = .ok (.iadd, 1) := by decide +kernel
theorem dX11_takesRule_117 : decode cX11_takesRule 117 = .ok (.iload_n 2, 1) := by decide +kernel
theorem dX11_takesRule_118 : decode cX11_takesRule 118 = .ok (.iastore, 1) := by decide +kernel
theorem dX11_takesRule_119 : decode cX11_takesRule 119 = .ok (.aload_n 0, 1) := by decide +kernel
theorem dX11_takesRule_120 : decode cX11_takesRule 120 = .ok (.getfield 13, 3) := by decide +kernel
theorem dX11_takesRule_123 : decode cX11_takesRule 123 = .ok (.iconst 1, 1) := by decide +kernel
theorem dX11_takesRule_124 : decode cX11_takesRule 124 = .ok (.bipush 26, 2) := by decide +kernel
theorem dX11_takesRule_126 : decode cX11_takesRule 126 = .ok (.iload_n 1, 1) := by decide +kernel
theorem dX11_takesRule_127 : decode cX11_takesRule 127 = .ok (.imul, 1) := by decide +kernel
theorem dX11_takesRule_128 : decode cX11_takesRule 128 = .ok (.iadd, 1) := by decide +kernel
theorem dX11_takesRule_129 : decode cX11_takesRule 129 = .ok (.iconst 1, 1) := by decide +kernel
theorem dX11_takesRule_130 : decode cX11_takesRule 130 = .ok (.iadd, 1) := by decide +kernel
theorem dX11_takesRule_131 : decode cX11_takesRule 131 = .ok (.iload_n 3, 1) := by decide +kernel
theorem dX11_takesRule_132 : decode cX11_takesRule 132 = .ok (.iastore, 1) := by decide +kernel
theorem dX11_takesRule_133 : decode cX11_takesRule 133 = .ok (.aload_n 0, 1) := by decide +kernel
theorem dX11_takesRule_134 : decode cX11_takesRule 134 = .ok (.getfield 13, 3) := by decide +kernel
theorem dX11_takesRule_137 : decode cX11_takesRule 137 = .ok (.iconst 0, 1) := by decide +kernel
theorem dX11_takesRule_138 : decode cX11_takesRule 138 = .ok (.dup2, 1) := by decide +kernel
theorem dX11_takesRule_139 : decode cX11_takesRule 139 = .ok (.iaload, 1) := by decide +kernel
theorem dX11_takesRule_140 : decode cX11_takesRule 140 = .ok (.iconst 1, 1) := by decide +kernel
theorem dX11_takesRule_141 : decode cX11_takesRule 141 = .ok (.iadd, 1) := by decide +kernel
theorem dX11_takesRule_142 : decode cX11_takesRule 142 = .ok (.iastore, 1) := by decide +kernel
theorem dX11_takesRule_143 : decode cX11_takesRule 143 = .ok (.aload_n 0, 1) := by decide +kernel
theorem dX11_takesRule_144 : decode cX11_takesRule 144 = .ok (.invokevirtual 108, 3) := by decide +kernel
theorem dX11_takesRule_147 : decode cX11_takesRule 147 = .ok (.iconst 1, 1) := by decide +kernel
theorem dX11_takesRule_148 : decode cX11_takesRule 148 = .ok (.ireturn, 1) := by decide +kernel
theorem dX11_readsRules_0 : decode cX11_readsRules 0 = .ok (.aload_n 0, 1) := by decide +kernel
theorem dX11_readsRules_1 : decode cX11_readsRules 1 = .ok (.getfield 7, 3) := by decide +kernel
theorem dX11_readsRules_4 : decode cX11_readsRules 4 = .ok (.iconst 0, 1) := by decide +kernel
theorem dX11_readsRules_5 : decode cX11_readsRules 5 = .ok (.aload_n 0, 1) := by decide +kernel
theorem dX11_readsRules_6 : decode cX11_readsRules 6 = .ok (.getfield 13, 3) := by decide +kernel
theorem dX11_readsRules_9 : decode cX11_readsRules 9 = .ok (.iconst 0, 1) := by decide +kernel
theorem dX11_readsRules_10 : decode cX11_readsRules 10 = .ok (.invokestatic 76, 3) := by decide +kernel
theorem dX11_readsRules_13 : decode cX11_readsRules 13 = .ok (.aload_n 0, 1) := by decide +kernel
theorem dX11_readsRules_14 : decode cX11_readsRules 14 = .ok (.iconst 0, 1) := by decide +kernel
theorem dX11_readsRules_15 : decode cX11_readsRules 15 = .ok (.putfield 90, 3) := by decide +kernel
theorem dX11_readsRules_18 : decode cX11_readsRules 18 = .ok (.aload_n 0, 1) := by decide +kernel
theorem dX11_readsRules_19 : decode cX11_readsRules 19 = .ok (.invokevirtual 108, 3) := by decide +kernel
theorem dX11_readsRules_22 : decode cX11_readsRules 22 = .ok (.aload_n 0, 1) := by decide +kernel
theorem dX11_readsRules_23 : decode cX11_readsRules 23 = .ok (.getfield 90, 3) := by decide +kernel
theorem dX11_readsRules_26 : decode cX11_readsRules 26 = .ok (.aload_n 0, 1) := by decide +kernel
theorem dX11_readsRules_27 : decode cX11_readsRules 27 = .ok (.getfield 93, 3) := by decide +kernel
theorem dX11_readsRules_30 : decode cX11_readsRules 30 = .ok (.if_icmp .ge 7, 3) := by decide +kernel
theorem dX11_readsRules_33 : decode cX11_readsRules 33 = .ok (.iconst 1, 1) := by decide +kernel
theorem dX11_readsRules_34 : decode cX11_readsRules 34 = .ok (.goto 4, 3) := by decide +kernel
theorem dX11_readsRules_37 : decode cX11_readsRules 37 = .ok (.iconst 0, 1) := by decide +kernel
theorem dX11_readsRules_38 : decode cX11_readsRules 38 = .ok (.istore_n 1, 1) := by decide +kernel
theorem dX11_readsRules_39 : decode cX11_readsRules 39 = .ok (.iload_n 1, 1) := by decide +kernel
theorem dX11_readsRules_40 : decode cX11_readsRules 40 = .ok (.ifCond .eq 22, 3) := by decide +kernel
theorem dX11_readsRules_43 : decode cX11_readsRules 43 = .ok (.aload_n 0, 1) := by decide +kernel
theorem dX11_readsRules_44 : decode cX11_readsRules 44 = .ok (.getfield 90, 3) := by decide +kernel
theorem dX11_readsRules_47 : decode cX11_readsRules 47 = .ok (.aload_n 0, 1) := by decide +kernel
theorem dX11_readsRules_48 : decode cX11_readsRules 48 = .ok (.getfield 93, 3) := by decide +kernel
theorem dX11_readsRules_51 : decode cX11_readsRules 51 = .ok (.if_icmp .ge 11, 3) := by decide +kernel
theorem dX11_readsRules_54 : decode cX11_readsRules 54 = .ok (.aload_n 0, 1) := by decide +kernel
theorem dX11_readsRules_55 : decode cX11_readsRules 55 = .ok (.invokevirtual 134, 3) := by decide +kernel
theorem dX11_readsRules_58 : decode cX11_readsRules 58 = .ok (.istore_n 1, 1) := by decide +kernel
theorem dX11_readsRules_59 : decode cX11_readsRules 59 = .ok (.goto (-20), 3) := by decide +kernel
theorem dX11_readsRules_62 : decode cX11_readsRules 62 = .ok (.iload_n 1, 1) := by decide +kernel
theorem dX11_readsRules_63 : decode cX11_readsRules 63 = .ok (.ifCond .eq 7, 3) := by decide +kernel
theorem dX11_readsRules_66 : decode cX11_readsRules 66 = .ok (.iconst (-1), 1) := by decide +kernel
theorem dX11_readsRules_67 : decode cX11_readsRules 67 = .ok (.goto 7, 3) := by decide +kernel
theorem dX11_readsRules_70 : decode cX11_readsRules 70 = .ok (.aload_n 0, 1) := by decide +kernel
theorem dX11_readsRules_71 : decode cX11_readsRules 71 = .ok (.getfield 90, 3) := by decide +kernel
theorem dX11_readsRules_74 : decode cX11_readsRules 74 = .ok (.ireturn, 1) := by decide +kernel
theorem dX11_readsTerm_0 : decode cX11_readsTerm 0 = .ok (.aload_n 0, 1) := by decide +kernel
theorem dX11_readsTerm_1 : decode cX11_readsTerm 1 = .ok (.getfield 7, 3) := by decide +kernel
theorem dX11_readsTerm_4 : decode cX11_readsTerm 4 = .ok (.iconst 0, 1) := by decide +kernel
theorem dX11_readsTerm_5 : decode cX11_readsTerm 5 = .ok (.aload_n 0, 1) := by decide +kernel
theorem dX11_readsTerm_6 : decode cX11_readsTerm 6 = .ok (.getfield 13, 3) := by decide +kernel
theorem dX11_readsTerm_9 : decode cX11_readsTerm 9 = .ok (.iconst 0, 1) := by decide +kernel
theorem dX11_readsTerm_10 : decode cX11_readsTerm 10 = .ok (.invokestatic 76, 3) := by decide +kernel
theorem dX11_readsTerm_13 : decode cX11_readsTerm 13 = .ok (.aload_n 0, 1) := by decide +kernel
theorem dX11_readsTerm_14 : decode cX11_readsTerm 14 = .ok (.iconst 0, 1) := by decide +kernel
theorem dX11_readsTerm_15 : decode cX11_readsTerm 15 = .ok (.putfield 90, 3) := by decide +kernel
theorem dX11_readsTerm_18 : decode cX11_readsTerm 18 = .ok (.aload_n 0, 1) := by decide +kernel
theorem dX11_readsTerm_19 : decode cX11_readsTerm 19 = .ok (.sipush 132, 3) := by decide +kernel
theorem dX11_readsTerm_22 : decode cX11_readsTerm 22 = .ok (.bipush 60, 2) := by decide +kernel
theorem dX11_readsTerm_24 : decode cX11_readsTerm 24 = .ok (.iconst 3, 1) := by decide +kernel
theorem dX11_readsTerm_25 : decode cX11_readsTerm 25 = .ok (.invokevirtual 120, 3) := by decide +kernel
theorem dX11_readsTerm_28 : decode cX11_readsTerm 28 = .ok (.istore_n 1, 1) := by decide +kernel
theorem dX11_readsTerm_29 : decode cX11_readsTerm 29 = .ok (.aload_n 0, 1) := by decide +kernel
theorem dX11_readsTerm_30 : decode cX11_readsTerm 30 = .ok (.getfield 13, 3) := by decide +kernel
theorem dX11_readsTerm_33 : decode cX11_readsTerm 33 = .ok (.sipush 131, 3) := by decide +kernel
theorem dX11_readsTerm_36 : decode cX11_readsTerm 36 = .ok (.iload_n 1, 1) := by decide +kernel
theorem dX11_readsTerm_37 : decode cX11_readsTerm 37 = .ok (.iastore, 1) := by decide +kernel
theorem dX11_readsTerm_38 : decode cX11_readsTerm 38 = .ok (.iload_n 1, 1) := by decide +kernel
theorem dX11_readsTerm_39 : decode cX11_readsTerm 39 = .ok (.iconst (-1), 1) := by decide +kernel
theorem dX11_readsTerm_40 : decode cX11_readsTerm 40 = .ok (.if_icmp .eq 14, 3) := by decide +kernel
theorem dX11_readsTerm_43 : decode cX11_readsTerm 43 = .ok (.aload_n 0, 1) := by decide +kernel
theorem dX11_readsTerm_44 : decode cX11_readsTerm 44 = .ok (.getfield 90, 3) := by decide +kernel
theorem dX11_readsTerm_47 : decode cX11_readsTerm 47 = .ok (.aload_n 0, 1) := by decide +kernel
theorem dX11_readsTerm_48 : decode cX11_readsTerm 48 = .ok (.getfield 93, 3) := by decide +kernel
theorem dX11_readsTerm_51 : decode cX11_readsTerm 51 = .ok (.if_icmp .ge 10, 3) := by decide +kernel
theorem dX11_readsTerm_54 : decode cX11_readsTerm 54 = .ok (.aload_n 0, 1) := by decide +kernel
theorem dX11_readsTerm_55 : decode cX11_readsTerm 55 = .ok (.getfield 90, 3) := by decide +kernel
theorem dX11_readsTerm_58 : decode cX11_readsTerm 58 = .ok (.goto 4, 3) := by decide +kernel
theorem dX11_readsTerm_61 : decode cX11_readsTerm 61 = .ok (.iconst (-1), 1) := by decide +kernel
theorem dX11_readsTerm_62 : decode cX11_readsTerm 62 = .ok (.ireturn, 1) := by decide +kernel
theorem dX11_type_0 : decode cX11_type 0 = .ok (.iload_n 1, 1) := by decide +kernel
theorem dX11_type_1 : decode cX11_type 1 = .ok (.iconst 0, 1) := by decide +kernel
theorem dX11_type_2 : decode cX11_type 2 = .ok (.bipush 127, 2) := by decide +kernel
theorem dX11_type_4 : decode cX11_type 4 = .ok (.invokestatic 96, 3) := by decide +kernel
theorem dX11_type_7 : decode cX11_type 7 = .ok (.ifCond .ne 10, 3) := by decide +kernel
theorem dX11_type_10 : decode cX11_type 10 = .ok (.aload_n 0, 1) := by decide +kernel
theorem dX11_type_11 : decode cX11_type 11 = .ok (.bipush (-2), 2) := by decide +kernel
theorem dX11_type_13 : decode cX11_type 13 = .ok (.invokevirtual 80, 3) := by decide +kernel
theorem dX11_type_16 : decode cX11_type 16 = .ok (.ireturn, 1) := by decide +kernel
theorem dX11_type_17 : decode cX11_type 17 = .ok (.aload_n 0, 1) := by decide +kernel
theorem dX11_type_18 : decode cX11_type 18 = .ok (.getfield 93, 3) := by decide +kernel
theorem dX11_type_21 : decode cX11_type 21 = .ok (.bipush 120, 2) := by decide +kernel
theorem dX11_type_23 : decode cX11_type 23 = .ok (.if_icmp .ne 10, 3) := by decide +kernel
theorem dX11_type_26 : decode cX11_type 26 = .ok (.aload_n 0, 1) := by decide +kernel
theorem dX11_type_27 : decode cX11_type 27 = .ok (.bipush (-4), 2) := by decide +kernel
theorem dX11_type_29 : decode cX11_type 29 = .ok (.invokevirtual 80, 3) := by decide +kernel
theorem dX11_type_32 : decode cX11_type 32 = .ok (.ireturn, 1) := by decide +kernel
theorem dX11_type_33 : decode cX11_type 33 = .ok (.aload_n 0, 1) := by decide +kernel
theorem dX11_type_34 : decode cX11_type 34 = .ok (.getfield 22, 3) := by decide +kernel
theorem dX11_type_37 : decode cX11_type 37 = .ok (.aload_n 0, 1) := by decide +kernel
theorem dX11_type_38 : decode cX11_type 38 = .ok (.getfield 93, 3) := by decide +kernel
theorem dX11_type_41 : decode cX11_type 41 = .ok (.iload_n 1, 1) := by decide +kernel
theorem dX11_type_42 : decode cX11_type 42 = .ok (.iastore, 1) := by decide +kernel
theorem dX11_type_43 : decode cX11_type 43 = .ok (.aload_n 0, 1) := by decide +kernel
theorem dX11_type_44 : decode cX11_type 44 = .ok (.dup, 1) := by decide +kernel
theorem dX11_type_45 : decode cX11_type 45 = .ok (.getfield 93, 3) := by decide +kernel
theorem dX11_type_48 : decode cX11_type 48 = .ok (.iconst 1, 1) := by decide +kernel
theorem dX11_type_49 : decode cX11_type 49 = .ok (.iadd, 1) := by decide +kernel
theorem dX11_type_50 : decode cX11_type 50 = .ok (.putfield 93, 3) := by decide +kernel
theorem dX11_type_53 : decode cX11_type 53 = .ok (.aload_n 0, 1) := by decide +kernel
theorem dX11_type_54 : decode cX11_type 54 = .ok (.getfield 93, 3) := by decide +kernel
theorem dX11_type_57 : decode cX11_type 57 = .ok (.ireturn, 1) := by decide +kernel
theorem dX11_clear_0 : decode cX11_clear 0 = .ok (.aload_n 0, 1) := by decide +kernel
theorem dX11_clear_1 : decode cX11_clear 1 = .ok (.getfield 93, 3) := by decide +kernel
theorem dX11_clear_4 : decode cX11_clear 4 = .ok (.istore_n 1, 1) := by decide +kernel
theorem dX11_clear_5 : decode cX11_clear 5 = .ok (.aload_n 0, 1) := by decide +kernel
theorem dX11_clear_6 : decode cX11_clear 6 = .ok (.iconst 0, 1) := by decide +kernel
theorem dX11_clear_7 : decode cX11_clear 7 = .ok (.putfield 93, 3) := by decide +kernel
theorem dX11_clear_10 : decode cX11_clear 10 = .ok (.iload_n 1, 1) := by decide +kernel
theorem dX11_clear_11 : decode cX11_clear 11 = .ok (.ireturn, 1) := by decide +kernel
theorem dX11_reads_0 : decode cX11_reads 0 = .ok (.aload_n 0, 1) := by decide +kernel
theorem dX11_reads_1 : decode cX11_reads 1 = .ok (.invokevirtual 138, 3) := by decide +kernel
theorem dX11_reads_4 : decode cX11_reads 4 = .ok (.istore_n 1, 1) := by decide +kernel
theorem dX11_reads_5 : decode cX11_reads 5 = .ok (.iload_n 1, 1) := by decide +kernel
theorem dX11_reads_6 : decode cX11_reads 6 = .ok (.iconst (-1), 1) := by decide +kernel
theorem dX11_reads_7 : decode cX11_reads 7 = .ok (.if_icmp .eq 8, 3) := by decide +kernel
theorem dX11_reads_10 : decode cX11_reads 10 = .ok (.bipush (-10), 2) := by decide +kernel
theorem dX11_reads_12 : decode cX11_reads 12 = .ok (.iload_n 1, 1) := by decide +kernel
theorem dX11_reads_13 : decode cX11_reads 13 = .ok (.isub, 1) := by decide +kernel
theorem dX11_reads_14 : decode cX11_reads 14 = .ok (.ireturn, 1) := by decide +kernel
theorem dX11_reads_15 : decode cX11_reads 15 = .ok (.aload_n 0, 1) := by decide +kernel
theorem dX11_reads_16 : decode cX11_reads 16 = .ok (.invokevirtual 142, 3) := by decide +kernel
theorem dX11_reads_19 : decode cX11_reads 19 = .ok (.aload_n 0, 1) := by decide +kernel
theorem dX11_reads_20 : decode cX11_reads 20 = .ok (.getfield 13, 3) := by decide +kernel
theorem dX11_reads_23 : decode cX11_reads 23 = .ok (.iconst 0, 1) := by decide +kernel
theorem dX11_reads_24 : decode cX11_reads 24 = .ok (.aload_n 0, 1) := by decide +kernel
theorem dX11_reads_25 : decode cX11_reads 25 = .ok (.getfield 7, 3) := by decide +kernel
theorem dX11_reads_28 : decode cX11_reads 28 = .ok (.iconst 0, 1) := by decide +kernel
theorem dX11_reads_29 : decode cX11_reads 29 = .ok (.invokestatic 76, 3) := by decide +kernel
theorem dX11_reads_32 : decode cX11_reads 32 = .ok (.aload_n 0, 1) := by decide +kernel
theorem dX11_reads_33 : decode cX11_reads 33 = .ok (.getfield 7, 3) := by decide +kernel
theorem dX11_reads_36 : decode cX11_reads 36 = .ok (.iconst 0, 1) := by decide +kernel
theorem dX11_reads_37 : decode cX11_reads 37 = .ok (.iaload, 1) := by decide +kernel
theorem dX11_reads_38 : decode cX11_reads 38 = .ok (.ireturn, 1) := by decide +kernel
theorem dX11_term_0 : decode cX11_term 0 = .ok (.aload_n 0, 1) := by decide +kernel
theorem dX11_term_1 : decode cX11_term 1 = .ok (.invokevirtual 145, 3) := by decide +kernel
theorem dX11_term_4 : decode cX11_term 4 = .ok (.istore_n 1, 1) := by decide +kernel
theorem dX11_term_5 : decode cX11_term 5 = .ok (.iload_n 1, 1) := by decide +kernel
theorem dX11_term_6 : decode cX11_term 6 = .ok (.iconst (-1), 1) := by decide +kernel
theorem dX11_term_7 : decode cX11_term 7 = .ok (.if_icmp .eq 8, 3) := by decide +kernel
theorem dX11_term_10 : decode cX11_term 10 = .ok (.bipush (-10), 2) := by decide +kernel
theorem dX11_term_12 : decode cX11_term 12 = .ok (.iload_n 1, 1) := by decide +kernel
theorem dX11_term_13 : decode cX11_term 13 = .ok (.isub, 1) := by decide +kernel
theorem dX11_term_14 : decode cX11_term 14 = .ok (.ireturn, 1) := by decide +kernel
theorem dX11_term_15 : decode cX11_term 15 = .ok (.aload_n 0, 1) := by decide +kernel
theorem dX11_term_16 : decode cX11_term 16 = .ok (.invokevirtual 142, 3) := by decide +kernel
theorem dX11_term_19 : decode cX11_term 19 = .ok (.aload_n 0, 1) := by decide +kernel
theorem dX11_term_20 : decode cX11_term 20 = .ok (.getfield 13, 3) := by decide +kernel
theorem dX11_term_23 : decode cX11_term 23 = .ok (.iconst 0, 1) := by decide +kernel
theorem dX11_term_24 : decode cX11_term 24 = .ok (.aload_n 0, 1) := by decide +kernel
theorem dX11_term_25 : decode cX11_term 25 = .ok (.getfield 7, 3) := by decide +kernel
theorem dX11_term_28 : decode cX11_term 28 = .ok (.iconst 0, 1) := by decide +kernel
theorem dX11_term_29 : decode cX11_term 29 = .ok (.invokestatic 76, 3) := by decide +kernel
theorem dX11_term_32 : decode cX11_term 32 = .ok (.aload_n 0, 1) := by decide +kernel
theorem dX11_term_33 : decode cX11_term 33 = .ok (.getfield 7, 3) := by decide +kernel
theorem dX11_term_36 : decode cX11_term 36 = .ok (.sipush 131, 3) := by decide +kernel
theorem dX11_term_39 : decode cX11_term 39 = .ok (.iaload, 1) := by decide +kernel
theorem dX11_term_40 : decode cX11_term 40 = .ok (.ireturn, 1) := by decide +kernel
theorem dX11_isRule_0 : decode cX11_isRule 0 = .ok (.iload_n 1, 1) := by decide +kernel
theorem dX11_isRule_1 : decode cX11_isRule 1 = .ok (.iconst 0, 1) := by decide +kernel
theorem dX11_isRule_2 : decode cX11_isRule 2 = .ok (.aload_n 0, 1) := by decide +kernel
theorem dX11_isRule_3 : decode cX11_isRule 3 = .ok (.getfield 7, 3) := by decide +kernel
theorem dX11_isRule_6 : decode cX11_isRule 6 = .ok (.iconst 0, 1) := by decide +kernel
theorem dX11_isRule_7 : decode cX11_isRule 7 = .ok (.iaload, 1) := by decide +kernel
theorem dX11_isRule_8 : decode cX11_isRule 8 = .ok (.iconst 1, 1) := by decide +kernel
theorem dX11_isRule_9 : decode cX11_isRule 9 = .ok (.isub, 1) := by decide +kernel
theorem dX11_isRule_10 : decode cX11_isRule 10 = .ok (.invokestatic 96, 3) := by decide +kernel
theorem dX11_isRule_13 : decode cX11_isRule 13 = .ok (.ireturn, 1) := by decide +kernel
theorem dX11_movesRule_0 : decode cX11_movesRule 0 = .ok (.iconst 0, 1) := by decide +kernel
theorem dX11_movesRule_1 : decode cX11_movesRule 1 = .ok (.istore_n 3, 1) := by decide +kernel
theorem dX11_movesRule_2 : decode cX11_movesRule 2 = .ok (.iload_n 3, 1) := by decide +kernel
theorem dX11_movesRule_3 : decode cX11_movesRule 3 = .ok (.bipush 26, 2) := by decide +kernel
theorem dX11_movesRule_5 : decode cX11_movesRule 5 = .ok (.if_icmp .ge 35, 3) := by decide +kernel
theorem dX11_movesRule_8 : decode cX11_movesRule 8 = .ok (.aload_n 0, 1) := by decide +kernel
theorem dX11_movesRule_9 : decode cX11_movesRule 9 = .ok (.getfield 7, 3) := by decide +kernel
theorem dX11_movesRule_12 : decode cX11_movesRule 12 = .ok (.iconst 1, 1) := by decide +kernel
theorem dX11_movesRule_13 : decode cX11_movesRule 13 = .ok (.bipush 26, 2) := by decide +kernel
theorem dX11_movesRule_15 : decode cX11_movesRule 15 = .ok (.iload_n 2, 1) := by decide +kernel
theorem dX11_movesRule_16 : decode cX11_movesRule 16 = .ok (.imul, 1) := by decide +kernel
theorem dX11_movesRule_17 : decode cX11_movesRule 17 = .ok (.iadd, 1) := by decide +kernel
theorem dX11_movesRule_18 : decode cX11_movesRule 18 = .ok (.iload_n 3, 1) := by decide +kernel
theorem dX11_movesRule_19 : decode cX11_movesRule 19 = .ok (.iadd, 1) := by decide +kernel
theorem dX11_movesRule_20 : decode cX11_movesRule 20 = .ok (.aload_n 0, 1) := by decide +kernel
theorem dX11_movesRule_21 : decode cX11_movesRule 21 = .ok (.getfield 7, 3) := by decide +kernel
theorem dX11_movesRule_24 : decode cX11_movesRule 24 = .ok (.iconst 1, 1) := by decide +kernel
theorem dX11_movesRule_25 : decode cX11_movesRule 25 = .ok (.bipush 26, 2) := by decide +kernel
theorem dX11_movesRule_27 : decode cX11_movesRule 27 = .ok (.iload_n 1, 1) := by decide +kernel
theorem dX11_movesRule_28 : decode cX11_movesRule 28 = .ok (.imul, 1) := by decide +kernel
theorem dX11_movesRule_29 : decode cX11_movesRule 29 = .ok (.iadd, 1) := by decide +kernel
theorem dX11_movesRule_30 : decode cX11_movesRule 30 = .ok (.iload_n 3, 1) := by decide +kernel
theorem dX11_movesRule_31 : decode cX11_movesRule 31 = .ok (.iadd, 1) := by decide +kernel
theorem dX11_movesRule_32 : decode cX11_movesRule 32 = .ok (.iaload, 1) := by decide +kernel
theorem dX11_movesRule_33 : decode cX11_movesRule 33 = .ok (.iastore, 1) := by decide +kernel
theorem dX11_movesRule_34 : decode cX11_movesRule 34 = .ok (.iinc 3 1, 3) := by decide +kernel
theorem dX11_movesRule_37 : decode cX11_movesRule 37 = .ok (.goto (-35), 3) := by decide +kernel
theorem dX11_movesRule_40 : decode cX11_movesRule 40 = .ok (.return_, 1) := by decide +kernel
theorem dX11_drops_0 : decode cX11_drops 0 = .ok (.aload_n 0, 1) := by decide +kernel
theorem dX11_drops_1 : decode cX11_drops 1 = .ok (.iload_n 1, 1) := by decide +kernel
theorem dX11_drops_2 : decode cX11_drops 2 = .ok (.invokevirtual 148, 3) := by decide +kernel
theorem dX11_drops_5 : decode cX11_drops 5 = .ok (.ifCond .ne 10, 3) := by decide +kernel
theorem dX11_drops_8 : decode cX11_drops 8 = .ok (.aload_n 0, 1) := by decide +kernel
theorem dX11_drops_9 : decode cX11_drops 9 = .ok (.bipush (-2), 2) := by decide +kernel
theorem dX11_drops_11 : decode cX11_drops 11 = .ok (.invokevirtual 80, 3) := by decide +kernel
theorem dX11_drops_14 : decode cX11_drops 14 = .ok (.ireturn, 1) := by decide +kernel
theorem dX11_drops_15 : decode cX11_drops 15 = .ok (.aload_n 0, 1) := by decide +kernel
theorem dX11_drops_16 : decode cX11_drops 16 = .ok (.invokevirtual 142, 3) := by decide +kernel
theorem dX11_drops_19 : decode cX11_drops 19 = .ok (.iload_n 1, 1) := by decide +kernel
theorem dX11_drops_20 : decode cX11_drops 20 = .ok (.istore_n 2, 1) := by decide +kernel
theorem dX11_drops_21 : decode cX11_drops 21 = .ok (.iload_n 2, 1) := by decide +kernel
theorem dX11_drops_22 : decode cX11_drops 22 = .ok (.aload_n 0, 1) := by decide +kernel
theorem dX11_drops_23 : decode cX11_drops 23 = .ok (.getfield 7, 3) := by decide +kernel
theorem dX11_drops_26 : decode cX11_drops 26 = .ok (.iconst 0, 1) := by decide +kernel
theorem dX11_drops_27 : decode cX11_drops 27 = .ok (.iaload, 1) := by decide +kernel
theorem dX11_drops_28 : decode cX11_drops 28 = .ok (.iconst 1, 1) := by decide +kernel
theorem dX11_drops_29 : decode cX11_drops 29 = .ok (.isub, 1) := by decide +kernel
theorem dX11_drops_30 : decode cX11_drops 30 = .ok (.if_icmp .ge 17, 3) := by decide +kernel
theorem dX11_drops_33 : decode cX11_drops 33 = .ok (.aload_n 0, 1) := by decide +kernel
theorem dX11_drops_34 : decode cX11_drops 34 = .ok (.iload_n 2, 1) := by decide +kernel
theorem dX11_drops_35 : decode cX11_drops 35 = .ok (.iconst 1, 1) := by decide +kernel
theorem dX11_drops_36 : decode cX11_drops 36 = .ok (.iadd, 1) := by decide +kernel
theorem dX11_drops_37 : decode cX11_drops 37 = .ok (.iload_n 2, 1) := by decide +kernel
theorem dX11_drops_38 : decode cX11_drops 38 = .ok (.invokevirtual 151, 3) := by decide +kernel
theorem dX11_drops_41 : decode cX11_drops 41 = .ok (.iinc 2 1, 3) := by decide +kernel
theorem dX11_drops_44 : decode cX11_drops 44 = .ok (.goto (-23), 3) := by decide +kernel
theorem dX11_drops_47 : decode cX11_drops 47 = .ok (.aload_n 0, 1) := by decide +kernel
theorem dX11_drops_48 : decode cX11_drops 48 = .ok (.getfield 7, 3) := by decide +kernel
theorem dX11_drops_51 : decode cX11_drops 51 = .ok (.iconst 0, 1) := by decide +kernel
theorem dX11_drops_52 : decode cX11_drops 52 = .ok (.dup2, 1) := by decide +kernel
theorem dX11_drops_53 : decode cX11_drops 53 = .ok (.iaload, 1) := by decide +kernel
theorem dX11_drops_54 : decode cX11_drops 54 = .ok (.iconst 1, 1) := by decide +kernel
theorem dX11_drops_55 : decode cX11_drops 55 = .ok (.isub, 1) := by decide +kernel
theorem dX11_drops_56 : decode cX11_drops 56 = .ok (.iastore, 1) := by decide +kernel
theorem dX11_drops_57 : decode cX11_drops 57 = .ok (.aload_n 0, 1) := by decide +kernel
theorem dX11_drops_58 : decode cX11_drops 58 = .ok (.getfield 7, 3) := by decide +kernel
theorem dX11_drops_61 : decode cX11_drops 61 = .ok (.iconst 0, 1) := by decide +kernel
theorem dX11_drops_62 : decode cX11_drops 62 = .ok (.iaload, 1) := by decide +kernel
theorem dX11_drops_63 : decode cX11_drops 63 = .ok (.ireturn, 1) := by decide +kernel
theorem dX11_first_0 : decode cX11_first 0 = .ok (.aload_n 0, 1) := by decide +kernel
theorem dX11_first_1 : decode cX11_first 1 = .ok (.iload_n 1, 1) := by decide +kernel
theorem dX11_first_2 : decode cX11_first 2 = .ok (.invokevirtual 148, 3) := by decide +kernel
theorem dX11_first_5 : decode cX11_first 5 = .ok (.ifCond .ne 10, 3) := by decide +kernel
theorem dX11_first_8 : decode cX11_first 8 = .ok (.aload_n 0, 1) := by decide +kernel
theorem dX11_first_9 : decode cX11_first 9 = .ok (.bipush (-2), 2) := by decide +kernel
theorem dX11_first_11 : decode cX11_first 11 = .ok (.invokevirtual 80, 3) := by decide +kernel
theorem dX11_first_14 : decode cX11_first 14 = .ok (.ireturn, 1) := by decide +kernel
theorem dX11_first_15 : decode cX11_first 15 = .ok (.aload_n 0, 1) := by decide +kernel
theorem dX11_first_16 : decode cX11_first 16 = .ok (.invokevirtual 142, 3) := by decide +kernel
theorem dX11_first_19 : decode cX11_first 19 = .ok (.aload_n 0, 1) := by decide +kernel
theorem dX11_first_20 : decode cX11_first 20 = .ok (.getfield 7, 3) := by decide +kernel
theorem dX11_first_23 : decode cX11_first 23 = .ok (.iconst 0, 1) := by decide +kernel
theorem dX11_first_24 : decode cX11_first 24 = .ok (.aload_n 0, 1) := by decide +kernel
theorem dX11_first_25 : decode cX11_first 25 = .ok (.getfield 13, 3) := by decide +kernel
theorem dX11_first_28 : decode cX11_first 28 = .ok (.iconst 0, 1) := by decide +kernel
theorem dX11_first_29 : decode cX11_first 29 = .ok (.invokestatic 76, 3) := by decide +kernel
theorem dX11_first_32 : decode cX11_first 32 = .ok (.iload_n 1, 1) := by decide +kernel
theorem dX11_first_33 : decode cX11_first 33 = .ok (.istore_n 2, 1) := by decide +kernel
theorem dX11_first_34 : decode cX11_first 34 = .ok (.iload_n 2, 1) := by decide +kernel
theorem dX11_first_35 : decode cX11_first 35 = .ok (.ifCond .le 17, 3) := by decide +kernel
theorem dX11_first_38 : decode cX11_first 38 = .ok (.aload_n 0, 1) := by decide +kernel
theorem dX11_first_39 : decode cX11_first 39 = .ok (.iload_n 2, 1) := by decide +kernel
theorem dX11_first_40 : decode cX11_first 40 = .ok (.iconst 1, 1) := by decide +kernel
theorem dX11_first_41 : decode cX11_first 41 = .ok (.isub, 1) := by decide +kernel
theorem dX11_first_42 : decode cX11_first 42 = .ok (.iload_n 2, 1) := by decide +kernel
theorem dX11_first_43 : decode cX11_first 43 = .ok (.invokevirtual 151, 3) := by decide +kernel
theorem dX11_first_46 : decode cX11_first 46 = .ok (.iinc 2 (-1), 3) := by decide +kernel
theorem dX11_first_49 : decode cX11_first 49 = .ok (.goto (-15), 3) := by decide +kernel
theorem dX11_first_52 : decode cX11_first 52 = .ok (.iconst 0, 1) := by decide +kernel
theorem dX11_first_53 : decode cX11_first 53 = .ok (.istore_n 2, 1) := by decide +kernel
theorem dX11_first_54 : decode cX11_first 54 = .ok (.iload_n 2, 1) := by decide +kernel
theorem dX11_first_55 : decode cX11_first 55 = .ok (.bipush 26, 2) := by decide +kernel
theorem dX11_first_57 : decode cX11_first 57 = .ok (.if_icmp .ge 30, 3) := by decide +kernel
theorem dX11_first_60 : decode cX11_first 60 = .ok (.aload_n 0, 1) := by decide +kernel
theorem dX11_first_61 : decode cX11_first 61 = .ok (.getfield 7, 3) := by decide +kernel
theorem dX11_first_64 : decode cX11_first 64 = .ok (.iconst 1, 1) := by decide +kernel
theorem dX11_first_65 : decode cX11_first 65 = .ok (.iload_n 2, 1) := by decide +kernel
theorem dX11_first_66 : decode cX11_first 66 = .ok (.iadd, 1) := by decide +kernel
theorem dX11_first_67 : decode cX11_first 67 = .ok (.aload_n 0, 1) := by decide +kernel
theorem dX11_first_68 : decode cX11_first 68 = .ok (.getfield 13, 3) := by decide +kernel
theorem dX11_first_71 : decode cX11_first 71 = .ok (.iconst 1, 1) := by decide +kernel
theorem dX11_first_72 : decode cX11_first 72 = .ok (.bipush 26, 2) := by decide +kernel
theorem dX11_first_74 : decode cX11_first 74 = .ok (.iload_n 1, 1) := by decide +kernel
theorem dX11_first_75 : decode cX11_first 75 = .ok (.imul, 1) := by decide +kernel
theorem dX11_first_76 : decode cX11_first 76 = .ok (.iadd, 1) := by decide +kernel
theorem dX11_first_77 : decode cX11_first 77 = .ok (.iload_n 2, 1) := by decide +kernel
theorem dX11_first_78 : decode cX11_first 78 = .ok (.iadd, 1) := by decide +kernel
theorem dX11_first_79 : decode cX11_first 79 = .ok (.iaload, 1) := by decide +kernel
theorem dX11_first_80 : decode cX11_first 80 = .ok (.iastore, 1) := by decide +kernel
theorem dX11_first_81 : decode cX11_first 81 = .ok (.iinc 2 1, 3) := by decide +kernel
theorem dX11_first_84 : decode cX11_first 84 = .ok (.goto (-30), 3) := by decide +kernel
theorem dX11_first_87 : decode cX11_first 87 = .ok (.iload_n 1, 1) := by decide +kernel
theorem dX11_first_88 : decode cX11_first 88 = .ok (.ireturn, 1) := by decide +kernel
theorem dX11_heads_0 : decode cX11_heads 0 = .ok (.iconst 0, 1) := by decide +kernel
theorem dX11_heads_1 : decode cX11_heads 1 = .ok (.istore_n 1, 1) := by decide +kernel
theorem dX11_heads_2 : decode cX11_heads 2 = .ok (.iconst 0, 1) := by decide +kernel
theorem dX11_heads_3 : decode cX11_heads 3 = .ok (.istore_n 2, 1) := by decide +kernel
theorem dX11_heads_4 : decode cX11_heads 4 = .ok (.iload_n 2, 1) := by decide +kernel
theorem dX11_heads_5 : decode cX11_heads 5 = .ok (.aload_n 0, 1) := by decide +kernel
theorem dX11_heads_6 : decode cX11_heads 6 = .ok (.getfield 7, 3) := by decide +kernel
theorem dX11_heads_9 : decode cX11_heads 9 = .ok (.iconst 0, 1) := by decide +kernel
theorem dX11_heads_10 : decode cX11_heads 10 = .ok (.iaload, 1) := by decide +kernel
theorem dX11_heads_11 : decode cX11_heads 11 = .ok (.if_icmp .ge 26, 3) := by decide +kernel
theorem dX11_heads_14 : decode cX11_heads 14 = .ok (.iload_n 1, 1) := by decide +kernel
theorem dX11_heads_15 : decode cX11_heads 15 = .ok (.iconst 1, 1) := by decide +kernel
theorem dX11_heads_16 : decode cX11_heads 16 = .ok (.aload_n 0, 1) := by decide +kernel
theorem dX11_heads_17 : decode cX11_heads 17 = .ok (.getfield 7, 3) := by decide +kernel
theorem dX11_heads_20 : decode cX11_heads 20 = .ok (.iload_n 2, 1) := by decide +kernel
theorem dX11_heads_21 : decode cX11_heads 21 = .ok (.invokestatic 117, 3) := by decide +kernel
theorem dX11_heads_24 : decode cX11_heads 24 = .ok (.iaload, 1) := by decide +kernel
theorem dX11_heads_25 : decode cX11_heads 25 = .ok (.bipush 97, 2) := by decide +kernel
theorem dX11_heads_27 : decode cX11_heads 27 = .ok (.isub, 1) := by decide +kernel
theorem dX11_heads_28 : decode cX11_heads 28 = .ok (.ishl, 1) := by decide +kernel
theorem dX11_heads_29 : decode cX11_heads 29 = .ok (.ior, 1) := by decide +kernel
theorem dX11_heads_30 : decode cX11_heads 30 = .ok (.istore_n 1, 1) := by decide +kernel
theorem dX11_heads_31 : decode cX11_heads 31 = .ok (.iinc 2 1, 3) := by decide +kernel
theorem dX11_heads_34 : decode cX11_heads 34 = .ok (.goto (-30), 3) := by decide +kernel
theorem dX11_heads_37 : decode cX11_heads 37 = .ok (.iload_n 1, 1) := by decide +kernel
theorem dX11_heads_38 : decode cX11_heads 38 = .ok (.ireturn, 1) := by decide +kernel
theorem dX11_isHead_0 : decode cX11_isHead 0 = .ok (.aload_n 0, 1) := by decide +kernel
theorem dX11_isHead_1 : decode cX11_isHead 1 = .ok (.invokevirtual 155, 3) := by decide +kernel
theorem dX11_isHead_4 : decode cX11_isHead 4 = .ok (.iload_n 1, 1) := by decide +kernel
theorem dX11_isHead_5 : decode cX11_isHead 5 = .ok (.bipush 97, 2) := by decide +kernel
theorem dX11_isHead_7 : decode cX11_isHead 7 = .ok (.isub, 1) := by decide +kernel
theorem dX11_isHead_8 : decode cX11_isHead 8 = .ok (.ishr, 1) := by decide +kernel
theorem dX11_isHead_9 : decode cX11_isHead 9 = .ok (.iconst 1, 1) := by decide +kernel
theorem dX11_isHead_10 : decode cX11_isHead 10 = .ok (.iand, 1) := by decide +kernel
theorem dX11_isHead_11 : decode cX11_isHead 11 = .ok (.iconst 1, 1) := by decide +kernel
theorem dX11_isHead_12 : decode cX11_isHead 12 = .ok (.if_icmp .ne 7, 3) := by decide +kernel
theorem dX11_isHead_15 : decode cX11_isHead 15 = .ok (.iconst 1, 1) := by decide +kernel
theorem dX11_isHead_16 : decode cX11_isHead 16 = .ok (.goto 4, 3) := by decide +kernel
theorem dX11_isHead_19 : decode cX11_isHead 19 = .ok (.iconst 0, 1) := by decide +kernel
theorem dX11_isHead_20 : decode cX11_isHead 20 = .ok (.ireturn, 1) := by decide +kernel
theorem dX11_ruleTold_0 : decode cX11_ruleTold 0 = .ok (.iload_n 2, 1) := by decide +kernel
theorem dX11_ruleTold_1 : decode cX11_ruleTold 1 = .ok (.tableswitch 103 0 4 #[35, 44, 53, 63, 83], 35) := by decide +kernel
theorem dX11_ruleTold_36 : decode cX11_ruleTold 36 = .ok (.aload_n 0, 1) := by decide +kernel
theorem dX11_ruleTold_37 : decode cX11_ruleTold 37 = .ok (.getfield 7, 3) := by decide +kernel
theorem dX11_ruleTold_40 : decode cX11_ruleTold 40 = .ok (.iload_n 1, 1) := by decide +kernel
theorem dX11_ruleTold_41 : decode cX11_ruleTold 41 = .ok (.invokestatic 158, 3) := by decide +kernel
theorem dX11_ruleTold_44 : decode cX11_ruleTold 44 = .ok (.ireturn, 1) := by decide +kernel
theorem dX11_ruleTold_45 : decode cX11_ruleTold 45 = .ok (.aload_n 0, 1) := by decide +kernel
theorem dX11_ruleTold_46 : decode cX11_ruleTold 46 = .ok (.getfield 7, 3) := by decide +kernel
theorem dX11_ruleTold_49 : decode cX11_ruleTold 49 = .ok (.iload_n 1, 1) := by decide +kernel
theorem dX11_ruleTold_50 : decode cX11_ruleTold 50 = .ok (.invokestatic 162, 3) := by decide +kernel
theorem dX11_ruleTold_53 : decode cX11_ruleTold 53 = .ok (.ireturn, 1) := by decide +kernel
theorem dX11_ruleTold_54 : decode cX11_ruleTold 54 = .ok (.aload_n 0, 1) := by decide +kernel
theorem dX11_ruleTold_55 : decode cX11_ruleTold 55 = .ok (.getfield 7, 3) := by decide +kernel
theorem dX11_ruleTold_58 : decode cX11_ruleTold 58 = .ok (.iload_n 1, 1) := by decide +kernel
theorem dX11_ruleTold_59 : decode cX11_ruleTold 59 = .ok (.invokestatic 117, 3) := by decide +kernel
theorem dX11_ruleTold_62 : decode cX11_ruleTold 62 = .ok (.iaload, 1) := by decide +kernel
theorem dX11_ruleTold_63 : decode cX11_ruleTold 63 = .ok (.ireturn, 1) := by decide +kernel
theorem dX11_ruleTold_64 : decode cX11_ruleTold 64 = .ok (.aload_n 0, 1) := by decide +kernel
theorem dX11_ruleTold_65 : decode cX11_ruleTold 65 = .ok (.getfield 7, 3) := by decide +kernel
theorem dX11_ruleTold_68 : decode cX11_ruleTold 68 = .ok (.iload_n 1, 1) := by decide +kernel
theorem dX11_ruleTold_69 : decode cX11_ruleTold 69 = .ok (.invokestatic 117, 3) := by decide +kernel
theorem dX11_ruleTold_72 : decode cX11_ruleTold 72 = .ok (.aload_n 0, 1) := by decide +kernel
theorem dX11_ruleTold_73 : decode cX11_ruleTold 73 = .ok (.getfield 7, 3) := by decide +kernel
theorem dX11_ruleTold_76 : decode cX11_ruleTold 76 = .ok (.iload_n 1, 1) := by decide +kernel
theorem dX11_ruleTold_77 : decode cX11_ruleTold 77 = .ok (.invokestatic 158, 3) := by decide +kernel
theorem dX11_ruleTold_80 : decode cX11_ruleTold 80 = .ok (.invokestatic 130, 3) := by decide +kernel
theorem dX11_ruleTold_83 : decode cX11_ruleTold 83 = .ok (.ireturn, 1) := by decide +kernel
theorem dX11_ruleTold_84 : decode cX11_ruleTold 84 = .ok (.aload_n 0, 1) := by decide +kernel
theorem dX11_ruleTold_85 : decode cX11_ruleTold 85 = .ok (.getfield 7, 3) := by decide +kernel
theorem dX11_ruleTold_88 : decode cX11_ruleTold 88 = .ok (.iload_n 1, 1) := by decide +kernel
theorem dX11_ruleTold_89 : decode cX11_ruleTold 89 = .ok (.invokestatic 127, 3) := by decide +kernel
theorem dX11_ruleTold_92 : decode cX11_ruleTold 92 = .ok (.aload_n 0, 1) := by decide +kernel
theorem dX11_ruleTold_93 : decode cX11_ruleTold 93 = .ok (.getfield 7, 3) := by decide +kernel
theorem dX11_ruleTold_96 : decode cX11_ruleTold 96 = .ok (.iload_n 1, 1) := by decide +kernel
theorem dX11_ruleTold_97 : decode cX11_ruleTold 97 = .ok (.invokestatic 162, 3) := by decide +kernel
theorem dX11_ruleTold_100 : decode cX11_ruleTold 100 = .ok (.invokestatic 130, 3) := by decide +kernel
theorem dX11_ruleTold_103 : decode cX11_ruleTold 103 = .ok (.ireturn, 1) := by decide +kernel
theorem dX11_ruleTold_104 : decode cX11_ruleTold 104 = .ok (.iconst 0, 1) := by decide +kernel
theorem dX11_ruleTold_105 : decode cX11_ruleTold 105 = .ok (.istore_n 3, 1) := by decide +kernel
theorem dX11_ruleTold_106 : decode cX11_ruleTold 106 = .ok (.iconst 0, 1) := by decide +kernel
theorem dX11_ruleTold_107 : decode cX11_ruleTold 107 = .ok (.istore 4, 2) := by decide +kernel
theorem dX11_ruleTold_109 : decode cX11_ruleTold 109 = .ok (.iload 4, 2) := by decide +kernel
theorem dX11_ruleTold_111 : decode cX11_ruleTold 111 = .ok (.aload_n 0, 1) := by decide +kernel
theorem dX11_ruleTold_112 : decode cX11_ruleTold 112 = .ok (.getfield 7, 3) := by decide +kernel
theorem dX11_ruleTold_115 : decode cX11_ruleTold 115 = .ok (.iload_n 1, 1) := by decide +kernel
theorem dX11_ruleTold_116 : decode cX11_ruleTold 116 = .ok (.invokestatic 162, 3) := by decide +kernel
theorem dX11_ruleTold_119 : decode cX11_ruleTold 119 = .ok (.if_icmp .ge 36, 3) := by decide +kernel
theorem dX11_ruleTold_122 : decode cX11_ruleTold 122 = .ok (.iload_n 3, 1) := by decide +kernel
theorem dX11_ruleTold_123 : decode cX11_ruleTold 123 = .ok (.aload_n 0, 1) := by decide +kernel
theorem dX11_ruleTold_124 : decode cX11_ruleTold 124 = .ok (.aload_n 0, 1) := by decide +kernel
theorem dX11_ruleTold_125 : decode cX11_ruleTold 125 = .ok (.getfield 7, 3) := by decide +kernel
theorem dX11_ruleTold_128 : decode cX11_ruleTold 128 = .ok (.iload_n 1, 1) := by decide +kernel
theorem dX11_ruleTold_129 : decode cX11_ruleTold 129 = .ok (.invokestatic 127, 3) := by decide +kernel
theorem dX11_ruleTold_132 : decode cX11_ruleTold 132 = .ok (.iload 4, 2) := by decide +kernel
theorem dX11_ruleTold_134 : decode cX11_ruleTold 134 = .ok (.iadd, 1) := by decide +kernel
theorem dX11_ruleTold_135 : decode cX11_ruleTold 135 = .ok (.iaload, 1) := by decide +kernel
theorem dX11_ruleTold_136 : decode cX11_ruleTold 136 = .ok (.invokevirtual 165, 3) := by decide +kernel
theorem dX11_ruleTold_139 : decode cX11_ruleTold 139 = .ok (.ifCond .eq 7, 3) := by decide +kernel
theorem dX11_ruleTold_142 : decode cX11_ruleTold 142 = .ok (.iconst 1, 1) := by decide +kernel
theorem dX11_ruleTold_143 : decode cX11_ruleTold 143 = .ok (.goto 4, 3) := by decide +kernel
theorem dX11_ruleTold_146 : decode cX11_ruleTold 146 = .ok (.iconst 0, 1) := by decide +kernel
theorem dX11_ruleTold_147 : decode cX11_ruleTold 147 = .ok (.iadd, 1) := by decide +kernel
theorem dX11_ruleTold_148 : decode cX11_ruleTold 148 = .ok (.istore_n 3, 1) := by decide +kernel
theorem dX11_ruleTold_149 : decode cX11_ruleTold 149 = .ok (.iinc 4 1, 3) := by decide +kernel
theorem dX11_ruleTold_152 : decode cX11_ruleTold 152 = .ok (.goto (-43), 3) := by decide +kernel
theorem dX11_ruleTold_155 : decode cX11_ruleTold 155 = .ok (.iload_n 3, 1) := by decide +kernel
theorem dX11_ruleTold_156 : decode cX11_ruleTold 156 = .ok (.ireturn, 1) := by decide +kernel
theorem dX11_of_0 : decode cX11_of 0 = .ok (.aload_n 0, 1) := by decide +kernel
theorem dX11_of_1 : decode cX11_of 1 = .ok (.iload_n 1, 1) := by decide +kernel
theorem dX11_of_2 : decode cX11_of 2 = .ok (.invokevirtual 148, 3) := by decide +kernel
theorem dX11_of_5 : decode cX11_of 5 = .ok (.ifCond .eq 21, 3) := by decide +kernel
theorem dX11_of_8 : decode cX11_of 8 = .ok (.iload_n 2, 1) := by decide +kernel
theorem dX11_of_9 : decode cX11_of 9 = .ok (.iconst 0, 1) := by decide +kernel
theorem dX11_of_10 : decode cX11_of 10 = .ok (.iconst 5, 1) := by decide +kernel
theorem dX11_of_11 : decode cX11_of 11 = .ok (.invokestatic 96, 3) := by decide +kernel
theorem dX11_of_14 : decode cX11_of 14 = .ok (.ifCond .eq 12, 3) := by decide +kernel
theorem dX11_of_17 : decode cX11_of 17 = .ok (.aload_n 0, 1) := by decide +kernel
theorem dX11_of_18 : decode cX11_of 18 = .ok (.iload_n 1, 1) := by decide +kernel
theorem dX11_of_19 : decode cX11_of 19 = .ok (.iload_n 2, 1) := by decide +kernel
theorem dX11_of_20 : decode cX11_of 20 = .ok (.invokevirtual 168, 3) := by decide +kernel
theorem dX11_of_23 : decode cX11_of 23 = .ok (.goto 9, 3) := by decide +kernel
theorem dX11_of_26 : decode cX11_of 26 = .ok (.aload_n 0, 1) := by decide +kernel
theorem dX11_of_27 : decode cX11_of 27 = .ok (.bipush (-2), 2) := by decide +kernel
theorem dX11_of_29 : decode cX11_of 29 = .ok (.invokevirtual 80, 3) := by decide +kernel
theorem dX11_of_32 : decode cX11_of 32 = .ok (.ireturn, 1) := by decide +kernel
theorem dX11_writes_0 : decode cX11_writes 0 = .ok (.aload_n 0, 1) := by decide +kernel
theorem dX11_writes_1 : decode cX11_writes 1 = .ok (.getfield 28, 3) := by decide +kernel
theorem dX11_writes_4 : decode cX11_writes 4 = .ok (.aload_n 0, 1) := by decide +kernel
theorem dX11_writes_5 : decode cX11_writes 5 = .ok (.getfield 172, 3) := by decide +kernel
theorem dX11_writes_8 : decode cX11_writes 8 = .ok (.iload_n 1, 1) := by decide +kernel
theorem dX11_writes_9 : decode cX11_writes 9 = .ok (.iastore, 1) := by decide +kernel
theorem dX11_writes_10 : decode cX11_writes 10 = .ok (.aload_n 0, 1) := by decide +kernel
theorem dX11_writes_11 : decode cX11_writes 11 = .ok (.dup, 1) := by decide +kernel
theorem dX11_writes_12 : decode cX11_writes 12 = .ok (.getfield 172, 3) := by decide +kernel
theorem dX11_writes_15 : decode cX11_writes 15 = .ok (.iconst 1, 1) := by decide +kernel
theorem dX11_writes_16 : decode cX11_writes 16 = .ok (.iadd, 1) := by decide +kernel
theorem dX11_writes_17 : decode cX11_writes 17 = .ok (.putfield 172, 3) := by decide +kernel
theorem dX11_writes_20 : decode cX11_writes 20 = .ok (.return_, 1) := by decide +kernel
theorem dX11_writesTerm_0 : decode cX11_writesTerm 0 = .ok (.aload_n 0, 1) := by decide +kernel
theorem dX11_writesTerm_1 : decode cX11_writesTerm 1 = .ok (.iconst 0, 1) := by decide +kernel
theorem dX11_writesTerm_2 : decode cX11_writesTerm 2 = .ok (.putfield 87, 3) := by decide +kernel
theorem dX11_writesTerm_5 : decode cX11_writesTerm 5 = .ok (.iconst 0, 1) := by decide +kernel
theorem dX11_writesTerm_6 : decode cX11_writesTerm 6 = .ok (.istore_n 3, 1) := by decide +kernel
theorem dX11_writesTerm_7 : decode cX11_writesTerm 7 = .ok (.iload_n 3, 1) := by decide +kernel
theorem dX11_writesTerm_8 : decode cX11_writesTerm 8 = .ok (.iload_n 2, 1) := by decide +kernel
theorem dX11_writesTerm_9 : decode cX11_writesTerm 9 = .ok (.if_icmp .ge 103, 3) := by decide +kernel
theorem dX11_writesTerm_12 : decode cX11_writesTerm 12 = .ok (.aload_n 0, 1) := by decide +kernel
theorem dX11_writesTerm_13 : decode cX11_writesTerm 13 = .ok (.getfield 87, 3) := by decide +kernel
theorem dX11_writesTerm_16 : decode cX11_writesTerm 16 = .ok (.ifCond .le 45, 3) := by decide +kernel
theorem dX11_writesTerm_19 : decode cX11_writesTerm 19 = .ok (.aload_n 0, 1) := by decide +kernel
theorem dX11_writesTerm_20 : decode cX11_writesTerm 20 = .ok (.getfield 25, 3) := by decide +kernel
theorem dX11_writesTerm_23 : decode cX11_writesTerm 23 = .ok (.aload_n 0, 1) := by decide +kernel
theorem dX11_writesTerm_24 : decode cX11_writesTerm 24 = .ok (.getfield 87, 3) := by decide +kernel
theorem dX11_writesTerm_27 : decode cX11_writesTerm 27 = .ok (.iconst 1, 1) := by decide +kernel
theorem dX11_writesTerm_28 : decode cX11_writesTerm 28 = .ok (.isub, 1) := by decide +kernel
theorem dX11_writesTerm_29 : decode cX11_writesTerm 29 = .ok (.iaload, 1) := by decide +kernel
theorem dX11_writesTerm_30 : decode cX11_writesTerm 30 = .ok (.bipush 84, 2) := by decide +kernel
theorem dX11_writesTerm_32 : decode cX11_writesTerm 32 = .ok (.if_icmp .eq 29, 3) := by decide +kernel
theorem dX11_writesTerm_35 : decode cX11_writesTerm 35 = .ok (.aload_n 0, 1) := by decide +kernel
theorem dX11_writesTerm_36 : decode cX11_writesTerm 36 = .ok (.dup, 1) := by decide +kernel
theorem dX11_writesTerm_37 : decode cX11_writesTerm 37 = .ok (.getfield 87, 3) := by decide +kernel
theorem dX11_writesTerm_40 : decode cX11_writesTerm 40 = .ok (.iconst 1, 1) := by decide +kernel
theorem dX11_writesTerm_41 : decode cX11_writesTerm 41 = .ok (.isub, 1) := by decide +kernel
theorem dX11_writesTerm_42 : decode cX11_writesTerm 42 = .ok (.putfield 87, 3) := by decide +kernel
theorem dX11_writesTerm_45 : decode cX11_writesTerm 45 = .ok (.aload_n 0, 1) := by decide +kernel
theorem dX11_writesTerm_46 : decode cX11_writesTerm 46 = .ok (.aload_n 0, 1) := by decide +kernel
theorem dX11_writesTerm_47 : decode cX11_writesTerm 47 = .ok (.getfield 25, 3) := by decide +kernel
theorem dX11_writesTerm_50 : decode cX11_writesTerm 50 = .ok (.aload_n 0, 1) := by decide +kernel
theorem dX11_writesTerm_51 : decode cX11_writesTerm 51 = .ok (.getfield 87, 3) := by decide +kernel
theorem dX11_writesTerm_54 : decode cX11_writesTerm 54 = .ok (.iaload, 1) := by decide +kernel
theorem dX11_writesTerm_55 : decode cX11_writesTerm 55 = .ok (.invokevirtual 175, 3) := by decide +kernel
theorem dX11_writesTerm_58 : decode cX11_writesTerm 58 = .ok (.goto (-46), 3) := by decide +kernel
theorem dX11_writesTerm_61 : decode cX11_writesTerm 61 = .ok (.aload_n 0, 1) := by decide +kernel
theorem dX11_writesTerm_62 : decode cX11_writesTerm 62 = .ok (.dup, 1) := by decide +kernel
theorem dX11_writesTerm_63 : decode cX11_writesTerm 63 = .ok (.getfield 87, 3) := by decide +kernel
theorem dX11_writesTerm_66 : decode cX11_writesTerm 66 = .ok (.aload_n 0, 1) := by decide +kernel
theorem dX11_writesTerm_67 : decode cX11_writesTerm 67 = .ok (.getfield 87, 3) := by decide +kernel
theorem dX11_writesTerm_70 : decode cX11_writesTerm 70 = .ok (.ifCond .le 7, 3) := by decide +kernel
theorem dX11_writesTerm_73 : decode cX11_writesTerm 73 = .ok (.iconst 1, 1) := by decide +kernel
theorem dX11_writesTerm_74 : decode cX11_writesTerm 74 = .ok (.goto 4, 3) := by decide +kernel
theorem dX11_writesTerm_77 : decode cX11_writesTerm 77 = .ok (.iconst 0, 1) := by decide +kernel
theorem dX11_writesTerm_78 : decode cX11_writesTerm 78 = .ok (.isub, 1) := by decide +kernel
theorem dX11_writesTerm_79 : decode cX11_writesTerm 79 = .ok (.putfield 87, 3) := by decide +kernel
theorem dX11_writesTerm_82 : decode cX11_writesTerm 82 = .ok (.aload_n 0, 1) := by decide +kernel
theorem dX11_writesTerm_83 : decode cX11_writesTerm 83 = .ok (.aload_n 0, 1) := by decide +kernel
theorem dX11_writesTerm_84 : decode cX11_writesTerm 84 = .ok (.getfield 7, 3) := by decide +kernel
theorem dX11_writesTerm_87 : decode cX11_writesTerm 87 = .ok (.iload_n 1, 1) := by decide +kernel
theorem dX11_writesTerm_88 : decode cX11_writesTerm 88 = .ok (.iload_n 3, 1) := by decide +kernel
theorem dX11_writesTerm_89 : decode cX11_writesTerm 89 = .ok (.iadd, 1) := by decide +kernel
theorem dX11_writesTerm_90 : decode cX11_writesTerm 90 = .ok (.iaload, 1) := by decide +kernel
theorem dX11_writesTerm_91 : decode cX11_writesTerm 91 = .ok (.invokevirtual 175, 3) := by decide +kernel
theorem dX11_writesTerm_94 : decode cX11_writesTerm 94 = .ok (.aload_n 0, 1) := by decide +kernel
theorem dX11_writesTerm_95 : decode cX11_writesTerm 95 = .ok (.aload_n 0, 1) := by decide +kernel
theorem dX11_writesTerm_96 : decode cX11_writesTerm 96 = .ok (.getfield 7, 3) := by decide +kernel
theorem dX11_writesTerm_99 : decode cX11_writesTerm 99 = .ok (.iload_n 1, 1) := by decide +kernel
theorem dX11_writesTerm_100 : decode cX11_writesTerm 100 = .ok (.iload_n 3, 1) := by decide +kernel
theorem dX11_writesTerm_101 : decode cX11_writesTerm 101 = .ok (.iadd, 1) := by decide +kernel
theorem dX11_writesTerm_102 : decode cX11_writesTerm 102 = .ok (.iaload, 1) := by decide +kernel
theorem dX11_writesTerm_103 : decode cX11_writesTerm 103 = .ok (.invokevirtual 114, 3) := by decide +kernel
theorem dX11_writesTerm_106 : decode cX11_writesTerm 106 = .ok (.iinc 3 1, 3) := by decide +kernel
theorem dX11_writesTerm_109 : decode cX11_writesTerm 109 = .ok (.goto (-102), 3) := by decide +kernel
theorem dX11_writesTerm_112 : decode cX11_writesTerm 112 = .ok (.aload_n 0, 1) := by decide +kernel
theorem dX11_writesTerm_113 : decode cX11_writesTerm 113 = .ok (.getfield 87, 3) := by decide +kernel
theorem dX11_writesTerm_116 : decode cX11_writesTerm 116 = .ok (.ifCond .le 29, 3) := by decide +kernel
theorem dX11_writesTerm_119 : decode cX11_writesTerm 119 = .ok (.aload_n 0, 1) := by decide +kernel
theorem dX11_writesTerm_120 : decode cX11_writesTerm 120 = .ok (.dup, 1) := by decide +kernel
theorem dX11_writesTerm_121 : decode cX11_writesTerm 121 = .ok (.getfield 87, 3) := by decide +kernel
theorem dX11_writesTerm_124 : decode cX11_writesTerm 124 = .ok (.iconst 1, 1) := by decide +kernel
theorem dX11_writesTerm_125 : decode cX11_writesTerm 125 = .ok (.isub, 1) := by decide +kernel
theorem dX11_writesTerm_126 : decode cX11_writesTerm 126 = .ok (.putfield 87, 3) := by decide +kernel
theorem dX11_writesTerm_129 : decode cX11_writesTerm 129 = .ok (.aload_n 0, 1) := by decide +kernel
theorem dX11_writesTerm_130 : decode cX11_writesTerm 130 = .ok (.aload_n 0, 1) := by decide +kernel
theorem dX11_writesTerm_131 : decode cX11_writesTerm 131 = .ok (.getfield 25, 3) := by decide +kernel
theorem dX11_writesTerm_134 : decode cX11_writesTerm 134 = .ok (.aload_n 0, 1) := by decide +kernel
theorem dX11_writesTerm_135 : decode cX11_writesTerm 135 = .ok (.getfield 87, 3) := by decide +kernel
theorem dX11_writesTerm_138 : decode cX11_writesTerm 138 = .ok (.iaload, 1) := by decide +kernel
theorem dX11_writesTerm_139 : decode cX11_writesTerm 139 = .ok (.invokevirtual 175, 3) := by decide +kernel
theorem dX11_writesTerm_142 : decode cX11_writesTerm 142 = .ok (.goto (-30), 3) := by decide +kernel
theorem dX11_writesTerm_145 : decode cX11_writesTerm 145 = .ok (.return_, 1) := by decide +kernel
theorem dX11_shown_0 : decode cX11_shown 0 = .ok (.aload_n 0, 1) := by decide +kernel
theorem dX11_shown_1 : decode cX11_shown 1 = .ok (.iload_n 1, 1) := by decide +kernel
theorem dX11_shown_2 : decode cX11_shown 2 = .ok (.invokevirtual 148, 3) := by decide +kernel
theorem dX11_shown_5 : decode cX11_shown 5 = .ok (.ifCond .eq 8, 3) := by decide +kernel
theorem dX11_shown_8 : decode cX11_shown 8 = .ok (.iload_n 2, 1) := by decide +kernel
theorem dX11_shown_9 : decode cX11_shown 9 = .ok (.iconst (-1), 1) := by decide +kernel
theorem dX11_shown_10 : decode cX11_shown 10 = .ok (.if_icmp .ge 10, 3) := by decide +kernel
theorem dX11_shown_13 : decode cX11_shown 13 = .ok (.aload_n 0, 1) := by decide +kernel
theorem dX11_shown_14 : decode cX11_shown 14 = .ok (.bipush (-2), 2) := by decide +kernel
theorem dX11_shown_16 : decode cX11_shown 16 = .ok (.invokevirtual 80, 3) := by decide +kernel
theorem dX11_shown_19 : decode cX11_shown 19 = .ok (.ireturn, 1) := by decide +kernel
theorem dX11_shown_20 : decode cX11_shown 20 = .ok (.aload_n 0, 1) := by decide +kernel
theorem dX11_shown_21 : decode cX11_shown 21 = .ok (.iconst 0, 1) := by decide +kernel
theorem dX11_shown_22 : decode cX11_shown 22 = .ok (.putfield 172, 3) := by decide +kernel
theorem dX11_shown_25 : decode cX11_shown 25 = .ok (.aload_n 0, 1) := by decide +kernel
theorem dX11_shown_26 : decode cX11_shown 26 = .ok (.iload_n 1, 1) := by decide +kernel
theorem dX11_shown_27 : decode cX11_shown 27 = .ok (.invokestatic 117, 3) := by decide +kernel
theorem dX11_shown_30 : decode cX11_shown 30 = .ok (.aload_n 0, 1) := by decide +kernel
theorem dX11_shown_31 : decode cX11_shown 31 = .ok (.getfield 7, 3) := by decide +kernel
theorem dX11_shown_34 : decode cX11_shown 34 = .ok (.iload_n 1, 1) := by decide +kernel
theorem dX11_shown_35 : decode cX11_shown 35 = .ok (.invokestatic 158, 3) := by decide +kernel
theorem dX11_shown_38 : decode cX11_shown 38 = .ok (.invokevirtual 178, 3) := by decide +kernel
theorem dX11_shown_41 : decode cX11_shown 41 = .ok (.aload_n 0, 1) := by decide +kernel
theorem dX11_shown_42 : decode cX11_shown 42 = .ok (.bipush 62, 2) := by decide +kernel
theorem dX11_shown_44 : decode cX11_shown 44 = .ok (.invokevirtual 175, 3) := by decide +kernel
theorem dX11_shown_47 : decode cX11_shown 47 = .ok (.aload_n 0, 1) := by decide +kernel
theorem dX11_shown_48 : decode cX11_shown 48 = .ok (.iload_n 1, 1) := by decide +kernel
theorem dX11_shown_49 : decode cX11_shown 49 = .ok (.invokestatic 127, 3) := by decide +kernel
theorem dX11_shown_52 : decode cX11_shown 52 = .ok (.aload_n 0, 1) := by decide +kernel
theorem dX11_shown_53 : decode cX11_shown 53 = .ok (.getfield 7, 3) := by decide +kernel
theorem dX11_shown_56 : decode cX11_shown 56 = .ok (.iload_n 1, 1) := by decide +kernel
theorem dX11_shown_57 : decode cX11_shown 57 = .ok (.invokestatic 162, 3) := by decide +kernel
theorem dX11_shown_60 : decode cX11_shown 60 = .ok (.invokevirtual 178, 3) := by decide +kernel
end
section
theorem dX11_shown_63 : decode cX11_shown 63 = .ok (.iload_n 2, 1) := by decide +kernel
theorem dX11_shown_64 : decode cX11_shown 64 = .ok (.iconst (-1), 1) := by decide +kernel
theorem dX11_shown_65 : decode cX11_shown 65 = .ok (.if_icmp .ne 10, 3) := by decide +kernel
theorem dX11_shown_68 : decode cX11_shown 68 = .ok (.aload_n 0, 1) := by decide +kernel
theorem dX11_shown_69 : decode cX11_shown 69 = .ok (.getfield 172, 3) := by decide +kernel
theorem dX11_shown_72 : decode cX11_shown 72 = .ok (.goto 22, 3) := by decide +kernel
theorem dX11_shown_75 : decode cX11_shown 75 = .ok (.iload_n 2, 1) := by decide +kernel
theorem dX11_shown_76 : decode cX11_shown 76 = .ok (.aload_n 0, 1) := by decide +kernel
theorem dX11_shown_77 : decode cX11_shown 77 = .ok (.getfield 172, 3) := by decide +kernel
theorem dX11_shown_80 : decode cX11_shown 80 = .ok (.if_icmp .ge 12, 3) := by decide +kernel
theorem dX11_shown_83 : decode cX11_shown 83 = .ok (.aload_n 0, 1) := by decide +kernel
theorem dX11_shown_84 : decode cX11_shown 84 = .ok (.getfield 28, 3) := by decide +kernel
theorem dX11_shown_87 : decode cX11_shown 87 = .ok (.iload_n 2, 1) := by decide +kernel
theorem dX11_shown_88 : decode cX11_shown 88 = .ok (.iaload, 1) := by decide +kernel
theorem dX11_shown_89 : decode cX11_shown 89 = .ok (.goto 5, 3) := by decide +kernel
theorem dX11_shown_92 : decode cX11_shown 92 = .ok (.bipush (-5), 2) := by decide +kernel
theorem dX11_shown_94 : decode cX11_shown 94 = .ok (.ireturn, 1) := by decide +kernel
theorem dX11_laysFigures_0 : decode cX11_laysFigures 0 = .ok (.iload_n 1, 1) := by decide +kernel
theorem dX11_laysFigures_1 : decode cX11_laysFigures 1 = .ok (.istore_n 3, 1) := by decide +kernel
theorem dX11_laysFigures_2 : decode cX11_laysFigures 2 = .ok (.iload_n 1, 1) := by decide +kernel
theorem dX11_laysFigures_3 : decode cX11_laysFigures 3 = .ok (.ifCond .lt 7, 3) := by decide +kernel
theorem dX11_laysFigures_6 : decode cX11_laysFigures 6 = .ok (.iconst 1, 1) := by decide +kernel
theorem dX11_laysFigures_7 : decode cX11_laysFigures 7 = .ok (.goto 4, 3) := by decide +kernel
theorem dX11_laysFigures_10 : decode cX11_laysFigures 10 = .ok (.iconst 0, 1) := by decide +kernel
theorem dX11_laysFigures_11 : decode cX11_laysFigures 11 = .ok (.istore 4, 2) := by decide +kernel
theorem dX11_laysFigures_13 : decode cX11_laysFigures 13 = .ok (.bipush 6, 2) := by decide +kernel
theorem dX11_laysFigures_15 : decode cX11_laysFigures 15 = .ok (.istore 5, 2) := by decide +kernel
theorem dX11_laysFigures_17 : decode cX11_laysFigures 17 = .ok (.iload 5, 2) := by decide +kernel
theorem dX11_laysFigures_19 : decode cX11_laysFigures 19 = .ok (.ifCond .lt 48, 3) := by decide +kernel
theorem dX11_laysFigures_22 : decode cX11_laysFigures 22 = .ok (.aload_n 0, 1) := by decide +kernel
theorem dX11_laysFigures_23 : decode cX11_laysFigures 23 = .ok (.getfield 31, 3) := by decide +kernel
theorem dX11_laysFigures_26 : decode cX11_laysFigures 26 = .ok (.iload 5, 2) := by decide +kernel
theorem dX11_laysFigures_28 : decode cX11_laysFigures 28 = .ok (.iload_n 3, 1) := by decide +kernel
theorem dX11_laysFigures_29 : decode cX11_laysFigures 29 = .ok (.bipush 10, 2) := by decide +kernel
theorem dX11_laysFigures_31 : decode cX11_laysFigures 31 = .ok (.irem, 1) := by decide +kernel
theorem dX11_laysFigures_32 : decode cX11_laysFigures 32 = .ok (.iastore, 1) := by decide +kernel
theorem dX11_laysFigures_33 : decode cX11_laysFigures 33 = .ok (.iload_n 3, 1) := by decide +kernel
theorem dX11_laysFigures_34 : decode cX11_laysFigures 34 = .ok (.bipush 10, 2) := by decide +kernel
theorem dX11_laysFigures_36 : decode cX11_laysFigures 36 = .ok (.idiv, 1) := by decide +kernel
theorem dX11_laysFigures_37 : decode cX11_laysFigures 37 = .ok (.istore_n 3, 1) := by decide +kernel
theorem dX11_laysFigures_38 : decode cX11_laysFigures 38 = .ok (.iload 4, 2) := by decide +kernel
theorem dX11_laysFigures_40 : decode cX11_laysFigures 40 = .ok (.ifCond .eq 18, 3) := by decide +kernel
theorem dX11_laysFigures_43 : decode cX11_laysFigures 43 = .ok (.aload_n 0, 1) := by decide +kernel
theorem dX11_laysFigures_44 : decode cX11_laysFigures 44 = .ok (.getfield 31, 3) := by decide +kernel
theorem dX11_laysFigures_47 : decode cX11_laysFigures 47 = .ok (.iload 5, 2) := by decide +kernel
theorem dX11_laysFigures_49 : decode cX11_laysFigures 49 = .ok (.iaload, 1) := by decide +kernel
theorem dX11_laysFigures_50 : decode cX11_laysFigures 50 = .ok (.iload_n 2, 1) := by decide +kernel
theorem dX11_laysFigures_51 : decode cX11_laysFigures 51 = .ok (.if_icmp .gt 7, 3) := by decide +kernel
theorem dX11_laysFigures_54 : decode cX11_laysFigures 54 = .ok (.iconst 1, 1) := by decide +kernel
theorem dX11_laysFigures_55 : decode cX11_laysFigures 55 = .ok (.goto 4, 3) := by decide +kernel
theorem dX11_laysFigures_58 : decode cX11_laysFigures 58 = .ok (.iconst 0, 1) := by decide +kernel
theorem dX11_laysFigures_59 : decode cX11_laysFigures 59 = .ok (.istore 4, 2) := by decide +kernel
theorem dX11_laysFigures_61 : decode cX11_laysFigures 61 = .ok (.iinc 5 (-1), 3) := by decide +kernel
theorem dX11_laysFigures_64 : decode cX11_laysFigures 64 = .ok (.goto (-47), 3) := by decide +kernel
theorem dX11_laysFigures_67 : decode cX11_laysFigures 67 = .ok (.iload 4, 2) := by decide +kernel
theorem dX11_laysFigures_69 : decode cX11_laysFigures 69 = .ok (.ifCond .eq 11, 3) := by decide +kernel
theorem dX11_laysFigures_72 : decode cX11_laysFigures 72 = .ok (.iload_n 3, 1) := by decide +kernel
theorem dX11_laysFigures_73 : decode cX11_laysFigures 73 = .ok (.ifCond .ne 7, 3) := by decide +kernel
theorem dX11_laysFigures_76 : decode cX11_laysFigures 76 = .ok (.iconst 1, 1) := by decide +kernel
theorem dX11_laysFigures_77 : decode cX11_laysFigures 77 = .ok (.goto 4, 3) := by decide +kernel
theorem dX11_laysFigures_80 : decode cX11_laysFigures 80 = .ok (.iconst 0, 1) := by decide +kernel
theorem dX11_laysFigures_81 : decode cX11_laysFigures 81 = .ok (.ireturn, 1) := by decide +kernel
theorem dX11_weighsTerm_0 : decode cX11_weighsTerm 0 = .ok (.iconst 0, 1) := by decide +kernel
theorem dX11_weighsTerm_1 : decode cX11_weighsTerm 1 = .ok (.istore 4, 2) := by decide +kernel
theorem dX11_weighsTerm_3 : decode cX11_weighsTerm 3 = .ok (.iload_n 3, 1) := by decide +kernel
theorem dX11_weighsTerm_4 : decode cX11_weighsTerm 4 = .ok (.iconst 1, 1) := by decide +kernel
theorem dX11_weighsTerm_5 : decode cX11_weighsTerm 5 = .ok (.isub, 1) := by decide +kernel
theorem dX11_weighsTerm_6 : decode cX11_weighsTerm 6 = .ok (.istore 5, 2) := by decide +kernel
theorem dX11_weighsTerm_8 : decode cX11_weighsTerm 8 = .ok (.iload 5, 2) := by decide +kernel
theorem dX11_weighsTerm_10 : decode cX11_weighsTerm 10 = .ok (.ifCond .lt 376, 3) := by decide +kernel
theorem dX11_weighsTerm_13 : decode cX11_weighsTerm 13 = .ok (.aload_n 1, 1) := by decide +kernel
theorem dX11_weighsTerm_14 : decode cX11_weighsTerm 14 = .ok (.iload_n 2, 1) := by decide +kernel
theorem dX11_weighsTerm_15 : decode cX11_weighsTerm 15 = .ok (.iload 5, 2) := by decide +kernel
theorem dX11_weighsTerm_17 : decode cX11_weighsTerm 17 = .ok (.iadd, 1) := by decide +kernel
theorem dX11_weighsTerm_18 : decode cX11_weighsTerm 18 = .ok (.iaload, 1) := by decide +kernel
theorem dX11_weighsTerm_19 : decode cX11_weighsTerm 19 = .ok (.istore 6, 2) := by decide +kernel
theorem dX11_weighsTerm_21 : decode cX11_weighsTerm 21 = .ok (.iload 6, 2) := by decide +kernel
theorem dX11_weighsTerm_23 : decode cX11_weighsTerm 23 = .ok (.bipush 102, 2) := by decide +kernel
theorem dX11_weighsTerm_25 : decode cX11_weighsTerm 25 = .ok (.if_icmp .ne 104, 3) := by decide +kernel
theorem dX11_weighsTerm_28 : decode cX11_weighsTerm 28 = .ok (.aload_n 0, 1) := by decide +kernel
theorem dX11_weighsTerm_29 : decode cX11_weighsTerm 29 = .ok (.getfield 34, 3) := by decide +kernel
theorem dX11_weighsTerm_32 : decode cX11_weighsTerm 32 = .ok (.iload 4, 2) := by decide +kernel
theorem dX11_weighsTerm_34 : decode cX11_weighsTerm 34 = .ok (.iconst 1, 1) := by decide +kernel
theorem dX11_weighsTerm_35 : decode cX11_weighsTerm 35 = .ok (.isub, 1) := by decide +kernel
theorem dX11_weighsTerm_36 : decode cX11_weighsTerm 36 = .ok (.aload_n 0, 1) := by decide +kernel
theorem dX11_weighsTerm_37 : decode cX11_weighsTerm 37 = .ok (.getfield 31, 3) := by decide +kernel
theorem dX11_weighsTerm_40 : decode cX11_weighsTerm 40 = .ok (.iconst 2, 1) := by decide +kernel
theorem dX11_weighsTerm_41 : decode cX11_weighsTerm 41 = .ok (.iaload, 1) := by decide +kernel
theorem dX11_weighsTerm_42 : decode cX11_weighsTerm 42 = .ok (.i2l, 1) := by decide +kernel
theorem dX11_weighsTerm_43 : decode cX11_weighsTerm 43 = .ok (.aload_n 0, 1) := by decide +kernel
theorem dX11_weighsTerm_44 : decode cX11_weighsTerm 44 = .ok (.getfield 31, 3) := by decide +kernel
theorem dX11_weighsTerm_47 : decode cX11_weighsTerm 47 = .ok (.iconst 4, 1) := by decide +kernel
theorem dX11_weighsTerm_48 : decode cX11_weighsTerm 48 = .ok (.iaload, 1) := by decide +kernel
theorem dX11_weighsTerm_49 : decode cX11_weighsTerm 49 = .ok (.i2l, 1) := by decide +kernel
theorem dX11_weighsTerm_50 : decode cX11_weighsTerm 50 = .ok (.aload_n 0, 1) := by decide +kernel
theorem dX11_weighsTerm_51 : decode cX11_weighsTerm 51 = .ok (.getfield 34, 3) := by decide +kernel
theorem dX11_weighsTerm_54 : decode cX11_weighsTerm 54 = .ok (.iload 4, 2) := by decide +kernel
theorem dX11_weighsTerm_56 : decode cX11_weighsTerm 56 = .ok (.iconst 1, 1) := by decide +kernel
theorem dX11_weighsTerm_57 : decode cX11_weighsTerm 57 = .ok (.isub, 1) := by decide +kernel
theorem dX11_weighsTerm_58 : decode cX11_weighsTerm 58 = .ok (.laload, 1) := by decide +kernel
theorem dX11_weighsTerm_59 : decode cX11_weighsTerm 59 = .ok (.lmul, 1) := by decide +kernel
theorem dX11_weighsTerm_60 : decode cX11_weighsTerm 60 = .ok (.ladd, 1) := by decide +kernel
theorem dX11_weighsTerm_61 : decode cX11_weighsTerm 61 = .ok (.ldc2_w 181, 3) := by decide +kernel
theorem dX11_weighsTerm_64 : decode cX11_weighsTerm 64 = .ok (.lrem, 1) := by decide +kernel
theorem dX11_weighsTerm_65 : decode cX11_weighsTerm 65 = .ok (.lastore, 1) := by decide +kernel
theorem dX11_weighsTerm_66 : decode cX11_weighsTerm 66 = .ok (.aload_n 0, 1) := by decide +kernel
theorem dX11_weighsTerm_67 : decode cX11_weighsTerm 67 = .ok (.getfield 38, 3) := by decide +kernel
theorem dX11_weighsTerm_70 : decode cX11_weighsTerm 70 = .ok (.iload 4, 2) := by decide +kernel
theorem dX11_weighsTerm_72 : decode cX11_weighsTerm 72 = .ok (.iconst 1, 1) := by decide +kernel
theorem dX11_weighsTerm_73 : decode cX11_weighsTerm 73 = .ok (.isub, 1) := by decide +kernel
theorem dX11_weighsTerm_74 : decode cX11_weighsTerm 74 = .ok (.aload_n 0, 1) := by decide +kernel
theorem dX11_weighsTerm_75 : decode cX11_weighsTerm 75 = .ok (.getfield 31, 3) := by decide +kernel
theorem dX11_weighsTerm_78 : decode cX11_weighsTerm 78 = .ok (.iconst 4, 1) := by decide +kernel
theorem dX11_weighsTerm_79 : decode cX11_weighsTerm 79 = .ok (.iaload, 1) := by decide +kernel
theorem dX11_weighsTerm_80 : decode cX11_weighsTerm 80 = .ok (.i2l, 1) := by decide +kernel
theorem dX11_weighsTerm_81 : decode cX11_weighsTerm 81 = .ok (.aload_n 0, 1) := by decide +kernel
theorem dX11_weighsTerm_82 : decode cX11_weighsTerm 82 = .ok (.getfield 38, 3) := by decide +kernel
theorem dX11_weighsTerm_85 : decode cX11_weighsTerm 85 = .ok (.iload 4, 2) := by decide +kernel
theorem dX11_weighsTerm_87 : decode cX11_weighsTerm 87 = .ok (.iconst 1, 1) := by decide +kernel
theorem dX11_weighsTerm_88 : decode cX11_weighsTerm 88 = .ok (.isub, 1) := by decide +kernel
theorem dX11_weighsTerm_89 : decode cX11_weighsTerm 89 = .ok (.laload, 1) := by decide +kernel
theorem dX11_weighsTerm_90 : decode cX11_weighsTerm 90 = .ok (.lmul, 1) := by decide +kernel
theorem dX11_weighsTerm_91 : decode cX11_weighsTerm 91 = .ok (.ldc2_w 181, 3) := by decide +kernel
theorem dX11_weighsTerm_94 : decode cX11_weighsTerm 94 = .ok (.lrem, 1) := by decide +kernel
theorem dX11_weighsTerm_95 : decode cX11_weighsTerm 95 = .ok (.lastore, 1) := by decide +kernel
theorem dX11_weighsTerm_96 : decode cX11_weighsTerm 96 = .ok (.aload_n 0, 1) := by decide +kernel
theorem dX11_weighsTerm_97 : decode cX11_weighsTerm 97 = .ok (.getfield 41, 3) := by decide +kernel
theorem dX11_weighsTerm_100 : decode cX11_weighsTerm 100 = .ok (.iload 4, 2) := by decide +kernel
theorem dX11_weighsTerm_102 : decode cX11_weighsTerm 102 = .ok (.iconst 1, 1) := by decide +kernel
theorem dX11_weighsTerm_103 : decode cX11_weighsTerm 103 = .ok (.isub, 1) := by decide +kernel
theorem dX11_weighsTerm_104 : decode cX11_weighsTerm 104 = .ok (.aload_n 0, 1) := by decide +kernel
theorem dX11_weighsTerm_105 : decode cX11_weighsTerm 105 = .ok (.getfield 31, 3) := by decide +kernel
theorem dX11_weighsTerm_108 : decode cX11_weighsTerm 108 = .ok (.iconst 4, 1) := by decide +kernel
theorem dX11_weighsTerm_109 : decode cX11_weighsTerm 109 = .ok (.iaload, 1) := by decide +kernel
theorem dX11_weighsTerm_110 : decode cX11_weighsTerm 110 = .ok (.i2l, 1) := by decide +kernel
theorem dX11_weighsTerm_111 : decode cX11_weighsTerm 111 = .ok (.aload_n 0, 1) := by decide +kernel
theorem dX11_weighsTerm_112 : decode cX11_weighsTerm 112 = .ok (.getfield 41, 3) := by decide +kernel
theorem dX11_weighsTerm_115 : decode cX11_weighsTerm 115 = .ok (.iload 4, 2) := by decide +kernel
theorem dX11_weighsTerm_117 : decode cX11_weighsTerm 117 = .ok (.iconst 1, 1) := by decide +kernel
theorem dX11_weighsTerm_118 : decode cX11_weighsTerm 118 = .ok (.isub, 1) := by decide +kernel
theorem dX11_weighsTerm_119 : decode cX11_weighsTerm 119 = .ok (.laload, 1) := by decide +kernel
theorem dX11_weighsTerm_120 : decode cX11_weighsTerm 120 = .ok (.lmul, 1) := by decide +kernel
theorem dX11_weighsTerm_121 : decode cX11_weighsTerm 121 = .ok (.ldc2_w 181, 3) := by decide +kernel
theorem dX11_weighsTerm_124 : decode cX11_weighsTerm 124 = .ok (.lrem, 1) := by decide +kernel
theorem dX11_weighsTerm_125 : decode cX11_weighsTerm 125 = .ok (.lastore, 1) := by decide +kernel
theorem dX11_weighsTerm_126 : decode cX11_weighsTerm 126 = .ok (.goto 254, 3) := by decide +kernel
theorem dX11_weighsTerm_129 : decode cX11_weighsTerm 129 = .ok (.iload 6, 2) := by decide +kernel
theorem dX11_weighsTerm_131 : decode cX11_weighsTerm 131 = .ok (.bipush 103, 2) := by decide +kernel
theorem dX11_weighsTerm_133 : decode cX11_weighsTerm 133 = .ok (.if_icmp .ne 164, 3) := by decide +kernel
theorem dX11_weighsTerm_136 : decode cX11_weighsTerm 136 = .ok (.aload_n 0, 1) := by decide +kernel
theorem dX11_weighsTerm_137 : decode cX11_weighsTerm 137 = .ok (.getfield 34, 3) := by decide +kernel
theorem dX11_weighsTerm_140 : decode cX11_weighsTerm 140 = .ok (.iload 4, 2) := by decide +kernel
theorem dX11_weighsTerm_142 : decode cX11_weighsTerm 142 = .ok (.iconst 2, 1) := by decide +kernel
theorem dX11_weighsTerm_143 : decode cX11_weighsTerm 143 = .ok (.isub, 1) := by decide +kernel
theorem dX11_weighsTerm_144 : decode cX11_weighsTerm 144 = .ok (.aload_n 0, 1) := by decide +kernel
theorem dX11_weighsTerm_145 : decode cX11_weighsTerm 145 = .ok (.getfield 31, 3) := by decide +kernel
theorem dX11_weighsTerm_148 : decode cX11_weighsTerm 148 = .ok (.iconst 3, 1) := by decide +kernel
theorem dX11_weighsTerm_149 : decode cX11_weighsTerm 149 = .ok (.iaload, 1) := by decide +kernel
theorem dX11_weighsTerm_150 : decode cX11_weighsTerm 150 = .ok (.i2l, 1) := by decide +kernel
theorem dX11_weighsTerm_151 : decode cX11_weighsTerm 151 = .ok (.aload_n 0, 1) := by decide +kernel
theorem dX11_weighsTerm_152 : decode cX11_weighsTerm 152 = .ok (.getfield 31, 3) := by decide +kernel
theorem dX11_weighsTerm_155 : decode cX11_weighsTerm 155 = .ok (.iconst 5, 1) := by decide +kernel
theorem dX11_weighsTerm_156 : decode cX11_weighsTerm 156 = .ok (.iaload, 1) := by decide +kernel
theorem dX11_weighsTerm_157 : decode cX11_weighsTerm 157 = .ok (.i2l, 1) := by decide +kernel
theorem dX11_weighsTerm_158 : decode cX11_weighsTerm 158 = .ok (.aload_n 0, 1) := by decide +kernel
theorem dX11_weighsTerm_159 : decode cX11_weighsTerm 159 = .ok (.getfield 34, 3) := by decide +kernel
theorem dX11_weighsTerm_162 : decode cX11_weighsTerm 162 = .ok (.iload 4, 2) := by decide +kernel
theorem dX11_weighsTerm_164 : decode cX11_weighsTerm 164 = .ok (.iconst 1, 1) := by decide +kernel
theorem dX11_weighsTerm_165 : decode cX11_weighsTerm 165 = .ok (.isub, 1) := by decide +kernel
theorem dX11_weighsTerm_166 : decode cX11_weighsTerm 166 = .ok (.laload, 1) := by decide +kernel
theorem dX11_weighsTerm_167 : decode cX11_weighsTerm 167 = .ok (.lmul, 1) := by decide +kernel
theorem dX11_weighsTerm_168 : decode cX11_weighsTerm 168 = .ok (.ladd, 1) := by decide +kernel
theorem dX11_weighsTerm_169 : decode cX11_weighsTerm 169 = .ok (.aload_n 0, 1) := by decide +kernel
theorem dX11_weighsTerm_170 : decode cX11_weighsTerm 170 = .ok (.getfield 31, 3) := by decide +kernel
theorem dX11_weighsTerm_173 : decode cX11_weighsTerm 173 = .ok (.bipush 6, 2) := by decide +kernel
theorem dX11_weighsTerm_175 : decode cX11_weighsTerm 175 = .ok (.iaload, 1) := by decide +kernel
theorem dX11_weighsTerm_176 : decode cX11_weighsTerm 176 = .ok (.i2l, 1) := by decide +kernel
theorem dX11_weighsTerm_177 : decode cX11_weighsTerm 177 = .ok (.aload_n 0, 1) := by decide +kernel
theorem dX11_weighsTerm_178 : decode cX11_weighsTerm 178 = .ok (.getfield 34, 3) := by decide +kernel
theorem dX11_weighsTerm_181 : decode cX11_weighsTerm 181 = .ok (.iload 4, 2) := by decide +kernel
theorem dX11_weighsTerm_183 : decode cX11_weighsTerm 183 = .ok (.iconst 2, 1) := by decide +kernel
theorem dX11_weighsTerm_184 : decode cX11_weighsTerm 184 = .ok (.isub, 1) := by decide +kernel
theorem dX11_weighsTerm_185 : decode cX11_weighsTerm 185 = .ok (.laload, 1) := by decide +kernel
theorem dX11_weighsTerm_186 : decode cX11_weighsTerm 186 = .ok (.lmul, 1) := by decide +kernel
theorem dX11_weighsTerm_187 : decode cX11_weighsTerm 187 = .ok (.ladd, 1) := by decide +kernel
theorem dX11_weighsTerm_188 : decode cX11_weighsTerm 188 = .ok (.ldc2_w 181, 3) := by decide +kernel
theorem dX11_weighsTerm_191 : decode cX11_weighsTerm 191 = .ok (.lrem, 1) := by decide +kernel
theorem dX11_weighsTerm_192 : decode cX11_weighsTerm 192 = .ok (.lastore, 1) := by decide +kernel
theorem dX11_weighsTerm_193 : decode cX11_weighsTerm 193 = .ok (.aload_n 0, 1) := by decide +kernel
theorem dX11_weighsTerm_194 : decode cX11_weighsTerm 194 = .ok (.getfield 38, 3) := by decide +kernel
theorem dX11_weighsTerm_197 : decode cX11_weighsTerm 197 = .ok (.iload 4, 2) := by decide +kernel
theorem dX11_weighsTerm_199 : decode cX11_weighsTerm 199 = .ok (.iconst 2, 1) := by decide +kernel
theorem dX11_weighsTerm_200 : decode cX11_weighsTerm 200 = .ok (.isub, 1) := by decide +kernel
theorem dX11_weighsTerm_201 : decode cX11_weighsTerm 201 = .ok (.aload_n 0, 1) := by decide +kernel
theorem dX11_weighsTerm_202 : decode cX11_weighsTerm 202 = .ok (.getfield 31, 3) := by decide +kernel
theorem dX11_weighsTerm_205 : decode cX11_weighsTerm 205 = .ok (.iconst 5, 1) := by decide +kernel
theorem dX11_weighsTerm_206 : decode cX11_weighsTerm 206 = .ok (.iaload, 1) := by decide +kernel
theorem dX11_weighsTerm_207 : decode cX11_weighsTerm 207 = .ok (.i2l, 1) := by decide +kernel
theorem dX11_weighsTerm_208 : decode cX11_weighsTerm 208 = .ok (.aload_n 0, 1) := by decide +kernel
theorem dX11_weighsTerm_209 : decode cX11_weighsTerm 209 = .ok (.getfield 38, 3) := by decide +kernel
theorem dX11_weighsTerm_212 : decode cX11_weighsTerm 212 = .ok (.iload 4, 2) := by decide +kernel
theorem dX11_weighsTerm_214 : decode cX11_weighsTerm 214 = .ok (.iconst 1, 1) := by decide +kernel
theorem dX11_weighsTerm_215 : decode cX11_weighsTerm 215 = .ok (.isub, 1) := by decide +kernel
theorem dX11_weighsTerm_216 : decode cX11_weighsTerm 216 = .ok (.laload, 1) := by decide +kernel
theorem dX11_weighsTerm_217 : decode cX11_weighsTerm 217 = .ok (.lmul, 1) := by decide +kernel
theorem dX11_weighsTerm_218 : decode cX11_weighsTerm 218 = .ok (.aload_n 0, 1) := by decide +kernel
theorem dX11_weighsTerm_219 : decode cX11_weighsTerm 219 = .ok (.getfield 31, 3) := by decide +kernel
theorem dX11_weighsTerm_222 : decode cX11_weighsTerm 222 = .ok (.bipush 6, 2) := by decide +kernel
theorem dX11_weighsTerm_224 : decode cX11_weighsTerm 224 = .ok (.iaload, 1) := by decide +kernel
theorem dX11_weighsTerm_225 : decode cX11_weighsTerm 225 = .ok (.i2l, 1) := by decide +kernel
theorem dX11_weighsTerm_226 : decode cX11_weighsTerm 226 = .ok (.aload_n 0, 1) := by decide +kernel
theorem dX11_weighsTerm_227 : decode cX11_weighsTerm 227 = .ok (.getfield 38, 3) := by decide +kernel
theorem dX11_weighsTerm_230 : decode cX11_weighsTerm 230 = .ok (.iload 4, 2) := by decide +kernel
theorem dX11_weighsTerm_232 : decode cX11_weighsTerm 232 = .ok (.iconst 2, 1) := by decide +kernel
theorem dX11_weighsTerm_233 : decode cX11_weighsTerm 233 = .ok (.isub, 1) := by decide +kernel
theorem dX11_weighsTerm_234 : decode cX11_weighsTerm 234 = .ok (.laload, 1) := by decide +kernel
theorem dX11_weighsTerm_235 : decode cX11_weighsTerm 235 = .ok (.lmul, 1) := by decide +kernel
theorem dX11_weighsTerm_236 : decode cX11_weighsTerm 236 = .ok (.ladd, 1) := by decide +kernel
theorem dX11_weighsTerm_237 : decode cX11_weighsTerm 237 = .ok (.ldc2_w 181, 3) := by decide +kernel
theorem dX11_weighsTerm_240 : decode cX11_weighsTerm 240 = .ok (.lrem, 1) := by decide +kernel
theorem dX11_weighsTerm_241 : decode cX11_weighsTerm 241 = .ok (.lastore, 1) := by decide +kernel
theorem dX11_weighsTerm_242 : decode cX11_weighsTerm 242 = .ok (.aload_n 0, 1) := by decide +kernel
theorem dX11_weighsTerm_243 : decode cX11_weighsTerm 243 = .ok (.getfield 41, 3) := by decide +kernel
theorem dX11_weighsTerm_246 : decode cX11_weighsTerm 246 = .ok (.iload 4, 2) := by decide +kernel
theorem dX11_weighsTerm_248 : decode cX11_weighsTerm 248 = .ok (.iconst 2, 1) := by decide +kernel
theorem dX11_weighsTerm_249 : decode cX11_weighsTerm 249 = .ok (.isub, 1) := by decide +kernel
theorem dX11_weighsTerm_250 : decode cX11_weighsTerm 250 = .ok (.aload_n 0, 1) := by decide +kernel
theorem dX11_weighsTerm_251 : decode cX11_weighsTerm 251 = .ok (.getfield 31, 3) := by decide +kernel
theorem dX11_weighsTerm_254 : decode cX11_weighsTerm 254 = .ok (.iconst 5, 1) := by decide +kernel
theorem dX11_weighsTerm_255 : decode cX11_weighsTerm 255 = .ok (.iaload, 1) := by decide +kernel
theorem dX11_weighsTerm_256 : decode cX11_weighsTerm 256 = .ok (.i2l, 1) := by decide +kernel
theorem dX11_weighsTerm_257 : decode cX11_weighsTerm 257 = .ok (.aload_n 0, 1) := by decide +kernel
theorem dX11_weighsTerm_258 : decode cX11_weighsTerm 258 = .ok (.getfield 41, 3) := by decide +kernel
theorem dX11_weighsTerm_261 : decode cX11_weighsTerm 261 = .ok (.iload 4, 2) := by decide +kernel
theorem dX11_weighsTerm_263 : decode cX11_weighsTerm 263 = .ok (.iconst 1, 1) := by decide +kernel
theorem dX11_weighsTerm_264 : decode cX11_weighsTerm 264 = .ok (.isub, 1) := by decide +kernel
theorem dX11_weighsTerm_265 : decode cX11_weighsTerm 265 = .ok (.laload, 1) := by decide +kernel
theorem dX11_weighsTerm_266 : decode cX11_weighsTerm 266 = .ok (.lmul, 1) := by decide +kernel
theorem dX11_weighsTerm_267 : decode cX11_weighsTerm 267 = .ok (.aload_n 0, 1) := by decide +kernel
theorem dX11_weighsTerm_268 : decode cX11_weighsTerm 268 = .ok (.getfield 31, 3) := by decide +kernel
theorem dX11_weighsTerm_271 : decode cX11_weighsTerm 271 = .ok (.bipush 6, 2) := by decide +kernel
theorem dX11_weighsTerm_273 : decode cX11_weighsTerm 273 = .ok (.iaload, 1) := by decide +kernel
theorem dX11_weighsTerm_274 : decode cX11_weighsTerm 274 = .ok (.i2l, 1) := by decide +kernel
theorem dX11_weighsTerm_275 : decode cX11_weighsTerm 275 = .ok (.aload_n 0, 1) := by decide +kernel
theorem dX11_weighsTerm_276 : decode cX11_weighsTerm 276 = .ok (.getfield 41, 3) := by decide +kernel
theorem dX11_weighsTerm_279 : decode cX11_weighsTerm 279 = .ok (.iload 4, 2) := by decide +kernel
theorem dX11_weighsTerm_281 : decode cX11_weighsTerm 281 = .ok (.iconst 2, 1) := by decide +kernel
theorem dX11_weighsTerm_282 : decode cX11_weighsTerm 282 = .ok (.isub, 1) := by decide +kernel
theorem dX11_weighsTerm_283 : decode cX11_weighsTerm 283 = .ok (.laload, 1) := by decide +kernel
theorem dX11_weighsTerm_284 : decode cX11_weighsTerm 284 = .ok (.lmul, 1) := by decide +kernel
theorem dX11_weighsTerm_285 : decode cX11_weighsTerm 285 = .ok (.ladd, 1) := by decide +kernel
theorem dX11_weighsTerm_286 : decode cX11_weighsTerm 286 = .ok (.ldc2_w 181, 3) := by decide +kernel
theorem dX11_weighsTerm_289 : decode cX11_weighsTerm 289 = .ok (.lrem, 1) := by decide +kernel
theorem dX11_weighsTerm_290 : decode cX11_weighsTerm 290 = .ok (.lastore, 1) := by decide +kernel
theorem dX11_weighsTerm_291 : decode cX11_weighsTerm 291 = .ok (.iinc 4 (-1), 3) := by decide +kernel
theorem dX11_weighsTerm_294 : decode cX11_weighsTerm 294 = .ok (.goto 86, 3) := by decide +kernel
theorem dX11_weighsTerm_297 : decode cX11_weighsTerm 297 = .ok (.aload_n 0, 1) := by decide +kernel
theorem dX11_weighsTerm_298 : decode cX11_weighsTerm 298 = .ok (.getfield 34, 3) := by decide +kernel
theorem dX11_weighsTerm_301 : decode cX11_weighsTerm 301 = .ok (.iload 4, 2) := by decide +kernel
theorem dX11_weighsTerm_303 : decode cX11_weighsTerm 303 = .ok (.iload 6, 2) := by decide +kernel
theorem dX11_weighsTerm_305 : decode cX11_weighsTerm 305 = .ok (.bipush 97, 2) := by decide +kernel
theorem dX11_weighsTerm_307 : decode cX11_weighsTerm 307 = .ok (.if_icmp .ne 13, 3) := by decide +kernel
theorem dX11_weighsTerm_310 : decode cX11_weighsTerm 310 = .ok (.aload_n 0, 1) := by decide +kernel
theorem dX11_weighsTerm_311 : decode cX11_weighsTerm 311 = .ok (.getfield 31, 3) := by decide +kernel
theorem dX11_weighsTerm_314 : decode cX11_weighsTerm 314 = .ok (.iconst 0, 1) := by decide +kernel
theorem dX11_weighsTerm_315 : decode cX11_weighsTerm 315 = .ok (.iaload, 1) := by decide +kernel
theorem dX11_weighsTerm_316 : decode cX11_weighsTerm 316 = .ok (.i2l, 1) := by decide +kernel
theorem dX11_weighsTerm_317 : decode cX11_weighsTerm 317 = .ok (.goto 21, 3) := by decide +kernel
theorem dX11_weighsTerm_320 : decode cX11_weighsTerm 320 = .ok (.iload 6, 2) := by decide +kernel
theorem dX11_weighsTerm_322 : decode cX11_weighsTerm 322 = .ok (.bipush 98, 2) := by decide +kernel
theorem dX11_weighsTerm_324 : decode cX11_weighsTerm 324 = .ok (.if_icmp .ne 13, 3) := by decide +kernel
theorem dX11_weighsTerm_327 : decode cX11_weighsTerm 327 = .ok (.aload_n 0, 1) := by decide +kernel
theorem dX11_weighsTerm_328 : decode cX11_weighsTerm 328 = .ok (.getfield 31, 3) := by decide +kernel
theorem dX11_weighsTerm_331 : decode cX11_weighsTerm 331 = .ok (.iconst 1, 1) := by decide +kernel
theorem dX11_weighsTerm_332 : decode cX11_weighsTerm 332 = .ok (.iaload, 1) := by decide +kernel
theorem dX11_weighsTerm_333 : decode cX11_weighsTerm 333 = .ok (.i2l, 1) := by decide +kernel
theorem dX11_weighsTerm_334 : decode cX11_weighsTerm 334 = .ok (.goto 4, 3) := by decide +kernel
theorem dX11_weighsTerm_337 : decode cX11_weighsTerm 337 = .ok (.lconst 0, 1) := by decide +kernel
theorem dX11_weighsTerm_338 : decode cX11_weighsTerm 338 = .ok (.lastore, 1) := by decide +kernel
theorem dX11_weighsTerm_339 : decode cX11_weighsTerm 339 = .ok (.aload_n 0, 1) := by decide +kernel
theorem dX11_weighsTerm_340 : decode cX11_weighsTerm 340 = .ok (.getfield 38, 3) := by decide +kernel
theorem dX11_weighsTerm_343 : decode cX11_weighsTerm 343 = .ok (.iload 4, 2) := by decide +kernel
theorem dX11_weighsTerm_345 : decode cX11_weighsTerm 345 = .ok (.iload 6, 2) := by decide +kernel
theorem dX11_weighsTerm_347 : decode cX11_weighsTerm 347 = .ok (.bipush 120, 2) := by decide +kernel
theorem dX11_weighsTerm_349 : decode cX11_weighsTerm 349 = .ok (.if_icmp .ne 7, 3) := by decide +kernel
theorem dX11_weighsTerm_352 : decode cX11_weighsTerm 352 = .ok (.lconst 1, 1) := by decide +kernel
theorem dX11_weighsTerm_353 : decode cX11_weighsTerm 353 = .ok (.goto 4, 3) := by decide +kernel
theorem dX11_weighsTerm_356 : decode cX11_weighsTerm 356 = .ok (.lconst 0, 1) := by decide +kernel
theorem dX11_weighsTerm_357 : decode cX11_weighsTerm 357 = .ok (.lastore, 1) := by decide +kernel
theorem dX11_weighsTerm_358 : decode cX11_weighsTerm 358 = .ok (.aload_n 0, 1) := by decide +kernel
theorem dX11_weighsTerm_359 : decode cX11_weighsTerm 359 = .ok (.getfield 41, 3) := by decide +kernel
theorem dX11_weighsTerm_362 : decode cX11_weighsTerm 362 = .ok (.iload 4, 2) := by decide +kernel
theorem dX11_weighsTerm_364 : decode cX11_weighsTerm 364 = .ok (.iload 6, 2) := by decide +kernel
theorem dX11_weighsTerm_366 : decode cX11_weighsTerm 366 = .ok (.bipush 121, 2) := by decide +kernel
theorem dX11_weighsTerm_368 : decode cX11_weighsTerm 368 = .ok (.if_icmp .ne 7, 3) := by decide +kernel
theorem dX11_weighsTerm_371 : decode cX11_weighsTerm 371 = .ok (.lconst 1, 1) := by decide +kernel
theorem dX11_weighsTerm_372 : decode cX11_weighsTerm 372 = .ok (.goto 4, 3) := by decide +kernel
theorem dX11_weighsTerm_375 : decode cX11_weighsTerm 375 = .ok (.lconst 0, 1) := by decide +kernel
theorem dX11_weighsTerm_376 : decode cX11_weighsTerm 376 = .ok (.lastore, 1) := by decide +kernel
theorem dX11_weighsTerm_377 : decode cX11_weighsTerm 377 = .ok (.iinc 4 1, 3) := by decide +kernel
theorem dX11_weighsTerm_380 : decode cX11_weighsTerm 380 = .ok (.iinc 5 (-1), 3) := by decide +kernel
theorem dX11_weighsTerm_383 : decode cX11_weighsTerm 383 = .ok (.goto (-375), 3) := by decide +kernel
theorem dX11_weighsTerm_386 : decode cX11_weighsTerm 386 = .ok (.return_, 1) := by decide +kernel
theorem dX11_compares_0 : decode cX11_compares 0 = .ok (.aload_n 0, 1) := by decide +kernel
theorem dX11_compares_1 : decode cX11_compares 1 = .ok (.aload_n 0, 1) := by decide +kernel
theorem dX11_compares_2 : decode cX11_compares 2 = .ok (.getfield 7, 3) := by decide +kernel
theorem dX11_compares_5 : decode cX11_compares 5 = .ok (.iload_n 1, 1) := by decide +kernel
theorem dX11_compares_6 : decode cX11_compares 6 = .ok (.iload_n 2, 1) := by decide +kernel
theorem dX11_compares_7 : decode cX11_compares 7 = .ok (.invokevirtual 183, 3) := by decide +kernel
theorem dX11_compares_10 : decode cX11_compares 10 = .ok (.aload_n 0, 1) := by decide +kernel
theorem dX11_compares_11 : decode cX11_compares 11 = .ok (.getfield 34, 3) := by decide +kernel
theorem dX11_compares_14 : decode cX11_compares 14 = .ok (.iconst 0, 1) := by decide +kernel
theorem dX11_compares_15 : decode cX11_compares 15 = .ok (.laload, 1) := by decide +kernel
theorem dX11_compares_16 : decode cX11_compares 16 = .ok (.lstore 5, 2) := by decide +kernel
theorem dX11_compares_18 : decode cX11_compares 18 = .ok (.aload_n 0, 1) := by decide +kernel
theorem dX11_compares_19 : decode cX11_compares 19 = .ok (.getfield 38, 3) := by decide +kernel
theorem dX11_compares_22 : decode cX11_compares 22 = .ok (.iconst 0, 1) := by decide +kernel
theorem dX11_compares_23 : decode cX11_compares 23 = .ok (.laload, 1) := by decide +kernel
theorem dX11_compares_24 : decode cX11_compares 24 = .ok (.lstore 7, 2) := by decide +kernel
theorem dX11_compares_26 : decode cX11_compares 26 = .ok (.aload_n 0, 1) := by decide +kernel
theorem dX11_compares_27 : decode cX11_compares 27 = .ok (.getfield 41, 3) := by decide +kernel
theorem dX11_compares_30 : decode cX11_compares 30 = .ok (.iconst 0, 1) := by decide +kernel
theorem dX11_compares_31 : decode cX11_compares 31 = .ok (.laload, 1) := by decide +kernel
theorem dX11_compares_32 : decode cX11_compares 32 = .ok (.lstore 9, 2) := by decide +kernel
theorem dX11_compares_34 : decode cX11_compares 34 = .ok (.aload_n 0, 1) := by decide +kernel
theorem dX11_compares_35 : decode cX11_compares 35 = .ok (.aload_n 0, 1) := by decide +kernel
theorem dX11_compares_36 : decode cX11_compares 36 = .ok (.getfield 7, 3) := by decide +kernel
theorem dX11_compares_39 : decode cX11_compares 39 = .ok (.iload_n 3, 1) := by decide +kernel
theorem dX11_compares_40 : decode cX11_compares 40 = .ok (.iload 4, 2) := by decide +kernel
theorem dX11_compares_42 : decode cX11_compares 42 = .ok (.invokevirtual 183, 3) := by decide +kernel
theorem dX11_compares_45 : decode cX11_compares 45 = .ok (.lload 7, 2) := by decide +kernel
theorem dX11_compares_47 : decode cX11_compares 47 = .ok (.aload_n 0, 1) := by decide +kernel
theorem dX11_compares_48 : decode cX11_compares 48 = .ok (.getfield 38, 3) := by decide +kernel
theorem dX11_compares_51 : decode cX11_compares 51 = .ok (.iconst 0, 1) := by decide +kernel
theorem dX11_compares_52 : decode cX11_compares 52 = .ok (.laload, 1) := by decide +kernel
theorem dX11_compares_53 : decode cX11_compares 53 = .ok (.lcmp, 1) := by decide +kernel
theorem dX11_compares_54 : decode cX11_compares 54 = .ok (.ifCond .lt 19, 3) := by decide +kernel
theorem dX11_compares_57 : decode cX11_compares 57 = .ok (.lload 9, 2) := by decide +kernel
theorem dX11_compares_59 : decode cX11_compares 59 = .ok (.aload_n 0, 1) := by decide +kernel
theorem dX11_compares_60 : decode cX11_compares 60 = .ok (.getfield 41, 3) := by decide +kernel
theorem dX11_compares_63 : decode cX11_compares 63 = .ok (.iconst 0, 1) := by decide +kernel
theorem dX11_compares_64 : decode cX11_compares 64 = .ok (.laload, 1) := by decide +kernel
theorem dX11_compares_65 : decode cX11_compares 65 = .ok (.lcmp, 1) := by decide +kernel
theorem dX11_compares_66 : decode cX11_compares 66 = .ok (.ifCond .lt 7, 3) := by decide +kernel
theorem dX11_compares_69 : decode cX11_compares 69 = .ok (.iconst 1, 1) := by decide +kernel
theorem dX11_compares_70 : decode cX11_compares 70 = .ok (.goto 4, 3) := by decide +kernel
theorem dX11_compares_73 : decode cX11_compares 73 = .ok (.iconst 0, 1) := by decide +kernel
theorem dX11_compares_74 : decode cX11_compares 74 = .ok (.istore 11, 2) := by decide +kernel
theorem dX11_compares_76 : decode cX11_compares 76 = .ok (.iload 11, 2) := by decide +kernel
theorem dX11_compares_78 : decode cX11_compares 78 = .ok (.ifCond .eq 15, 3) := by decide +kernel
theorem dX11_compares_81 : decode cX11_compares 81 = .ok (.lload 5, 2) := by decide +kernel
theorem dX11_compares_83 : decode cX11_compares 83 = .ok (.aload_n 0, 1) := by decide +kernel
theorem dX11_compares_84 : decode cX11_compares 84 = .ok (.getfield 34, 3) := by decide +kernel
theorem dX11_compares_87 : decode cX11_compares 87 = .ok (.iconst 0, 1) := by decide +kernel
theorem dX11_compares_88 : decode cX11_compares 88 = .ok (.laload, 1) := by decide +kernel
theorem dX11_compares_89 : decode cX11_compares 89 = .ok (.lcmp, 1) := by decide +kernel
theorem dX11_compares_90 : decode cX11_compares 90 = .ok (.ifCond .ge 7, 3) := by decide +kernel
theorem dX11_compares_93 : decode cX11_compares 93 = .ok (.iconst 0, 1) := by decide +kernel
theorem dX11_compares_94 : decode cX11_compares 94 = .ok (.goto 20, 3) := by decide +kernel
theorem dX11_compares_97 : decode cX11_compares 97 = .ok (.lload 5, 2) := by decide +kernel
theorem dX11_compares_99 : decode cX11_compares 99 = .ok (.aload_n 0, 1) := by decide +kernel
theorem dX11_compares_100 : decode cX11_compares 100 = .ok (.getfield 34, 3) := by decide +kernel
theorem dX11_compares_103 : decode cX11_compares 103 = .ok (.iconst 0, 1) := by decide +kernel
theorem dX11_compares_104 : decode cX11_compares 104 = .ok (.laload, 1) := by decide +kernel
theorem dX11_compares_105 : decode cX11_compares 105 = .ok (.lcmp, 1) := by decide +kernel
theorem dX11_compares_106 : decode cX11_compares 106 = .ok (.ifCond .le 7, 3) := by decide +kernel
theorem dX11_compares_109 : decode cX11_compares 109 = .ok (.iconst 2, 1) := by decide +kernel
theorem dX11_compares_110 : decode cX11_compares 110 = .ok (.goto 4, 3) := by decide +kernel
theorem dX11_compares_113 : decode cX11_compares 113 = .ok (.iconst 1, 1) := by decide +kernel
theorem dX11_compares_114 : decode cX11_compares 114 = .ok (.ireturn, 1) := by decide +kernel
theorem dX11_comparesRule_0 : decode cX11_comparesRule 0 = .ok (.aload_n 0, 1) := by decide +kernel
theorem dX11_comparesRule_1 : decode cX11_comparesRule 1 = .ok (.iload_n 1, 1) := by decide +kernel
theorem dX11_comparesRule_2 : decode cX11_comparesRule 2 = .ok (.invokestatic 117, 3) := by decide +kernel
theorem dX11_comparesRule_5 : decode cX11_comparesRule 5 = .ok (.aload_n 0, 1) := by decide +kernel
theorem dX11_comparesRule_6 : decode cX11_comparesRule 6 = .ok (.getfield 7, 3) := by decide +kernel
theorem dX11_comparesRule_9 : decode cX11_comparesRule 9 = .ok (.iload_n 1, 1) := by decide +kernel
theorem dX11_comparesRule_10 : decode cX11_comparesRule 10 = .ok (.invokestatic 158, 3) := by decide +kernel
theorem dX11_comparesRule_13 : decode cX11_comparesRule 13 = .ok (.iload_n 1, 1) := by decide +kernel
theorem dX11_comparesRule_14 : decode cX11_comparesRule 14 = .ok (.invokestatic 127, 3) := by decide +kernel
theorem dX11_comparesRule_17 : decode cX11_comparesRule 17 = .ok (.aload_n 0, 1) := by decide +kernel
theorem dX11_comparesRule_18 : decode cX11_comparesRule 18 = .ok (.getfield 7, 3) := by decide +kernel
theorem dX11_comparesRule_21 : decode cX11_comparesRule 21 = .ok (.iload_n 1, 1) := by decide +kernel
theorem dX11_comparesRule_22 : decode cX11_comparesRule 22 = .ok (.invokestatic 162, 3) := by decide +kernel
theorem dX11_comparesRule_25 : decode cX11_comparesRule 25 = .ok (.invokevirtual 187, 3) := by decide +kernel
theorem dX11_comparesRule_28 : decode cX11_comparesRule 28 = .ok (.ireturn, 1) := by decide +kernel
theorem dX11_goesOn_0 : decode cX11_goesOn 0 = .ok (.bipush 6, 2) := by decide +kernel
theorem dX11_goesOn_2 : decode cX11_goesOn 2 = .ok (.istore_n 3, 1) := by decide +kernel
theorem dX11_goesOn_3 : decode cX11_goesOn 3 = .ok (.iload_n 3, 1) := by decide +kernel
theorem dX11_goesOn_4 : decode cX11_goesOn 4 = .ok (.ifCond .lt 35, 3) := by decide +kernel
theorem dX11_goesOn_7 : decode cX11_goesOn 7 = .ok (.aload_n 0, 1) := by decide +kernel
theorem dX11_goesOn_8 : decode cX11_goesOn 8 = .ok (.getfield 31, 3) := by decide +kernel
theorem dX11_goesOn_11 : decode cX11_goesOn 11 = .ok (.iload_n 3, 1) := by decide +kernel
theorem dX11_goesOn_12 : decode cX11_goesOn 12 = .ok (.iaload, 1) := by decide +kernel
theorem dX11_goesOn_13 : decode cX11_goesOn 13 = .ok (.iload_n 2, 1) := by decide +kernel
theorem dX11_goesOn_14 : decode cX11_goesOn 14 = .ok (.if_icmp .ne 25, 3) := by decide +kernel
theorem dX11_goesOn_17 : decode cX11_goesOn 17 = .ok (.aload_n 0, 1) := by decide +kernel
theorem dX11_goesOn_18 : decode cX11_goesOn 18 = .ok (.getfield 31, 3) := by decide +kernel
theorem dX11_goesOn_21 : decode cX11_goesOn 21 = .ok (.iload_n 3, 1) := by decide +kernel
theorem dX11_goesOn_22 : decode cX11_goesOn 22 = .ok (.iload_n 3, 1) := by decide +kernel
theorem dX11_goesOn_23 : decode cX11_goesOn 23 = .ok (.iconst 4, 1) := by decide +kernel
theorem dX11_goesOn_24 : decode cX11_goesOn 24 = .ok (.if_icmp .ge 7, 3) := by decide +kernel
theorem dX11_goesOn_27 : decode cX11_goesOn 27 = .ok (.iconst 0, 1) := by decide +kernel
theorem dX11_goesOn_28 : decode cX11_goesOn 28 = .ok (.goto 4, 3) := by decide +kernel
theorem dX11_goesOn_31 : decode cX11_goesOn 31 = .ok (.iload_n 1, 1) := by decide +kernel
theorem dX11_goesOn_32 : decode cX11_goesOn 32 = .ok (.iastore, 1) := by decide +kernel
theorem dX11_goesOn_33 : decode cX11_goesOn 33 = .ok (.iinc 3 (-1), 3) := by decide +kernel
theorem dX11_goesOn_36 : decode cX11_goesOn 36 = .ok (.goto (-33), 3) := by decide +kernel
theorem dX11_goesOn_39 : decode cX11_goesOn 39 = .ok (.iload_n 3, 1) := by decide +kernel
theorem dX11_goesOn_40 : decode cX11_goesOn 40 = .ok (.ifCond .ge 5, 3) := by decide +kernel
theorem dX11_goesOn_43 : decode cX11_goesOn 43 = .ok (.iconst 0, 1) := by decide +kernel
theorem dX11_goesOn_44 : decode cX11_goesOn 44 = .ok (.ireturn, 1) := by decide +kernel
theorem dX11_goesOn_45 : decode cX11_goesOn 45 = .ok (.aload_n 0, 1) := by decide +kernel
theorem dX11_goesOn_46 : decode cX11_goesOn 46 = .ok (.getfield 31, 3) := by decide +kernel
theorem dX11_goesOn_49 : decode cX11_goesOn 49 = .ok (.iload_n 3, 1) := by decide +kernel
theorem dX11_goesOn_50 : decode cX11_goesOn 50 = .ok (.dup2, 1) := by decide +kernel
theorem dX11_goesOn_51 : decode cX11_goesOn 51 = .ok (.iaload, 1) := by decide +kernel
theorem dX11_goesOn_52 : decode cX11_goesOn 52 = .ok (.iconst 1, 1) := by decide +kernel
theorem dX11_goesOn_53 : decode cX11_goesOn 53 = .ok (.iadd, 1) := by decide +kernel
theorem dX11_goesOn_54 : decode cX11_goesOn 54 = .ok (.iastore, 1) := by decide +kernel
theorem dX11_goesOn_55 : decode cX11_goesOn 55 = .ok (.iconst 1, 1) := by decide +kernel
theorem dX11_goesOn_56 : decode cX11_goesOn 56 = .ok (.ireturn, 1) := by decide +kernel
theorem dX11_numberOf_0 : decode cX11_numberOf 0 = .ok (.iconst 0, 1) := by decide +kernel
theorem dX11_numberOf_1 : decode cX11_numberOf 1 = .ok (.istore_n 1, 1) := by decide +kernel
theorem dX11_numberOf_2 : decode cX11_numberOf 2 = .ok (.iconst 0, 1) := by decide +kernel
theorem dX11_numberOf_3 : decode cX11_numberOf 3 = .ok (.istore_n 2, 1) := by decide +kernel
theorem dX11_numberOf_4 : decode cX11_numberOf 4 = .ok (.iload_n 2, 1) := by decide +kernel
theorem dX11_numberOf_5 : decode cX11_numberOf 5 = .ok (.bipush 7, 2) := by decide +kernel
theorem dX11_numberOf_7 : decode cX11_numberOf 7 = .ok (.if_icmp .ge 21, 3) := by decide +kernel
theorem dX11_numberOf_10 : decode cX11_numberOf 10 = .ok (.bipush 10, 2) := by decide +kernel
theorem dX11_numberOf_12 : decode cX11_numberOf 12 = .ok (.iload_n 1, 1) := by decide +kernel
theorem dX11_numberOf_13 : decode cX11_numberOf 13 = .ok (.imul, 1) := by decide +kernel
theorem dX11_numberOf_14 : decode cX11_numberOf 14 = .ok (.aload_n 0, 1) := by decide +kernel
theorem dX11_numberOf_15 : decode cX11_numberOf 15 = .ok (.getfield 31, 3) := by decide +kernel
theorem dX11_numberOf_18 : decode cX11_numberOf 18 = .ok (.iload_n 2, 1) := by decide +kernel
theorem dX11_numberOf_19 : decode cX11_numberOf 19 = .ok (.iaload, 1) := by decide +kernel
theorem dX11_numberOf_20 : decode cX11_numberOf 20 = .ok (.iadd, 1) := by decide +kernel
theorem dX11_numberOf_21 : decode cX11_numberOf 21 = .ok (.istore_n 1, 1) := by decide +kernel
theorem dX11_numberOf_22 : decode cX11_numberOf 22 = .ok (.iinc 2 1, 3) := by decide +kernel
theorem dX11_numberOf_25 : decode cX11_numberOf 25 = .ok (.goto (-21), 3) := by decide +kernel
theorem dX11_numberOf_28 : decode cX11_numberOf 28 = .ok (.iload_n 1, 1) := by decide +kernel
theorem dX11_numberOf_29 : decode cX11_numberOf 29 = .ok (.ireturn, 1) := by decide +kernel
theorem dX11_areAll_0 : decode cX11_areAll 0 = .ok (.iconst 1, 1) := by decide +kernel
theorem dX11_areAll_1 : decode cX11_areAll 1 = .ok (.istore_n 2, 1) := by decide +kernel
theorem dX11_areAll_2 : decode cX11_areAll 2 = .ok (.iconst 0, 1) := by decide +kernel
theorem dX11_areAll_3 : decode cX11_areAll 3 = .ok (.istore_n 3, 1) := by decide +kernel
theorem dX11_areAll_4 : decode cX11_areAll 4 = .ok (.iload_n 3, 1) := by decide +kernel
theorem dX11_areAll_5 : decode cX11_areAll 5 = .ok (.aload_n 0, 1) := by decide +kernel
theorem dX11_areAll_6 : decode cX11_areAll 6 = .ok (.getfield 7, 3) := by decide +kernel
theorem dX11_areAll_9 : decode cX11_areAll 9 = .ok (.iconst 0, 1) := by decide +kernel
theorem dX11_areAll_10 : decode cX11_areAll 10 = .ok (.iaload, 1) := by decide +kernel
theorem dX11_areAll_11 : decode cX11_areAll 11 = .ok (.if_icmp .ge 28, 3) := by decide +kernel
theorem dX11_areAll_14 : decode cX11_areAll 14 = .ok (.iload_n 2, 1) := by decide +kernel
theorem dX11_areAll_15 : decode cX11_areAll 15 = .ok (.ifCond .eq 24, 3) := by decide +kernel
theorem dX11_areAll_18 : decode cX11_areAll 18 = .ok (.aload_n 0, 1) := by decide +kernel
theorem dX11_areAll_19 : decode cX11_areAll 19 = .ok (.iload_n 3, 1) := by decide +kernel
theorem dX11_areAll_20 : decode cX11_areAll 20 = .ok (.invokevirtual 191, 3) := by decide +kernel
theorem dX11_areAll_23 : decode cX11_areAll 23 = .ok (.iload_n 1, 1) := by decide +kernel
theorem dX11_areAll_24 : decode cX11_areAll 24 = .ok (.if_icmp .lt 7, 3) := by decide +kernel
theorem dX11_areAll_27 : decode cX11_areAll 27 = .ok (.iconst 1, 1) := by decide +kernel
theorem dX11_areAll_28 : decode cX11_areAll 28 = .ok (.goto 4, 3) := by decide +kernel
theorem dX11_areAll_31 : decode cX11_areAll 31 = .ok (.iconst 0, 1) := by decide +kernel
theorem dX11_areAll_32 : decode cX11_areAll 32 = .ok (.istore_n 2, 1) := by decide +kernel
theorem dX11_areAll_33 : decode cX11_areAll 33 = .ok (.iinc 3 1, 3) := by decide +kernel
theorem dX11_areAll_36 : decode cX11_areAll 36 = .ok (.goto (-32), 3) := by decide +kernel
theorem dX11_areAll_39 : decode cX11_areAll 39 = .ok (.iload_n 2, 1) := by decide +kernel
theorem dX11_areAll_40 : decode cX11_areAll 40 = .ok (.ireturn, 1) := by decide +kernel
theorem dX11_fall_0 : decode cX11_fall 0 = .ok (.aload_n 0, 1) := by decide +kernel
theorem dX11_fall_1 : decode cX11_fall 1 = .ok (.bipush 111, 2) := by decide +kernel
theorem dX11_fall_3 : decode cX11_fall 3 = .ok (.bipush 9, 2) := by decide +kernel
theorem dX11_fall_5 : decode cX11_fall 5 = .ok (.invokevirtual 194, 3) := by decide +kernel
theorem dX11_fall_8 : decode cX11_fall 8 = .ok (.istore_n 1, 1) := by decide +kernel
theorem dX11_fall_9 : decode cX11_fall 9 = .ok (.iload_n 1, 1) := by decide +kernel
theorem dX11_fall_10 : decode cX11_fall 10 = .ok (.ifCond .eq 26, 3) := by decide +kernel
theorem dX11_fall_13 : decode cX11_fall 13 = .ok (.aload_n 0, 1) := by decide +kernel
theorem dX11_fall_14 : decode cX11_fall 14 = .ok (.iconst 2, 1) := by decide +kernel
theorem dX11_fall_15 : decode cX11_fall 15 = .ok (.invokevirtual 198, 3) := by decide +kernel
theorem dX11_fall_18 : decode cX11_fall 18 = .ok (.ifCond .eq 8, 3) := by decide +kernel
theorem dX11_fall_21 : decode cX11_fall 21 = .ok (.aload_n 0, 1) := by decide +kernel
theorem dX11_fall_22 : decode cX11_fall 22 = .ok (.invokevirtual 201, 3) := by decide +kernel
theorem dX11_fall_25 : decode cX11_fall 25 = .ok (.ireturn, 1) := by decide +kernel
theorem dX11_fall_26 : decode cX11_fall 26 = .ok (.aload_n 0, 1) := by decide +kernel
theorem dX11_fall_27 : decode cX11_fall 27 = .ok (.iconst 1, 1) := by decide +kernel
theorem dX11_fall_28 : decode cX11_fall 28 = .ok (.iconst 3, 1) := by decide +kernel
theorem dX11_fall_29 : decode cX11_fall 29 = .ok (.invokevirtual 204, 3) := by decide +kernel
theorem dX11_fall_32 : decode cX11_fall 32 = .ok (.istore_n 1, 1) := by decide +kernel
theorem dX11_fall_33 : decode cX11_fall 33 = .ok (.goto (-24), 3) := by decide +kernel
theorem dX11_fall_36 : decode cX11_fall 36 = .ok (.iconst (-1), 1) := by decide +kernel
theorem dX11_fall_37 : decode cX11_fall 37 = .ok (.ireturn, 1) := by decide +kernel
theorem dX11_weighs_0 : decode cX11_weighs 0 = .ok (.aload_n 0, 1) := by decide +kernel
theorem dX11_weighs_1 : decode cX11_weighs 1 = .ok (.iload_n 1, 1) := by decide +kernel
theorem dX11_weighs_2 : decode cX11_weighs 2 = .ok (.iconst 3, 1) := by decide +kernel
theorem dX11_weighs_3 : decode cX11_weighs 3 = .ok (.invokevirtual 194, 3) := by decide +kernel
theorem dX11_weighs_6 : decode cX11_weighs 6 = .ok (.ifCond .eq 19, 3) := by decide +kernel
theorem dX11_weighs_9 : decode cX11_weighs 9 = .ok (.aload_n 0, 1) := by decide +kernel
theorem dX11_weighs_10 : decode cX11_weighs 10 = .ok (.iload_n 2, 1) := by decide +kernel
theorem dX11_weighs_11 : decode cX11_weighs 11 = .ok (.invokevirtual 148, 3) := by decide +kernel
theorem dX11_weighs_14 : decode cX11_weighs 14 = .ok (.ifCond .eq 11, 3) := by decide +kernel
theorem dX11_weighs_17 : decode cX11_weighs 17 = .ok (.aload_n 0, 1) := by decide +kernel
theorem dX11_weighs_18 : decode cX11_weighs 18 = .ok (.iload_n 2, 1) := by decide +kernel
theorem dX11_weighs_19 : decode cX11_weighs 19 = .ok (.invokevirtual 191, 3) := by decide +kernel
theorem dX11_weighs_22 : decode cX11_weighs 22 = .ok (.goto 9, 3) := by decide +kernel
theorem dX11_weighs_25 : decode cX11_weighs 25 = .ok (.aload_n 0, 1) := by decide +kernel
theorem dX11_weighs_26 : decode cX11_weighs 26 = .ok (.bipush (-2), 2) := by decide +kernel
theorem dX11_weighs_28 : decode cX11_weighs 28 = .ok (.invokevirtual 80, 3) := by decide +kernel
theorem dX11_weighs_31 : decode cX11_weighs 31 = .ok (.ireturn, 1) := by decide +kernel
theorem dX11_weight_0 : decode cX11_weight 0 = .ok (.aload_n 0, 1) := by decide +kernel
theorem dX11_weight_1 : decode cX11_weight 1 = .ok (.iload_n 1, 1) := by decide +kernel
theorem dX11_weight_2 : decode cX11_weight 2 = .ok (.iconst 3, 1) := by decide +kernel
theorem dX11_weight_3 : decode cX11_weight 3 = .ok (.invokevirtual 194, 3) := by decide +kernel
theorem dX11_weight_6 : decode cX11_weight 6 = .ok (.ifCond .ne 10, 3) := by decide +kernel
theorem dX11_weight_9 : decode cX11_weight 9 = .ok (.aload_n 0, 1) := by decide +kernel
theorem dX11_weight_10 : decode cX11_weight 10 = .ok (.bipush (-2), 2) := by decide +kernel
theorem dX11_weight_12 : decode cX11_weight 12 = .ok (.invokevirtual 80, 3) := by decide +kernel
theorem dX11_weight_15 : decode cX11_weight 15 = .ok (.ireturn, 1) := by decide +kernel
theorem dX11_weight_16 : decode cX11_weight 16 = .ok (.aload_n 0, 1) := by decide +kernel
theorem dX11_weight_17 : decode cX11_weight 17 = .ok (.aload_n 0, 1) := by decide +kernel
theorem dX11_weight_18 : decode cX11_weight 18 = .ok (.getfield 7, 3) := by decide +kernel
theorem dX11_weight_21 : decode cX11_weight 21 = .ok (.sipush 132, 3) := by decide +kernel
theorem dX11_weight_24 : decode cX11_weight 24 = .ok (.aload_n 0, 1) := by decide +kernel
theorem dX11_weight_25 : decode cX11_weight 25 = .ok (.getfield 7, 3) := by decide +kernel
theorem dX11_weight_28 : decode cX11_weight 28 = .ok (.sipush 131, 3) := by decide +kernel
theorem dX11_weight_31 : decode cX11_weight 31 = .ok (.iaload, 1) := by decide +kernel
theorem dX11_weight_32 : decode cX11_weight 32 = .ok (.invokevirtual 183, 3) := by decide +kernel
theorem dX11_weight_35 : decode cX11_weight 35 = .ok (.aload_n 0, 1) := by decide +kernel
theorem dX11_weight_36 : decode cX11_weight 36 = .ok (.getfield 34, 3) := by decide +kernel
theorem dX11_weight_39 : decode cX11_weight 39 = .ok (.iconst 0, 1) := by decide +kernel
theorem dX11_weight_40 : decode cX11_weight 40 = .ok (.laload, 1) := by decide +kernel
theorem dX11_weight_41 : decode cX11_weight 41 = .ok (.l2i, 1) := by decide +kernel
theorem dX11_weight_42 : decode cX11_weight 42 = .ok (.ireturn, 1) := by decide +kernel
theorem dX11_mayFollow_0 : decode cX11_mayFollow 0 = .ok (.aload_n 0, 1) := by decide +kernel
theorem dX11_mayFollow_1 : decode cX11_mayFollow 1 = .ok (.getfield 47, 3) := by decide +kernel
theorem dX11_mayFollow_4 : decode cX11_mayFollow 4 = .ok (.iload_n 1, 1) := by decide +kernel
theorem dX11_mayFollow_5 : decode cX11_mayFollow 5 = .ok (.iaload, 1) := by decide +kernel
theorem dX11_mayFollow_6 : decode cX11_mayFollow 6 = .ok (.istore_n 3, 1) := by decide +kernel
theorem dX11_mayFollow_7 : decode cX11_mayFollow 7 = .ok (.aload_n 0, 1) := by decide +kernel
theorem dX11_mayFollow_8 : decode cX11_mayFollow 8 = .ok (.getfield 44, 3) := by decide +kernel
theorem dX11_mayFollow_11 : decode cX11_mayFollow 11 = .ok (.iload_n 2, 1) := by decide +kernel
theorem dX11_mayFollow_12 : decode cX11_mayFollow 12 = .ok (.iaload, 1) := by decide +kernel
theorem dX11_mayFollow_13 : decode cX11_mayFollow 13 = .ok (.invokestatic 117, 3) := by decide +kernel
theorem dX11_mayFollow_16 : decode cX11_mayFollow 16 = .ok (.istore 4, 2) := by decide +kernel
theorem dX11_mayFollow_18 : decode cX11_mayFollow 18 = .ok (.aload_n 0, 1) := by decide +kernel
theorem dX11_mayFollow_19 : decode cX11_mayFollow 19 = .ok (.getfield 7, 3) := by decide +kernel
theorem dX11_mayFollow_22 : decode cX11_mayFollow 22 = .ok (.iload_n 3, 1) := by decide +kernel
theorem dX11_mayFollow_23 : decode cX11_mayFollow 23 = .ok (.iaload, 1) := by decide +kernel
theorem dX11_mayFollow_24 : decode cX11_mayFollow 24 = .ok (.aload_n 0, 1) := by decide +kernel
theorem dX11_mayFollow_25 : decode cX11_mayFollow 25 = .ok (.getfield 7, 3) := by decide +kernel
theorem dX11_mayFollow_28 : decode cX11_mayFollow 28 = .ok (.iload 4, 2) := by decide +kernel
theorem dX11_mayFollow_30 : decode cX11_mayFollow 30 = .ok (.iaload, 1) := by decide +kernel
theorem dX11_mayFollow_31 : decode cX11_mayFollow 31 = .ok (.if_icmp .eq 5, 3) := by decide +kernel
theorem dX11_mayFollow_34 : decode cX11_mayFollow 34 = .ok (.iconst 0, 1) := by decide +kernel
theorem dX11_mayFollow_35 : decode cX11_mayFollow 35 = .ok (.ireturn, 1) := by decide +kernel
theorem dX11_mayFollow_36 : decode cX11_mayFollow 36 = .ok (.iload 4, 2) := by decide +kernel
theorem dX11_mayFollow_38 : decode cX11_mayFollow 38 = .ok (.aload_n 0, 1) := by decide +kernel
theorem dX11_mayFollow_39 : decode cX11_mayFollow 39 = .ok (.getfield 7, 3) := by decide +kernel
theorem dX11_mayFollow_42 : decode cX11_mayFollow 42 = .ok (.aload_n 0, 1) := by decide +kernel
theorem dX11_mayFollow_43 : decode cX11_mayFollow 43 = .ok (.getfield 44, 3) := by decide +kernel
theorem dX11_mayFollow_46 : decode cX11_mayFollow 46 = .ok (.iload_n 2, 1) := by decide +kernel
theorem dX11_mayFollow_47 : decode cX11_mayFollow 47 = .ok (.iaload, 1) := by decide +kernel
theorem dX11_mayFollow_48 : decode cX11_mayFollow 48 = .ok (.invokestatic 158, 3) := by decide +kernel
theorem dX11_mayFollow_51 : decode cX11_mayFollow 51 = .ok (.iadd, 1) := by decide +kernel
theorem dX11_mayFollow_52 : decode cX11_mayFollow 52 = .ok (.istore 5, 2) := by decide +kernel
theorem dX11_mayFollow_54 : decode cX11_mayFollow 54 = .ok (.iinc 3 1, 3) := by decide +kernel
theorem dX11_mayFollow_57 : decode cX11_mayFollow 57 = .ok (.iinc 4 1, 3) := by decide +kernel
theorem dX11_mayFollow_60 : decode cX11_mayFollow 60 = .ok (.iload 4, 2) := by decide +kernel
theorem dX11_mayFollow_62 : decode cX11_mayFollow 62 = .ok (.iload 5, 2) := by decide +kernel
theorem dX11_mayFollow_64 : decode cX11_mayFollow 64 = .ok (.if_icmp .ge 96, 3) := by decide +kernel
theorem dX11_mayFollow_67 : decode cX11_mayFollow 67 = .ok (.aload_n 0, 1) := by decide +kernel
theorem dX11_mayFollow_68 : decode cX11_mayFollow 68 = .ok (.getfield 7, 3) := by decide +kernel
theorem dX11_mayFollow_71 : decode cX11_mayFollow 71 = .ok (.iload 4, 2) := by decide +kernel
theorem dX11_mayFollow_73 : decode cX11_mayFollow 73 = .ok (.iaload, 1) := by decide +kernel
theorem dX11_mayFollow_74 : decode cX11_mayFollow 74 = .ok (.invokestatic 100, 3) := by decide +kernel
theorem dX11_mayFollow_77 : decode cX11_mayFollow 77 = .ok (.ifCond .ne 28, 3) := by decide +kernel
theorem dX11_mayFollow_80 : decode cX11_mayFollow 80 = .ok (.aload_n 0, 1) := by decide +kernel
theorem dX11_mayFollow_81 : decode cX11_mayFollow 81 = .ok (.getfield 7, 3) := by decide +kernel
theorem dX11_mayFollow_84 : decode cX11_mayFollow 84 = .ok (.iload_n 3, 1) := by decide +kernel
theorem dX11_mayFollow_85 : decode cX11_mayFollow 85 = .ok (.iaload, 1) := by decide +kernel
theorem dX11_mayFollow_86 : decode cX11_mayFollow 86 = .ok (.invokestatic 100, 3) := by decide +kernel
theorem dX11_mayFollow_89 : decode cX11_mayFollow 89 = .ok (.ifCond .ne 16, 3) := by decide +kernel
theorem dX11_mayFollow_92 : decode cX11_mayFollow 92 = .ok (.aload_n 0, 1) := by decide +kernel
theorem dX11_mayFollow_93 : decode cX11_mayFollow 93 = .ok (.aload_n 0, 1) := by decide +kernel
theorem dX11_mayFollow_94 : decode cX11_mayFollow 94 = .ok (.getfield 7, 3) := by decide +kernel
theorem dX11_mayFollow_97 : decode cX11_mayFollow 97 = .ok (.iload_n 3, 1) := by decide +kernel
theorem dX11_mayFollow_98 : decode cX11_mayFollow 98 = .ok (.iaload, 1) := by decide +kernel
theorem dX11_mayFollow_99 : decode cX11_mayFollow 99 = .ok (.invokevirtual 165, 3) := by decide +kernel
theorem dX11_mayFollow_102 : decode cX11_mayFollow 102 = .ok (.ifCond .eq 31, 3) := by decide +kernel
theorem dX11_mayFollow_105 : decode cX11_mayFollow 105 = .ok (.iload_n 3, 1) := by decide +kernel
theorem dX11_mayFollow_106 : decode cX11_mayFollow 106 = .ok (.aload_n 0, 1) := by decide +kernel
theorem dX11_mayFollow_107 : decode cX11_mayFollow 107 = .ok (.getfield 7, 3) := by decide +kernel
theorem dX11_mayFollow_110 : decode cX11_mayFollow 110 = .ok (.iload_n 3, 1) := by decide +kernel
theorem dX11_mayFollow_111 : decode cX11_mayFollow 111 = .ok (.invokestatic 207, 3) := by decide +kernel
theorem dX11_mayFollow_114 : decode cX11_mayFollow 114 = .ok (.iadd, 1) := by decide +kernel
theorem dX11_mayFollow_115 : decode cX11_mayFollow 115 = .ok (.istore_n 3, 1) := by decide +kernel
theorem dX11_mayFollow_116 : decode cX11_mayFollow 116 = .ok (.iload 4, 2) := by decide +kernel
theorem dX11_mayFollow_118 : decode cX11_mayFollow 118 = .ok (.aload_n 0, 1) := by decide +kernel
theorem dX11_mayFollow_119 : decode cX11_mayFollow 119 = .ok (.getfield 7, 3) := by decide +kernel
theorem dX11_mayFollow_122 : decode cX11_mayFollow 122 = .ok (.iload 4, 2) := by decide +kernel
theorem dX11_mayFollow_124 : decode cX11_mayFollow 124 = .ok (.invokestatic 207, 3) := by decide +kernel
theorem dX11_mayFollow_127 : decode cX11_mayFollow 127 = .ok (.iadd, 1) := by decide +kernel
theorem dX11_mayFollow_128 : decode cX11_mayFollow 128 = .ok (.istore 4, 2) := by decide +kernel
theorem dX11_mayFollow_130 : decode cX11_mayFollow 130 = .ok (.goto (-70), 3) := by decide +kernel
theorem dX11_mayFollow_133 : decode cX11_mayFollow 133 = .ok (.aload_n 0, 1) := by decide +kernel
theorem dX11_mayFollow_134 : decode cX11_mayFollow 134 = .ok (.getfield 7, 3) := by decide +kernel
theorem dX11_mayFollow_137 : decode cX11_mayFollow 137 = .ok (.iload_n 3, 1) := by decide +kernel
theorem dX11_mayFollow_138 : decode cX11_mayFollow 138 = .ok (.iaload, 1) := by decide +kernel
theorem dX11_mayFollow_139 : decode cX11_mayFollow 139 = .ok (.aload_n 0, 1) := by decide +kernel
theorem dX11_mayFollow_140 : decode cX11_mayFollow 140 = .ok (.getfield 7, 3) := by decide +kernel
theorem dX11_mayFollow_143 : decode cX11_mayFollow 143 = .ok (.iload 4, 2) := by decide +kernel
theorem dX11_mayFollow_145 : decode cX11_mayFollow 145 = .ok (.iaload, 1) := by decide +kernel
theorem dX11_mayFollow_146 : decode cX11_mayFollow 146 = .ok (.if_icmp .ne 12, 3) := by decide +kernel
theorem dX11_mayFollow_149 : decode cX11_mayFollow 149 = .ok (.iinc 3 1, 3) := by decide +kernel
theorem dX11_mayFollow_152 : decode cX11_mayFollow 152 = .ok (.iinc 4 1, 3) := by decide +kernel
theorem dX11_mayFollow_155 : decode cX11_mayFollow 155 = .ok (.goto (-95), 3) := by decide +kernel
theorem dX11_mayFollow_158 : decode cX11_mayFollow 158 = .ok (.iconst 0, 1) := by decide +kernel
theorem dX11_mayFollow_159 : decode cX11_mayFollow 159 = .ok (.ireturn, 1) := by decide +kernel
theorem dX11_mayFollow_160 : decode cX11_mayFollow 160 = .ok (.iconst 1, 1) := by decide +kernel
theorem dX11_mayFollow_161 : decode cX11_mayFollow 161 = .ok (.ireturn, 1) := by decide +kernel
theorem dX11_laysRings_0 : decode cX11_laysRings 0 = .ok (.aload_n 0, 1) := by decide +kernel
theorem dX11_laysRings_1 : decode cX11_laysRings 1 = .ok (.iconst 0, 1) := by decide +kernel
theorem dX11_laysRings_2 : decode cX11_laysRings 2 = .ok (.putfield 210, 3) := by decide +kernel
theorem dX11_laysRings_5 : decode cX11_laysRings 5 = .ok (.iconst 0, 1) := by decide +kernel
theorem dX11_laysRings_6 : decode cX11_laysRings 6 = .ok (.istore_n 1, 1) := by decide +kernel
theorem dX11_laysRings_7 : decode cX11_laysRings 7 = .ok (.iload_n 1, 1) := by decide +kernel
theorem dX11_laysRings_8 : decode cX11_laysRings 8 = .ok (.aload_n 0, 1) := by decide +kernel
theorem dX11_laysRings_9 : decode cX11_laysRings 9 = .ok (.getfield 213, 3) := by decide +kernel
theorem dX11_laysRings_12 : decode cX11_laysRings 12 = .ok (.if_icmp .ge 16, 3) := by decide +kernel
theorem dX11_laysRings_15 : decode cX11_laysRings 15 = .ok (.aload_n 0, 1) := by decide +kernel
theorem dX11_laysRings_16 : decode cX11_laysRings 16 = .ok (.getfield 57, 3) := by decide +kernel
theorem dX11_laysRings_19 : decode cX11_laysRings 19 = .ok (.iload_n 1, 1) := by decide +kernel
theorem dX11_laysRings_20 : decode cX11_laysRings 20 = .ok (.iconst (-1), 1) := by decide +kernel
theorem dX11_laysRings_21 : decode cX11_laysRings 21 = .ok (.iastore, 1) := by decide +kernel
theorem dX11_laysRings_22 : decode cX11_laysRings 22 = .ok (.iinc 1 1, 3) := by decide +kernel
theorem dX11_laysRings_25 : decode cX11_laysRings 25 = .ok (.goto (-18), 3) := by decide +kernel
theorem dX11_laysRings_28 : decode cX11_laysRings 28 = .ok (.iconst 0, 1) := by decide +kernel
theorem dX11_laysRings_29 : decode cX11_laysRings 29 = .ok (.istore_n 1, 1) := by decide +kernel
theorem dX11_laysRings_30 : decode cX11_laysRings 30 = .ok (.iload_n 1, 1) := by decide +kernel
theorem dX11_laysRings_31 : decode cX11_laysRings 31 = .ok (.aload_n 0, 1) := by decide +kernel
theorem dX11_laysRings_32 : decode cX11_laysRings 32 = .ok (.getfield 213, 3) := by decide +kernel
theorem dX11_laysRings_35 : decode cX11_laysRings 35 = .ok (.if_icmp .ge 106, 3) := by decide +kernel
theorem dX11_laysRings_38 : decode cX11_laysRings 38 = .ok (.aload_n 0, 1) := by decide +kernel
theorem dX11_laysRings_39 : decode cX11_laysRings 39 = .ok (.getfield 57, 3) := by decide +kernel
theorem dX11_laysRings_42 : decode cX11_laysRings 42 = .ok (.iload_n 1, 1) := by decide +kernel
theorem dX11_laysRings_43 : decode cX11_laysRings 43 = .ok (.iaload, 1) := by decide +kernel
theorem dX11_laysRings_44 : decode cX11_laysRings 44 = .ok (.iconst (-1), 1) := by decide +kernel
theorem dX11_laysRings_45 : decode cX11_laysRings 45 = .ok (.if_icmp .ne 90, 3) := by decide +kernel
theorem dX11_laysRings_48 : decode cX11_laysRings 48 = .ok (.aload_n 0, 1) := by decide +kernel
theorem dX11_laysRings_49 : decode cX11_laysRings 49 = .ok (.getfield 54, 3) := by decide +kernel
theorem dX11_laysRings_52 : decode cX11_laysRings 52 = .ok (.bipush 60, 2) := by decide +kernel
theorem dX11_laysRings_54 : decode cX11_laysRings 54 = .ok (.iload_n 1, 1) := by decide +kernel
theorem dX11_laysRings_55 : decode cX11_laysRings 55 = .ok (.imul, 1) := by decide +kernel
theorem dX11_laysRings_56 : decode cX11_laysRings 56 = .ok (.iload_n 1, 1) := by decide +kernel
theorem dX11_laysRings_57 : decode cX11_laysRings 57 = .ok (.iadd, 1) := by decide +kernel
theorem dX11_laysRings_58 : decode cX11_laysRings 58 = .ok (.baload, 1) := by decide +kernel
theorem dX11_laysRings_59 : decode cX11_laysRings 59 = .ok (.ifCond .eq 76, 3) := by decide +kernel
theorem dX11_laysRings_62 : decode cX11_laysRings 62 = .ok (.iload_n 1, 1) := by decide +kernel
theorem dX11_laysRings_63 : decode cX11_laysRings 63 = .ok (.istore_n 2, 1) := by decide +kernel
theorem dX11_laysRings_64 : decode cX11_laysRings 64 = .ok (.iload_n 2, 1) := by decide +kernel
theorem dX11_laysRings_65 : decode cX11_laysRings 65 = .ok (.aload_n 0, 1) := by decide +kernel
theorem dX11_laysRings_66 : decode cX11_laysRings 66 = .ok (.getfield 213, 3) := by decide +kernel
theorem dX11_laysRings_69 : decode cX11_laysRings 69 = .ok (.if_icmp .ge 56, 3) := by decide +kernel
theorem dX11_laysRings_72 : decode cX11_laysRings 72 = .ok (.aload_n 0, 1) := by decide +kernel
theorem dX11_laysRings_73 : decode cX11_laysRings 73 = .ok (.getfield 57, 3) := by decide +kernel
theorem dX11_laysRings_76 : decode cX11_laysRings 76 = .ok (.iload_n 2, 1) := by decide +kernel
theorem dX11_laysRings_77 : decode cX11_laysRings 77 = .ok (.aload_n 0, 1) := by decide +kernel
theorem dX11_laysRings_78 : decode cX11_laysRings 78 = .ok (.getfield 54, 3) := by decide +kernel
theorem dX11_laysRings_81 : decode cX11_laysRings 81 = .ok (.bipush 60, 2) := by decide +kernel
theorem dX11_laysRings_83 : decode cX11_laysRings 83 = .ok (.iload_n 1, 1) := by decide +kernel
theorem dX11_laysRings_84 : decode cX11_laysRings 84 = .ok (.imul, 1) := by decide +kernel
theorem dX11_laysRings_85 : decode cX11_laysRings 85 = .ok (.iload_n 2, 1) := by decide +kernel
theorem dX11_laysRings_86 : decode cX11_laysRings 86 = .ok (.iadd, 1) := by decide +kernel
theorem dX11_laysRings_87 : decode cX11_laysRings 87 = .ok (.baload, 1) := by decide +kernel
theorem dX11_laysRings_88 : decode cX11_laysRings 88 = .ok (.ifCond .eq 24, 3) := by decide +kernel
theorem dX11_laysRings_91 : decode cX11_laysRings 91 = .ok (.aload_n 0, 1) := by decide +kernel
theorem dX11_laysRings_92 : decode cX11_laysRings 92 = .ok (.getfield 54, 3) := by decide +kernel
theorem dX11_laysRings_95 : decode cX11_laysRings 95 = .ok (.bipush 60, 2) := by decide +kernel
theorem dX11_laysRings_97 : decode cX11_laysRings 97 = .ok (.iload_n 2, 1) := by decide +kernel
theorem dX11_laysRings_98 : decode cX11_laysRings 98 = .ok (.imul, 1) := by decide +kernel
theorem dX11_laysRings_99 : decode cX11_laysRings 99 = .ok (.iload_n 1, 1) := by decide +kernel
theorem dX11_laysRings_100 : decode cX11_laysRings 100 = .ok (.iadd, 1) := by decide +kernel
theorem dX11_laysRings_101 : decode cX11_laysRings 101 = .ok (.baload, 1) := by decide +kernel
theorem dX11_laysRings_102 : decode cX11_laysRings 102 = .ok (.ifCond .eq 10, 3) := by decide +kernel
theorem dX11_laysRings_105 : decode cX11_laysRings 105 = .ok (.aload_n 0, 1) := by decide +kernel
theorem dX11_laysRings_106 : decode cX11_laysRings 106 = .ok (.getfield 210, 3) := by decide +kernel
theorem dX11_laysRings_109 : decode cX11_laysRings 109 = .ok (.goto 9, 3) := by decide +kernel
theorem dX11_laysRings_112 : decode cX11_laysRings 112 = .ok (.aload_n 0, 1) := by decide +kernel
theorem dX11_laysRings_113 : decode cX11_laysRings 113 = .ok (.getfield 57, 3) := by decide +kernel
theorem dX11_laysRings_116 : decode cX11_laysRings 116 = .ok (.iload_n 2, 1) := by decide +kernel
theorem dX11_laysRings_117 : decode cX11_laysRings 117 = .ok (.iaload, 1) := by decide +kernel
theorem dX11_laysRings_118 : decode cX11_laysRings 118 = .ok (.iastore, 1) := by decide +kernel
theorem dX11_laysRings_119 : decode cX11_laysRings 119 = .ok (.iinc 2 1, 3) := by decide +kernel
theorem dX11_laysRings_122 : decode cX11_laysRings 122 = .ok (.goto (-58), 3) := by decide +kernel
theorem dX11_laysRings_125 : decode cX11_laysRings 125 = .ok (.aload_n 0, 1) := by decide +kernel
theorem dX11_laysRings_126 : decode cX11_laysRings 126 = .ok (.dup, 1) := by decide +kernel
theorem dX11_laysRings_127 : decode cX11_laysRings 127 = .ok (.getfield 210, 3) := by decide +kernel
theorem dX11_laysRings_130 : decode cX11_laysRings 130 = .ok (.iconst 1, 1) := by decide +kernel
theorem dX11_laysRings_131 : decode cX11_laysRings 131 = .ok (.iadd, 1) := by decide +kernel
theorem dX11_laysRings_132 : decode cX11_laysRings 132 = .ok (.putfield 210, 3) := by decide +kernel
theorem dX11_laysRings_135 : decode cX11_laysRings 135 = .ok (.iinc 1 1, 3) := by decide +kernel
theorem dX11_laysRings_138 : decode cX11_laysRings 138 = .ok (.goto (-108), 3) := by decide +kernel
theorem dX11_laysRings_141 : decode cX11_laysRings 141 = .ok (.return_, 1) := by decide +kernel
theorem dX11_laysCalls_0 : decode cX11_laysCalls 0 = .ok (.aload_n 0, 1) := by decide +kernel
theorem dX11_laysCalls_1 : decode cX11_laysCalls 1 = .ok (.iconst 0, 1) := by decide +kernel
theorem dX11_laysCalls_2 : decode cX11_laysCalls 2 = .ok (.putfield 213, 3) := by decide +kernel
theorem dX11_laysCalls_5 : decode cX11_laysCalls 5 = .ok (.iconst 0, 1) := by decide +kernel
theorem dX11_laysCalls_6 : decode cX11_laysCalls 6 = .ok (.istore_n 1, 1) := by decide +kernel
theorem dX11_laysCalls_7 : decode cX11_laysCalls 7 = .ok (.iload_n 1, 1) := by decide +kernel
theorem dX11_laysCalls_8 : decode cX11_laysCalls 8 = .ok (.aload_n 0, 1) := by decide +kernel
theorem dX11_laysCalls_9 : decode cX11_laysCalls 9 = .ok (.getfield 7, 3) := by decide +kernel
theorem dX11_laysCalls_12 : decode cX11_laysCalls 12 = .ok (.iconst 0, 1) := by decide +kernel
theorem dX11_laysCalls_13 : decode cX11_laysCalls 13 = .ok (.iaload, 1) := by decide +kernel
theorem dX11_laysCalls_14 : decode cX11_laysCalls 14 = .ok (.if_icmp .ge 82, 3) := by decide +kernel
theorem dX11_laysCalls_17 : decode cX11_laysCalls 17 = .ok (.iconst 0, 1) := by decide +kernel
theorem dX11_laysCalls_18 : decode cX11_laysCalls 18 = .ok (.istore_n 2, 1) := by decide +kernel
theorem dX11_laysCalls_19 : decode cX11_laysCalls 19 = .ok (.iload_n 2, 1) := by decide +kernel
theorem dX11_laysCalls_20 : decode cX11_laysCalls 20 = .ok (.aload_n 0, 1) := by decide +kernel
theorem dX11_laysCalls_21 : decode cX11_laysCalls 21 = .ok (.getfield 7, 3) := by decide +kernel
theorem dX11_laysCalls_24 : decode cX11_laysCalls 24 = .ok (.iload_n 1, 1) := by decide +kernel
theorem dX11_laysCalls_25 : decode cX11_laysCalls 25 = .ok (.invokestatic 162, 3) := by decide +kernel
theorem dX11_laysCalls_28 : decode cX11_laysCalls 28 = .ok (.if_icmp .ge 62, 3) := by decide +kernel
theorem dX11_laysCalls_31 : decode cX11_laysCalls 31 = .ok (.aload_n 0, 1) := by decide +kernel
theorem dX11_laysCalls_32 : decode cX11_laysCalls 32 = .ok (.aload_n 0, 1) := by decide +kernel
theorem dX11_laysCalls_33 : decode cX11_laysCalls 33 = .ok (.getfield 7, 3) := by decide +kernel
theorem dX11_laysCalls_36 : decode cX11_laysCalls 36 = .ok (.iload_n 1, 1) := by decide +kernel
theorem dX11_laysCalls_37 : decode cX11_laysCalls 37 = .ok (.invokestatic 127, 3) := by decide +kernel
theorem dX11_laysCalls_40 : decode cX11_laysCalls 40 = .ok (.iload_n 2, 1) := by decide +kernel
theorem dX11_laysCalls_41 : decode cX11_laysCalls 41 = .ok (.iadd, 1) := by decide +kernel
theorem dX11_laysCalls_42 : decode cX11_laysCalls 42 = .ok (.iaload, 1) := by decide +kernel
theorem dX11_laysCalls_43 : decode cX11_laysCalls 43 = .ok (.invokevirtual 165, 3) := by decide +kernel
theorem dX11_laysCalls_46 : decode cX11_laysCalls 46 = .ok (.ifCond .eq 38, 3) := by decide +kernel
theorem dX11_laysCalls_49 : decode cX11_laysCalls 49 = .ok (.aload_n 0, 1) := by decide +kernel
theorem dX11_laysCalls_50 : decode cX11_laysCalls 50 = .ok (.getfield 44, 3) := by decide +kernel
theorem dX11_laysCalls_53 : decode cX11_laysCalls 53 = .ok (.aload_n 0, 1) := by decide +kernel
theorem dX11_laysCalls_54 : decode cX11_laysCalls 54 = .ok (.getfield 213, 3) := by decide +kernel
theorem dX11_laysCalls_57 : decode cX11_laysCalls 57 = .ok (.iload_n 1, 1) := by decide +kernel
theorem dX11_laysCalls_58 : decode cX11_laysCalls 58 = .ok (.iastore, 1) := by decide +kernel
theorem dX11_laysCalls_59 : decode cX11_laysCalls 59 = .ok (.aload_n 0, 1) := by decide +kernel
theorem dX11_laysCalls_60 : decode cX11_laysCalls 60 = .ok (.getfield 47, 3) := by decide +kernel
theorem dX11_laysCalls_63 : decode cX11_laysCalls 63 = .ok (.aload_n 0, 1) := by decide +kernel
theorem dX11_laysCalls_64 : decode cX11_laysCalls 64 = .ok (.getfield 213, 3) := by decide +kernel
theorem dX11_laysCalls_67 : decode cX11_laysCalls 67 = .ok (.iload_n 1, 1) := by decide +kernel
theorem dX11_laysCalls_68 : decode cX11_laysCalls 68 = .ok (.invokestatic 127, 3) := by decide +kernel
theorem dX11_laysCalls_71 : decode cX11_laysCalls 71 = .ok (.iload_n 2, 1) := by decide +kernel
theorem dX11_laysCalls_72 : decode cX11_laysCalls 72 = .ok (.iadd, 1) := by decide +kernel
theorem dX11_laysCalls_73 : decode cX11_laysCalls 73 = .ok (.iastore, 1) := by decide +kernel
theorem dX11_laysCalls_74 : decode cX11_laysCalls 74 = .ok (.aload_n 0, 1) := by decide +kernel
theorem dX11_laysCalls_75 : decode cX11_laysCalls 75 = .ok (.dup, 1) := by decide +kernel
theorem dX11_laysCalls_76 : decode cX11_laysCalls 76 = .ok (.getfield 213, 3) := by decide +kernel
theorem dX11_laysCalls_79 : decode cX11_laysCalls 79 = .ok (.iconst 1, 1) := by decide +kernel
theorem dX11_laysCalls_80 : decode cX11_laysCalls 80 = .ok (.iadd, 1) := by decide +kernel
theorem dX11_laysCalls_81 : decode cX11_laysCalls 81 = .ok (.putfield 213, 3) := by decide +kernel
theorem dX11_laysCalls_84 : decode cX11_laysCalls 84 = .ok (.iinc 2 1, 3) := by decide +kernel
theorem dX11_laysCalls_87 : decode cX11_laysCalls 87 = .ok (.goto (-68), 3) := by decide +kernel
theorem dX11_laysCalls_90 : decode cX11_laysCalls 90 = .ok (.iinc 1 1, 3) := by decide +kernel
theorem dX11_laysCalls_93 : decode cX11_laysCalls 93 = .ok (.goto (-86), 3) := by decide +kernel
theorem dX11_laysCalls_96 : decode cX11_laysCalls 96 = .ok (.iconst 0, 1) := by decide +kernel
theorem dX11_laysCalls_97 : decode cX11_laysCalls 97 = .ok (.istore_n 1, 1) := by decide +kernel
theorem dX11_laysCalls_98 : decode cX11_laysCalls 98 = .ok (.iload_n 1, 1) := by decide +kernel
theorem dX11_laysCalls_99 : decode cX11_laysCalls 99 = .ok (.aload_n 0, 1) := by decide +kernel
theorem dX11_laysCalls_100 : decode cX11_laysCalls 100 = .ok (.getfield 213, 3) := by decide +kernel
theorem dX11_laysCalls_103 : decode cX11_laysCalls 103 = .ok (.if_icmp .ge 64, 3) := by decide +kernel
theorem dX11_laysCalls_106 : decode cX11_laysCalls 106 = .ok (.iconst 0, 1) := by decide +kernel
theorem dX11_laysCalls_107 : decode cX11_laysCalls 107 = .ok (.istore_n 2, 1) := by decide +kernel
theorem dX11_laysCalls_108 : decode cX11_laysCalls 108 = .ok (.iload_n 2, 1) := by decide +kernel
theorem dX11_laysCalls_109 : decode cX11_laysCalls 109 = .ok (.aload_n 0, 1) := by decide +kernel
theorem dX11_laysCalls_110 : decode cX11_laysCalls 110 = .ok (.getfield 213, 3) := by decide +kernel
theorem dX11_laysCalls_113 : decode cX11_laysCalls 113 = .ok (.if_icmp .ge 48, 3) := by decide +kernel
theorem dX11_laysCalls_116 : decode cX11_laysCalls 116 = .ok (.aload_n 0, 1) := by decide +kernel
theorem dX11_laysCalls_117 : decode cX11_laysCalls 117 = .ok (.getfield 50, 3) := by decide +kernel
theorem dX11_laysCalls_120 : decode cX11_laysCalls 120 = .ok (.bipush 60, 2) := by decide +kernel
theorem dX11_laysCalls_122 : decode cX11_laysCalls 122 = .ok (.iload_n 1, 1) := by decide +kernel
theorem dX11_laysCalls_123 : decode cX11_laysCalls 123 = .ok (.imul, 1) := by decide +kernel
theorem dX11_laysCalls_124 : decode cX11_laysCalls 124 = .ok (.iload_n 2, 1) := by decide +kernel
theorem dX11_laysCalls_125 : decode cX11_laysCalls 125 = .ok (.iadd, 1) := by decide +kernel
theorem dX11_laysCalls_126 : decode cX11_laysCalls 126 = .ok (.aload_n 0, 1) := by decide +kernel
theorem dX11_laysCalls_127 : decode cX11_laysCalls 127 = .ok (.iload_n 1, 1) := by decide +kernel
theorem dX11_laysCalls_128 : decode cX11_laysCalls 128 = .ok (.iload_n 2, 1) := by decide +kernel
theorem dX11_laysCalls_129 : decode cX11_laysCalls 129 = .ok (.invokevirtual 216, 3) := by decide +kernel
theorem dX11_laysCalls_132 : decode cX11_laysCalls 132 = .ok (.bastore, 1) := by decide +kernel
theorem dX11_laysCalls_133 : decode cX11_laysCalls 133 = .ok (.aload_n 0, 1) := by decide +kernel
theorem dX11_laysCalls_134 : decode cX11_laysCalls 134 = .ok (.getfield 54, 3) := by decide +kernel
theorem dX11_laysCalls_137 : decode cX11_laysCalls 137 = .ok (.bipush 60, 2) := by decide +kernel
theorem dX11_laysCalls_139 : decode cX11_laysCalls 139 = .ok (.iload_n 1, 1) := by decide +kernel
theorem dX11_laysCalls_140 : decode cX11_laysCalls 140 = .ok (.imul, 1) := by decide +kernel
theorem dX11_laysCalls_141 : decode cX11_laysCalls 141 = .ok (.iload_n 2, 1) := by decide +kernel
theorem dX11_laysCalls_142 : decode cX11_laysCalls 142 = .ok (.iadd, 1) := by decide +kernel
theorem dX11_laysCalls_143 : decode cX11_laysCalls 143 = .ok (.aload_n 0, 1) := by decide +kernel
theorem dX11_laysCalls_144 : decode cX11_laysCalls 144 = .ok (.getfield 50, 3) := by decide +kernel
theorem dX11_laysCalls_147 : decode cX11_laysCalls 147 = .ok (.bipush 60, 2) := by decide +kernel
theorem dX11_laysCalls_149 : decode cX11_laysCalls 149 = .ok (.iload_n 1, 1) := by decide +kernel
theorem dX11_laysCalls_150 : decode cX11_laysCalls 150 = .ok (.imul, 1) := by decide +kernel
theorem dX11_laysCalls_151 : decode cX11_laysCalls 151 = .ok (.iload_n 2, 1) := by decide +kernel
theorem dX11_laysCalls_152 : decode cX11_laysCalls 152 = .ok (.iadd, 1) := by decide +kernel
theorem dX11_laysCalls_153 : decode cX11_laysCalls 153 = .ok (.baload, 1) := by decide +kernel
theorem dX11_laysCalls_154 : decode cX11_laysCalls 154 = .ok (.bastore, 1) := by decide +kernel
theorem dX11_laysCalls_155 : decode cX11_laysCalls 155 = .ok (.iinc 2 1, 3) := by decide +kernel
theorem dX11_laysCalls_158 : decode cX11_laysCalls 158 = .ok (.goto (-50), 3) := by decide +kernel
theorem dX11_laysCalls_161 : decode cX11_laysCalls 161 = .ok (.iinc 1 1, 3) := by decide +kernel
theorem dX11_laysCalls_164 : decode cX11_laysCalls 164 = .ok (.goto (-66), 3) := by decide +kernel
theorem dX11_laysCalls_167 : decode cX11_laysCalls 167 = .ok (.iconst 0, 1) := by decide +kernel
theorem dX11_laysCalls_168 : decode cX11_laysCalls 168 = .ok (.istore_n 1, 1) := by decide +kernel
theorem dX11_laysCalls_169 : decode cX11_laysCalls 169 = .ok (.iload_n 1, 1) := by decide +kernel
theorem dX11_laysCalls_170 : decode cX11_laysCalls 170 = .ok (.aload_n 0, 1) := by decide +kernel
theorem dX11_laysCalls_171 : decode cX11_laysCalls 171 = .ok (.getfield 213, 3) := by decide +kernel
theorem dX11_laysCalls_174 : decode cX11_laysCalls 174 = .ok (.if_icmp .ge 99, 3) := by decide +kernel
theorem dX11_laysCalls_177 : decode cX11_laysCalls 177 = .ok (.iconst 0, 1) := by decide +kernel
theorem dX11_laysCalls_178 : decode cX11_laysCalls 178 = .ok (.istore_n 2, 1) := by decide +kernel
theorem dX11_laysCalls_179 : decode cX11_laysCalls 179 = .ok (.iload_n 2, 1) := by decide +kernel
theorem dX11_laysCalls_180 : decode cX11_laysCalls 180 = .ok (.aload_n 0, 1) := by decide +kernel
theorem dX11_laysCalls_181 : decode cX11_laysCalls 181 = .ok (.getfield 213, 3) := by decide +kernel
theorem dX11_laysCalls_184 : decode cX11_laysCalls 184 = .ok (.if_icmp .ge 83, 3) := by decide +kernel
theorem dX11_laysCalls_187 : decode cX11_laysCalls 187 = .ok (.iconst 0, 1) := by decide +kernel
theorem dX11_laysCalls_188 : decode cX11_laysCalls 188 = .ok (.istore_n 3, 1) := by decide +kernel
theorem dX11_laysCalls_189 : decode cX11_laysCalls 189 = .ok (.iload_n 3, 1) := by decide +kernel
theorem dX11_laysCalls_190 : decode cX11_laysCalls 190 = .ok (.aload_n 0, 1) := by decide +kernel
theorem dX11_laysCalls_191 : decode cX11_laysCalls 191 = .ok (.getfield 213, 3) := by decide +kernel
theorem dX11_laysCalls_194 : decode cX11_laysCalls 194 = .ok (.if_icmp .ge 67, 3) := by decide +kernel
theorem dX11_laysCalls_197 : decode cX11_laysCalls 197 = .ok (.aload_n 0, 1) := by decide +kernel
theorem dX11_laysCalls_198 : decode cX11_laysCalls 198 = .ok (.getfield 54, 3) := by decide +kernel
theorem dX11_laysCalls_201 : decode cX11_laysCalls 201 = .ok (.bipush 60, 2) := by decide +kernel
theorem dX11_laysCalls_203 : decode cX11_laysCalls 203 = .ok (.iload_n 2, 1) := by decide +kernel
theorem dX11_laysCalls_204 : decode cX11_laysCalls 204 = .ok (.imul, 1) := by decide +kernel
theorem dX11_laysCalls_205 : decode cX11_laysCalls 205 = .ok (.iload_n 1, 1) := by decide +kernel
theorem dX11_laysCalls_206 : decode cX11_laysCalls 206 = .ok (.iadd, 1) := by decide +kernel
theorem dX11_laysCalls_207 : decode cX11_laysCalls 207 = .ok (.baload, 1) := by decide +kernel
theorem dX11_laysCalls_208 : decode cX11_laysCalls 208 = .ok (.ifCond .eq 53, 3) := by decide +kernel
theorem dX11_laysCalls_211 : decode cX11_laysCalls 211 = .ok (.aload_n 0, 1) := by decide +kernel
theorem dX11_laysCalls_212 : decode cX11_laysCalls 212 = .ok (.getfield 54, 3) := by decide +kernel
theorem dX11_laysCalls_215 : decode cX11_laysCalls 215 = .ok (.bipush 60, 2) := by decide +kernel
theorem dX11_laysCalls_217 : decode cX11_laysCalls 217 = .ok (.iload_n 2, 1) := by decide +kernel
theorem dX11_laysCalls_218 : decode cX11_laysCalls 218 = .ok (.imul, 1) := by decide +kernel
theorem dX11_laysCalls_219 : decode cX11_laysCalls 219 = .ok (.iload_n 3, 1) := by decide +kernel
theorem dX11_laysCalls_220 : decode cX11_laysCalls 220 = .ok (.iadd, 1) := by decide +kernel
theorem dX11_laysCalls_221 : decode cX11_laysCalls 221 = .ok (.aload_n 0, 1) := by decide +kernel
theorem dX11_laysCalls_222 : decode cX11_laysCalls 222 = .ok (.getfield 54, 3) := by decide +kernel
theorem dX11_laysCalls_225 : decode cX11_laysCalls 225 = .ok (.bipush 60, 2) := by decide +kernel
theorem dX11_laysCalls_227 : decode cX11_laysCalls 227 = .ok (.iload_n 2, 1) := by decide +kernel
theorem dX11_laysCalls_228 : decode cX11_laysCalls 228 = .ok (.imul, 1) := by decide +kernel
theorem dX11_laysCalls_229 : decode cX11_laysCalls 229 = .ok (.iload_n 3, 1) := by decide +kernel
theorem dX11_laysCalls_230 : decode cX11_laysCalls 230 = .ok (.iadd, 1) := by decide +kernel
theorem dX11_laysCalls_231 : decode cX11_laysCalls 231 = .ok (.baload, 1) := by decide +kernel
theorem dX11_laysCalls_232 : decode cX11_laysCalls 232 = .ok (.ifCond .ne 17, 3) := by decide +kernel
theorem dX11_laysCalls_235 : decode cX11_laysCalls 235 = .ok (.aload_n 0, 1) := by decide +kernel
theorem dX11_laysCalls_236 : decode cX11_laysCalls 236 = .ok (.getfield 54, 3) := by decide +kernel
theorem dX11_laysCalls_239 : decode cX11_laysCalls 239 = .ok (.bipush 60, 2) := by decide +kernel
theorem dX11_laysCalls_241 : decode cX11_laysCalls 241 = .ok (.iload_n 1, 1) := by decide +kernel
theorem dX11_laysCalls_242 : decode cX11_laysCalls 242 = .ok (.imul, 1) := by decide +kernel
theorem dX11_laysCalls_243 : decode cX11_laysCalls 243 = .ok (.iload_n 3, 1) := by decide +kernel
theorem dX11_laysCalls_244 : decode cX11_laysCalls 244 = .ok (.iadd, 1) := by decide +kernel
theorem dX11_laysCalls_245 : decode cX11_laysCalls 245 = .ok (.baload, 1) := by decide +kernel
theorem dX11_laysCalls_246 : decode cX11_laysCalls 246 = .ok (.ifCond .eq 7, 3) := by decide +kernel
theorem dX11_laysCalls_249 : decode cX11_laysCalls 249 = .ok (.iconst 1, 1) := by decide +kernel
theorem dX11_laysCalls_250 : decode cX11_laysCalls 250 = .ok (.goto 4, 3) := by decide +kernel
theorem dX11_laysCalls_253 : decode cX11_laysCalls 253 = .ok (.iconst 0, 1) := by decide +kernel
theorem dX11_laysCalls_254 : decode cX11_laysCalls 254 = .ok (.bastore, 1) := by decide +kernel
theorem dX11_laysCalls_255 : decode cX11_laysCalls 255 = .ok (.iinc 3 1, 3) := by decide +kernel
theorem dX11_laysCalls_258 : decode cX11_laysCalls 258 = .ok (.goto (-69), 3) := by decide +kernel
theorem dX11_laysCalls_261 : decode cX11_laysCalls 261 = .ok (.iinc 2 1, 3) := by decide +kernel
theorem dX11_laysCalls_264 : decode cX11_laysCalls 264 = .ok (.goto (-85), 3) := by decide +kernel
theorem dX11_laysCalls_267 : decode cX11_laysCalls 267 = .ok (.iinc 1 1, 3) := by decide +kernel
theorem dX11_laysCalls_270 : decode cX11_laysCalls 270 = .ok (.goto (-101), 3) := by decide +kernel
theorem dX11_laysCalls_273 : decode cX11_laysCalls 273 = .ok (.aload_n 0, 1) := by decide +kernel
theorem dX11_laysCalls_274 : decode cX11_laysCalls 274 = .ok (.invokevirtual 219, 3) := by decide +kernel
theorem dX11_laysCalls_277 : decode cX11_laysCalls 277 = .ok (.return_, 1) := by decide +kernel
theorem dX11_isLighter_0 : decode cX11_isLighter 0 = .ok (.aload_n 0, 1) := by decide +kernel
theorem dX11_isLighter_1 : decode cX11_isLighter 1 = .ok (.iconst 1, 1) := by decide +kernel
theorem dX11_isLighter_2 : decode cX11_isLighter 2 = .ok (.invokevirtual 198, 3) := by decide +kernel
theorem dX11_isLighter_5 : decode cX11_isLighter 5 = .ok (.istore_n 2, 1) := by decide +kernel
theorem dX11_isLighter_6 : decode cX11_isLighter 6 = .ok (.iconst 0, 1) := by decide +kernel
theorem dX11_isLighter_7 : decode cX11_isLighter 7 = .ok (.istore_n 3, 1) := by decide +kernel
theorem dX11_isLighter_8 : decode cX11_isLighter 8 = .ok (.iload_n 3, 1) := by decide +kernel
theorem dX11_isLighter_9 : decode cX11_isLighter 9 = .ok (.aload_n 0, 1) := by decide +kernel
theorem dX11_isLighter_10 : decode cX11_isLighter 10 = .ok (.getfield 213, 3) := by decide +kernel
theorem dX11_isLighter_13 : decode cX11_isLighter 13 = .ok (.if_icmp .ge 78, 3) := by decide +kernel
theorem dX11_isLighter_16 : decode cX11_isLighter 16 = .ok (.iload_n 2, 1) := by decide +kernel
theorem dX11_isLighter_17 : decode cX11_isLighter 17 = .ok (.ifCond .eq 74, 3) := by decide +kernel
theorem dX11_isLighter_20 : decode cX11_isLighter 20 = .ok (.aload_n 0, 1) := by decide +kernel
theorem dX11_isLighter_21 : decode cX11_isLighter 21 = .ok (.getfield 44, 3) := by decide +kernel
theorem dX11_isLighter_24 : decode cX11_isLighter 24 = .ok (.iload_n 3, 1) := by decide +kernel
theorem dX11_isLighter_25 : decode cX11_isLighter 25 = .ok (.iaload, 1) := by decide +kernel
theorem dX11_isLighter_26 : decode cX11_isLighter 26 = .ok (.istore 4, 2) := by decide +kernel
theorem dX11_isLighter_28 : decode cX11_isLighter 28 = .ok (.aload_n 0, 1) := by decide +kernel
theorem dX11_isLighter_29 : decode cX11_isLighter 29 = .ok (.getfield 57, 3) := by decide +kernel
theorem dX11_isLighter_32 : decode cX11_isLighter 32 = .ok (.iload_n 3, 1) := by decide +kernel
theorem dX11_isLighter_33 : decode cX11_isLighter 33 = .ok (.iaload, 1) := by decide +kernel
theorem dX11_isLighter_34 : decode cX11_isLighter 34 = .ok (.iload_n 1, 1) := by decide +kernel
theorem dX11_isLighter_35 : decode cX11_isLighter 35 = .ok (.if_icmp .ne 44, 3) := by decide +kernel
theorem dX11_isLighter_38 : decode cX11_isLighter 38 = .ok (.aload_n 0, 1) := by decide +kernel
theorem dX11_isLighter_39 : decode cX11_isLighter 39 = .ok (.iload 4, 2) := by decide +kernel
theorem dX11_isLighter_41 : decode cX11_isLighter 41 = .ok (.invokestatic 117, 3) := by decide +kernel
theorem dX11_isLighter_44 : decode cX11_isLighter 44 = .ok (.aload_n 0, 1) := by decide +kernel
theorem dX11_isLighter_45 : decode cX11_isLighter 45 = .ok (.getfield 7, 3) := by decide +kernel
theorem dX11_isLighter_48 : decode cX11_isLighter 48 = .ok (.iload 4, 2) := by decide +kernel
theorem dX11_isLighter_50 : decode cX11_isLighter 50 = .ok (.invokestatic 158, 3) := by decide +kernel
theorem dX11_isLighter_53 : decode cX11_isLighter 53 = .ok (.aload_n 0, 1) := by decide +kernel
theorem dX11_isLighter_54 : decode cX11_isLighter 54 = .ok (.getfield 47, 3) := by decide +kernel
theorem dX11_isLighter_57 : decode cX11_isLighter 57 = .ok (.iload_n 3, 1) := by decide +kernel
theorem dX11_isLighter_58 : decode cX11_isLighter 58 = .ok (.iaload, 1) := by decide +kernel
theorem dX11_isLighter_59 : decode cX11_isLighter 59 = .ok (.aload_n 0, 1) := by decide +kernel
theorem dX11_isLighter_60 : decode cX11_isLighter 60 = .ok (.getfield 7, 3) := by decide +kernel
theorem dX11_isLighter_63 : decode cX11_isLighter 63 = .ok (.aload_n 0, 1) := by decide +kernel
theorem dX11_isLighter_64 : decode cX11_isLighter 64 = .ok (.getfield 47, 3) := by decide +kernel
theorem dX11_isLighter_67 : decode cX11_isLighter 67 = .ok (.iload_n 3, 1) := by decide +kernel
theorem dX11_isLighter_68 : decode cX11_isLighter 68 = .ok (.iaload, 1) := by decide +kernel
theorem dX11_isLighter_69 : decode cX11_isLighter 69 = .ok (.invokestatic 207, 3) := by decide +kernel
theorem dX11_isLighter_72 : decode cX11_isLighter 72 = .ok (.invokevirtual 187, 3) := by decide +kernel
theorem dX11_isLighter_75 : decode cX11_isLighter 75 = .ok (.iconst 2, 1) := by decide +kernel
theorem dX11_isLighter_76 : decode cX11_isLighter 76 = .ok (.if_icmp .ne 7, 3) := by decide +kernel
theorem dX11_isLighter_79 : decode cX11_isLighter 79 = .ok (.iconst 1, 1) := by decide +kernel
theorem dX11_isLighter_80 : decode cX11_isLighter 80 = .ok (.goto 4, 3) := by decide +kernel
theorem dX11_isLighter_83 : decode cX11_isLighter 83 = .ok (.iconst 0, 1) := by decide +kernel
theorem dX11_isLighter_84 : decode cX11_isLighter 84 = .ok (.istore_n 2, 1) := by decide +kernel
theorem dX11_isLighter_85 : decode cX11_isLighter 85 = .ok (.iinc 3 1, 3) := by decide +kernel
theorem dX11_isLighter_88 : decode cX11_isLighter 88 = .ok (.goto (-80), 3) := by decide +kernel
theorem dX11_isLighter_91 : decode cX11_isLighter 91 = .ok (.iload_n 2, 1) := by decide +kernel
theorem dX11_isLighter_92 : decode cX11_isLighter 92 = .ok (.ireturn, 1) := by decide +kernel
theorem dX11_lighterOf_0 : decode cX11_lighterOf 0 = .ok (.aload_n 0, 1) := by decide +kernel
theorem dX11_lighterOf_1 : decode cX11_lighterOf 1 = .ok (.iconst 0, 1) := by decide +kernel
theorem dX11_lighterOf_2 : decode cX11_lighterOf 2 = .ok (.bipush 9, 2) := by decide +kernel
theorem dX11_lighterOf_4 : decode cX11_lighterOf 4 = .ok (.invokevirtual 194, 3) := by decide +kernel
theorem dX11_lighterOf_7 : decode cX11_lighterOf 7 = .ok (.istore_n 2, 1) := by decide +kernel
theorem dX11_lighterOf_8 : decode cX11_lighterOf 8 = .ok (.iload_n 2, 1) := by decide +kernel
theorem dX11_lighterOf_9 : decode cX11_lighterOf 9 = .ok (.ifCond .eq 26, 3) := by decide +kernel
theorem dX11_lighterOf_12 : decode cX11_lighterOf 12 = .ok (.aload_n 0, 1) := by decide +kernel
theorem dX11_lighterOf_13 : decode cX11_lighterOf 13 = .ok (.iload_n 1, 1) := by decide +kernel
theorem dX11_lighterOf_14 : decode cX11_lighterOf 14 = .ok (.invokevirtual 222, 3) := by decide +kernel
theorem dX11_lighterOf_17 : decode cX11_lighterOf 17 = .ok (.ifCond .eq 8, 3) := by decide +kernel
theorem dX11_lighterOf_20 : decode cX11_lighterOf 20 = .ok (.aload_n 0, 1) := by decide +kernel
theorem dX11_lighterOf_21 : decode cX11_lighterOf 21 = .ok (.invokevirtual 201, 3) := by decide +kernel
theorem dX11_lighterOf_24 : decode cX11_lighterOf 24 = .ok (.ireturn, 1) := by decide +kernel
theorem dX11_lighterOf_25 : decode cX11_lighterOf 25 = .ok (.aload_n 0, 1) := by decide +kernel
theorem dX11_lighterOf_26 : decode cX11_lighterOf 26 = .ok (.iconst 0, 1) := by decide +kernel
theorem dX11_lighterOf_27 : decode cX11_lighterOf 27 = .ok (.iconst 2, 1) := by decide +kernel
theorem dX11_lighterOf_28 : decode cX11_lighterOf 28 = .ok (.invokevirtual 204, 3) := by decide +kernel
theorem dX11_lighterOf_31 : decode cX11_lighterOf 31 = .ok (.istore_n 2, 1) := by decide +kernel
theorem dX11_lighterOf_32 : decode cX11_lighterOf 32 = .ok (.goto (-24), 3) := by decide +kernel
theorem dX11_lighterOf_35 : decode cX11_lighterOf 35 = .ok (.iconst (-1), 1) := by decide +kernel
theorem dX11_lighterOf_36 : decode cX11_lighterOf 36 = .ok (.ireturn, 1) := by decide +kernel
theorem dX11_callsTold_0 : decode cX11_callsTold 0 = .ok (.iload_n 1, 1) := by decide +kernel
theorem dX11_callsTold_1 : decode cX11_callsTold 1 = .ok (.iconst 2, 1) := by decide +kernel
theorem dX11_callsTold_2 : decode cX11_callsTold 2 = .ok (.if_icmp .ge 19, 3) := by decide +kernel
theorem dX11_callsTold_5 : decode cX11_callsTold 5 = .ok (.iload_n 1, 1) := by decide +kernel
theorem dX11_callsTold_6 : decode cX11_callsTold 6 = .ok (.ifCond .ne 10, 3) := by decide +kernel
theorem dX11_callsTold_9 : decode cX11_callsTold 9 = .ok (.aload_n 0, 1) := by decide +kernel
theorem dX11_callsTold_10 : decode cX11_callsTold 10 = .ok (.getfield 213, 3) := by decide +kernel
theorem dX11_callsTold_13 : decode cX11_callsTold 13 = .ok (.goto 7, 3) := by decide +kernel
theorem dX11_callsTold_16 : decode cX11_callsTold 16 = .ok (.aload_n 0, 1) := by decide +kernel
theorem dX11_callsTold_17 : decode cX11_callsTold 17 = .ok (.getfield 210, 3) := by decide +kernel
theorem dX11_callsTold_20 : decode cX11_callsTold 20 = .ok (.ireturn, 1) := by decide +kernel
theorem dX11_callsTold_21 : decode cX11_callsTold 21 = .ok (.iconst 1, 1) := by decide +kernel
theorem dX11_callsTold_22 : decode cX11_callsTold 22 = .ok (.istore_n 2, 1) := by decide +kernel
theorem dX11_callsTold_23 : decode cX11_callsTold 23 = .ok (.iconst 0, 1) := by decide +kernel
theorem dX11_callsTold_24 : decode cX11_callsTold 24 = .ok (.istore_n 3, 1) := by decide +kernel
theorem dX11_callsTold_25 : decode cX11_callsTold 25 = .ok (.iload_n 3, 1) := by decide +kernel
theorem dX11_callsTold_26 : decode cX11_callsTold 26 = .ok (.aload_n 0, 1) := by decide +kernel
theorem dX11_callsTold_27 : decode cX11_callsTold 27 = .ok (.getfield 210, 3) := by decide +kernel
theorem dX11_callsTold_30 : decode cX11_callsTold 30 = .ok (.if_icmp .ge 28, 3) := by decide +kernel
theorem dX11_callsTold_33 : decode cX11_callsTold 33 = .ok (.iload_n 2, 1) := by decide +kernel
theorem dX11_callsTold_34 : decode cX11_callsTold 34 = .ok (.ifCond .eq 24, 3) := by decide +kernel
theorem dX11_callsTold_37 : decode cX11_callsTold 37 = .ok (.aload_n 0, 1) := by decide +kernel
theorem dX11_callsTold_38 : decode cX11_callsTold 38 = .ok (.iload_n 3, 1) := by decide +kernel
theorem dX11_callsTold_39 : decode cX11_callsTold 39 = .ok (.invokevirtual 225, 3) := by decide +kernel
theorem dX11_callsTold_42 : decode cX11_callsTold 42 = .ok (.iconst (-1), 1) := by decide +kernel
theorem dX11_callsTold_43 : decode cX11_callsTold 43 = .ok (.if_icmp .eq 7, 3) := by decide +kernel
theorem dX11_callsTold_46 : decode cX11_callsTold 46 = .ok (.iconst 1, 1) := by decide +kernel
theorem dX11_callsTold_47 : decode cX11_callsTold 47 = .ok (.goto 4, 3) := by decide +kernel
theorem dX11_callsTold_50 : decode cX11_callsTold 50 = .ok (.iconst 0, 1) := by decide +kernel
theorem dX11_callsTold_51 : decode cX11_callsTold 51 = .ok (.istore_n 2, 1) := by decide +kernel
theorem dX11_callsTold_52 : decode cX11_callsTold 52 = .ok (.iinc 3 1, 3) := by decide +kernel
theorem dX11_callsTold_55 : decode cX11_callsTold 55 = .ok (.goto (-30), 3) := by decide +kernel
theorem dX11_callsTold_58 : decode cX11_callsTold 58 = .ok (.iload_n 2, 1) := by decide +kernel
theorem dX11_callsTold_59 : decode cX11_callsTold 59 = .ok (.ifCond .eq 7, 3) := by decide +kernel
theorem dX11_callsTold_62 : decode cX11_callsTold 62 = .ok (.iconst 1, 1) := by decide +kernel
theorem dX11_callsTold_63 : decode cX11_callsTold 63 = .ok (.goto 4, 3) := by decide +kernel
theorem dX11_callsTold_66 : decode cX11_callsTold 66 = .ok (.iconst 0, 1) := by decide +kernel
theorem dX11_callsTold_67 : decode cX11_callsTold 67 = .ok (.ireturn, 1) := by decide +kernel
theorem dX11_calls_0 : decode cX11_calls 0 = .ok (.iload_n 1, 1) := by decide +kernel
theorem dX11_calls_1 : decode cX11_calls 1 = .ok (.iconst 0, 1) := by decide +kernel
theorem dX11_calls_2 : decode cX11_calls 2 = .ok (.iconst 2, 1) := by decide +kernel
theorem dX11_calls_3 : decode cX11_calls 3 = .ok (.invokestatic 96, 3) := by decide +kernel
theorem dX11_calls_6 : decode cX11_calls 6 = .ok (.ifCond .ne 10, 3) := by decide +kernel
theorem dX11_calls_9 : decode cX11_calls 9 = .ok (.aload_n 0, 1) := by decide +kernel
theorem dX11_calls_10 : decode cX11_calls 10 = .ok (.bipush (-2), 2) := by decide +kernel
theorem dX11_calls_12 : decode cX11_calls 12 = .ok (.invokevirtual 80, 3) := by decide +kernel
theorem dX11_calls_15 : decode cX11_calls 15 = .ok (.ireturn, 1) := by decide +kernel
theorem dX11_calls_16 : decode cX11_calls 16 = .ok (.aload_n 0, 1) := by decide +kernel
theorem dX11_calls_17 : decode cX11_calls 17 = .ok (.invokevirtual 228, 3) := by decide +kernel
theorem dX11_calls_20 : decode cX11_calls 20 = .ok (.aload_n 0, 1) := by decide +kernel
theorem dX11_calls_21 : decode cX11_calls 21 = .ok (.iload_n 1, 1) := by decide +kernel
theorem dX11_calls_22 : decode cX11_calls 22 = .ok (.invokevirtual 231, 3) := by decide +kernel
theorem dX11_calls_25 : decode cX11_calls 25 = .ok (.ireturn, 1) := by decide +kernel
theorem dX11_callTold_0 : decode cX11_callTold 0 = .ok (.iload_n 2, 1) := by decide +kernel
theorem dX11_callTold_1 : decode cX11_callTold 1 = .ok (.tableswitch 55 0 2 #[27, 34, 48], 27) := by decide +kernel
theorem dX11_callTold_28 : decode cX11_callTold 28 = .ok (.aload_n 0, 1) := by decide +kernel
theorem dX11_callTold_29 : decode cX11_callTold 29 = .ok (.getfield 44, 3) := by decide +kernel
theorem dX11_callTold_32 : decode cX11_callTold 32 = .ok (.iload_n 1, 1) := by decide +kernel
theorem dX11_callTold_33 : decode cX11_callTold 33 = .ok (.iaload, 1) := by decide +kernel
theorem dX11_callTold_34 : decode cX11_callTold 34 = .ok (.ireturn, 1) := by decide +kernel
theorem dX11_callTold_35 : decode cX11_callTold 35 = .ok (.aload_n 0, 1) := by decide +kernel
theorem dX11_callTold_36 : decode cX11_callTold 36 = .ok (.getfield 7, 3) := by decide +kernel
theorem dX11_callTold_39 : decode cX11_callTold 39 = .ok (.aload_n 0, 1) := by decide +kernel
theorem dX11_callTold_40 : decode cX11_callTold 40 = .ok (.getfield 47, 3) := by decide +kernel
theorem dX11_callTold_43 : decode cX11_callTold 43 = .ok (.iload_n 1, 1) := by decide +kernel
theorem dX11_callTold_44 : decode cX11_callTold 44 = .ok (.iaload, 1) := by decide +kernel
theorem dX11_callTold_45 : decode cX11_callTold 45 = .ok (.invokestatic 207, 3) := by decide +kernel
theorem dX11_callTold_48 : decode cX11_callTold 48 = .ok (.ireturn, 1) := by decide +kernel
theorem dX11_callTold_49 : decode cX11_callTold 49 = .ok (.aload_n 0, 1) := by decide +kernel
theorem dX11_callTold_50 : decode cX11_callTold 50 = .ok (.getfield 57, 3) := by decide +kernel
theorem dX11_callTold_53 : decode cX11_callTold 53 = .ok (.iload_n 1, 1) := by decide +kernel
theorem dX11_callTold_54 : decode cX11_callTold 54 = .ok (.iaload, 1) := by decide +kernel
theorem dX11_callTold_55 : decode cX11_callTold 55 = .ok (.ireturn, 1) := by decide +kernel
theorem dX11_callTold_56 : decode cX11_callTold 56 = .ok (.iconst 0, 1) := by decide +kernel
theorem dX11_callTold_57 : decode cX11_callTold 57 = .ok (.istore_n 3, 1) := by decide +kernel
theorem dX11_callTold_58 : decode cX11_callTold 58 = .ok (.iconst 0, 1) := by decide +kernel
theorem dX11_callTold_59 : decode cX11_callTold 59 = .ok (.istore 4, 2) := by decide +kernel
theorem dX11_callTold_61 : decode cX11_callTold 61 = .ok (.iload 4, 2) := by decide +kernel
theorem dX11_callTold_63 : decode cX11_callTold 63 = .ok (.aload_n 0, 1) := by decide +kernel
theorem dX11_callTold_64 : decode cX11_callTold 64 = .ok (.getfield 213, 3) := by decide +kernel
theorem dX11_callTold_67 : decode cX11_callTold 67 = .ok (.if_icmp .ge 32, 3) := by decide +kernel
theorem dX11_callTold_70 : decode cX11_callTold 70 = .ok (.iload_n 3, 1) := by decide +kernel
theorem dX11_callTold_71 : decode cX11_callTold 71 = .ok (.aload_n 0, 1) := by decide +kernel
theorem dX11_callTold_72 : decode cX11_callTold 72 = .ok (.getfield 50, 3) := by decide +kernel
theorem dX11_callTold_75 : decode cX11_callTold 75 = .ok (.bipush 60, 2) := by decide +kernel
theorem dX11_callTold_77 : decode cX11_callTold 77 = .ok (.iload_n 1, 1) := by decide +kernel
theorem dX11_callTold_78 : decode cX11_callTold 78 = .ok (.imul, 1) := by decide +kernel
theorem dX11_callTold_79 : decode cX11_callTold 79 = .ok (.iload 4, 2) := by decide +kernel
theorem dX11_callTold_81 : decode cX11_callTold 81 = .ok (.iadd, 1) := by decide +kernel
theorem dX11_callTold_82 : decode cX11_callTold 82 = .ok (.baload, 1) := by decide +kernel
theorem dX11_callTold_83 : decode cX11_callTold 83 = .ok (.ifCond .eq 7, 3) := by decide +kernel
theorem dX11_callTold_86 : decode cX11_callTold 86 = .ok (.iconst 1, 1) := by decide +kernel
theorem dX11_callTold_87 : decode cX11_callTold 87 = .ok (.goto 4, 3) := by decide +kernel
theorem dX11_callTold_90 : decode cX11_callTold 90 = .ok (.iconst 0, 1) := by decide +kernel
theorem dX11_callTold_91 : decode cX11_callTold 91 = .ok (.iadd, 1) := by decide +kernel
theorem dX11_callTold_92 : decode cX11_callTold 92 = .ok (.istore_n 3, 1) := by decide +kernel
theorem dX11_callTold_93 : decode cX11_callTold 93 = .ok (.iinc 4 1, 3) := by decide +kernel
theorem dX11_callTold_96 : decode cX11_callTold 96 = .ok (.goto (-35), 3) := by decide +kernel
theorem dX11_callTold_99 : decode cX11_callTold 99 = .ok (.iload_n 3, 1) := by decide +kernel
theorem dX11_callTold_100 : decode cX11_callTold 100 = .ok (.ireturn, 1) := by decide +kernel
theorem dX11_call_0 : decode cX11_call 0 = .ok (.aload_n 0, 1) := by decide +kernel
theorem dX11_call_1 : decode cX11_call 1 = .ok (.invokevirtual 228, 3) := by decide +kernel
theorem dX11_call_4 : decode cX11_call 4 = .ok (.iload_n 1, 1) := by decide +kernel
theorem dX11_call_5 : decode cX11_call 5 = .ok (.iconst 0, 1) := by decide +kernel
theorem dX11_call_6 : decode cX11_call 6 = .ok (.aload_n 0, 1) := by decide +kernel
theorem dX11_call_7 : decode cX11_call 7 = .ok (.getfield 213, 3) := by decide +kernel
theorem dX11_call_10 : decode cX11_call 10 = .ok (.iconst 1, 1) := by decide +kernel
theorem dX11_call_11 : decode cX11_call 11 = .ok (.isub, 1) := by decide +kernel
theorem dX11_call_12 : decode cX11_call 12 = .ok (.invokestatic 96, 3) := by decide +kernel
theorem dX11_call_15 : decode cX11_call 15 = .ok (.ifCond .eq 21, 3) := by decide +kernel
theorem dX11_call_18 : decode cX11_call 18 = .ok (.iload_n 2, 1) := by decide +kernel
theorem dX11_call_19 : decode cX11_call 19 = .ok (.iconst 0, 1) := by decide +kernel
theorem dX11_call_20 : decode cX11_call 20 = .ok (.iconst 3, 1) := by decide +kernel
theorem dX11_call_21 : decode cX11_call 21 = .ok (.invokestatic 96, 3) := by decide +kernel
theorem dX11_call_24 : decode cX11_call 24 = .ok (.ifCond .eq 12, 3) := by decide +kernel
theorem dX11_call_27 : decode cX11_call 27 = .ok (.aload_n 0, 1) := by decide +kernel
theorem dX11_call_28 : decode cX11_call 28 = .ok (.iload_n 1, 1) := by decide +kernel
theorem dX11_call_29 : decode cX11_call 29 = .ok (.iload_n 2, 1) := by decide +kernel
theorem dX11_call_30 : decode cX11_call 30 = .ok (.invokevirtual 234, 3) := by decide +kernel
theorem dX11_call_33 : decode cX11_call 33 = .ok (.goto 9, 3) := by decide +kernel
theorem dX11_call_36 : decode cX11_call 36 = .ok (.aload_n 0, 1) := by decide +kernel
theorem dX11_call_37 : decode cX11_call 37 = .ok (.bipush (-2), 2) := by decide +kernel
theorem dX11_call_39 : decode cX11_call 39 = .ok (.invokevirtual 80, 3) := by decide +kernel
theorem dX11_call_42 : decode cX11_call 42 = .ok (.ireturn, 1) := by decide +kernel
theorem dX11_follows_0 : decode cX11_follows 0 = .ok (.aload_n 0, 1) := by decide +kernel
theorem dX11_follows_1 : decode cX11_follows 1 = .ok (.invokevirtual 228, 3) := by decide +kernel
theorem dX11_follows_4 : decode cX11_follows 4 = .ok (.iload_n 1, 1) := by decide +kernel
theorem dX11_follows_5 : decode cX11_follows 5 = .ok (.iconst 0, 1) := by decide +kernel
theorem dX11_follows_6 : decode cX11_follows 6 = .ok (.aload_n 0, 1) := by decide +kernel
theorem dX11_follows_7 : decode cX11_follows 7 = .ok (.getfield 213, 3) := by decide +kernel
theorem dX11_follows_10 : decode cX11_follows 10 = .ok (.iconst 1, 1) := by decide +kernel
theorem dX11_follows_11 : decode cX11_follows 11 = .ok (.isub, 1) := by decide +kernel
theorem dX11_follows_12 : decode cX11_follows 12 = .ok (.invokestatic 96, 3) := by decide +kernel
theorem dX11_follows_15 : decode cX11_follows 15 = .ok (.ifCond .eq 17, 3) := by decide +kernel
theorem dX11_follows_18 : decode cX11_follows 18 = .ok (.iload_n 2, 1) := by decide +kernel
theorem dX11_follows_19 : decode cX11_follows 19 = .ok (.iconst 0, 1) := by decide +kernel
theorem dX11_follows_20 : decode cX11_follows 20 = .ok (.aload_n 0, 1) := by decide +kernel
theorem dX11_follows_21 : decode cX11_follows 21 = .ok (.getfield 213, 3) := by decide +kernel
theorem dX11_follows_24 : decode cX11_follows 24 = .ok (.iconst 1, 1) := by decide +kernel
theorem dX11_follows_25 : decode cX11_follows 25 = .ok (.isub, 1) := by decide +kernel
theorem dX11_follows_26 : decode cX11_follows 26 = .ok (.invokestatic 96, 3) := by decide +kernel
theorem dX11_follows_29 : decode cX11_follows 29 = .ok (.ifCond .ne 10, 3) := by decide +kernel
theorem dX11_follows_32 : decode cX11_follows 32 = .ok (.aload_n 0, 1) := by decide +kernel
theorem dX11_follows_33 : decode cX11_follows 33 = .ok (.bipush (-2), 2) := by decide +kernel
theorem dX11_follows_35 : decode cX11_follows 35 = .ok (.invokevirtual 80, 3) := by decide +kernel
theorem dX11_follows_38 : decode cX11_follows 38 = .ok (.ireturn, 1) := by decide +kernel
theorem dX11_follows_39 : decode cX11_follows 39 = .ok (.aload_n 0, 1) := by decide +kernel
theorem dX11_follows_40 : decode cX11_follows 40 = .ok (.getfield 50, 3) := by decide +kernel
theorem dX11_follows_43 : decode cX11_follows 43 = .ok (.bipush 60, 2) := by decide +kernel
theorem dX11_follows_45 : decode cX11_follows 45 = .ok (.iload_n 1, 1) := by decide +kernel
theorem dX11_follows_46 : decode cX11_follows 46 = .ok (.imul, 1) := by decide +kernel
theorem dX11_follows_47 : decode cX11_follows 47 = .ok (.iload_n 2, 1) := by decide +kernel
theorem dX11_follows_48 : decode cX11_follows 48 = .ok (.iadd, 1) := by decide +kernel
theorem dX11_follows_49 : decode cX11_follows 49 = .ok (.baload, 1) := by decide +kernel
theorem dX11_follows_50 : decode cX11_follows 50 = .ok (.ifCond .eq 7, 3) := by decide +kernel
theorem dX11_follows_53 : decode cX11_follows 53 = .ok (.iconst 1, 1) := by decide +kernel
theorem dX11_follows_54 : decode cX11_follows 54 = .ok (.goto 4, 3) := by decide +kernel
theorem dX11_follows_57 : decode cX11_follows 57 = .ok (.iconst 0, 1) := by decide +kernel
theorem dX11_follows_58 : decode cX11_follows 58 = .ok (.ireturn, 1) := by decide +kernel
theorem dX11_lighter_0 : decode cX11_lighter 0 = .ok (.aload_n 0, 1) := by decide +kernel
theorem dX11_lighter_1 : decode cX11_lighter 1 = .ok (.invokevirtual 228, 3) := by decide +kernel
theorem dX11_lighter_4 : decode cX11_lighter 4 = .ok (.iload_n 1, 1) := by decide +kernel
theorem dX11_lighter_5 : decode cX11_lighter 5 = .ok (.iconst 0, 1) := by decide +kernel
theorem dX11_lighter_6 : decode cX11_lighter 6 = .ok (.aload_n 0, 1) := by decide +kernel
theorem dX11_lighter_7 : decode cX11_lighter 7 = .ok (.getfield 210, 3) := by decide +kernel
theorem dX11_lighter_10 : decode cX11_lighter 10 = .ok (.iconst 1, 1) := by decide +kernel
theorem dX11_lighter_11 : decode cX11_lighter 11 = .ok (.isub, 1) := by decide +kernel
theorem dX11_lighter_12 : decode cX11_lighter 12 = .ok (.invokestatic 96, 3) := by decide +kernel
theorem dX11_lighter_15 : decode cX11_lighter 15 = .ok (.ifCond .eq 11, 3) := by decide +kernel
theorem dX11_lighter_18 : decode cX11_lighter 18 = .ok (.aload_n 0, 1) := by decide +kernel
theorem dX11_lighter_19 : decode cX11_lighter 19 = .ok (.iload_n 1, 1) := by decide +kernel
theorem dX11_lighter_20 : decode cX11_lighter 20 = .ok (.invokevirtual 225, 3) := by decide +kernel
theorem dX11_lighter_23 : decode cX11_lighter 23 = .ok (.goto 9, 3) := by decide +kernel
theorem dX11_lighter_26 : decode cX11_lighter 26 = .ok (.aload_n 0, 1) := by decide +kernel
theorem dX11_lighter_27 : decode cX11_lighter 27 = .ok (.bipush (-2), 2) := by decide +kernel
theorem dX11_lighter_29 : decode cX11_lighter 29 = .ok (.invokevirtual 80, 3) := by decide +kernel
theorem dX11_lighter_32 : decode cX11_lighter 32 = .ok (.ireturn, 1) := by decide +kernel
theorem dX11_laysTerm_0 : decode cX11_laysTerm 0 = .ok (.aload_n 0, 1) := by decide +kernel
theorem dX11_laysTerm_1 : decode cX11_laysTerm 1 = .ok (.aload_n 0, 1) := by decide +kernel
theorem dX11_laysTerm_2 : decode cX11_laysTerm 2 = .ok (.getfield 7, 3) := by decide +kernel
theorem dX11_laysTerm_5 : decode cX11_laysTerm 5 = .ok (.sipush 131, 3) := by decide +kernel
theorem dX11_laysTerm_8 : decode cX11_laysTerm 8 = .ok (.iaload, 1) := by decide +kernel
theorem dX11_laysTerm_9 : decode cX11_laysTerm 9 = .ok (.putfield 237, 3) := by decide +kernel
theorem dX11_laysTerm_12 : decode cX11_laysTerm 12 = .ok (.iconst 0, 1) := by decide +kernel
theorem dX11_laysTerm_13 : decode cX11_laysTerm 13 = .ok (.istore_n 1, 1) := by decide +kernel
theorem dX11_laysTerm_14 : decode cX11_laysTerm 14 = .ok (.iload_n 1, 1) := by decide +kernel
theorem dX11_laysTerm_15 : decode cX11_laysTerm 15 = .ok (.aload_n 0, 1) := by decide +kernel
theorem dX11_laysTerm_16 : decode cX11_laysTerm 16 = .ok (.getfield 237, 3) := by decide +kernel
theorem dX11_laysTerm_19 : decode cX11_laysTerm 19 = .ok (.if_icmp .ge 25, 3) := by decide +kernel
theorem dX11_laysTerm_22 : decode cX11_laysTerm 22 = .ok (.aload_n 0, 1) := by decide +kernel
theorem dX11_laysTerm_23 : decode cX11_laysTerm 23 = .ok (.getfield 60, 3) := by decide +kernel
theorem dX11_laysTerm_26 : decode cX11_laysTerm 26 = .ok (.iload_n 1, 1) := by decide +kernel
theorem dX11_laysTerm_27 : decode cX11_laysTerm 27 = .ok (.aload_n 0, 1) := by decide +kernel
theorem dX11_laysTerm_28 : decode cX11_laysTerm 28 = .ok (.getfield 7, 3) := by decide +kernel
theorem dX11_laysTerm_31 : decode cX11_laysTerm 31 = .ok (.sipush 132, 3) := by decide +kernel
theorem dX11_laysTerm_34 : decode cX11_laysTerm 34 = .ok (.iload_n 1, 1) := by decide +kernel
theorem dX11_laysTerm_35 : decode cX11_laysTerm 35 = .ok (.iadd, 1) := by decide +kernel
theorem dX11_laysTerm_36 : decode cX11_laysTerm 36 = .ok (.iaload, 1) := by decide +kernel
theorem dX11_laysTerm_37 : decode cX11_laysTerm 37 = .ok (.iastore, 1) := by decide +kernel
theorem dX11_laysTerm_38 : decode cX11_laysTerm 38 = .ok (.iinc 1 1, 3) := by decide +kernel
theorem dX11_laysTerm_41 : decode cX11_laysTerm 41 = .ok (.goto (-27), 3) := by decide +kernel
theorem dX11_laysTerm_44 : decode cX11_laysTerm 44 = .ok (.return_, 1) := by decide +kernel
theorem dX11_binds_0 : decode cX11_binds 0 = .ok (.aload_n 0, 1) := by decide +kernel
theorem dX11_binds_1 : decode cX11_binds 1 = .ok (.getfield 60, 3) := by decide +kernel
theorem dX11_binds_4 : decode cX11_binds 4 = .ok (.iload_n 2, 1) := by decide +kernel
theorem dX11_binds_5 : decode cX11_binds 5 = .ok (.invokestatic 207, 3) := by decide +kernel
theorem dX11_binds_8 : decode cX11_binds 8 = .ok (.istore_n 3, 1) := by decide +kernel
theorem dX11_binds_9 : decode cX11_binds 9 = .ok (.aload_n 0, 1) := by decide +kernel
theorem dX11_binds_10 : decode cX11_binds 10 = .ok (.getfield 69, 3) := by decide +kernel
theorem dX11_binds_13 : decode cX11_binds 13 = .ok (.iload_n 1, 1) := by decide +kernel
theorem dX11_binds_14 : decode cX11_binds 14 = .ok (.iaload, 1) := by decide +kernel
theorem dX11_binds_15 : decode cX11_binds 15 = .ok (.ifCond .ne 19, 3) := by decide +kernel
theorem dX11_binds_18 : decode cX11_binds 18 = .ok (.aload_n 0, 1) := by decide +kernel
theorem dX11_binds_19 : decode cX11_binds 19 = .ok (.getfield 66, 3) := by decide +kernel
theorem dX11_binds_22 : decode cX11_binds 22 = .ok (.iload_n 1, 1) := by decide +kernel
theorem dX11_binds_23 : decode cX11_binds 23 = .ok (.iload_n 2, 1) := by decide +kernel
theorem dX11_binds_24 : decode cX11_binds 24 = .ok (.iastore, 1) := by decide +kernel
theorem dX11_binds_25 : decode cX11_binds 25 = .ok (.aload_n 0, 1) := by decide +kernel
theorem dX11_binds_26 : decode cX11_binds 26 = .ok (.getfield 69, 3) := by decide +kernel
theorem dX11_binds_29 : decode cX11_binds 29 = .ok (.iload_n 1, 1) := by decide +kernel
theorem dX11_binds_30 : decode cX11_binds 30 = .ok (.iload_n 3, 1) := by decide +kernel
theorem dX11_binds_31 : decode cX11_binds 31 = .ok (.iastore, 1) := by decide +kernel
theorem dX11_binds_32 : decode cX11_binds 32 = .ok (.iconst 1, 1) := by decide +kernel
theorem dX11_binds_33 : decode cX11_binds 33 = .ok (.ireturn, 1) := by decide +kernel
theorem dX11_binds_34 : decode cX11_binds 34 = .ok (.aload_n 0, 1) := by decide +kernel
theorem dX11_binds_35 : decode cX11_binds 35 = .ok (.getfield 69, 3) := by decide +kernel
theorem dX11_binds_38 : decode cX11_binds 38 = .ok (.iload_n 1, 1) := by decide +kernel
theorem dX11_binds_39 : decode cX11_binds 39 = .ok (.iaload, 1) := by decide +kernel
theorem dX11_binds_40 : decode cX11_binds 40 = .ok (.iload_n 3, 1) := by decide +kernel
theorem dX11_binds_41 : decode cX11_binds 41 = .ok (.if_icmp .ne 7, 3) := by decide +kernel
theorem dX11_binds_44 : decode cX11_binds 44 = .ok (.iconst 1, 1) := by decide +kernel
theorem dX11_binds_45 : decode cX11_binds 45 = .ok (.goto 4, 3) := by decide +kernel
theorem dX11_binds_48 : decode cX11_binds 48 = .ok (.iconst 0, 1) := by decide +kernel
theorem dX11_binds_49 : decode cX11_binds 49 = .ok (.istore 4, 2) := by decide +kernel
theorem dX11_binds_51 : decode cX11_binds 51 = .ok (.iconst 0, 1) := by decide +kernel
theorem dX11_binds_52 : decode cX11_binds 52 = .ok (.istore 5, 2) := by decide +kernel
theorem dX11_binds_54 : decode cX11_binds 54 = .ok (.iload 5, 2) := by decide +kernel
theorem dX11_binds_56 : decode cX11_binds 56 = .ok (.iload_n 3, 1) := by decide +kernel
theorem dX11_binds_57 : decode cX11_binds 57 = .ok (.if_icmp .ge 47, 3) := by decide +kernel
theorem dX11_binds_60 : decode cX11_binds 60 = .ok (.iload 4, 2) := by decide +kernel
theorem dX11_binds_62 : decode cX11_binds 62 = .ok (.ifCond .eq 42, 3) := by decide +kernel
theorem dX11_binds_65 : decode cX11_binds 65 = .ok (.aload_n 0, 1) := by decide +kernel
theorem dX11_binds_66 : decode cX11_binds 66 = .ok (.getfield 60, 3) := by decide +kernel
theorem dX11_binds_69 : decode cX11_binds 69 = .ok (.aload_n 0, 1) := by decide +kernel
theorem dX11_binds_70 : decode cX11_binds 70 = .ok (.getfield 66, 3) := by decide +kernel
theorem dX11_binds_73 : decode cX11_binds 73 = .ok (.iload_n 1, 1) := by decide +kernel
theorem dX11_binds_74 : decode cX11_binds 74 = .ok (.iaload, 1) := by decide +kernel
theorem dX11_binds_75 : decode cX11_binds 75 = .ok (.iload 5, 2) := by decide +kernel
theorem dX11_binds_77 : decode cX11_binds 77 = .ok (.iadd, 1) := by decide +kernel
theorem dX11_binds_78 : decode cX11_binds 78 = .ok (.iaload, 1) := by decide +kernel
theorem dX11_binds_79 : decode cX11_binds 79 = .ok (.aload_n 0, 1) := by decide +kernel
theorem dX11_binds_80 : decode cX11_binds 80 = .ok (.getfield 60, 3) := by decide +kernel
theorem dX11_binds_83 : decode cX11_binds 83 = .ok (.iload_n 2, 1) := by decide +kernel
theorem dX11_binds_84 : decode cX11_binds 84 = .ok (.iload 5, 2) := by decide +kernel
theorem dX11_binds_86 : decode cX11_binds 86 = .ok (.iadd, 1) := by decide +kernel
theorem dX11_binds_87 : decode cX11_binds 87 = .ok (.iaload, 1) := by decide +kernel
theorem dX11_binds_88 : decode cX11_binds 88 = .ok (.if_icmp .ne 7, 3) := by decide +kernel
theorem dX11_binds_91 : decode cX11_binds 91 = .ok (.iconst 1, 1) := by decide +kernel
theorem dX11_binds_92 : decode cX11_binds 92 = .ok (.goto 4, 3) := by decide +kernel
theorem dX11_binds_95 : decode cX11_binds 95 = .ok (.iconst 0, 1) := by decide +kernel
theorem dX11_binds_96 : decode cX11_binds 96 = .ok (.istore 4, 2) := by decide +kernel
theorem dX11_binds_98 : decode cX11_binds 98 = .ok (.iinc 5 1, 3) := by decide +kernel
theorem dX11_binds_101 : decode cX11_binds 101 = .ok (.goto (-47), 3) := by decide +kernel
theorem dX11_binds_104 : decode cX11_binds 104 = .ok (.iload 4, 2) := by decide +kernel
theorem dX11_binds_106 : decode cX11_binds 106 = .ok (.ireturn, 1) := by decide +kernel
theorem dX11_fits_0 : decode cX11_fits 0 = .ok (.aload_n 0, 1) := by decide +kernel
theorem dX11_fits_1 : decode cX11_fits 1 = .ok (.getfield 69, 3) := by decide +kernel
theorem dX11_fits_4 : decode cX11_fits 4 = .ok (.iconst 0, 1) := by decide +kernel
theorem dX11_fits_5 : decode cX11_fits 5 = .ok (.iconst 0, 1) := by decide +kernel
theorem dX11_fits_6 : decode cX11_fits 6 = .ok (.iastore, 1) := by decide +kernel
theorem dX11_fits_7 : decode cX11_fits 7 = .ok (.aload_n 0, 1) := by decide +kernel
theorem dX11_fits_8 : decode cX11_fits 8 = .ok (.getfield 69, 3) := by decide +kernel
theorem dX11_fits_11 : decode cX11_fits 11 = .ok (.iconst 1, 1) := by decide +kernel
theorem dX11_fits_12 : decode cX11_fits 12 = .ok (.iconst 0, 1) := by decide +kernel
theorem dX11_fits_13 : decode cX11_fits 13 = .ok (.iastore, 1) := by decide +kernel
theorem dX11_fits_14 : decode cX11_fits 14 = .ok (.iload_n 2, 1) := by decide +kernel
theorem dX11_fits_15 : decode cX11_fits 15 = .ok (.istore_n 3, 1) := by decide +kernel
theorem dX11_fits_16 : decode cX11_fits 16 = .ok (.iconst 0, 1) := by decide +kernel
theorem dX11_fits_17 : decode cX11_fits 17 = .ok (.istore 4, 2) := by decide +kernel
theorem dX11_fits_19 : decode cX11_fits 19 = .ok (.iload 4, 2) := by decide +kernel
theorem dX11_fits_21 : decode cX11_fits 21 = .ok (.aload_n 0, 1) := by decide +kernel
theorem dX11_fits_22 : decode cX11_fits 22 = .ok (.getfield 7, 3) := by decide +kernel
theorem dX11_fits_25 : decode cX11_fits 25 = .ok (.iload_n 1, 1) := by decide +kernel
theorem dX11_fits_26 : decode cX11_fits 26 = .ok (.invokestatic 158, 3) := by decide +kernel
theorem dX11_fits_29 : decode cX11_fits 29 = .ok (.if_icmp .ge 76, 3) := by decide +kernel
theorem dX11_fits_32 : decode cX11_fits 32 = .ok (.aload_n 0, 1) := by decide +kernel
theorem dX11_fits_33 : decode cX11_fits 33 = .ok (.getfield 7, 3) := by decide +kernel
theorem dX11_fits_36 : decode cX11_fits 36 = .ok (.iload_n 1, 1) := by decide +kernel
theorem dX11_fits_37 : decode cX11_fits 37 = .ok (.invokestatic 117, 3) := by decide +kernel
theorem dX11_fits_40 : decode cX11_fits 40 = .ok (.iload 4, 2) := by decide +kernel
theorem dX11_fits_42 : decode cX11_fits 42 = .ok (.iadd, 1) := by decide +kernel
theorem dX11_fits_43 : decode cX11_fits 43 = .ok (.iaload, 1) := by decide +kernel
theorem dX11_fits_44 : decode cX11_fits 44 = .ok (.istore 5, 2) := by decide +kernel
theorem dX11_fits_46 : decode cX11_fits 46 = .ok (.iload 5, 2) := by decide +kernel
theorem dX11_fits_48 : decode cX11_fits 48 = .ok (.invokestatic 100, 3) := by decide +kernel
theorem dX11_fits_51 : decode cX11_fits 51 = .ok (.ifCond .eq 32, 3) := by decide +kernel
theorem dX11_fits_54 : decode cX11_fits 54 = .ok (.aload_n 0, 1) := by decide +kernel
theorem dX11_fits_55 : decode cX11_fits 55 = .ok (.iload 5, 2) := by decide +kernel
theorem dX11_fits_57 : decode cX11_fits 57 = .ok (.bipush 120, 2) := by decide +kernel
theorem dX11_fits_59 : decode cX11_fits 59 = .ok (.isub, 1) := by decide +kernel
theorem dX11_fits_60 : decode cX11_fits 60 = .ok (.iload_n 3, 1) := by decide +kernel
theorem dX11_fits_61 : decode cX11_fits 61 = .ok (.invokevirtual 240, 3) := by decide +kernel
theorem dX11_fits_64 : decode cX11_fits 64 = .ok (.ifCond .ne 5, 3) := by decide +kernel
theorem dX11_fits_67 : decode cX11_fits 67 = .ok (.iconst 0, 1) := by decide +kernel
theorem dX11_fits_68 : decode cX11_fits 68 = .ok (.ireturn, 1) := by decide +kernel
theorem dX11_fits_69 : decode cX11_fits 69 = .ok (.iload_n 3, 1) := by decide +kernel
theorem dX11_fits_70 : decode cX11_fits 70 = .ok (.aload_n 0, 1) := by decide +kernel
theorem dX11_fits_71 : decode cX11_fits 71 = .ok (.getfield 60, 3) := by decide +kernel
theorem dX11_fits_74 : decode cX11_fits 74 = .ok (.iload_n 3, 1) := by decide +kernel
theorem dX11_fits_75 : decode cX11_fits 75 = .ok (.invokestatic 207, 3) := by decide +kernel
theorem dX11_fits_78 : decode cX11_fits 78 = .ok (.iadd, 1) := by decide +kernel
theorem dX11_fits_79 : decode cX11_fits 79 = .ok (.istore_n 3, 1) := by decide +kernel
theorem dX11_fits_80 : decode cX11_fits 80 = .ok (.goto 19, 3) := by decide +kernel
theorem dX11_fits_83 : decode cX11_fits 83 = .ok (.iload 5, 2) := by decide +kernel
theorem dX11_fits_85 : decode cX11_fits 85 = .ok (.aload_n 0, 1) := by decide +kernel
theorem dX11_fits_86 : decode cX11_fits 86 = .ok (.getfield 60, 3) := by decide +kernel
theorem dX11_fits_89 : decode cX11_fits 89 = .ok (.iload_n 3, 1) := by decide +kernel
theorem dX11_fits_90 : decode cX11_fits 90 = .ok (.iaload, 1) := by decide +kernel
theorem dX11_fits_91 : decode cX11_fits 91 = .ok (.if_icmp .eq 5, 3) := by decide +kernel
theorem dX11_fits_94 : decode cX11_fits 94 = .ok (.iconst 0, 1) := by decide +kernel
theorem dX11_fits_95 : decode cX11_fits 95 = .ok (.ireturn, 1) := by decide +kernel
theorem dX11_fits_96 : decode cX11_fits 96 = .ok (.iinc 3 1, 3) := by decide +kernel
theorem dX11_fits_99 : decode cX11_fits 99 = .ok (.iinc 4 1, 3) := by decide +kernel
theorem dX11_fits_102 : decode cX11_fits 102 = .ok (.goto (-83), 3) := by decide +kernel
theorem dX11_fits_105 : decode cX11_fits 105 = .ok (.iconst 1, 1) := by decide +kernel
theorem dX11_fits_106 : decode cX11_fits 106 = .ok (.ireturn, 1) := by decide +kernel
theorem dX11_ruleAt_0 : decode cX11_ruleAt 0 = .ok (.iconst 0, 1) := by decide +kernel
theorem dX11_ruleAt_1 : decode cX11_ruleAt 1 = .ok (.istore_n 2, 1) := by decide +kernel
theorem dX11_ruleAt_2 : decode cX11_ruleAt 2 = .ok (.iload_n 2, 1) := by decide +kernel
theorem dX11_ruleAt_3 : decode cX11_ruleAt 3 = .ok (.aload_n 0, 1) := by decide +kernel
theorem dX11_ruleAt_4 : decode cX11_ruleAt 4 = .ok (.getfield 7, 3) := by decide +kernel
theorem dX11_ruleAt_7 : decode cX11_ruleAt 7 = .ok (.iconst 0, 1) := by decide +kernel
theorem dX11_ruleAt_8 : decode cX11_ruleAt 8 = .ok (.iaload, 1) := by decide +kernel
theorem dX11_ruleAt_9 : decode cX11_ruleAt 9 = .ok (.if_icmp .ge 20, 3) := by decide +kernel
theorem dX11_ruleAt_12 : decode cX11_ruleAt 12 = .ok (.aload_n 0, 1) := by decide +kernel
theorem dX11_ruleAt_13 : decode cX11_ruleAt 13 = .ok (.iload_n 2, 1) := by decide +kernel
theorem dX11_ruleAt_14 : decode cX11_ruleAt 14 = .ok (.iload_n 1, 1) := by decide +kernel
theorem dX11_ruleAt_15 : decode cX11_ruleAt 15 = .ok (.invokevirtual 243, 3) := by decide +kernel
theorem dX11_ruleAt_18 : decode cX11_ruleAt 18 = .ok (.ifCond .eq 5, 3) := by decide +kernel
theorem dX11_ruleAt_21 : decode cX11_ruleAt 21 = .ok (.iload_n 2, 1) := by decide +kernel
theorem dX11_ruleAt_22 : decode cX11_ruleAt 22 = .ok (.ireturn, 1) := by decide +kernel
theorem dX11_ruleAt_23 : decode cX11_ruleAt 23 = .ok (.iinc 2 1, 3) := by decide +kernel
theorem dX11_ruleAt_26 : decode cX11_ruleAt 26 = .ok (.goto (-24), 3) := by decide +kernel
theorem dX11_ruleAt_29 : decode cX11_ruleAt 29 = .ok (.iconst (-1), 1) := by decide +kernel
theorem dX11_ruleAt_30 : decode cX11_ruleAt 30 = .ok (.ireturn, 1) := by decide +kernel
theorem dX11_findsTurn_0 : decode cX11_findsTurn 0 = .ok (.iconst 0, 1) := by decide +kernel
theorem dX11_findsTurn_1 : decode cX11_findsTurn 1 = .ok (.istore_n 1, 1) := by decide +kernel
theorem dX11_findsTurn_2 : decode cX11_findsTurn 2 = .ok (.iload_n 1, 1) := by decide +kernel
theorem dX11_findsTurn_3 : decode cX11_findsTurn 3 = .ok (.aload_n 0, 1) := by decide +kernel
theorem dX11_findsTurn_4 : decode cX11_findsTurn 4 = .ok (.getfield 237, 3) := by decide +kernel
theorem dX11_findsTurn_7 : decode cX11_findsTurn 7 = .ok (.if_icmp .ge 87, 3) := by decide +kernel
theorem dX11_findsTurn_10 : decode cX11_findsTurn 10 = .ok (.aload_n 0, 1) := by decide +kernel
theorem dX11_findsTurn_11 : decode cX11_findsTurn 11 = .ok (.aload_n 0, 1) := by decide +kernel
theorem dX11_findsTurn_12 : decode cX11_findsTurn 12 = .ok (.iload_n 1, 1) := by decide +kernel
theorem dX11_findsTurn_13 : decode cX11_findsTurn 13 = .ok (.invokevirtual 246, 3) := by decide +kernel
theorem dX11_findsTurn_16 : decode cX11_findsTurn 16 = .ok (.putfield 249, 3) := by decide +kernel
theorem dX11_findsTurn_19 : decode cX11_findsTurn 19 = .ok (.aload_n 0, 1) := by decide +kernel
theorem dX11_findsTurn_20 : decode cX11_findsTurn 20 = .ok (.getfield 249, 3) := by decide +kernel
theorem dX11_findsTurn_23 : decode cX11_findsTurn 23 = .ok (.iconst (-1), 1) := by decide +kernel
theorem dX11_findsTurn_24 : decode cX11_findsTurn 24 = .ok (.if_icmp .eq 64, 3) := by decide +kernel
theorem dX11_findsTurn_27 : decode cX11_findsTurn 27 = .ok (.iconst 0, 1) := by decide +kernel
theorem dX11_findsTurn_28 : decode cX11_findsTurn 28 = .ok (.istore_n 2, 1) := by decide +kernel
theorem dX11_findsTurn_29 : decode cX11_findsTurn 29 = .ok (.iload_n 1, 1) := by decide +kernel
theorem dX11_findsTurn_30 : decode cX11_findsTurn 30 = .ok (.aload_n 0, 1) := by decide +kernel
theorem dX11_findsTurn_31 : decode cX11_findsTurn 31 = .ok (.getfield 60, 3) := by decide +kernel
theorem dX11_findsTurn_34 : decode cX11_findsTurn 34 = .ok (.iload_n 1, 1) := by decide +kernel
theorem dX11_findsTurn_35 : decode cX11_findsTurn 35 = .ok (.invokestatic 207, 3) := by decide +kernel
theorem dX11_findsTurn_38 : decode cX11_findsTurn 38 = .ok (.iadd, 1) := by decide +kernel
theorem dX11_findsTurn_39 : decode cX11_findsTurn 39 = .ok (.istore_n 3, 1) := by decide +kernel
theorem dX11_findsTurn_40 : decode cX11_findsTurn 40 = .ok (.iload_n 1, 1) := by decide +kernel
theorem dX11_findsTurn_41 : decode cX11_findsTurn 41 = .ok (.iconst 1, 1) := by decide +kernel
theorem dX11_findsTurn_42 : decode cX11_findsTurn 42 = .ok (.iadd, 1) := by decide +kernel
theorem dX11_findsTurn_43 : decode cX11_findsTurn 43 = .ok (.istore 4, 2) := by decide +kernel
theorem dX11_findsTurn_45 : decode cX11_findsTurn 45 = .ok (.iload 4, 2) := by decide +kernel
theorem dX11_findsTurn_47 : decode cX11_findsTurn 47 = .ok (.iload_n 3, 1) := by decide +kernel
theorem dX11_findsTurn_48 : decode cX11_findsTurn 48 = .ok (.if_icmp .ge 29, 3) := by decide +kernel
theorem dX11_findsTurn_51 : decode cX11_findsTurn 51 = .ok (.iload_n 2, 1) := by decide +kernel
theorem dX11_findsTurn_52 : decode cX11_findsTurn 52 = .ok (.ifCond .ne 13, 3) := by decide +kernel
theorem dX11_findsTurn_55 : decode cX11_findsTurn 55 = .ok (.aload_n 0, 1) := by decide +kernel
theorem dX11_findsTurn_56 : decode cX11_findsTurn 56 = .ok (.iload 4, 2) := by decide +kernel
theorem dX11_findsTurn_58 : decode cX11_findsTurn 58 = .ok (.invokevirtual 246, 3) := by decide +kernel
theorem dX11_findsTurn_61 : decode cX11_findsTurn 61 = .ok (.iconst (-1), 1) := by decide +kernel
theorem dX11_findsTurn_62 : decode cX11_findsTurn 62 = .ok (.if_icmp .eq 7, 3) := by decide +kernel
theorem dX11_findsTurn_65 : decode cX11_findsTurn 65 = .ok (.iconst 1, 1) := by decide +kernel
theorem dX11_findsTurn_66 : decode cX11_findsTurn 66 = .ok (.goto 4, 3) := by decide +kernel
theorem dX11_findsTurn_69 : decode cX11_findsTurn 69 = .ok (.iconst 0, 1) := by decide +kernel
theorem dX11_findsTurn_70 : decode cX11_findsTurn 70 = .ok (.istore_n 2, 1) := by decide +kernel
theorem dX11_findsTurn_71 : decode cX11_findsTurn 71 = .ok (.iinc 4 1, 3) := by decide +kernel
theorem dX11_findsTurn_74 : decode cX11_findsTurn 74 = .ok (.goto (-29), 3) := by decide +kernel
theorem dX11_findsTurn_77 : decode cX11_findsTurn 77 = .ok (.iload_n 2, 1) := by decide +kernel
theorem dX11_findsTurn_78 : decode cX11_findsTurn 78 = .ok (.ifCond .ne 10, 3) := by decide +kernel
theorem dX11_findsTurn_81 : decode cX11_findsTurn 81 = .ok (.aload_n 0, 1) := by decide +kernel
theorem dX11_findsTurn_82 : decode cX11_findsTurn 82 = .ok (.iload_n 1, 1) := by decide +kernel
theorem dX11_findsTurn_83 : decode cX11_findsTurn 83 = .ok (.putfield 252, 3) := by decide +kernel
theorem dX11_findsTurn_86 : decode cX11_findsTurn 86 = .ok (.iconst 1, 1) := by decide +kernel
theorem dX11_findsTurn_87 : decode cX11_findsTurn 87 = .ok (.ireturn, 1) := by decide +kernel
theorem dX11_findsTurn_88 : decode cX11_findsTurn 88 = .ok (.iinc 1 1, 3) := by decide +kernel
theorem dX11_findsTurn_91 : decode cX11_findsTurn 91 = .ok (.goto (-89), 3) := by decide +kernel
theorem dX11_findsTurn_94 : decode cX11_findsTurn 94 = .ok (.aload_n 0, 1) := by decide +kernel
theorem dX11_findsTurn_95 : decode cX11_findsTurn 95 = .ok (.iconst (-1), 1) := by decide +kernel
theorem dX11_findsTurn_96 : decode cX11_findsTurn 96 = .ok (.putfield 249, 3) := by decide +kernel
theorem dX11_findsTurn_99 : decode cX11_findsTurn 99 = .ok (.iconst 0, 1) := by decide +kernel
theorem dX11_findsTurn_100 : decode cX11_findsTurn 100 = .ok (.ireturn, 1) := by decide +kernel
theorem dX11_makes_0 : decode cX11_makes 0 = .ok (.iconst 0, 1) := by decide +kernel
theorem dX11_makes_1 : decode cX11_makes 1 = .ok (.istore_n 3, 1) := by decide +kernel
theorem dX11_makes_2 : decode cX11_makes 2 = .ok (.iload_n 3, 1) := by decide +kernel
theorem dX11_makes_3 : decode cX11_makes 3 = .ok (.iload_n 2, 1) := by decide +kernel
theorem dX11_makes_4 : decode cX11_makes 4 = .ok (.if_icmp .ge 46, 3) := by decide +kernel
theorem dX11_makes_7 : decode cX11_makes 7 = .ok (.aload_n 0, 1) := by decide +kernel
theorem dX11_makes_8 : decode cX11_makes 8 = .ok (.getfield 255, 3) := by decide +kernel
theorem dX11_makes_11 : decode cX11_makes 11 = .ok (.sipush 200, 3) := by decide +kernel
theorem dX11_makes_14 : decode cX11_makes 14 = .ok (.if_icmp .ge 20, 3) := by decide +kernel
theorem dX11_makes_17 : decode cX11_makes 17 = .ok (.aload_n 0, 1) := by decide +kernel
theorem dX11_makes_18 : decode cX11_makes 18 = .ok (.getfield 63, 3) := by decide +kernel
theorem dX11_makes_21 : decode cX11_makes 21 = .ok (.aload_n 0, 1) := by decide +kernel
theorem dX11_makes_22 : decode cX11_makes 22 = .ok (.getfield 255, 3) := by decide +kernel
theorem dX11_makes_25 : decode cX11_makes 25 = .ok (.aload_n 0, 1) := by decide +kernel
theorem dX11_makes_26 : decode cX11_makes 26 = .ok (.getfield 60, 3) := by decide +kernel
theorem dX11_makes_29 : decode cX11_makes 29 = .ok (.iload_n 1, 1) := by decide +kernel
theorem dX11_makes_30 : decode cX11_makes 30 = .ok (.iload_n 3, 1) := by decide +kernel
theorem dX11_makes_31 : decode cX11_makes 31 = .ok (.iadd, 1) := by decide +kernel
theorem dX11_makes_32 : decode cX11_makes 32 = .ok (.iaload, 1) := by decide +kernel
theorem dX11_makes_33 : decode cX11_makes 33 = .ok (.iastore, 1) := by decide +kernel
theorem dX11_makes_34 : decode cX11_makes 34 = .ok (.aload_n 0, 1) := by decide +kernel
theorem dX11_makes_35 : decode cX11_makes 35 = .ok (.dup, 1) := by decide +kernel
theorem dX11_makes_36 : decode cX11_makes 36 = .ok (.getfield 255, 3) := by decide +kernel
theorem dX11_makes_39 : decode cX11_makes 39 = .ok (.iconst 1, 1) := by decide +kernel
theorem dX11_makes_40 : decode cX11_makes 40 = .ok (.iadd, 1) := by decide +kernel
theorem dX11_makes_41 : decode cX11_makes 41 = .ok (.putfield 255, 3) := by decide +kernel
theorem dX11_makes_44 : decode cX11_makes 44 = .ok (.iinc 3 1, 3) := by decide +kernel
theorem dX11_makes_47 : decode cX11_makes 47 = .ok (.goto (-45), 3) := by decide +kernel
theorem dX11_makes_50 : decode cX11_makes 50 = .ok (.return_, 1) := by decide +kernel
theorem dX11_doesTurn_0 : decode cX11_doesTurn 0 = .ok (.aload_n 0, 1) := by decide +kernel
theorem dX11_doesTurn_1 : decode cX11_doesTurn 1 = .ok (.aload_n 0, 1) := by decide +kernel
theorem dX11_doesTurn_2 : decode cX11_doesTurn 2 = .ok (.getfield 249, 3) := by decide +kernel
theorem dX11_doesTurn_5 : decode cX11_doesTurn 5 = .ok (.aload_n 0, 1) := by decide +kernel
theorem dX11_doesTurn_6 : decode cX11_doesTurn 6 = .ok (.getfield 252, 3) := by decide +kernel
theorem dX11_doesTurn_9 : decode cX11_doesTurn 9 = .ok (.invokevirtual 243, 3) := by decide +kernel
theorem dX11_doesTurn_12 : decode cX11_doesTurn 12 = .ok (.istore_n 1, 1) := by decide +kernel
theorem dX11_doesTurn_13 : decode cX11_doesTurn 13 = .ok (.aload_n 0, 1) := by decide +kernel
theorem dX11_doesTurn_14 : decode cX11_doesTurn 14 = .ok (.iconst 0, 1) := by decide +kernel
theorem dX11_doesTurn_15 : decode cX11_doesTurn 15 = .ok (.putfield 255, 3) := by decide +kernel
theorem dX11_doesTurn_18 : decode cX11_doesTurn 18 = .ok (.aload_n 0, 1) := by decide +kernel
theorem dX11_doesTurn_19 : decode cX11_doesTurn 19 = .ok (.iconst 0, 1) := by decide +kernel
theorem dX11_doesTurn_20 : decode cX11_doesTurn 20 = .ok (.aload_n 0, 1) := by decide +kernel
theorem dX11_doesTurn_21 : decode cX11_doesTurn 21 = .ok (.getfield 252, 3) := by decide +kernel
theorem dX11_doesTurn_24 : decode cX11_doesTurn 24 = .ok (.invokevirtual 258, 3) := by decide +kernel
theorem dX11_doesTurn_27 : decode cX11_doesTurn 27 = .ok (.iconst 0, 1) := by decide +kernel
theorem dX11_doesTurn_28 : decode cX11_doesTurn 28 = .ok (.istore_n 2, 1) := by decide +kernel
theorem dX11_doesTurn_29 : decode cX11_doesTurn 29 = .ok (.iload_n 2, 1) := by decide +kernel
theorem dX11_doesTurn_30 : decode cX11_doesTurn 30 = .ok (.aload_n 0, 1) := by decide +kernel
theorem dX11_doesTurn_31 : decode cX11_doesTurn 31 = .ok (.getfield 7, 3) := by decide +kernel
theorem dX11_doesTurn_34 : decode cX11_doesTurn 34 = .ok (.aload_n 0, 1) := by decide +kernel
theorem dX11_doesTurn_35 : decode cX11_doesTurn 35 = .ok (.getfield 249, 3) := by decide +kernel
theorem dX11_doesTurn_38 : decode cX11_doesTurn 38 = .ok (.invokestatic 162, 3) := by decide +kernel
theorem dX11_doesTurn_41 : decode cX11_doesTurn 41 = .ok (.if_icmp .ge 86, 3) := by decide +kernel
theorem dX11_doesTurn_44 : decode cX11_doesTurn 44 = .ok (.aload_n 0, 1) := by decide +kernel
theorem dX11_doesTurn_45 : decode cX11_doesTurn 45 = .ok (.getfield 7, 3) := by decide +kernel
theorem dX11_doesTurn_48 : decode cX11_doesTurn 48 = .ok (.aload_n 0, 1) := by decide +kernel
theorem dX11_doesTurn_49 : decode cX11_doesTurn 49 = .ok (.getfield 249, 3) := by decide +kernel
theorem dX11_doesTurn_52 : decode cX11_doesTurn 52 = .ok (.invokestatic 127, 3) := by decide +kernel
theorem dX11_doesTurn_55 : decode cX11_doesTurn 55 = .ok (.iload_n 2, 1) := by decide +kernel
theorem dX11_doesTurn_56 : decode cX11_doesTurn 56 = .ok (.iadd, 1) := by decide +kernel
theorem dX11_doesTurn_57 : decode cX11_doesTurn 57 = .ok (.iaload, 1) := by decide +kernel
theorem dX11_doesTurn_58 : decode cX11_doesTurn 58 = .ok (.istore_n 3, 1) := by decide +kernel
theorem dX11_doesTurn_59 : decode cX11_doesTurn 59 = .ok (.iload_n 3, 1) := by decide +kernel
theorem dX11_doesTurn_60 : decode cX11_doesTurn 60 = .ok (.invokestatic 100, 3) := by decide +kernel
theorem dX11_doesTurn_63 : decode cX11_doesTurn 63 = .ok (.ifCond .eq 28, 3) := by decide +kernel
theorem dX11_doesTurn_66 : decode cX11_doesTurn 66 = .ok (.aload_n 0, 1) := by decide +kernel
theorem dX11_doesTurn_67 : decode cX11_doesTurn 67 = .ok (.aload_n 0, 1) := by decide +kernel
theorem dX11_doesTurn_68 : decode cX11_doesTurn 68 = .ok (.getfield 66, 3) := by decide +kernel
theorem dX11_doesTurn_71 : decode cX11_doesTurn 71 = .ok (.iload_n 3, 1) := by decide +kernel
theorem dX11_doesTurn_72 : decode cX11_doesTurn 72 = .ok (.bipush 120, 2) := by decide +kernel
theorem dX11_doesTurn_74 : decode cX11_doesTurn 74 = .ok (.isub, 1) := by decide +kernel
theorem dX11_doesTurn_75 : decode cX11_doesTurn 75 = .ok (.iaload, 1) := by decide +kernel
theorem dX11_doesTurn_76 : decode cX11_doesTurn 76 = .ok (.aload_n 0, 1) := by decide +kernel
theorem dX11_doesTurn_77 : decode cX11_doesTurn 77 = .ok (.getfield 69, 3) := by decide +kernel
theorem dX11_doesTurn_80 : decode cX11_doesTurn 80 = .ok (.iload_n 3, 1) := by decide +kernel
theorem dX11_doesTurn_81 : decode cX11_doesTurn 81 = .ok (.bipush 120, 2) := by decide +kernel
theorem dX11_doesTurn_83 : decode cX11_doesTurn 83 = .ok (.isub, 1) := by decide +kernel
theorem dX11_doesTurn_84 : decode cX11_doesTurn 84 = .ok (.iaload, 1) := by decide +kernel
theorem dX11_doesTurn_85 : decode cX11_doesTurn 85 = .ok (.invokevirtual 258, 3) := by decide +kernel
theorem dX11_doesTurn_88 : decode cX11_doesTurn 88 = .ok (.goto 33, 3) := by decide +kernel
theorem dX11_doesTurn_91 : decode cX11_doesTurn 91 = .ok (.aload_n 0, 1) := by decide +kernel
theorem dX11_doesTurn_92 : decode cX11_doesTurn 92 = .ok (.getfield 255, 3) := by decide +kernel
theorem dX11_doesTurn_95 : decode cX11_doesTurn 95 = .ok (.sipush 200, 3) := by decide +kernel
theorem dX11_doesTurn_98 : decode cX11_doesTurn 98 = .ok (.if_icmp .ge 13, 3) := by decide +kernel
theorem dX11_doesTurn_101 : decode cX11_doesTurn 101 = .ok (.aload_n 0, 1) := by decide +kernel
theorem dX11_doesTurn_102 : decode cX11_doesTurn 102 = .ok (.getfield 63, 3) := by decide +kernel
theorem dX11_doesTurn_105 : decode cX11_doesTurn 105 = .ok (.aload_n 0, 1) := by decide +kernel
theorem dX11_doesTurn_106 : decode cX11_doesTurn 106 = .ok (.getfield 255, 3) := by decide +kernel
theorem dX11_doesTurn_109 : decode cX11_doesTurn 109 = .ok (.iload_n 3, 1) := by decide +kernel
theorem dX11_doesTurn_110 : decode cX11_doesTurn 110 = .ok (.iastore, 1) := by decide +kernel
theorem dX11_doesTurn_111 : decode cX11_doesTurn 111 = .ok (.aload_n 0, 1) := by decide +kernel
theorem dX11_doesTurn_112 : decode cX11_doesTurn 112 = .ok (.dup, 1) := by decide +kernel
theorem dX11_doesTurn_113 : decode cX11_doesTurn 113 = .ok (.getfield 255, 3) := by decide +kernel
theorem dX11_doesTurn_116 : decode cX11_doesTurn 116 = .ok (.iconst 1, 1) := by decide +kernel
theorem dX11_doesTurn_117 : decode cX11_doesTurn 117 = .ok (.iadd, 1) := by decide +kernel
theorem dX11_doesTurn_118 : decode cX11_doesTurn 118 = .ok (.putfield 255, 3) := by decide +kernel
theorem dX11_doesTurn_121 : decode cX11_doesTurn 121 = .ok (.iinc 2 1, 3) := by decide +kernel
theorem dX11_doesTurn_124 : decode cX11_doesTurn 124 = .ok (.goto (-95), 3) := by decide +kernel
theorem dX11_doesTurn_127 : decode cX11_doesTurn 127 = .ok (.aload_n 0, 1) := by decide +kernel
theorem dX11_doesTurn_128 : decode cX11_doesTurn 128 = .ok (.getfield 252, 3) := by decide +kernel
theorem dX11_doesTurn_131 : decode cX11_doesTurn 131 = .ok (.aload_n 0, 1) := by decide +kernel
theorem dX11_doesTurn_132 : decode cX11_doesTurn 132 = .ok (.getfield 60, 3) := by decide +kernel
theorem dX11_doesTurn_135 : decode cX11_doesTurn 135 = .ok (.aload_n 0, 1) := by decide +kernel
theorem dX11_doesTurn_136 : decode cX11_doesTurn 136 = .ok (.getfield 252, 3) := by decide +kernel
theorem dX11_doesTurn_139 : decode cX11_doesTurn 139 = .ok (.invokestatic 207, 3) := by decide +kernel
theorem dX11_doesTurn_142 : decode cX11_doesTurn 142 = .ok (.iadd, 1) := by decide +kernel
theorem dX11_doesTurn_143 : decode cX11_doesTurn 143 = .ok (.istore_n 2, 1) := by decide +kernel
theorem dX11_doesTurn_144 : decode cX11_doesTurn 144 = .ok (.aload_n 0, 1) := by decide +kernel
theorem dX11_doesTurn_145 : decode cX11_doesTurn 145 = .ok (.iload_n 2, 1) := by decide +kernel
theorem dX11_doesTurn_146 : decode cX11_doesTurn 146 = .ok (.aload_n 0, 1) := by decide +kernel
theorem dX11_doesTurn_147 : decode cX11_doesTurn 147 = .ok (.getfield 237, 3) := by decide +kernel
theorem dX11_doesTurn_150 : decode cX11_doesTurn 150 = .ok (.iload_n 2, 1) := by decide +kernel
theorem dX11_doesTurn_151 : decode cX11_doesTurn 151 = .ok (.isub, 1) := by decide +kernel
theorem dX11_doesTurn_152 : decode cX11_doesTurn 152 = .ok (.invokevirtual 258, 3) := by decide +kernel
theorem dX11_doesTurn_155 : decode cX11_doesTurn 155 = .ok (.aload_n 0, 1) := by decide +kernel
theorem dX11_doesTurn_156 : decode cX11_doesTurn 156 = .ok (.getfield 255, 3) := by decide +kernel
theorem dX11_doesTurn_159 : decode cX11_doesTurn 159 = .ok (.bipush 60, 2) := by decide +kernel
theorem dX11_doesTurn_161 : decode cX11_doesTurn 161 = .ok (.if_icmp .le 5, 3) := by decide +kernel
theorem dX11_doesTurn_164 : decode cX11_doesTurn 164 = .ok (.iconst 0, 1) := by decide +kernel
theorem dX11_doesTurn_165 : decode cX11_doesTurn 165 = .ok (.ireturn, 1) := by decide +kernel
theorem dX11_doesTurn_166 : decode cX11_doesTurn 166 = .ok (.aload_n 0, 1) := by decide +kernel
theorem dX11_doesTurn_167 : decode cX11_doesTurn 167 = .ok (.aload_n 0, 1) := by decide +kernel
theorem dX11_doesTurn_168 : decode cX11_doesTurn 168 = .ok (.getfield 255, 3) := by decide +kernel
theorem dX11_doesTurn_171 : decode cX11_doesTurn 171 = .ok (.putfield 237, 3) := by decide +kernel
theorem dX11_doesTurn_174 : decode cX11_doesTurn 174 = .ok (.iconst 0, 1) := by decide +kernel
theorem dX11_doesTurn_175 : decode cX11_doesTurn 175 = .ok (.istore_n 3, 1) := by decide +kernel
theorem dX11_doesTurn_176 : decode cX11_doesTurn 176 = .ok (.iload_n 3, 1) := by decide +kernel
theorem dX11_doesTurn_177 : decode cX11_doesTurn 177 = .ok (.aload_n 0, 1) := by decide +kernel
theorem dX11_doesTurn_178 : decode cX11_doesTurn 178 = .ok (.getfield 255, 3) := by decide +kernel
theorem dX11_doesTurn_181 : decode cX11_doesTurn 181 = .ok (.if_icmp .ge 21, 3) := by decide +kernel
theorem dX11_doesTurn_184 : decode cX11_doesTurn 184 = .ok (.aload_n 0, 1) := by decide +kernel
theorem dX11_doesTurn_185 : decode cX11_doesTurn 185 = .ok (.getfield 60, 3) := by decide +kernel
theorem dX11_doesTurn_188 : decode cX11_doesTurn 188 = .ok (.iload_n 3, 1) := by decide +kernel
theorem dX11_doesTurn_189 : decode cX11_doesTurn 189 = .ok (.aload_n 0, 1) := by decide +kernel
theorem dX11_doesTurn_190 : decode cX11_doesTurn 190 = .ok (.getfield 63, 3) := by decide +kernel
theorem dX11_doesTurn_193 : decode cX11_doesTurn 193 = .ok (.iload_n 3, 1) := by decide +kernel
theorem dX11_doesTurn_194 : decode cX11_doesTurn 194 = .ok (.iaload, 1) := by decide +kernel
theorem dX11_doesTurn_195 : decode cX11_doesTurn 195 = .ok (.iastore, 1) := by decide +kernel
theorem dX11_doesTurn_196 : decode cX11_doesTurn 196 = .ok (.iinc 3 1, 3) := by decide +kernel
theorem dX11_doesTurn_199 : decode cX11_doesTurn 199 = .ok (.goto (-23), 3) := by decide +kernel
theorem dX11_doesTurn_202 : decode cX11_doesTurn 202 = .ok (.iconst 1, 1) := by decide +kernel
theorem dX11_doesTurn_203 : decode cX11_doesTurn 203 = .ok (.ireturn, 1) := by decide +kernel
theorem dX11_turns_0 : decode cX11_turns 0 = .ok (.iload_n 1, 1) := by decide +kernel
theorem dX11_turns_1 : decode cX11_turns 1 = .ok (.iconst 0, 1) := by decide +kernel
theorem dX11_turns_2 : decode cX11_turns 2 = .ok (.bipush 30, 2) := by decide +kernel
theorem dX11_turns_4 : decode cX11_turns 4 = .ok (.invokestatic 96, 3) := by decide +kernel
theorem dX11_turns_7 : decode cX11_turns 7 = .ok (.ifCond .ne 10, 3) := by decide +kernel
theorem dX11_turns_10 : decode cX11_turns 10 = .ok (.aload_n 0, 1) := by decide +kernel
theorem dX11_turns_11 : decode cX11_turns 11 = .ok (.bipush (-2), 2) := by decide +kernel
theorem dX11_turns_13 : decode cX11_turns 13 = .ok (.invokevirtual 80, 3) := by decide +kernel
theorem dX11_turns_16 : decode cX11_turns 16 = .ok (.ireturn, 1) := by decide +kernel
theorem dX11_turns_17 : decode cX11_turns 17 = .ok (.aload_n 0, 1) := by decide +kernel
theorem dX11_turns_18 : decode cX11_turns 18 = .ok (.invokevirtual 142, 3) := by decide +kernel
theorem dX11_turns_21 : decode cX11_turns 21 = .ok (.aload_n 0, 1) := by decide +kernel
theorem dX11_turns_22 : decode cX11_turns 22 = .ok (.invokevirtual 261, 3) := by decide +kernel
theorem dX11_turns_25 : decode cX11_turns 25 = .ok (.iconst 0, 1) := by decide +kernel
theorem dX11_turns_26 : decode cX11_turns 26 = .ok (.istore_n 2, 1) := by decide +kernel
theorem dX11_turns_27 : decode cX11_turns 27 = .ok (.iload_n 2, 1) := by decide +kernel
theorem dX11_turns_28 : decode cX11_turns 28 = .ok (.iload_n 1, 1) := by decide +kernel
theorem dX11_turns_29 : decode cX11_turns 29 = .ok (.if_icmp .ge 23, 3) := by decide +kernel
theorem dX11_turns_32 : decode cX11_turns 32 = .ok (.aload_n 0, 1) := by decide +kernel
theorem dX11_turns_33 : decode cX11_turns 33 = .ok (.invokevirtual 264, 3) := by decide +kernel
theorem dX11_turns_36 : decode cX11_turns 36 = .ok (.ifCond .eq 16, 3) := by decide +kernel
theorem dX11_turns_39 : decode cX11_turns 39 = .ok (.aload_n 0, 1) := by decide +kernel
theorem dX11_turns_40 : decode cX11_turns 40 = .ok (.invokevirtual 267, 3) := by decide +kernel
theorem dX11_turns_43 : decode cX11_turns 43 = .ok (.ifCond .eq 9, 3) := by decide +kernel
theorem dX11_turns_46 : decode cX11_turns 46 = .ok (.iinc 2 1, 3) := by decide +kernel
theorem dX11_turns_49 : decode cX11_turns 49 = .ok (.goto (-22), 3) := by decide +kernel
theorem dX11_turns_52 : decode cX11_turns 52 = .ok (.aload_n 0, 1) := by decide +kernel
theorem dX11_turns_53 : decode cX11_turns 53 = .ok (.getfield 7, 3) := by decide +kernel
theorem dX11_turns_56 : decode cX11_turns 56 = .ok (.sipush 131, 3) := by decide +kernel
theorem dX11_turns_59 : decode cX11_turns 59 = .ok (.aload_n 0, 1) := by decide +kernel
theorem dX11_turns_60 : decode cX11_turns 60 = .ok (.getfield 237, 3) := by decide +kernel
theorem dX11_turns_63 : decode cX11_turns 63 = .ok (.iastore, 1) := by decide +kernel
theorem dX11_turns_64 : decode cX11_turns 64 = .ok (.iconst 0, 1) := by decide +kernel
theorem dX11_turns_65 : decode cX11_turns 65 = .ok (.istore_n 3, 1) := by decide +kernel
theorem dX11_turns_66 : decode cX11_turns 66 = .ok (.iload_n 3, 1) := by decide +kernel
theorem dX11_turns_67 : decode cX11_turns 67 = .ok (.bipush 60, 2) := by decide +kernel
theorem dX11_turns_69 : decode cX11_turns 69 = .ok (.if_icmp .ge 37, 3) := by decide +kernel
theorem dX11_turns_72 : decode cX11_turns 72 = .ok (.aload_n 0, 1) := by decide +kernel
theorem dX11_turns_73 : decode cX11_turns 73 = .ok (.getfield 7, 3) := by decide +kernel
theorem dX11_turns_76 : decode cX11_turns 76 = .ok (.sipush 132, 3) := by decide +kernel
theorem dX11_turns_79 : decode cX11_turns 79 = .ok (.iload_n 3, 1) := by decide +kernel
theorem dX11_turns_80 : decode cX11_turns 80 = .ok (.iadd, 1) := by decide +kernel
theorem dX11_turns_81 : decode cX11_turns 81 = .ok (.iload_n 3, 1) := by decide +kernel
theorem dX11_turns_82 : decode cX11_turns 82 = .ok (.aload_n 0, 1) := by decide +kernel
theorem dX11_turns_83 : decode cX11_turns 83 = .ok (.getfield 237, 3) := by decide +kernel
theorem dX11_turns_86 : decode cX11_turns 86 = .ok (.if_icmp .ge 12, 3) := by decide +kernel
theorem dX11_turns_89 : decode cX11_turns 89 = .ok (.aload_n 0, 1) := by decide +kernel
theorem dX11_turns_90 : decode cX11_turns 90 = .ok (.getfield 60, 3) := by decide +kernel
theorem dX11_turns_93 : decode cX11_turns 93 = .ok (.iload_n 3, 1) := by decide +kernel
theorem dX11_turns_94 : decode cX11_turns 94 = .ok (.iaload, 1) := by decide +kernel
theorem dX11_turns_95 : decode cX11_turns 95 = .ok (.goto 4, 3) := by decide +kernel
theorem dX11_turns_98 : decode cX11_turns 98 = .ok (.iconst 0, 1) := by decide +kernel
theorem dX11_turns_99 : decode cX11_turns 99 = .ok (.iastore, 1) := by decide +kernel
theorem dX11_turns_100 : decode cX11_turns 100 = .ok (.iinc 3 1, 3) := by decide +kernel
theorem dX11_turns_103 : decode cX11_turns 103 = .ok (.goto (-37), 3) := by decide +kernel
theorem dX11_turns_106 : decode cX11_turns 106 = .ok (.iload_n 2, 1) := by decide +kernel
theorem dX11_turns_107 : decode cX11_turns 107 = .ok (.ireturn, 1) := by decide +kernel
theorem dX11_settled_0 : decode cX11_settled 0 = .ok (.aload_n 0, 1) := by decide +kernel
theorem dX11_settled_1 : decode cX11_settled 1 = .ok (.invokevirtual 261, 3) := by decide +kernel
theorem dX11_settled_4 : decode cX11_settled 4 = .ok (.iconst 0, 1) := by decide +kernel
theorem dX11_settled_5 : decode cX11_settled 5 = .ok (.istore_n 1, 1) := by decide +kernel
theorem dX11_settled_6 : decode cX11_settled 6 = .ok (.iload_n 1, 1) := by decide +kernel
theorem dX11_settled_7 : decode cX11_settled 7 = .ok (.bipush 30, 2) := by decide +kernel
theorem dX11_settled_9 : decode cX11_settled 9 = .ok (.if_icmp .gt 33, 3) := by decide +kernel
theorem dX11_settled_12 : decode cX11_settled 12 = .ok (.aload_n 0, 1) := by decide +kernel
theorem dX11_settled_13 : decode cX11_settled 13 = .ok (.invokevirtual 264, 3) := by decide +kernel
theorem dX11_settled_16 : decode cX11_settled 16 = .ok (.ifCond .ne 5, 3) := by decide +kernel
theorem dX11_settled_19 : decode cX11_settled 19 = .ok (.iload_n 1, 1) := by decide +kernel
theorem dX11_settled_20 : decode cX11_settled 20 = .ok (.ireturn, 1) := by decide +kernel
theorem dX11_settled_21 : decode cX11_settled 21 = .ok (.iload_n 1, 1) := by decide +kernel
theorem dX11_settled_22 : decode cX11_settled 22 = .ok (.bipush 30, 2) := by decide +kernel
theorem dX11_settled_24 : decode cX11_settled 24 = .ok (.if_icmp .eq 10, 3) := by decide +kernel
theorem dX11_settled_27 : decode cX11_settled 27 = .ok (.aload_n 0, 1) := by decide +kernel
theorem dX11_settled_28 : decode cX11_settled 28 = .ok (.invokevirtual 267, 3) := by decide +kernel
theorem dX11_settled_31 : decode cX11_settled 31 = .ok (.ifCond .ne 5, 3) := by decide +kernel
theorem dX11_settled_34 : decode cX11_settled 34 = .ok (.iconst (-1), 1) := by decide +kernel
theorem dX11_settled_35 : decode cX11_settled 35 = .ok (.ireturn, 1) := by decide +kernel
theorem dX11_settled_36 : decode cX11_settled 36 = .ok (.iinc 1 1, 3) := by decide +kernel
theorem dX11_settled_39 : decode cX11_settled 39 = .ok (.goto (-33), 3) := by decide +kernel
theorem dX11_settled_42 : decode cX11_settled 42 = .ok (.iconst (-1), 1) := by decide +kernel
theorem dX11_settled_43 : decode cX11_settled 43 = .ok (.ireturn, 1) := by decide +kernel
theorem dX11_settles_0 : decode cX11_settles 0 = .ok (.aload_n 0, 1) := by decide +kernel
theorem dX11_settles_1 : decode cX11_settles 1 = .ok (.invokevirtual 270, 3) := by decide +kernel
theorem dX11_settles_4 : decode cX11_settles 4 = .ok (.ireturn, 1) := by decide +kernel
theorem dX11_nextOf_0 : decode cX11_nextOf 0 = .ok (.aload_n 0, 1) := by decide +kernel
theorem dX11_nextOf_1 : decode cX11_nextOf 1 = .ok (.invokevirtual 261, 3) := by decide +kernel
theorem dX11_nextOf_4 : decode cX11_nextOf 4 = .ok (.aload_n 0, 1) := by decide +kernel
theorem dX11_nextOf_5 : decode cX11_nextOf 5 = .ok (.invokevirtual 264, 3) := by decide +kernel
theorem dX11_nextOf_8 : decode cX11_nextOf 8 = .ok (.ifCond .ne 7, 3) := by decide +kernel
theorem dX11_nextOf_11 : decode cX11_nextOf 11 = .ok (.iconst (-1), 1) := by decide +kernel
theorem dX11_nextOf_12 : decode cX11_nextOf 12 = .ok (.goto 18, 3) := by decide +kernel
theorem dX11_nextOf_15 : decode cX11_nextOf 15 = .ok (.iload_n 1, 1) := by decide +kernel
theorem dX11_nextOf_16 : decode cX11_nextOf 16 = .ok (.ifCond .ne 10, 3) := by decide +kernel
theorem dX11_nextOf_19 : decode cX11_nextOf 19 = .ok (.aload_n 0, 1) := by decide +kernel
theorem dX11_nextOf_20 : decode cX11_nextOf 20 = .ok (.getfield 249, 3) := by decide +kernel
theorem dX11_nextOf_23 : decode cX11_nextOf 23 = .ok (.goto 7, 3) := by decide +kernel
theorem dX11_nextOf_26 : decode cX11_nextOf 26 = .ok (.aload_n 0, 1) := by decide +kernel
theorem dX11_nextOf_27 : decode cX11_nextOf 27 = .ok (.getfield 252, 3) := by decide +kernel
theorem dX11_nextOf_30 : decode cX11_nextOf 30 = .ok (.ireturn, 1) := by decide +kernel
theorem dX11_next_0 : decode cX11_next 0 = .ok (.iload_n 1, 1) := by decide +kernel
theorem dX11_next_1 : decode cX11_next 1 = .ok (.iconst 0, 1) := by decide +kernel
theorem dX11_next_2 : decode cX11_next 2 = .ok (.iconst 1, 1) := by decide +kernel
theorem dX11_next_3 : decode cX11_next 3 = .ok (.invokestatic 96, 3) := by decide +kernel
theorem dX11_next_6 : decode cX11_next 6 = .ok (.ifCond .eq 11, 3) := by decide +kernel
theorem dX11_next_9 : decode cX11_next 9 = .ok (.aload_n 0, 1) := by decide +kernel
theorem dX11_next_10 : decode cX11_next 10 = .ok (.iload_n 1, 1) := by decide +kernel
theorem dX11_next_11 : decode cX11_next 11 = .ok (.invokevirtual 273, 3) := by decide +kernel
theorem dX11_next_14 : decode cX11_next 14 = .ok (.goto 9, 3) := by decide +kernel
theorem dX11_next_17 : decode cX11_next 17 = .ok (.aload_n 0, 1) := by decide +kernel
theorem dX11_next_18 : decode cX11_next 18 = .ok (.bipush (-2), 2) := by decide +kernel
theorem dX11_next_20 : decode cX11_next 20 = .ok (.invokevirtual 80, 3) := by decide +kernel
theorem dX11_next_23 : decode cX11_next 23 = .ok (.ireturn, 1) := by decide +kernel
theorem dX11_letter_0 : decode cX11_letter 0 = .ok (.iload_n 1, 1) := by decide +kernel
theorem dX11_letter_1 : decode cX11_letter 1 = .ok (.iconst (-1), 1) := by decide +kernel
theorem dX11_letter_2 : decode cX11_letter 2 = .ok (.if_icmp .ge 10, 3) := by decide +kernel
theorem dX11_letter_5 : decode cX11_letter 5 = .ok (.aload_n 0, 1) := by decide +kernel
theorem dX11_letter_6 : decode cX11_letter 6 = .ok (.bipush (-2), 2) := by decide +kernel
theorem dX11_letter_8 : decode cX11_letter 8 = .ok (.invokevirtual 80, 3) := by decide +kernel
theorem dX11_letter_11 : decode cX11_letter 11 = .ok (.ireturn, 1) := by decide +kernel
theorem dX11_letter_12 : decode cX11_letter 12 = .ok (.iload_n 1, 1) := by decide +kernel
theorem dX11_letter_13 : decode cX11_letter 13 = .ok (.iconst (-1), 1) := by decide +kernel
theorem dX11_letter_14 : decode cX11_letter 14 = .ok (.if_icmp .ne 14, 3) := by decide +kernel
theorem dX11_letter_17 : decode cX11_letter 17 = .ok (.aload_n 0, 1) := by decide +kernel
theorem dX11_letter_18 : decode cX11_letter 18 = .ok (.getfield 7, 3) := by decide +kernel
theorem dX11_letter_21 : decode cX11_letter 21 = .ok (.sipush 131, 3) := by decide +kernel
theorem dX11_letter_24 : decode cX11_letter 24 = .ok (.iaload, 1) := by decide +kernel
theorem dX11_letter_25 : decode cX11_letter 25 = .ok (.goto 30, 3) := by decide +kernel
theorem dX11_letter_28 : decode cX11_letter 28 = .ok (.iload_n 1, 1) := by decide +kernel
theorem dX11_letter_29 : decode cX11_letter 29 = .ok (.aload_n 0, 1) := by decide +kernel
theorem dX11_letter_30 : decode cX11_letter 30 = .ok (.getfield 7, 3) := by decide +kernel
theorem dX11_letter_33 : decode cX11_letter 33 = .ok (.sipush 131, 3) := by decide +kernel
theorem dX11_letter_36 : decode cX11_letter 36 = .ok (.iaload, 1) := by decide +kernel
theorem dX11_letter_37 : decode cX11_letter 37 = .ok (.if_icmp .ge 16, 3) := by decide +kernel
theorem dX11_letter_40 : decode cX11_letter 40 = .ok (.aload_n 0, 1) := by decide +kernel
theorem dX11_letter_41 : decode cX11_letter 41 = .ok (.getfield 7, 3) := by decide +kernel
theorem dX11_letter_44 : decode cX11_letter 44 = .ok (.sipush 132, 3) := by decide +kernel
theorem dX11_letter_47 : decode cX11_letter 47 = .ok (.iload_n 1, 1) := by decide +kernel
theorem dX11_letter_48 : decode cX11_letter 48 = .ok (.iadd, 1) := by decide +kernel
theorem dX11_letter_49 : decode cX11_letter 49 = .ok (.iaload, 1) := by decide +kernel
theorem dX11_letter_50 : decode cX11_letter 50 = .ok (.goto 5, 3) := by decide +kernel
theorem dX11_letter_53 : decode cX11_letter 53 = .ok (.bipush (-5), 2) := by decide +kernel
theorem dX11_letter_55 : decode cX11_letter 55 = .ok (.ireturn, 1) := by decide +kernel
theorem dX11_toldOf_0 : decode cX11_toldOf 0 = .ok (.iload_n 1, 1) := by decide +kernel
theorem dX11_toldOf_1 : decode cX11_toldOf 1 = .ok (.tableswitch 57 3 6 #[31, 36, 43, 52], 31) := by decide +kernel
theorem dX11_toldOf_32 : decode cX11_toldOf 32 = .ok (.aload_n 0, 1) := by decide +kernel
theorem dX11_toldOf_33 : decode cX11_toldOf 33 = .ok (.getfield 93, 3) := by decide +kernel
theorem dX11_toldOf_36 : decode cX11_toldOf 36 = .ok (.ireturn, 1) := by decide +kernel
theorem dX11_toldOf_37 : decode cX11_toldOf 37 = .ok (.aload_n 0, 1) := by decide +kernel
theorem dX11_toldOf_38 : decode cX11_toldOf 38 = .ok (.getfield 7, 3) := by decide +kernel
theorem dX11_toldOf_41 : decode cX11_toldOf 41 = .ok (.iconst 0, 1) := by decide +kernel
theorem dX11_toldOf_42 : decode cX11_toldOf 42 = .ok (.iaload, 1) := by decide +kernel
theorem dX11_toldOf_43 : decode cX11_toldOf 43 = .ok (.ireturn, 1) := by decide +kernel
theorem dX11_toldOf_44 : decode cX11_toldOf 44 = .ok (.aload_n 0, 1) := by decide +kernel
theorem dX11_toldOf_45 : decode cX11_toldOf 45 = .ok (.getfield 7, 3) := by decide +kernel
theorem dX11_toldOf_48 : decode cX11_toldOf 48 = .ok (.sipush 131, 3) := by decide +kernel
theorem dX11_toldOf_51 : decode cX11_toldOf 51 = .ok (.iaload, 1) := by decide +kernel
theorem dX11_toldOf_52 : decode cX11_toldOf 52 = .ok (.ireturn, 1) := by decide +kernel
theorem dX11_toldOf_53 : decode cX11_toldOf 53 = .ok (.aload_n 0, 1) := by decide +kernel
theorem dX11_toldOf_54 : decode cX11_toldOf 54 = .ok (.getfield 72, 3) := by decide +kernel
theorem dX11_toldOf_57 : decode cX11_toldOf 57 = .ok (.ireturn, 1) := by decide +kernel
theorem dX11_toldOf_58 : decode cX11_toldOf 58 = .ok (.aload_n 0, 1) := by decide +kernel
theorem dX11_toldOf_59 : decode cX11_toldOf 59 = .ok (.getfield 19, 3) := by decide +kernel
theorem dX11_toldOf_62 : decode cX11_toldOf 62 = .ok (.iload_n 1, 1) := by decide +kernel
theorem dX11_toldOf_63 : decode cX11_toldOf 63 = .ok (.iaload, 1) := by decide +kernel
theorem dX11_toldOf_64 : decode cX11_toldOf 64 = .ok (.ireturn, 1) := by decide +kernel
theorem dX11_told_0 : decode cX11_told 0 = .ok (.iload_n 1, 1) := by decide +kernel
theorem dX11_told_1 : decode cX11_told 1 = .ok (.iconst 0, 1) := by decide +kernel
theorem dX11_told_2 : decode cX11_told 2 = .ok (.bipush 6, 2) := by decide +kernel
theorem dX11_told_4 : decode cX11_told 4 = .ok (.invokestatic 96, 3) := by decide +kernel
theorem dX11_told_7 : decode cX11_told 7 = .ok (.ifCond .eq 11, 3) := by decide +kernel
theorem dX11_told_10 : decode cX11_told 10 = .ok (.aload_n 0, 1) := by decide +kernel
theorem dX11_told_11 : decode cX11_told 11 = .ok (.iload_n 1, 1) := by decide +kernel
theorem dX11_told_12 : decode cX11_told 12 = .ok (.invokevirtual 276, 3) := by decide +kernel
theorem dX11_told_15 : decode cX11_told 15 = .ok (.goto 9, 3) := by decide +kernel
theorem dX11_told_18 : decode cX11_told 18 = .ok (.aload_n 0, 1) := by decide +kernel
theorem dX11_told_19 : decode cX11_told 19 = .ok (.bipush (-2), 2) := by decide +kernel
theorem dX11_told_21 : decode cX11_told 21 = .ok (.invokevirtual 80, 3) := by decide +kernel
theorem dX11_told_24 : decode cX11_told 24 = .ok (.ireturn, 1) := by decide +kernel
theorem dX11_mix_0 : decode cX11_mix 0 = .ok (.aload_n 0, 1) := by decide +kernel
theorem dX11_mix_1 : decode cX11_mix 1 = .ok (.ldc2_w 279, 3) := by decide +kernel
theorem dX11_mix_4 : decode cX11_mix 4 = .ok (.aload_n 0, 1) := by decide +kernel
theorem dX11_mix_5 : decode cX11_mix 5 = .ok (.getfield 281, 3) := by decide +kernel
theorem dX11_mix_8 : decode cX11_mix 8 = .ok (.lmul, 1) := by decide +kernel
theorem dX11_mix_9 : decode cX11_mix 9 = .ok (.lload_n 1, 1) := by decide +kernel
theorem dX11_mix_10 : decode cX11_mix 10 = .ok (.ladd, 1) := by decide +kernel
theorem dX11_mix_11 : decode cX11_mix 11 = .ok (.putfield 281, 3) := by decide +kernel
theorem dX11_mix_14 : decode cX11_mix 14 = .ok (.return_, 1) := by decide +kernel
theorem dX11_digest_0 : decode cX11_digest 0 = .ok (.aload_n 0, 1) := by decide +kernel
theorem dX11_digest_1 : decode cX11_digest 1 = .ok (.ldc2_w 285, 3) := by decide +kernel
theorem dX11_digest_4 : decode cX11_digest 4 = .ok (.putfield 281, 3) := by decide +kernel
theorem dX11_digest_7 : decode cX11_digest 7 = .ok (.iconst 0, 1) := by decide +kernel
theorem dX11_digest_8 : decode cX11_digest 8 = .ok (.istore_n 1, 1) := by decide +kernel
theorem dX11_digest_9 : decode cX11_digest 9 = .ok (.iload_n 1, 1) := by decide +kernel
theorem dX11_digest_10 : decode cX11_digest 10 = .ok (.bipush 7, 2) := by decide +kernel
theorem dX11_digest_12 : decode cX11_digest 12 = .ok (.if_icmp .ge 19, 3) := by decide +kernel
theorem dX11_digest_15 : decode cX11_digest 15 = .ok (.aload_n 0, 1) := by decide +kernel
theorem dX11_digest_16 : decode cX11_digest 16 = .ok (.aload_n 0, 1) := by decide +kernel
theorem dX11_digest_17 : decode cX11_digest 17 = .ok (.iload_n 1, 1) := by decide +kernel
theorem dX11_digest_18 : decode cX11_digest 18 = .ok (.invokevirtual 276, 3) := by decide +kernel
theorem dX11_digest_21 : decode cX11_digest 21 = .ok (.i2l, 1) := by decide +kernel
theorem dX11_digest_22 : decode cX11_digest 22 = .ok (.invokevirtual 287, 3) := by decide +kernel
theorem dX11_digest_25 : decode cX11_digest 25 = .ok (.iinc 1 1, 3) := by decide +kernel
theorem dX11_digest_28 : decode cX11_digest 28 = .ok (.goto (-19), 3) := by decide +kernel
theorem dX11_digest_31 : decode cX11_digest 31 = .ok (.iconst 0, 1) := by decide +kernel
theorem dX11_digest_32 : decode cX11_digest 32 = .ok (.istore_n 1, 1) := by decide +kernel
theorem dX11_digest_33 : decode cX11_digest 33 = .ok (.iload_n 1, 1) := by decide +kernel
theorem dX11_digest_34 : decode cX11_digest 34 = .ok (.aload_n 0, 1) := by decide +kernel
theorem dX11_digest_35 : decode cX11_digest 35 = .ok (.getfield 7, 3) := by decide +kernel
theorem dX11_digest_38 : decode cX11_digest 38 = .ok (.iconst 0, 1) := by decide +kernel
theorem dX11_digest_39 : decode cX11_digest 39 = .ok (.iaload, 1) := by decide +kernel
theorem dX11_digest_40 : decode cX11_digest 40 = .ok (.if_icmp .ge 53, 3) := by decide +kernel
theorem dX11_digest_43 : decode cX11_digest 43 = .ok (.iconst 0, 1) := by decide +kernel
theorem dX11_digest_44 : decode cX11_digest 44 = .ok (.istore_n 2, 1) := by decide +kernel
theorem dX11_digest_45 : decode cX11_digest 45 = .ok (.iload_n 2, 1) := by decide +kernel
theorem dX11_digest_46 : decode cX11_digest 46 = .ok (.bipush 6, 2) := by decide +kernel
theorem dX11_digest_48 : decode cX11_digest 48 = .ok (.if_icmp .ge 20, 3) := by decide +kernel
theorem dX11_digest_51 : decode cX11_digest 51 = .ok (.aload_n 0, 1) := by decide +kernel
theorem dX11_digest_52 : decode cX11_digest 52 = .ok (.aload_n 0, 1) := by decide +kernel
theorem dX11_digest_53 : decode cX11_digest 53 = .ok (.iload_n 1, 1) := by decide +kernel
theorem dX11_digest_54 : decode cX11_digest 54 = .ok (.iload_n 2, 1) := by decide +kernel
theorem dX11_digest_55 : decode cX11_digest 55 = .ok (.invokevirtual 168, 3) := by decide +kernel
theorem dX11_digest_58 : decode cX11_digest 58 = .ok (.i2l, 1) := by decide +kernel
theorem dX11_digest_59 : decode cX11_digest 59 = .ok (.invokevirtual 287, 3) := by decide +kernel
theorem dX11_digest_62 : decode cX11_digest 62 = .ok (.iinc 2 1, 3) := by decide +kernel
theorem dX11_digest_65 : decode cX11_digest 65 = .ok (.goto (-20), 3) := by decide +kernel
theorem dX11_digest_68 : decode cX11_digest 68 = .ok (.aload_n 0, 1) := by decide +kernel
theorem dX11_digest_69 : decode cX11_digest 69 = .ok (.ldc_w 291, 3) := by decide +kernel
theorem dX11_digest_72 : decode cX11_digest 72 = .ok (.iconst 3, 1) := by decide +kernel
theorem dX11_digest_73 : decode cX11_digest 73 = .ok (.invokevirtual 194, 3) := by decide +kernel
theorem dX11_digest_76 : decode cX11_digest 76 = .ok (.istore_n 2, 1) := by decide +kernel
theorem dX11_digest_77 : decode cX11_digest 77 = .ok (.aload_n 0, 1) := by decide +kernel
theorem dX11_digest_78 : decode cX11_digest 78 = .ok (.aload_n 0, 1) := by decide +kernel
theorem dX11_digest_79 : decode cX11_digest 79 = .ok (.iload_n 1, 1) := by decide +kernel
theorem dX11_digest_80 : decode cX11_digest 80 = .ok (.invokevirtual 191, 3) := by decide +kernel
theorem dX11_digest_83 : decode cX11_digest 83 = .ok (.i2l, 1) := by decide +kernel
theorem dX11_digest_84 : decode cX11_digest 84 = .ok (.invokevirtual 287, 3) := by decide +kernel
theorem dX11_digest_87 : decode cX11_digest 87 = .ok (.iinc 1 1, 3) := by decide +kernel
theorem dX11_digest_90 : decode cX11_digest 90 = .ok (.goto (-57), 3) := by decide +kernel
theorem dX11_digest_93 : decode cX11_digest 93 = .ok (.iconst 0, 1) := by decide +kernel
theorem dX11_digest_94 : decode cX11_digest 94 = .ok (.istore_n 1, 1) := by decide +kernel
theorem dX11_digest_95 : decode cX11_digest 95 = .ok (.iload_n 1, 1) := by decide +kernel
theorem dX11_digest_96 : decode cX11_digest 96 = .ok (.aload_n 0, 1) := by decide +kernel
theorem dX11_digest_97 : decode cX11_digest 97 = .ok (.getfield 7, 3) := by decide +kernel
theorem dX11_digest_100 : decode cX11_digest 100 = .ok (.sipush 131, 3) := by decide +kernel
theorem dX11_digest_103 : decode cX11_digest 103 = .ok (.iaload, 1) := by decide +kernel
theorem dX11_digest_104 : decode cX11_digest 104 = .ok (.if_icmp .ge 24, 3) := by decide +kernel
theorem dX11_digest_107 : decode cX11_digest 107 = .ok (.aload_n 0, 1) := by decide +kernel
theorem dX11_digest_108 : decode cX11_digest 108 = .ok (.aload_n 0, 1) := by decide +kernel
theorem dX11_digest_109 : decode cX11_digest 109 = .ok (.getfield 7, 3) := by decide +kernel
theorem dX11_digest_112 : decode cX11_digest 112 = .ok (.sipush 132, 3) := by decide +kernel
theorem dX11_digest_115 : decode cX11_digest 115 = .ok (.iload_n 1, 1) := by decide +kernel
theorem dX11_digest_116 : decode cX11_digest 116 = .ok (.iadd, 1) := by decide +kernel
theorem dX11_digest_117 : decode cX11_digest 117 = .ok (.iaload, 1) := by decide +kernel
theorem dX11_digest_118 : decode cX11_digest 118 = .ok (.i2l, 1) := by decide +kernel
theorem dX11_digest_119 : decode cX11_digest 119 = .ok (.invokevirtual 287, 3) := by decide +kernel
theorem dX11_digest_122 : decode cX11_digest 122 = .ok (.iinc 1 1, 3) := by decide +kernel
theorem dX11_digest_125 : decode cX11_digest 125 = .ok (.goto (-30), 3) := by decide +kernel
theorem dX11_digest_128 : decode cX11_digest 128 = .ok (.aload_n 0, 1) := by decide +kernel
theorem dX11_digest_129 : decode cX11_digest 129 = .ok (.aload_n 0, 1) := by decide +kernel
theorem dX11_digest_130 : decode cX11_digest 130 = .ok (.invokevirtual 292, 3) := by decide +kernel
theorem dX11_digest_133 : decode cX11_digest 133 = .ok (.i2l, 1) := by decide +kernel
theorem dX11_digest_134 : decode cX11_digest 134 = .ok (.invokevirtual 287, 3) := by decide +kernel
theorem dX11_digest_137 : decode cX11_digest 137 = .ok (.aload_n 0, 1) := by decide +kernel
theorem dX11_digest_138 : decode cX11_digest 138 = .ok (.invokevirtual 228, 3) := by decide +kernel
theorem dX11_digest_141 : decode cX11_digest 141 = .ok (.iconst 0, 1) := by decide +kernel
theorem dX11_digest_142 : decode cX11_digest 142 = .ok (.istore_n 1, 1) := by decide +kernel
theorem dX11_digest_143 : decode cX11_digest 143 = .ok (.iload_n 1, 1) := by decide +kernel
theorem dX11_digest_144 : decode cX11_digest 144 = .ok (.iconst 3, 1) := by decide +kernel
theorem dX11_digest_145 : decode cX11_digest 145 = .ok (.if_icmp .ge 19, 3) := by decide +kernel
theorem dX11_digest_148 : decode cX11_digest 148 = .ok (.aload_n 0, 1) := by decide +kernel
theorem dX11_digest_149 : decode cX11_digest 149 = .ok (.aload_n 0, 1) := by decide +kernel
theorem dX11_digest_150 : decode cX11_digest 150 = .ok (.iload_n 1, 1) := by decide +kernel
theorem dX11_digest_151 : decode cX11_digest 151 = .ok (.invokevirtual 231, 3) := by decide +kernel
theorem dX11_digest_154 : decode cX11_digest 154 = .ok (.i2l, 1) := by decide +kernel
theorem dX11_digest_155 : decode cX11_digest 155 = .ok (.invokevirtual 287, 3) := by decide +kernel
theorem dX11_digest_158 : decode cX11_digest 158 = .ok (.iinc 1 1, 3) := by decide +kernel
theorem dX11_digest_161 : decode cX11_digest 161 = .ok (.goto (-18), 3) := by decide +kernel
theorem dX11_digest_164 : decode cX11_digest 164 = .ok (.iconst 0, 1) := by decide +kernel
theorem dX11_digest_165 : decode cX11_digest 165 = .ok (.istore_n 1, 1) := by decide +kernel
theorem dX11_digest_166 : decode cX11_digest 166 = .ok (.iload_n 1, 1) := by decide +kernel
theorem dX11_digest_167 : decode cX11_digest 167 = .ok (.aload_n 0, 1) := by decide +kernel
theorem dX11_digest_168 : decode cX11_digest 168 = .ok (.getfield 213, 3) := by decide +kernel
theorem dX11_digest_171 : decode cX11_digest 171 = .ok (.if_icmp .ge 33, 3) := by decide +kernel
theorem dX11_digest_174 : decode cX11_digest 174 = .ok (.iconst 0, 1) := by decide +kernel
theorem dX11_digest_175 : decode cX11_digest 175 = .ok (.istore_n 2, 1) := by decide +kernel
theorem dX11_digest_176 : decode cX11_digest 176 = .ok (.iload_n 2, 1) := by decide +kernel
theorem dX11_digest_177 : decode cX11_digest 177 = .ok (.iconst 4, 1) := by decide +kernel
theorem dX11_digest_178 : decode cX11_digest 178 = .ok (.if_icmp .ge 20, 3) := by decide +kernel
theorem dX11_digest_181 : decode cX11_digest 181 = .ok (.aload_n 0, 1) := by decide +kernel
theorem dX11_digest_182 : decode cX11_digest 182 = .ok (.aload_n 0, 1) := by decide +kernel
theorem dX11_digest_183 : decode cX11_digest 183 = .ok (.iload_n 1, 1) := by decide +kernel
theorem dX11_digest_184 : decode cX11_digest 184 = .ok (.iload_n 2, 1) := by decide +kernel
theorem dX11_digest_185 : decode cX11_digest 185 = .ok (.invokevirtual 234, 3) := by decide +kernel
theorem dX11_digest_188 : decode cX11_digest 188 = .ok (.i2l, 1) := by decide +kernel
theorem dX11_digest_189 : decode cX11_digest 189 = .ok (.invokevirtual 287, 3) := by decide +kernel
theorem dX11_digest_192 : decode cX11_digest 192 = .ok (.iinc 2 1, 3) := by decide +kernel
theorem dX11_digest_195 : decode cX11_digest 195 = .ok (.goto (-19), 3) := by decide +kernel
theorem dX11_digest_198 : decode cX11_digest 198 = .ok (.iinc 1 1, 3) := by decide +kernel
theorem dX11_digest_201 : decode cX11_digest 201 = .ok (.goto (-35), 3) := by decide +kernel
theorem dX11_digest_204 : decode cX11_digest 204 = .ok (.aload_n 0, 1) := by decide +kernel
theorem dX11_digest_205 : decode cX11_digest 205 = .ok (.aload_n 0, 1) := by decide +kernel
theorem dX11_digest_206 : decode cX11_digest 206 = .ok (.invokevirtual 270, 3) := by decide +kernel
theorem dX11_digest_209 : decode cX11_digest 209 = .ok (.i2l, 1) := by decide +kernel
theorem dX11_digest_210 : decode cX11_digest 210 = .ok (.invokevirtual 287, 3) := by decide +kernel
theorem dX11_digest_213 : decode cX11_digest 213 = .ok (.aload_n 0, 1) := by decide +kernel
theorem dX11_digest_214 : decode cX11_digest 214 = .ok (.aload_n 0, 1) := by decide +kernel
theorem dX11_digest_215 : decode cX11_digest 215 = .ok (.iconst 0, 1) := by decide +kernel
theorem dX11_digest_216 : decode cX11_digest 216 = .ok (.invokevirtual 273, 3) := by decide +kernel
theorem dX11_digest_219 : decode cX11_digest 219 = .ok (.i2l, 1) := by decide +kernel
theorem dX11_digest_220 : decode cX11_digest 220 = .ok (.invokevirtual 287, 3) := by decide +kernel
theorem dX11_digest_223 : decode cX11_digest 223 = .ok (.aload_n 0, 1) := by decide +kernel
theorem dX11_digest_224 : decode cX11_digest 224 = .ok (.aload_n 0, 1) := by decide +kernel
theorem dX11_digest_225 : decode cX11_digest 225 = .ok (.iconst 1, 1) := by decide +kernel
theorem dX11_digest_226 : decode cX11_digest 226 = .ok (.invokevirtual 273, 3) := by decide +kernel
theorem dX11_digest_229 : decode cX11_digest 229 = .ok (.i2l, 1) := by decide +kernel
theorem dX11_digest_230 : decode cX11_digest 230 = .ok (.invokevirtual 287, 3) := by decide +kernel
theorem dX11_digest_233 : decode cX11_digest 233 = .ok (.aload_n 0, 1) := by decide +kernel
theorem dX11_digest_234 : decode cX11_digest 234 = .ok (.getfield 281, 3) := by decide +kernel
theorem dX11_digest_237 : decode cX11_digest 237 = .ok (.lreturn, 1) := by decide +kernel
theorem dJ13_bitCount_95d88_0 : decode cJ13_bitCount_95d88 0 = .ok (.lload_n 0, 1) := by decide +kernel
theorem dJ13_bitCount_95d88_1 : decode cJ13_bitCount_95d88 1 = .ok (.lload_n 0, 1) := by decide +kernel
theorem dJ13_bitCount_95d88_2 : decode cJ13_bitCount_95d88 2 = .ok (.iconst 1, 1) := by decide +kernel
theorem dJ13_bitCount_95d88_3 : decode cJ13_bitCount_95d88 3 = .ok (.lushr, 1) := by decide +kernel
theorem dJ13_bitCount_95d88_4 : decode cJ13_bitCount_95d88 4 = .ok (.ldc2_w 314, 3) := by decide +kernel
theorem dJ13_bitCount_95d88_7 : decode cJ13_bitCount_95d88 7 = .ok (.land, 1) := by decide +kernel
theorem dJ13_bitCount_95d88_8 : decode cJ13_bitCount_95d88 8 = .ok (.lsub, 1) := by decide +kernel
theorem dJ13_bitCount_95d88_9 : decode cJ13_bitCount_95d88 9 = .ok (.lstore_n 0, 1) := by decide +kernel
theorem dJ13_bitCount_95d88_10 : decode cJ13_bitCount_95d88 10 = .ok (.lload_n 0, 1) := by decide +kernel
theorem dJ13_bitCount_95d88_11 : decode cJ13_bitCount_95d88 11 = .ok (.ldc2_w 316, 3) := by decide +kernel
theorem dJ13_bitCount_95d88_14 : decode cJ13_bitCount_95d88 14 = .ok (.land, 1) := by decide +kernel
theorem dJ13_bitCount_95d88_15 : decode cJ13_bitCount_95d88 15 = .ok (.lload_n 0, 1) := by decide +kernel
theorem dJ13_bitCount_95d88_16 : decode cJ13_bitCount_95d88 16 = .ok (.iconst 2, 1) := by decide +kernel
theorem dJ13_bitCount_95d88_17 : decode cJ13_bitCount_95d88 17 = .ok (.lushr, 1) := by decide +kernel
theorem dJ13_bitCount_95d88_18 : decode cJ13_bitCount_95d88 18 = .ok (.ldc2_w 316, 3) := by decide +kernel
theorem dJ13_bitCount_95d88_21 : decode cJ13_bitCount_95d88 21 = .ok (.land, 1) := by decide +kernel
theorem dJ13_bitCount_95d88_22 : decode cJ13_bitCount_95d88 22 = .ok (.ladd, 1) := by decide +kernel
theorem dJ13_bitCount_95d88_23 : decode cJ13_bitCount_95d88 23 = .ok (.lstore_n 0, 1) := by decide +kernel
theorem dJ13_bitCount_95d88_24 : decode cJ13_bitCount_95d88 24 = .ok (.lload_n 0, 1) := by decide +kernel
theorem dJ13_bitCount_95d88_25 : decode cJ13_bitCount_95d88 25 = .ok (.lload_n 0, 1) := by decide +kernel
theorem dJ13_bitCount_95d88_26 : decode cJ13_bitCount_95d88 26 = .ok (.iconst 4, 1) := by decide +kernel
theorem dJ13_bitCount_95d88_27 : decode cJ13_bitCount_95d88 27 = .ok (.lushr, 1) := by decide +kernel
theorem dJ13_bitCount_95d88_28 : decode cJ13_bitCount_95d88 28 = .ok (.ladd, 1) := by decide +kernel
theorem dJ13_bitCount_95d88_29 : decode cJ13_bitCount_95d88 29 = .ok (.ldc2_w 318, 3) := by decide +kernel
theorem dJ13_bitCount_95d88_32 : decode cJ13_bitCount_95d88 32 = .ok (.land, 1) := by decide +kernel
theorem dJ13_bitCount_95d88_33 : decode cJ13_bitCount_95d88 33 = .ok (.lstore_n 0, 1) := by decide +kernel
theorem dJ13_bitCount_95d88_34 : decode cJ13_bitCount_95d88 34 = .ok (.lload_n 0, 1) := by decide +kernel
theorem dJ13_bitCount_95d88_35 : decode cJ13_bitCount_95d88 35 = .ok (.lload_n 0, 1) := by decide +kernel
theorem dJ13_bitCount_95d88_36 : decode cJ13_bitCount_95d88 36 = .ok (.bipush 8, 2) := by decide +kernel
theorem dJ13_bitCount_95d88_38 : decode cJ13_bitCount_95d88 38 = .ok (.lushr, 1) := by decide +kernel
theorem dJ13_bitCount_95d88_39 : decode cJ13_bitCount_95d88 39 = .ok (.ladd, 1) := by decide +kernel
theorem dJ13_bitCount_95d88_40 : decode cJ13_bitCount_95d88 40 = .ok (.lstore_n 0, 1) := by decide +kernel
theorem dJ13_bitCount_95d88_41 : decode cJ13_bitCount_95d88 41 = .ok (.lload_n 0, 1) := by decide +kernel
theorem dJ13_bitCount_95d88_42 : decode cJ13_bitCount_95d88 42 = .ok (.lload_n 0, 1) := by decide +kernel
theorem dJ13_bitCount_95d88_43 : decode cJ13_bitCount_95d88 43 = .ok (.bipush 16, 2) := by decide +kernel
theorem dJ13_bitCount_95d88_45 : decode cJ13_bitCount_95d88 45 = .ok (.lushr, 1) := by decide +kernel
theorem dJ13_bitCount_95d88_46 : decode cJ13_bitCount_95d88 46 = .ok (.ladd, 1) := by decide +kernel
theorem dJ13_bitCount_95d88_47 : decode cJ13_bitCount_95d88 47 = .ok (.lstore_n 0, 1) := by decide +kernel
theorem dJ13_bitCount_95d88_48 : decode cJ13_bitCount_95d88 48 = .ok (.lload_n 0, 1) := by decide +kernel
theorem dJ13_bitCount_95d88_49 : decode cJ13_bitCount_95d88 49 = .ok (.lload_n 0, 1) := by decide +kernel
theorem dJ13_bitCount_95d88_50 : decode cJ13_bitCount_95d88 50 = .ok (.bipush 32, 2) := by decide +kernel
theorem dJ13_bitCount_95d88_52 : decode cJ13_bitCount_95d88 52 = .ok (.lushr, 1) := by decide +kernel
theorem dJ13_bitCount_95d88_53 : decode cJ13_bitCount_95d88 53 = .ok (.ladd, 1) := by decide +kernel
theorem dJ13_bitCount_95d88_54 : decode cJ13_bitCount_95d88 54 = .ok (.lstore_n 0, 1) := by decide +kernel
theorem dJ13_bitCount_95d88_55 : decode cJ13_bitCount_95d88 55 = .ok (.lload_n 0, 1) := by decide +kernel
theorem dJ13_bitCount_95d88_56 : decode cJ13_bitCount_95d88 56 = .ok (.l2i, 1) := by decide +kernel
theorem dJ13_bitCount_95d88_57 : decode cJ13_bitCount_95d88 57 = .ok (.bipush 127, 2) := by decide +kernel
theorem dJ13_bitCount_95d88_59 : decode cJ13_bitCount_95d88 59 = .ok (.iand, 1) := by decide +kernel
theorem dJ13_bitCount_95d88_60 : decode cJ13_bitCount_95d88 60 = .ok (.ireturn, 1) := by decide +kernel
theorem dJ9_max_7cf53_0 : decode cJ9_max_7cf53 0 = .ok (.iload_n 0, 1) := by decide +kernel
theorem dJ9_max_7cf53_1 : decode cJ9_max_7cf53 1 = .ok (.iload_n 1, 1) := by decide +kernel
theorem dJ9_max_7cf53_2 : decode cJ9_max_7cf53 2 = .ok (.if_icmp .lt 7, 3) := by decide +kernel
theorem dJ9_max_7cf53_5 : decode cJ9_max_7cf53 5 = .ok (.iload_n 0, 1) := by decide +kernel
theorem dJ9_max_7cf53_6 : decode cJ9_max_7cf53 6 = .ok (.goto 4, 3) := by decide +kernel
theorem dJ9_max_7cf53_9 : decode cJ9_max_7cf53 9 = .ok (.iload_n 1, 1) := by decide +kernel
theorem dJ9_max_7cf53_10 : decode cJ9_max_7cf53 10 = .ok (.ireturn, 1) := by decide +kernel
theorem dJ9_min_7cf53_0 : decode cJ9_min_7cf53 0 = .ok (.iload_n 0, 1) := by decide +kernel
theorem dJ9_min_7cf53_1 : decode cJ9_min_7cf53 1 = .ok (.iload_n 1, 1) := by decide +kernel
theorem dJ9_min_7cf53_2 : decode cJ9_min_7cf53 2 = .ok (.if_icmp .gt 7, 3) := by decide +kernel
theorem dJ9_min_7cf53_5 : decode cJ9_min_7cf53 5 = .ok (.iload_n 0, 1) := by decide +kernel
theorem dJ9_min_7cf53_6 : decode cJ9_min_7cf53 6 = .ok (.goto 4, 3) := by decide +kernel
theorem dJ9_min_7cf53_9 : decode cJ9_min_7cf53 9 = .ok (.iload_n 1, 1) := by decide +kernel
theorem dJ9_min_7cf53_10 : decode cJ9_min_7cf53 10 = .ok (.ireturn, 1) := by decide +kernel
theorem dL_law_0 : decode cL_law 0 = .ok (.new 7, 3) := by decide +kernel
theorem dL_law_3 : decode cL_law 3 = .ok (.dup, 1) := by decide +kernel
theorem dL_law_4 : decode cL_law 4 = .ok (.invokespecial 9, 3) := by decide +kernel
theorem dL_law_7 : decode cL_law 7 = .ok (.astore_n 1, 1) := by decide +kernel
theorem dL_law_8 : decode cL_law 8 = .ok (.new 10, 3) := by decide +kernel
theorem dL_law_11 : decode cL_law 11 = .ok (.dup, 1) := by decide +kernel
theorem dL_law_12 : decode cL_law 12 = .ok (.invokespecial 12, 3) := by decide +kernel
theorem dL_law_15 : decode cL_law 15 = .ok (.astore_n 2, 1) := by decide +kernel
theorem dL_law_16 : decode cL_law 16 = .ok (.iconst 0, 1) := by decide +kernel
theorem dL_law_17 : decode cL_law 17 = .ok (.istore_n 3, 1) := by decide +kernel
theorem dL_law_18 : decode cL_law 18 = .ok (.iload_n 3, 1) := by decide +kernel
theorem dL_law_19 : decode cL_law 19 = .ok (.aload_n 0, 1) := by decide +kernel
theorem dL_law_20 : decode cL_law 20 = .ok (.arraylength, 1) := by decide +kernel
theorem dL_law_21 : decode cL_law 21 = .ok (.iconst 3, 1) := by decide +kernel
theorem dL_law_22 : decode cL_law 22 = .ok (.isub, 1) := by decide +kernel
theorem dL_law_23 : decode cL_law 23 = .ok (.if_icmp .gt 606, 3) := by decide +kernel
theorem dL_law_26 : decode cL_law 26 = .ok (.aload_n 0, 1) := by decide +kernel
theorem dL_law_27 : decode cL_law 27 = .ok (.iload_n 3, 1) := by decide +kernel
theorem dL_law_28 : decode cL_law 28 = .ok (.iaload, 1) := by decide +kernel
theorem dL_law_29 : decode cL_law 29 = .ok (.bipush 31, 2) := by decide +kernel
theorem dL_law_31 : decode cL_law 31 = .ok (.iand, 1) := by decide +kernel
theorem dL_law_32 : decode cL_law 32 = .ok (.tableswitch 591 0 21 #[104, 127, 140, 153, 166, 189, 212, 245, 278, 291, 324, 347, 370, 403, 436, 459, 482, 495, 518, 541, 554, 577], 104) := by decide +kernel
theorem dL_law_136 : decode cL_law 136 = .ok (.aload_n 1, 1) := by decide +kernel
theorem dL_law_137 : decode cL_law 137 = .ok (.aload_n 0, 1) := by decide +kernel
theorem dL_law_138 : decode cL_law 138 = .ok (.iload_n 3, 1) := by decide +kernel
theorem dL_law_139 : decode cL_law 139 = .ok (.iconst 1, 1) := by decide +kernel
theorem dL_law_140 : decode cL_law 140 = .ok (.iadd, 1) := by decide +kernel
theorem dL_law_141 : decode cL_law 141 = .ok (.iaload, 1) := by decide +kernel
theorem dL_law_142 : decode cL_law 142 = .ok (.invokevirtual 13, 3) := by decide +kernel
theorem dL_law_145 : decode cL_law 145 = .ok (.aload_n 2, 1) := by decide +kernel
theorem dL_law_146 : decode cL_law 146 = .ok (.aload_n 0, 1) := by decide +kernel
theorem dL_law_147 : decode cL_law 147 = .ok (.iload_n 3, 1) := by decide +kernel
theorem dL_law_148 : decode cL_law 148 = .ok (.iconst 1, 1) := by decide +kernel
theorem dL_law_149 : decode cL_law 149 = .ok (.iadd, 1) := by decide +kernel
theorem dL_law_150 : decode cL_law 150 = .ok (.iaload, 1) := by decide +kernel
theorem dL_law_151 : decode cL_law 151 = .ok (.invokevirtual 17, 3) := by decide +kernel
theorem dL_law_154 : decode cL_law 154 = .ok (.if_icmp .eq 469, 3) := by decide +kernel
theorem dL_law_157 : decode cL_law 157 = .ok (.iconst 0, 1) := by decide +kernel
theorem dL_law_158 : decode cL_law 158 = .ok (.ireturn, 1) := by decide +kernel
theorem dL_law_159 : decode cL_law 159 = .ok (.aload_n 1, 1) := by decide +kernel
theorem dL_law_160 : decode cL_law 160 = .ok (.invokevirtual 18, 3) := by decide +kernel
theorem dL_law_163 : decode cL_law 163 = .ok (.aload_n 2, 1) := by decide +kernel
theorem dL_law_164 : decode cL_law 164 = .ok (.invokevirtual 22, 3) := by decide +kernel
theorem dL_law_167 : decode cL_law 167 = .ok (.if_icmp .eq 456, 3) := by decide +kernel
theorem dL_law_170 : decode cL_law 170 = .ok (.iconst 0, 1) := by decide +kernel
theorem dL_law_171 : decode cL_law 171 = .ok (.ireturn, 1) := by decide +kernel
theorem dL_law_172 : decode cL_law 172 = .ok (.aload_n 1, 1) := by decide +kernel
theorem dL_law_173 : decode cL_law 173 = .ok (.invokevirtual 23, 3) := by decide +kernel
theorem dL_law_176 : decode cL_law 176 = .ok (.aload_n 2, 1) := by decide +kernel
theorem dL_law_177 : decode cL_law 177 = .ok (.invokevirtual 26, 3) := by decide +kernel
theorem dL_law_180 : decode cL_law 180 = .ok (.if_icmp .eq 443, 3) := by decide +kernel
theorem dL_law_183 : decode cL_law 183 = .ok (.iconst 0, 1) := by decide +kernel
theorem dL_law_184 : decode cL_law 184 = .ok (.ireturn, 1) := by decide +kernel
theorem dL_law_185 : decode cL_law 185 = .ok (.aload_n 1, 1) := by decide +kernel
theorem dL_law_186 : decode cL_law 186 = .ok (.invokevirtual 27, 3) := by decide +kernel
theorem dL_law_189 : decode cL_law 189 = .ok (.aload_n 2, 1) := by decide +kernel
theorem dL_law_190 : decode cL_law 190 = .ok (.invokevirtual 30, 3) := by decide +kernel
theorem dL_law_193 : decode cL_law 193 = .ok (.if_icmp .eq 430, 3) := by decide +kernel
theorem dL_law_196 : decode cL_law 196 = .ok (.iconst 0, 1) := by decide +kernel
theorem dL_law_197 : decode cL_law 197 = .ok (.ireturn, 1) := by decide +kernel
theorem dL_law_198 : decode cL_law 198 = .ok (.aload_n 1, 1) := by decide +kernel
theorem dL_law_199 : decode cL_law 199 = .ok (.aload_n 0, 1) := by decide +kernel
theorem dL_law_200 : decode cL_law 200 = .ok (.iload_n 3, 1) := by decide +kernel
theorem dL_law_201 : decode cL_law 201 = .ok (.iconst 1, 1) := by decide +kernel
theorem dL_law_202 : decode cL_law 202 = .ok (.iadd, 1) := by decide +kernel
theorem dL_law_203 : decode cL_law 203 = .ok (.iaload, 1) := by decide +kernel
theorem dL_law_204 : decode cL_law 204 = .ok (.invokevirtual 31, 3) := by decide +kernel
theorem dL_law_207 : decode cL_law 207 = .ok (.aload_n 2, 1) := by decide +kernel
theorem dL_law_208 : decode cL_law 208 = .ok (.aload_n 0, 1) := by decide +kernel
theorem dL_law_209 : decode cL_law 209 = .ok (.iload_n 3, 1) := by decide +kernel
theorem dL_law_210 : decode cL_law 210 = .ok (.iconst 1, 1) := by decide +kernel
theorem dL_law_211 : decode cL_law 211 = .ok (.iadd, 1) := by decide +kernel
theorem dL_law_212 : decode cL_law 212 = .ok (.iaload, 1) := by decide +kernel
theorem dL_law_213 : decode cL_law 213 = .ok (.invokevirtual 34, 3) := by decide +kernel
theorem dL_law_216 : decode cL_law 216 = .ok (.if_icmp .eq 407, 3) := by decide +kernel
theorem dL_law_219 : decode cL_law 219 = .ok (.iconst 0, 1) := by decide +kernel
theorem dL_law_220 : decode cL_law 220 = .ok (.ireturn, 1) := by decide +kernel
theorem dL_law_221 : decode cL_law 221 = .ok (.aload_n 1, 1) := by decide +kernel
theorem dL_law_222 : decode cL_law 222 = .ok (.aload_n 0, 1) := by decide +kernel
theorem dL_law_223 : decode cL_law 223 = .ok (.iload_n 3, 1) := by decide +kernel
theorem dL_law_224 : decode cL_law 224 = .ok (.iconst 1, 1) := by decide +kernel
theorem dL_law_225 : decode cL_law 225 = .ok (.iadd, 1) := by decide +kernel
theorem dL_law_226 : decode cL_law 226 = .ok (.iaload, 1) := by decide +kernel
theorem dL_law_227 : decode cL_law 227 = .ok (.invokevirtual 35, 3) := by decide +kernel
theorem dL_law_230 : decode cL_law 230 = .ok (.aload_n 2, 1) := by decide +kernel
theorem dL_law_231 : decode cL_law 231 = .ok (.aload_n 0, 1) := by decide +kernel
theorem dL_law_232 : decode cL_law 232 = .ok (.iload_n 3, 1) := by decide +kernel
theorem dL_law_233 : decode cL_law 233 = .ok (.iconst 1, 1) := by decide +kernel
theorem dL_law_234 : decode cL_law 234 = .ok (.iadd, 1) := by decide +kernel
theorem dL_law_235 : decode cL_law 235 = .ok (.iaload, 1) := by decide +kernel
theorem dL_law_236 : decode cL_law 236 = .ok (.invokevirtual 38, 3) := by decide +kernel
theorem dL_law_239 : decode cL_law 239 = .ok (.if_icmp .eq 384, 3) := by decide +kernel
theorem dL_law_242 : decode cL_law 242 = .ok (.iconst 0, 1) := by decide +kernel
theorem dL_law_243 : decode cL_law 243 = .ok (.ireturn, 1) := by decide +kernel
theorem dL_law_244 : decode cL_law 244 = .ok (.aload_n 1, 1) := by decide +kernel
theorem dL_law_245 : decode cL_law 245 = .ok (.aload_n 0, 1) := by decide +kernel
theorem dL_law_246 : decode cL_law 246 = .ok (.iload_n 3, 1) := by decide +kernel
theorem dL_law_247 : decode cL_law 247 = .ok (.iconst 1, 1) := by decide +kernel
theorem dL_law_248 : decode cL_law 248 = .ok (.iadd, 1) := by decide +kernel
theorem dL_law_249 : decode cL_law 249 = .ok (.iaload, 1) := by decide +kernel
theorem dL_law_250 : decode cL_law 250 = .ok (.aload_n 0, 1) := by decide +kernel
theorem dL_law_251 : decode cL_law 251 = .ok (.iload_n 3, 1) := by decide +kernel
theorem dL_law_252 : decode cL_law 252 = .ok (.iconst 2, 1) := by decide +kernel
theorem dL_law_253 : decode cL_law 253 = .ok (.iadd, 1) := by decide +kernel
theorem dL_law_254 : decode cL_law 254 = .ok (.iaload, 1) := by decide +kernel
theorem dL_law_255 : decode cL_law 255 = .ok (.invokevirtual 39, 3) := by decide +kernel
theorem dL_law_258 : decode cL_law 258 = .ok (.aload_n 2, 1) := by decide +kernel
theorem dL_law_259 : decode cL_law 259 = .ok (.aload_n 0, 1) := by decide +kernel
theorem dL_law_260 : decode cL_law 260 = .ok (.iload_n 3, 1) := by decide +kernel
theorem dL_law_261 : decode cL_law 261 = .ok (.iconst 1, 1) := by decide +kernel
theorem dL_law_262 : decode cL_law 262 = .ok (.iadd, 1) := by decide +kernel
theorem dL_law_263 : decode cL_law 263 = .ok (.iaload, 1) := by decide +kernel
theorem dL_law_264 : decode cL_law 264 = .ok (.aload_n 0, 1) := by decide +kernel
theorem dL_law_265 : decode cL_law 265 = .ok (.iload_n 3, 1) := by decide +kernel
theorem dL_law_266 : decode cL_law 266 = .ok (.iconst 2, 1) := by decide +kernel
theorem dL_law_267 : decode cL_law 267 = .ok (.iadd, 1) := by decide +kernel
theorem dL_law_268 : decode cL_law 268 = .ok (.iaload, 1) := by decide +kernel
theorem dL_law_269 : decode cL_law 269 = .ok (.invokevirtual 43, 3) := by decide +kernel
theorem dL_law_272 : decode cL_law 272 = .ok (.if_icmp .eq 351, 3) := by decide +kernel
theorem dL_law_275 : decode cL_law 275 = .ok (.iconst 0, 1) := by decide +kernel
theorem dL_law_276 : decode cL_law 276 = .ok (.ireturn, 1) := by decide +kernel
theorem dL_law_277 : decode cL_law 277 = .ok (.aload_n 1, 1) := by decide +kernel
theorem dL_law_278 : decode cL_law 278 = .ok (.aload_n 0, 1) := by decide +kernel
theorem dL_law_279 : decode cL_law 279 = .ok (.iload_n 3, 1) := by decide +kernel
theorem dL_law_280 : decode cL_law 280 = .ok (.iconst 1, 1) := by decide +kernel
theorem dL_law_281 : decode cL_law 281 = .ok (.iadd, 1) := by decide +kernel
theorem dL_law_282 : decode cL_law 282 = .ok (.iaload, 1) := by decide +kernel
theorem dL_law_283 : decode cL_law 283 = .ok (.aload_n 0, 1) := by decide +kernel
theorem dL_law_284 : decode cL_law 284 = .ok (.iload_n 3, 1) := by decide +kernel
theorem dL_law_285 : decode cL_law 285 = .ok (.iconst 2, 1) := by decide +kernel
theorem dL_law_286 : decode cL_law 286 = .ok (.iadd, 1) := by decide +kernel
theorem dL_law_287 : decode cL_law 287 = .ok (.iaload, 1) := by decide +kernel
theorem dL_law_288 : decode cL_law 288 = .ok (.invokevirtual 44, 3) := by decide +kernel
theorem dL_law_291 : decode cL_law 291 = .ok (.aload_n 2, 1) := by decide +kernel
theorem dL_law_292 : decode cL_law 292 = .ok (.aload_n 0, 1) := by decide +kernel
theorem dL_law_293 : decode cL_law 293 = .ok (.iload_n 3, 1) := by decide +kernel
theorem dL_law_294 : decode cL_law 294 = .ok (.iconst 1, 1) := by decide +kernel
theorem dL_law_295 : decode cL_law 295 = .ok (.iadd, 1) := by decide +kernel
theorem dL_law_296 : decode cL_law 296 = .ok (.iaload, 1) := by decide +kernel
theorem dL_law_297 : decode cL_law 297 = .ok (.aload_n 0, 1) := by decide +kernel
theorem dL_law_298 : decode cL_law 298 = .ok (.iload_n 3, 1) := by decide +kernel
theorem dL_law_299 : decode cL_law 299 = .ok (.iconst 2, 1) := by decide +kernel
theorem dL_law_300 : decode cL_law 300 = .ok (.iadd, 1) := by decide +kernel
theorem dL_law_301 : decode cL_law 301 = .ok (.iaload, 1) := by decide +kernel
theorem dL_law_302 : decode cL_law 302 = .ok (.invokevirtual 47, 3) := by decide +kernel
theorem dL_law_305 : decode cL_law 305 = .ok (.if_icmp .eq 318, 3) := by decide +kernel
theorem dL_law_308 : decode cL_law 308 = .ok (.iconst 0, 1) := by decide +kernel
theorem dL_law_309 : decode cL_law 309 = .ok (.ireturn, 1) := by decide +kernel
theorem dL_law_310 : decode cL_law 310 = .ok (.aload_n 1, 1) := by decide +kernel
theorem dL_law_311 : decode cL_law 311 = .ok (.invokevirtual 48, 3) := by decide +kernel
theorem dL_law_314 : decode cL_law 314 = .ok (.aload_n 2, 1) := by decide +kernel
theorem dL_law_315 : decode cL_law 315 = .ok (.invokevirtual 51, 3) := by decide +kernel
theorem dL_law_318 : decode cL_law 318 = .ok (.if_icmp .eq 305, 3) := by decide +kernel
theorem dL_law_321 : decode cL_law 321 = .ok (.iconst 0, 1) := by decide +kernel
theorem dL_law_322 : decode cL_law 322 = .ok (.ireturn, 1) := by decide +kernel
theorem dL_law_323 : decode cL_law 323 = .ok (.aload_n 1, 1) := by decide +kernel
theorem dL_law_324 : decode cL_law 324 = .ok (.aload_n 0, 1) := by decide +kernel
theorem dL_law_325 : decode cL_law 325 = .ok (.iload_n 3, 1) := by decide +kernel
theorem dL_law_326 : decode cL_law 326 = .ok (.iconst 1, 1) := by decide +kernel
theorem dL_law_327 : decode cL_law 327 = .ok (.iadd, 1) := by decide +kernel
theorem dL_law_328 : decode cL_law 328 = .ok (.iaload, 1) := by decide +kernel
theorem dL_law_329 : decode cL_law 329 = .ok (.aload_n 0, 1) := by decide +kernel
theorem dL_law_330 : decode cL_law 330 = .ok (.iload_n 3, 1) := by decide +kernel
theorem dL_law_331 : decode cL_law 331 = .ok (.iconst 2, 1) := by decide +kernel
theorem dL_law_332 : decode cL_law 332 = .ok (.iadd, 1) := by decide +kernel
theorem dL_law_333 : decode cL_law 333 = .ok (.iaload, 1) := by decide +kernel
theorem dL_law_334 : decode cL_law 334 = .ok (.invokevirtual 52, 3) := by decide +kernel
theorem dL_law_337 : decode cL_law 337 = .ok (.aload_n 2, 1) := by decide +kernel
theorem dL_law_338 : decode cL_law 338 = .ok (.aload_n 0, 1) := by decide +kernel
theorem dL_law_339 : decode cL_law 339 = .ok (.iload_n 3, 1) := by decide +kernel
theorem dL_law_340 : decode cL_law 340 = .ok (.iconst 1, 1) := by decide +kernel
theorem dL_law_341 : decode cL_law 341 = .ok (.iadd, 1) := by decide +kernel
theorem dL_law_342 : decode cL_law 342 = .ok (.iaload, 1) := by decide +kernel
theorem dL_law_343 : decode cL_law 343 = .ok (.aload_n 0, 1) := by decide +kernel
theorem dL_law_344 : decode cL_law 344 = .ok (.iload_n 3, 1) := by decide +kernel
theorem dL_law_345 : decode cL_law 345 = .ok (.iconst 2, 1) := by decide +kernel
theorem dL_law_346 : decode cL_law 346 = .ok (.iadd, 1) := by decide +kernel
theorem dL_law_347 : decode cL_law 347 = .ok (.iaload, 1) := by decide +kernel
theorem dL_law_348 : decode cL_law 348 = .ok (.invokevirtual 55, 3) := by decide +kernel
theorem dL_law_351 : decode cL_law 351 = .ok (.if_icmp .eq 272, 3) := by decide +kernel
theorem dL_law_354 : decode cL_law 354 = .ok (.iconst 0, 1) := by decide +kernel
theorem dL_law_355 : decode cL_law 355 = .ok (.ireturn, 1) := by decide +kernel
theorem dL_law_356 : decode cL_law 356 = .ok (.aload_n 1, 1) := by decide +kernel
theorem dL_law_357 : decode cL_law 357 = .ok (.aload_n 0, 1) := by decide +kernel
theorem dL_law_358 : decode cL_law 358 = .ok (.iload_n 3, 1) := by decide +kernel
theorem dL_law_359 : decode cL_law 359 = .ok (.iconst 1, 1) := by decide +kernel
theorem dL_law_360 : decode cL_law 360 = .ok (.iadd, 1) := by decide +kernel
theorem dL_law_361 : decode cL_law 361 = .ok (.iaload, 1) := by decide +kernel
theorem dL_law_362 : decode cL_law 362 = .ok (.invokevirtual 56, 3) := by decide +kernel
theorem dL_law_365 : decode cL_law 365 = .ok (.aload_n 2, 1) := by decide +kernel
theorem dL_law_366 : decode cL_law 366 = .ok (.aload_n 0, 1) := by decide +kernel
theorem dL_law_367 : decode cL_law 367 = .ok (.iload_n 3, 1) := by decide +kernel
theorem dL_law_368 : decode cL_law 368 = .ok (.iconst 1, 1) := by decide +kernel
theorem dL_law_369 : decode cL_law 369 = .ok (.iadd, 1) := by decide +kernel
theorem dL_law_370 : decode cL_law 370 = .ok (.iaload, 1) := by decide +kernel
theorem dL_law_371 : decode cL_law 371 = .ok (.invokevirtual 59, 3) := by decide +kernel
theorem dL_law_374 : decode cL_law 374 = .ok (.if_icmp .eq 249, 3) := by decide +kernel
theorem dL_law_377 : decode cL_law 377 = .ok (.iconst 0, 1) := by decide +kernel
theorem dL_law_378 : decode cL_law 378 = .ok (.ireturn, 1) := by decide +kernel
theorem dL_law_379 : decode cL_law 379 = .ok (.aload_n 1, 1) := by decide +kernel
theorem dL_law_380 : decode cL_law 380 = .ok (.aload_n 0, 1) := by decide +kernel
theorem dL_law_381 : decode cL_law 381 = .ok (.iload_n 3, 1) := by decide +kernel
theorem dL_law_382 : decode cL_law 382 = .ok (.iconst 1, 1) := by decide +kernel
theorem dL_law_383 : decode cL_law 383 = .ok (.iadd, 1) := by decide +kernel
theorem dL_law_384 : decode cL_law 384 = .ok (.iaload, 1) := by decide +kernel
theorem dL_law_385 : decode cL_law 385 = .ok (.invokevirtual 60, 3) := by decide +kernel
theorem dL_law_388 : decode cL_law 388 = .ok (.aload_n 2, 1) := by decide +kernel
theorem dL_law_389 : decode cL_law 389 = .ok (.aload_n 0, 1) := by decide +kernel
theorem dL_law_390 : decode cL_law 390 = .ok (.iload_n 3, 1) := by decide +kernel
theorem dL_law_391 : decode cL_law 391 = .ok (.iconst 1, 1) := by decide +kernel
theorem dL_law_392 : decode cL_law 392 = .ok (.iadd, 1) := by decide +kernel
theorem dL_law_393 : decode cL_law 393 = .ok (.iaload, 1) := by decide +kernel
theorem dL_law_394 : decode cL_law 394 = .ok (.invokevirtual 63, 3) := by decide +kernel
theorem dL_law_397 : decode cL_law 397 = .ok (.if_icmp .eq 226, 3) := by decide +kernel
theorem dL_law_400 : decode cL_law 400 = .ok (.iconst 0, 1) := by decide +kernel
theorem dL_law_401 : decode cL_law 401 = .ok (.ireturn, 1) := by decide +kernel
theorem dL_law_402 : decode cL_law 402 = .ok (.aload_n 1, 1) := by decide +kernel
theorem dL_law_403 : decode cL_law 403 = .ok (.aload_n 0, 1) := by decide +kernel
theorem dL_law_404 : decode cL_law 404 = .ok (.iload_n 3, 1) := by decide +kernel
theorem dL_law_405 : decode cL_law 405 = .ok (.iconst 1, 1) := by decide +kernel
theorem dL_law_406 : decode cL_law 406 = .ok (.iadd, 1) := by decide +kernel
theorem dL_law_407 : decode cL_law 407 = .ok (.iaload, 1) := by decide +kernel
theorem dL_law_408 : decode cL_law 408 = .ok (.aload_n 0, 1) := by decide +kernel
theorem dL_law_409 : decode cL_law 409 = .ok (.iload_n 3, 1) := by decide +kernel
theorem dL_law_410 : decode cL_law 410 = .ok (.iconst 2, 1) := by decide +kernel
theorem dL_law_411 : decode cL_law 411 = .ok (.iadd, 1) := by decide +kernel
theorem dL_law_412 : decode cL_law 412 = .ok (.iaload, 1) := by decide +kernel
theorem dL_law_413 : decode cL_law 413 = .ok (.invokevirtual 64, 3) := by decide +kernel
theorem dL_law_416 : decode cL_law 416 = .ok (.aload_n 2, 1) := by decide +kernel
theorem dL_law_417 : decode cL_law 417 = .ok (.aload_n 0, 1) := by decide +kernel
theorem dL_law_418 : decode cL_law 418 = .ok (.iload_n 3, 1) := by decide +kernel
theorem dL_law_419 : decode cL_law 419 = .ok (.iconst 1, 1) := by decide +kernel
theorem dL_law_420 : decode cL_law 420 = .ok (.iadd, 1) := by decide +kernel
theorem dL_law_421 : decode cL_law 421 = .ok (.iaload, 1) := by decide +kernel
theorem dL_law_422 : decode cL_law 422 = .ok (.aload_n 0, 1) := by decide +kernel
theorem dL_law_423 : decode cL_law 423 = .ok (.iload_n 3, 1) := by decide +kernel
theorem dL_law_424 : decode cL_law 424 = .ok (.iconst 2, 1) := by decide +kernel
theorem dL_law_425 : decode cL_law 425 = .ok (.iadd, 1) := by decide +kernel
theorem dL_law_426 : decode cL_law 426 = .ok (.iaload, 1) := by decide +kernel
theorem dL_law_427 : decode cL_law 427 = .ok (.invokevirtual 67, 3) := by decide +kernel
theorem dL_law_430 : decode cL_law 430 = .ok (.if_icmp .eq 193, 3) := by decide +kernel
theorem dL_law_433 : decode cL_law 433 = .ok (.iconst 0, 1) := by decide +kernel
theorem dL_law_434 : decode cL_law 434 = .ok (.ireturn, 1) := by decide +kernel
theorem dL_law_435 : decode cL_law 435 = .ok (.aload_n 1, 1) := by decide +kernel
theorem dL_law_436 : decode cL_law 436 = .ok (.aload_n 0, 1) := by decide +kernel
theorem dL_law_437 : decode cL_law 437 = .ok (.iload_n 3, 1) := by decide +kernel
theorem dL_law_438 : decode cL_law 438 = .ok (.iconst 1, 1) := by decide +kernel
theorem dL_law_439 : decode cL_law 439 = .ok (.iadd, 1) := by decide +kernel
theorem dL_law_440 : decode cL_law 440 = .ok (.iaload, 1) := by decide +kernel
theorem dL_law_441 : decode cL_law 441 = .ok (.aload_n 0, 1) := by decide +kernel
theorem dL_law_442 : decode cL_law 442 = .ok (.iload_n 3, 1) := by decide +kernel
theorem dL_law_443 : decode cL_law 443 = .ok (.iconst 2, 1) := by decide +kernel
theorem dL_law_444 : decode cL_law 444 = .ok (.iadd, 1) := by decide +kernel
theorem dL_law_445 : decode cL_law 445 = .ok (.iaload, 1) := by decide +kernel
theorem dL_law_446 : decode cL_law 446 = .ok (.invokevirtual 68, 3) := by decide +kernel
theorem dL_law_449 : decode cL_law 449 = .ok (.aload_n 2, 1) := by decide +kernel
theorem dL_law_450 : decode cL_law 450 = .ok (.aload_n 0, 1) := by decide +kernel
theorem dL_law_451 : decode cL_law 451 = .ok (.iload_n 3, 1) := by decide +kernel
theorem dL_law_452 : decode cL_law 452 = .ok (.iconst 1, 1) := by decide +kernel
theorem dL_law_453 : decode cL_law 453 = .ok (.iadd, 1) := by decide +kernel
theorem dL_law_454 : decode cL_law 454 = .ok (.iaload, 1) := by decide +kernel
theorem dL_law_455 : decode cL_law 455 = .ok (.aload_n 0, 1) := by decide +kernel
theorem dL_law_456 : decode cL_law 456 = .ok (.iload_n 3, 1) := by decide +kernel
theorem dL_law_457 : decode cL_law 457 = .ok (.iconst 2, 1) := by decide +kernel
theorem dL_law_458 : decode cL_law 458 = .ok (.iadd, 1) := by decide +kernel
theorem dL_law_459 : decode cL_law 459 = .ok (.iaload, 1) := by decide +kernel
theorem dL_law_460 : decode cL_law 460 = .ok (.invokevirtual 71, 3) := by decide +kernel
theorem dL_law_463 : decode cL_law 463 = .ok (.if_icmp .eq 160, 3) := by decide +kernel
theorem dL_law_466 : decode cL_law 466 = .ok (.iconst 0, 1) := by decide +kernel
theorem dL_law_467 : decode cL_law 467 = .ok (.ireturn, 1) := by decide +kernel
theorem dL_law_468 : decode cL_law 468 = .ok (.aload_n 1, 1) := by decide +kernel
theorem dL_law_469 : decode cL_law 469 = .ok (.aload_n 0, 1) := by decide +kernel
theorem dL_law_470 : decode cL_law 470 = .ok (.iload_n 3, 1) := by decide +kernel
theorem dL_law_471 : decode cL_law 471 = .ok (.iconst 1, 1) := by decide +kernel
theorem dL_law_472 : decode cL_law 472 = .ok (.iadd, 1) := by decide +kernel
theorem dL_law_473 : decode cL_law 473 = .ok (.iaload, 1) := by decide +kernel
theorem dL_law_474 : decode cL_law 474 = .ok (.invokevirtual 72, 3) := by decide +kernel
theorem dL_law_477 : decode cL_law 477 = .ok (.aload_n 2, 1) := by decide +kernel
theorem dL_law_478 : decode cL_law 478 = .ok (.aload_n 0, 1) := by decide +kernel
theorem dL_law_479 : decode cL_law 479 = .ok (.iload_n 3, 1) := by decide +kernel
theorem dL_law_480 : decode cL_law 480 = .ok (.iconst 1, 1) := by decide +kernel
theorem dL_law_481 : decode cL_law 481 = .ok (.iadd, 1) := by decide +kernel
theorem dL_law_482 : decode cL_law 482 = .ok (.iaload, 1) := by decide +kernel
theorem dL_law_483 : decode cL_law 483 = .ok (.invokevirtual 75, 3) := by decide +kernel
theorem dL_law_486 : decode cL_law 486 = .ok (.if_icmp .eq 137, 3) := by decide +kernel
theorem dL_law_489 : decode cL_law 489 = .ok (.iconst 0, 1) := by decide +kernel
theorem dL_law_490 : decode cL_law 490 = .ok (.ireturn, 1) := by decide +kernel
theorem dL_law_491 : decode cL_law 491 = .ok (.aload_n 1, 1) := by decide +kernel
theorem dL_law_492 : decode cL_law 492 = .ok (.aload_n 0, 1) := by decide +kernel
theorem dL_law_493 : decode cL_law 493 = .ok (.iload_n 3, 1) := by decide +kernel
theorem dL_law_494 : decode cL_law 494 = .ok (.iconst 1, 1) := by decide +kernel
theorem dL_law_495 : decode cL_law 495 = .ok (.iadd, 1) := by decide +kernel
theorem dL_law_496 : decode cL_law 496 = .ok (.iaload, 1) := by decide +kernel
theorem dL_law_497 : decode cL_law 497 = .ok (.invokevirtual 76, 3) := by decide +kernel
theorem dL_law_500 : decode cL_law 500 = .ok (.aload_n 2, 1) := by decide +kernel
theorem dL_law_501 : decode cL_law 501 = .ok (.aload_n 0, 1) := by decide +kernel
theorem dL_law_502 : decode cL_law 502 = .ok (.iload_n 3, 1) := by decide +kernel
theorem dL_law_503 : decode cL_law 503 = .ok (.iconst 1, 1) := by decide +kernel
theorem dL_law_504 : decode cL_law 504 = .ok (.iadd, 1) := by decide +kernel
theorem dL_law_505 : decode cL_law 505 = .ok (.iaload, 1) := by decide +kernel
theorem dL_law_506 : decode cL_law 506 = .ok (.invokevirtual 79, 3) := by decide +kernel
theorem dL_law_509 : decode cL_law 509 = .ok (.if_icmp .eq 114, 3) := by decide +kernel
theorem dL_law_512 : decode cL_law 512 = .ok (.iconst 0, 1) := by decide +kernel
theorem dL_law_513 : decode cL_law 513 = .ok (.ireturn, 1) := by decide +kernel
theorem dL_law_514 : decode cL_law 514 = .ok (.aload_n 1, 1) := by decide +kernel
theorem dL_law_515 : decode cL_law 515 = .ok (.invokevirtual 80, 3) := by decide +kernel
theorem dL_law_518 : decode cL_law 518 = .ok (.aload_n 2, 1) := by decide +kernel
theorem dL_law_519 : decode cL_law 519 = .ok (.invokevirtual 83, 3) := by decide +kernel
theorem dL_law_522 : decode cL_law 522 = .ok (.if_icmp .eq 101, 3) := by decide +kernel
theorem dL_law_525 : decode cL_law 525 = .ok (.iconst 0, 1) := by decide +kernel
theorem dL_law_526 : decode cL_law 526 = .ok (.ireturn, 1) := by decide +kernel
theorem dL_law_527 : decode cL_law 527 = .ok (.aload_n 1, 1) := by decide +kernel
theorem dL_law_528 : decode cL_law 528 = .ok (.aload_n 0, 1) := by decide +kernel
theorem dL_law_529 : decode cL_law 529 = .ok (.iload_n 3, 1) := by decide +kernel
theorem dL_law_530 : decode cL_law 530 = .ok (.iconst 1, 1) := by decide +kernel
theorem dL_law_531 : decode cL_law 531 = .ok (.iadd, 1) := by decide +kernel
theorem dL_law_532 : decode cL_law 532 = .ok (.iaload, 1) := by decide +kernel
theorem dL_law_533 : decode cL_law 533 = .ok (.invokevirtual 84, 3) := by decide +kernel
theorem dL_law_536 : decode cL_law 536 = .ok (.aload_n 2, 1) := by decide +kernel
theorem dL_law_537 : decode cL_law 537 = .ok (.aload_n 0, 1) := by decide +kernel
theorem dL_law_538 : decode cL_law 538 = .ok (.iload_n 3, 1) := by decide +kernel
theorem dL_law_539 : decode cL_law 539 = .ok (.iconst 1, 1) := by decide +kernel
theorem dL_law_540 : decode cL_law 540 = .ok (.iadd, 1) := by decide +kernel
theorem dL_law_541 : decode cL_law 541 = .ok (.iaload, 1) := by decide +kernel
theorem dL_law_542 : decode cL_law 542 = .ok (.invokevirtual 87, 3) := by decide +kernel
theorem dL_law_545 : decode cL_law 545 = .ok (.if_icmp .eq 78, 3) := by decide +kernel
theorem dL_law_548 : decode cL_law 548 = .ok (.iconst 0, 1) := by decide +kernel
theorem dL_law_549 : decode cL_law 549 = .ok (.ireturn, 1) := by decide +kernel
theorem dL_law_550 : decode cL_law 550 = .ok (.aload_n 1, 1) := by decide +kernel
theorem dL_law_551 : decode cL_law 551 = .ok (.aload_n 0, 1) := by decide +kernel
theorem dL_law_552 : decode cL_law 552 = .ok (.iload_n 3, 1) := by decide +kernel
theorem dL_law_553 : decode cL_law 553 = .ok (.iconst 1, 1) := by decide +kernel
theorem dL_law_554 : decode cL_law 554 = .ok (.iadd, 1) := by decide +kernel
theorem dL_law_555 : decode cL_law 555 = .ok (.iaload, 1) := by decide +kernel
theorem dL_law_556 : decode cL_law 556 = .ok (.invokevirtual 88, 3) := by decide +kernel
theorem dL_law_559 : decode cL_law 559 = .ok (.aload_n 2, 1) := by decide +kernel
theorem dL_law_560 : decode cL_law 560 = .ok (.aload_n 0, 1) := by decide +kernel
theorem dL_law_561 : decode cL_law 561 = .ok (.iload_n 3, 1) := by decide +kernel
theorem dL_law_562 : decode cL_law 562 = .ok (.iconst 1, 1) := by decide +kernel
theorem dL_law_563 : decode cL_law 563 = .ok (.iadd, 1) := by decide +kernel
theorem dL_law_564 : decode cL_law 564 = .ok (.iaload, 1) := by decide +kernel
theorem dL_law_565 : decode cL_law 565 = .ok (.invokevirtual 91, 3) := by decide +kernel
theorem dL_law_568 : decode cL_law 568 = .ok (.if_icmp .eq 55, 3) := by decide +kernel
theorem dL_law_571 : decode cL_law 571 = .ok (.iconst 0, 1) := by decide +kernel
theorem dL_law_572 : decode cL_law 572 = .ok (.ireturn, 1) := by decide +kernel
theorem dL_law_573 : decode cL_law 573 = .ok (.aload_n 1, 1) := by decide +kernel
theorem dL_law_574 : decode cL_law 574 = .ok (.invokevirtual 92, 3) := by decide +kernel
theorem dL_law_577 : decode cL_law 577 = .ok (.aload_n 2, 1) := by decide +kernel
theorem dL_law_578 : decode cL_law 578 = .ok (.invokevirtual 95, 3) := by decide +kernel
theorem dL_law_581 : decode cL_law 581 = .ok (.if_icmp .eq 42, 3) := by decide +kernel
theorem dL_law_584 : decode cL_law 584 = .ok (.iconst 0, 1) := by decide +kernel
theorem dL_law_585 : decode cL_law 585 = .ok (.ireturn, 1) := by decide +kernel
theorem dL_law_586 : decode cL_law 586 = .ok (.aload_n 1, 1) := by decide +kernel
theorem dL_law_587 : decode cL_law 587 = .ok (.aload_n 0, 1) := by decide +kernel
theorem dL_law_588 : decode cL_law 588 = .ok (.iload_n 3, 1) := by decide +kernel
theorem dL_law_589 : decode cL_law 589 = .ok (.iconst 1, 1) := by decide +kernel
theorem dL_law_590 : decode cL_law 590 = .ok (.iadd, 1) := by decide +kernel
theorem dL_law_591 : decode cL_law 591 = .ok (.iaload, 1) := by decide +kernel
theorem dL_law_592 : decode cL_law 592 = .ok (.invokevirtual 96, 3) := by decide +kernel
theorem dL_law_595 : decode cL_law 595 = .ok (.aload_n 2, 1) := by decide +kernel
theorem dL_law_596 : decode cL_law 596 = .ok (.aload_n 0, 1) := by decide +kernel
theorem dL_law_597 : decode cL_law 597 = .ok (.iload_n 3, 1) := by decide +kernel
theorem dL_law_598 : decode cL_law 598 = .ok (.iconst 1, 1) := by decide +kernel
theorem dL_law_599 : decode cL_law 599 = .ok (.iadd, 1) := by decide +kernel
theorem dL_law_600 : decode cL_law 600 = .ok (.iaload, 1) := by decide +kernel
theorem dL_law_601 : decode cL_law 601 = .ok (.invokevirtual 99, 3) := by decide +kernel
theorem dL_law_604 : decode cL_law 604 = .ok (.if_icmp .eq 19, 3) := by decide +kernel
theorem dL_law_607 : decode cL_law 607 = .ok (.iconst 0, 1) := by decide +kernel
theorem dL_law_608 : decode cL_law 608 = .ok (.ireturn, 1) := by decide +kernel
theorem dL_law_609 : decode cL_law 609 = .ok (.aload_n 1, 1) := by decide +kernel
theorem dL_law_610 : decode cL_law 610 = .ok (.invokevirtual 100, 3) := by decide +kernel
theorem dL_law_613 : decode cL_law 613 = .ok (.aload_n 2, 1) := by decide +kernel
theorem dL_law_614 : decode cL_law 614 = .ok (.invokevirtual 104, 3) := by decide +kernel
theorem dL_law_617 : decode cL_law 617 = .ok (.lcmp, 1) := by decide +kernel
theorem dL_law_618 : decode cL_law 618 = .ok (.ifCond .eq 5, 3) := by decide +kernel
theorem dL_law_621 : decode cL_law 621 = .ok (.iconst 0, 1) := by decide +kernel
theorem dL_law_622 : decode cL_law 622 = .ok (.ireturn, 1) := by decide +kernel
theorem dL_law_623 : decode cL_law 623 = .ok (.iinc 3 3, 3) := by decide +kernel
theorem dL_law_626 : decode cL_law 626 = .ok (.goto (-608), 3) := by decide +kernel
theorem dL_law_629 : decode cL_law 629 = .ok (.iconst 1, 1) := by decide +kernel
theorem dL_law_630 : decode cL_law 630 = .ok (.ireturn, 1) := by decide +kernel
end
section
def fd : Nat → List Nat := fun ci => match ci with
  | 0 => [1, 1, 1, 2, 2, 2, 1, 100, 100, 100, 101]
  | 1 => [5, 100]
  | 2 => [1, 1, 100, 100, 100]
  | 3 => [14, 14]
  | 4 => [12, 12, 1, 2, 100]
  | 5 => [1, 100]
  | 6 => [1]
  | 7 => [4, 14, 100]
  | 8 => [1, 1, 100]
  | 9 => [14, 1, 100, 100]
  | 10 => [13, 7, 8, 11, 6, 10, 15, 14, 1, 101, 101, 100, 100, 100, 100]
  | 11 => [1, 1, 1, 100, 1, 1, 100, 100, 1, 100, 1, 100, 1, 2, 2, 2, 1, 1, 100, 3, 3, 1, 100, 1, 100, 1, 1, 1, 100, 100, 100, 102]
  | _ => []
def kdCl : List Nat := [16, 13, 4, 14, 1, 1, 9, 14, 1, 1, 14, 1, 1, 9, 14, 1, 1, 14, 1, 1, 9, 14, 1, 1, 14, 1, 1, 9, 14, 1, 1, 14, 1, 1, 9, 14, 1, 1, 14, 1, 1, 7, 5, 13, 4, 14, 1, 1, 9, 14, 1, 1, 14, 1, 1, 9, 14, 1, 1, 14, 1, 1, 9, 14, 1, 1, 14, 1, 1, 9, 14, 1, 1, 14, 1, 1, 9, 14, 1, 1, 14, 1, 1, 13, 4, 14, 1, 1, 9, 14, 1, 1, 14, 1, 1, 9, 14, 1, 1, 14, 1, 1, 9, 14, 1, 1, 14, 1, 1, 9, 14, 1, 1, 14, 1, 1, 9, 14, 1, 1, 14, 1, 1, 13, 4, 14, 1, 1, 9, 14, 1, 1, 14, 1, 1, 9, 14, 1, 1, 14, 1, 1, 9, 14, 1, 1, 14, 1, 1, 9, 14, 1, 1, 14, 1, 1, 9, 14, 1, 1, 14, 1, 1, 13, 4, 14, 1, 1, 9, 14, 1, 1, 14, 1, 1, 9, 14, 1, 1, 14, 1, 1, 9, 14, 1, 1, 14, 1, 1, 9, 14, 1, 1, 14, 1, 1, 9, 14, 1, 1, 14, 1, 1, 13, 4, 14, 1, 1, 9, 14, 1, 1, 14, 1, 1, 9, 14, 1, 1, 14, 1, 1, 9, 14, 1, 1, 14, 1, 1, 9, 14, 1, 1, 14, 1, 1, 9, 14, 1, 1, 14, 1, 1, 8, 1, 1, 11, 1, 6, 1, 1, 1, 2, 2, 2, 1, 10, 12, 1, 12, 1, 1, 2, 15, 14, 1, 1, 1, 14, 1, 1, 1]
def lnCl : List Nat := [0, 0, 5, 0, 60, 60, 0, 0, 12, 12, 0, 12, 12, 0, 0, 12, 12, 0, 12, 12, 0, 0, 12, 12, 0, 12, 12, 0, 0, 12, 12, 0, 12, 12, 0, 0, 12, 12, 0, 12, 12, 0, 5, 0, 5, 0, 60, 60, 0, 0, 12, 12, 0, 12, 12, 0, 0, 12, 12, 0, 12, 12, 0, 0, 12, 12, 0, 12, 12, 0, 0, 12, 12, 0, 12, 12, 0, 0, 12, 12, 0, 12, 12, 0, 5, 0, 60, 60, 0, 0, 12, 12, 0, 12, 12, 0, 0, 12, 12, 0, 12, 12, 0, 0, 12, 12, 0, 12, 12, 0, 0, 12, 12, 0, 12, 12, 0, 0, 12, 12, 0, 12, 12, 0, 5, 0, 60, 60, 0, 0, 12, 12, 0, 12, 12, 0, 0, 12, 12, 0, 12, 12, 0, 0, 12, 12, 0, 12, 12, 0, 0, 12, 12, 0, 12, 12, 0, 0, 12, 12, 0, 12, 12, 0, 5, 0, 60, 60, 0, 0, 12, 12, 0, 12, 12, 0, 0, 12, 12, 0, 12, 12, 0, 0, 12, 12, 0, 12, 12, 0, 0, 12, 12, 0, 12, 12, 0, 0, 12, 12, 0, 12, 12, 0, 5, 0, 60, 60, 0, 0, 12, 12, 0, 12, 12, 0, 0, 12, 12, 0, 12, 12, 0, 0, 12, 12, 0, 12, 12, 0, 0, 12, 12, 0, 12, 12, 0, 0, 12, 12, 0, 12, 12, 0, 120, 60, 0, 97, 0, 60, 60, 60, 60, 60, 5, 60, 0, 0, 72, 0, 72, 325, 60, 0, 0, 60, 60, 3, 0, 60, 60, 7]
def kdC (a : Nat) : Nat := kdCl.getD a 0
def lnC (a : Nat) : Nat := lnCl.getD a 0
def kdMl : List Nat := [17, 1, 1, 1, 1, 1, 1, 1, 1, 2, 2, 2, 1, 1, 3, 3, 1, 1, 1, 1, 1]
def lnMl : List Nat := [0, 192, 192, 960, 3, 120, 300, 100, 7, 64, 64, 64, 60, 60, 3600, 3600, 60, 200, 200, 2, 2]
def kdM (a : Nat) : Nat := kdMl.getD a 0
def lnM (a : Nat) : Nat := lnMl.getD a 0
theorem kdC_len : kdCl.length = 272 := by decide +kernel
theorem kdC_lt {a t : Nat} (h : kdC a = t) (ht : t ≠ 0) : a < 272 := Nat.not_le.mp fun q => ht (by rw [← h]; unfold kdC; rw [List.getD_eq_getElem?_getD, List.getElem?_eq_none (by rw [kdC_len]; exact q)]; rfl)
theorem kdM_len : kdMl.length = 21 := by decide +kernel
theorem kdM_lt {a t : Nat} (h : kdM a = t) (ht : t ≠ 0) : a < 21 := Nat.not_le.mp fun q => ht (by rw [← h]; unfold kdM; rw [List.getD_eq_getElem?_getD, List.getElem?_eq_none (by rw [kdM_len]; exact q)]; rfl)
def nestL : List Cond := [Cond.methodLinkNest "FallingRules$State" 26 ⟨"FallingRules$Rule", "<init>", "()V"⟩ "FallingRules", Cond.methodLinkNest "FallingRules" 25 ⟨"FallingRules$Reader", "<init>", "()V"⟩ "FallingRules", Cond.methodLinkNest "FallingRules" 32 ⟨"FallingRules$Script", "<init>", "()V"⟩ "FallingRules", Cond.methodLinkNest "FallingRules" 39 ⟨"FallingRules$CallBook", "<init>", "()V"⟩ "FallingRules", Cond.methodLinkNest "FallingRules" 46 ⟨"FallingRules$Scales", "<init>", "()V"⟩ "FallingRules", Cond.methodLinkNest "FallingRules$Scales" 11 ⟨"FallingRules$Shares", "<init>", "()V"⟩ "FallingRules", Cond.methodLinkNest "FallingRules" 53 ⟨"FallingRules$Turner", "<init>", "()V"⟩ "FallingRules", Cond.methodLinkNest "FallingRules$Term" 33 ⟨"FallingRules", "partsBehind", "(I)I"⟩ "FallingRules", Cond.methodLinkNest "FallingRules$Reader" 91 ⟨"FallingRules", "slotOf", "(I)I"⟩ "FallingRules", Cond.methodLinkNest "FallingRules$Reader" 94 ⟨"FallingRules", "unknownBit", "(I)I"⟩ "FallingRules", Cond.methodLinkNest "FallingRules$Reader" 77 ⟨"FallingRules", "partsBehind", "(I)I"⟩ "FallingRules", Cond.methodLinkNest "FallingRules$Term" 48 ⟨"FallingRules", "unknownBit", "(I)I"⟩ "FallingRules", Cond.methodLinkNest "FallingRules$CallBook" 97 ⟨"FallingRules", "isUnknown", "(I)Z"⟩ "FallingRules", Cond.methodLinkNest "FallingRules$CallBook" 100 ⟨"FallingRules", "hasBit", "(JI)Z"⟩ "FallingRules", Cond.methodLinkNest "FallingRules$Script" 42 ⟨"FallingRules", "partsBehind", "(I)I"⟩ "FallingRules", Cond.methodLinkNest "FallingRules$Shares" 24 ⟨"FallingRules", "slotOf", "(I)I"⟩ "FallingRules", Cond.methodLinkNest "FallingRules$Scales" 60 ⟨"FallingRules", "slotOf", "(I)I"⟩ "FallingRules", Cond.methodLinkNest "FallingRules$Turner" 74 ⟨"FallingRules", "unknownBit", "(I)I"⟩ "FallingRules", Cond.methodLinkNest "FallingRules$Turner" 92 ⟨"FallingRules", "isUnknown", "(I)Z"⟩ "FallingRules"]
theorem nest_on : ∀ w ∈ nestL, w.onTables = true := by decide +kernel
theorem nest_form : ∀ w ∈ nestL, ∃ (a : String) (i : Nat) (x : MethodName) (h : String), w = .methodLinkNest a i x h := by
  intro w hw
  simp only [nestL, List.mem_cons, List.not_mem_nil, or_false] at hw
  rcases hw with rfl | rfl | rfl | rfl | rfl | rfl | rfl | rfl | rfl | rfl | rfl | rfl | rfl | rfl | rfl | rfl | rfl | rfl | rfl <;> exact ⟨_, _, _, _, rfl⟩
theorem nest_in : ∀ w ∈ nestL, w ∈ lw_tbl := by
  intro w hw
  have hp : nestL = ([151, 216, 240, 255, 307, 313, 340, 375, 464, 467, 471, 489, 583, 590, 623, 644, 689, 748, 763] : List Nat).filterMap (fun i => lw_tbl[i]?) := by decide +kernel
  rw [hp] at hw
  obtain ⟨i, -, hi⟩ := List.mem_filterMap.mp hw
  exact List.mem_of_getElem? hi
/-! ===== the memory in plain words: ints, longs, references, each by (cell, place); the shape of the cells (kind, length) stays ===== -/
abbrev mI : Type := Nat → Nat → Int32
abbrev mL : Type := Nat → Nat → Int64
abbrev mR : Type := Nat → Nat → Nat
def NUL : Nat := 1000000
def rv (b r : Nat) : Option Nat := if r = NUL then none else some (b + r)
def u2 {α : Type} (f : Nat → Nat → α) (a k : Nat) (v : α) : Nat → Nat → α := va_up f a (va_up (f a) k v)
def inb (i : Int32) (n : Nat) : Bool := !(decide (i < 0)) && decide (i.toNatClampNeg < n)
def cpok (sp dp n : Int32) (n0 n1 : Nat) : Bool := !(decide (sp < 0)) && !(decide (dp < 0)) && !(decide (n < 0)) && decide (sp.toNatClampNeg + n.toNatClampNeg ≤ n0) && decide (dp.toNatClampNeg + n.toNatClampNeg ≤ n1)
def zb (v : Int32) : Bool := decide (v = 0) || decide (v = 1)
def bnd {α β : Type} (a : α) (f : α → β) : β := f a
def FU : Nat := 100000
theorem inb_in {i : Int32} {n : Nat} (h : inb i n = true) : vp_in i n := by
  unfold inb at h
  simp only [Bool.and_eq_true, Bool.not_eq_true', decide_eq_false_iff_not, decide_eq_true_eq] at h
  intro q
  rcases q with q | q
  · exact h.1 q
  · omega
theorem grd {α : Type} {c : Bool} {x : Option α} {o : α} (h : (if c = true then x else none) = some o) : c = true ∧ x = some o := by
  cases c
  · simp at h
  · exact ⟨rfl, by simpa using h⟩
theorem ifT {α : Type} {c : Prop} {dc : Decidable c} {x y o : α} (h : (if c then x else y) = o) (hc : c) : x = o := by rw [if_pos hc] at h; exact h
theorem ifF {α : Type} {c : Prop} {dc : Decidable c} {x y o : α} (h : (if c then x else y) = o) (hc : ¬ c) : y = o := by rw [if_neg hc] at h; exact h
theorem bndo {α β : Type} {x : Option α} {f : α → Option β} {o : β} (h : Option.bind x f = some o) : ∃ r, x = some r ∧ f r = some o := by
  cases x with
  | none => cases h
  | some r => exact ⟨r, rfl, h⟩
theorem jnE {α β : Type} {f : α} {g : α → Option β} {o : β} {P : Prop} (h : bnd f g = some o) (k : ∀ j, j = f → g j = some o → P) : P := k f rfl h
theorem va_up_s {α : Type} (f : Nat → α) (k : Nat) (v : α) : va_up f k v k = v := by simp [va_up]
theorem va_up_n {α : Type} (f : Nat → α) {k j : Nat} (v : α) (h : j ≠ k) : va_up f k v j = f j := by simp [va_up, h]
theorem u2_s {α : Type} (f : Nat → Nat → α) (a k : Nat) (v : α) : u2 f a k v a = va_up (f a) k v := va_up_s _ _ _
theorem u2_n {α : Type} (f : Nat → Nat → α) {a c : Nat} (k : Nat) (v : α) (h : c ≠ a) : u2 f a k v c = f c := va_up_n _ _ h
def fv (b : Nat) (I : mI) (L : mL) (R : mR) (a j t : Nat) : Value := if t = 100 then .int (I a j) else if t = 101 then .int (I a j) else if t = 102 then .long (L a j) else va_rf (rv b (R a j))
def fvs (b : Nat) (I : mI) (L : mL) (R : mR) (a : Nat) : Nat → List Nat → List Value
  | _, [] => []
  | j, t :: ts => fv b I L R a j t :: fvs b I L R a (j + 1) ts
theorem fvs_get (b : Nat) (I : mI) (L : mL) (R : mR) (a : Nat) : ∀ (ts : List Nat) (j k : Nat), (fvs b I L R a j ts)[k]? = ts[k]?.map (fun t => fv b I L R a (j + k) t)
  | [], j, k => by simp [fvs]
  | t :: ts, j, 0 => by simp [fvs]
  | t :: ts, j, k + 1 => by
    simp only [fvs, List.getElem?_cons_succ]
    rw [fvs_get b I L R a ts (j + 1) k, show j + 1 + k = j + (k + 1) by omega]
theorem fvs_len (b : Nat) (I : mI) (L : mL) (R : mR) (a : Nat) : ∀ (ts : List Nat) (j : Nat), (fvs b I L R a j ts).length = ts.length
  | [], j => rfl
  | t :: ts, j => by simp [fvs, fvs_len b I L R a ts (j + 1)]
theorem fvs_congr {b : Nat} {I I' : mI} {L L' : mL} {R R' : mR} {a : Nat} (hI : I a = I' a) (hL : L a = L' a) (hR : R a = R' a) (ts : List Nat) (j : Nat) : fvs b I L R a j ts = fvs b I' L' R' a j ts := by
  apply List.ext_getElem?
  intro k
  rw [fvs_get, fvs_get]
  cases ts[k]? with
  | none => rfl
  | some t => simp [fv, hI, hL, hR]
def en (ce : Nat → ClassId) (b : Nat) (kd ln : Nat → Nat) (I : mI) (L : mL) (R : mR) (a : Nat) : va_E :=
  if kd a = 1 then .inl (ce 0, ln a, .inl (I a))
  else if kd a = 2 then .inl (ce 1, ln a, .inr (.inl (L a)))
  else if kd a = 3 then .inl (ce 2, ln a, .inl (I a))
  else if kd a = 4 then .inl (ce 3, ln a, .inr (.inr (.inr (.inr (fun j => rv b (R a j))))))
  else if kd a = 5 then .inl (ce 4, ln a, .inr (.inr (.inr (.inr (fun j => rv b (R a j))))))
  else .inr (kd a - 6, fvs b I L R a 0 (fd (kd a - 6)))
section EN
variable {ce : Nat → ClassId} {b : Nat} {kd ln : Nat → Nat} {I I' : mI} {L L' : mL} {R R' : mR} {a : Nat}
theorem en_1 (h : kd a = 1) : en ce b kd ln I L R a = .inl (ce 0, ln a, .inl (I a)) := by simp [en, h]
theorem en_2 (h : kd a = 2) : en ce b kd ln I L R a = .inl (ce 1, ln a, .inr (.inl (L a))) := by simp [en, h]
theorem en_3 (h : kd a = 3) : en ce b kd ln I L R a = .inl (ce 2, ln a, .inl (I a)) := by simp [en, h]
theorem en_4 (h : kd a = 4) : en ce b kd ln I L R a = .inl (ce 3, ln a, .inr (.inr (.inr (.inr (fun j => rv b (R a j)))))) := by simp [en, h]
theorem en_5 (h : kd a = 5) : en ce b kd ln I L R a = .inl (ce 4, ln a, .inr (.inr (.inr (.inr (fun j => rv b (R a j)))))) := by simp [en, h]
theorem en_o {ci : Nat} (h : kd a = ci + 6) : en ce b kd ln I L R a = .inr (ci, fvs b I L R a 0 (fd ci)) := by
  unfold en
  rw [h, if_neg (by omega), if_neg (by omega), if_neg (by omega), if_neg (by omega), if_neg (by omega), show ci + 6 - 6 = ci by omega]
theorem en_congr (hI : I a = I' a) (hL : L a = L' a) (hR : R a = R' a) : en ce b kd ln I L R a = en ce b kd ln I' L' R' a := by
  unfold en
  rw [fvs_congr hI hL hR, hI, hL, hR]
def wd (ce : Nat → ClassId) (b : Nat) (kd ln : Nat → Nat) (n : Nat) (I : mI) (L : mL) (R : mR) : va_W := (List.range n).map (fun a => (b + a, en ce b kd ln I L R a))
theorem wd_at {n : Nat} (h : a < n) : (wd ce b kd ln n I L R)[a]? = some (b + a, en ce b kd ln I L R a) := by simp [wd, h]
theorem wd_set {n : Nat} {x : va_E} (h : a < n) (ho : ∀ j, j ≠ a → I' j = I j ∧ L' j = L j ∧ R' j = R j) (he : en ce b kd ln I' L' R' a = x) : (wd ce b kd ln n I L R).set a (b + a, x) = wd ce b kd ln n I' L' R' := by
  apply List.ext_getElem?
  intro j
  by_cases hj : j = a
  · subst hj
    rw [List.getElem?_set_self (by simpa [wd] using h), wd_at h, he]
  · rw [List.getElem?_set_ne (Ne.symm hj)]
    by_cases hn : j < n
    · obtain ⟨h1, h2, h3⟩ := ho j hj
      rw [wd_at hn, wd_at hn, en_congr h1 h2 h3]
    · simp [wd, hn]
def box (b n : Nat) : Nat → Prop := fun q => b ≤ q ∧ q < b + n
theorem wd_D {n : Nat} {A : Nat → Prop} (hA : ∀ q, box b n q → A q) : va_D A (wd ce b kd ln n I L R) := by
  have key : ∀ (k : Nat) (q : Nat × va_E), (wd ce b kd ln n I L R)[k]? = some q → k < n ∧ q.1 = b + k := by
    intro k q hq
    by_cases hn : k < n
    · rw [wd_at hn] at hq
      cases hq
      exact ⟨hn, rfl⟩
    · simp [wd, hn] at hq
  refine ⟨fun i j x y hi hj hxy => ?_, fun k q hk => ?_⟩
  · have h1 := (key i x hi).2
    have h2 := (key j y hj).2
    omega
  · obtain ⟨h1, h2⟩ := key k q hk
    exact hA _ ⟨by omega, by omega⟩
end EN
abbrev tyA (ce : Nat → ClassId) : List (ClassId × FieldType) := [(ce 0, .int), (ce 1, .long), (ce 2, .boolean), (ce 3, .object "FallingRules$Rule"), (ce 4, .object "FallingRules$State")]
/-- which kind a reference at a place of a cell of a kind has -/
def ft (K k : Nat) : Option Nat := if K = 4 then some 9 else if K = 5 then some 13 else if K < 6 then none else match (fd (K - 6))[k]? with
  | some t => if t < 100 then some t else none
  | none => none
def WT (kd : Nat → Nat) (R : mR) : Prop := ∀ a k t, ft (kd a) k = some t → kd (R a k) = t
theorem wt {kd : Nat → Nat} {R : mR} {a k c t : Nat} (hT : WT kd R) (ha : kd a = c) (h : ft c k = some t) : kd (R a k) = t := hT a k t (by rw [ha]; exact h)
theorem WT.up {kd : Nat → Nat} {R : mR} {a k v t : Nat} (hT : WT kd R) (h : ∀ j, ft (kd a) j = some t) (hv : kd v = t) : WT kd (u2 R a k v) := by
  intro a' k' t' h'
  by_cases ha : a' = a
  · subst ha
    rw [u2_s]
    by_cases hk : k' = k
    · subst hk
      rw [va_up_s, hv]
      exact Option.some.inj ((h k').symm.trans h')
    · rw [va_up_n _ _ hk]
      exact hT _ _ _ h'
  · rw [u2_n _ _ _ ha]
    exact hT _ _ _ h'
theorem nnul {kd : Nat → Nat} (h0 : kd NUL = 0) {r t : Nat} (h : kd r = t) (ht : t ≠ 0) : r ≠ NUL := fun q => ht (by rw [← h, q, h0])
/-- nest mates' links, and the classes: what a method's start says of the tables -/
def NW (U : State) : Prop := ∀ w ∈ nestL, va_Nw w U
def KK (D : va_G) (ce : Nat → ClassId) (U : State) : Prop := va_K D vwCl (tyA ce) U ∧ NW U
theorem NW.same {u U : State} (h : u.vm = U.vm) (hN : NW u) : NW U := fun w hw => va_Nw.same (nest_on w hw) h (hN w hw)
theorem NW.warm {s U : State} (hW : s.WarmedH U.vm) (hN : NW s) : NW U := fun w hw => by
  obtain ⟨a, i, x, h, rfl⟩ := nest_form w hw
  exact va_Nw.warmM hW (hN _ hw)
theorem KK.warm {D : va_G} {ce : Nat → ClassId} {s U : State} (hW : s.WarmedH U.vm) (h : KK D ce s) : KK D ce U := ⟨va_K.moved hW.alike h.1, NW.warm hW h.2⟩
def PW (D : va_G) (ce : Nat → ClassId) (b : Nat) (kd ln : Nat → Nat) (n : Nat) (I : mI) (L : mL) (R : mR) (U : State) : Prop := va_P D vwCl (wd ce b kd ln n I L R) U.heap ∧ KK D ce U
def QW (D : va_G) (ce : Nat → ClassId) (b : Nat) (kd ln : Nat → Nat) (n : Nat) (u : mI × mL × mR) (t : State) : Prop := va_P D vwCl (wd ce b kd ln n u.1 u.2.1 u.2.2) t.heap ∧ WT kd u.2.2
theorem PW.blind {D : va_G} {ce : Nat → ClassId} {b : Nat} {kd ln : Nat → Nat} {n : Nat} {I : mI} {L : mL} {R : mR} {av : List Value} : FrameBlind (va_Pc av (PW D ce b kd ln n I L R)) := by
  intro a U g mk h
  obtain ⟨h1, h2, h3⟩ := h
  exact ⟨h1, h2, va_K.moved (u := U) (U := U.calling g mk a) (Vm.Alike.refl U.vm) h3.1, NW.same (u := U) (U := U.calling g mk a) rfl h3.2⟩

theorem fvs_setI {b : Nat} {I : mI} {L : mL} {R : mR} {a k t : Nat} {ts : List Nat} (v : Int32) (ht : ts[k]? = some t) (h : t = 100 ∨ t = 101) : fvs b (u2 I a k v) L R a 0 ts = (fvs b I L R a 0 ts).set k (.int v) := by
  apply List.ext_getElem?
  intro i
  by_cases hi : i = k
  · subst hi
    rw [List.getElem?_set_self (by rw [fvs_len]; exact (List.getElem?_eq_some_iff.mp ht).1), fvs_get, ht]
    rcases h with rfl | rfl <;> simp [fv, u2_s, va_up_s]
  · rw [List.getElem?_set_ne (Ne.symm hi), fvs_get, fvs_get]
    cases ts[i]? with
    | none => rfl
    | some t' => simp [fv, u2_s, va_up_n _ _ hi]
theorem fvs_setL {b : Nat} {I : mI} {L : mL} {R : mR} {a k : Nat} {ts : List Nat} (v : Int64) (ht : ts[k]? = some 102) : fvs b I (u2 L a k v) R a 0 ts = (fvs b I L R a 0 ts).set k (.long v) := by
  apply List.ext_getElem?
  intro i
  by_cases hi : i = k
  · subst hi
    rw [List.getElem?_set_self (by rw [fvs_len]; exact (List.getElem?_eq_some_iff.mp ht).1), fvs_get, ht]
    simp [fv, u2_s, va_up_s]
  · rw [List.getElem?_set_ne (Ne.symm hi), fvs_get, fvs_get]
    cases ts[i]? with
    | none => rfl
    | some t' => simp [fv, u2_s, va_up_n _ _ hi]
theorem fvs_setR {b : Nat} {I : mI} {L : mL} {R : mR} {a k t : Nat} {ts : List Nat} (v : Nat) (ht : ts[k]? = some t) (h : t < 100) (hv : v ≠ NUL) : fvs b I L (u2 R a k v) a 0 ts = (fvs b I L R a 0 ts).set k (.ref (b + v)) := by
  apply List.ext_getElem?
  intro i
  by_cases hi : i = k
  · subst hi
    rw [List.getElem?_set_self (by rw [fvs_len]; exact (List.getElem?_eq_some_iff.mp ht).1), fvs_get, ht]
    simp only [Option.map_some, fv, u2_s, va_up_s, Nat.zero_add]
    rw [if_neg (by omega), if_neg (by omega), if_neg (by omega)]
    simp [rv, hv, va_rf]
  · rw [List.getElem?_set_ne (Ne.symm hi), fvs_get, fvs_get]
    cases ts[i]? with
    | none => rfl
    | some t' => simp [fv, u2_s, va_up_n _ _ hi]
def FI (ci k t : Nat) (C : String) (T : u_T) (N : Nat) : Prop := (∀ w ∈ u_ws C T N, w ∈ GW) ∧ vwCl[ci]? = some (C, T, N) ∧ (fd ci)[k]? = some t ∧ k < N
def FWr (k : Nat) (T : u_T) (N : Nat) (ty0 : Nat → FieldType) (ty : FieldType) : Prop := (∀ k, k < N → parseFieldDescriptor (T k).2.2.1 = some (ty0 k)) ∧ (∀ a, a < N → ∀ b, b < N → a ≠ b → (T a).2.1 ≠ (T b).2.1) ∧ (T k).2.2.2 = false ∧ parseFieldDescriptor (T k).2.2.1 = some ty
section MM
variable {p : Program} {l : Launch} {e : Env} {Rm : Room} {s : State} {m : MethodId} {args : Array Value} {below : List Frame} {meth : Method} {c : Code} {H H0 : Heap} {locs : List Loc} {cells slots : Nat} {Q : State → Prop}
variable {cc : ByteArray} {pc : Nat} {ls : Array Slot} {rest : List Value} {D : va_G} {ce : Nat → ClassId} {b : Nat} {kd ln : Nat → Nat} {n : Nat} {I : mI} {L : mL} {R : mR} {A : Nat → Prop}
variable {own C : String} {T : u_T} {N ci k index a : Nat}
theorem mm_geti (hx : p.tables.exec = Jvm.exec) (hb : c.code = cc) (hts : ∀ w ∈ GW, w.before args s = true) (hown : s.vm.findClass own = some m.cls) (hKK : KK D ce s) (hP : va_P D vwCl (wd ce b kd ln n I L R) H) {t : Nat} (hF : FI ci k t C T N) (ht : t = 100 ∨ t = 101) (hl : Cond.fieldLink own index (T k).1 (T k).2.1 (T k).2.2.1 ∈ GW) (ha : a < n) (hk : kd a = ci + 6) (hdg : decode cc pc = .ok (.getfield index, 3))
    (kk : W p l e Rm s m args below meth c H locs cells slots Q (F0 m (pc + 3) ls (.int (I a k) :: rest))) : W p l e Rm s m args below meth c H locs cells slots Q (F0 m pc ls (.ref (b + a) :: rest)) :=
  va_get hx hb hts hF.1 hown hKK.1 hP a (fs := fvs b I L R a 0 (fd ci)) (by rw [wd_at ha, en_o hk]) hF.2.1 k hF.2.2.2 (hts _ hl) (fun _ h => h) (by rw [fvs_get, hF.2.2.1]; rcases ht with rfl | rfl <;> simp [fv]) hdg kk
theorem mm_getl (hx : p.tables.exec = Jvm.exec) (hb : c.code = cc) (hts : ∀ w ∈ GW, w.before args s = true) (hown : s.vm.findClass own = some m.cls) (hKK : KK D ce s) (hP : va_P D vwCl (wd ce b kd ln n I L R) H) (hF : FI ci k 102 C T N) (hl : Cond.fieldLink own index (T k).1 (T k).2.1 (T k).2.2.1 ∈ GW) (ha : a < n) (hk : kd a = ci + 6) (hdg : decode cc pc = .ok (.getfield index, 3))
    (kk : W p l e Rm s m args below meth c H locs cells slots Q (F0 m (pc + 3) ls (.long (L a k) :: rest))) : W p l e Rm s m args below meth c H locs cells slots Q (F0 m pc ls (.ref (b + a) :: rest)) :=
  va_get hx hb hts hF.1 hown hKK.1 hP a (fs := fvs b I L R a 0 (fd ci)) (by rw [wd_at ha, en_o hk]) hF.2.1 k hF.2.2.2 (hts _ hl) (fun _ h => h) (by rw [fvs_get, hF.2.2.1]; simp [fv]) hdg kk
theorem mm_getr (hx : p.tables.exec = Jvm.exec) (hb : c.code = cc) (hts : ∀ w ∈ GW, w.before args s = true) (hown : s.vm.findClass own = some m.cls) (hKK : KK D ce s) (hP : va_P D vwCl (wd ce b kd ln n I L R) H) {t : Nat} (hF : FI ci k t C T N) (ht : t < 100) (hl : Cond.fieldLink own index (T k).1 (T k).2.1 (T k).2.2.1 ∈ GW) (ha : a < n) (hk : kd a = ci + 6) (hnn : R a k ≠ NUL) (hdg : decode cc pc = .ok (.getfield index, 3))
    (kk : W p l e Rm s m args below meth c H locs cells slots Q (F0 m (pc + 3) ls (.ref (b + R a k) :: rest))) : W p l e Rm s m args below meth c H locs cells slots Q (F0 m pc ls (.ref (b + a) :: rest)) :=
  va_get hx hb hts hF.1 hown hKK.1 hP a (fs := fvs b I L R a 0 (fd ci)) (by rw [wd_at ha, en_o hk]) hF.2.1 k hF.2.2.2 (hts _ hl) (fun _ h => h) (by rw [fvs_get, hF.2.2.1]; simp only [Option.map_some, fv, Nat.zero_add]; rw [if_neg (by omega), if_neg (by omega), if_neg (by omega)]; simp [rv, hnn, va_rf]) hdg kk
theorem mm_puti (hx : p.tables.exec = Jvm.exec) (hb : c.code = cc) (hts : ∀ w ∈ GW, w.before args s = true) (hown : s.vm.findClass own = some m.cls) (hKK : KK D ce s) (hP : va_P D vwCl (wd ce b kd ln n I L R) H) (hA : ∀ q, box b n q → A q) (hS : va_S A H0 H locs) {t : Nat} (hF : FI ci k t C T N) (ht : t = 100 ∨ t = 101) {ty0 : Nat → FieldType} {ty : FieldType} (hw : FWr k T N ty0 ty) (hl : Cond.fieldLink own index (T k).1 (T k).2.1 (T k).2.2.1 ∈ GW) (ha : a < n) (hk : kd a = ci + 6) {v : Int32} (hn : narrow ty (.int v) = .int v) (hfit : fits ty (.int v) = true) (hdg : decode cc pc = .ok (.putfield index, 3))
    (kk : ∀ (H1 : Heap) (locs1 : List Loc), va_P D vwCl (wd ce b kd ln n (u2 I a k v) L R) H1 → va_S A H0 H1 locs1 → W p l e Rm s m args below meth c H1 locs1 cells slots Q (F0 m (pc + 3) ls rest)) : W p l e Rm s m args below meth c H locs cells slots Q (F0 m pc ls (.int v :: .ref (b + a) :: rest)) := by
  refine va_put hx hb hts hF.1 ty0 hw.1 hw.2.1 hown hKK.1 hP (wd_D hA) hS a (fs := fvs b I L R a 0 (fd ci)) (by rw [wd_at ha, en_o hk]) hF.2.1 k hF.2.2.2 (hts _ hl) (fun _ h => h) hw.2.2.1 hw.2.2.2 hn hfit (by rw [fvs_len]; exact (List.getElem?_eq_some_iff.mp hF.2.2.1).1) hdg (fun H1 locs1 hP1 hD1 hS1 => kk H1 locs1 ?_ hS1)
  rw [wd_set (I' := u2 I a k v) (L' := L) (R' := R) ha (fun j hj => ⟨u2_n _ _ _ hj, rfl, rfl⟩) (by rw [en_o hk, fvs_setI v hF.2.2.1 ht])] at hP1
  exact hP1
theorem mm_putl (hx : p.tables.exec = Jvm.exec) (hb : c.code = cc) (hts : ∀ w ∈ GW, w.before args s = true) (hown : s.vm.findClass own = some m.cls) (hKK : KK D ce s) (hP : va_P D vwCl (wd ce b kd ln n I L R) H) (hA : ∀ q, box b n q → A q) (hS : va_S A H0 H locs) (hF : FI ci k 102 C T N) {ty0 : Nat → FieldType} {ty : FieldType} (hw : FWr k T N ty0 ty) (hl : Cond.fieldLink own index (T k).1 (T k).2.1 (T k).2.2.1 ∈ GW) (ha : a < n) (hk : kd a = ci + 6) {v : Int64} (hn : narrow ty (.long v) = .long v) (hfit : fits ty (.long v) = true) (hdg : decode cc pc = .ok (.putfield index, 3))
    (kk : ∀ (H1 : Heap) (locs1 : List Loc), va_P D vwCl (wd ce b kd ln n I (u2 L a k v) R) H1 → va_S A H0 H1 locs1 → W p l e Rm s m args below meth c H1 locs1 cells slots Q (F0 m (pc + 3) ls rest)) : W p l e Rm s m args below meth c H locs cells slots Q (F0 m pc ls (.long v :: .ref (b + a) :: rest)) := by
  refine va_put hx hb hts hF.1 ty0 hw.1 hw.2.1 hown hKK.1 hP (wd_D hA) hS a (fs := fvs b I L R a 0 (fd ci)) (by rw [wd_at ha, en_o hk]) hF.2.1 k hF.2.2.2 (hts _ hl) (fun _ h => h) hw.2.2.1 hw.2.2.2 hn hfit (by rw [fvs_len]; exact (List.getElem?_eq_some_iff.mp hF.2.2.1).1) hdg (fun H1 locs1 hP1 hD1 hS1 => kk H1 locs1 ?_ hS1)
  rw [wd_set (I' := I) (L' := u2 L a k v) (R' := R) ha (fun j hj => ⟨rfl, u2_n _ _ _ hj, rfl⟩) (by rw [en_o hk, fvs_setL v hF.2.2.1])] at hP1
  exact hP1
theorem upd_va (f : Nat → Int32) (k : Nat) (v : Int32) : upd f k v = va_up f k v := rfl
theorem updL_va (f : Nat → Int64) (k : Nat) (v : Int64) : vp_updL f k v = va_up f k v := rfl
theorem mm_iald (hx : p.tables.exec = Jvm.exec) (hb : c.code = cc) (hKK : KK D ce s) (hP : va_P D vwCl (wd ce b kd ln n I L R) H) (ha : a < n) (hk : kd a = 1) {i : Int32} (hin : inb i (ln a) = true) (hdg : decode cc pc = .ok (.iaload, 1))
    (kk : W p l e Rm s m args below meth c H locs cells slots Q (F0 m (pc + 1) ls (.int (I a i.toNatClampNeg) :: rest))) : W p l e Rm s m args below meth c H locs cells slots Q (F0 m pc ls (.int i :: .ref (b + a) :: rest)) :=
  va_iald hx hb hKK.1 hP a 0 (by rw [wd_at ha, en_1 hk]) rfl (inb_in hin) hdg kk
theorem mm_zald (hx : p.tables.exec = Jvm.exec) (hb : c.code = cc) (hKK : KK D ce s) (hP : va_P D vwCl (wd ce b kd ln n I L R) H) (ha : a < n) (hk : kd a = 3) {i : Int32} (hin : inb i (ln a) = true) (hdg : decode cc pc = .ok (.baload, 1))
    (kk : W p l e Rm s m args below meth c H locs cells slots Q (F0 m (pc + 1) ls (.int (I a i.toNatClampNeg) :: rest))) : W p l e Rm s m args below meth c H locs cells slots Q (F0 m pc ls (.int i :: .ref (b + a) :: rest)) :=
  va_zald hx hb hKK.1 hP a 2 (by rw [wd_at ha, en_3 hk]) rfl (inb_in hin) hdg kk
theorem mm_lald (hx : p.tables.exec = Jvm.exec) (hb : c.code = cc) (hKK : KK D ce s) (hP : va_P D vwCl (wd ce b kd ln n I L R) H) (ha : a < n) (hk : kd a = 2) {i : Int32} (hin : inb i (ln a) = true) (hdg : decode cc pc = .ok (.laload, 1))
    (kk : W p l e Rm s m args below meth c H locs cells slots Q (F0 m (pc + 1) ls (.long (L a i.toNatClampNeg) :: rest))) : W p l e Rm s m args below meth c H locs cells slots Q (F0 m pc ls (.int i :: .ref (b + a) :: rest)) :=
  va_lald hx hb hKK.1 hP a 1 (by rw [wd_at ha, en_2 hk]) rfl (inb_in hin) hdg kk
theorem mm_aald4 (hx : p.tables.exec = Jvm.exec) (hb : c.code = cc) (hKK : KK D ce s) (hP : va_P D vwCl (wd ce b kd ln n I L R) H) (ha : a < n) (hk : kd a = 4) {i : Int32} (hin : inb i (ln a) = true) (hnn : R a i.toNatClampNeg ≠ NUL) (hdg : decode cc pc = .ok (.aaload, 1))
    (kk : W p l e Rm s m args below meth c H locs cells slots Q (F0 m (pc + 1) ls (.ref (b + R a i.toNatClampNeg) :: rest))) : W p l e Rm s m args below meth c H locs cells slots Q (F0 m pc ls (.int i :: .ref (b + a) :: rest)) :=
  va_aldq hx hb hKK.1 hP a 3 (C := "FallingRules$Rule") (f := fun j => rv b (R a j)) (by rw [wd_at ha, en_4 hk]) rfl (inb_in hin) hdg (by simpa [rv, hnn, va_rf] using kk)
theorem mm_aald5 (hx : p.tables.exec = Jvm.exec) (hb : c.code = cc) (hKK : KK D ce s) (hP : va_P D vwCl (wd ce b kd ln n I L R) H) (ha : a < n) (hk : kd a = 5) {i : Int32} (hin : inb i (ln a) = true) (hnn : R a i.toNatClampNeg ≠ NUL) (hdg : decode cc pc = .ok (.aaload, 1))
    (kk : W p l e Rm s m args below meth c H locs cells slots Q (F0 m (pc + 1) ls (.ref (b + R a i.toNatClampNeg) :: rest))) : W p l e Rm s m args below meth c H locs cells slots Q (F0 m pc ls (.int i :: .ref (b + a) :: rest)) :=
  va_aldq hx hb hKK.1 hP a 4 (C := "FallingRules$State") (f := fun j => rv b (R a j)) (by rw [wd_at ha, en_5 hk]) rfl (inb_in hin) hdg (by simpa [rv, hnn, va_rf] using kk)
theorem mm_iast (hx : p.tables.exec = Jvm.exec) (hb : c.code = cc) (hKK : KK D ce s) (hP : va_P D vwCl (wd ce b kd ln n I L R) H) (hA : ∀ q, box b n q → A q) (hS : va_S A H0 H locs) (ha : a < n) (hk : kd a = 1) {i v : Int32} (hin : inb i (ln a) = true) (hdg : decode cc pc = .ok (.iastore, 1))
    (kk : ∀ (H1 : Heap) (locs1 : List Loc), va_P D vwCl (wd ce b kd ln n (u2 I a i.toNatClampNeg v) L R) H1 → va_S A H0 H1 locs1 → W p l e Rm s m args below meth c H1 locs1 cells slots Q (F0 m (pc + 1) ls rest)) : W p l e Rm s m args below meth c H locs cells slots Q (F0 m pc ls (.int v :: .int i :: .ref (b + a) :: rest)) := by
  refine va_iast hx hb hKK.1 hP (wd_D hA) hS a 0 (by rw [wd_at ha, en_1 hk]) rfl (inb_in hin) hdg (fun H1 locs1 hP1 hD1 hS1 => kk H1 locs1 ?_ hS1)
  rw [wd_set (I' := u2 I a i.toNatClampNeg v) (L' := L) (R' := R) ha (fun j hj => ⟨u2_n _ _ _ hj, rfl, rfl⟩) (by rw [en_1 hk, u2_s, upd_va])] at hP1
  exact hP1
theorem mm_zast (hx : p.tables.exec = Jvm.exec) (hb : c.code = cc) (hKK : KK D ce s) (hP : va_P D vwCl (wd ce b kd ln n I L R) H) (hA : ∀ q, box b n q → A q) (hS : va_S A H0 H locs) (ha : a < n) (hk : kd a = 3) {i v : Int32} (hin : inb i (ln a) = true) (hdg : decode cc pc = .ok (.bastore, 1))
    (kk : ∀ (H1 : Heap) (locs1 : List Loc), va_P D vwCl (wd ce b kd ln n (u2 I a i.toNatClampNeg (vp_nar .boolean v)) L R) H1 → va_S A H0 H1 locs1 → W p l e Rm s m args below meth c H1 locs1 cells slots Q (F0 m (pc + 1) ls rest)) : W p l e Rm s m args below meth c H locs cells slots Q (F0 m pc ls (.int v :: .int i :: .ref (b + a) :: rest)) := by
  refine va_zast hx hb hKK.1 hP (wd_D hA) hS a 2 (by rw [wd_at ha, en_3 hk]) rfl (inb_in hin) hdg (fun H1 locs1 hP1 hD1 hS1 => kk H1 locs1 ?_ hS1)
  rw [wd_set (I' := u2 I a i.toNatClampNeg (vp_nar .boolean v)) (L' := L) (R' := R) ha (fun j hj => ⟨u2_n _ _ _ hj, rfl, rfl⟩) (by rw [en_3 hk, u2_s, upd_va])] at hP1
  exact hP1
theorem mm_last (hx : p.tables.exec = Jvm.exec) (hb : c.code = cc) (hKK : KK D ce s) (hP : va_P D vwCl (wd ce b kd ln n I L R) H) (hA : ∀ q, box b n q → A q) (hS : va_S A H0 H locs) (ha : a < n) (hk : kd a = 2) {i : Int32} {v : Int64} (hin : inb i (ln a) = true) (hdg : decode cc pc = .ok (.lastore, 1))
    (kk : ∀ (H1 : Heap) (locs1 : List Loc), va_P D vwCl (wd ce b kd ln n I (u2 L a i.toNatClampNeg v) R) H1 → va_S A H0 H1 locs1 → W p l e Rm s m args below meth c H1 locs1 cells slots Q (F0 m (pc + 1) ls rest)) : W p l e Rm s m args below meth c H locs cells slots Q (F0 m pc ls (.long v :: .int i :: .ref (b + a) :: rest)) := by
  refine va_last hx hb hKK.1 hP (wd_D hA) hS a 1 (by rw [wd_at ha, en_2 hk]) rfl (inb_in hin) hdg (fun H1 locs1 hP1 hD1 hS1 => kk H1 locs1 ?_ hS1)
  rw [wd_set (I' := I) (L' := u2 L a i.toNatClampNeg v) (R' := R) ha (fun j hj => ⟨rfl, u2_n _ _ _ hj, rfl⟩) (by rw [en_2 hk, u2_s, updL_va])] at hP1
  exact hP1
theorem rv_up {b : Nat} {R : mR} {a k v : Nat} (hv : v ≠ NUL) : (fun j => rv b (u2 R a k v a j)) = va_up (fun j => rv b (R a j)) k (some (b + v)) := by
  funext j
  rw [u2_s]
  by_cases hj : j = k
  · subst hj
    rw [va_up_s, va_up_s]
    simp [rv, hv]
  · rw [va_up_n _ _ hj, va_up_n _ _ hj]
theorem mm_aast4 (hx : p.tables.exec = Jvm.exec) (hb : c.code = cc) (hKK : KK D ce s) (hP : va_P D vwCl (wd ce b kd ln n I L R) H) (hA : ∀ q, box b n q → A q) (hS : va_S A H0 H locs) (ha : a < n) (hk : kd a = 4) {i : Int32} {v : Nat} (hv : v < n) (hkv : kd v = 9) (hnv : v ≠ NUL) (hin : inb i (ln a) = true) (hdg : decode cc pc = .ok (.aastore, 1))
    (kk : ∀ (H1 : Heap) (locs1 : List Loc), va_P D vwCl (wd ce b kd ln n I L (u2 R a i.toNatClampNeg v)) H1 → va_S A H0 H1 locs1 → W p l e Rm s m args below meth c H1 locs1 cells slots Q (F0 m (pc + 1) ls rest)) : W p l e Rm s m args below meth c H locs cells slots Q (F0 m pc ls (.ref (b + v) :: .int i :: .ref (b + a) :: rest)) := by
  refine va_astq hx hb hKK.1 hP (wd_D hA) hS a 3 v 3 (r := (RX3, TX3, 2)) (vs := fvs b I L R v 0 (fd 3)) (f := fun j => rv b (R a j)) (by rw [wd_at ha, en_4 hk]) rfl (by rw [wd_at hv, en_o (ci := 3) hkv]) rfl (inb_in hin) hdg (fun H1 locs1 hP1 hD1 hS1 => kk H1 locs1 ?_ hS1)
  rw [wd_set (I' := I) (L' := L) (R' := u2 R a i.toNatClampNeg v) ha (fun j hj => ⟨rfl, rfl, u2_n _ _ _ hj⟩) (by rw [en_4 hk, rv_up hnv])] at hP1
  exact hP1
theorem mm_aast5 (hx : p.tables.exec = Jvm.exec) (hb : c.code = cc) (hKK : KK D ce s) (hP : va_P D vwCl (wd ce b kd ln n I L R) H) (hA : ∀ q, box b n q → A q) (hS : va_S A H0 H locs) (ha : a < n) (hk : kd a = 5) {i : Int32} {v : Nat} (hv : v < n) (hkv : kd v = 13) (hnv : v ≠ NUL) (hin : inb i (ln a) = true) (hdg : decode cc pc = .ok (.aastore, 1))
    (kk : ∀ (H1 : Heap) (locs1 : List Loc), va_P D vwCl (wd ce b kd ln n I L (u2 R a i.toNatClampNeg v)) H1 → va_S A H0 H1 locs1 → W p l e Rm s m args below meth c H1 locs1 cells slots Q (F0 m (pc + 1) ls rest)) : W p l e Rm s m args below meth c H locs cells slots Q (F0 m pc ls (.ref (b + v) :: .int i :: .ref (b + a) :: rest)) := by
  refine va_astq hx hb hKK.1 hP (wd_D hA) hS a 4 v 7 (r := (RX7, TX7, 3)) (vs := fvs b I L R v 0 (fd 7)) (f := fun j => rv b (R a j)) (by rw [wd_at ha, en_5 hk]) rfl (by rw [wd_at hv, en_o (ci := 7) hkv]) rfl (inb_in hin) hdg (fun H1 locs1 hP1 hD1 hS1 => kk H1 locs1 ?_ hS1)
  rw [wd_set (I' := I) (L' := L) (R' := u2 R a i.toNatClampNeg v) ha (fun j hj => ⟨rfl, rfl, u2_n _ _ _ hj⟩) (by rw [en_5 hk, rv_up hnv])] at hP1
  exact hP1
theorem mm_alen (hx : p.tables.exec = Jvm.exec) (hb : c.code = cc) (hKK : KK D ce s) (hP : va_P D vwCl (wd ce b kd ln n I L R) H) (ha : a < n) (hk : kd a = 1) (hdg : decode cc pc = .ok (.arraylength, 1))
    (kk : W p l e Rm s m args below meth c H locs cells slots Q (F0 m (pc + 1) ls (.int (nI (ln a)) :: rest))) : W p l e Rm s m args below meth c H locs cells slots Q (F0 m pc ls (.ref (b + a) :: rest)) :=
  va_alen hx hb hKK.1 hP a 0 (x := (ln a, .inl (I a))) (by rw [wd_at ha, en_1 hk]) (ty := .int) rfl rfl hdg kk
theorem cpok_in {sp dp q : Int32} {n0 n1 : Nat} (h : cpok sp dp q n0 n1 = true) : ¬ sp < 0 ∧ ¬ dp < 0 ∧ ¬ q < 0 ∧ sp.toNatClampNeg + q.toNatClampNeg ≤ n0 ∧ dp.toNatClampNeg + q.toNatClampNeg ≤ n1 := by
  unfold cpok at h
  simp only [Bool.and_eq_true, Bool.not_eq_true', decide_eq_false_iff_not, decide_eq_true_eq] at h
  exact ⟨h.1.1.1.1, h.1.1.1.2, h.1.1.2, h.1.2, h.2⟩
theorem mm_copy (hx : p.tables.exec = Jvm.exec) (hb : c.code = cc) (hml : c.maxLocals = ls.size) (hts : ∀ w ∈ GW, w.before args s = true) (hown : s.vm.findClass own = some m.cls) (hKK : KK D ce s) (hP : va_P D vwCl (wd ce b kd ln n I L R) H) (hA : ∀ q, box b n q → A q) (hS : va_S A H0 H locs) (hl : Cond.methodLink own index arraycopyName ∈ GW) (hw : Cond.native arraycopyName ∈ GW ∧ Cond.static arraycopyName ∈ GW ∧ Cond.initialized "java/lang/System" ∈ GW) {a0 : Nat} (ha0 : a0 < n) (hk0 : kd a0 = 1) (ha : a < n) (hk : kd a = 1) {sp dp q : Int32} (hin : cpok sp dp q (ln a0) (ln a) = true)
    (hframes : 1 ≤ Rm.frames) (hlocals : (rest.map fun v => v.category).sum + (nativeFrameWords "java/lang/System" "arraycopy" 5 + 11) ≤ Rm.locals) (hdg : decode cc pc = .ok (.invokestatic index, 3))
    (kk : ∀ (H1 : Heap) (locs1 : List Loc), va_P D vwCl (wd ce b kd ln n (va_up I a (va_cpy (I a0) (I a) sp.toNatClampNeg dp.toNatClampNeg q.toNatClampNeg)) L R) H1 → va_S A H0 H1 locs1 → W p l e Rm s m args below meth c H1 locs1 cells slots Q (F0 m (pc + 3) ls rest)) : W p l e Rm s m args below meth c H locs cells slots Q (F0 m pc ls (.int q :: .int dp :: .ref (b + a) :: .int sp :: .ref (b + a0) :: rest)) := by
  obtain ⟨h1, h2, h3, h4, h5⟩ := cpok_in hin
  refine va_copyi hx hb hml hown (hts _ hl) (hts _ hw.1) (hts _ hw.2.1) (hts _ hw.2.2) hKK.1 hP (wd_D hA) hS a0 a 0 0 (ty := .int) (by rw [wd_at ha0, en_1 hk0]) (by rw [wd_at ha, en_1 hk]) rfl rfl rfl h1 h2 h3 h4 h5 (fun i hi => rfl) hframes hlocals hdg (fun H1 locs1 hP1 hD1 hS1 => kk H1 locs1 ?_ hS1)
  rw [wd_set (I' := va_up I a (va_cpy (I a0) (I a) sp.toNatClampNeg dp.toNatClampNeg q.toNatClampNeg)) (L' := L) (R' := R) ha (fun j hj => ⟨va_up_n _ _ hj, rfl, rfl⟩) (by rw [en_1 hk, va_up_s])] at hP1
  exact hP1
theorem mm_iret {v : Int32} (hx : p.tables.exec = Jvm.exec) (hb : c.code = cc) (hr : meth.sig.returnType = some .int) (hlocks : meth.locks = false) (hP : va_P D vwCl (wd ce b kd ln n I L R) H) (hT : WT kd R) (hS : va_S (box b n) s.heap H locs) (hdg : decode cc pc = .ok (.ireturn, 1)) :
    W p l e Rm s m args below meth c H locs 0 0 (MQ below (va_Qi (fun r u => r = v ∧ u = (I, L, R)) (QW D ce b kd ln n) (box b n)) args s 0 0 (box b n)) (F0 m pc ls [.int v]) :=
  W.iret (v := v) hx hb hr (fun t ht hW => ⟨⟨v, (I, L, R), rfl, ⟨rfl, rfl⟩, by rw [ht]; exact hP, hT⟩, hS.F ht⟩) hS.2.2 hdg hlocks
theorem zb_nar {v : Int32} (h : zb v = true) : narrow .boolean (.int v) = .int v := by
  unfold zb at h
  simp only [Bool.or_eq_true, decide_eq_true_eq] at h
  rcases h with rfl | rfl <;> rfl
theorem mm_zret {v : Int32} (hx : p.tables.exec = Jvm.exec) (hb : c.code = cc) (hr : meth.sig.returnType = some .boolean) (hlocks : meth.locks = false) (hz : zb v = true) (hP : va_P D vwCl (wd ce b kd ln n I L R) H) (hT : WT kd R) (hS : va_S (box b n) s.heap H locs) (hdg : decode cc pc = .ok (.ireturn, 1)) :
    W p l e Rm s m args below meth c H locs 0 0 (MQ below (va_Qi (fun r u => r = v ∧ u = (I, L, R)) (QW D ce b kd ln n) (box b n)) args s 0 0 (box b n)) (F0 m pc ls [.int v]) :=
  W.zret (v := v) hx hb hr (zb_nar hz) (fun t ht hW => ⟨⟨v, (I, L, R), rfl, ⟨rfl, rfl⟩, by rw [ht]; exact hP, hT⟩, hS.F ht⟩) hS.2.2 hdg hlocks
theorem mm_lret {v : Int64} (hx : p.tables.exec = Jvm.exec) (hb : c.code = cc) (hr : meth.sig.returnType = some .long) (hlocks : meth.locks = false) (hP : va_P D vwCl (wd ce b kd ln n I L R) H) (hT : WT kd R) (hS : va_S (box b n) s.heap H locs) (hdg : decode cc pc = .ok (.lreturn, 1)) :
    W p l e Rm s m args below meth c H locs 0 0 (MQ below (va_Ql (fun r u => r = v ∧ u = (I, L, R)) (QW D ce b kd ln n) (box b n)) args s 0 0 (box b n)) (F0 m pc ls [.long v]) :=
  W.lret (v := v) hx hb hr (fun t ht hW => ⟨⟨v, (I, L, R), rfl, ⟨rfl, rfl⟩, by rw [ht]; exact hP, hT⟩, hS.F ht⟩) hS.2.2 hdg hlocks
theorem mm_vret (hx : p.tables.exec = Jvm.exec) (hb : c.code = cc) (hr : meth.sig.returnType = none) (hlocks : meth.locks = false) (hP : va_P D vwCl (wd ce b kd ln n I L R) H) (hT : WT kd R) (hS : va_S (box b n) s.heap H locs) (hdg : decode cc pc = .ok (.return_, 1)) :
    W p l e Rm s m args below meth c H locs 0 0 (MQ below (va_Qv (fun u => u = (I, L, R)) (QW D ce b kd ln n) (box b n)) args s 0 0 (box b n)) (F0 m pc ls []) :=
  W.vret hx hb hr (fun t ht hW => ⟨⟨(I, L, R), rfl, rfl, by rw [ht]; exact hP, hT⟩, hS.F ht⟩) hS.2.2 hdg hlocks

def VOK (own : String) (idx : Nat) (y : MethodName) (bytes : ByteArray) (maxL : Nat) (ret : Option FieldType) (q : Nat) : Prop := GoodIn GW (wsV own idx y.cls y (Cond.code y bytes maxL ret :: GW)) ∧ (y.cls = y.cls ∧ y.cls ≠ "java/lang/invoke/MethodHandle" ∧ y.cls ≠ "java/lang/invoke/VarHandle" ∧ (parseMethodDescriptor y.desc).map (fun d => d.parameters.length) = some q)
theorem vok_mk {own : String} {idx : Nat} {y : MethodName} {bytes : ByteArray} {maxL : Nat} {ret : Option FieldType} {q : Nat} (h1 : Cond.methodLink own idx y ∈ GW) (h2 : Cond.instanceMethod y ∈ GW) (h3 : Cond.selects y.cls y y ∈ GW) (h4 : Cond.initialized y.cls ∈ GW) (h5 : Cond.code y bytes maxL ret ∈ GW) (h6 : y.cls ≠ "java/lang/invoke/MethodHandle" ∧ y.cls ≠ "java/lang/invoke/VarHandle" ∧ (parseMethodDescriptor y.desc).map (fun d => d.parameters.length) = some q) : VOK own idx y bytes maxL ret q := by
  refine ⟨fun w hw => GW_good ?_, rfl, h6⟩
  unfold wsV at hw
  rcases List.mem_append.mp hw with hw | hw
  · simp only [List.mem_cons, List.not_mem_nil, or_false] at hw
    rcases hw with rfl | rfl | rfl | rfl
    · exact h1
    · exact h2
    · exact h3
    · exact h4
  · rcases List.mem_cons.mp hw with rfl | hw
    · exact h5
    · exact hw
def SOK (own : String) (idx : Nat) (y : MethodName) (bytes : ByteArray) (maxL : Nat) (ret : Option FieldType) (q : Nat) : Prop := GoodIn GW (va_wsS own idx y (Cond.code y bytes maxL ret :: GW)) ∧ (y.cls ≠ "java/lang/invoke/MethodHandle" ∧ y.cls ≠ "java/lang/invoke/VarHandle" ∧ (parseMethodDescriptor y.desc).map (fun d => d.parameters.length) = some q)
theorem sok_mk {own : String} {idx : Nat} {y : MethodName} {bytes : ByteArray} {maxL : Nat} {ret : Option FieldType} {q : Nat} (h1 : Cond.methodLink own idx y ∈ GW) (h2 : Cond.static y ∈ GW) (h4 : Cond.initialized y.cls ∈ GW) (h5 : Cond.code y bytes maxL ret ∈ GW) (h6 : y.cls ≠ "java/lang/invoke/MethodHandle" ∧ y.cls ≠ "java/lang/invoke/VarHandle" ∧ (parseMethodDescriptor y.desc).map (fun d => d.parameters.length) = some q) : SOK own idx y bytes maxL ret q := by
  refine ⟨fun w hw => GW_good ?_, h6⟩
  unfold va_wsS at hw
  rcases List.mem_append.mp hw with hw | hw
  · simp only [List.mem_cons, List.not_mem_nil, or_false] at hw
    rcases hw with rfl | rfl | rfl
    · exact h1
    · exact h2
    · exact h4
  · rcases List.mem_cons.mp hw with rfl | hw
    · exact h5
    · exact hw
def NOK (own : String) (idx : Nat) (y : MethodName) (bytes : ByteArray) (maxL : Nat) (ret : Option FieldType) (q : Nat) : Prop := Cond.methodLinkNest own idx y "FallingRules" ∈ nestL ∧ Cond.static y ∈ GW ∧ Cond.initialized y.cls ∈ GW ∧ Cond.code y bytes maxL ret ∈ GW ∧ (y.cls ≠ "java/lang/invoke/MethodHandle" ∧ y.cls ≠ "java/lang/invoke/VarHandle" ∧ (parseMethodDescriptor y.desc).map (fun d => d.parameters.length) = some q)
theorem good_code {y : MethodName} {bytes : ByteArray} {maxL : Nat} {ret : Option FieldType} (h : Cond.code y bytes maxL ret ∈ GW) : GoodIn GW (Cond.code y bytes maxL ret :: GW) := fun w hw => GW_good (by
  rcases List.mem_cons.mp hw with rfl | hw
  · exact h
  · exact hw)
variable {y : MethodName} {bytes : ByteArray} {maxL nL q : Nat} {ret : Option FieldType} {rm : Room} {As st : List Value} {I' : mI} {L' : mL} {R' : mR}
theorem mm_Vi {r0 : Int32} (hx : p.tables.exec = Jvm.exec) (hb : c.code = cc) (hml : c.maxLocals = nL) (hown : s.vm.findClass own = some m.cls) (hts : ∀ w ∈ GW, w.before args s = true) (hKK : KK D ce s) (hP : va_P D vwCl (wd ce b kd ln n I L R) H) (hS : va_S A s.heap H locs) (hA : ∀ q, box b n q → A q) (ha : a < n) (hka : kd a = ci + 6) (hc : vwCl[ci]? = some (y.cls, T, N)) (V : VOK own index y bytes maxL ret q)
    (hM : Met l y (Cond.code y bytes maxL ret :: GW) rm (va_Pc (.ref (b + a) :: As) (PW D ce b kd ln n I L R)) (va_Qi (fun r u => r = r0 ∧ u = (I', L', R')) (QW D ce b kd ln n) (box b n)) 0 0 (box b n)) (hn : As.length = q) (hsz : ls.size = nL) (hst : st = As.reverse ++ .ref (b + a) :: rest) (hW : (rest.map fun v => v.category).sum ≤ 8) (hrm : rm.cells = 0 ∧ rm.slots = 0) (hR : rm.frames + 1 ≤ Rm.frames ∧ 8 + (maxL + 11) + rm.locals ≤ Rm.locals) (hcs : cells ≤ Rm.cells ∧ slots ≤ Rm.slots) (hdg : decode cc pc = .ok (.invokevirtual index, 3))
    (kk : ∀ (H1 : Heap) (locs1 : List Loc), va_P D vwCl (wd ce b kd ln n I' L' R') H1 → WT kd R' → va_S A s.heap H1 locs1 → W p l e Rm s m args below meth c H1 locs1 cells slots Q (F0 m (pc + 3) ls (.int r0 :: rest))) : W p l e Rm s m args below meth c H locs cells slots Q (F0 m pc ls st) := by
  subst hst
  refine va_calli (va_runV (As := As) (rest := rest) ⟨hx, hb, hml, hown, hts⟩ hM (cwV q hts V.1 rfl hrm.1 hrm.2 V.2 hR) ⟨PW.blind, va_recv hKK.1 hP hc (q0 := a) (fs := fvs b I L R a 0 (fd ci)) (by rw [wd_at ha, en_o hka]), fun U hU hW => ⟨rfl, by rw [hU]; exact hP, KK.warm hW hKK⟩⟩ rfl hn hsz rfl (lv_room hW) hdg ⟨hcs.1, hcs.2⟩) hS (fun q _ h => hA q h) hA (fun r u t H1 locs1 ht hvm hw hB hz hk1 hS1 => ?_)
  obtain ⟨rfl, rfl⟩ := hw
  exact kk H1 locs1 (by rw [← ht]; exact hB.1) hB.2 hS1
theorem mm_Vl {r0 : Int64} (hx : p.tables.exec = Jvm.exec) (hb : c.code = cc) (hml : c.maxLocals = nL) (hown : s.vm.findClass own = some m.cls) (hts : ∀ w ∈ GW, w.before args s = true) (hKK : KK D ce s) (hP : va_P D vwCl (wd ce b kd ln n I L R) H) (hS : va_S A s.heap H locs) (hA : ∀ q, box b n q → A q) (ha : a < n) (hka : kd a = ci + 6) (hc : vwCl[ci]? = some (y.cls, T, N)) (V : VOK own index y bytes maxL ret q)
    (hM : Met l y (Cond.code y bytes maxL ret :: GW) rm (va_Pc (.ref (b + a) :: As) (PW D ce b kd ln n I L R)) (va_Ql (fun r u => r = r0 ∧ u = (I', L', R')) (QW D ce b kd ln n) (box b n)) 0 0 (box b n)) (hn : As.length = q) (hsz : ls.size = nL) (hst : st = As.reverse ++ .ref (b + a) :: rest) (hW : (rest.map fun v => v.category).sum ≤ 8) (hrm : rm.cells = 0 ∧ rm.slots = 0) (hR : rm.frames + 1 ≤ Rm.frames ∧ 8 + (maxL + 11) + rm.locals ≤ Rm.locals) (hcs : cells ≤ Rm.cells ∧ slots ≤ Rm.slots) (hdg : decode cc pc = .ok (.invokevirtual index, 3))
    (kk : ∀ (H1 : Heap) (locs1 : List Loc), va_P D vwCl (wd ce b kd ln n I' L' R') H1 → WT kd R' → va_S A s.heap H1 locs1 → W p l e Rm s m args below meth c H1 locs1 cells slots Q (F0 m (pc + 3) ls (.long r0 :: rest))) : W p l e Rm s m args below meth c H locs cells slots Q (F0 m pc ls st) := by
  subst hst
  refine va_calll (va_runV (As := As) (rest := rest) ⟨hx, hb, hml, hown, hts⟩ hM (cwV q hts V.1 rfl hrm.1 hrm.2 V.2 hR) ⟨PW.blind, va_recv hKK.1 hP hc (q0 := a) (fs := fvs b I L R a 0 (fd ci)) (by rw [wd_at ha, en_o hka]), fun U hU hW => ⟨rfl, by rw [hU]; exact hP, KK.warm hW hKK⟩⟩ rfl hn hsz rfl (lv_room hW) hdg ⟨hcs.1, hcs.2⟩) hS (fun q _ h => hA q h) hA (fun r u t H1 locs1 ht hvm hw hB hz hk1 hS1 => ?_)
  obtain ⟨rfl, rfl⟩ := hw
  exact kk H1 locs1 (by rw [← ht]; exact hB.1) hB.2 hS1
theorem mm_Vv (hx : p.tables.exec = Jvm.exec) (hb : c.code = cc) (hml : c.maxLocals = nL) (hown : s.vm.findClass own = some m.cls) (hts : ∀ w ∈ GW, w.before args s = true) (hKK : KK D ce s) (hP : va_P D vwCl (wd ce b kd ln n I L R) H) (hS : va_S A s.heap H locs) (hA : ∀ q, box b n q → A q) (ha : a < n) (hka : kd a = ci + 6) (hc : vwCl[ci]? = some (y.cls, T, N)) (V : VOK own index y bytes maxL ret q)
    (hM : Met l y (Cond.code y bytes maxL ret :: GW) rm (va_Pc (.ref (b + a) :: As) (PW D ce b kd ln n I L R)) (va_Qv (fun u => u = (I', L', R')) (QW D ce b kd ln n) (box b n)) 0 0 (box b n)) (hn : As.length = q) (hsz : ls.size = nL) (hst : st = As.reverse ++ .ref (b + a) :: rest) (hW : (rest.map fun v => v.category).sum ≤ 8) (hrm : rm.cells = 0 ∧ rm.slots = 0) (hR : rm.frames + 1 ≤ Rm.frames ∧ 8 + (maxL + 11) + rm.locals ≤ Rm.locals) (hcs : cells ≤ Rm.cells ∧ slots ≤ Rm.slots) (hdg : decode cc pc = .ok (.invokevirtual index, 3))
    (kk : ∀ (H1 : Heap) (locs1 : List Loc), va_P D vwCl (wd ce b kd ln n I' L' R') H1 → WT kd R' → va_S A s.heap H1 locs1 → W p l e Rm s m args below meth c H1 locs1 cells slots Q (F0 m (pc + 3) ls (rest))) : W p l e Rm s m args below meth c H locs cells slots Q (F0 m pc ls st) := by
  subst hst
  refine va_callv (va_runV (As := As) (rest := rest) ⟨hx, hb, hml, hown, hts⟩ hM (cwV q hts V.1 rfl hrm.1 hrm.2 V.2 hR) ⟨PW.blind, va_recv hKK.1 hP hc (q0 := a) (fs := fvs b I L R a 0 (fd ci)) (by rw [wd_at ha, en_o hka]), fun U hU hW => ⟨rfl, by rw [hU]; exact hP, KK.warm hW hKK⟩⟩ rfl hn hsz rfl (lv_room hW) hdg ⟨hcs.1, hcs.2⟩) hS (fun q _ h => hA q h) hA (fun u t H1 locs1 ht hvm hw hB hz hk1 hS1 => ?_)
  subst hw
  exact kk H1 locs1 (by rw [← ht]; exact hB.1) hB.2 hS1
theorem mm_Si {r0 : Int32} (hx : p.tables.exec = Jvm.exec) (hb : c.code = cc) (hml : c.maxLocals = nL) (hown : s.vm.findClass own = some m.cls) (hts : ∀ w ∈ GW, w.before args s = true) (hKK : KK D ce s) (hP : va_P D vwCl (wd ce b kd ln n I L R) H) (hS : va_S A s.heap H locs) (hA : ∀ q, box b n q → A q) (V : SOK own index y bytes maxL ret q)
    (hM : Met l y (Cond.code y bytes maxL ret :: GW) rm (va_Pc (As) (PW D ce b kd ln n I L R)) (va_Qi (fun r u => r = r0 ∧ u = (I', L', R')) (QW D ce b kd ln n) (box b n)) 0 0 (box b n)) (hn : As.length = q) (hsz : ls.size = nL) (hst : st = As.reverse ++ rest) (hW : (rest.map fun v => v.category).sum ≤ 8) (hrm : rm.cells = 0 ∧ rm.slots = 0) (hR : rm.frames + 1 ≤ Rm.frames ∧ 8 + (maxL + 11) + rm.locals ≤ Rm.locals) (hcs : cells ≤ Rm.cells ∧ slots ≤ Rm.slots) (hdg : decode cc pc = .ok (.invokestatic index, 3))
    (kk : ∀ (H1 : Heap) (locs1 : List Loc), va_P D vwCl (wd ce b kd ln n I' L' R') H1 → WT kd R' → va_S A s.heap H1 locs1 → W p l e Rm s m args below meth c H1 locs1 cells slots Q (F0 m (pc + 3) ls (.int r0 :: rest))) : W p l e Rm s m args below meth c H locs cells slots Q (F0 m pc ls st) := by
  subst hst
  refine va_calli (va_runS (As := As) (rest := rest) ⟨hx, hb, hml, hown, hts⟩ hM (va_cwS q hts V.1 rfl hrm.1 hrm.2 V.2 hR) ⟨PW.blind, fun U hU hW => ⟨rfl, by rw [hU]; exact hP, KK.warm hW hKK⟩⟩ rfl hn hsz rfl (lv_room hW) hdg ⟨hcs.1, hcs.2⟩) hS (fun q _ h => hA q h) hA (fun r u t H1 locs1 ht hvm hw hB hz hk1 hS1 => ?_)
  obtain ⟨rfl, rfl⟩ := hw
  exact kk H1 locs1 (by rw [← ht]; exact hB.1) hB.2 hS1
theorem mm_Sl {r0 : Int64} (hx : p.tables.exec = Jvm.exec) (hb : c.code = cc) (hml : c.maxLocals = nL) (hown : s.vm.findClass own = some m.cls) (hts : ∀ w ∈ GW, w.before args s = true) (hKK : KK D ce s) (hP : va_P D vwCl (wd ce b kd ln n I L R) H) (hS : va_S A s.heap H locs) (hA : ∀ q, box b n q → A q) (V : SOK own index y bytes maxL ret q)
    (hM : Met l y (Cond.code y bytes maxL ret :: GW) rm (va_Pc (As) (PW D ce b kd ln n I L R)) (va_Ql (fun r u => r = r0 ∧ u = (I', L', R')) (QW D ce b kd ln n) (box b n)) 0 0 (box b n)) (hn : As.length = q) (hsz : ls.size = nL) (hst : st = As.reverse ++ rest) (hW : (rest.map fun v => v.category).sum ≤ 8) (hrm : rm.cells = 0 ∧ rm.slots = 0) (hR : rm.frames + 1 ≤ Rm.frames ∧ 8 + (maxL + 11) + rm.locals ≤ Rm.locals) (hcs : cells ≤ Rm.cells ∧ slots ≤ Rm.slots) (hdg : decode cc pc = .ok (.invokestatic index, 3))
    (kk : ∀ (H1 : Heap) (locs1 : List Loc), va_P D vwCl (wd ce b kd ln n I' L' R') H1 → WT kd R' → va_S A s.heap H1 locs1 → W p l e Rm s m args below meth c H1 locs1 cells slots Q (F0 m (pc + 3) ls (.long r0 :: rest))) : W p l e Rm s m args below meth c H locs cells slots Q (F0 m pc ls st) := by
  subst hst
  refine va_calll (va_runS (As := As) (rest := rest) ⟨hx, hb, hml, hown, hts⟩ hM (va_cwS q hts V.1 rfl hrm.1 hrm.2 V.2 hR) ⟨PW.blind, fun U hU hW => ⟨rfl, by rw [hU]; exact hP, KK.warm hW hKK⟩⟩ rfl hn hsz rfl (lv_room hW) hdg ⟨hcs.1, hcs.2⟩) hS (fun q _ h => hA q h) hA (fun r u t H1 locs1 ht hvm hw hB hz hk1 hS1 => ?_)
  obtain ⟨rfl, rfl⟩ := hw
  exact kk H1 locs1 (by rw [← ht]; exact hB.1) hB.2 hS1
theorem mm_Sv (hx : p.tables.exec = Jvm.exec) (hb : c.code = cc) (hml : c.maxLocals = nL) (hown : s.vm.findClass own = some m.cls) (hts : ∀ w ∈ GW, w.before args s = true) (hKK : KK D ce s) (hP : va_P D vwCl (wd ce b kd ln n I L R) H) (hS : va_S A s.heap H locs) (hA : ∀ q, box b n q → A q) (V : SOK own index y bytes maxL ret q)
    (hM : Met l y (Cond.code y bytes maxL ret :: GW) rm (va_Pc (As) (PW D ce b kd ln n I L R)) (va_Qv (fun u => u = (I', L', R')) (QW D ce b kd ln n) (box b n)) 0 0 (box b n)) (hn : As.length = q) (hsz : ls.size = nL) (hst : st = As.reverse ++ rest) (hW : (rest.map fun v => v.category).sum ≤ 8) (hrm : rm.cells = 0 ∧ rm.slots = 0) (hR : rm.frames + 1 ≤ Rm.frames ∧ 8 + (maxL + 11) + rm.locals ≤ Rm.locals) (hcs : cells ≤ Rm.cells ∧ slots ≤ Rm.slots) (hdg : decode cc pc = .ok (.invokestatic index, 3))
    (kk : ∀ (H1 : Heap) (locs1 : List Loc), va_P D vwCl (wd ce b kd ln n I' L' R') H1 → WT kd R' → va_S A s.heap H1 locs1 → W p l e Rm s m args below meth c H1 locs1 cells slots Q (F0 m (pc + 3) ls (rest))) : W p l e Rm s m args below meth c H locs cells slots Q (F0 m pc ls st) := by
  subst hst
  refine va_callv (va_runS (As := As) (rest := rest) ⟨hx, hb, hml, hown, hts⟩ hM (va_cwS q hts V.1 rfl hrm.1 hrm.2 V.2 hR) ⟨PW.blind, fun U hU hW => ⟨rfl, by rw [hU]; exact hP, KK.warm hW hKK⟩⟩ rfl hn hsz rfl (lv_room hW) hdg ⟨hcs.1, hcs.2⟩) hS (fun q _ h => hA q h) hA (fun u t H1 locs1 ht hvm hw hB hz hk1 hS1 => ?_)
  subst hw
  exact kk H1 locs1 (by rw [← ht]; exact hB.1) hB.2 hS1
theorem mm_Ni {r0 : Int32} (hx : p.tables.exec = Jvm.exec) (hb : c.code = cc) (hml : c.maxLocals = nL) (hown : s.vm.findClass own = some m.cls) (hts : ∀ w ∈ GW, w.before args s = true) (hKK : KK D ce s) (hP : va_P D vwCl (wd ce b kd ln n I L R) H) (hS : va_S A s.heap H locs) (hA : ∀ q, box b n q → A q) (V : NOK own index y bytes maxL ret q)
    (hM : Met l y (Cond.code y bytes maxL ret :: GW) rm (va_Pc (As) (PW D ce b kd ln n I L R)) (va_Qi (fun r u => r = r0 ∧ u = (I', L', R')) (QW D ce b kd ln n) (box b n)) 0 0 (box b n)) (hn : As.length = q) (hsz : ls.size = nL) (hst : st = As.reverse ++ rest) (hW : (rest.map fun v => v.category).sum ≤ 8) (hrm : rm.cells = 0 ∧ rm.slots = 0) (hR : rm.frames + 1 ≤ Rm.frames ∧ 8 + (maxL + 11) + rm.locals ≤ Rm.locals) (hcs : cells ≤ Rm.cells ∧ slots ≤ Rm.slots) (hdg : decode cc pc = .ok (.invokestatic index, 3))
    (kk : ∀ (H1 : Heap) (locs1 : List Loc), va_P D vwCl (wd ce b kd ln n I' L' R') H1 → WT kd R' → va_S A s.heap H1 locs1 → W p l e Rm s m args below meth c H1 locs1 cells slots Q (F0 m (pc + 3) ls (.int r0 :: rest))) : W p l e Rm s m args below meth c H locs cells slots Q (F0 m pc ls st) := by
  subst hst
  refine va_calli (va_runSN (As := As) (rest := rest) ⟨hx, hb, hml, hown, hts⟩ hM ⟨va_cnB q hts (good_code V.2.2.2.1) rfl hrm.1 hrm.2 (hKK.2 _ V.1) (hts _ V.2.2.1) V.2.2.2.2 hR, hts _ V.2.1, trivial⟩ ⟨PW.blind, fun U hU hW => ⟨rfl, by rw [hU]; exact hP, KK.warm hW hKK⟩⟩ rfl hn hsz rfl (lv_room hW) hdg ⟨hcs.1, hcs.2⟩) hS (fun q _ h => hA q h) hA (fun r u t H1 locs1 ht hvm hw hB hz hk1 hS1 => ?_)
  obtain ⟨rfl, rfl⟩ := hw
  exact kk H1 locs1 (by rw [← ht]; exact hB.1) hB.2 hS1
theorem mm_Nl {r0 : Int64} (hx : p.tables.exec = Jvm.exec) (hb : c.code = cc) (hml : c.maxLocals = nL) (hown : s.vm.findClass own = some m.cls) (hts : ∀ w ∈ GW, w.before args s = true) (hKK : KK D ce s) (hP : va_P D vwCl (wd ce b kd ln n I L R) H) (hS : va_S A s.heap H locs) (hA : ∀ q, box b n q → A q) (V : NOK own index y bytes maxL ret q)
    (hM : Met l y (Cond.code y bytes maxL ret :: GW) rm (va_Pc (As) (PW D ce b kd ln n I L R)) (va_Ql (fun r u => r = r0 ∧ u = (I', L', R')) (QW D ce b kd ln n) (box b n)) 0 0 (box b n)) (hn : As.length = q) (hsz : ls.size = nL) (hst : st = As.reverse ++ rest) (hW : (rest.map fun v => v.category).sum ≤ 8) (hrm : rm.cells = 0 ∧ rm.slots = 0) (hR : rm.frames + 1 ≤ Rm.frames ∧ 8 + (maxL + 11) + rm.locals ≤ Rm.locals) (hcs : cells ≤ Rm.cells ∧ slots ≤ Rm.slots) (hdg : decode cc pc = .ok (.invokestatic index, 3))
    (kk : ∀ (H1 : Heap) (locs1 : List Loc), va_P D vwCl (wd ce b kd ln n I' L' R') H1 → WT kd R' → va_S A s.heap H1 locs1 → W p l e Rm s m args below meth c H1 locs1 cells slots Q (F0 m (pc + 3) ls (.long r0 :: rest))) : W p l e Rm s m args below meth c H locs cells slots Q (F0 m pc ls st) := by
  subst hst
  refine va_calll (va_runSN (As := As) (rest := rest) ⟨hx, hb, hml, hown, hts⟩ hM ⟨va_cnB q hts (good_code V.2.2.2.1) rfl hrm.1 hrm.2 (hKK.2 _ V.1) (hts _ V.2.2.1) V.2.2.2.2 hR, hts _ V.2.1, trivial⟩ ⟨PW.blind, fun U hU hW => ⟨rfl, by rw [hU]; exact hP, KK.warm hW hKK⟩⟩ rfl hn hsz rfl (lv_room hW) hdg ⟨hcs.1, hcs.2⟩) hS (fun q _ h => hA q h) hA (fun r u t H1 locs1 ht hvm hw hB hz hk1 hS1 => ?_)
  obtain ⟨rfl, rfl⟩ := hw
  exact kk H1 locs1 (by rw [← ht]; exact hB.1) hB.2 hS1
theorem mm_Nv (hx : p.tables.exec = Jvm.exec) (hb : c.code = cc) (hml : c.maxLocals = nL) (hown : s.vm.findClass own = some m.cls) (hts : ∀ w ∈ GW, w.before args s = true) (hKK : KK D ce s) (hP : va_P D vwCl (wd ce b kd ln n I L R) H) (hS : va_S A s.heap H locs) (hA : ∀ q, box b n q → A q) (V : NOK own index y bytes maxL ret q)
    (hM : Met l y (Cond.code y bytes maxL ret :: GW) rm (va_Pc (As) (PW D ce b kd ln n I L R)) (va_Qv (fun u => u = (I', L', R')) (QW D ce b kd ln n) (box b n)) 0 0 (box b n)) (hn : As.length = q) (hsz : ls.size = nL) (hst : st = As.reverse ++ rest) (hW : (rest.map fun v => v.category).sum ≤ 8) (hrm : rm.cells = 0 ∧ rm.slots = 0) (hR : rm.frames + 1 ≤ Rm.frames ∧ 8 + (maxL + 11) + rm.locals ≤ Rm.locals) (hcs : cells ≤ Rm.cells ∧ slots ≤ Rm.slots) (hdg : decode cc pc = .ok (.invokestatic index, 3))
    (kk : ∀ (H1 : Heap) (locs1 : List Loc), va_P D vwCl (wd ce b kd ln n I' L' R') H1 → WT kd R' → va_S A s.heap H1 locs1 → W p l e Rm s m args below meth c H1 locs1 cells slots Q (F0 m (pc + 3) ls (rest))) : W p l e Rm s m args below meth c H locs cells slots Q (F0 m pc ls st) := by
  subst hst
  refine va_callv (va_runSN (As := As) (rest := rest) ⟨hx, hb, hml, hown, hts⟩ hM ⟨va_cnB q hts (good_code V.2.2.2.1) rfl hrm.1 hrm.2 (hKK.2 _ V.1) (hts _ V.2.2.1) V.2.2.2.2 hR, hts _ V.2.1, trivial⟩ ⟨PW.blind, fun U hU hW => ⟨rfl, by rw [hU]; exact hP, KK.warm hW hKK⟩⟩ rfl hn hsz rfl (lv_room hW) hdg ⟨hcs.1, hcs.2⟩) hS (fun q _ h => hA q h) hA (fun u t H1 locs1 ht hvm hw hB hz hk1 hS1 => ?_)
  subst hw
  exact kk H1 locs1 (by rw [← ht]; exact hB.1) hB.2 hS1
end MM
theorem kdC_NUL : kdC NUL = 0 := by decide +kernel
theorem kdM_NUL : kdM NUL = 0 := by decide +kernel
theorem nC {r t : Nat} (h : kdC r = t) (ht : t ≠ 0) : r ≠ NUL := nnul kdC_NUL h ht
theorem nM {r t : Nat} (h : kdM r = t) (ht : t ≠ 0) : r ≠ NUL := nnul kdM_NUL h ht
end
