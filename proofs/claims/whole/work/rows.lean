section
-- ===== PART A: goes FIRST, ahead of the names: the tables' words, and 'selects' of the private methods out of them =====
/-- a private method of a class that the tables say can be made, by its rows of tables_1 -/
def lw_okq (q : MethodName × Nat) : Prop := (q.1.cls ≠ "java/lang/invoke/MethodHandle" ∧ q.1.cls ≠ "java/lang/invoke/VarHandle") ∧ Cond.instantiable q.1.cls q.2 ∈ tables_1 ∧ Cond.privateMethod q.1 ∈ tables_1 ∧ Cond.instanceMethod q.1 ∈ tables_1
theorem lw_p0 : lw_okq (⟨"QuietDuty", "refused", "(I)I"⟩, 7) := ⟨⟨by decide +kernel, by decide +kernel⟩, List.mem_of_getElem? (i := 11) (by decide +kernel), List.mem_of_getElem? (i := 181) (by decide +kernel), List.mem_of_getElem? (i := 182) (by decide +kernel)⟩
theorem lw_p1 : lw_okq (⟨"QuietDuty", "faulted", "(I)I"⟩, 7) := ⟨⟨by decide +kernel, by decide +kernel⟩, List.mem_of_getElem? (i := 11) (by decide +kernel), List.mem_of_getElem? (i := 197) (by decide +kernel), List.mem_of_getElem? (i := 198) (by decide +kernel)⟩
theorem lw_p2 : lw_okq (⟨"QuietDuty$TextReader", "takes", "(II)Z"⟩, 4) := ⟨⟨by decide +kernel, by decide +kernel⟩, List.mem_of_getElem? (i := 40) (by decide +kernel), List.mem_of_getElem? (i := 212) (by decide +kernel), List.mem_of_getElem? (i := 213) (by decide +kernel)⟩
theorem lw_p3 : lw_okq (⟨"QuietDuty$TextReader", "code", "()I"⟩, 4) := ⟨⟨by decide +kernel, by decide +kernel⟩, List.mem_of_getElem? (i := 40) (by decide +kernel), List.mem_of_getElem? (i := 216) (by decide +kernel), List.mem_of_getElem? (i := 217) (by decide +kernel)⟩
theorem lw_p4 : lw_okq (⟨"QuietDuty$TextReader", "codeAt", "(I)I"⟩, 4) := ⟨⟨by decide +kernel, by decide +kernel⟩, List.mem_of_getElem? (i := 40) (by decide +kernel), List.mem_of_getElem? (i := 220) (by decide +kernel), List.mem_of_getElem? (i := 221) (by decide +kernel)⟩
theorem lw_p5 : lw_okq (⟨"QuietDuty$TextReader", "digitBefore", "(I)I"⟩, 4) := ⟨⟨by decide +kernel, by decide +kernel⟩, List.mem_of_getElem? (i := 40) (by decide +kernel), List.mem_of_getElem? (i := 228) (by decide +kernel), List.mem_of_getElem? (i := 229) (by decide +kernel)⟩
theorem lw_p6 : lw_okq (⟨"QuietDuty$TextReader", "readPosts", "(LQuietDuty$Border;)Z"⟩, 4) := ⟨⟨by decide +kernel, by decide +kernel⟩, List.mem_of_getElem? (i := 40) (by decide +kernel), List.mem_of_getElem? (i := 232) (by decide +kernel), List.mem_of_getElem? (i := 233) (by decide +kernel)⟩
theorem lw_p7 : lw_okq (⟨"QuietDuty$TextReader", "readSilences", "(LQuietDuty$Border;)Z"⟩, 4) := ⟨⟨by decide +kernel, by decide +kernel⟩, List.mem_of_getElem? (i := 40) (by decide +kernel), List.mem_of_getElem? (i := 240) (by decide +kernel), List.mem_of_getElem? (i := 241) (by decide +kernel)⟩
theorem lw_p8 : lw_okq (⟨"QuietDuty$Border", "dutyByRate", "(I)I"⟩, 16) := ⟨⟨by decide +kernel, by decide +kernel⟩, List.mem_of_getElem? (i := 72) (by decide +kernel), List.mem_of_getElem? (i := 320) (by decide +kernel), List.mem_of_getElem? (i := 321) (by decide +kernel)⟩
theorem lw_p9 : lw_okq (⟨"QuietDuty$Border", "minutesByGrade", "(I)I"⟩, 16) := ⟨⟨by decide +kernel, by decide +kernel⟩, List.mem_of_getElem? (i := 72) (by decide +kernel), List.mem_of_getElem? (i := 324) (by decide +kernel), List.mem_of_getElem? (i := 325) (by decide +kernel)⟩
theorem lw_p10 : lw_okq (⟨"QuietDuty", "lostUnfaulted", "()J"⟩, 7) := ⟨⟨by decide +kernel, by decide +kernel⟩, List.mem_of_getElem? (i := 11) (by decide +kernel), List.mem_of_getElem? (i := 353) (by decide +kernel), List.mem_of_getElem? (i := 354) (by decide +kernel)⟩
theorem lw_p11 : lw_okq (⟨"QuietDuty", "takeWay", "(IIII)I"⟩, 7) := ⟨⟨by decide +kernel, by decide +kernel⟩, List.mem_of_getElem? (i := 11) (by decide +kernel), List.mem_of_getElem? (i := 357) (by decide +kernel), List.mem_of_getElem? (i := 358) (by decide +kernel)⟩
theorem lw_p12 : lw_okq (⟨"QuietDuty$Way", "meanTaken", "(LQuietDuty$Border;I)J"⟩, 2) := ⟨⟨by decide +kernel, by decide +kernel⟩, List.mem_of_getElem? (i := 59) (by decide +kernel), List.mem_of_getElem? (i := 375) (by decide +kernel), List.mem_of_getElem? (i := 376) (by decide +kernel)⟩
theorem lw_p13 : lw_okq (⟨"QuietDuty", "cheapestDeclared", "()I"⟩, 7) := ⟨⟨by decide +kernel, by decide +kernel⟩, List.mem_of_getElem? (i := 11) (by decide +kernel), List.mem_of_getElem? (i := 388) (by decide +kernel), List.mem_of_getElem? (i := 389) (by decide +kernel)⟩
theorem lw_p14 : lw_okq (⟨"QuietDuty", "cheapestCarrierRow", "()I"⟩, 7) := ⟨⟨by decide +kernel, by decide +kernel⟩, List.mem_of_getElem? (i := 11) (by decide +kernel), List.mem_of_getElem? (i := 405) (by decide +kernel), List.mem_of_getElem? (i := 406) (by decide +kernel)⟩
theorem lw_p15 : lw_okq (⟨"QuietDuty", "heldTells", "(I)I"⟩, 7) := ⟨⟨by decide +kernel, by decide +kernel⟩, List.mem_of_getElem? (i := 11) (by decide +kernel), List.mem_of_getElem? (i := 506) (by decide +kernel), List.mem_of_getElem? (i := 507) (by decide +kernel)⟩
def lw_privs_1 : List (MethodName × Nat) := [(⟨"QuietDuty", "refused", "(I)I"⟩, 7), (⟨"QuietDuty", "faulted", "(I)I"⟩, 7), (⟨"QuietDuty$TextReader", "takes", "(II)Z"⟩, 4), (⟨"QuietDuty$TextReader", "code", "()I"⟩, 4), (⟨"QuietDuty$TextReader", "codeAt", "(I)I"⟩, 4), (⟨"QuietDuty$TextReader", "digitBefore", "(I)I"⟩, 4), (⟨"QuietDuty$TextReader", "readPosts", "(LQuietDuty$Border;)Z"⟩, 4), (⟨"QuietDuty$TextReader", "readSilences", "(LQuietDuty$Border;)Z"⟩, 4), (⟨"QuietDuty$Border", "dutyByRate", "(I)I"⟩, 16), (⟨"QuietDuty$Border", "minutesByGrade", "(I)I"⟩, 16), (⟨"QuietDuty", "lostUnfaulted", "()J"⟩, 7), (⟨"QuietDuty", "takeWay", "(IIII)I"⟩, 7), (⟨"QuietDuty$Way", "meanTaken", "(LQuietDuty$Border;I)J"⟩, 2), (⟨"QuietDuty", "cheapestDeclared", "()I"⟩, 7), (⟨"QuietDuty", "cheapestCarrierRow", "()I"⟩, 7), (⟨"QuietDuty", "heldTells", "(I)I"⟩, 7)]
theorem lw_r1 : ∀ q ∈ lw_privs_1, lw_okq q := List.forall_mem_cons.mpr ⟨lw_p0, List.forall_mem_cons.mpr ⟨lw_p1, List.forall_mem_cons.mpr ⟨lw_p2, List.forall_mem_cons.mpr ⟨lw_p3, List.forall_mem_cons.mpr ⟨lw_p4, List.forall_mem_cons.mpr ⟨lw_p5, List.forall_mem_cons.mpr ⟨lw_p6, List.forall_mem_cons.mpr ⟨lw_p7, List.forall_mem_cons.mpr ⟨lw_p8, List.forall_mem_cons.mpr ⟨lw_p9, List.forall_mem_cons.mpr ⟨lw_p10, List.forall_mem_cons.mpr ⟨lw_p11, List.forall_mem_cons.mpr ⟨lw_p12, List.forall_mem_cons.mpr ⟨lw_p13, List.forall_mem_cons.mpr ⟨lw_p14, List.forall_mem_cons.mpr ⟨lw_p15, fun _ h => absurd h List.not_mem_nil⟩⟩⟩⟩⟩⟩⟩⟩⟩⟩⟩⟩⟩⟩⟩⟩
theorem lw_p16 : lw_okq (⟨"QuietDuty", "leave", "(I)V"⟩, 7) := ⟨⟨by decide +kernel, by decide +kernel⟩, List.mem_of_getElem? (i := 11) (by decide +kernel), List.mem_of_getElem? (i := 510) (by decide +kernel), List.mem_of_getElem? (i := 511) (by decide +kernel)⟩
theorem lw_p17 : lw_okq (⟨"QuietDuty", "keptTells", "(I)I"⟩, 7) := ⟨⟨by decide +kernel, by decide +kernel⟩, List.mem_of_getElem? (i := 11) (by decide +kernel), List.mem_of_getElem? (i := 514) (by decide +kernel), List.mem_of_getElem? (i := 515) (by decide +kernel)⟩
theorem lw_p18 : lw_okq (⟨"QuietDuty", "silenceTells", "(I)I"⟩, 7) := ⟨⟨by decide +kernel, by decide +kernel⟩, List.mem_of_getElem? (i := 11) (by decide +kernel), List.mem_of_getElem? (i := 518) (by decide +kernel), List.mem_of_getElem? (i := 519) (by decide +kernel)⟩
theorem lw_p19 : lw_okq (⟨"QuietDutyModel", "refused", "(I)I"⟩, 34) := ⟨⟨by decide +kernel, by decide +kernel⟩, List.mem_of_getElem? (i := 542) (by decide +kernel), List.mem_of_getElem? (i := 662) (by decide +kernel), List.mem_of_getElem? (i := 663) (by decide +kernel)⟩
theorem lw_p20 : lw_okq (⟨"QuietDutyModel", "cellsBarred", "(IIIJ)I"⟩, 34) := ⟨⟨by decide +kernel, by decide +kernel⟩, List.mem_of_getElem? (i := 542) (by decide +kernel), List.mem_of_getElem? (i := 667) (by decide +kernel), List.mem_of_getElem? (i := 668) (by decide +kernel)⟩
theorem lw_p21 : lw_okq (⟨"QuietDutyModel", "failed", "(I)I"⟩, 34) := ⟨⟨by decide +kernel, by decide +kernel⟩, List.mem_of_getElem? (i := 542) (by decide +kernel), List.mem_of_getElem? (i := 671) (by decide +kernel), List.mem_of_getElem? (i := 672) (by decide +kernel)⟩
theorem lw_p22 : lw_okq (⟨"QuietDutyModel", "readsFrontier", "(II)Z"⟩, 34) := ⟨⟨by decide +kernel, by decide +kernel⟩, List.mem_of_getElem? (i := 542) (by decide +kernel), List.mem_of_getElem? (i := 678) (by decide +kernel), List.mem_of_getElem? (i := 679) (by decide +kernel)⟩
theorem lw_p23 : lw_okq (⟨"QuietDutyModel", "codeAt", "(II)I"⟩, 34) := ⟨⟨by decide +kernel, by decide +kernel⟩, List.mem_of_getElem? (i := 542) (by decide +kernel), List.mem_of_getElem? (i := 682) (by decide +kernel), List.mem_of_getElem? (i := 683) (by decide +kernel)⟩
theorem lw_p24 : lw_okq (⟨"QuietDutyModel", "figure", "(III)I"⟩, 34) := ⟨⟨by decide +kernel, by decide +kernel⟩, List.mem_of_getElem? (i := 542) (by decide +kernel), List.mem_of_getElem? (i := 686) (by decide +kernel), List.mem_of_getElem? (i := 687) (by decide +kernel)⟩
theorem lw_p25 : lw_okq (⟨"QuietDutyModel", "readsPost", "(II)Z"⟩, 34) := ⟨⟨by decide +kernel, by decide +kernel⟩, List.mem_of_getElem? (i := 542) (by decide +kernel), List.mem_of_getElem? (i := 691) (by decide +kernel), List.mem_of_getElem? (i := 692) (by decide +kernel)⟩
theorem lw_p26 : lw_okq (⟨"QuietDutyModel", "readsSilence", "(II)Z"⟩, 34) := ⟨⟨by decide +kernel, by decide +kernel⟩, List.mem_of_getElem? (i := 542) (by decide +kernel), List.mem_of_getElem? (i := 695) (by decide +kernel), List.mem_of_getElem? (i := 696) (by decide +kernel)⟩
theorem lw_p27 : lw_okq (⟨"QuietDutyModel", "all", "()I"⟩, 34) := ⟨⟨by decide +kernel, by decide +kernel⟩, List.mem_of_getElem? (i := 542) (by decide +kernel), List.mem_of_getElem? (i := 699) (by decide +kernel), List.mem_of_getElem? (i := 700) (by decide +kernel)⟩
theorem lw_p28 : lw_okq (⟨"QuietDutyModel", "noPost", "(I)Z"⟩, 34) := ⟨⟨by decide +kernel, by decide +kernel⟩, List.mem_of_getElem? (i := 542) (by decide +kernel), List.mem_of_getElem? (i := 707) (by decide +kernel), List.mem_of_getElem? (i := 708) (by decide +kernel)⟩
theorem lw_p29 : lw_okq (⟨"QuietDutyModel", "noSilence", "(I)Z"⟩, 34) := ⟨⟨by decide +kernel, by decide +kernel⟩, List.mem_of_getElem? (i := 542) (by decide +kernel), List.mem_of_getElem? (i := 715) (by decide +kernel), List.mem_of_getElem? (i := 716) (by decide +kernel)⟩
theorem lw_p30 : lw_okq (⟨"QuietDutyModel", "gradeOf", "(I)I"⟩, 34) := ⟨⟨by decide +kernel, by decide +kernel⟩, List.mem_of_getElem? (i := 542) (by decide +kernel), List.mem_of_getElem? (i := 719) (by decide +kernel), List.mem_of_getElem? (i := 720) (by decide +kernel)⟩
theorem lw_p31 : lw_okq (⟨"QuietDutyModel", "isDutiable", "(I)Z"⟩, 34) := ⟨⟨by decide +kernel, by decide +kernel⟩, List.mem_of_getElem? (i := 542) (by decide +kernel), List.mem_of_getElem? (i := 726) (by decide +kernel), List.mem_of_getElem? (i := 727) (by decide +kernel)⟩
def lw_privs_2 : List (MethodName × Nat) := [(⟨"QuietDuty", "leave", "(I)V"⟩, 7), (⟨"QuietDuty", "keptTells", "(I)I"⟩, 7), (⟨"QuietDuty", "silenceTells", "(I)I"⟩, 7), (⟨"QuietDutyModel", "refused", "(I)I"⟩, 34), (⟨"QuietDutyModel", "cellsBarred", "(IIIJ)I"⟩, 34), (⟨"QuietDutyModel", "failed", "(I)I"⟩, 34), (⟨"QuietDutyModel", "readsFrontier", "(II)Z"⟩, 34), (⟨"QuietDutyModel", "codeAt", "(II)I"⟩, 34), (⟨"QuietDutyModel", "figure", "(III)I"⟩, 34), (⟨"QuietDutyModel", "readsPost", "(II)Z"⟩, 34), (⟨"QuietDutyModel", "readsSilence", "(II)Z"⟩, 34), (⟨"QuietDutyModel", "all", "()I"⟩, 34), (⟨"QuietDutyModel", "noPost", "(I)Z"⟩, 34), (⟨"QuietDutyModel", "noSilence", "(I)Z"⟩, 34), (⟨"QuietDutyModel", "gradeOf", "(I)I"⟩, 34), (⟨"QuietDutyModel", "isDutiable", "(I)Z"⟩, 34)]
theorem lw_r2 : ∀ q ∈ lw_privs_2, lw_okq q := List.forall_mem_cons.mpr ⟨lw_p16, List.forall_mem_cons.mpr ⟨lw_p17, List.forall_mem_cons.mpr ⟨lw_p18, List.forall_mem_cons.mpr ⟨lw_p19, List.forall_mem_cons.mpr ⟨lw_p20, List.forall_mem_cons.mpr ⟨lw_p21, List.forall_mem_cons.mpr ⟨lw_p22, List.forall_mem_cons.mpr ⟨lw_p23, List.forall_mem_cons.mpr ⟨lw_p24, List.forall_mem_cons.mpr ⟨lw_p25, List.forall_mem_cons.mpr ⟨lw_p26, List.forall_mem_cons.mpr ⟨lw_p27, List.forall_mem_cons.mpr ⟨lw_p28, List.forall_mem_cons.mpr ⟨lw_p29, List.forall_mem_cons.mpr ⟨lw_p30, List.forall_mem_cons.mpr ⟨lw_p31, fun _ h => absurd h List.not_mem_nil⟩⟩⟩⟩⟩⟩⟩⟩⟩⟩⟩⟩⟩⟩⟩⟩
theorem lw_p32 : lw_okq (⟨"QuietDutyModel", "dutyAt", "(I)I"⟩, 34) := ⟨⟨by decide +kernel, by decide +kernel⟩, List.mem_of_getElem? (i := 542) (by decide +kernel), List.mem_of_getElem? (i := 758) (by decide +kernel), List.mem_of_getElem? (i := 759) (by decide +kernel)⟩
theorem lw_p33 : lw_okq (⟨"QuietDutyModel", "dutyOf", "(II)I"⟩, 34) := ⟨⟨by decide +kernel, by decide +kernel⟩, List.mem_of_getElem? (i := 542) (by decide +kernel), List.mem_of_getElem? (i := 762) (by decide +kernel), List.mem_of_getElem? (i := 763) (by decide +kernel)⟩
theorem lw_p34 : lw_okq (⟨"QuietDutyModel", "heardAt", "(II)I"⟩, 34) := ⟨⟨by decide +kernel, by decide +kernel⟩, List.mem_of_getElem? (i := 542) (by decide +kernel), List.mem_of_getElem? (i := 775) (by decide +kernel), List.mem_of_getElem? (i := 776) (by decide +kernel)⟩
theorem lw_p35 : lw_okq (⟨"QuietDutyModel", "refusedLong", "()J"⟩, 34) := ⟨⟨by decide +kernel, by decide +kernel⟩, List.mem_of_getElem? (i := 542) (by decide +kernel), List.mem_of_getElem? (i := 790) (by decide +kernel), List.mem_of_getElem? (i := 791) (by decide +kernel)⟩
theorem lw_p36 : lw_okq (⟨"QuietDutyModel", "wayBarred", "(IIII)I"⟩, 34) := ⟨⟨by decide +kernel, by decide +kernel⟩, List.mem_of_getElem? (i := 542) (by decide +kernel), List.mem_of_getElem? (i := 794) (by decide +kernel), List.mem_of_getElem? (i := 795) (by decide +kernel)⟩
theorem lw_p37 : lw_okq (⟨"QuietDutyModel", "costNow", "(I)J"⟩, 34) := ⟨⟨by decide +kernel, by decide +kernel⟩, List.mem_of_getElem? (i := 542) (by decide +kernel), List.mem_of_getElem? (i := 798) (by decide +kernel), List.mem_of_getElem? (i := 799) (by decide +kernel)⟩
theorem lw_p38 : lw_okq (⟨"QuietDutyModel", "dutyEverywhere", "()I"⟩, 34) := ⟨⟨by decide +kernel, by decide +kernel⟩, List.mem_of_getElem? (i := 542) (by decide +kernel), List.mem_of_getElem? (i := 810) (by decide +kernel), List.mem_of_getElem? (i := 811) (by decide +kernel)⟩
theorem lw_p39 : lw_okq (⟨"QuietDutyModel", "areSo", "()Z"⟩, 34) := ⟨⟨by decide +kernel, by decide +kernel⟩, List.mem_of_getElem? (i := 542) (by decide +kernel), List.mem_of_getElem? (i := 836) (by decide +kernel), List.mem_of_getElem? (i := 837) (by decide +kernel)⟩
theorem lw_p40 : lw_okq (⟨"QuietDutyModel", "noCell", "(II)I"⟩, 34) := ⟨⟨by decide +kernel, by decide +kernel⟩, List.mem_of_getElem? (i := 542) (by decide +kernel), List.mem_of_getElem? (i := 868) (by decide +kernel), List.mem_of_getElem? (i := 869) (by decide +kernel)⟩
theorem lw_p41 : lw_okq (⟨"QuietDutyModel", "failedLong", "(I)J"⟩, 34) := ⟨⟨by decide +kernel, by decide +kernel⟩, List.mem_of_getElem? (i := 542) (by decide +kernel), List.mem_of_getElem? (i := 876) (by decide +kernel), List.mem_of_getElem? (i := 877) (by decide +kernel)⟩
theorem lw_p42 : lw_okq (⟨"QuietDutyModel", "traced", "(I)V"⟩, 34) := ⟨⟨by decide +kernel, by decide +kernel⟩, List.mem_of_getElem? (i := 542) (by decide +kernel), List.mem_of_getElem? (i := 888) (by decide +kernel), List.mem_of_getElem? (i := 889) (by decide +kernel)⟩
def lw_privs_3 : List (MethodName × Nat) := [(⟨"QuietDutyModel", "dutyAt", "(I)I"⟩, 34), (⟨"QuietDutyModel", "dutyOf", "(II)I"⟩, 34), (⟨"QuietDutyModel", "heardAt", "(II)I"⟩, 34), (⟨"QuietDutyModel", "refusedLong", "()J"⟩, 34), (⟨"QuietDutyModel", "wayBarred", "(IIII)I"⟩, 34), (⟨"QuietDutyModel", "costNow", "(I)J"⟩, 34), (⟨"QuietDutyModel", "dutyEverywhere", "()I"⟩, 34), (⟨"QuietDutyModel", "areSo", "()Z"⟩, 34), (⟨"QuietDutyModel", "noCell", "(II)I"⟩, 34), (⟨"QuietDutyModel", "failedLong", "(I)J"⟩, 34), (⟨"QuietDutyModel", "traced", "(I)V"⟩, 34)]
theorem lw_r3 : ∀ q ∈ lw_privs_3, lw_okq q := List.forall_mem_cons.mpr ⟨lw_p32, List.forall_mem_cons.mpr ⟨lw_p33, List.forall_mem_cons.mpr ⟨lw_p34, List.forall_mem_cons.mpr ⟨lw_p35, List.forall_mem_cons.mpr ⟨lw_p36, List.forall_mem_cons.mpr ⟨lw_p37, List.forall_mem_cons.mpr ⟨lw_p38, List.forall_mem_cons.mpr ⟨lw_p39, List.forall_mem_cons.mpr ⟨lw_p40, List.forall_mem_cons.mpr ⟨lw_p41, List.forall_mem_cons.mpr ⟨lw_p42, fun _ h => absurd h List.not_mem_nil⟩⟩⟩⟩⟩⟩⟩⟩⟩⟩⟩
def lw_privs : List (MethodName × Nat) := lw_privs_1 ++ (lw_privs_2 ++ (lw_privs_3))
def lw_tbl : List Cond := k2_sels lw_privs ++ tables_1
theorem lw_privs_ok : ∀ q ∈ lw_privs, lw_okq q := by
  show ∀ q ∈ lw_privs_1 ++ (lw_privs_2 ++ (lw_privs_3)), lw_okq q
  exact List.forall_mem_append.mpr ⟨lw_r1, List.forall_mem_append.mpr ⟨lw_r2, lw_r3⟩⟩
end
section
/-! ===== BEGIN printed: names, fields, word lists, decode rows ===== -/
def RX0 : String := "QuietDuty$Border"
def TX0 : u_T := fun k => match k with
  | 0 => ("QuietDuty$Border", "posts", "I", false)
  | 1 => ("QuietDuty$Border", "rate", "[I", true)
  | 2 => ("QuietDuty$Border", "ear", "[I", true)
  | 3 => ("QuietDuty$Border", "silences", "I", false)
  | 4 => ("QuietDuty$Border", "kind", "[I", true)
  | 5 => ("QuietDuty$Border", "minutes", "[I", true)
  | 6 => ("QuietDuty$Border", "fineness", "[I", true)
  | 7 => ("QuietDuty$Border", "carrier", "[I", true)
  | 8 => ("QuietDuty$Border", "humming", "[I", true)
  | 9 => ("QuietDuty$Border", "declared", "I", false)
  | 10 => ("QuietDuty$Border", "dutiableKinds", "I", false)
  | 11 => ("QuietDuty$Border", "freeMinutes", "I", false)
  | 12 => ("QuietDuty$Border", "leftOut", "I", false)
  | 13 => ("QuietDuty$Border", "readings", "I", false)
  | 14 => ("QuietDuty$Border", "readPost", "[I", true)
  | _ => ("QuietDuty$Border", "readDuty", "[I", true)
def tyX0 : Nat → FieldType := fun k => match k with
  | 0 => .int
  | 1 => .array .int
  | 2 => .array .int
  | 3 => .int
  | 4 => .array .int
  | 5 => .array .int
  | 6 => .array .int
  | 7 => .array .int
  | 8 => .array .int
  | 9 => .int
  | 10 => .int
  | 11 => .int
  | 12 => .int
  | 13 => .int
  | 14 => .array .int
  | _ => .array .int
abbrev wsX00 : List Cond := u_ws RX0 TX0 16
theorem nmX0 : ∀ a, a < 16 → ∀ b, b < 16 → a ≠ b → (TX0 a).2.1 ≠ (TX0 b).2.1 := by decide +kernel
theorem tyX0_ok : ∀ k, k < 16 → parseFieldDescriptor (TX0 k).2.2.1 = some (tyX0 k) := by decide +kernel
abbrev cX0_init : ByteArray := prog_2_method_1_code
def yX0_init : MethodName := ⟨RX0, "<init>", "()V"⟩
abbrev cX0_begin : ByteArray := prog_2_method_2_code
def yX0_begin : MethodName := ⟨RX0, "begin", "()V"⟩
abbrev cX0_addPost : ByteArray := prog_2_method_3_code
def yX0_addPost : MethodName := ⟨RX0, "addPost", "(II)V"⟩
abbrev cX0_addSilence : ByteArray := prog_2_method_4_code
def yX0_addSilence : MethodName := ⟨RX0, "addSilence", "(III)V"⟩
abbrev cX0_isMissing : ByteArray := prog_2_method_5_code
def yX0_isMissing : MethodName := ⟨RX0, "isMissing", "()Z"⟩
abbrev cX0_hasPost : ByteArray := prog_2_method_6_code
def yX0_hasPost : MethodName := ⟨RX0, "hasPost", "(I)Z"⟩
abbrev cX0_hasSilence : ByteArray := prog_2_method_7_code
def yX0_hasSilence : MethodName := ⟨RX0, "hasSilence", "(I)Z"⟩
abbrev cX0_allSilences : ByteArray := prog_2_method_8_code
def yX0_allSilences : MethodName := ⟨RX0, "allSilences", "()I"⟩
abbrev cX0_isDeclared : ByteArray := prog_2_method_9_code
def yX0_isDeclared : MethodName := ⟨RX0, "isDeclared", "(I)Z"⟩
abbrev cX0_isDutiable : ByteArray := prog_2_method_10_code
def yX0_isDutiable : MethodName := ⟨RX0, "isDutiable", "(I)Z"⟩
abbrev cX0_gradeOf : ByteArray := prog_2_method_11_code
def yX0_gradeOf : MethodName := ⟨RX0, "gradeOf", "(I)I"⟩
abbrev cX0_weightOf : ByteArray := prog_2_method_12_code
def yX0_weightOf : MethodName := ⟨RX0, "weightOf", "(I)I"⟩
abbrev cX0_dutyAt : ByteArray := prog_2_method_13_code
def yX0_dutyAt : MethodName := ⟨RX0, "dutyAt", "(I)I"⟩
abbrev cX0_dutyAtAll : ByteArray := prog_2_method_14_code
def yX0_dutyAtAll : MethodName := ⟨RX0, "dutyAtAll", "()I"⟩
abbrev cX0_dutyByRate : ByteArray := prog_2_method_15_code
def yX0_dutyByRate : MethodName := ⟨RX0, "dutyByRate", "(I)I"⟩
abbrev cX0_minutesByGrade : ByteArray := prog_2_method_16_code
def yX0_minutesByGrade : MethodName := ⟨RX0, "minutesByGrade", "(I)I"⟩
abbrev cX0_tenthsHeard : ByteArray := prog_2_method_17_code
def yX0_tenthsHeard : MethodName := ⟨RX0, "tenthsHeard", "(II)I"⟩
abbrev cX0_readingsAreSo : ByteArray := prog_2_method_18_code
def yX0_readingsAreSo : MethodName := ⟨RX0, "readingsAreSo", "()Z"⟩
abbrev cX0_carrierRows : ByteArray := prog_2_method_19_code
def yX0_carrierRows : MethodName := ⟨RX0, "carrierRows", "()I"⟩
abbrev cX0_carrierRow : ByteArray := prog_2_method_20_code
def yX0_carrierRow : MethodName := ⟨RX0, "carrierRow", "()I"⟩
abbrev cX0_setCarrierRow : ByteArray := prog_2_method_21_code
def yX0_setCarrierRow : MethodName := ⟨RX0, "setCarrierRow", "(I)V"⟩
def RX1 : String := "QuietDuty$Sheet"
def TX1 : u_T := fun k => match k with
  | 0 => ("QuietDuty$Sheet", "cells", "[I", true)
  | 1 => ("QuietDuty$Sheet", "lane", "I", false)
  | _ => ("QuietDuty$Sheet", "size", "I", false)
def tyX1 : Nat → FieldType := fun k => match k with
  | 0 => .array .int
  | 1 => .int
  | _ => .int
abbrev wsX10 : List Cond := u_ws RX1 TX1 3
theorem nmX1 : ∀ a, a < 3 → ∀ b, b < 3 → a ≠ b → (TX1 a).2.1 ≠ (TX1 b).2.1 := by decide +kernel
theorem tyX1_ok : ∀ k, k < 3 → parseFieldDescriptor (TX1 k).2.2.1 = some (tyX1 k) := by decide +kernel
abbrev cX1_init : ByteArray := prog_3_method_1_code
def yX1_init : MethodName := ⟨RX1, "<init>", "()V"⟩
abbrev cX1_hasRow : ByteArray := prog_3_method_2_code
def yX1_hasRow : MethodName := ⟨RX1, "hasRow", "()Z"⟩
abbrev cX1_begin : ByteArray := prog_3_method_3_code
def yX1_begin : MethodName := ⟨RX1, "begin", "(II)V"⟩
abbrev cX1_drop : ByteArray := prog_3_method_4_code
def yX1_drop : MethodName := ⟨RX1, "drop", "()V"⟩
abbrev cX1_faultAs : ByteArray := prog_3_method_5_code
def yX1_faultAs : MethodName := ⟨RX1, "faultAs", "(I)I"⟩
abbrev cX1_hasCell : ByteArray := prog_3_method_6_code
def yX1_hasCell : MethodName := ⟨RX1, "hasCell", "(I)Z"⟩
abbrev cX1_hasCells : ByteArray := prog_3_method_7_code
def yX1_hasCells : MethodName := ⟨RX1, "hasCells", "(II)Z"⟩
abbrev cX1_cut : ByteArray := prog_3_method_8_code
def yX1_cut : MethodName := ⟨RX1, "cut", "(I)I"⟩
def RX2 : String := "QuietDuty$TextReader"
def TX2 : u_T := fun k => match k with
  | 0 => ("QuietDuty$TextReader", "from", "LQuietDuty$Sheet;", false)
  | 1 => ("QuietDuty$TextReader", "begin", "I", false)
  | 2 => ("QuietDuty$TextReader", "length", "I", false)
  | _ => ("QuietDuty$TextReader", "at", "I", false)
def tyX2 : Nat → FieldType := fun k => match k with
  | 0 => .object "QuietDuty$Sheet"
  | 1 => .int
  | 2 => .int
  | _ => .int
abbrev wsX20 : List Cond := u_ws RX2 TX2 4
theorem nmX2 : ∀ a, a < 4 → ∀ b, b < 4 → a ≠ b → (TX2 a).2.1 ≠ (TX2 b).2.1 := by decide +kernel
theorem tyX2_ok : ∀ k, k < 4 → parseFieldDescriptor (TX2 k).2.2.1 = some (tyX2 k) := by decide +kernel
abbrev cX2_init : ByteArray := prog_4_method_1_code
def yX2_init : MethodName := ⟨RX2, "<init>", "()V"⟩
abbrev cX2_readInto : ByteArray := prog_4_method_2_code
def yX2_readInto : MethodName := ⟨RX2, "readInto", "(LQuietDuty$Border;LQuietDuty$Sheet;II)Z"⟩
abbrev cX2_place : ByteArray := prog_4_method_3_code
def yX2_place : MethodName := ⟨RX2, "place", "()I"⟩
abbrev cX2_readPosts : ByteArray := prog_4_method_4_code
def yX2_readPosts : MethodName := ⟨RX2, "readPosts", "(LQuietDuty$Border;)Z"⟩
abbrev cX2_readSilences : ByteArray := prog_4_method_5_code
def yX2_readSilences : MethodName := ⟨RX2, "readSilences", "(LQuietDuty$Border;)Z"⟩
abbrev cX2_takes : ByteArray := prog_4_method_6_code
def yX2_takes : MethodName := ⟨RX2, "takes", "(II)Z"⟩
abbrev cX2_code : ByteArray := prog_4_method_7_code
def yX2_code : MethodName := ⟨RX2, "code", "()I"⟩
abbrev cX2_digitBefore : ByteArray := prog_4_method_8_code
def yX2_digitBefore : MethodName := ⟨RX2, "digitBefore", "(I)I"⟩
abbrev cX2_codeAt : ByteArray := prog_4_method_9_code
def yX2_codeAt : MethodName := ⟨RX2, "codeAt", "(I)I"⟩
abbrev cX2_kindOf : ByteArray := prog_4_method_10_code
def yX2_kindOf : MethodName := ⟨RX2, "kindOf", "(I)I"⟩
def RX3 : String := "QuietDuty$Way"
def TX3 : u_T := fun k => match k with
  | 0 => ("QuietDuty$Way", "stops", "[I", true)
  | _ => ("QuietDuty$Way", "length", "I", false)
def tyX3 : Nat → FieldType := fun k => match k with
  | 0 => .array .int
  | _ => .int
abbrev wsX30 : List Cond := u_ws RX3 TX3 2
theorem nmX3 : ∀ a, a < 2 → ∀ b, b < 2 → a ≠ b → (TX3 a).2.1 ≠ (TX3 b).2.1 := by decide +kernel
theorem tyX3_ok : ∀ k, k < 2 → parseFieldDescriptor (TX3 k).2.2.1 = some (tyX3 k) := by decide +kernel
abbrev cX3_init : ByteArray := prog_5_method_1_code
def yX3_init : MethodName := ⟨RX3, "<init>", "()V"⟩
abbrev cX3_begin : ByteArray := prog_5_method_2_code
def yX3_begin : MethodName := ⟨RX3, "begin", "()V"⟩
abbrev cX3_goOn : ByteArray := prog_5_method_3_code
def yX3_goOn : MethodName := ⟨RX3, "goOn", "(I)V"⟩
abbrev cX3_costIn : ByteArray := prog_5_method_4_code
def yX3_costIn : MethodName := ⟨RX3, "costIn", "(LQuietDuty$Border;)J"⟩
abbrev cX3_meanTaken : ByteArray := prog_5_method_5_code
def yX3_meanTaken : MethodName := ⟨RX3, "meanTaken", "(LQuietDuty$Border;I)J"⟩
def RX4 : String := "QuietDuty"
def TX4 : u_T := fun k => match k with
  | 0 => ("QuietDuty", "sheets", "[LQuietDuty$Sheet;", true)
  | 1 => ("QuietDuty", "reader", "LQuietDuty$TextReader;", true)
  | 2 => ("QuietDuty", "way", "LQuietDuty$Way;", true)
  | 3 => ("QuietDuty", "border", "LQuietDuty$Border;", false)
  | 4 => ("QuietDuty", "spare", "LQuietDuty$Border;", false)
  | 5 => ("QuietDuty", "traceSoFar", "I", false)
  | _ => ("QuietDuty", "latestFault", "I", false)
def tyX4 : Nat → FieldType := fun k => match k with
  | 0 => .array (.object "QuietDuty$Sheet")
  | 1 => .object "QuietDuty$TextReader"
  | 2 => .object "QuietDuty$Way"
  | 3 => .object "QuietDuty$Border"
  | 4 => .object "QuietDuty$Border"
  | 5 => .int
  | _ => .int
abbrev wsX40 : List Cond := u_ws RX4 TX4 7
theorem nmX4 : ∀ a, a < 7 → ∀ b, b < 7 → a ≠ b → (TX4 a).2.1 ≠ (TX4 b).2.1 := by decide +kernel
theorem tyX4_ok : ∀ k, k < 7 → parseFieldDescriptor (TX4 k).2.2.1 = some (tyX4 k) := by decide +kernel
abbrev cX4_init : ByteArray := prog_1_method_1_code
def yX4_init : MethodName := ⟨RX4, "<init>", "()V"⟩
abbrev cX4_frontier : ByteArray := prog_1_method_2_code
def yX4_frontier : MethodName := ⟨RX4, "frontier", "(IIII)I"⟩
abbrev cX4_ofPost : ByteArray := prog_1_method_3_code
def yX4_ofPost : MethodName := ⟨RX4, "ofPost", "(II)I"⟩
abbrev cX4_ofSilence : ByteArray := prog_1_method_4_code
def yX4_ofSilence : MethodName := ⟨RX4, "ofSilence", "(II)I"⟩
abbrev cX4_free : ByteArray := prog_1_method_5_code
def yX4_free : MethodName := ⟨RX4, "free", "(I)I"⟩
abbrev cX4_law : ByteArray := prog_1_method_6_code
def yX4_law : MethodName := ⟨RX4, "law", "(I)I"⟩
abbrev cX4_carry : ByteArray := prog_1_method_7_code
def yX4_carry : MethodName := ⟨RX4, "carry", "(II)I"⟩
abbrev cX4_declare : ByteArray := prog_1_method_8_code
def yX4_declare : MethodName := ⟨RX4, "declare", "(IZ)I"⟩
abbrev cX4_hum : ByteArray := prog_1_method_9_code
def yX4_hum : MethodName := ⟨RX4, "hum", "(II)I"⟩
abbrev cX4_duty : ByteArray := prog_1_method_10_code
def yX4_duty : MethodName := ⟨RX4, "duty", "(I)I"⟩
abbrev cX4_clear : ByteArray := prog_1_method_11_code
def yX4_clear : MethodName := ⟨RX4, "clear", "(II)J"⟩
abbrev cX4_cost : ByteArray := prog_1_method_12_code
def yX4_cost : MethodName := ⟨RX4, "cost", "(IIIII)J"⟩
abbrev cX4_say : ByteArray := prog_1_method_13_code
def yX4_say : MethodName := ⟨RX4, "say", "(IIII)I"⟩
abbrev cX4_pack : ByteArray := prog_1_method_14_code
def yX4_pack : MethodName := ⟨RX4, "pack", "(I)I"⟩
abbrev cX4_road : ByteArray := prog_1_method_15_code
def yX4_road : MethodName := ⟨RX4, "road", "()I"⟩
abbrev cX4_worth : ByteArray := prog_1_method_16_code
def yX4_worth : MethodName := ⟨RX4, "worth", "(IIIII)J"⟩
abbrev cX4_reading : ByteArray := prog_1_method_17_code
def yX4_reading : MethodName := ⟨RX4, "reading", "(II)I"⟩
abbrev cX4_back : ByteArray := prog_1_method_18_code
def yX4_back : MethodName := ⟨RX4, "back", "(I)I"⟩
abbrev cX4_said : ByteArray := prog_1_method_19_code
def yX4_said : MethodName := ⟨RX4, "said", "(I)I"⟩
abbrev cX4_frees : ByteArray := prog_1_method_20_code
def yX4_frees : MethodName := ⟨RX4, "frees", "()I"⟩
abbrev cX4_laws : ByteArray := prog_1_method_21_code
def yX4_laws : MethodName := ⟨RX4, "laws", "()I"⟩
abbrev cX4_kinds : ByteArray := prog_1_method_22_code
def yX4_kinds : MethodName := ⟨RX4, "kinds", "(I)I"⟩
abbrev cX4_odds : ByteArray := prog_1_method_23_code
def yX4_odds : MethodName := ⟨RX4, "odds", "(III)J"⟩
abbrev cX4_sheet : ByteArray := prog_1_method_24_code
def yX4_sheet : MethodName := ⟨RX4, "sheet", "(III)I"⟩
abbrev cX4_lose : ByteArray := prog_1_method_25_code
def yX4_lose : MethodName := ⟨RX4, "lose", "(I)I"⟩
abbrev cX4_put : ByteArray := prog_1_method_26_code
def yX4_put : MethodName := ⟨RX4, "put", "(III)I"⟩
abbrev cX4_cell : ByteArray := prog_1_method_27_code
def yX4_cell : MethodName := ⟨RX4, "cell", "(III)J"⟩
abbrev cX4_copy : ByteArray := prog_1_method_28_code
def yX4_copy : MethodName := ⟨RX4, "copy", "(IIIII)I"⟩
abbrev cX4_tell : ByteArray := prog_1_method_29_code
def yX4_tell : MethodName := ⟨RX4, "tell", "(I)I"⟩
abbrev cX4_hush : ByteArray := prog_1_method_30_code
def yX4_hush : MethodName := ⟨RX4, "hush", "(I)I"⟩
abbrev cX4_as : ByteArray := prog_1_method_31_code
def yX4_as : MethodName := ⟨RX4, "as", "(II)I"⟩
abbrev cX4_trace : ByteArray := prog_1_method_32_code
def yX4_trace : MethodName := ⟨RX4, "trace", "()I"⟩
abbrev cX4_fault : ByteArray := prog_1_method_33_code
def yX4_fault : MethodName := ⟨RX4, "fault", "()I"⟩
abbrev cX4_many : ByteArray := prog_1_method_34_code
def yX4_many : MethodName := ⟨RX4, "many", "(I)I"⟩
abbrev cX4_isWithin : ByteArray := prog_1_method_35_code
def yX4_isWithin : MethodName := ⟨RX4, "isWithin", "(III)Z"⟩
abbrev cX4_isSheet : ByteArray := prog_1_method_36_code
def yX4_isSheet : MethodName := ⟨RX4, "isSheet", "(I)Z"⟩
abbrev cX4_refusalOfRow : ByteArray := prog_1_method_37_code
def yX4_refusalOfRow : MethodName := ⟨RX4, "refusalOfRow", "(II)I"⟩
abbrev cX4_refused : ByteArray := prog_1_method_38_code
def yX4_refused : MethodName := ⟨RX4, "refused", "(I)I"⟩
abbrev cX4_lostUnfaulted : ByteArray := prog_1_method_39_code
def yX4_lostUnfaulted : MethodName := ⟨RX4, "lostUnfaulted", "()J"⟩
abbrev cX4_faulted : ByteArray := prog_1_method_40_code
def yX4_faulted : MethodName := ⟨RX4, "faulted", "(I)I"⟩
abbrev cX4_takeWay : ByteArray := prog_1_method_41_code
def yX4_takeWay : MethodName := ⟨RX4, "takeWay", "(IIII)I"⟩
abbrev cX4_cheapestDeclared : ByteArray := prog_1_method_42_code
def yX4_cheapestDeclared : MethodName := ⟨RX4, "cheapestDeclared", "()I"⟩
abbrev cX4_cheapestCarrierRow : ByteArray := prog_1_method_43_code
def yX4_cheapestCarrierRow : MethodName := ⟨RX4, "cheapestCarrierRow", "()I"⟩
abbrev cX4_leastTerms : ByteArray := prog_1_method_44_code
def yX4_leastTerms : MethodName := ⟨RX4, "leastTerms", "(JJI)J"⟩
abbrev cX4_commonDivisor : ByteArray := prog_1_method_45_code
def yX4_commonDivisor : MethodName := ⟨RX4, "commonDivisor", "(JJ)J"⟩
abbrev cX4_leave : ByteArray := prog_1_method_46_code
def yX4_leave : MethodName := ⟨RX4, "leave", "(I)V"⟩
abbrev cX4_silenceTells : ByteArray := prog_1_method_47_code
def yX4_silenceTells : MethodName := ⟨RX4, "silenceTells", "(I)I"⟩
abbrev cX4_keptTells : ByteArray := prog_1_method_48_code
def yX4_keptTells : MethodName := ⟨RX4, "keptTells", "(I)I"⟩
abbrev cX4_heldTells : ByteArray := prog_1_method_49_code
def yX4_heldTells : MethodName := ⟨RX4, "heldTells", "(I)I"⟩
def RX5 : String := "QuietDutyModel"
def TX5 : u_T := fun k => match k with
  | 0 => ("QuietDutyModel", "fault", "I", false)
  | 1 => ("QuietDutyModel", "posts", "I", false)
  | 2 => ("QuietDutyModel", "rateOf", "[I", true)
  | 3 => ("QuietDutyModel", "earOf", "[I", true)
  | 4 => ("QuietDutyModel", "silences", "I", false)
  | 5 => ("QuietDutyModel", "kindOf", "[I", true)
  | 6 => ("QuietDutyModel", "longOf", "[I", true)
  | 7 => ("QuietDutyModel", "fineOf", "[I", true)
  | 8 => ("QuietDutyModel", "carrierOf", "[I", true)
  | 9 => ("QuietDutyModel", "humsNow", "[I", true)
  | 10 => ("QuietDutyModel", "declared", "I", false)
  | 11 => ("QuietDutyModel", "freeNow", "I", false)
  | 12 => ("QuietDutyModel", "lawNow", "I", false)
  | 13 => ("QuietDutyModel", "without", "I", false)
  | 14 => ("QuietDutyModel", "readAt", "I", false)
  | 15 => ("QuietDutyModel", "readFree", "I", false)
  | 16 => ("QuietDutyModel", "readPosts", "I", false)
  | 17 => ("QuietDutyModel", "readSilences", "I", false)
  | 18 => ("QuietDutyModel", "readRate", "[I", true)
  | 19 => ("QuietDutyModel", "readEar", "[I", true)
  | 20 => ("QuietDutyModel", "readKind", "[I", true)
  | 21 => ("QuietDutyModel", "readLong", "[I", true)
  | 22 => ("QuietDutyModel", "readFine", "[I", true)
  | 23 => ("QuietDutyModel", "wayNow", "[I", true)
  | 24 => ("QuietDutyModel", "keptCarrier", "[I", true)
  | 25 => ("QuietDutyModel", "bestCarrier", "[I", true)
  | 26 => ("QuietDutyModel", "readings", "I", false)
  | 27 => ("QuietDutyModel", "readingOf", "[I", true)
  | 28 => ("QuietDutyModel", "readingPaid", "[I", true)
  | 29 => ("QuietDutyModel", "sheetSize", "[I", true)
  | 30 => ("QuietDutyModel", "sheetLane", "[I", true)
  | 31 => ("QuietDutyModel", "sheet", "[I", true)
  | 32 => ("QuietDutyModel", "hands", "[I", true)
  | _ => ("QuietDutyModel", "traceNow", "I", false)
def tyX5 : Nat → FieldType := fun k => match k with
  | 0 => .int
  | 1 => .int
  | 2 => .array .int
  | 3 => .array .int
  | 4 => .int
  | 5 => .array .int
  | 6 => .array .int
  | 7 => .array .int
  | 8 => .array .int
  | 9 => .array .int
  | 10 => .int
  | 11 => .int
  | 12 => .int
  | 13 => .int
  | 14 => .int
  | 15 => .int
  | 16 => .int
  | 17 => .int
  | 18 => .array .int
  | 19 => .array .int
  | 20 => .array .int
  | 21 => .array .int
  | 22 => .array .int
  | 23 => .array .int
  | 24 => .array .int
  | 25 => .array .int
  | 26 => .int
  | 27 => .array .int
  | 28 => .array .int
  | 29 => .array .int
  | 30 => .array .int
  | 31 => .array .int
  | 32 => .array .int
  | _ => .int
abbrev wsX50 : List Cond := u_ws RX5 TX5 34
theorem nmX5 : ∀ a, a < 34 → ∀ b, b < 34 → a ≠ b → (TX5 a).2.1 ≠ (TX5 b).2.1 := by decide +kernel
theorem tyX5_ok : ∀ k, k < 34 → parseFieldDescriptor (TX5 k).2.2.1 = some (tyX5 k) := by decide +kernel
abbrev cX5_init : ByteArray := prog_7_method_1_code
def yX5_init : MethodName := ⟨RX5, "<init>", "()V"⟩
abbrev cX5_in : ByteArray := prog_7_method_2_code
def yX5_in : MethodName := ⟨RX5, "in", "(JJJ)Z"⟩
abbrev cX5_lost : ByteArray := prog_7_method_3_code
def yX5_lost : MethodName := ⟨RX5, "lost", "()J"⟩
abbrev cX5_isIn : ByteArray := prog_7_method_4_code
def yX5_isIn : MethodName := ⟨RX5, "isIn", "(II)Z"⟩
abbrev cX5_told : ByteArray := prog_7_method_5_code
def yX5_told : MethodName := ⟨RX5, "told", "(JJI)J"⟩
abbrev cX5_tens : ByteArray := prog_7_method_6_code
def yX5_tens : MethodName := ⟨RX5, "tens", "(I)J"⟩
abbrev cX5_refused : ByteArray := prog_7_method_7_code
def yX5_refused : MethodName := ⟨RX5, "refused", "(I)I"⟩
abbrev cX5_failed : ByteArray := prog_7_method_8_code
def yX5_failed : MethodName := ⟨RX5, "failed", "(I)I"⟩
abbrev cX5_failedLong : ByteArray := prog_7_method_9_code
def yX5_failedLong : MethodName := ⟨RX5, "failedLong", "(I)J"⟩
abbrev cX5_noPost : ByteArray := prog_7_method_10_code
def yX5_noPost : MethodName := ⟨RX5, "noPost", "(I)Z"⟩
abbrev cX5_noSilence : ByteArray := prog_7_method_11_code
def yX5_noSilence : MethodName := ⟨RX5, "noSilence", "(I)Z"⟩
abbrev cX5_noCarrier : ByteArray := prog_7_method_12_code
def yX5_noCarrier : MethodName := ⟨RX5, "noCarrier", "(I)Z"⟩
abbrev cX5_all : ByteArray := prog_7_method_13_code
def yX5_all : MethodName := ⟨RX5, "all", "()I"⟩
abbrev cX5_codeAt : ByteArray := prog_7_method_14_code
def yX5_codeAt : MethodName := ⟨RX5, "codeAt", "(II)I"⟩
abbrev cX5_figure : ByteArray := prog_7_method_15_code
def yX5_figure : MethodName := ⟨RX5, "figure", "(III)I"⟩
abbrev cX5_readsPost : ByteArray := prog_7_method_16_code
def yX5_readsPost : MethodName := ⟨RX5, "readsPost", "(II)Z"⟩
abbrev cX5_readsSilence : ByteArray := prog_7_method_17_code
def yX5_readsSilence : MethodName := ⟨RX5, "readsSilence", "(II)Z"⟩
abbrev cX5_readsFrontier : ByteArray := prog_7_method_18_code
def yX5_readsFrontier : MethodName := ⟨RX5, "readsFrontier", "(II)Z"⟩
abbrev cX5_cellsBarred : ByteArray := prog_7_method_19_code
def yX5_cellsBarred : MethodName := ⟨RX5, "cellsBarred", "(IIIJ)I"⟩
abbrev cX5_frontier : ByteArray := prog_7_method_20_code
def yX5_frontier : MethodName := ⟨RX5, "frontier", "(IIII)I"⟩
abbrev cX5_gradeOf : ByteArray := prog_7_method_21_code
def yX5_gradeOf : MethodName := ⟨RX5, "gradeOf", "(I)I"⟩
abbrev cX5_isDutiable : ByteArray := prog_7_method_22_code
def yX5_isDutiable : MethodName := ⟨RX5, "isDutiable", "(I)Z"⟩
abbrev cX5_ofPost : ByteArray := prog_7_method_23_code
def yX5_ofPost : MethodName := ⟨RX5, "ofPost", "(II)I"⟩
abbrev cX5_ofSilence : ByteArray := prog_7_method_24_code
def yX5_ofSilence : MethodName := ⟨RX5, "ofSilence", "(II)I"⟩
abbrev cX5_free : ByteArray := prog_7_method_25_code
def yX5_free : MethodName := ⟨RX5, "free", "(I)I"⟩
abbrev cX5_law : ByteArray := prog_7_method_26_code
def yX5_law : MethodName := ⟨RX5, "law", "(I)I"⟩
abbrev cX5_carry : ByteArray := prog_7_method_27_code
def yX5_carry : MethodName := ⟨RX5, "carry", "(II)I"⟩
abbrev cX5_declare : ByteArray := prog_7_method_28_code
def yX5_declare : MethodName := ⟨RX5, "declare", "(IZ)I"⟩
abbrev cX5_hum : ByteArray := prog_7_method_29_code
def yX5_hum : MethodName := ⟨RX5, "hum", "(II)I"⟩
abbrev cX5_dutyOf : ByteArray := prog_7_method_30_code
def yX5_dutyOf : MethodName := ⟨RX5, "dutyOf", "(II)I"⟩
abbrev cX5_dutyAt : ByteArray := prog_7_method_31_code
def yX5_dutyAt : MethodName := ⟨RX5, "dutyAt", "(I)I"⟩
abbrev cX5_duty : ByteArray := prog_7_method_32_code
def yX5_duty : MethodName := ⟨RX5, "duty", "(I)I"⟩
abbrev cX5_heardAt : ByteArray := prog_7_method_33_code
def yX5_heardAt : MethodName := ⟨RX5, "heardAt", "(II)I"⟩
abbrev cX5_clear : ByteArray := prog_7_method_34_code
def yX5_clear : MethodName := ⟨RX5, "clear", "(II)J"⟩
abbrev cX5_costNow : ByteArray := prog_7_method_35_code
def yX5_costNow : MethodName := ⟨RX5, "costNow", "(I)J"⟩
abbrev cX5_wayBarred : ByteArray := prog_7_method_36_code
def yX5_wayBarred : MethodName := ⟨RX5, "wayBarred", "(IIII)I"⟩
abbrev cX5_refusedLong : ByteArray := prog_7_method_37_code
def yX5_refusedLong : MethodName := ⟨RX5, "refusedLong", "()J"⟩
abbrev cX5_cost : ByteArray := prog_7_method_38_code
def yX5_cost : MethodName := ⟨RX5, "cost", "(IIIII)J"⟩
abbrev cX5_say : ByteArray := prog_7_method_39_code
def yX5_say : MethodName := ⟨RX5, "say", "(IIII)I"⟩
abbrev cX5_dutyEverywhere : ByteArray := prog_7_method_40_code
def yX5_dutyEverywhere : MethodName := ⟨RX5, "dutyEverywhere", "()I"⟩
abbrev cX5_pack : ByteArray := prog_7_method_41_code
def yX5_pack : MethodName := ⟨RX5, "pack", "(I)I"⟩
abbrev cX5_road : ByteArray := prog_7_method_42_code
def yX5_road : MethodName := ⟨RX5, "road", "()I"⟩
abbrev cX5_worth : ByteArray := prog_7_method_43_code
def yX5_worth : MethodName := ⟨RX5, "worth", "(IIIII)J"⟩
abbrev cX5_reading : ByteArray := prog_7_method_44_code
def yX5_reading : MethodName := ⟨RX5, "reading", "(II)I"⟩
abbrev cX5_back : ByteArray := prog_7_method_45_code
def yX5_back : MethodName := ⟨RX5, "back", "(I)I"⟩
abbrev cX5_areSo : ByteArray := prog_7_method_46_code
def yX5_areSo : MethodName := ⟨RX5, "areSo", "()Z"⟩
abbrev cX5_said : ByteArray := prog_7_method_47_code
def yX5_said : MethodName := ⟨RX5, "said", "(I)I"⟩
abbrev cX5_frees : ByteArray := prog_7_method_48_code
def yX5_frees : MethodName := ⟨RX5, "frees", "()I"⟩
abbrev cX5_laws : ByteArray := prog_7_method_49_code
def yX5_laws : MethodName := ⟨RX5, "laws", "()I"⟩
abbrev cX5_kinds : ByteArray := prog_7_method_50_code
def yX5_kinds : MethodName := ⟨RX5, "kinds", "(I)I"⟩
abbrev cX5_odds : ByteArray := prog_7_method_51_code
def yX5_odds : MethodName := ⟨RX5, "odds", "(III)J"⟩
abbrev cX5_noSheet : ByteArray := prog_7_method_52_code
def yX5_noSheet : MethodName := ⟨RX5, "noSheet", "(I)Z"⟩
abbrev cX5_sheet : ByteArray := prog_7_method_53_code
def yX5_sheet : MethodName := ⟨RX5, "sheet", "(III)I"⟩
abbrev cX5_lose : ByteArray := prog_7_method_54_code
def yX5_lose : MethodName := ⟨RX5, "lose", "(I)I"⟩
abbrev cX5_noCell : ByteArray := prog_7_method_55_code
def yX5_noCell : MethodName := ⟨RX5, "noCell", "(II)I"⟩
abbrev cX5_put : ByteArray := prog_7_method_56_code
def yX5_put : MethodName := ⟨RX5, "put", "(III)I"⟩
abbrev cX5_cell : ByteArray := prog_7_method_57_code
def yX5_cell : MethodName := ⟨RX5, "cell", "(III)J"⟩
abbrev cX5_isBeyond : ByteArray := prog_7_method_58_code
def yX5_isBeyond : MethodName := ⟨RX5, "isBeyond", "(IJI)Z"⟩
abbrev cX5_copy : ByteArray := prog_7_method_59_code
def yX5_copy : MethodName := ⟨RX5, "copy", "(IIIII)I"⟩
abbrev cX5_traced : ByteArray := prog_7_method_60_code
def yX5_traced : MethodName := ⟨RX5, "traced", "(I)V"⟩
abbrev cX5_tell : ByteArray := prog_7_method_61_code
def yX5_tell : MethodName := ⟨RX5, "tell", "(I)I"⟩
abbrev cX5_hush : ByteArray := prog_7_method_62_code
def yX5_hush : MethodName := ⟨RX5, "hush", "(I)I"⟩
abbrev cX5_as : ByteArray := prog_7_method_63_code
def yX5_as : MethodName := ⟨RX5, "as", "(II)I"⟩
abbrev cX5_trace : ByteArray := prog_7_method_64_code
def yX5_trace : MethodName := ⟨RX5, "trace", "()I"⟩
abbrev cX5_fault : ByteArray := prog_7_method_65_code
def yX5_fault : MethodName := ⟨RX5, "fault", "()I"⟩
abbrev cX5_many : ByteArray := prog_7_method_66_code
def yX5_many : MethodName := ⟨RX5, "many", "(I)I"⟩
def RJ9 : String := "java/lang/Math"
def TJ9 : u_T := fun k => match k with
  | _ => ("", "", "", false)
def tyJ9 : Nat → FieldType := fun k => match k with
  | _ => .int
abbrev wsJ90 : List Cond := u_ws RJ9 TJ9 0
theorem nmJ9 : ∀ a, a < 0 → ∀ b, b < 0 → a ≠ b → (TJ9 a).2.1 ≠ (TJ9 b).2.1 := by decide +kernel
theorem tyJ9_ok : ∀ k, k < 0 → parseFieldDescriptor (TJ9 k).2.2.1 = some (tyJ9 k) := by decide +kernel
abbrev cJ9_max_7cf53 : ByteArray := prog_8_method_65_code
def yJ9_max_7cf53 : MethodName := ⟨RJ9, "max", "(II)I"⟩
def RJ10 : String := "java/lang/System"
def TJ10 : u_T := fun k => match k with
  | _ => ("", "", "", false)
def tyJ10 : Nat → FieldType := fun k => match k with
  | _ => .int
abbrev wsJ100 : List Cond := u_ws RJ10 TJ10 0
theorem nmJ10 : ∀ a, a < 0 → ∀ b, b < 0 → a ≠ b → (TJ10 a).2.1 ≠ (TJ10 b).2.1 := by decide +kernel
theorem tyJ10_ok : ∀ k, k < 0 → parseFieldDescriptor (TJ10 k).2.2.1 = some (tyJ10 k) := by decide +kernel
def RJ7 : String := "java/util/Arrays"
def TJ7 : u_T := fun k => match k with
  | _ => ("", "", "", false)
def tyJ7 : Nat → FieldType := fun k => match k with
  | _ => .int
abbrev wsJ70 : List Cond := u_ws RJ7 TJ7 0
theorem nmJ7 : ∀ a, a < 0 → ∀ b, b < 0 → a ≠ b → (TJ7 a).2.1 ≠ (TJ7 b).2.1 := by decide +kernel
theorem tyJ7_ok : ∀ k, k < 0 → parseFieldDescriptor (TJ7 k).2.2.1 = some (tyJ7 k) := by decide +kernel
abbrev cJ7_fill_53178 : ByteArray := prog_10_method_103_code
def yJ7_fill_53178 : MethodName := ⟨RJ7, "fill", "([II)V"⟩
def RL : String := "QuietDutyLaw"
abbrev cL_law : ByteArray := code
def yL_law : MethodName := ⟨RL, "law", "([I)Z"⟩
end
section
theorem dJ9_max_7cf53_0 : decode cJ9_max_7cf53 0 = .ok (.iload_n 0, 1) := by decide +kernel
theorem dJ9_max_7cf53_1 : decode cJ9_max_7cf53 1 = .ok (.iload_n 1, 1) := by decide +kernel
theorem dJ9_max_7cf53_2 : decode cJ9_max_7cf53 2 = .ok (.if_icmp .lt 7, 3) := by decide +kernel
theorem dJ9_max_7cf53_5 : decode cJ9_max_7cf53 5 = .ok (.iload_n 0, 1) := by decide +kernel
theorem dJ9_max_7cf53_6 : decode cJ9_max_7cf53 6 = .ok (.goto 4, 3) := by decide +kernel
theorem dJ9_max_7cf53_9 : decode cJ9_max_7cf53 9 = .ok (.iload_n 1, 1) := by decide +kernel
theorem dJ9_max_7cf53_10 : decode cJ9_max_7cf53 10 = .ok (.ireturn, 1) := by decide +kernel
theorem dJ7_fill_53178_0 : decode cJ7_fill_53178 0 = .ok (.iconst 0, 1) := by decide +kernel
theorem dJ7_fill_53178_1 : decode cJ7_fill_53178 1 = .ok (.istore_n 2, 1) := by decide +kernel
theorem dJ7_fill_53178_2 : decode cJ7_fill_53178 2 = .ok (.aload_n 0, 1) := by decide +kernel
theorem dJ7_fill_53178_3 : decode cJ7_fill_53178 3 = .ok (.arraylength, 1) := by decide +kernel
theorem dJ7_fill_53178_4 : decode cJ7_fill_53178 4 = .ok (.istore_n 3, 1) := by decide +kernel
theorem dJ7_fill_53178_5 : decode cJ7_fill_53178 5 = .ok (.iload_n 2, 1) := by decide +kernel
theorem dJ7_fill_53178_6 : decode cJ7_fill_53178 6 = .ok (.iload_n 3, 1) := by decide +kernel
theorem dJ7_fill_53178_7 : decode cJ7_fill_53178 7 = .ok (.if_icmp .ge 13, 3) := by decide +kernel
theorem dJ7_fill_53178_10 : decode cJ7_fill_53178 10 = .ok (.aload_n 0, 1) := by decide +kernel
theorem dJ7_fill_53178_11 : decode cJ7_fill_53178 11 = .ok (.iload_n 2, 1) := by decide +kernel
theorem dJ7_fill_53178_12 : decode cJ7_fill_53178 12 = .ok (.iload_n 1, 1) := by decide +kernel
theorem dJ7_fill_53178_13 : decode cJ7_fill_53178 13 = .ok (.iastore, 1) := by decide +kernel
theorem dJ7_fill_53178_14 : decode cJ7_fill_53178 14 = .ok (.iinc 2 1, 3) := by decide +kernel
theorem dJ7_fill_53178_17 : decode cJ7_fill_53178 17 = .ok (.goto (-12), 3) := by decide +kernel
theorem dJ7_fill_53178_20 : decode cJ7_fill_53178 20 = .ok (.return_, 1) := by decide +kernel
theorem dX0_init_0 : decode cX0_init 0 = .ok (.aload_n 0, 1) := by decide +kernel
theorem dX0_init_1 : decode cX0_init 1 = .ok (.invokespecial 3, 3) := by decide +kernel
theorem dX0_init_4 : decode cX0_init 4 = .ok (.aload_n 0, 1) := by decide +kernel
theorem dX0_init_5 : decode cX0_init 5 = .ok (.iconst 4, 1) := by decide +kernel
theorem dX0_init_6 : decode cX0_init 6 = .ok (.newarray .int, 2) := by decide +kernel
theorem dX0_init_8 : decode cX0_init 8 = .ok (.putfield 9, 3) := by decide +kernel
theorem dX0_init_11 : decode cX0_init 11 = .ok (.aload_n 0, 1) := by decide +kernel
theorem dX0_init_12 : decode cX0_init 12 = .ok (.iconst 4, 1) := by decide +kernel
theorem dX0_init_13 : decode cX0_init 13 = .ok (.newarray .int, 2) := by decide +kernel
theorem dX0_init_15 : decode cX0_init 15 = .ok (.putfield 15, 3) := by decide +kernel
theorem dX0_init_18 : decode cX0_init 18 = .ok (.aload_n 0, 1) := by decide +kernel
theorem dX0_init_19 : decode cX0_init 19 = .ok (.iconst 4, 1) := by decide +kernel
theorem dX0_init_20 : decode cX0_init 20 = .ok (.newarray .int, 2) := by decide +kernel
theorem dX0_init_22 : decode cX0_init 22 = .ok (.putfield 18, 3) := by decide +kernel
theorem dX0_init_25 : decode cX0_init 25 = .ok (.aload_n 0, 1) := by decide +kernel
theorem dX0_init_26 : decode cX0_init 26 = .ok (.iconst 4, 1) := by decide +kernel
theorem dX0_init_27 : decode cX0_init 27 = .ok (.newarray .int, 2) := by decide +kernel
theorem dX0_init_29 : decode cX0_init 29 = .ok (.putfield 21, 3) := by decide +kernel
theorem dX0_init_32 : decode cX0_init 32 = .ok (.aload_n 0, 1) := by decide +kernel
theorem dX0_init_33 : decode cX0_init 33 = .ok (.iconst 4, 1) := by decide +kernel
theorem dX0_init_34 : decode cX0_init 34 = .ok (.newarray .int, 2) := by decide +kernel
theorem dX0_init_36 : decode cX0_init 36 = .ok (.putfield 24, 3) := by decide +kernel
theorem dX0_init_39 : decode cX0_init 39 = .ok (.aload_n 0, 1) := by decide +kernel
theorem dX0_init_40 : decode cX0_init 40 = .ok (.iconst 4, 1) := by decide +kernel
theorem dX0_init_41 : decode cX0_init 41 = .ok (.newarray .int, 2) := by decide +kernel
theorem dX0_init_43 : decode cX0_init 43 = .ok (.putfield 27, 3) := by decide +kernel
theorem dX0_init_46 : decode cX0_init 46 = .ok (.aload_n 0, 1) := by decide +kernel
theorem dX0_init_47 : decode cX0_init 47 = .ok (.iconst 3, 1) := by decide +kernel
theorem dX0_init_48 : decode cX0_init 48 = .ok (.newarray .int, 2) := by decide +kernel
theorem dX0_init_50 : decode cX0_init 50 = .ok (.putfield 30, 3) := by decide +kernel
theorem dX0_init_53 : decode cX0_init 53 = .ok (.aload_n 0, 1) := by decide +kernel
theorem dX0_init_54 : decode cX0_init 54 = .ok (.bipush (-9), 2) := by decide +kernel
theorem dX0_init_56 : decode cX0_init 56 = .ok (.putfield 33, 3) := by decide +kernel
theorem dX0_init_59 : decode cX0_init 59 = .ok (.aload_n 0, 1) := by decide +kernel
theorem dX0_init_60 : decode cX0_init 60 = .ok (.bipush 8, 2) := by decide +kernel
theorem dX0_init_62 : decode cX0_init 62 = .ok (.newarray .int, 2) := by decide +kernel
theorem dX0_init_64 : decode cX0_init 64 = .ok (.putfield 37, 3) := by decide +kernel
theorem dX0_init_67 : decode cX0_init 67 = .ok (.aload_n 0, 1) := by decide +kernel
theorem dX0_init_68 : decode cX0_init 68 = .ok (.bipush 8, 2) := by decide +kernel
theorem dX0_init_70 : decode cX0_init 70 = .ok (.newarray .int, 2) := by decide +kernel
theorem dX0_init_72 : decode cX0_init 72 = .ok (.putfield 40, 3) := by decide +kernel
theorem dX0_init_75 : decode cX0_init 75 = .ok (.return_, 1) := by decide +kernel
theorem dX0_begin_0 : decode cX0_begin 0 = .ok (.aload_n 0, 1) := by decide +kernel
theorem dX0_begin_1 : decode cX0_begin 1 = .ok (.iconst 0, 1) := by decide +kernel
theorem dX0_begin_2 : decode cX0_begin 2 = .ok (.putfield 43, 3) := by decide +kernel
theorem dX0_begin_5 : decode cX0_begin 5 = .ok (.aload_n 0, 1) := by decide +kernel
theorem dX0_begin_6 : decode cX0_begin 6 = .ok (.iconst 0, 1) := by decide +kernel
theorem dX0_begin_7 : decode cX0_begin 7 = .ok (.putfield 46, 3) := by decide +kernel
theorem dX0_begin_10 : decode cX0_begin 10 = .ok (.aload_n 0, 1) := by decide +kernel
theorem dX0_begin_11 : decode cX0_begin 11 = .ok (.iconst 0, 1) := by decide +kernel
theorem dX0_begin_12 : decode cX0_begin 12 = .ok (.putfield 49, 3) := by decide +kernel
theorem dX0_begin_15 : decode cX0_begin 15 = .ok (.aload_n 0, 1) := by decide +kernel
theorem dX0_begin_16 : decode cX0_begin 16 = .ok (.bipush 7, 2) := by decide +kernel
theorem dX0_begin_18 : decode cX0_begin 18 = .ok (.putfield 52, 3) := by decide +kernel
theorem dX0_begin_21 : decode cX0_begin 21 = .ok (.aload_n 0, 1) := by decide +kernel
theorem dX0_begin_22 : decode cX0_begin 22 = .ok (.iconst 0, 1) := by decide +kernel
theorem dX0_begin_23 : decode cX0_begin 23 = .ok (.putfield 55, 3) := by decide +kernel
theorem dX0_begin_26 : decode cX0_begin 26 = .ok (.aload_n 0, 1) := by decide +kernel
theorem dX0_begin_27 : decode cX0_begin 27 = .ok (.iconst 0, 1) := by decide +kernel
theorem dX0_begin_28 : decode cX0_begin 28 = .ok (.putfield 58, 3) := by decide +kernel
theorem dX0_begin_31 : decode cX0_begin 31 = .ok (.aload_n 0, 1) := by decide +kernel
theorem dX0_begin_32 : decode cX0_begin 32 = .ok (.getfield 30, 3) := by decide +kernel
theorem dX0_begin_35 : decode cX0_begin 35 = .ok (.iconst 0, 1) := by decide +kernel
theorem dX0_begin_36 : decode cX0_begin 36 = .ok (.invokestatic 61, 3) := by decide +kernel
theorem dX0_begin_39 : decode cX0_begin 39 = .ok (.return_, 1) := by decide +kernel
theorem dX0_addPost_0 : decode cX0_addPost 0 = .ok (.aload_n 0, 1) := by decide +kernel
theorem dX0_addPost_1 : decode cX0_addPost 1 = .ok (.getfield 43, 3) := by decide +kernel
theorem dX0_addPost_4 : decode cX0_addPost 4 = .ok (.iconst 4, 1) := by decide +kernel
theorem dX0_addPost_5 : decode cX0_addPost 5 = .ok (.if_icmp .ge 33, 3) := by decide +kernel
theorem dX0_addPost_8 : decode cX0_addPost 8 = .ok (.aload_n 0, 1) := by decide +kernel
theorem dX0_addPost_9 : decode cX0_addPost 9 = .ok (.getfield 9, 3) := by decide +kernel
theorem dX0_addPost_12 : decode cX0_addPost 12 = .ok (.aload_n 0, 1) := by decide +kernel
theorem dX0_addPost_13 : decode cX0_addPost 13 = .ok (.getfield 43, 3) := by decide +kernel
theorem dX0_addPost_16 : decode cX0_addPost 16 = .ok (.iload_n 1, 1) := by decide +kernel
theorem dX0_addPost_17 : decode cX0_addPost 17 = .ok (.iastore, 1) := by decide +kernel
theorem dX0_addPost_18 : decode cX0_addPost 18 = .ok (.aload_n 0, 1) := by decide +kernel
theorem dX0_addPost_19 : decode cX0_addPost 19 = .ok (.getfield 15, 3) := by decide +kernel
theorem dX0_addPost_22 : decode cX0_addPost 22 = .ok (.aload_n 0, 1) := by decide +kernel
theorem dX0_addPost_23 : decode cX0_addPost 23 = .ok (.getfield 43, 3) := by decide +kernel
theorem dX0_addPost_26 : decode cX0_addPost 26 = .ok (.iload_n 2, 1) := by decide +kernel
theorem dX0_addPost_27 : decode cX0_addPost 27 = .ok (.iastore, 1) := by decide +kernel
theorem dX0_addPost_28 : decode cX0_addPost 28 = .ok (.aload_n 0, 1) := by decide +kernel
theorem dX0_addPost_29 : decode cX0_addPost 29 = .ok (.dup, 1) := by decide +kernel
theorem dX0_addPost_30 : decode cX0_addPost 30 = .ok (.getfield 43, 3) := by decide +kernel
theorem dX0_addPost_33 : decode cX0_addPost 33 = .ok (.iconst 1, 1) := by decide +kernel
theorem dX0_addPost_34 : decode cX0_addPost 34 = .ok (.iadd, 1) := by decide +kernel
theorem dX0_addPost_35 : decode cX0_addPost 35 = .ok (.putfield 43, 3) := by decide +kernel
theorem dX0_addPost_38 : decode cX0_addPost 38 = .ok (.return_, 1) := by decide +kernel
theorem dX0_addSilence_0 : decode cX0_addSilence 0 = .ok (.aload_n 0, 1) := by decide +kernel
theorem dX0_addSilence_1 : decode cX0_addSilence 1 = .ok (.getfield 46, 3) := by decide +kernel
theorem dX0_addSilence_4 : decode cX0_addSilence 4 = .ok (.iconst 4, 1) := by decide +kernel
theorem dX0_addSilence_5 : decode cX0_addSilence 5 = .ok (.if_icmp .ge 68, 3) := by decide +kernel
theorem dX0_addSilence_8 : decode cX0_addSilence 8 = .ok (.aload_n 0, 1) := by decide +kernel
theorem dX0_addSilence_9 : decode cX0_addSilence 9 = .ok (.getfield 18, 3) := by decide +kernel
theorem dX0_addSilence_12 : decode cX0_addSilence 12 = .ok (.aload_n 0, 1) := by decide +kernel
theorem dX0_addSilence_13 : decode cX0_addSilence 13 = .ok (.getfield 46, 3) := by decide +kernel
theorem dX0_addSilence_16 : decode cX0_addSilence 16 = .ok (.iload_n 1, 1) := by decide +kernel
theorem dX0_addSilence_17 : decode cX0_addSilence 17 = .ok (.iastore, 1) := by decide +kernel
theorem dX0_addSilence_18 : decode cX0_addSilence 18 = .ok (.aload_n 0, 1) := by decide +kernel
theorem dX0_addSilence_19 : decode cX0_addSilence 19 = .ok (.getfield 21, 3) := by decide +kernel
theorem dX0_addSilence_22 : decode cX0_addSilence 22 = .ok (.aload_n 0, 1) := by decide +kernel
theorem dX0_addSilence_23 : decode cX0_addSilence 23 = .ok (.getfield 46, 3) := by decide +kernel
theorem dX0_addSilence_26 : decode cX0_addSilence 26 = .ok (.iload_n 2, 1) := by decide +kernel
theorem dX0_addSilence_27 : decode cX0_addSilence 27 = .ok (.iastore, 1) := by decide +kernel
theorem dX0_addSilence_28 : decode cX0_addSilence 28 = .ok (.aload_n 0, 1) := by decide +kernel
theorem dX0_addSilence_29 : decode cX0_addSilence 29 = .ok (.getfield 24, 3) := by decide +kernel
theorem dX0_addSilence_32 : decode cX0_addSilence 32 = .ok (.aload_n 0, 1) := by decide +kernel
theorem dX0_addSilence_33 : decode cX0_addSilence 33 = .ok (.getfield 46, 3) := by decide +kernel
theorem dX0_addSilence_36 : decode cX0_addSilence 36 = .ok (.iload_n 3, 1) := by decide +kernel
theorem dX0_addSilence_37 : decode cX0_addSilence 37 = .ok (.iastore, 1) := by decide +kernel
theorem dX0_addSilence_38 : decode cX0_addSilence 38 = .ok (.aload_n 0, 1) := by decide +kernel
theorem dX0_addSilence_39 : decode cX0_addSilence 39 = .ok (.getfield 27, 3) := by decide +kernel
theorem dX0_addSilence_42 : decode cX0_addSilence 42 = .ok (.aload_n 0, 1) := by decide +kernel
theorem dX0_addSilence_43 : decode cX0_addSilence 43 = .ok (.getfield 46, 3) := by decide +kernel
theorem dX0_addSilence_46 : decode cX0_addSilence 46 = .ok (.iconst 0, 1) := by decide +kernel
theorem dX0_addSilence_47 : decode cX0_addSilence 47 = .ok (.iastore, 1) := by decide +kernel
theorem dX0_addSilence_48 : decode cX0_addSilence 48 = .ok (.aload_n 0, 1) := by decide +kernel
theorem dX0_addSilence_49 : decode cX0_addSilence 49 = .ok (.dup, 1) := by decide +kernel
theorem dX0_addSilence_50 : decode cX0_addSilence 50 = .ok (.getfield 49, 3) := by decide +kernel
theorem dX0_addSilence_53 : decode cX0_addSilence 53 = .ok (.iconst 1, 1) := by decide +kernel
theorem dX0_addSilence_54 : decode cX0_addSilence 54 = .ok (.aload_n 0, 1) := by decide +kernel
theorem dX0_addSilence_55 : decode cX0_addSilence 55 = .ok (.getfield 46, 3) := by decide +kernel
theorem dX0_addSilence_58 : decode cX0_addSilence 58 = .ok (.ishl, 1) := by decide +kernel
theorem dX0_addSilence_59 : decode cX0_addSilence 59 = .ok (.ior, 1) := by decide +kernel
theorem dX0_addSilence_60 : decode cX0_addSilence 60 = .ok (.putfield 49, 3) := by decide +kernel
theorem dX0_addSilence_63 : decode cX0_addSilence 63 = .ok (.aload_n 0, 1) := by decide +kernel
theorem dX0_addSilence_64 : decode cX0_addSilence 64 = .ok (.dup, 1) := by decide +kernel
theorem dX0_addSilence_65 : decode cX0_addSilence 65 = .ok (.getfield 46, 3) := by decide +kernel
theorem dX0_addSilence_68 : decode cX0_addSilence 68 = .ok (.iconst 1, 1) := by decide +kernel
theorem dX0_addSilence_69 : decode cX0_addSilence 69 = .ok (.iadd, 1) := by decide +kernel
theorem dX0_addSilence_70 : decode cX0_addSilence 70 = .ok (.putfield 46, 3) := by decide +kernel
theorem dX0_addSilence_73 : decode cX0_addSilence 73 = .ok (.return_, 1) := by decide +kernel
theorem dX0_isMissing_0 : decode cX0_isMissing 0 = .ok (.aload_n 0, 1) := by decide +kernel
theorem dX0_isMissing_1 : decode cX0_isMissing 1 = .ok (.getfield 43, 3) := by decide +kernel
theorem dX0_isMissing_4 : decode cX0_isMissing 4 = .ok (.ifCond .ne 7, 3) := by decide +kernel
theorem dX0_isMissing_7 : decode cX0_isMissing 7 = .ok (.iconst 1, 1) := by decide +kernel
theorem dX0_isMissing_8 : decode cX0_isMissing 8 = .ok (.goto 4, 3) := by decide +kernel
theorem dX0_isMissing_11 : decode cX0_isMissing 11 = .ok (.iconst 0, 1) := by decide +kernel
theorem dX0_isMissing_12 : decode cX0_isMissing 12 = .ok (.ireturn, 1) := by decide +kernel
theorem dX0_hasPost_0 : decode cX0_hasPost 0 = .ok (.iload_n 1, 1) := by decide +kernel
theorem dX0_hasPost_1 : decode cX0_hasPost 1 = .ok (.ifCond .lt 15, 3) := by decide +kernel
theorem dX0_hasPost_4 : decode cX0_hasPost 4 = .ok (.iload_n 1, 1) := by decide +kernel
theorem dX0_hasPost_5 : decode cX0_hasPost 5 = .ok (.aload_n 0, 1) := by decide +kernel
theorem dX0_hasPost_6 : decode cX0_hasPost 6 = .ok (.getfield 43, 3) := by decide +kernel
theorem dX0_hasPost_9 : decode cX0_hasPost 9 = .ok (.if_icmp .ge 7, 3) := by decide +kernel
theorem dX0_hasPost_12 : decode cX0_hasPost 12 = .ok (.iconst 1, 1) := by decide +kernel
theorem dX0_hasPost_13 : decode cX0_hasPost 13 = .ok (.goto 4, 3) := by decide +kernel
theorem dX0_hasPost_16 : decode cX0_hasPost 16 = .ok (.iconst 0, 1) := by decide +kernel
theorem dX0_hasPost_17 : decode cX0_hasPost 17 = .ok (.ireturn, 1) := by decide +kernel
theorem dX0_hasSilence_0 : decode cX0_hasSilence 0 = .ok (.iload_n 1, 1) := by decide +kernel
theorem dX0_hasSilence_1 : decode cX0_hasSilence 1 = .ok (.ifCond .lt 15, 3) := by decide +kernel
theorem dX0_hasSilence_4 : decode cX0_hasSilence 4 = .ok (.iload_n 1, 1) := by decide +kernel
theorem dX0_hasSilence_5 : decode cX0_hasSilence 5 = .ok (.aload_n 0, 1) := by decide +kernel
theorem dX0_hasSilence_6 : decode cX0_hasSilence 6 = .ok (.getfield 46, 3) := by decide +kernel
theorem dX0_hasSilence_9 : decode cX0_hasSilence 9 = .ok (.if_icmp .ge 7, 3) := by decide +kernel
theorem dX0_hasSilence_12 : decode cX0_hasSilence 12 = .ok (.iconst 1, 1) := by decide +kernel
theorem dX0_hasSilence_13 : decode cX0_hasSilence 13 = .ok (.goto 4, 3) := by decide +kernel
theorem dX0_hasSilence_16 : decode cX0_hasSilence 16 = .ok (.iconst 0, 1) := by decide +kernel
theorem dX0_hasSilence_17 : decode cX0_hasSilence 17 = .ok (.ireturn, 1) := by decide +kernel
theorem dX0_allSilences_0 : decode cX0_allSilences 0 = .ok (.iconst 1, 1) := by decide +kernel
theorem dX0_allSilences_1 : decode cX0_allSilences 1 = .ok (.aload_n 0, 1) := by decide +kernel
theorem dX0_allSilences_2 : decode cX0_allSilences 2 = .ok (.getfield 46, 3) := by decide +kernel
theorem dX0_allSilences_5 : decode cX0_allSilences 5 = .ok (.ishl, 1) := by decide +kernel
theorem dX0_allSilences_6 : decode cX0_allSilences 6 = .ok (.iconst 1, 1) := by decide +kernel
theorem dX0_allSilences_7 : decode cX0_allSilences 7 = .ok (.isub, 1) := by decide +kernel
theorem dX0_allSilences_8 : decode cX0_allSilences 8 = .ok (.ireturn, 1) := by decide +kernel
theorem dX0_isDeclared_0 : decode cX0_isDeclared 0 = .ok (.aload_n 0, 1) := by decide +kernel
theorem dX0_isDeclared_1 : decode cX0_isDeclared 1 = .ok (.getfield 49, 3) := by decide +kernel
theorem dX0_isDeclared_4 : decode cX0_isDeclared 4 = .ok (.iload_n 1, 1) := by decide +kernel
theorem dX0_isDeclared_5 : decode cX0_isDeclared 5 = .ok (.ishr, 1) := by decide +kernel
theorem dX0_isDeclared_6 : decode cX0_isDeclared 6 = .ok (.iconst 1, 1) := by decide +kernel
theorem dX0_isDeclared_7 : decode cX0_isDeclared 7 = .ok (.iand, 1) := by decide +kernel
theorem dX0_isDeclared_8 : decode cX0_isDeclared 8 = .ok (.ifCond .eq 7, 3) := by decide +kernel
theorem dX0_isDeclared_11 : decode cX0_isDeclared 11 = .ok (.iconst 1, 1) := by decide +kernel
theorem dX0_isDeclared_12 : decode cX0_isDeclared 12 = .ok (.goto 4, 3) := by decide +kernel
theorem dX0_isDeclared_15 : decode cX0_isDeclared 15 = .ok (.iconst 0, 1) := by decide +kernel
theorem dX0_isDeclared_16 : decode cX0_isDeclared 16 = .ok (.ireturn, 1) := by decide +kernel
theorem dX0_isDutiable_0 : decode cX0_isDutiable 0 = .ok (.aload_n 0, 1) := by decide +kernel
theorem dX0_isDutiable_1 : decode cX0_isDutiable 1 = .ok (.getfield 52, 3) := by decide +kernel
theorem dX0_isDutiable_4 : decode cX0_isDutiable 4 = .ok (.aload_n 0, 1) := by decide +kernel
theorem dX0_isDutiable_5 : decode cX0_isDutiable 5 = .ok (.getfield 18, 3) := by decide +kernel
theorem dX0_isDutiable_8 : decode cX0_isDutiable 8 = .ok (.iload_n 1, 1) := by decide +kernel
theorem dX0_isDutiable_9 : decode cX0_isDutiable 9 = .ok (.iaload, 1) := by decide +kernel
theorem dX0_isDutiable_10 : decode cX0_isDutiable 10 = .ok (.ishr, 1) := by decide +kernel
theorem dX0_isDutiable_11 : decode cX0_isDutiable 11 = .ok (.iconst 1, 1) := by decide +kernel
theorem dX0_isDutiable_12 : decode cX0_isDutiable 12 = .ok (.iand, 1) := by decide +kernel
theorem dX0_isDutiable_13 : decode cX0_isDutiable 13 = .ok (.ifCond .eq 7, 3) := by decide +kernel
theorem dX0_isDutiable_16 : decode cX0_isDutiable 16 = .ok (.iconst 1, 1) := by decide +kernel
theorem dX0_isDutiable_17 : decode cX0_isDutiable 17 = .ok (.goto 4, 3) := by decide +kernel
theorem dX0_isDutiable_20 : decode cX0_isDutiable 20 = .ok (.iconst 0, 1) := by decide +kernel
theorem dX0_isDutiable_21 : decode cX0_isDutiable 21 = .ok (.ireturn, 1) := by decide +kernel
theorem dX0_gradeOf_0 : decode cX0_gradeOf 0 = .ok (.aload_n 0, 1) := by decide +kernel
theorem dX0_gradeOf_1 : decode cX0_gradeOf 1 = .ok (.getfield 18, 3) := by decide +kernel
theorem dX0_gradeOf_4 : decode cX0_gradeOf 4 = .ok (.iload_n 1, 1) := by decide +kernel
theorem dX0_gradeOf_5 : decode cX0_gradeOf 5 = .ok (.iaload, 1) := by decide +kernel
theorem dX0_gradeOf_6 : decode cX0_gradeOf 6 = .ok (.lookupswitch 46 #[(1, 37), (2, 26)], 26) := by decide +kernel
theorem dX0_gradeOf_32 : decode cX0_gradeOf 32 = .ok (.iconst 2, 1) := by decide +kernel
theorem dX0_gradeOf_33 : decode cX0_gradeOf 33 = .ok (.aload_n 0, 1) := by decide +kernel
theorem dX0_gradeOf_34 : decode cX0_gradeOf 34 = .ok (.getfield 24, 3) := by decide +kernel
theorem dX0_gradeOf_37 : decode cX0_gradeOf 37 = .ok (.iload_n 1, 1) := by decide +kernel
theorem dX0_gradeOf_38 : decode cX0_gradeOf 38 = .ok (.iaload, 1) := by decide +kernel
theorem dX0_gradeOf_39 : decode cX0_gradeOf 39 = .ok (.iconst 1, 1) := by decide +kernel
theorem dX0_gradeOf_40 : decode cX0_gradeOf 40 = .ok (.iadd, 1) := by decide +kernel
theorem dX0_gradeOf_41 : decode cX0_gradeOf 41 = .ok (.imul, 1) := by decide +kernel
theorem dX0_gradeOf_42 : decode cX0_gradeOf 42 = .ok (.ireturn, 1) := by decide +kernel
theorem dX0_gradeOf_43 : decode cX0_gradeOf 43 = .ok (.aload_n 0, 1) := by decide +kernel
theorem dX0_gradeOf_44 : decode cX0_gradeOf 44 = .ok (.getfield 24, 3) := by decide +kernel
theorem dX0_gradeOf_47 : decode cX0_gradeOf 47 = .ok (.iload_n 1, 1) := by decide +kernel
theorem dX0_gradeOf_48 : decode cX0_gradeOf 48 = .ok (.iaload, 1) := by decide +kernel
theorem dX0_gradeOf_49 : decode cX0_gradeOf 49 = .ok (.iconst 1, 1) := by decide +kernel
theorem dX0_gradeOf_50 : decode cX0_gradeOf 50 = .ok (.iadd, 1) := by decide +kernel
theorem dX0_gradeOf_51 : decode cX0_gradeOf 51 = .ok (.ireturn, 1) := by decide +kernel
theorem dX0_gradeOf_52 : decode cX0_gradeOf 52 = .ok (.aload_n 0, 1) := by decide +kernel
theorem dX0_gradeOf_53 : decode cX0_gradeOf 53 = .ok (.getfield 24, 3) := by decide +kernel
theorem dX0_gradeOf_56 : decode cX0_gradeOf 56 = .ok (.iload_n 1, 1) := by decide +kernel
theorem dX0_gradeOf_57 : decode cX0_gradeOf 57 = .ok (.iaload, 1) := by decide +kernel
theorem dX0_gradeOf_58 : decode cX0_gradeOf 58 = .ok (.ireturn, 1) := by decide +kernel
theorem dX0_weightOf_0 : decode cX0_weightOf 0 = .ok (.aload_n 0, 1) := by decide +kernel
theorem dX0_weightOf_1 : decode cX0_weightOf 1 = .ok (.getfield 21, 3) := by decide +kernel
theorem dX0_weightOf_4 : decode cX0_weightOf 4 = .ok (.iload_n 1, 1) := by decide +kernel
theorem dX0_weightOf_5 : decode cX0_weightOf 5 = .ok (.iaload, 1) := by decide +kernel
theorem dX0_weightOf_6 : decode cX0_weightOf 6 = .ok (.aload_n 0, 1) := by decide +kernel
theorem dX0_weightOf_7 : decode cX0_weightOf 7 = .ok (.iload_n 1, 1) := by decide +kernel
theorem dX0_weightOf_8 : decode cX0_weightOf 8 = .ok (.invokevirtual 67, 3) := by decide +kernel
theorem dX0_weightOf_11 : decode cX0_weightOf 11 = .ok (.imul, 1) := by decide +kernel
theorem dX0_weightOf_12 : decode cX0_weightOf 12 = .ok (.ireturn, 1) := by decide +kernel
theorem dX0_dutyAt_0 : decode cX0_dutyAt 0 = .ok (.aload_n 0, 1) := by decide +kernel
theorem dX0_dutyAt_1 : decode cX0_dutyAt 1 = .ok (.aload_n 0, 1) := by decide +kernel
theorem dX0_dutyAt_2 : decode cX0_dutyAt 2 = .ok (.getfield 9, 3) := by decide +kernel
theorem dX0_dutyAt_5 : decode cX0_dutyAt 5 = .ok (.iload_n 1, 1) := by decide +kernel
theorem dX0_dutyAt_6 : decode cX0_dutyAt 6 = .ok (.iaload, 1) := by decide +kernel
theorem dX0_dutyAt_7 : decode cX0_dutyAt 7 = .ok (.invokevirtual 71, 3) := by decide +kernel
theorem dX0_dutyAt_10 : decode cX0_dutyAt 10 = .ok (.ireturn, 1) := by decide +kernel
theorem dX0_dutyAtAll_0 : decode cX0_dutyAtAll 0 = .ok (.iconst 0, 1) := by decide +kernel
theorem dX0_dutyAtAll_1 : decode cX0_dutyAtAll 1 = .ok (.istore_n 1, 1) := by decide +kernel
theorem dX0_dutyAtAll_2 : decode cX0_dutyAtAll 2 = .ok (.iconst 0, 1) := by decide +kernel
theorem dX0_dutyAtAll_3 : decode cX0_dutyAtAll 3 = .ok (.istore_n 2, 1) := by decide +kernel
theorem dX0_dutyAtAll_4 : decode cX0_dutyAtAll 4 = .ok (.iload_n 2, 1) := by decide +kernel
theorem dX0_dutyAtAll_5 : decode cX0_dutyAtAll 5 = .ok (.aload_n 0, 1) := by decide +kernel
theorem dX0_dutyAtAll_6 : decode cX0_dutyAtAll 6 = .ok (.getfield 43, 3) := by decide +kernel
theorem dX0_dutyAtAll_9 : decode cX0_dutyAtAll 9 = .ok (.if_icmp .ge 18, 3) := by decide +kernel
theorem dX0_dutyAtAll_12 : decode cX0_dutyAtAll 12 = .ok (.iload_n 1, 1) := by decide +kernel
theorem dX0_dutyAtAll_13 : decode cX0_dutyAtAll 13 = .ok (.aload_n 0, 1) := by decide +kernel
theorem dX0_dutyAtAll_14 : decode cX0_dutyAtAll 14 = .ok (.getfield 9, 3) := by decide +kernel
theorem dX0_dutyAtAll_17 : decode cX0_dutyAtAll 17 = .ok (.iload_n 2, 1) := by decide +kernel
theorem dX0_dutyAtAll_18 : decode cX0_dutyAtAll 18 = .ok (.iaload, 1) := by decide +kernel
theorem dX0_dutyAtAll_19 : decode cX0_dutyAtAll 19 = .ok (.iadd, 1) := by decide +kernel
theorem dX0_dutyAtAll_20 : decode cX0_dutyAtAll 20 = .ok (.istore_n 1, 1) := by decide +kernel
theorem dX0_dutyAtAll_21 : decode cX0_dutyAtAll 21 = .ok (.iinc 2 1, 3) := by decide +kernel
theorem dX0_dutyAtAll_24 : decode cX0_dutyAtAll 24 = .ok (.goto (-20), 3) := by decide +kernel
theorem dX0_dutyAtAll_27 : decode cX0_dutyAtAll 27 = .ok (.aload_n 0, 1) := by decide +kernel
theorem dX0_dutyAtAll_28 : decode cX0_dutyAtAll 28 = .ok (.iload_n 1, 1) := by decide +kernel
theorem dX0_dutyAtAll_29 : decode cX0_dutyAtAll 29 = .ok (.invokevirtual 71, 3) := by decide +kernel
theorem dX0_dutyAtAll_32 : decode cX0_dutyAtAll 32 = .ok (.ireturn, 1) := by decide +kernel
theorem dX0_dutyByRate_0 : decode cX0_dutyByRate 0 = .ok (.iconst 0, 1) := by decide +kernel
theorem dX0_dutyByRate_1 : decode cX0_dutyByRate 1 = .ok (.istore_n 2, 1) := by decide +kernel
theorem dX0_dutyByRate_2 : decode cX0_dutyByRate 2 = .ok (.iconst 0, 1) := by decide +kernel
theorem dX0_dutyByRate_3 : decode cX0_dutyByRate 3 = .ok (.istore_n 3, 1) := by decide +kernel
theorem dX0_dutyByRate_4 : decode cX0_dutyByRate 4 = .ok (.iload_n 3, 1) := by decide +kernel
theorem dX0_dutyByRate_5 : decode cX0_dutyByRate 5 = .ok (.iconst 3, 1) := by decide +kernel
theorem dX0_dutyByRate_6 : decode cX0_dutyByRate 6 = .ok (.if_icmp .ge 17, 3) := by decide +kernel
theorem dX0_dutyByRate_9 : decode cX0_dutyByRate 9 = .ok (.iload_n 2, 1) := by decide +kernel
theorem dX0_dutyByRate_10 : decode cX0_dutyByRate 10 = .ok (.aload_n 0, 1) := by decide +kernel
theorem dX0_dutyByRate_11 : decode cX0_dutyByRate 11 = .ok (.iload_n 3, 1) := by decide +kernel
theorem dX0_dutyByRate_12 : decode cX0_dutyByRate 12 = .ok (.invokevirtual 74, 3) := by decide +kernel
theorem dX0_dutyByRate_15 : decode cX0_dutyByRate 15 = .ok (.iadd, 1) := by decide +kernel
theorem dX0_dutyByRate_16 : decode cX0_dutyByRate 16 = .ok (.istore_n 2, 1) := by decide +kernel
theorem dX0_dutyByRate_17 : decode cX0_dutyByRate 17 = .ok (.iinc 3 1, 3) := by decide +kernel
theorem dX0_dutyByRate_20 : decode cX0_dutyByRate 20 = .ok (.goto (-16), 3) := by decide +kernel
theorem dX0_dutyByRate_23 : decode cX0_dutyByRate 23 = .ok (.iload_n 2, 1) := by decide +kernel
theorem dX0_dutyByRate_24 : decode cX0_dutyByRate 24 = .ok (.iload_n 1, 1) := by decide +kernel
theorem dX0_dutyByRate_25 : decode cX0_dutyByRate 25 = .ok (.imul, 1) := by decide +kernel
theorem dX0_dutyByRate_26 : decode cX0_dutyByRate 26 = .ok (.ireturn, 1) := by decide +kernel
theorem dX0_minutesByGrade_0 : decode cX0_minutesByGrade 0 = .ok (.iconst 0, 1) := by decide +kernel
theorem dX0_minutesByGrade_1 : decode cX0_minutesByGrade 1 = .ok (.istore_n 2, 1) := by decide +kernel
theorem dX0_minutesByGrade_2 : decode cX0_minutesByGrade 2 = .ok (.iconst 0, 1) := by decide +kernel
theorem dX0_minutesByGrade_3 : decode cX0_minutesByGrade 3 = .ok (.istore_n 3, 1) := by decide +kernel
theorem dX0_minutesByGrade_4 : decode cX0_minutesByGrade 4 = .ok (.iconst 0, 1) := by decide +kernel
theorem dX0_minutesByGrade_5 : decode cX0_minutesByGrade 5 = .ok (.istore 4, 2) := by decide +kernel
theorem dX0_minutesByGrade_7 : decode cX0_minutesByGrade 7 = .ok (.iload 4, 2) := by decide +kernel
theorem dX0_minutesByGrade_9 : decode cX0_minutesByGrade 9 = .ok (.aload_n 0, 1) := by decide +kernel
theorem dX0_minutesByGrade_10 : decode cX0_minutesByGrade 10 = .ok (.getfield 46, 3) := by decide +kernel
theorem dX0_minutesByGrade_13 : decode cX0_minutesByGrade 13 = .ok (.if_icmp .ge 68, 3) := by decide +kernel
theorem dX0_minutesByGrade_16 : decode cX0_minutesByGrade 16 = .ok (.aload_n 0, 1) := by decide +kernel
theorem dX0_minutesByGrade_17 : decode cX0_minutesByGrade 17 = .ok (.getfield 27, 3) := by decide +kernel
theorem dX0_minutesByGrade_20 : decode cX0_minutesByGrade 20 = .ok (.iload 4, 2) := by decide +kernel
theorem dX0_minutesByGrade_22 : decode cX0_minutesByGrade 22 = .ok (.iaload, 1) := by decide +kernel
theorem dX0_minutesByGrade_23 : decode cX0_minutesByGrade 23 = .ok (.iload_n 1, 1) := by decide +kernel
theorem dX0_minutesByGrade_24 : decode cX0_minutesByGrade 24 = .ok (.if_icmp .ne 51, 3) := by decide +kernel
theorem dX0_minutesByGrade_27 : decode cX0_minutesByGrade 27 = .ok (.iload 4, 2) := by decide +kernel
theorem dX0_minutesByGrade_29 : decode cX0_minutesByGrade 29 = .ok (.aload_n 0, 1) := by decide +kernel
theorem dX0_minutesByGrade_30 : decode cX0_minutesByGrade 30 = .ok (.getfield 33, 3) := by decide +kernel
theorem dX0_minutesByGrade_33 : decode cX0_minutesByGrade 33 = .ok (.if_icmp .eq 42, 3) := by decide +kernel
theorem dX0_minutesByGrade_36 : decode cX0_minutesByGrade 36 = .ok (.aload_n 0, 1) := by decide +kernel
theorem dX0_minutesByGrade_37 : decode cX0_minutesByGrade 37 = .ok (.iload 4, 2) := by decide +kernel
theorem dX0_minutesByGrade_39 : decode cX0_minutesByGrade 39 = .ok (.invokevirtual 77, 3) := by decide +kernel
theorem dX0_minutesByGrade_42 : decode cX0_minutesByGrade 42 = .ok (.ifCond .eq 33, 3) := by decide +kernel
theorem dX0_minutesByGrade_45 : decode cX0_minutesByGrade 45 = .ok (.aload_n 0, 1) := by decide +kernel
theorem dX0_minutesByGrade_46 : decode cX0_minutesByGrade 46 = .ok (.iload 4, 2) := by decide +kernel
theorem dX0_minutesByGrade_48 : decode cX0_minutesByGrade 48 = .ok (.invokevirtual 81, 3) := by decide +kernel
theorem dX0_minutesByGrade_51 : decode cX0_minutesByGrade 51 = .ok (.ifCond .eq 24, 3) := by decide +kernel
theorem dX0_minutesByGrade_54 : decode cX0_minutesByGrade 54 = .ok (.iload_n 2, 1) := by decide +kernel
theorem dX0_minutesByGrade_55 : decode cX0_minutesByGrade 55 = .ok (.aload_n 0, 1) := by decide +kernel
theorem dX0_minutesByGrade_56 : decode cX0_minutesByGrade 56 = .ok (.getfield 21, 3) := by decide +kernel
theorem dX0_minutesByGrade_59 : decode cX0_minutesByGrade 59 = .ok (.iload 4, 2) := by decide +kernel
theorem dX0_minutesByGrade_61 : decode cX0_minutesByGrade 61 = .ok (.iaload, 1) := by decide +kernel
theorem dX0_minutesByGrade_62 : decode cX0_minutesByGrade 62 = .ok (.iadd, 1) := by decide +kernel
theorem dX0_minutesByGrade_63 : decode cX0_minutesByGrade 63 = .ok (.istore_n 2, 1) := by decide +kernel
theorem dX0_minutesByGrade_64 : decode cX0_minutesByGrade 64 = .ok (.iload_n 3, 1) := by decide +kernel
theorem dX0_minutesByGrade_65 : decode cX0_minutesByGrade 65 = .ok (.aload_n 0, 1) := by decide +kernel
theorem dX0_minutesByGrade_66 : decode cX0_minutesByGrade 66 = .ok (.iload 4, 2) := by decide +kernel
theorem dX0_minutesByGrade_68 : decode cX0_minutesByGrade 68 = .ok (.invokevirtual 67, 3) := by decide +kernel
theorem dX0_minutesByGrade_71 : decode cX0_minutesByGrade 71 = .ok (.invokestatic 84, 3) := by decide +kernel
theorem dX0_minutesByGrade_74 : decode cX0_minutesByGrade 74 = .ok (.istore_n 3, 1) := by decide +kernel
theorem dX0_minutesByGrade_75 : decode cX0_minutesByGrade 75 = .ok (.iinc 4 1, 3) := by decide +kernel
theorem dX0_minutesByGrade_78 : decode cX0_minutesByGrade 78 = .ok (.goto (-71), 3) := by decide +kernel
theorem dX0_minutesByGrade_81 : decode cX0_minutesByGrade 81 = .ok (.iconst 0, 1) := by decide +kernel
theorem dX0_minutesByGrade_82 : decode cX0_minutesByGrade 82 = .ok (.iload_n 2, 1) := by decide +kernel
theorem dX0_minutesByGrade_83 : decode cX0_minutesByGrade 83 = .ok (.aload_n 0, 1) := by decide +kernel
theorem dX0_minutesByGrade_84 : decode cX0_minutesByGrade 84 = .ok (.getfield 55, 3) := by decide +kernel
theorem dX0_minutesByGrade_87 : decode cX0_minutesByGrade 87 = .ok (.isub, 1) := by decide +kernel
theorem dX0_minutesByGrade_88 : decode cX0_minutesByGrade 88 = .ok (.invokestatic 84, 3) := by decide +kernel
theorem dX0_minutesByGrade_91 : decode cX0_minutesByGrade 91 = .ok (.iload_n 3, 1) := by decide +kernel
theorem dX0_minutesByGrade_92 : decode cX0_minutesByGrade 92 = .ok (.imul, 1) := by decide +kernel
theorem dX0_minutesByGrade_93 : decode cX0_minutesByGrade 93 = .ok (.ireturn, 1) := by decide +kernel
theorem dX0_tenthsHeard_0 : decode cX0_tenthsHeard 0 = .ok (.iload_n 1, 1) := by decide +kernel
theorem dX0_tenthsHeard_1 : decode cX0_tenthsHeard 1 = .ok (.aload_n 0, 1) := by decide +kernel
theorem dX0_tenthsHeard_2 : decode cX0_tenthsHeard 2 = .ok (.getfield 33, 3) := by decide +kernel
theorem dX0_tenthsHeard_5 : decode cX0_tenthsHeard 5 = .ok (.if_icmp .eq 19, 3) := by decide +kernel
theorem dX0_tenthsHeard_8 : decode cX0_tenthsHeard 8 = .ok (.aload_n 0, 1) := by decide +kernel
theorem dX0_tenthsHeard_9 : decode cX0_tenthsHeard 9 = .ok (.iload_n 1, 1) := by decide +kernel
theorem dX0_tenthsHeard_10 : decode cX0_tenthsHeard 10 = .ok (.invokevirtual 77, 3) := by decide +kernel
theorem dX0_tenthsHeard_13 : decode cX0_tenthsHeard 13 = .ok (.ifCond .ne 11, 3) := by decide +kernel
theorem dX0_tenthsHeard_16 : decode cX0_tenthsHeard 16 = .ok (.aload_n 0, 1) := by decide +kernel
theorem dX0_tenthsHeard_17 : decode cX0_tenthsHeard 17 = .ok (.iload_n 1, 1) := by decide +kernel
theorem dX0_tenthsHeard_18 : decode cX0_tenthsHeard 18 = .ok (.invokevirtual 81, 3) := by decide +kernel
theorem dX0_tenthsHeard_21 : decode cX0_tenthsHeard 21 = .ok (.ifCond .ne 5, 3) := by decide +kernel
theorem dX0_tenthsHeard_24 : decode cX0_tenthsHeard 24 = .ok (.iconst 0, 1) := by decide +kernel
theorem dX0_tenthsHeard_25 : decode cX0_tenthsHeard 25 = .ok (.ireturn, 1) := by decide +kernel
theorem dX0_tenthsHeard_26 : decode cX0_tenthsHeard 26 = .ok (.iconst 0, 1) := by decide +kernel
theorem dX0_tenthsHeard_27 : decode cX0_tenthsHeard 27 = .ok (.aload_n 0, 1) := by decide +kernel
theorem dX0_tenthsHeard_28 : decode cX0_tenthsHeard 28 = .ok (.getfield 15, 3) := by decide +kernel
theorem dX0_tenthsHeard_31 : decode cX0_tenthsHeard 31 = .ok (.iload_n 2, 1) := by decide +kernel
theorem dX0_tenthsHeard_32 : decode cX0_tenthsHeard 32 = .ok (.iaload, 1) := by decide +kernel
theorem dX0_tenthsHeard_33 : decode cX0_tenthsHeard 33 = .ok (.aload_n 0, 1) := by decide +kernel
theorem dX0_tenthsHeard_34 : decode cX0_tenthsHeard 34 = .ok (.getfield 30, 3) := by decide +kernel
theorem dX0_tenthsHeard_37 : decode cX0_tenthsHeard 37 = .ok (.aload_n 0, 1) := by decide +kernel
theorem dX0_tenthsHeard_38 : decode cX0_tenthsHeard 38 = .ok (.getfield 27, 3) := by decide +kernel
theorem dX0_tenthsHeard_41 : decode cX0_tenthsHeard 41 = .ok (.iload_n 1, 1) := by decide +kernel
theorem dX0_tenthsHeard_42 : decode cX0_tenthsHeard 42 = .ok (.iaload, 1) := by decide +kernel
theorem dX0_tenthsHeard_43 : decode cX0_tenthsHeard 43 = .ok (.iaload, 1) := by decide +kernel
theorem dX0_tenthsHeard_44 : decode cX0_tenthsHeard 44 = .ok (.isub, 1) := by decide +kernel
theorem dX0_tenthsHeard_45 : decode cX0_tenthsHeard 45 = .ok (.invokestatic 84, 3) := by decide +kernel
theorem dX0_tenthsHeard_48 : decode cX0_tenthsHeard 48 = .ok (.ireturn, 1) := by decide +kernel
theorem dX0_readingsAreSo_0 : decode cX0_readingsAreSo 0 = .ok (.iconst 0, 1) := by decide +kernel
theorem dX0_readingsAreSo_1 : decode cX0_readingsAreSo 1 = .ok (.istore_n 1, 1) := by decide +kernel
theorem dX0_readingsAreSo_2 : decode cX0_readingsAreSo 2 = .ok (.iload_n 1, 1) := by decide +kernel
theorem dX0_readingsAreSo_3 : decode cX0_readingsAreSo 3 = .ok (.aload_n 0, 1) := by decide +kernel
theorem dX0_readingsAreSo_4 : decode cX0_readingsAreSo 4 = .ok (.getfield 58, 3) := by decide +kernel
theorem dX0_readingsAreSo_7 : decode cX0_readingsAreSo 7 = .ok (.if_icmp .ge 30, 3) := by decide +kernel
theorem dX0_readingsAreSo_10 : decode cX0_readingsAreSo 10 = .ok (.aload_n 0, 1) := by decide +kernel
theorem dX0_readingsAreSo_11 : decode cX0_readingsAreSo 11 = .ok (.aload_n 0, 1) := by decide +kernel
theorem dX0_readingsAreSo_12 : decode cX0_readingsAreSo 12 = .ok (.getfield 37, 3) := by decide +kernel
theorem dX0_readingsAreSo_15 : decode cX0_readingsAreSo 15 = .ok (.iload_n 1, 1) := by decide +kernel
theorem dX0_readingsAreSo_16 : decode cX0_readingsAreSo 16 = .ok (.iaload, 1) := by decide +kernel
theorem dX0_readingsAreSo_17 : decode cX0_readingsAreSo 17 = .ok (.invokevirtual 90, 3) := by decide +kernel
theorem dX0_readingsAreSo_20 : decode cX0_readingsAreSo 20 = .ok (.aload_n 0, 1) := by decide +kernel
theorem dX0_readingsAreSo_21 : decode cX0_readingsAreSo 21 = .ok (.getfield 40, 3) := by decide +kernel
theorem dX0_readingsAreSo_24 : decode cX0_readingsAreSo 24 = .ok (.iload_n 1, 1) := by decide +kernel
theorem dX0_readingsAreSo_25 : decode cX0_readingsAreSo 25 = .ok (.iaload, 1) := by decide +kernel
theorem dX0_readingsAreSo_26 : decode cX0_readingsAreSo 26 = .ok (.if_icmp .eq 5, 3) := by decide +kernel
theorem dX0_readingsAreSo_29 : decode cX0_readingsAreSo 29 = .ok (.iconst 0, 1) := by decide +kernel
theorem dX0_readingsAreSo_30 : decode cX0_readingsAreSo 30 = .ok (.ireturn, 1) := by decide +kernel
theorem dX0_readingsAreSo_31 : decode cX0_readingsAreSo 31 = .ok (.iinc 1 1, 3) := by decide +kernel
theorem dX0_readingsAreSo_34 : decode cX0_readingsAreSo 34 = .ok (.goto (-32), 3) := by decide +kernel
theorem dX0_readingsAreSo_37 : decode cX0_readingsAreSo 37 = .ok (.iconst 1, 1) := by decide +kernel
theorem dX0_readingsAreSo_38 : decode cX0_readingsAreSo 38 = .ok (.ireturn, 1) := by decide +kernel
theorem dX0_carrierRows_0 : decode cX0_carrierRows 0 = .ok (.iconst 1, 1) := by decide +kernel
theorem dX0_carrierRows_1 : decode cX0_carrierRows 1 = .ok (.istore_n 1, 1) := by decide +kernel
theorem dX0_carrierRows_2 : decode cX0_carrierRows 2 = .ok (.iconst 0, 1) := by decide +kernel
theorem dX0_carrierRows_3 : decode cX0_carrierRows 3 = .ok (.istore_n 2, 1) := by decide +kernel
theorem dX0_carrierRows_4 : decode cX0_carrierRows 4 = .ok (.iload_n 2, 1) := by decide +kernel
theorem dX0_carrierRows_5 : decode cX0_carrierRows 5 = .ok (.aload_n 0, 1) := by decide +kernel
theorem dX0_carrierRows_6 : decode cX0_carrierRows 6 = .ok (.getfield 46, 3) := by decide +kernel
theorem dX0_carrierRows_9 : decode cX0_carrierRows 9 = .ok (.if_icmp .ge 13, 3) := by decide +kernel
theorem dX0_carrierRows_12 : decode cX0_carrierRows 12 = .ok (.iload_n 1, 1) := by decide +kernel
theorem dX0_carrierRows_13 : decode cX0_carrierRows 13 = .ok (.iconst 3, 1) := by decide +kernel
theorem dX0_carrierRows_14 : decode cX0_carrierRows 14 = .ok (.imul, 1) := by decide +kernel
theorem dX0_carrierRows_15 : decode cX0_carrierRows 15 = .ok (.istore_n 1, 1) := by decide +kernel
theorem dX0_carrierRows_16 : decode cX0_carrierRows 16 = .ok (.iinc 2 1, 3) := by decide +kernel
theorem dX0_carrierRows_19 : decode cX0_carrierRows 19 = .ok (.goto (-15), 3) := by decide +kernel
theorem dX0_carrierRows_22 : decode cX0_carrierRows 22 = .ok (.iload_n 1, 1) := by decide +kernel
theorem dX0_carrierRows_23 : decode cX0_carrierRows 23 = .ok (.ireturn, 1) := by decide +kernel
theorem dX0_carrierRow_0 : decode cX0_carrierRow 0 = .ok (.iconst 0, 1) := by decide +kernel
theorem dX0_carrierRow_1 : decode cX0_carrierRow 1 = .ok (.istore_n 1, 1) := by decide +kernel
theorem dX0_carrierRow_2 : decode cX0_carrierRow 2 = .ok (.iconst 0, 1) := by decide +kernel
theorem dX0_carrierRow_3 : decode cX0_carrierRow 3 = .ok (.istore_n 2, 1) := by decide +kernel
theorem dX0_carrierRow_4 : decode cX0_carrierRow 4 = .ok (.iload_n 2, 1) := by decide +kernel
theorem dX0_carrierRow_5 : decode cX0_carrierRow 5 = .ok (.aload_n 0, 1) := by decide +kernel
theorem dX0_carrierRow_6 : decode cX0_carrierRow 6 = .ok (.getfield 46, 3) := by decide +kernel
theorem dX0_carrierRow_9 : decode cX0_carrierRow 9 = .ok (.if_icmp .ge 20, 3) := by decide +kernel
theorem dX0_carrierRow_12 : decode cX0_carrierRow 12 = .ok (.iload_n 1, 1) := by decide +kernel
theorem dX0_carrierRow_13 : decode cX0_carrierRow 13 = .ok (.iconst 3, 1) := by decide +kernel
theorem dX0_carrierRow_14 : decode cX0_carrierRow 14 = .ok (.imul, 1) := by decide +kernel
theorem dX0_carrierRow_15 : decode cX0_carrierRow 15 = .ok (.aload_n 0, 1) := by decide +kernel
theorem dX0_carrierRow_16 : decode cX0_carrierRow 16 = .ok (.getfield 27, 3) := by decide +kernel
theorem dX0_carrierRow_19 : decode cX0_carrierRow 19 = .ok (.iload_n 2, 1) := by decide +kernel
theorem dX0_carrierRow_20 : decode cX0_carrierRow 20 = .ok (.iaload, 1) := by decide +kernel
theorem dX0_carrierRow_21 : decode cX0_carrierRow 21 = .ok (.iadd, 1) := by decide +kernel
theorem dX0_carrierRow_22 : decode cX0_carrierRow 22 = .ok (.istore_n 1, 1) := by decide +kernel
theorem dX0_carrierRow_23 : decode cX0_carrierRow 23 = .ok (.iinc 2 1, 3) := by decide +kernel
theorem dX0_carrierRow_26 : decode cX0_carrierRow 26 = .ok (.goto (-22), 3) := by decide +kernel
theorem dX0_carrierRow_29 : decode cX0_carrierRow 29 = .ok (.iload_n 1, 1) := by decide +kernel
theorem dX0_carrierRow_30 : decode cX0_carrierRow 30 = .ok (.ireturn, 1) := by decide +kernel
theorem dX0_setCarrierRow_0 : decode cX0_setCarrierRow 0 = .ok (.iload_n 1, 1) := by decide +kernel
theorem dX0_setCarrierRow_1 : decode cX0_setCarrierRow 1 = .ok (.istore_n 2, 1) := by decide +kernel
theorem dX0_setCarrierRow_2 : decode cX0_setCarrierRow 2 = .ok (.aload_n 0, 1) := by decide +kernel
theorem dX0_setCarrierRow_3 : decode cX0_setCarrierRow 3 = .ok (.getfield 46, 3) := by decide +kernel
theorem dX0_setCarrierRow_6 : decode cX0_setCarrierRow 6 = .ok (.iconst 1, 1) := by decide +kernel
theorem dX0_setCarrierRow_7 : decode cX0_setCarrierRow 7 = .ok (.isub, 1) := by decide +kernel
theorem dX0_setCarrierRow_8 : decode cX0_setCarrierRow 8 = .ok (.istore_n 3, 1) := by decide +kernel
theorem dX0_setCarrierRow_9 : decode cX0_setCarrierRow 9 = .ok (.iload_n 3, 1) := by decide +kernel
theorem dX0_setCarrierRow_10 : decode cX0_setCarrierRow 10 = .ok (.ifCond .lt 22, 3) := by decide +kernel
theorem dX0_setCarrierRow_13 : decode cX0_setCarrierRow 13 = .ok (.aload_n 0, 1) := by decide +kernel
theorem dX0_setCarrierRow_14 : decode cX0_setCarrierRow 14 = .ok (.getfield 27, 3) := by decide +kernel
theorem dX0_setCarrierRow_17 : decode cX0_setCarrierRow 17 = .ok (.iload_n 3, 1) := by decide +kernel
theorem dX0_setCarrierRow_18 : decode cX0_setCarrierRow 18 = .ok (.iload_n 2, 1) := by decide +kernel
theorem dX0_setCarrierRow_19 : decode cX0_setCarrierRow 19 = .ok (.iconst 3, 1) := by decide +kernel
theorem dX0_setCarrierRow_20 : decode cX0_setCarrierRow 20 = .ok (.irem, 1) := by decide +kernel
theorem dX0_setCarrierRow_21 : decode cX0_setCarrierRow 21 = .ok (.iastore, 1) := by decide +kernel
theorem dX0_setCarrierRow_22 : decode cX0_setCarrierRow 22 = .ok (.iload_n 2, 1) := by decide +kernel
theorem dX0_setCarrierRow_23 : decode cX0_setCarrierRow 23 = .ok (.iconst 3, 1) := by decide +kernel
theorem dX0_setCarrierRow_24 : decode cX0_setCarrierRow 24 = .ok (.idiv, 1) := by decide +kernel
theorem dX0_setCarrierRow_25 : decode cX0_setCarrierRow 25 = .ok (.istore_n 2, 1) := by decide +kernel
theorem dX0_setCarrierRow_26 : decode cX0_setCarrierRow 26 = .ok (.iinc 3 (-1), 3) := by decide +kernel
theorem dX0_setCarrierRow_29 : decode cX0_setCarrierRow 29 = .ok (.goto (-20), 3) := by decide +kernel
theorem dX0_setCarrierRow_32 : decode cX0_setCarrierRow 32 = .ok (.return_, 1) := by decide +kernel
theorem dX1_init_0 : decode cX1_init 0 = .ok (.aload_n 0, 1) := by decide +kernel
theorem dX1_init_1 : decode cX1_init 1 = .ok (.invokespecial 3, 3) := by decide +kernel
theorem dX1_init_4 : decode cX1_init 4 = .ok (.aload_n 0, 1) := by decide +kernel
theorem dX1_init_5 : decode cX1_init 5 = .ok (.bipush 60, 2) := by decide +kernel
theorem dX1_init_7 : decode cX1_init 7 = .ok (.newarray .int, 2) := by decide +kernel
theorem dX1_init_9 : decode cX1_init 9 = .ok (.putfield 9, 3) := by decide +kernel
theorem dX1_init_12 : decode cX1_init 12 = .ok (.aload_n 0, 1) := by decide +kernel
theorem dX1_init_13 : decode cX1_init 13 = .ok (.iconst (-1), 1) := by decide +kernel
theorem dX1_init_14 : decode cX1_init 14 = .ok (.putfield 15, 3) := by decide +kernel
theorem dX1_init_17 : decode cX1_init 17 = .ok (.return_, 1) := by decide +kernel
theorem dX1_hasRow_0 : decode cX1_hasRow 0 = .ok (.aload_n 0, 1) := by decide +kernel
theorem dX1_hasRow_1 : decode cX1_hasRow 1 = .ok (.getfield 15, 3) := by decide +kernel
theorem dX1_hasRow_4 : decode cX1_hasRow 4 = .ok (.iconst (-1), 1) := by decide +kernel
theorem dX1_hasRow_5 : decode cX1_hasRow 5 = .ok (.if_icmp .eq 7, 3) := by decide +kernel
theorem dX1_hasRow_8 : decode cX1_hasRow 8 = .ok (.iconst 1, 1) := by decide +kernel
theorem dX1_hasRow_9 : decode cX1_hasRow 9 = .ok (.goto 4, 3) := by decide +kernel
theorem dX1_hasRow_12 : decode cX1_hasRow 12 = .ok (.iconst 0, 1) := by decide +kernel
theorem dX1_hasRow_13 : decode cX1_hasRow 13 = .ok (.ireturn, 1) := by decide +kernel
theorem dX1_begin_0 : decode cX1_begin 0 = .ok (.aload_n 0, 1) := by decide +kernel
theorem dX1_begin_1 : decode cX1_begin 1 = .ok (.getfield 9, 3) := by decide +kernel
theorem dX1_begin_4 : decode cX1_begin 4 = .ok (.iconst 0, 1) := by decide +kernel
theorem dX1_begin_5 : decode cX1_begin 5 = .ok (.invokestatic 19, 3) := by decide +kernel
theorem dX1_begin_8 : decode cX1_begin 8 = .ok (.aload_n 0, 1) := by decide +kernel
theorem dX1_begin_9 : decode cX1_begin 9 = .ok (.iload_n 1, 1) := by decide +kernel
theorem dX1_begin_10 : decode cX1_begin 10 = .ok (.putfield 15, 3) := by decide +kernel
theorem dX1_begin_13 : decode cX1_begin 13 = .ok (.aload_n 0, 1) := by decide +kernel
theorem dX1_begin_14 : decode cX1_begin 14 = .ok (.iload_n 2, 1) := by decide +kernel
theorem dX1_begin_15 : decode cX1_begin 15 = .ok (.putfield 25, 3) := by decide +kernel
theorem dX1_begin_18 : decode cX1_begin 18 = .ok (.return_, 1) := by decide +kernel
theorem dX1_drop_0 : decode cX1_drop 0 = .ok (.aload_n 0, 1) := by decide +kernel
theorem dX1_drop_1 : decode cX1_drop 1 = .ok (.iconst (-1), 1) := by decide +kernel
theorem dX1_drop_2 : decode cX1_drop 2 = .ok (.putfield 15, 3) := by decide +kernel
theorem dX1_drop_5 : decode cX1_drop 5 = .ok (.aload_n 0, 1) := by decide +kernel
theorem dX1_drop_6 : decode cX1_drop 6 = .ok (.iconst 0, 1) := by decide +kernel
theorem dX1_drop_7 : decode cX1_drop 7 = .ok (.putfield 25, 3) := by decide +kernel
theorem dX1_drop_10 : decode cX1_drop 10 = .ok (.return_, 1) := by decide +kernel
theorem dX1_faultAs_0 : decode cX1_faultAs 0 = .ok (.aload_n 0, 1) := by decide +kernel
theorem dX1_faultAs_1 : decode cX1_faultAs 1 = .ok (.invokevirtual 28, 3) := by decide +kernel
theorem dX1_faultAs_4 : decode cX1_faultAs 4 = .ok (.ifCond .ne 5, 3) := by decide +kernel
theorem dX1_faultAs_7 : decode cX1_faultAs 7 = .ok (.iconst 1, 1) := by decide +kernel
theorem dX1_faultAs_8 : decode cX1_faultAs 8 = .ok (.ireturn, 1) := by decide +kernel
theorem dX1_faultAs_9 : decode cX1_faultAs 9 = .ok (.aload_n 0, 1) := by decide +kernel
theorem dX1_faultAs_10 : decode cX1_faultAs 10 = .ok (.getfield 15, 3) := by decide +kernel
theorem dX1_faultAs_13 : decode cX1_faultAs 13 = .ok (.iload_n 1, 1) := by decide +kernel
theorem dX1_faultAs_14 : decode cX1_faultAs 14 = .ok (.if_icmp .ne 7, 3) := by decide +kernel
theorem dX1_faultAs_17 : decode cX1_faultAs 17 = .ok (.iconst 0, 1) := by decide +kernel
theorem dX1_faultAs_18 : decode cX1_faultAs 18 = .ok (.goto 4, 3) := by decide +kernel
theorem dX1_faultAs_21 : decode cX1_faultAs 21 = .ok (.iconst 2, 1) := by decide +kernel
theorem dX1_faultAs_22 : decode cX1_faultAs 22 = .ok (.ireturn, 1) := by decide +kernel
theorem dX1_hasCell_0 : decode cX1_hasCell 0 = .ok (.iload_n 1, 1) := by decide +kernel
theorem dX1_hasCell_1 : decode cX1_hasCell 1 = .ok (.ifCond .lt 15, 3) := by decide +kernel
theorem dX1_hasCell_4 : decode cX1_hasCell 4 = .ok (.iload_n 1, 1) := by decide +kernel
theorem dX1_hasCell_5 : decode cX1_hasCell 5 = .ok (.aload_n 0, 1) := by decide +kernel
theorem dX1_hasCell_6 : decode cX1_hasCell 6 = .ok (.getfield 25, 3) := by decide +kernel
theorem dX1_hasCell_9 : decode cX1_hasCell 9 = .ok (.if_icmp .ge 7, 3) := by decide +kernel
theorem dX1_hasCell_12 : decode cX1_hasCell 12 = .ok (.iconst 1, 1) := by decide +kernel
theorem dX1_hasCell_13 : decode cX1_hasCell 13 = .ok (.goto 4, 3) := by decide +kernel
theorem dX1_hasCell_16 : decode cX1_hasCell 16 = .ok (.iconst 0, 1) := by decide +kernel
theorem dX1_hasCell_17 : decode cX1_hasCell 17 = .ok (.ireturn, 1) := by decide +kernel
theorem dX1_hasCells_0 : decode cX1_hasCells 0 = .ok (.iload_n 1, 1) := by decide +kernel
theorem dX1_hasCells_1 : decode cX1_hasCells 1 = .ok (.ifCond .lt 29, 3) := by decide +kernel
theorem dX1_hasCells_4 : decode cX1_hasCells 4 = .ok (.iload_n 1, 1) := by decide +kernel
theorem dX1_hasCells_5 : decode cX1_hasCells 5 = .ok (.aload_n 0, 1) := by decide +kernel
theorem dX1_hasCells_6 : decode cX1_hasCells 6 = .ok (.getfield 25, 3) := by decide +kernel
theorem dX1_hasCells_9 : decode cX1_hasCells 9 = .ok (.if_icmp .gt 21, 3) := by decide +kernel
theorem dX1_hasCells_12 : decode cX1_hasCells 12 = .ok (.iload_n 2, 1) := by decide +kernel
theorem dX1_hasCells_13 : decode cX1_hasCells 13 = .ok (.ifCond .lt 17, 3) := by decide +kernel
theorem dX1_hasCells_16 : decode cX1_hasCells 16 = .ok (.iload_n 2, 1) := by decide +kernel
theorem dX1_hasCells_17 : decode cX1_hasCells 17 = .ok (.aload_n 0, 1) := by decide +kernel
theorem dX1_hasCells_18 : decode cX1_hasCells 18 = .ok (.getfield 25, 3) := by decide +kernel
theorem dX1_hasCells_21 : decode cX1_hasCells 21 = .ok (.iload_n 1, 1) := by decide +kernel
theorem dX1_hasCells_22 : decode cX1_hasCells 22 = .ok (.isub, 1) := by decide +kernel
theorem dX1_hasCells_23 : decode cX1_hasCells 23 = .ok (.if_icmp .gt 7, 3) := by decide +kernel
theorem dX1_hasCells_26 : decode cX1_hasCells 26 = .ok (.iconst 1, 1) := by decide +kernel
theorem dX1_hasCells_27 : decode cX1_hasCells 27 = .ok (.goto 4, 3) := by decide +kernel
theorem dX1_hasCells_30 : decode cX1_hasCells 30 = .ok (.iconst 0, 1) := by decide +kernel
theorem dX1_hasCells_31 : decode cX1_hasCells 31 = .ok (.ireturn, 1) := by decide +kernel
theorem dX1_cut_0 : decode cX1_cut 0 = .ok (.aload_n 0, 1) := by decide +kernel
theorem dX1_cut_1 : decode cX1_cut 1 = .ok (.getfield 15, 3) := by decide +kernel
theorem dX1_cut_4 : decode cX1_cut 4 = .ok (.lookupswitch 34 #[(0, 28), (1, 31)], 28) := by decide +kernel
theorem dX1_cut_32 : decode cX1_cut 32 = .ok (.iload_n 1, 1) := by decide +kernel
theorem dX1_cut_33 : decode cX1_cut 33 = .ok (.i2b, 1) := by decide +kernel
theorem dX1_cut_34 : decode cX1_cut 34 = .ok (.ireturn, 1) := by decide +kernel
theorem dX1_cut_35 : decode cX1_cut 35 = .ok (.iload_n 1, 1) := by decide +kernel
theorem dX1_cut_36 : decode cX1_cut 36 = .ok (.i2s, 1) := by decide +kernel
theorem dX1_cut_37 : decode cX1_cut 37 = .ok (.ireturn, 1) := by decide +kernel
theorem dX1_cut_38 : decode cX1_cut 38 = .ok (.iload_n 1, 1) := by decide +kernel
theorem dX1_cut_39 : decode cX1_cut 39 = .ok (.ireturn, 1) := by decide +kernel
theorem dX2_init_0 : decode cX2_init 0 = .ok (.aload_n 0, 1) := by decide +kernel
theorem dX2_init_1 : decode cX2_init 1 = .ok (.invokespecial 3, 3) := by decide +kernel
theorem dX2_init_4 : decode cX2_init 4 = .ok (.return_, 1) := by decide +kernel
theorem dX2_readInto_0 : decode cX2_readInto 0 = .ok (.aload_n 0, 1) := by decide +kernel
theorem dX2_readInto_1 : decode cX2_readInto 1 = .ok (.aload_n 2, 1) := by decide +kernel
theorem dX2_readInto_2 : decode cX2_readInto 2 = .ok (.putfield 9, 3) := by decide +kernel
theorem dX2_readInto_5 : decode cX2_readInto 5 = .ok (.aload_n 0, 1) := by decide +kernel
theorem dX2_readInto_6 : decode cX2_readInto 6 = .ok (.iload_n 3, 1) := by decide +kernel
theorem dX2_readInto_7 : decode cX2_readInto 7 = .ok (.putfield 15, 3) := by decide +kernel
theorem dX2_readInto_10 : decode cX2_readInto 10 = .ok (.aload_n 0, 1) := by decide +kernel
theorem dX2_readInto_11 : decode cX2_readInto 11 = .ok (.iload 4, 2) := by decide +kernel
theorem dX2_readInto_13 : decode cX2_readInto 13 = .ok (.putfield 19, 3) := by decide +kernel
theorem dX2_readInto_16 : decode cX2_readInto 16 = .ok (.aload_n 0, 1) := by decide +kernel
theorem dX2_readInto_17 : decode cX2_readInto 17 = .ok (.iconst 0, 1) := by decide +kernel
theorem dX2_readInto_18 : decode cX2_readInto 18 = .ok (.putfield 22, 3) := by decide +kernel
theorem dX2_readInto_21 : decode cX2_readInto 21 = .ok (.aload_n 1, 1) := by decide +kernel
theorem dX2_readInto_22 : decode cX2_readInto 22 = .ok (.invokevirtual 25, 3) := by decide +kernel
theorem dX2_readInto_25 : decode cX2_readInto 25 = .ok (.aload_n 0, 1) := by decide +kernel
theorem dX2_readInto_26 : decode cX2_readInto 26 = .ok (.bipush 117, 2) := by decide +kernel
theorem dX2_readInto_28 : decode cX2_readInto 28 = .ok (.bipush 117, 2) := by decide +kernel
theorem dX2_readInto_30 : decode cX2_readInto 30 = .ok (.invokevirtual 29, 3) := by decide +kernel
theorem dX2_readInto_33 : decode cX2_readInto 33 = .ok (.ifCond .eq 14, 3) := by decide +kernel
theorem dX2_readInto_36 : decode cX2_readInto 36 = .ok (.aload_n 0, 1) := by decide +kernel
theorem dX2_readInto_37 : decode cX2_readInto 37 = .ok (.bipush 48, 2) := by decide +kernel
theorem dX2_readInto_39 : decode cX2_readInto 39 = .ok (.bipush 57, 2) := by decide +kernel
theorem dX2_readInto_41 : decode cX2_readInto 41 = .ok (.invokevirtual 29, 3) := by decide +kernel
theorem dX2_readInto_44 : decode cX2_readInto 44 = .ok (.ifCond .ne 5, 3) := by decide +kernel
theorem dX2_readInto_47 : decode cX2_readInto 47 = .ok (.iconst 0, 1) := by decide +kernel
theorem dX2_readInto_48 : decode cX2_readInto 48 = .ok (.ireturn, 1) := by decide +kernel
theorem dX2_readInto_49 : decode cX2_readInto 49 = .ok (.aload_n 1, 1) := by decide +kernel
theorem dX2_readInto_50 : decode cX2_readInto 50 = .ok (.aload_n 0, 1) := by decide +kernel
theorem dX2_readInto_51 : decode cX2_readInto 51 = .ok (.iconst 1, 1) := by decide +kernel
theorem dX2_readInto_52 : decode cX2_readInto 52 = .ok (.invokevirtual 33, 3) := by decide +kernel
theorem dX2_readInto_55 : decode cX2_readInto 55 = .ok (.putfield 37, 3) := by decide +kernel
theorem dX2_readInto_58 : decode cX2_readInto 58 = .ok (.aload_n 0, 1) := by decide +kernel
theorem dX2_readInto_59 : decode cX2_readInto 59 = .ok (.aload_n 1, 1) := by decide +kernel
theorem dX2_readInto_60 : decode cX2_readInto 60 = .ok (.invokevirtual 40, 3) := by decide +kernel
theorem dX2_readInto_63 : decode cX2_readInto 63 = .ok (.ifCond .eq 26, 3) := by decide +kernel
theorem dX2_readInto_66 : decode cX2_readInto 66 = .ok (.aload_n 0, 1) := by decide +kernel
theorem dX2_readInto_67 : decode cX2_readInto 67 = .ok (.aload_n 1, 1) := by decide +kernel
theorem dX2_readInto_68 : decode cX2_readInto 68 = .ok (.invokevirtual 44, 3) := by decide +kernel
theorem dX2_readInto_71 : decode cX2_readInto 71 = .ok (.ifCond .eq 18, 3) := by decide +kernel
theorem dX2_readInto_74 : decode cX2_readInto 74 = .ok (.aload_n 0, 1) := by decide +kernel
theorem dX2_readInto_75 : decode cX2_readInto 75 = .ok (.getfield 22, 3) := by decide +kernel
theorem dX2_readInto_78 : decode cX2_readInto 78 = .ok (.aload_n 0, 1) := by decide +kernel
theorem dX2_readInto_79 : decode cX2_readInto 79 = .ok (.getfield 19, 3) := by decide +kernel
theorem dX2_readInto_82 : decode cX2_readInto 82 = .ok (.if_icmp .ne 7, 3) := by decide +kernel
theorem dX2_readInto_85 : decode cX2_readInto 85 = .ok (.iconst 1, 1) := by decide +kernel
theorem dX2_readInto_86 : decode cX2_readInto 86 = .ok (.goto 4, 3) := by decide +kernel
theorem dX2_readInto_89 : decode cX2_readInto 89 = .ok (.iconst 0, 1) := by decide +kernel
theorem dX2_readInto_90 : decode cX2_readInto 90 = .ok (.ireturn, 1) := by decide +kernel
theorem dX2_place_0 : decode cX2_place 0 = .ok (.aload_n 0, 1) := by decide +kernel
theorem dX2_place_1 : decode cX2_place 1 = .ok (.getfield 22, 3) := by decide +kernel
theorem dX2_place_4 : decode cX2_place 4 = .ok (.ireturn, 1) := by decide +kernel
theorem dX2_readPosts_0 : decode cX2_readPosts 0 = .ok (.iconst 0, 1) := by decide +kernel
theorem dX2_readPosts_1 : decode cX2_readPosts 1 = .ok (.istore_n 2, 1) := by decide +kernel
theorem dX2_readPosts_2 : decode cX2_readPosts 2 = .ok (.iload_n 2, 1) := by decide +kernel
theorem dX2_readPosts_3 : decode cX2_readPosts 3 = .ok (.iconst 4, 1) := by decide +kernel
theorem dX2_readPosts_4 : decode cX2_readPosts 4 = .ok (.if_icmp .ge 73, 3) := by decide +kernel
theorem dX2_readPosts_7 : decode cX2_readPosts 7 = .ok (.iload_n 2, 1) := by decide +kernel
theorem dX2_readPosts_8 : decode cX2_readPosts 8 = .ok (.ifCond .le 14, 3) := by decide +kernel
theorem dX2_readPosts_11 : decode cX2_readPosts 11 = .ok (.aload_n 0, 1) := by decide +kernel
theorem dX2_readPosts_12 : decode cX2_readPosts 12 = .ok (.invokevirtual 47, 3) := by decide +kernel
theorem dX2_readPosts_15 : decode cX2_readPosts 15 = .ok (.bipush 59, 2) := by decide +kernel
theorem dX2_readPosts_17 : decode cX2_readPosts 17 = .ok (.if_icmp .eq 5, 3) := by decide +kernel
theorem dX2_readPosts_20 : decode cX2_readPosts 20 = .ok (.iconst 1, 1) := by decide +kernel
theorem dX2_readPosts_21 : decode cX2_readPosts 21 = .ok (.ireturn, 1) := by decide +kernel
theorem dX2_readPosts_22 : decode cX2_readPosts 22 = .ok (.aload_n 0, 1) := by decide +kernel
theorem dX2_readPosts_23 : decode cX2_readPosts 23 = .ok (.bipush 59, 2) := by decide +kernel
theorem dX2_readPosts_25 : decode cX2_readPosts 25 = .ok (.bipush 59, 2) := by decide +kernel
theorem dX2_readPosts_27 : decode cX2_readPosts 27 = .ok (.invokevirtual 29, 3) := by decide +kernel
theorem dX2_readPosts_30 : decode cX2_readPosts 30 = .ok (.ifCond .eq 25, 3) := by decide +kernel
theorem dX2_readPosts_33 : decode cX2_readPosts 33 = .ok (.aload_n 0, 1) := by decide +kernel
theorem dX2_readPosts_34 : decode cX2_readPosts 34 = .ok (.bipush 49, 2) := by decide +kernel
theorem dX2_readPosts_36 : decode cX2_readPosts 36 = .ok (.bipush 57, 2) := by decide +kernel
theorem dX2_readPosts_38 : decode cX2_readPosts 38 = .ok (.invokevirtual 29, 3) := by decide +kernel
theorem dX2_readPosts_41 : decode cX2_readPosts 41 = .ok (.ifCond .eq 14, 3) := by decide +kernel
theorem dX2_readPosts_44 : decode cX2_readPosts 44 = .ok (.aload_n 0, 1) := by decide +kernel
theorem dX2_readPosts_45 : decode cX2_readPosts 45 = .ok (.bipush 48, 2) := by decide +kernel
theorem dX2_readPosts_47 : decode cX2_readPosts 47 = .ok (.bipush 57, 2) := by decide +kernel
theorem dX2_readPosts_49 : decode cX2_readPosts 49 = .ok (.invokevirtual 29, 3) := by decide +kernel
theorem dX2_readPosts_52 : decode cX2_readPosts 52 = .ok (.ifCond .ne 5, 3) := by decide +kernel
theorem dX2_readPosts_55 : decode cX2_readPosts 55 = .ok (.iconst 0, 1) := by decide +kernel
theorem dX2_readPosts_56 : decode cX2_readPosts 56 = .ok (.ireturn, 1) := by decide +kernel
theorem dX2_readPosts_57 : decode cX2_readPosts 57 = .ok (.aload_n 1, 1) := by decide +kernel
theorem dX2_readPosts_58 : decode cX2_readPosts 58 = .ok (.aload_n 0, 1) := by decide +kernel
theorem dX2_readPosts_59 : decode cX2_readPosts 59 = .ok (.iconst 2, 1) := by decide +kernel
theorem dX2_readPosts_60 : decode cX2_readPosts 60 = .ok (.invokevirtual 33, 3) := by decide +kernel
theorem dX2_readPosts_63 : decode cX2_readPosts 63 = .ok (.aload_n 0, 1) := by decide +kernel
theorem dX2_readPosts_64 : decode cX2_readPosts 64 = .ok (.iconst 1, 1) := by decide +kernel
theorem dX2_readPosts_65 : decode cX2_readPosts 65 = .ok (.invokevirtual 33, 3) := by decide +kernel
theorem dX2_readPosts_68 : decode cX2_readPosts 68 = .ok (.invokevirtual 51, 3) := by decide +kernel
theorem dX2_readPosts_71 : decode cX2_readPosts 71 = .ok (.iinc 2 1, 3) := by decide +kernel
theorem dX2_readPosts_74 : decode cX2_readPosts 74 = .ok (.goto (-72), 3) := by decide +kernel
theorem dX2_readPosts_77 : decode cX2_readPosts 77 = .ok (.iconst 1, 1) := by decide +kernel
theorem dX2_readPosts_78 : decode cX2_readPosts 78 = .ok (.ireturn, 1) := by decide +kernel
theorem dX2_readSilences_0 : decode cX2_readSilences 0 = .ok (.iconst 0, 1) := by decide +kernel
theorem dX2_readSilences_1 : decode cX2_readSilences 1 = .ok (.istore_n 2, 1) := by decide +kernel
theorem dX2_readSilences_2 : decode cX2_readSilences 2 = .ok (.iload_n 2, 1) := by decide +kernel
theorem dX2_readSilences_3 : decode cX2_readSilences 3 = .ok (.iconst 4, 1) := by decide +kernel
theorem dX2_readSilences_4 : decode cX2_readSilences 4 = .ok (.if_icmp .ge 104, 3) := by decide +kernel
theorem dX2_readSilences_7 : decode cX2_readSilences 7 = .ok (.iload_n 2, 1) := by decide +kernel
theorem dX2_readSilences_8 : decode cX2_readSilences 8 = .ok (.ifCond .le 16, 3) := by decide +kernel
theorem dX2_readSilences_11 : decode cX2_readSilences 11 = .ok (.aload_n 0, 1) := by decide +kernel
theorem dX2_readSilences_12 : decode cX2_readSilences 12 = .ok (.getfield 22, 3) := by decide +kernel
theorem dX2_readSilences_15 : decode cX2_readSilences 15 = .ok (.aload_n 0, 1) := by decide +kernel
theorem dX2_readSilences_16 : decode cX2_readSilences 16 = .ok (.getfield 19, 3) := by decide +kernel
theorem dX2_readSilences_19 : decode cX2_readSilences 19 = .ok (.if_icmp .ne 5, 3) := by decide +kernel
theorem dX2_readSilences_22 : decode cX2_readSilences 22 = .ok (.iconst 1, 1) := by decide +kernel
theorem dX2_readSilences_23 : decode cX2_readSilences 23 = .ok (.ireturn, 1) := by decide +kernel
theorem dX2_readSilences_24 : decode cX2_readSilences 24 = .ok (.aload_n 0, 1) := by decide +kernel
theorem dX2_readSilences_25 : decode cX2_readSilences 25 = .ok (.bipush 44, 2) := by decide +kernel
theorem dX2_readSilences_27 : decode cX2_readSilences 27 = .ok (.bipush 44, 2) := by decide +kernel
theorem dX2_readSilences_29 : decode cX2_readSilences 29 = .ok (.invokevirtual 29, 3) := by decide +kernel
theorem dX2_readSilences_32 : decode cX2_readSilences 32 = .ok (.ifCond .ne 5, 3) := by decide +kernel
theorem dX2_readSilences_35 : decode cX2_readSilences 35 = .ok (.iconst 0, 1) := by decide +kernel
theorem dX2_readSilences_36 : decode cX2_readSilences 36 = .ok (.ireturn, 1) := by decide +kernel
theorem dX2_readSilences_37 : decode cX2_readSilences 37 = .ok (.aload_n 0, 1) := by decide +kernel
theorem dX2_readSilences_38 : decode cX2_readSilences 38 = .ok (.invokevirtual 47, 3) := by decide +kernel
theorem dX2_readSilences_41 : decode cX2_readSilences 41 = .ok (.invokestatic 55, 3) := by decide +kernel
theorem dX2_readSilences_44 : decode cX2_readSilences 44 = .ok (.istore_n 3, 1) := by decide +kernel
theorem dX2_readSilences_45 : decode cX2_readSilences 45 = .ok (.iload_n 3, 1) := by decide +kernel
theorem dX2_readSilences_46 : decode cX2_readSilences 46 = .ok (.bipush (-9), 2) := by decide +kernel
theorem dX2_readSilences_48 : decode cX2_readSilences 48 = .ok (.if_icmp .ne 5, 3) := by decide +kernel
theorem dX2_readSilences_51 : decode cX2_readSilences 51 = .ok (.iconst 0, 1) := by decide +kernel
theorem dX2_readSilences_52 : decode cX2_readSilences 52 = .ok (.ireturn, 1) := by decide +kernel
theorem dX2_readSilences_53 : decode cX2_readSilences 53 = .ok (.aload_n 0, 1) := by decide +kernel
theorem dX2_readSilences_54 : decode cX2_readSilences 54 = .ok (.dup, 1) := by decide +kernel
theorem dX2_readSilences_55 : decode cX2_readSilences 55 = .ok (.getfield 22, 3) := by decide +kernel
theorem dX2_readSilences_58 : decode cX2_readSilences 58 = .ok (.iconst 1, 1) := by decide +kernel
theorem dX2_readSilences_59 : decode cX2_readSilences 59 = .ok (.iadd, 1) := by decide +kernel
theorem dX2_readSilences_60 : decode cX2_readSilences 60 = .ok (.putfield 22, 3) := by decide +kernel
theorem dX2_readSilences_63 : decode cX2_readSilences 63 = .ok (.aload_n 0, 1) := by decide +kernel
theorem dX2_readSilences_64 : decode cX2_readSilences 64 = .ok (.bipush 49, 2) := by decide +kernel
theorem dX2_readSilences_66 : decode cX2_readSilences 66 = .ok (.bipush 57, 2) := by decide +kernel
theorem dX2_readSilences_68 : decode cX2_readSilences 68 = .ok (.invokevirtual 29, 3) := by decide +kernel
theorem dX2_readSilences_71 : decode cX2_readSilences 71 = .ok (.ifCond .eq 14, 3) := by decide +kernel
theorem dX2_readSilences_74 : decode cX2_readSilences 74 = .ok (.aload_n 0, 1) := by decide +kernel
theorem dX2_readSilences_75 : decode cX2_readSilences 75 = .ok (.bipush 49, 2) := by decide +kernel
theorem dX2_readSilences_77 : decode cX2_readSilences 77 = .ok (.bipush 57, 2) := by decide +kernel
theorem dX2_readSilences_79 : decode cX2_readSilences 79 = .ok (.invokevirtual 29, 3) := by decide +kernel
theorem dX2_readSilences_82 : decode cX2_readSilences 82 = .ok (.ifCond .ne 5, 3) := by decide +kernel
theorem dX2_readSilences_85 : decode cX2_readSilences 85 = .ok (.iconst 0, 1) := by decide +kernel
theorem dX2_readSilences_86 : decode cX2_readSilences 86 = .ok (.ireturn, 1) := by decide +kernel
theorem dX2_readSilences_87 : decode cX2_readSilences 87 = .ok (.aload_n 1, 1) := by decide +kernel
theorem dX2_readSilences_88 : decode cX2_readSilences 88 = .ok (.iload_n 3, 1) := by decide +kernel
theorem dX2_readSilences_89 : decode cX2_readSilences 89 = .ok (.aload_n 0, 1) := by decide +kernel
theorem dX2_readSilences_90 : decode cX2_readSilences 90 = .ok (.iconst 2, 1) := by decide +kernel
theorem dX2_readSilences_91 : decode cX2_readSilences 91 = .ok (.invokevirtual 33, 3) := by decide +kernel
theorem dX2_readSilences_94 : decode cX2_readSilences 94 = .ok (.aload_n 0, 1) := by decide +kernel
theorem dX2_readSilences_95 : decode cX2_readSilences 95 = .ok (.iconst 1, 1) := by decide +kernel
theorem dX2_readSilences_96 : decode cX2_readSilences 96 = .ok (.invokevirtual 33, 3) := by decide +kernel
theorem dX2_readSilences_99 : decode cX2_readSilences 99 = .ok (.invokevirtual 58, 3) := by decide +kernel
theorem dX2_readSilences_102 : decode cX2_readSilences 102 = .ok (.iinc 2 1, 3) := by decide +kernel
theorem dX2_readSilences_105 : decode cX2_readSilences 105 = .ok (.goto (-103), 3) := by decide +kernel
theorem dX2_readSilences_108 : decode cX2_readSilences 108 = .ok (.iconst 1, 1) := by decide +kernel
theorem dX2_readSilences_109 : decode cX2_readSilences 109 = .ok (.ireturn, 1) := by decide +kernel
theorem dX2_takes_0 : decode cX2_takes 0 = .ok (.aload_n 0, 1) := by decide +kernel
theorem dX2_takes_1 : decode cX2_takes 1 = .ok (.invokevirtual 47, 3) := by decide +kernel
theorem dX2_takes_4 : decode cX2_takes 4 = .ok (.istore_n 3, 1) := by decide +kernel
theorem dX2_takes_5 : decode cX2_takes 5 = .ok (.iload_n 3, 1) := by decide +kernel
theorem dX2_takes_6 : decode cX2_takes 6 = .ok (.iload_n 1, 1) := by decide +kernel
theorem dX2_takes_7 : decode cX2_takes 7 = .ok (.if_icmp .lt 8, 3) := by decide +kernel
theorem dX2_takes_10 : decode cX2_takes 10 = .ok (.iload_n 3, 1) := by decide +kernel
theorem dX2_takes_11 : decode cX2_takes 11 = .ok (.iload_n 2, 1) := by decide +kernel
theorem dX2_takes_12 : decode cX2_takes 12 = .ok (.if_icmp .le 5, 3) := by decide +kernel
theorem dX2_takes_15 : decode cX2_takes 15 = .ok (.iconst 0, 1) := by decide +kernel
theorem dX2_takes_16 : decode cX2_takes 16 = .ok (.ireturn, 1) := by decide +kernel
theorem dX2_takes_17 : decode cX2_takes 17 = .ok (.aload_n 0, 1) := by decide +kernel
theorem dX2_takes_18 : decode cX2_takes 18 = .ok (.dup, 1) := by decide +kernel
theorem dX2_takes_19 : decode cX2_takes 19 = .ok (.getfield 22, 3) := by decide +kernel
theorem dX2_takes_22 : decode cX2_takes 22 = .ok (.iconst 1, 1) := by decide +kernel
theorem dX2_takes_23 : decode cX2_takes 23 = .ok (.iadd, 1) := by decide +kernel
theorem dX2_takes_24 : decode cX2_takes 24 = .ok (.putfield 22, 3) := by decide +kernel
theorem dX2_takes_27 : decode cX2_takes 27 = .ok (.iconst 1, 1) := by decide +kernel
theorem dX2_takes_28 : decode cX2_takes 28 = .ok (.ireturn, 1) := by decide +kernel
theorem dX2_code_0 : decode cX2_code 0 = .ok (.aload_n 0, 1) := by decide +kernel
theorem dX2_code_1 : decode cX2_code 1 = .ok (.getfield 22, 3) := by decide +kernel
theorem dX2_code_4 : decode cX2_code 4 = .ok (.aload_n 0, 1) := by decide +kernel
theorem dX2_code_5 : decode cX2_code 5 = .ok (.getfield 19, 3) := by decide +kernel
theorem dX2_code_8 : decode cX2_code 8 = .ok (.if_icmp .ge 14, 3) := by decide +kernel
theorem dX2_code_11 : decode cX2_code 11 = .ok (.aload_n 0, 1) := by decide +kernel
theorem dX2_code_12 : decode cX2_code 12 = .ok (.aload_n 0, 1) := by decide +kernel
theorem dX2_code_13 : decode cX2_code 13 = .ok (.getfield 22, 3) := by decide +kernel
theorem dX2_code_16 : decode cX2_code 16 = .ok (.invokevirtual 62, 3) := by decide +kernel
theorem dX2_code_19 : decode cX2_code 19 = .ok (.goto 5, 3) := by decide +kernel
theorem dX2_code_22 : decode cX2_code 22 = .ok (.bipush (-9), 2) := by decide +kernel
theorem dX2_code_24 : decode cX2_code 24 = .ok (.ireturn, 1) := by decide +kernel
theorem dX2_digitBefore_0 : decode cX2_digitBefore 0 = .ok (.aload_n 0, 1) := by decide +kernel
theorem dX2_digitBefore_1 : decode cX2_digitBefore 1 = .ok (.aload_n 0, 1) := by decide +kernel
theorem dX2_digitBefore_2 : decode cX2_digitBefore 2 = .ok (.getfield 22, 3) := by decide +kernel
theorem dX2_digitBefore_5 : decode cX2_digitBefore 5 = .ok (.iload_n 1, 1) := by decide +kernel
theorem dX2_digitBefore_6 : decode cX2_digitBefore 6 = .ok (.isub, 1) := by decide +kernel
theorem dX2_digitBefore_7 : decode cX2_digitBefore 7 = .ok (.invokevirtual 62, 3) := by decide +kernel
theorem dX2_digitBefore_10 : decode cX2_digitBefore 10 = .ok (.bipush 48, 2) := by decide +kernel
theorem dX2_digitBefore_12 : decode cX2_digitBefore 12 = .ok (.isub, 1) := by decide +kernel
theorem dX2_digitBefore_13 : decode cX2_digitBefore 13 = .ok (.ireturn, 1) := by decide +kernel
theorem dX2_codeAt_0 : decode cX2_codeAt 0 = .ok (.aload_n 0, 1) := by decide +kernel
theorem dX2_codeAt_1 : decode cX2_codeAt 1 = .ok (.getfield 9, 3) := by decide +kernel
theorem dX2_codeAt_4 : decode cX2_codeAt 4 = .ok (.ifnull 36, 3) := by decide +kernel
theorem dX2_codeAt_7 : decode cX2_codeAt 7 = .ok (.aload_n 0, 1) := by decide +kernel
theorem dX2_codeAt_8 : decode cX2_codeAt 8 = .ok (.getfield 9, 3) := by decide +kernel
theorem dX2_codeAt_11 : decode cX2_codeAt 11 = .ok (.aload_n 0, 1) := by decide +kernel
theorem dX2_codeAt_12 : decode cX2_codeAt 12 = .ok (.getfield 15, 3) := by decide +kernel
theorem dX2_codeAt_15 : decode cX2_codeAt 15 = .ok (.iload_n 1, 1) := by decide +kernel
theorem dX2_codeAt_16 : decode cX2_codeAt 16 = .ok (.iadd, 1) := by decide +kernel
theorem dX2_codeAt_17 : decode cX2_codeAt 17 = .ok (.invokevirtual 65, 3) := by decide +kernel
theorem dX2_codeAt_20 : decode cX2_codeAt 20 = .ok (.ifCond .eq 20, 3) := by decide +kernel
theorem dX2_codeAt_23 : decode cX2_codeAt 23 = .ok (.aload_n 0, 1) := by decide +kernel
theorem dX2_codeAt_24 : decode cX2_codeAt 24 = .ok (.getfield 9, 3) := by decide +kernel
theorem dX2_codeAt_27 : decode cX2_codeAt 27 = .ok (.getfield 71, 3) := by decide +kernel
theorem dX2_codeAt_30 : decode cX2_codeAt 30 = .ok (.aload_n 0, 1) := by decide +kernel
theorem dX2_codeAt_31 : decode cX2_codeAt 31 = .ok (.getfield 15, 3) := by decide +kernel
theorem dX2_codeAt_34 : decode cX2_codeAt 34 = .ok (.iload_n 1, 1) := by decide +kernel
theorem dX2_codeAt_35 : decode cX2_codeAt 35 = .ok (.iadd, 1) := by decide +kernel
theorem dX2_codeAt_36 : decode cX2_codeAt 36 = .ok (.iaload, 1) := by decide +kernel
theorem dX2_codeAt_37 : decode cX2_codeAt 37 = .ok (.goto 5, 3) := by decide +kernel
theorem dX2_codeAt_40 : decode cX2_codeAt 40 = .ok (.bipush (-9), 2) := by decide +kernel
theorem dX2_codeAt_42 : decode cX2_codeAt 42 = .ok (.ireturn, 1) := by decide +kernel
theorem dX2_kindOf_0 : decode cX2_kindOf 0 = .ok (.iload_n 0, 1) := by decide +kernel
theorem dX2_kindOf_1 : decode cX2_kindOf 1 = .ok (.lookupswitch 41 #[(104, 39), (107, 37), (115, 35)], 35) := by decide +kernel
theorem dX2_kindOf_36 : decode cX2_kindOf 36 = .ok (.iconst 0, 1) := by decide +kernel
theorem dX2_kindOf_37 : decode cX2_kindOf 37 = .ok (.ireturn, 1) := by decide +kernel
theorem dX2_kindOf_38 : decode cX2_kindOf 38 = .ok (.iconst 1, 1) := by decide +kernel
theorem dX2_kindOf_39 : decode cX2_kindOf 39 = .ok (.ireturn, 1) := by decide +kernel
theorem dX2_kindOf_40 : decode cX2_kindOf 40 = .ok (.iconst 2, 1) := by decide +kernel
theorem dX2_kindOf_41 : decode cX2_kindOf 41 = .ok (.ireturn, 1) := by decide +kernel
theorem dX2_kindOf_42 : decode cX2_kindOf 42 = .ok (.bipush (-9), 2) := by decide +kernel
theorem dX2_kindOf_44 : decode cX2_kindOf 44 = .ok (.ireturn, 1) := by decide +kernel
theorem dX3_init_0 : decode cX3_init 0 = .ok (.aload_n 0, 1) := by decide +kernel
theorem dX3_init_1 : decode cX3_init 1 = .ok (.invokespecial 3, 3) := by decide +kernel
theorem dX3_init_4 : decode cX3_init 4 = .ok (.aload_n 0, 1) := by decide +kernel
theorem dX3_init_5 : decode cX3_init 5 = .ok (.bipush 8, 2) := by decide +kernel
theorem dX3_init_7 : decode cX3_init 7 = .ok (.newarray .int, 2) := by decide +kernel
theorem dX3_init_9 : decode cX3_init 9 = .ok (.putfield 9, 3) := by decide +kernel
theorem dX3_init_12 : decode cX3_init 12 = .ok (.return_, 1) := by decide +kernel
theorem dX3_begin_0 : decode cX3_begin 0 = .ok (.aload_n 0, 1) := by decide +kernel
theorem dX3_begin_1 : decode cX3_begin 1 = .ok (.iconst 0, 1) := by decide +kernel
theorem dX3_begin_2 : decode cX3_begin 2 = .ok (.putfield 15, 3) := by decide +kernel
theorem dX3_begin_5 : decode cX3_begin 5 = .ok (.return_, 1) := by decide +kernel
theorem dX3_goOn_0 : decode cX3_goOn 0 = .ok (.aload_n 0, 1) := by decide +kernel
theorem dX3_goOn_1 : decode cX3_goOn 1 = .ok (.getfield 15, 3) := by decide +kernel
theorem dX3_goOn_4 : decode cX3_goOn 4 = .ok (.bipush 8, 2) := by decide +kernel
theorem dX3_goOn_6 : decode cX3_goOn 6 = .ok (.if_icmp .ge 23, 3) := by decide +kernel
theorem dX3_goOn_9 : decode cX3_goOn 9 = .ok (.aload_n 0, 1) := by decide +kernel
theorem dX3_goOn_10 : decode cX3_goOn 10 = .ok (.getfield 9, 3) := by decide +kernel
theorem dX3_goOn_13 : decode cX3_goOn 13 = .ok (.aload_n 0, 1) := by decide +kernel
theorem dX3_goOn_14 : decode cX3_goOn 14 = .ok (.getfield 15, 3) := by decide +kernel
theorem dX3_goOn_17 : decode cX3_goOn 17 = .ok (.iload_n 1, 1) := by decide +kernel
theorem dX3_goOn_18 : decode cX3_goOn 18 = .ok (.iastore, 1) := by decide +kernel
theorem dX3_goOn_19 : decode cX3_goOn 19 = .ok (.aload_n 0, 1) := by decide +kernel
theorem dX3_goOn_20 : decode cX3_goOn 20 = .ok (.dup, 1) := by decide +kernel
theorem dX3_goOn_21 : decode cX3_goOn 21 = .ok (.getfield 15, 3) := by decide +kernel
theorem dX3_goOn_24 : decode cX3_goOn 24 = .ok (.iconst 1, 1) := by decide +kernel
theorem dX3_goOn_25 : decode cX3_goOn 25 = .ok (.iadd, 1) := by decide +kernel
theorem dX3_goOn_26 : decode cX3_goOn 26 = .ok (.putfield 15, 3) := by decide +kernel
theorem dX3_goOn_29 : decode cX3_goOn 29 = .ok (.return_, 1) := by decide +kernel
theorem dX3_costIn_0 : decode cX3_costIn 0 = .ok (.lconst 0, 1) := by decide +kernel
theorem dX3_costIn_1 : decode cX3_costIn 1 = .ok (.lstore_n 2, 1) := by decide +kernel
theorem dX3_costIn_2 : decode cX3_costIn 2 = .ok (.iconst 0, 1) := by decide +kernel
theorem dX3_costIn_3 : decode cX3_costIn 3 = .ok (.istore 4, 2) := by decide +kernel
theorem dX3_costIn_5 : decode cX3_costIn 5 = .ok (.iload 4, 2) := by decide +kernel
theorem dX3_costIn_7 : decode cX3_costIn 7 = .ok (.aload_n 0, 1) := by decide +kernel
theorem dX3_costIn_8 : decode cX3_costIn 8 = .ok (.getfield 15, 3) := by decide +kernel
theorem dX3_costIn_11 : decode cX3_costIn 11 = .ok (.if_icmp .ge 28, 3) := by decide +kernel
theorem dX3_costIn_14 : decode cX3_costIn 14 = .ok (.lload_n 2, 1) := by decide +kernel
theorem dX3_costIn_15 : decode cX3_costIn 15 = .ok (.aload_n 1, 1) := by decide +kernel
theorem dX3_costIn_16 : decode cX3_costIn 16 = .ok (.aload_n 0, 1) := by decide +kernel
theorem dX3_costIn_17 : decode cX3_costIn 17 = .ok (.getfield 9, 3) := by decide +kernel
theorem dX3_costIn_20 : decode cX3_costIn 20 = .ok (.iload 4, 2) := by decide +kernel
theorem dX3_costIn_22 : decode cX3_costIn 22 = .ok (.iaload, 1) := by decide +kernel
theorem dX3_costIn_23 : decode cX3_costIn 23 = .ok (.invokevirtual 19, 3) := by decide +kernel
theorem dX3_costIn_26 : decode cX3_costIn 26 = .ok (.i2l, 1) := by decide +kernel
theorem dX3_costIn_27 : decode cX3_costIn 27 = .ok (.ldc2_w 25, 3) := by decide +kernel
theorem dX3_costIn_30 : decode cX3_costIn 30 = .ok (.lmul, 1) := by decide +kernel
theorem dX3_costIn_31 : decode cX3_costIn 31 = .ok (.ladd, 1) := by decide +kernel
theorem dX3_costIn_32 : decode cX3_costIn 32 = .ok (.lstore_n 2, 1) := by decide +kernel
theorem dX3_costIn_33 : decode cX3_costIn 33 = .ok (.iinc 4 1, 3) := by decide +kernel
theorem dX3_costIn_36 : decode cX3_costIn 36 = .ok (.goto (-31), 3) := by decide +kernel
theorem dX3_costIn_39 : decode cX3_costIn 39 = .ok (.iconst 0, 1) := by decide +kernel
theorem dX3_costIn_40 : decode cX3_costIn 40 = .ok (.istore 4, 2) := by decide +kernel
theorem dX3_costIn_42 : decode cX3_costIn 42 = .ok (.iload 4, 2) := by decide +kernel
theorem dX3_costIn_44 : decode cX3_costIn 44 = .ok (.aload_n 1, 1) := by decide +kernel
theorem dX3_costIn_45 : decode cX3_costIn 45 = .ok (.getfield 27, 3) := by decide +kernel
theorem dX3_costIn_48 : decode cX3_costIn 48 = .ok (.if_icmp .ge 19, 3) := by decide +kernel
theorem dX3_costIn_51 : decode cX3_costIn 51 = .ok (.lload_n 2, 1) := by decide +kernel
theorem dX3_costIn_52 : decode cX3_costIn 52 = .ok (.aload_n 0, 1) := by decide +kernel
theorem dX3_costIn_53 : decode cX3_costIn 53 = .ok (.aload_n 1, 1) := by decide +kernel
theorem dX3_costIn_54 : decode cX3_costIn 54 = .ok (.iload 4, 2) := by decide +kernel
theorem dX3_costIn_56 : decode cX3_costIn 56 = .ok (.invokevirtual 30, 3) := by decide +kernel
theorem dX3_costIn_59 : decode cX3_costIn 59 = .ok (.ladd, 1) := by decide +kernel
theorem dX3_costIn_60 : decode cX3_costIn 60 = .ok (.lstore_n 2, 1) := by decide +kernel
theorem dX3_costIn_61 : decode cX3_costIn 61 = .ok (.iinc 4 1, 3) := by decide +kernel
theorem dX3_costIn_64 : decode cX3_costIn 64 = .ok (.goto (-22), 3) := by decide +kernel
theorem dX3_costIn_67 : decode cX3_costIn 67 = .ok (.lload_n 2, 1) := by decide +kernel
theorem dX3_costIn_68 : decode cX3_costIn 68 = .ok (.lreturn, 1) := by decide +kernel
theorem dX3_meanTaken_0 : decode cX3_meanTaken 0 = .ok (.ldc2_w 25, 3) := by decide +kernel
theorem dX3_meanTaken_3 : decode cX3_meanTaken 3 = .ok (.lstore_n 3, 1) := by decide +kernel
theorem dX3_meanTaken_4 : decode cX3_meanTaken 4 = .ok (.lconst 0, 1) := by decide +kernel
theorem dX3_meanTaken_5 : decode cX3_meanTaken 5 = .ok (.lstore 5, 2) := by decide +kernel
theorem dX3_meanTaken_7 : decode cX3_meanTaken 7 = .ok (.iconst 0, 1) := by decide +kernel
theorem dX3_meanTaken_8 : decode cX3_meanTaken 8 = .ok (.istore 7, 2) := by decide +kernel
theorem dX3_meanTaken_10 : decode cX3_meanTaken 10 = .ok (.iload 7, 2) := by decide +kernel
theorem dX3_meanTaken_12 : decode cX3_meanTaken 12 = .ok (.aload_n 0, 1) := by decide +kernel
theorem dX3_meanTaken_13 : decode cX3_meanTaken 13 = .ok (.getfield 15, 3) := by decide +kernel
theorem dX3_meanTaken_16 : decode cX3_meanTaken 16 = .ok (.if_icmp .ge 66, 3) := by decide +kernel
theorem dX3_meanTaken_19 : decode cX3_meanTaken 19 = .ok (.aload_n 0, 1) := by decide +kernel
theorem dX3_meanTaken_20 : decode cX3_meanTaken 20 = .ok (.getfield 9, 3) := by decide +kernel
theorem dX3_meanTaken_23 : decode cX3_meanTaken 23 = .ok (.iload 7, 2) := by decide +kernel
theorem dX3_meanTaken_25 : decode cX3_meanTaken 25 = .ok (.iaload, 1) := by decide +kernel
theorem dX3_meanTaken_26 : decode cX3_meanTaken 26 = .ok (.istore 8, 2) := by decide +kernel
theorem dX3_meanTaken_28 : decode cX3_meanTaken 28 = .ok (.lload_n 3, 1) := by decide +kernel
theorem dX3_meanTaken_29 : decode cX3_meanTaken 29 = .ok (.ldc2_w 34, 3) := by decide +kernel
theorem dX3_meanTaken_32 : decode cX3_meanTaken 32 = .ok (.ldiv, 1) := by decide +kernel
theorem dX3_meanTaken_33 : decode cX3_meanTaken 33 = .ok (.aload_n 1, 1) := by decide +kernel
theorem dX3_meanTaken_34 : decode cX3_meanTaken 34 = .ok (.iload_n 2, 1) := by decide +kernel
theorem dX3_meanTaken_35 : decode cX3_meanTaken 35 = .ok (.iload 8, 2) := by decide +kernel
theorem dX3_meanTaken_37 : decode cX3_meanTaken 37 = .ok (.invokevirtual 36, 3) := by decide +kernel
theorem dX3_meanTaken_40 : decode cX3_meanTaken 40 = .ok (.i2l, 1) := by decide +kernel
theorem dX3_meanTaken_41 : decode cX3_meanTaken 41 = .ok (.lmul, 1) := by decide +kernel
theorem dX3_meanTaken_42 : decode cX3_meanTaken 42 = .ok (.lstore 9, 2) := by decide +kernel
theorem dX3_meanTaken_44 : decode cX3_meanTaken 44 = .ok (.lload 5, 2) := by decide +kernel
theorem dX3_meanTaken_46 : decode cX3_meanTaken 46 = .ok (.lload 9, 2) := by decide +kernel
theorem dX3_meanTaken_48 : decode cX3_meanTaken 48 = .ok (.ldc2_w 40, 3) := by decide +kernel
theorem dX3_meanTaken_51 : decode cX3_meanTaken 51 = .ok (.lmul, 1) := by decide +kernel
theorem dX3_meanTaken_52 : decode cX3_meanTaken 52 = .ok (.aload_n 1, 1) := by decide +kernel
theorem dX3_meanTaken_53 : decode cX3_meanTaken 53 = .ok (.iload_n 2, 1) := by decide +kernel
theorem dX3_meanTaken_54 : decode cX3_meanTaken 54 = .ok (.invokevirtual 42, 3) := by decide +kernel
theorem dX3_meanTaken_57 : decode cX3_meanTaken 57 = .ok (.i2l, 1) := by decide +kernel
theorem dX3_meanTaken_58 : decode cX3_meanTaken 58 = .ok (.lmul, 1) := by decide +kernel
theorem dX3_meanTaken_59 : decode cX3_meanTaken 59 = .ok (.aload_n 1, 1) := by decide +kernel
theorem dX3_meanTaken_60 : decode cX3_meanTaken 60 = .ok (.getfield 45, 3) := by decide +kernel
theorem dX3_meanTaken_63 : decode cX3_meanTaken 63 = .ok (.iload 8, 2) := by decide +kernel
theorem dX3_meanTaken_65 : decode cX3_meanTaken 65 = .ok (.iaload, 1) := by decide +kernel
theorem dX3_meanTaken_66 : decode cX3_meanTaken 66 = .ok (.i2l, 1) := by decide +kernel
theorem dX3_meanTaken_67 : decode cX3_meanTaken 67 = .ok (.lmul, 1) := by decide +kernel
theorem dX3_meanTaken_68 : decode cX3_meanTaken 68 = .ok (.ladd, 1) := by decide +kernel
theorem dX3_meanTaken_69 : decode cX3_meanTaken 69 = .ok (.lstore 5, 2) := by decide +kernel
theorem dX3_meanTaken_71 : decode cX3_meanTaken 71 = .ok (.lload_n 3, 1) := by decide +kernel
theorem dX3_meanTaken_72 : decode cX3_meanTaken 72 = .ok (.lload 9, 2) := by decide +kernel
theorem dX3_meanTaken_74 : decode cX3_meanTaken 74 = .ok (.lsub, 1) := by decide +kernel
theorem dX3_meanTaken_75 : decode cX3_meanTaken 75 = .ok (.lstore_n 3, 1) := by decide +kernel
theorem dX3_meanTaken_76 : decode cX3_meanTaken 76 = .ok (.iinc 7 1, 3) := by decide +kernel
theorem dX3_meanTaken_79 : decode cX3_meanTaken 79 = .ok (.goto (-69), 3) := by decide +kernel
theorem dX3_meanTaken_82 : decode cX3_meanTaken 82 = .ok (.lload 5, 2) := by decide +kernel
theorem dX3_meanTaken_84 : decode cX3_meanTaken 84 = .ok (.lreturn, 1) := by decide +kernel
theorem dX4_init_0 : decode cX4_init 0 = .ok (.aload_n 0, 1) := by decide +kernel
theorem dX4_init_1 : decode cX4_init 1 = .ok (.invokespecial 3, 3) := by decide +kernel
theorem dX4_init_4 : decode cX4_init 4 = .ok (.aload_n 0, 1) := by decide +kernel
theorem dX4_init_5 : decode cX4_init 5 = .ok (.iconst 4, 1) := by decide +kernel
theorem dX4_init_6 : decode cX4_init 6 = .ok (.anewarray 11, 3) := by decide +kernel
theorem dX4_init_9 : decode cX4_init 9 = .ok (.putfield 13, 3) := by decide +kernel
theorem dX4_init_12 : decode cX4_init 12 = .ok (.iconst 0, 1) := by decide +kernel
theorem dX4_init_13 : decode cX4_init 13 = .ok (.istore_n 1, 1) := by decide +kernel
theorem dX4_init_14 : decode cX4_init 14 = .ok (.iload_n 1, 1) := by decide +kernel
theorem dX4_init_15 : decode cX4_init 15 = .ok (.iconst 4, 1) := by decide +kernel
theorem dX4_init_16 : decode cX4_init 16 = .ok (.if_icmp .ge 22, 3) := by decide +kernel
theorem dX4_init_19 : decode cX4_init 19 = .ok (.aload_n 0, 1) := by decide +kernel
theorem dX4_init_20 : decode cX4_init 20 = .ok (.getfield 13, 3) := by decide +kernel
theorem dX4_init_23 : decode cX4_init 23 = .ok (.iload_n 1, 1) := by decide +kernel
theorem dX4_init_24 : decode cX4_init 24 = .ok (.new 11, 3) := by decide +kernel
theorem dX4_init_27 : decode cX4_init 27 = .ok (.dup, 1) := by decide +kernel
theorem dX4_init_28 : decode cX4_init 28 = .ok (.invokespecial 17, 3) := by decide +kernel
theorem dX4_init_31 : decode cX4_init 31 = .ok (.aastore, 1) := by decide +kernel
theorem dX4_init_32 : decode cX4_init 32 = .ok (.iinc 1 1, 3) := by decide +kernel
theorem dX4_init_35 : decode cX4_init 35 = .ok (.goto (-21), 3) := by decide +kernel
theorem dX4_init_38 : decode cX4_init 38 = .ok (.aload_n 0, 1) := by decide +kernel
theorem dX4_init_39 : decode cX4_init 39 = .ok (.new 18, 3) := by decide +kernel
theorem dX4_init_42 : decode cX4_init 42 = .ok (.dup, 1) := by decide +kernel
theorem dX4_init_43 : decode cX4_init 43 = .ok (.invokespecial 20, 3) := by decide +kernel
theorem dX4_init_46 : decode cX4_init 46 = .ok (.putfield 21, 3) := by decide +kernel
theorem dX4_init_49 : decode cX4_init 49 = .ok (.aload_n 0, 1) := by decide +kernel
theorem dX4_init_50 : decode cX4_init 50 = .ok (.new 25, 3) := by decide +kernel
theorem dX4_init_53 : decode cX4_init 53 = .ok (.dup, 1) := by decide +kernel
theorem dX4_init_54 : decode cX4_init 54 = .ok (.invokespecial 27, 3) := by decide +kernel
theorem dX4_init_57 : decode cX4_init 57 = .ok (.putfield 28, 3) := by decide +kernel
theorem dX4_init_60 : decode cX4_init 60 = .ok (.aload_n 0, 1) := by decide +kernel
theorem dX4_init_61 : decode cX4_init 61 = .ok (.new 32, 3) := by decide +kernel
theorem dX4_init_64 : decode cX4_init 64 = .ok (.dup, 1) := by decide +kernel
theorem dX4_init_65 : decode cX4_init 65 = .ok (.invokespecial 34, 3) := by decide +kernel
theorem dX4_init_68 : decode cX4_init 68 = .ok (.putfield 35, 3) := by decide +kernel
theorem dX4_init_71 : decode cX4_init 71 = .ok (.aload_n 0, 1) := by decide +kernel
theorem dX4_init_72 : decode cX4_init 72 = .ok (.new 32, 3) := by decide +kernel
theorem dX4_init_75 : decode cX4_init 75 = .ok (.dup, 1) := by decide +kernel
theorem dX4_init_76 : decode cX4_init 76 = .ok (.invokespecial 34, 3) := by decide +kernel
theorem dX4_init_79 : decode cX4_init 79 = .ok (.putfield 39, 3) := by decide +kernel
theorem dX4_init_82 : decode cX4_init 82 = .ok (.return_, 1) := by decide +kernel
theorem dX4_frontier_0 : decode cX4_frontier 0 = .ok (.iload_n 1, 1) := by decide +kernel
theorem dX4_frontier_1 : decode cX4_frontier 1 = .ok (.iload_n 2, 1) := by decide +kernel
theorem dX4_frontier_2 : decode cX4_frontier 2 = .ok (.invokestatic 42, 3) := by decide +kernel
theorem dX4_frontier_5 : decode cX4_frontier 5 = .ok (.istore 5, 2) := by decide +kernel
theorem dX4_frontier_7 : decode cX4_frontier 7 = .ok (.iload 5, 2) := by decide +kernel
theorem dX4_frontier_9 : decode cX4_frontier 9 = .ok (.ifCond .eq 10, 3) := by decide +kernel
theorem dX4_frontier_12 : decode cX4_frontier 12 = .ok (.aload_n 0, 1) := by decide +kernel
theorem dX4_frontier_13 : decode cX4_frontier 13 = .ok (.iload 5, 2) := by decide +kernel
theorem dX4_frontier_15 : decode cX4_frontier 15 = .ok (.invokevirtual 46, 3) := by decide +kernel
theorem dX4_frontier_18 : decode cX4_frontier 18 = .ok (.ireturn, 1) := by decide +kernel
theorem dX4_frontier_19 : decode cX4_frontier 19 = .ok (.aload_n 0, 1) := by decide +kernel
theorem dX4_frontier_20 : decode cX4_frontier 20 = .ok (.getfield 13, 3) := by decide +kernel
theorem dX4_frontier_23 : decode cX4_frontier 23 = .ok (.iload_n 1, 1) := by decide +kernel
theorem dX4_frontier_24 : decode cX4_frontier 24 = .ok (.aaload, 1) := by decide +kernel
theorem dX4_frontier_25 : decode cX4_frontier 25 = .ok (.astore 6, 2) := by decide +kernel
theorem dX4_frontier_27 : decode cX4_frontier 27 = .ok (.aload 6, 2) := by decide +kernel
theorem dX4_frontier_29 : decode cX4_frontier 29 = .ok (.iload_n 2, 1) := by decide +kernel
theorem dX4_frontier_30 : decode cX4_frontier 30 = .ok (.invokevirtual 50, 3) := by decide +kernel
theorem dX4_frontier_33 : decode cX4_frontier 33 = .ok (.istore 7, 2) := by decide +kernel
theorem dX4_frontier_35 : decode cX4_frontier 35 = .ok (.iload 7, 2) := by decide +kernel
theorem dX4_frontier_37 : decode cX4_frontier 37 = .ok (.ifCond .ne 11, 3) := by decide +kernel
theorem dX4_frontier_40 : decode cX4_frontier 40 = .ok (.iload 4, 2) := by decide +kernel
theorem dX4_frontier_42 : decode cX4_frontier 42 = .ok (.ifCond .ge 6, 3) := by decide +kernel
theorem dX4_frontier_45 : decode cX4_frontier 45 = .ok (.iconst 4, 1) := by decide +kernel
theorem dX4_frontier_46 : decode cX4_frontier 46 = .ok (.istore 7, 2) := by decide +kernel
theorem dX4_frontier_48 : decode cX4_frontier 48 = .ok (.iload 7, 2) := by decide +kernel
theorem dX4_frontier_50 : decode cX4_frontier 50 = .ok (.ifCond .ne 17, 3) := by decide +kernel
theorem dX4_frontier_53 : decode cX4_frontier 53 = .ok (.aload 6, 2) := by decide +kernel
theorem dX4_frontier_55 : decode cX4_frontier 55 = .ok (.iload_n 3, 1) := by decide +kernel
theorem dX4_frontier_56 : decode cX4_frontier 56 = .ok (.iload 4, 2) := by decide +kernel
theorem dX4_frontier_58 : decode cX4_frontier 58 = .ok (.invokevirtual 53, 3) := by decide +kernel
theorem dX4_frontier_61 : decode cX4_frontier 61 = .ok (.ifCond .ne 6, 3) := by decide +kernel
theorem dX4_frontier_64 : decode cX4_frontier 64 = .ok (.iconst 3, 1) := by decide +kernel
theorem dX4_frontier_65 : decode cX4_frontier 65 = .ok (.istore 7, 2) := by decide +kernel
theorem dX4_frontier_67 : decode cX4_frontier 67 = .ok (.iload 7, 2) := by decide +kernel
theorem dX4_frontier_69 : decode cX4_frontier 69 = .ok (.ifCond .eq 10, 3) := by decide +kernel
theorem dX4_frontier_72 : decode cX4_frontier 72 = .ok (.aload_n 0, 1) := by decide +kernel
theorem dX4_frontier_73 : decode cX4_frontier 73 = .ok (.iload 7, 2) := by decide +kernel
theorem dX4_frontier_75 : decode cX4_frontier 75 = .ok (.invokevirtual 57, 3) := by decide +kernel
theorem dX4_frontier_78 : decode cX4_frontier 78 = .ok (.ireturn, 1) := by decide +kernel
theorem dX4_frontier_79 : decode cX4_frontier 79 = .ok (.aload_n 0, 1) := by decide +kernel
theorem dX4_frontier_80 : decode cX4_frontier 80 = .ok (.iconst 0, 1) := by decide +kernel
theorem dX4_frontier_81 : decode cX4_frontier 81 = .ok (.putfield 60, 3) := by decide +kernel
theorem dX4_frontier_84 : decode cX4_frontier 84 = .ok (.aload_n 0, 1) := by decide +kernel
theorem dX4_frontier_85 : decode cX4_frontier 85 = .ok (.getfield 21, 3) := by decide +kernel
theorem dX4_frontier_88 : decode cX4_frontier 88 = .ok (.aload_n 0, 1) := by decide +kernel
theorem dX4_frontier_89 : decode cX4_frontier 89 = .ok (.getfield 39, 3) := by decide +kernel
theorem dX4_frontier_92 : decode cX4_frontier 92 = .ok (.aload 6, 2) := by decide +kernel
theorem dX4_frontier_94 : decode cX4_frontier 94 = .ok (.iload_n 3, 1) := by decide +kernel
theorem dX4_frontier_95 : decode cX4_frontier 95 = .ok (.iload 4, 2) := by decide +kernel
theorem dX4_frontier_97 : decode cX4_frontier 97 = .ok (.invokevirtual 64, 3) := by decide +kernel
theorem dX4_frontier_100 : decode cX4_frontier 100 = .ok (.ifCond .ne 14, 3) := by decide +kernel
theorem dX4_frontier_103 : decode cX4_frontier 103 = .ok (.bipush (-100), 2) := by decide +kernel
theorem dX4_frontier_105 : decode cX4_frontier 105 = .ok (.aload_n 0, 1) := by decide +kernel
theorem dX4_frontier_106 : decode cX4_frontier 106 = .ok (.getfield 21, 3) := by decide +kernel
theorem dX4_frontier_109 : decode cX4_frontier 109 = .ok (.invokevirtual 68, 3) := by decide +kernel
theorem dX4_frontier_112 : decode cX4_frontier 112 = .ok (.isub, 1) := by decide +kernel
theorem dX4_frontier_113 : decode cX4_frontier 113 = .ok (.ireturn, 1) := by decide +kernel
theorem dX4_frontier_114 : decode cX4_frontier 114 = .ok (.aload_n 0, 1) := by decide +kernel
theorem dX4_frontier_115 : decode cX4_frontier 115 = .ok (.getfield 39, 3) := by decide +kernel
theorem dX4_frontier_118 : decode cX4_frontier 118 = .ok (.astore 8, 2) := by decide +kernel
theorem dX4_frontier_120 : decode cX4_frontier 120 = .ok (.aload_n 0, 1) := by decide +kernel
theorem dX4_frontier_121 : decode cX4_frontier 121 = .ok (.aload_n 0, 1) := by decide +kernel
theorem dX4_frontier_122 : decode cX4_frontier 122 = .ok (.getfield 35, 3) := by decide +kernel
theorem dX4_frontier_125 : decode cX4_frontier 125 = .ok (.putfield 39, 3) := by decide +kernel
theorem dX4_frontier_128 : decode cX4_frontier 128 = .ok (.aload_n 0, 1) := by decide +kernel
theorem dX4_frontier_129 : decode cX4_frontier 129 = .ok (.aload 8, 2) := by decide +kernel
theorem dX4_frontier_131 : decode cX4_frontier 131 = .ok (.putfield 35, 3) := by decide +kernel
theorem dX4_frontier_134 : decode cX4_frontier 134 = .ok (.aload_n 0, 1) := by decide +kernel
theorem dX4_frontier_135 : decode cX4_frontier 135 = .ok (.getfield 35, 3) := by decide +kernel
theorem dX4_frontier_138 : decode cX4_frontier 138 = .ok (.getfield 72, 3) := by decide +kernel
theorem dX4_frontier_141 : decode cX4_frontier 141 = .ok (.ireturn, 1) := by decide +kernel
theorem dX4_ofPost_0 : decode cX4_ofPost 0 = .ok (.aload_n 0, 1) := by decide +kernel
theorem dX4_ofPost_1 : decode cX4_ofPost 1 = .ok (.getfield 35, 3) := by decide +kernel
theorem dX4_ofPost_4 : decode cX4_ofPost 4 = .ok (.iload_n 1, 1) := by decide +kernel
theorem dX4_ofPost_5 : decode cX4_ofPost 5 = .ok (.invokevirtual 75, 3) := by decide +kernel
theorem dX4_ofPost_8 : decode cX4_ofPost 8 = .ok (.ifCond .ne 5, 3) := by decide +kernel
theorem dX4_ofPost_11 : decode cX4_ofPost 11 = .ok (.iconst (-1), 1) := by decide +kernel
theorem dX4_ofPost_12 : decode cX4_ofPost 12 = .ok (.ireturn, 1) := by decide +kernel
theorem dX4_ofPost_13 : decode cX4_ofPost 13 = .ok (.iload_n 2, 1) := by decide +kernel
theorem dX4_ofPost_14 : decode cX4_ofPost 14 = .ok (.lookupswitch 46 #[(0, 26), (1, 36)], 26) := by decide +kernel
theorem dX4_ofPost_40 : decode cX4_ofPost 40 = .ok (.aload_n 0, 1) := by decide +kernel
theorem dX4_ofPost_41 : decode cX4_ofPost 41 = .ok (.getfield 35, 3) := by decide +kernel
theorem dX4_ofPost_44 : decode cX4_ofPost 44 = .ok (.getfield 79, 3) := by decide +kernel
theorem dX4_ofPost_47 : decode cX4_ofPost 47 = .ok (.iload_n 1, 1) := by decide +kernel
theorem dX4_ofPost_48 : decode cX4_ofPost 48 = .ok (.iaload, 1) := by decide +kernel
theorem dX4_ofPost_49 : decode cX4_ofPost 49 = .ok (.ireturn, 1) := by decide +kernel
theorem dX4_ofPost_50 : decode cX4_ofPost 50 = .ok (.aload_n 0, 1) := by decide +kernel
theorem dX4_ofPost_51 : decode cX4_ofPost 51 = .ok (.getfield 35, 3) := by decide +kernel
theorem dX4_ofPost_54 : decode cX4_ofPost 54 = .ok (.getfield 83, 3) := by decide +kernel
theorem dX4_ofPost_57 : decode cX4_ofPost 57 = .ok (.iload_n 1, 1) := by decide +kernel
theorem dX4_ofPost_58 : decode cX4_ofPost 58 = .ok (.iaload, 1) := by decide +kernel
theorem dX4_ofPost_59 : decode cX4_ofPost 59 = .ok (.ireturn, 1) := by decide +kernel
theorem dX4_ofPost_60 : decode cX4_ofPost 60 = .ok (.bipush (-2), 2) := by decide +kernel
theorem dX4_ofPost_62 : decode cX4_ofPost 62 = .ok (.ireturn, 1) := by decide +kernel
theorem dX4_ofSilence_0 : decode cX4_ofSilence 0 = .ok (.aload_n 0, 1) := by decide +kernel
theorem dX4_ofSilence_1 : decode cX4_ofSilence 1 = .ok (.getfield 35, 3) := by decide +kernel
theorem dX4_ofSilence_4 : decode cX4_ofSilence 4 = .ok (.iload_n 1, 1) := by decide +kernel
theorem dX4_ofSilence_5 : decode cX4_ofSilence 5 = .ok (.invokevirtual 86, 3) := by decide +kernel
theorem dX4_ofSilence_8 : decode cX4_ofSilence 8 = .ok (.ifCond .ne 5, 3) := by decide +kernel
theorem dX4_ofSilence_11 : decode cX4_ofSilence 11 = .ok (.iconst (-1), 1) := by decide +kernel
theorem dX4_ofSilence_12 : decode cX4_ofSilence 12 = .ok (.ireturn, 1) := by decide +kernel
theorem dX4_ofSilence_13 : decode cX4_ofSilence 13 = .ok (.iload_n 2, 1) := by decide +kernel
theorem dX4_ofSilence_14 : decode cX4_ofSilence 14 = .ok (.tableswitch 138 0 7 #[46, 56, 66, 76, 85, 94, 104, 121], 46) := by decide +kernel
theorem dX4_ofSilence_60 : decode cX4_ofSilence 60 = .ok (.aload_n 0, 1) := by decide +kernel
theorem dX4_ofSilence_61 : decode cX4_ofSilence 61 = .ok (.getfield 35, 3) := by decide +kernel
theorem dX4_ofSilence_64 : decode cX4_ofSilence 64 = .ok (.getfield 89, 3) := by decide +kernel
theorem dX4_ofSilence_67 : decode cX4_ofSilence 67 = .ok (.iload_n 1, 1) := by decide +kernel
theorem dX4_ofSilence_68 : decode cX4_ofSilence 68 = .ok (.iaload, 1) := by decide +kernel
theorem dX4_ofSilence_69 : decode cX4_ofSilence 69 = .ok (.ireturn, 1) := by decide +kernel
theorem dX4_ofSilence_70 : decode cX4_ofSilence 70 = .ok (.aload_n 0, 1) := by decide +kernel
theorem dX4_ofSilence_71 : decode cX4_ofSilence 71 = .ok (.getfield 35, 3) := by decide +kernel
theorem dX4_ofSilence_74 : decode cX4_ofSilence 74 = .ok (.getfield 92, 3) := by decide +kernel
theorem dX4_ofSilence_77 : decode cX4_ofSilence 77 = .ok (.iload_n 1, 1) := by decide +kernel
theorem dX4_ofSilence_78 : decode cX4_ofSilence 78 = .ok (.iaload, 1) := by decide +kernel
theorem dX4_ofSilence_79 : decode cX4_ofSilence 79 = .ok (.ireturn, 1) := by decide +kernel
theorem dX4_ofSilence_80 : decode cX4_ofSilence 80 = .ok (.aload_n 0, 1) := by decide +kernel
theorem dX4_ofSilence_81 : decode cX4_ofSilence 81 = .ok (.getfield 35, 3) := by decide +kernel
theorem dX4_ofSilence_84 : decode cX4_ofSilence 84 = .ok (.getfield 95, 3) := by decide +kernel
theorem dX4_ofSilence_87 : decode cX4_ofSilence 87 = .ok (.iload_n 1, 1) := by decide +kernel
theorem dX4_ofSilence_88 : decode cX4_ofSilence 88 = .ok (.iaload, 1) := by decide +kernel
theorem dX4_ofSilence_89 : decode cX4_ofSilence 89 = .ok (.ireturn, 1) := by decide +kernel
theorem dX4_ofSilence_90 : decode cX4_ofSilence 90 = .ok (.aload_n 0, 1) := by decide +kernel
theorem dX4_ofSilence_91 : decode cX4_ofSilence 91 = .ok (.getfield 35, 3) := by decide +kernel
theorem dX4_ofSilence_94 : decode cX4_ofSilence 94 = .ok (.iload_n 1, 1) := by decide +kernel
theorem dX4_ofSilence_95 : decode cX4_ofSilence 95 = .ok (.invokevirtual 98, 3) := by decide +kernel
theorem dX4_ofSilence_98 : decode cX4_ofSilence 98 = .ok (.ireturn, 1) := by decide +kernel
theorem dX4_ofSilence_99 : decode cX4_ofSilence 99 = .ok (.aload_n 0, 1) := by decide +kernel
theorem dX4_ofSilence_100 : decode cX4_ofSilence 100 = .ok (.getfield 35, 3) := by decide +kernel
theorem dX4_ofSilence_103 : decode cX4_ofSilence 103 = .ok (.iload_n 1, 1) := by decide +kernel
theorem dX4_ofSilence_104 : decode cX4_ofSilence 104 = .ok (.invokevirtual 101, 3) := by decide +kernel
theorem dX4_ofSilence_107 : decode cX4_ofSilence 107 = .ok (.ireturn, 1) := by decide +kernel
theorem dX4_ofSilence_108 : decode cX4_ofSilence 108 = .ok (.aload_n 0, 1) := by decide +kernel
theorem dX4_ofSilence_109 : decode cX4_ofSilence 109 = .ok (.getfield 35, 3) := by decide +kernel
theorem dX4_ofSilence_112 : decode cX4_ofSilence 112 = .ok (.getfield 104, 3) := by decide +kernel
theorem dX4_ofSilence_115 : decode cX4_ofSilence 115 = .ok (.iload_n 1, 1) := by decide +kernel
theorem dX4_ofSilence_116 : decode cX4_ofSilence 116 = .ok (.iaload, 1) := by decide +kernel
theorem dX4_ofSilence_117 : decode cX4_ofSilence 117 = .ok (.ireturn, 1) := by decide +kernel
theorem dX4_ofSilence_118 : decode cX4_ofSilence 118 = .ok (.aload_n 0, 1) := by decide +kernel
theorem dX4_ofSilence_119 : decode cX4_ofSilence 119 = .ok (.getfield 35, 3) := by decide +kernel
theorem dX4_ofSilence_122 : decode cX4_ofSilence 122 = .ok (.iload_n 1, 1) := by decide +kernel
theorem dX4_ofSilence_123 : decode cX4_ofSilence 123 = .ok (.invokevirtual 107, 3) := by decide +kernel
theorem dX4_ofSilence_126 : decode cX4_ofSilence 126 = .ok (.ifCond .eq 7, 3) := by decide +kernel
theorem dX4_ofSilence_129 : decode cX4_ofSilence 129 = .ok (.iconst 1, 1) := by decide +kernel
theorem dX4_ofSilence_130 : decode cX4_ofSilence 130 = .ok (.goto 4, 3) := by decide +kernel
theorem dX4_ofSilence_133 : decode cX4_ofSilence 133 = .ok (.iconst 0, 1) := by decide +kernel
theorem dX4_ofSilence_134 : decode cX4_ofSilence 134 = .ok (.ireturn, 1) := by decide +kernel
theorem dX4_ofSilence_135 : decode cX4_ofSilence 135 = .ok (.aload_n 0, 1) := by decide +kernel
theorem dX4_ofSilence_136 : decode cX4_ofSilence 136 = .ok (.getfield 35, 3) := by decide +kernel
theorem dX4_ofSilence_139 : decode cX4_ofSilence 139 = .ok (.iload_n 1, 1) := by decide +kernel
theorem dX4_ofSilence_140 : decode cX4_ofSilence 140 = .ok (.invokevirtual 110, 3) := by decide +kernel
theorem dX4_ofSilence_143 : decode cX4_ofSilence 143 = .ok (.ifCond .eq 7, 3) := by decide +kernel
theorem dX4_ofSilence_146 : decode cX4_ofSilence 146 = .ok (.iconst 1, 1) := by decide +kernel
theorem dX4_ofSilence_147 : decode cX4_ofSilence 147 = .ok (.goto 4, 3) := by decide +kernel
theorem dX4_ofSilence_150 : decode cX4_ofSilence 150 = .ok (.iconst 0, 1) := by decide +kernel
theorem dX4_ofSilence_151 : decode cX4_ofSilence 151 = .ok (.ireturn, 1) := by decide +kernel
theorem dX4_ofSilence_152 : decode cX4_ofSilence 152 = .ok (.bipush (-2), 2) := by decide +kernel
theorem dX4_ofSilence_154 : decode cX4_ofSilence 154 = .ok (.ireturn, 1) := by decide +kernel
theorem dX4_free_0 : decode cX4_free 0 = .ok (.iload_n 1, 1) := by decide +kernel
theorem dX4_free_1 : decode cX4_free 1 = .ok (.iconst 0, 1) := by decide +kernel
theorem dX4_free_2 : decode cX4_free 2 = .ok (.bipush 9, 2) := by decide +kernel
theorem dX4_free_4 : decode cX4_free 4 = .ok (.invokestatic 113, 3) := by decide +kernel
theorem dX4_free_7 : decode cX4_free 7 = .ok (.ifCond .ne 6, 3) := by decide +kernel
theorem dX4_free_10 : decode cX4_free 10 = .ok (.bipush (-2), 2) := by decide +kernel
theorem dX4_free_12 : decode cX4_free 12 = .ok (.ireturn, 1) := by decide +kernel
theorem dX4_free_13 : decode cX4_free 13 = .ok (.aload_n 0, 1) := by decide +kernel
theorem dX4_free_14 : decode cX4_free 14 = .ok (.getfield 35, 3) := by decide +kernel
theorem dX4_free_17 : decode cX4_free 17 = .ok (.invokevirtual 117, 3) := by decide +kernel
theorem dX4_free_20 : decode cX4_free 20 = .ok (.ifCond .eq 6, 3) := by decide +kernel
theorem dX4_free_23 : decode cX4_free 23 = .ok (.bipush (-3), 2) := by decide +kernel
theorem dX4_free_25 : decode cX4_free 25 = .ok (.ireturn, 1) := by decide +kernel
theorem dX4_free_26 : decode cX4_free 26 = .ok (.aload_n 0, 1) := by decide +kernel
theorem dX4_free_27 : decode cX4_free 27 = .ok (.getfield 35, 3) := by decide +kernel
theorem dX4_free_30 : decode cX4_free 30 = .ok (.getfield 121, 3) := by decide +kernel
theorem dX4_free_33 : decode cX4_free 33 = .ok (.istore_n 2, 1) := by decide +kernel
theorem dX4_free_34 : decode cX4_free 34 = .ok (.aload_n 0, 1) := by decide +kernel
theorem dX4_free_35 : decode cX4_free 35 = .ok (.getfield 35, 3) := by decide +kernel
theorem dX4_free_38 : decode cX4_free 38 = .ok (.iload_n 1, 1) := by decide +kernel
theorem dX4_free_39 : decode cX4_free 39 = .ok (.putfield 121, 3) := by decide +kernel
theorem dX4_free_42 : decode cX4_free 42 = .ok (.iload_n 2, 1) := by decide +kernel
theorem dX4_free_43 : decode cX4_free 43 = .ok (.ireturn, 1) := by decide +kernel
theorem dX4_law_0 : decode cX4_law 0 = .ok (.iload_n 1, 1) := by decide +kernel
theorem dX4_law_1 : decode cX4_law 1 = .ok (.iconst 0, 1) := by decide +kernel
theorem dX4_law_2 : decode cX4_law 2 = .ok (.bipush 7, 2) := by decide +kernel
theorem dX4_law_4 : decode cX4_law 4 = .ok (.invokestatic 113, 3) := by decide +kernel
theorem dX4_law_7 : decode cX4_law 7 = .ok (.ifCond .ne 6, 3) := by decide +kernel
theorem dX4_law_10 : decode cX4_law 10 = .ok (.bipush (-2), 2) := by decide +kernel
theorem dX4_law_12 : decode cX4_law 12 = .ok (.ireturn, 1) := by decide +kernel
theorem dX4_law_13 : decode cX4_law 13 = .ok (.aload_n 0, 1) := by decide +kernel
theorem dX4_law_14 : decode cX4_law 14 = .ok (.getfield 35, 3) := by decide +kernel
theorem dX4_law_17 : decode cX4_law 17 = .ok (.invokevirtual 117, 3) := by decide +kernel
theorem dX4_law_20 : decode cX4_law 20 = .ok (.ifCond .eq 6, 3) := by decide +kernel
theorem dX4_law_23 : decode cX4_law 23 = .ok (.bipush (-3), 2) := by decide +kernel
theorem dX4_law_25 : decode cX4_law 25 = .ok (.ireturn, 1) := by decide +kernel
theorem dX4_law_26 : decode cX4_law 26 = .ok (.aload_n 0, 1) := by decide +kernel
theorem dX4_law_27 : decode cX4_law 27 = .ok (.getfield 35, 3) := by decide +kernel
theorem dX4_law_30 : decode cX4_law 30 = .ok (.getfield 124, 3) := by decide +kernel
theorem dX4_law_33 : decode cX4_law 33 = .ok (.istore_n 2, 1) := by decide +kernel
theorem dX4_law_34 : decode cX4_law 34 = .ok (.aload_n 0, 1) := by decide +kernel
theorem dX4_law_35 : decode cX4_law 35 = .ok (.getfield 35, 3) := by decide +kernel
theorem dX4_law_38 : decode cX4_law 38 = .ok (.iload_n 1, 1) := by decide +kernel
theorem dX4_law_39 : decode cX4_law 39 = .ok (.putfield 124, 3) := by decide +kernel
theorem dX4_law_42 : decode cX4_law 42 = .ok (.iload_n 2, 1) := by decide +kernel
theorem dX4_law_43 : decode cX4_law 43 = .ok (.ireturn, 1) := by decide +kernel
theorem dX4_carry_0 : decode cX4_carry 0 = .ok (.aload_n 0, 1) := by decide +kernel
theorem dX4_carry_1 : decode cX4_carry 1 = .ok (.getfield 35, 3) := by decide +kernel
theorem dX4_carry_4 : decode cX4_carry 4 = .ok (.iload_n 1, 1) := by decide +kernel
theorem dX4_carry_5 : decode cX4_carry 5 = .ok (.invokevirtual 86, 3) := by decide +kernel
theorem dX4_carry_8 : decode cX4_carry 8 = .ok (.ifCond .eq 12, 3) := by decide +kernel
theorem dX4_carry_11 : decode cX4_carry 11 = .ok (.iload_n 2, 1) := by decide +kernel
theorem dX4_carry_12 : decode cX4_carry 12 = .ok (.iconst 0, 1) := by decide +kernel
theorem dX4_carry_13 : decode cX4_carry 13 = .ok (.iconst 2, 1) := by decide +kernel
theorem dX4_carry_14 : decode cX4_carry 14 = .ok (.invokestatic 113, 3) := by decide +kernel
theorem dX4_carry_17 : decode cX4_carry 17 = .ok (.ifCond .ne 5, 3) := by decide +kernel
theorem dX4_carry_20 : decode cX4_carry 20 = .ok (.iconst (-1), 1) := by decide +kernel
theorem dX4_carry_21 : decode cX4_carry 21 = .ok (.ireturn, 1) := by decide +kernel
theorem dX4_carry_22 : decode cX4_carry 22 = .ok (.aload_n 0, 1) := by decide +kernel
theorem dX4_carry_23 : decode cX4_carry 23 = .ok (.getfield 35, 3) := by decide +kernel
theorem dX4_carry_26 : decode cX4_carry 26 = .ok (.getfield 104, 3) := by decide +kernel
theorem dX4_carry_29 : decode cX4_carry 29 = .ok (.iload_n 1, 1) := by decide +kernel
theorem dX4_carry_30 : decode cX4_carry 30 = .ok (.iaload, 1) := by decide +kernel
theorem dX4_carry_31 : decode cX4_carry 31 = .ok (.istore_n 3, 1) := by decide +kernel
theorem dX4_carry_32 : decode cX4_carry 32 = .ok (.aload_n 0, 1) := by decide +kernel
theorem dX4_carry_33 : decode cX4_carry 33 = .ok (.getfield 35, 3) := by decide +kernel
theorem dX4_carry_36 : decode cX4_carry 36 = .ok (.getfield 104, 3) := by decide +kernel
theorem dX4_carry_39 : decode cX4_carry 39 = .ok (.iload_n 1, 1) := by decide +kernel
theorem dX4_carry_40 : decode cX4_carry 40 = .ok (.iload_n 2, 1) := by decide +kernel
theorem dX4_carry_41 : decode cX4_carry 41 = .ok (.iastore, 1) := by decide +kernel
theorem dX4_carry_42 : decode cX4_carry 42 = .ok (.iload_n 3, 1) := by decide +kernel
theorem dX4_carry_43 : decode cX4_carry 43 = .ok (.ireturn, 1) := by decide +kernel
theorem dX4_declare_0 : decode cX4_declare 0 = .ok (.aload_n 0, 1) := by decide +kernel
theorem dX4_declare_1 : decode cX4_declare 1 = .ok (.getfield 35, 3) := by decide +kernel
theorem dX4_declare_4 : decode cX4_declare 4 = .ok (.iload_n 1, 1) := by decide +kernel
theorem dX4_declare_5 : decode cX4_declare 5 = .ok (.invokevirtual 86, 3) := by decide +kernel
theorem dX4_declare_8 : decode cX4_declare 8 = .ok (.ifCond .ne 5, 3) := by decide +kernel
theorem dX4_declare_11 : decode cX4_declare 11 = .ok (.iconst (-1), 1) := by decide +kernel
theorem dX4_declare_12 : decode cX4_declare 12 = .ok (.ireturn, 1) := by decide +kernel
theorem dX4_declare_13 : decode cX4_declare 13 = .ok (.aload_n 0, 1) := by decide +kernel
theorem dX4_declare_14 : decode cX4_declare 14 = .ok (.getfield 35, 3) := by decide +kernel
theorem dX4_declare_17 : decode cX4_declare 17 = .ok (.iload_n 1, 1) := by decide +kernel
theorem dX4_declare_18 : decode cX4_declare 18 = .ok (.invokevirtual 107, 3) := by decide +kernel
theorem dX4_declare_21 : decode cX4_declare 21 = .ok (.iload_n 2, 1) := by decide +kernel
theorem dX4_declare_22 : decode cX4_declare 22 = .ok (.if_icmp .ne 5, 3) := by decide +kernel
theorem dX4_declare_25 : decode cX4_declare 25 = .ok (.iconst 0, 1) := by decide +kernel
theorem dX4_declare_26 : decode cX4_declare 26 = .ok (.ireturn, 1) := by decide +kernel
theorem dX4_declare_27 : decode cX4_declare 27 = .ok (.aload_n 0, 1) := by decide +kernel
theorem dX4_declare_28 : decode cX4_declare 28 = .ok (.getfield 35, 3) := by decide +kernel
theorem dX4_declare_31 : decode cX4_declare 31 = .ok (.dup, 1) := by decide +kernel
theorem dX4_declare_32 : decode cX4_declare 32 = .ok (.getfield 127, 3) := by decide +kernel
theorem dX4_declare_35 : decode cX4_declare 35 = .ok (.iconst 1, 1) := by decide +kernel
theorem dX4_declare_36 : decode cX4_declare 36 = .ok (.iload_n 1, 1) := by decide +kernel
theorem dX4_declare_37 : decode cX4_declare 37 = .ok (.ishl, 1) := by decide +kernel
theorem dX4_declare_38 : decode cX4_declare 38 = .ok (.ixor, 1) := by decide +kernel
theorem dX4_declare_39 : decode cX4_declare 39 = .ok (.putfield 127, 3) := by decide +kernel
theorem dX4_declare_42 : decode cX4_declare 42 = .ok (.iconst 1, 1) := by decide +kernel
theorem dX4_declare_43 : decode cX4_declare 43 = .ok (.ireturn, 1) := by decide +kernel
theorem dX4_hum_0 : decode cX4_hum 0 = .ok (.iload_n 1, 1) := by decide +kernel
theorem dX4_hum_1 : decode cX4_hum 1 = .ok (.iconst 0, 1) := by decide +kernel
theorem dX4_hum_2 : decode cX4_hum 2 = .ok (.iconst 2, 1) := by decide +kernel
theorem dX4_hum_3 : decode cX4_hum 3 = .ok (.invokestatic 113, 3) := by decide +kernel
theorem dX4_hum_6 : decode cX4_hum 6 = .ok (.ifCond .ne 5, 3) := by decide +kernel
theorem dX4_hum_9 : decode cX4_hum 9 = .ok (.iconst (-1), 1) := by decide +kernel
theorem dX4_hum_10 : decode cX4_hum 10 = .ok (.ireturn, 1) := by decide +kernel
theorem dX4_hum_11 : decode cX4_hum 11 = .ok (.iload_n 2, 1) := by decide +kernel
theorem dX4_hum_12 : decode cX4_hum 12 = .ok (.iconst 0, 1) := by decide +kernel
theorem dX4_hum_13 : decode cX4_hum 13 = .ok (.bipush 9, 2) := by decide +kernel
theorem dX4_hum_15 : decode cX4_hum 15 = .ok (.invokestatic 113, 3) := by decide +kernel
theorem dX4_hum_18 : decode cX4_hum 18 = .ok (.ifCond .ne 6, 3) := by decide +kernel
theorem dX4_hum_21 : decode cX4_hum 21 = .ok (.bipush (-2), 2) := by decide +kernel
theorem dX4_hum_23 : decode cX4_hum 23 = .ok (.ireturn, 1) := by decide +kernel
theorem dX4_hum_24 : decode cX4_hum 24 = .ok (.aload_n 0, 1) := by decide +kernel
theorem dX4_hum_25 : decode cX4_hum 25 = .ok (.getfield 35, 3) := by decide +kernel
theorem dX4_hum_28 : decode cX4_hum 28 = .ok (.invokevirtual 117, 3) := by decide +kernel
theorem dX4_hum_31 : decode cX4_hum 31 = .ok (.ifCond .eq 6, 3) := by decide +kernel
theorem dX4_hum_34 : decode cX4_hum 34 = .ok (.bipush (-3), 2) := by decide +kernel
theorem dX4_hum_36 : decode cX4_hum 36 = .ok (.ireturn, 1) := by decide +kernel
theorem dX4_hum_37 : decode cX4_hum 37 = .ok (.aload_n 0, 1) := by decide +kernel
theorem dX4_hum_38 : decode cX4_hum 38 = .ok (.getfield 35, 3) := by decide +kernel
theorem dX4_hum_41 : decode cX4_hum 41 = .ok (.getfield 130, 3) := by decide +kernel
theorem dX4_hum_44 : decode cX4_hum 44 = .ok (.iload_n 1, 1) := by decide +kernel
theorem dX4_hum_45 : decode cX4_hum 45 = .ok (.iaload, 1) := by decide +kernel
theorem dX4_hum_46 : decode cX4_hum 46 = .ok (.istore_n 3, 1) := by decide +kernel
theorem dX4_hum_47 : decode cX4_hum 47 = .ok (.aload_n 0, 1) := by decide +kernel
theorem dX4_hum_48 : decode cX4_hum 48 = .ok (.getfield 35, 3) := by decide +kernel
theorem dX4_hum_51 : decode cX4_hum 51 = .ok (.getfield 130, 3) := by decide +kernel
theorem dX4_hum_54 : decode cX4_hum 54 = .ok (.iload_n 1, 1) := by decide +kernel
theorem dX4_hum_55 : decode cX4_hum 55 = .ok (.iload_n 2, 1) := by decide +kernel
theorem dX4_hum_56 : decode cX4_hum 56 = .ok (.iastore, 1) := by decide +kernel
theorem dX4_hum_57 : decode cX4_hum 57 = .ok (.iload_n 3, 1) := by decide +kernel
theorem dX4_hum_58 : decode cX4_hum 58 = .ok (.ireturn, 1) := by decide +kernel
theorem dX4_duty_0 : decode cX4_duty 0 = .ok (.aload_n 0, 1) := by decide +kernel
theorem dX4_duty_1 : decode cX4_duty 1 = .ok (.getfield 35, 3) := by decide +kernel
theorem dX4_duty_4 : decode cX4_duty 4 = .ok (.iload_n 1, 1) := by decide +kernel
theorem dX4_duty_5 : decode cX4_duty 5 = .ok (.invokevirtual 75, 3) := by decide +kernel
theorem dX4_duty_8 : decode cX4_duty 8 = .ok (.ifCond .ne 5, 3) := by decide +kernel
theorem dX4_duty_11 : decode cX4_duty 11 = .ok (.iconst (-1), 1) := by decide +kernel
theorem dX4_duty_12 : decode cX4_duty 12 = .ok (.ireturn, 1) := by decide +kernel
theorem dX4_duty_13 : decode cX4_duty 13 = .ok (.aload_n 0, 1) := by decide +kernel
theorem dX4_duty_14 : decode cX4_duty 14 = .ok (.getfield 35, 3) := by decide +kernel
theorem dX4_duty_17 : decode cX4_duty 17 = .ok (.iload_n 1, 1) := by decide +kernel
theorem dX4_duty_18 : decode cX4_duty 18 = .ok (.invokevirtual 133, 3) := by decide +kernel
theorem dX4_duty_21 : decode cX4_duty 21 = .ok (.ireturn, 1) := by decide +kernel
theorem dX4_clear_0 : decode cX4_clear 0 = .ok (.aload_n 0, 1) := by decide +kernel
theorem dX4_clear_1 : decode cX4_clear 1 = .ok (.getfield 35, 3) := by decide +kernel
theorem dX4_clear_4 : decode cX4_clear 4 = .ok (.iload_n 1, 1) := by decide +kernel
theorem dX4_clear_5 : decode cX4_clear 5 = .ok (.invokevirtual 75, 3) := by decide +kernel
theorem dX4_clear_8 : decode cX4_clear 8 = .ok (.ifCond .eq 12, 3) := by decide +kernel
theorem dX4_clear_11 : decode cX4_clear 11 = .ok (.iload_n 2, 1) := by decide +kernel
theorem dX4_clear_12 : decode cX4_clear 12 = .ok (.iconst 0, 1) := by decide +kernel
theorem dX4_clear_13 : decode cX4_clear 13 = .ok (.iconst 1, 1) := by decide +kernel
theorem dX4_clear_14 : decode cX4_clear 14 = .ok (.invokestatic 113, 3) := by decide +kernel
theorem dX4_clear_17 : decode cX4_clear 17 = .ok (.ifCond .ne 7, 3) := by decide +kernel
theorem dX4_clear_20 : decode cX4_clear 20 = .ok (.ldc2_w 136, 3) := by decide +kernel
theorem dX4_clear_23 : decode cX4_clear 23 = .ok (.lreturn, 1) := by decide +kernel
theorem dX4_clear_24 : decode cX4_clear 24 = .ok (.lconst 1, 1) := by decide +kernel
theorem dX4_clear_25 : decode cX4_clear 25 = .ok (.lstore_n 3, 1) := by decide +kernel
theorem dX4_clear_26 : decode cX4_clear 26 = .ok (.lconst 1, 1) := by decide +kernel
theorem dX4_clear_27 : decode cX4_clear 27 = .ok (.lstore 5, 2) := by decide +kernel
theorem dX4_clear_29 : decode cX4_clear 29 = .ok (.iconst 0, 1) := by decide +kernel
theorem dX4_clear_30 : decode cX4_clear 30 = .ok (.istore 7, 2) := by decide +kernel
theorem dX4_clear_32 : decode cX4_clear 32 = .ok (.iload 7, 2) := by decide +kernel
theorem dX4_clear_34 : decode cX4_clear 34 = .ok (.aload_n 0, 1) := by decide +kernel
theorem dX4_clear_35 : decode cX4_clear 35 = .ok (.getfield 35, 3) := by decide +kernel
theorem dX4_clear_38 : decode cX4_clear 38 = .ok (.getfield 72, 3) := by decide +kernel
theorem dX4_clear_41 : decode cX4_clear 41 = .ok (.if_icmp .ge 34, 3) := by decide +kernel
theorem dX4_clear_44 : decode cX4_clear 44 = .ok (.lload_n 3, 1) := by decide +kernel
theorem dX4_clear_45 : decode cX4_clear 45 = .ok (.bipush 10, 2) := by decide +kernel
theorem dX4_clear_47 : decode cX4_clear 47 = .ok (.aload_n 0, 1) := by decide +kernel
theorem dX4_clear_48 : decode cX4_clear 48 = .ok (.getfield 35, 3) := by decide +kernel
theorem dX4_clear_51 : decode cX4_clear 51 = .ok (.iload 7, 2) := by decide +kernel
theorem dX4_clear_53 : decode cX4_clear 53 = .ok (.iload_n 1, 1) := by decide +kernel
theorem dX4_clear_54 : decode cX4_clear 54 = .ok (.invokevirtual 138, 3) := by decide +kernel
theorem dX4_clear_57 : decode cX4_clear 57 = .ok (.isub, 1) := by decide +kernel
theorem dX4_clear_58 : decode cX4_clear 58 = .ok (.i2l, 1) := by decide +kernel
theorem dX4_clear_59 : decode cX4_clear 59 = .ok (.lmul, 1) := by decide +kernel
theorem dX4_clear_60 : decode cX4_clear 60 = .ok (.lstore_n 3, 1) := by decide +kernel
theorem dX4_clear_61 : decode cX4_clear 61 = .ok (.lload 5, 2) := by decide +kernel
theorem dX4_clear_63 : decode cX4_clear 63 = .ok (.ldc2_w 141, 3) := by decide +kernel
theorem dX4_clear_66 : decode cX4_clear 66 = .ok (.lmul, 1) := by decide +kernel
theorem dX4_clear_67 : decode cX4_clear 67 = .ok (.lstore 5, 2) := by decide +kernel
theorem dX4_clear_69 : decode cX4_clear 69 = .ok (.iinc 7 1, 3) := by decide +kernel
theorem dX4_clear_72 : decode cX4_clear 72 = .ok (.goto (-40), 3) := by decide +kernel
theorem dX4_clear_75 : decode cX4_clear 75 = .ok (.lload_n 3, 1) := by decide +kernel
theorem dX4_clear_76 : decode cX4_clear 76 = .ok (.lload 5, 2) := by decide +kernel
theorem dX4_clear_78 : decode cX4_clear 78 = .ok (.iload_n 2, 1) := by decide +kernel
theorem dX4_clear_79 : decode cX4_clear 79 = .ok (.invokestatic 143, 3) := by decide +kernel
theorem dX4_clear_82 : decode cX4_clear 82 = .ok (.lreturn, 1) := by decide +kernel
theorem dX4_cost_0 : decode cX4_cost 0 = .ok (.iload 5, 2) := by decide +kernel
theorem dX4_cost_2 : decode cX4_cost 2 = .ok (.iconst 0, 1) := by decide +kernel
theorem dX4_cost_3 : decode cX4_cost 3 = .ok (.iconst 1, 1) := by decide +kernel
theorem dX4_cost_4 : decode cX4_cost 4 = .ok (.invokestatic 113, 3) := by decide +kernel
theorem dX4_cost_7 : decode cX4_cost 7 = .ok (.ifCond .ne 8, 3) := by decide +kernel
theorem dX4_cost_10 : decode cX4_cost 10 = .ok (.aload_n 0, 1) := by decide +kernel
theorem dX4_cost_11 : decode cX4_cost 11 = .ok (.invokevirtual 147, 3) := by decide +kernel
theorem dX4_cost_14 : decode cX4_cost 14 = .ok (.lreturn, 1) := by decide +kernel
theorem dX4_cost_15 : decode cX4_cost 15 = .ok (.aload_n 0, 1) := by decide +kernel
theorem dX4_cost_16 : decode cX4_cost 16 = .ok (.iload_n 1, 1) := by decide +kernel
theorem dX4_cost_17 : decode cX4_cost 17 = .ok (.iload_n 2, 1) := by decide +kernel
theorem dX4_cost_18 : decode cX4_cost 18 = .ok (.iload_n 3, 1) := by decide +kernel
theorem dX4_cost_19 : decode cX4_cost 19 = .ok (.iload 4, 2) := by decide +kernel
theorem dX4_cost_21 : decode cX4_cost 21 = .ok (.invokevirtual 151, 3) := by decide +kernel
theorem dX4_cost_24 : decode cX4_cost 24 = .ok (.ifCond .ge 7, 3) := by decide +kernel
theorem dX4_cost_27 : decode cX4_cost 27 = .ok (.ldc2_w 136, 3) := by decide +kernel
theorem dX4_cost_30 : decode cX4_cost 30 = .ok (.lreturn, 1) := by decide +kernel
theorem dX4_cost_31 : decode cX4_cost 31 = .ok (.aload_n 0, 1) := by decide +kernel
theorem dX4_cost_32 : decode cX4_cost 32 = .ok (.getfield 28, 3) := by decide +kernel
theorem dX4_cost_35 : decode cX4_cost 35 = .ok (.aload_n 0, 1) := by decide +kernel
theorem dX4_cost_36 : decode cX4_cost 36 = .ok (.getfield 35, 3) := by decide +kernel
theorem dX4_cost_39 : decode cX4_cost 39 = .ok (.invokevirtual 155, 3) := by decide +kernel
theorem dX4_cost_42 : decode cX4_cost 42 = .ok (.ldc2_w 159, 3) := by decide +kernel
theorem dX4_cost_45 : decode cX4_cost 45 = .ok (.iload 5, 2) := by decide +kernel
theorem dX4_cost_47 : decode cX4_cost 47 = .ok (.invokestatic 143, 3) := by decide +kernel
theorem dX4_cost_50 : decode cX4_cost 50 = .ok (.lreturn, 1) := by decide +kernel
theorem dX4_say_0 : decode cX4_say 0 = .ok (.aload_n 0, 1) := by decide +kernel
theorem dX4_say_1 : decode cX4_say 1 = .ok (.iload_n 1, 1) := by decide +kernel
theorem dX4_say_2 : decode cX4_say 2 = .ok (.iload_n 2, 1) := by decide +kernel
theorem dX4_say_3 : decode cX4_say 3 = .ok (.iload_n 3, 1) := by decide +kernel
theorem dX4_say_4 : decode cX4_say 4 = .ok (.iload 4, 2) := by decide +kernel
theorem dX4_say_6 : decode cX4_say 6 = .ok (.invokevirtual 151, 3) := by decide +kernel
theorem dX4_say_9 : decode cX4_say 9 = .ok (.istore 5, 2) := by decide +kernel
theorem dX4_say_11 : decode cX4_say 11 = .ok (.iload 5, 2) := by decide +kernel
theorem dX4_say_13 : decode cX4_say 13 = .ok (.ifCond .ge 6, 3) := by decide +kernel
theorem dX4_say_16 : decode cX4_say 16 = .ok (.iload 5, 2) := by decide +kernel
theorem dX4_say_18 : decode cX4_say 18 = .ok (.ireturn, 1) := by decide +kernel
theorem dX4_say_19 : decode cX4_say 19 = .ok (.aload_n 0, 1) := by decide +kernel
theorem dX4_say_20 : decode cX4_say 20 = .ok (.invokevirtual 161, 3) := by decide +kernel
theorem dX4_say_23 : decode cX4_say 23 = .ok (.ireturn, 1) := by decide +kernel
theorem dX4_pack_0 : decode cX4_pack 0 = .ok (.iload_n 1, 1) := by decide +kernel
theorem dX4_pack_1 : decode cX4_pack 1 = .ok (.iconst (-1), 1) := by decide +kernel
theorem dX4_pack_2 : decode cX4_pack 2 = .ok (.if_icmp .ge 5, 3) := by decide +kernel
theorem dX4_pack_5 : decode cX4_pack 5 = .ok (.iconst (-1), 1) := by decide +kernel
theorem dX4_pack_6 : decode cX4_pack 6 = .ok (.ireturn, 1) := by decide +kernel
theorem dX4_pack_7 : decode cX4_pack 7 = .ok (.aload_n 0, 1) := by decide +kernel
theorem dX4_pack_8 : decode cX4_pack 8 = .ok (.getfield 35, 3) := by decide +kernel
theorem dX4_pack_11 : decode cX4_pack 11 = .ok (.invokevirtual 117, 3) := by decide +kernel
theorem dX4_pack_14 : decode cX4_pack 14 = .ok (.ifCond .eq 6, 3) := by decide +kernel
theorem dX4_pack_17 : decode cX4_pack 17 = .ok (.bipush (-3), 2) := by decide +kernel
theorem dX4_pack_19 : decode cX4_pack 19 = .ok (.ireturn, 1) := by decide +kernel
theorem dX4_pack_20 : decode cX4_pack 20 = .ok (.iload_n 1, 1) := by decide +kernel
theorem dX4_pack_21 : decode cX4_pack 21 = .ok (.aload_n 0, 1) := by decide +kernel
theorem dX4_pack_22 : decode cX4_pack 22 = .ok (.getfield 35, 3) := by decide +kernel
theorem dX4_pack_25 : decode cX4_pack 25 = .ok (.getfield 72, 3) := by decide +kernel
theorem dX4_pack_28 : decode cX4_pack 28 = .ok (.if_icmp .lt 6, 3) := by decide +kernel
theorem dX4_pack_31 : decode cX4_pack 31 = .ok (.bipush (-9), 2) := by decide +kernel
theorem dX4_pack_33 : decode cX4_pack 33 = .ok (.ireturn, 1) := by decide +kernel
theorem dX4_pack_34 : decode cX4_pack 34 = .ok (.aload_n 0, 1) := by decide +kernel
theorem dX4_pack_35 : decode cX4_pack 35 = .ok (.getfield 35, 3) := by decide +kernel
theorem dX4_pack_38 : decode cX4_pack 38 = .ok (.invokevirtual 164, 3) := by decide +kernel
theorem dX4_pack_41 : decode cX4_pack 41 = .ok (.istore_n 2, 1) := by decide +kernel
theorem dX4_pack_42 : decode cX4_pack 42 = .ok (.aload_n 0, 1) := by decide +kernel
theorem dX4_pack_43 : decode cX4_pack 43 = .ok (.getfield 35, 3) := by decide +kernel
theorem dX4_pack_46 : decode cX4_pack 46 = .ok (.aload_n 0, 1) := by decide +kernel
theorem dX4_pack_47 : decode cX4_pack 47 = .ok (.invokevirtual 167, 3) := by decide +kernel
theorem dX4_pack_50 : decode cX4_pack 50 = .ok (.invokevirtual 170, 3) := by decide +kernel
theorem dX4_pack_53 : decode cX4_pack 53 = .ok (.iload_n 1, 1) := by decide +kernel
theorem dX4_pack_54 : decode cX4_pack 54 = .ok (.ifCond .ge 13, 3) := by decide +kernel
theorem dX4_pack_57 : decode cX4_pack 57 = .ok (.aload_n 0, 1) := by decide +kernel
theorem dX4_pack_58 : decode cX4_pack 58 = .ok (.getfield 35, 3) := by decide +kernel
theorem dX4_pack_61 : decode cX4_pack 61 = .ok (.invokevirtual 174, 3) := by decide +kernel
theorem dX4_pack_64 : decode cX4_pack 64 = .ok (.goto 12, 3) := by decide +kernel
theorem dX4_pack_67 : decode cX4_pack 67 = .ok (.aload_n 0, 1) := by decide +kernel
theorem dX4_pack_68 : decode cX4_pack 68 = .ok (.getfield 35, 3) := by decide +kernel
theorem dX4_pack_71 : decode cX4_pack 71 = .ok (.getfield 104, 3) := by decide +kernel
theorem dX4_pack_74 : decode cX4_pack 74 = .ok (.iload_n 1, 1) := by decide +kernel
theorem dX4_pack_75 : decode cX4_pack 75 = .ok (.iaload, 1) := by decide +kernel
theorem dX4_pack_76 : decode cX4_pack 76 = .ok (.istore_n 3, 1) := by decide +kernel
theorem dX4_pack_77 : decode cX4_pack 77 = .ok (.aload_n 0, 1) := by decide +kernel
theorem dX4_pack_78 : decode cX4_pack 78 = .ok (.getfield 35, 3) := by decide +kernel
theorem dX4_pack_81 : decode cX4_pack 81 = .ok (.iload_n 2, 1) := by decide +kernel
theorem dX4_pack_82 : decode cX4_pack 82 = .ok (.invokevirtual 170, 3) := by decide +kernel
theorem dX4_pack_85 : decode cX4_pack 85 = .ok (.iload_n 3, 1) := by decide +kernel
theorem dX4_pack_86 : decode cX4_pack 86 = .ok (.ireturn, 1) := by decide +kernel
theorem dX4_road_0 : decode cX4_road 0 = .ok (.aload_n 0, 1) := by decide +kernel
theorem dX4_road_1 : decode cX4_road 1 = .ok (.getfield 35, 3) := by decide +kernel
theorem dX4_road_4 : decode cX4_road 4 = .ok (.invokevirtual 117, 3) := by decide +kernel
theorem dX4_road_7 : decode cX4_road 7 = .ok (.ifCond .eq 6, 3) := by decide +kernel
theorem dX4_road_10 : decode cX4_road 10 = .ok (.bipush (-3), 2) := by decide +kernel
theorem dX4_road_12 : decode cX4_road 12 = .ok (.ireturn, 1) := by decide +kernel
theorem dX4_road_13 : decode cX4_road 13 = .ok (.iconst 0, 1) := by decide +kernel
theorem dX4_road_14 : decode cX4_road 14 = .ok (.istore_n 1, 1) := by decide +kernel
theorem dX4_road_15 : decode cX4_road 15 = .ok (.ldc2_w 177, 3) := by decide +kernel
theorem dX4_road_18 : decode cX4_road 18 = .ok (.lstore_n 2, 1) := by decide +kernel
theorem dX4_road_19 : decode cX4_road 19 = .ok (.iconst 0, 1) := by decide +kernel
theorem dX4_road_20 : decode cX4_road 20 = .ok (.istore 4, 2) := by decide +kernel
theorem dX4_road_22 : decode cX4_road 22 = .ok (.iload 4, 2) := by decide +kernel
theorem dX4_road_24 : decode cX4_road 24 = .ok (.aload_n 0, 1) := by decide +kernel
theorem dX4_road_25 : decode cX4_road 25 = .ok (.getfield 35, 3) := by decide +kernel
theorem dX4_road_28 : decode cX4_road 28 = .ok (.getfield 179, 3) := by decide +kernel
theorem dX4_road_31 : decode cX4_road 31 = .ok (.if_icmp .ge 51, 3) := by decide +kernel
theorem dX4_road_34 : decode cX4_road 34 = .ok (.aload_n 0, 1) := by decide +kernel
theorem dX4_road_35 : decode cX4_road 35 = .ok (.getfield 28, 3) := by decide +kernel
theorem dX4_road_38 : decode cX4_road 38 = .ok (.invokevirtual 182, 3) := by decide +kernel
theorem dX4_road_41 : decode cX4_road 41 = .ok (.aload_n 0, 1) := by decide +kernel
theorem dX4_road_42 : decode cX4_road 42 = .ok (.getfield 28, 3) := by decide +kernel
theorem dX4_road_45 : decode cX4_road 45 = .ok (.iload 4, 2) := by decide +kernel
theorem dX4_road_47 : decode cX4_road 47 = .ok (.invokevirtual 185, 3) := by decide +kernel
theorem dX4_road_50 : decode cX4_road 50 = .ok (.aload_n 0, 1) := by decide +kernel
theorem dX4_road_51 : decode cX4_road 51 = .ok (.getfield 28, 3) := by decide +kernel
theorem dX4_road_54 : decode cX4_road 54 = .ok (.aload_n 0, 1) := by decide +kernel
theorem dX4_road_55 : decode cX4_road 55 = .ok (.getfield 35, 3) := by decide +kernel
theorem dX4_road_58 : decode cX4_road 58 = .ok (.invokevirtual 155, 3) := by decide +kernel
theorem dX4_road_61 : decode cX4_road 61 = .ok (.lstore 5, 2) := by decide +kernel
theorem dX4_road_63 : decode cX4_road 63 = .ok (.lload 5, 2) := by decide +kernel
theorem dX4_road_65 : decode cX4_road 65 = .ok (.lload_n 2, 1) := by decide +kernel
theorem dX4_road_66 : decode cX4_road 66 = .ok (.lcmp, 1) := by decide +kernel
theorem dX4_road_67 : decode cX4_road 67 = .ok (.ifCond .ge 9, 3) := by decide +kernel
theorem dX4_road_70 : decode cX4_road 70 = .ok (.lload 5, 2) := by decide +kernel
theorem dX4_road_72 : decode cX4_road 72 = .ok (.lstore_n 2, 1) := by decide +kernel
theorem dX4_road_73 : decode cX4_road 73 = .ok (.iload 4, 2) := by decide +kernel
theorem dX4_road_75 : decode cX4_road 75 = .ok (.istore_n 1, 1) := by decide +kernel
theorem dX4_road_76 : decode cX4_road 76 = .ok (.iinc 4 1, 3) := by decide +kernel
theorem dX4_road_79 : decode cX4_road 79 = .ok (.goto (-57), 3) := by decide +kernel
theorem dX4_road_82 : decode cX4_road 82 = .ok (.iload_n 1, 1) := by decide +kernel
theorem dX4_road_83 : decode cX4_road 83 = .ok (.ireturn, 1) := by decide +kernel
theorem dX4_worth_0 : decode cX4_worth 0 = .ok (.aload_n 0, 1) := by decide +kernel
theorem dX4_worth_1 : decode cX4_worth 1 = .ok (.getfield 35, 3) := by decide +kernel
theorem dX4_worth_4 : decode cX4_worth 4 = .ok (.iload_n 1, 1) := by decide +kernel
theorem dX4_worth_5 : decode cX4_worth 5 = .ok (.invokevirtual 86, 3) := by decide +kernel
theorem dX4_worth_8 : decode cX4_worth 8 = .ok (.ifCond .ne 8, 3) := by decide +kernel
theorem dX4_worth_11 : decode cX4_worth 11 = .ok (.aload_n 0, 1) := by decide +kernel
theorem dX4_worth_12 : decode cX4_worth 12 = .ok (.invokevirtual 147, 3) := by decide +kernel
theorem dX4_worth_15 : decode cX4_worth 15 = .ok (.lreturn, 1) := by decide +kernel
theorem dX4_worth_16 : decode cX4_worth 16 = .ok (.aload_n 0, 1) := by decide +kernel
theorem dX4_worth_17 : decode cX4_worth 17 = .ok (.iload_n 2, 1) := by decide +kernel
theorem dX4_worth_18 : decode cX4_worth 18 = .ok (.iload_n 3, 1) := by decide +kernel
theorem dX4_worth_19 : decode cX4_worth 19 = .ok (.iload 4, 2) := by decide +kernel
theorem dX4_worth_21 : decode cX4_worth 21 = .ok (.iload 5, 2) := by decide +kernel
theorem dX4_worth_23 : decode cX4_worth 23 = .ok (.invokevirtual 151, 3) := by decide +kernel
theorem dX4_worth_26 : decode cX4_worth 26 = .ok (.ifCond .ge 7, 3) := by decide +kernel
theorem dX4_worth_29 : decode cX4_worth 29 = .ok (.ldc2_w 136, 3) := by decide +kernel
theorem dX4_worth_32 : decode cX4_worth 32 = .ok (.lreturn, 1) := by decide +kernel
theorem dX4_worth_33 : decode cX4_worth 33 = .ok (.aload_n 0, 1) := by decide +kernel
theorem dX4_worth_34 : decode cX4_worth 34 = .ok (.getfield 28, 3) := by decide +kernel
theorem dX4_worth_37 : decode cX4_worth 37 = .ok (.aload_n 0, 1) := by decide +kernel
theorem dX4_worth_38 : decode cX4_worth 38 = .ok (.getfield 35, 3) := by decide +kernel
theorem dX4_worth_41 : decode cX4_worth 41 = .ok (.invokevirtual 155, 3) := by decide +kernel
theorem dX4_worth_44 : decode cX4_worth 44 = .ok (.lstore 6, 2) := by decide +kernel
theorem dX4_worth_46 : decode cX4_worth 46 = .ok (.aload_n 0, 1) := by decide +kernel
theorem dX4_worth_47 : decode cX4_worth 47 = .ok (.getfield 35, 3) := by decide +kernel
theorem dX4_worth_50 : decode cX4_worth 50 = .ok (.iload_n 1, 1) := by decide +kernel
theorem dX4_worth_51 : decode cX4_worth 51 = .ok (.putfield 188, 3) := by decide +kernel
theorem dX4_worth_54 : decode cX4_worth 54 = .ok (.aload_n 0, 1) := by decide +kernel
theorem dX4_worth_55 : decode cX4_worth 55 = .ok (.getfield 28, 3) := by decide +kernel
theorem dX4_worth_58 : decode cX4_worth 58 = .ok (.aload_n 0, 1) := by decide +kernel
theorem dX4_worth_59 : decode cX4_worth 59 = .ok (.getfield 35, 3) := by decide +kernel
theorem dX4_worth_62 : decode cX4_worth 62 = .ok (.invokevirtual 155, 3) := by decide +kernel
theorem dX4_worth_65 : decode cX4_worth 65 = .ok (.lstore 8, 2) := by decide +kernel
theorem dX4_worth_67 : decode cX4_worth 67 = .ok (.aload_n 0, 1) := by decide +kernel
theorem dX4_worth_68 : decode cX4_worth 68 = .ok (.getfield 35, 3) := by decide +kernel
theorem dX4_worth_71 : decode cX4_worth 71 = .ok (.bipush (-9), 2) := by decide +kernel
theorem dX4_worth_73 : decode cX4_worth 73 = .ok (.putfield 188, 3) := by decide +kernel
theorem dX4_worth_76 : decode cX4_worth 76 = .ok (.lload 6, 2) := by decide +kernel
theorem dX4_worth_78 : decode cX4_worth 78 = .ok (.lload 8, 2) := by decide +kernel
theorem dX4_worth_80 : decode cX4_worth 80 = .ok (.lsub, 1) := by decide +kernel
theorem dX4_worth_81 : decode cX4_worth 81 = .ok (.lreturn, 1) := by decide +kernel
theorem dX4_reading_0 : decode cX4_reading 0 = .ok (.aload_n 0, 1) := by decide +kernel
theorem dX4_reading_1 : decode cX4_reading 1 = .ok (.getfield 35, 3) := by decide +kernel
theorem dX4_reading_4 : decode cX4_reading 4 = .ok (.iload_n 1, 1) := by decide +kernel
theorem dX4_reading_5 : decode cX4_reading 5 = .ok (.invokevirtual 75, 3) := by decide +kernel
theorem dX4_reading_8 : decode cX4_reading 8 = .ok (.ifCond .ne 5, 3) := by decide +kernel
theorem dX4_reading_11 : decode cX4_reading 11 = .ok (.iconst (-1), 1) := by decide +kernel
theorem dX4_reading_12 : decode cX4_reading 12 = .ok (.ireturn, 1) := by decide +kernel
theorem dX4_reading_13 : decode cX4_reading 13 = .ok (.iload_n 2, 1) := by decide +kernel
theorem dX4_reading_14 : decode cX4_reading 14 = .ok (.iconst 0, 1) := by decide +kernel
theorem dX4_reading_15 : decode cX4_reading 15 = .ok (.ldc 191, 2) := by decide +kernel
theorem dX4_reading_17 : decode cX4_reading 17 = .ok (.invokestatic 113, 3) := by decide +kernel
theorem dX4_reading_20 : decode cX4_reading 20 = .ok (.ifCond .ne 6, 3) := by decide +kernel
theorem dX4_reading_23 : decode cX4_reading 23 = .ok (.bipush (-2), 2) := by decide +kernel
theorem dX4_reading_25 : decode cX4_reading 25 = .ok (.ireturn, 1) := by decide +kernel
theorem dX4_reading_26 : decode cX4_reading 26 = .ok (.aload_n 0, 1) := by decide +kernel
theorem dX4_reading_27 : decode cX4_reading 27 = .ok (.getfield 35, 3) := by decide +kernel
theorem dX4_reading_30 : decode cX4_reading 30 = .ok (.getfield 192, 3) := by decide +kernel
theorem dX4_reading_33 : decode cX4_reading 33 = .ok (.bipush 8, 2) := by decide +kernel
theorem dX4_reading_35 : decode cX4_reading 35 = .ok (.if_icmp .lt 6, 3) := by decide +kernel
theorem dX4_reading_38 : decode cX4_reading 38 = .ok (.bipush (-4), 2) := by decide +kernel
theorem dX4_reading_40 : decode cX4_reading 40 = .ok (.ireturn, 1) := by decide +kernel
theorem dX4_reading_41 : decode cX4_reading 41 = .ok (.aload_n 0, 1) := by decide +kernel
theorem dX4_reading_42 : decode cX4_reading 42 = .ok (.getfield 35, 3) := by decide +kernel
theorem dX4_reading_45 : decode cX4_reading 45 = .ok (.getfield 192, 3) := by decide +kernel
theorem dX4_reading_48 : decode cX4_reading 48 = .ok (.istore_n 3, 1) := by decide +kernel
theorem dX4_reading_49 : decode cX4_reading 49 = .ok (.aload_n 0, 1) := by decide +kernel
theorem dX4_reading_50 : decode cX4_reading 50 = .ok (.getfield 35, 3) := by decide +kernel
theorem dX4_reading_53 : decode cX4_reading 53 = .ok (.getfield 195, 3) := by decide +kernel
theorem dX4_reading_56 : decode cX4_reading 56 = .ok (.iload_n 3, 1) := by decide +kernel
theorem dX4_reading_57 : decode cX4_reading 57 = .ok (.iload_n 1, 1) := by decide +kernel
theorem dX4_reading_58 : decode cX4_reading 58 = .ok (.iastore, 1) := by decide +kernel
theorem dX4_reading_59 : decode cX4_reading 59 = .ok (.aload_n 0, 1) := by decide +kernel
theorem dX4_reading_60 : decode cX4_reading 60 = .ok (.getfield 35, 3) := by decide +kernel
theorem dX4_reading_63 : decode cX4_reading 63 = .ok (.getfield 198, 3) := by decide +kernel
theorem dX4_reading_66 : decode cX4_reading 66 = .ok (.iload_n 3, 1) := by decide +kernel
theorem dX4_reading_67 : decode cX4_reading 67 = .ok (.iload_n 2, 1) := by decide +kernel
theorem dX4_reading_68 : decode cX4_reading 68 = .ok (.iastore, 1) := by decide +kernel
theorem dX4_reading_69 : decode cX4_reading 69 = .ok (.aload_n 0, 1) := by decide +kernel
theorem dX4_reading_70 : decode cX4_reading 70 = .ok (.getfield 35, 3) := by decide +kernel
theorem dX4_reading_73 : decode cX4_reading 73 = .ok (.iload_n 3, 1) := by decide +kernel
theorem dX4_reading_74 : decode cX4_reading 74 = .ok (.iconst 1, 1) := by decide +kernel
theorem dX4_reading_75 : decode cX4_reading 75 = .ok (.iadd, 1) := by decide +kernel
theorem dX4_reading_76 : decode cX4_reading 76 = .ok (.putfield 192, 3) := by decide +kernel
theorem dX4_reading_79 : decode cX4_reading 79 = .ok (.iload_n 3, 1) := by decide +kernel
theorem dX4_reading_80 : decode cX4_reading 80 = .ok (.ireturn, 1) := by decide +kernel
theorem dX4_back_0 : decode cX4_back 0 = .ok (.iload_n 1, 1) := by decide +kernel
theorem dX4_back_1 : decode cX4_back 1 = .ok (.iconst 0, 1) := by decide +kernel
theorem dX4_back_2 : decode cX4_back 2 = .ok (.aload_n 0, 1) := by decide +kernel
theorem dX4_back_3 : decode cX4_back 3 = .ok (.getfield 35, 3) := by decide +kernel
theorem dX4_back_6 : decode cX4_back 6 = .ok (.getfield 192, 3) := by decide +kernel
theorem dX4_back_9 : decode cX4_back 9 = .ok (.invokestatic 113, 3) := by decide +kernel
theorem dX4_back_12 : decode cX4_back 12 = .ok (.ifCond .ne 6, 3) := by decide +kernel
theorem dX4_back_15 : decode cX4_back 15 = .ok (.bipush (-2), 2) := by decide +kernel
theorem dX4_back_17 : decode cX4_back 17 = .ok (.ireturn, 1) := by decide +kernel
theorem dX4_back_18 : decode cX4_back 18 = .ok (.aload_n 0, 1) := by decide +kernel
theorem dX4_back_19 : decode cX4_back 19 = .ok (.getfield 35, 3) := by decide +kernel
theorem dX4_back_22 : decode cX4_back 22 = .ok (.dup, 1) := by decide +kernel
theorem dX4_back_23 : decode cX4_back 23 = .ok (.getfield 192, 3) := by decide +kernel
theorem dX4_back_26 : decode cX4_back 26 = .ok (.iload_n 1, 1) := by decide +kernel
theorem dX4_back_27 : decode cX4_back 27 = .ok (.isub, 1) := by decide +kernel
theorem dX4_back_28 : decode cX4_back 28 = .ok (.putfield 192, 3) := by decide +kernel
theorem dX4_back_31 : decode cX4_back 31 = .ok (.aload_n 0, 1) := by decide +kernel
theorem dX4_back_32 : decode cX4_back 32 = .ok (.getfield 35, 3) := by decide +kernel
theorem dX4_back_35 : decode cX4_back 35 = .ok (.getfield 192, 3) := by decide +kernel
theorem dX4_back_38 : decode cX4_back 38 = .ok (.ireturn, 1) := by decide +kernel
theorem dX4_said_0 : decode cX4_said 0 = .ok (.iload_n 1, 1) := by decide +kernel
theorem dX4_said_1 : decode cX4_said 1 = .ok (.iconst 0, 1) := by decide +kernel
theorem dX4_said_2 : decode cX4_said 2 = .ok (.iconst 1, 1) := by decide +kernel
theorem dX4_said_3 : decode cX4_said 3 = .ok (.invokestatic 113, 3) := by decide +kernel
theorem dX4_said_6 : decode cX4_said 6 = .ok (.ifCond .ne 6, 3) := by decide +kernel
theorem dX4_said_9 : decode cX4_said 9 = .ok (.bipush (-2), 2) := by decide +kernel
theorem dX4_said_11 : decode cX4_said 11 = .ok (.ireturn, 1) := by decide +kernel
theorem dX4_said_12 : decode cX4_said 12 = .ok (.aload_n 0, 1) := by decide +kernel
theorem dX4_said_13 : decode cX4_said 13 = .ok (.getfield 35, 3) := by decide +kernel
theorem dX4_said_16 : decode cX4_said 16 = .ok (.invokevirtual 117, 3) := by decide +kernel
theorem dX4_said_19 : decode cX4_said 19 = .ok (.ifCond .eq 6, 3) := by decide +kernel
theorem dX4_said_22 : decode cX4_said 22 = .ok (.bipush (-3), 2) := by decide +kernel
theorem dX4_said_24 : decode cX4_said 24 = .ok (.ireturn, 1) := by decide +kernel
theorem dX4_said_25 : decode cX4_said 25 = .ok (.aload_n 0, 1) := by decide +kernel
theorem dX4_said_26 : decode cX4_said 26 = .ok (.getfield 35, 3) := by decide +kernel
theorem dX4_said_29 : decode cX4_said 29 = .ok (.getfield 127, 3) := by decide +kernel
theorem dX4_said_32 : decode cX4_said 32 = .ok (.istore_n 2, 1) := by decide +kernel
theorem dX4_said_33 : decode cX4_said 33 = .ok (.iconst 0, 1) := by decide +kernel
theorem dX4_said_34 : decode cX4_said 34 = .ok (.istore_n 3, 1) := by decide +kernel
theorem dX4_said_35 : decode cX4_said 35 = .ok (.bipush (-9), 2) := by decide +kernel
theorem dX4_said_37 : decode cX4_said 37 = .ok (.istore 4, 2) := by decide +kernel
theorem dX4_said_39 : decode cX4_said 39 = .ok (.aload_n 0, 1) := by decide +kernel
theorem dX4_said_40 : decode cX4_said 40 = .ok (.getfield 35, 3) := by decide +kernel
theorem dX4_said_43 : decode cX4_said 43 = .ok (.invokevirtual 201, 3) := by decide +kernel
theorem dX4_said_46 : decode cX4_said 46 = .ok (.istore 5, 2) := by decide +kernel
theorem dX4_said_48 : decode cX4_said 48 = .ok (.iload 5, 2) := by decide +kernel
theorem dX4_said_50 : decode cX4_said 50 = .ok (.ifCond .lt 35, 3) := by decide +kernel
theorem dX4_said_53 : decode cX4_said 53 = .ok (.aload_n 0, 1) := by decide +kernel
theorem dX4_said_54 : decode cX4_said 54 = .ok (.getfield 35, 3) := by decide +kernel
theorem dX4_said_57 : decode cX4_said 57 = .ok (.iload 5, 2) := by decide +kernel
theorem dX4_said_59 : decode cX4_said 59 = .ok (.putfield 127, 3) := by decide +kernel
theorem dX4_said_62 : decode cX4_said 62 = .ok (.aload_n 0, 1) := by decide +kernel
theorem dX4_said_63 : decode cX4_said 63 = .ok (.getfield 35, 3) := by decide +kernel
theorem dX4_said_66 : decode cX4_said 66 = .ok (.invokevirtual 204, 3) := by decide +kernel
theorem dX4_said_69 : decode cX4_said 69 = .ok (.ifCond .eq 10, 3) := by decide +kernel
theorem dX4_said_72 : decode cX4_said 72 = .ok (.iinc 3 1, 3) := by decide +kernel
theorem dX4_said_75 : decode cX4_said 75 = .ok (.iload 5, 2) := by decide +kernel
theorem dX4_said_77 : decode cX4_said 77 = .ok (.istore 4, 2) := by decide +kernel
theorem dX4_said_79 : decode cX4_said 79 = .ok (.iinc 5 (-1), 3) := by decide +kernel
theorem dX4_said_82 : decode cX4_said 82 = .ok (.goto (-34), 3) := by decide +kernel
theorem dX4_said_85 : decode cX4_said 85 = .ok (.aload_n 0, 1) := by decide +kernel
theorem dX4_said_86 : decode cX4_said 86 = .ok (.getfield 35, 3) := by decide +kernel
theorem dX4_said_89 : decode cX4_said 89 = .ok (.iload_n 2, 1) := by decide +kernel
theorem dX4_said_90 : decode cX4_said 90 = .ok (.putfield 127, 3) := by decide +kernel
theorem dX4_said_93 : decode cX4_said 93 = .ok (.iload_n 1, 1) := by decide +kernel
theorem dX4_said_94 : decode cX4_said 94 = .ok (.ifCond .ne 7, 3) := by decide +kernel
theorem dX4_said_97 : decode cX4_said 97 = .ok (.iload_n 3, 1) := by decide +kernel
theorem dX4_said_98 : decode cX4_said 98 = .ok (.goto 5, 3) := by decide +kernel
theorem dX4_said_101 : decode cX4_said 101 = .ok (.iload 4, 2) := by decide +kernel
theorem dX4_said_103 : decode cX4_said 103 = .ok (.ireturn, 1) := by decide +kernel
theorem dX4_frees_0 : decode cX4_frees 0 = .ok (.aload_n 0, 1) := by decide +kernel
theorem dX4_frees_1 : decode cX4_frees 1 = .ok (.getfield 35, 3) := by decide +kernel
theorem dX4_frees_4 : decode cX4_frees 4 = .ok (.invokevirtual 117, 3) := by decide +kernel
theorem dX4_frees_7 : decode cX4_frees 7 = .ok (.ifCond .eq 6, 3) := by decide +kernel
theorem dX4_frees_10 : decode cX4_frees 10 = .ok (.bipush (-3), 2) := by decide +kernel
theorem dX4_frees_12 : decode cX4_frees 12 = .ok (.ireturn, 1) := by decide +kernel
theorem dX4_frees_13 : decode cX4_frees 13 = .ok (.aload_n 0, 1) := by decide +kernel
theorem dX4_frees_14 : decode cX4_frees 14 = .ok (.getfield 35, 3) := by decide +kernel
theorem dX4_frees_17 : decode cX4_frees 17 = .ok (.getfield 121, 3) := by decide +kernel
theorem dX4_frees_20 : decode cX4_frees 20 = .ok (.istore_n 1, 1) := by decide +kernel
theorem dX4_frees_21 : decode cX4_frees 21 = .ok (.iconst 0, 1) := by decide +kernel
theorem dX4_frees_22 : decode cX4_frees 22 = .ok (.istore_n 2, 1) := by decide +kernel
theorem dX4_frees_23 : decode cX4_frees 23 = .ok (.iconst 0, 1) := by decide +kernel
theorem dX4_frees_24 : decode cX4_frees 24 = .ok (.istore_n 3, 1) := by decide +kernel
theorem dX4_frees_25 : decode cX4_frees 25 = .ok (.iload_n 3, 1) := by decide +kernel
theorem dX4_frees_26 : decode cX4_frees 26 = .ok (.bipush 9, 2) := by decide +kernel
theorem dX4_frees_28 : decode cX4_frees 28 = .ok (.if_icmp .gt 33, 3) := by decide +kernel
theorem dX4_frees_31 : decode cX4_frees 31 = .ok (.aload_n 0, 1) := by decide +kernel
theorem dX4_frees_32 : decode cX4_frees 32 = .ok (.getfield 35, 3) := by decide +kernel
theorem dX4_frees_35 : decode cX4_frees 35 = .ok (.iload_n 3, 1) := by decide +kernel
theorem dX4_frees_36 : decode cX4_frees 36 = .ok (.putfield 121, 3) := by decide +kernel
theorem dX4_frees_39 : decode cX4_frees 39 = .ok (.aload_n 0, 1) := by decide +kernel
theorem dX4_frees_40 : decode cX4_frees 40 = .ok (.getfield 35, 3) := by decide +kernel
theorem dX4_frees_43 : decode cX4_frees 43 = .ok (.invokevirtual 204, 3) := by decide +kernel
theorem dX4_frees_46 : decode cX4_frees 46 = .ok (.ifCond .eq 9, 3) := by decide +kernel
theorem dX4_frees_49 : decode cX4_frees 49 = .ok (.iload_n 2, 1) := by decide +kernel
theorem dX4_frees_50 : decode cX4_frees 50 = .ok (.iconst 1, 1) := by decide +kernel
theorem dX4_frees_51 : decode cX4_frees 51 = .ok (.iload_n 3, 1) := by decide +kernel
theorem dX4_frees_52 : decode cX4_frees 52 = .ok (.ishl, 1) := by decide +kernel
theorem dX4_frees_53 : decode cX4_frees 53 = .ok (.ior, 1) := by decide +kernel
theorem dX4_frees_54 : decode cX4_frees 54 = .ok (.istore_n 2, 1) := by decide +kernel
theorem dX4_frees_55 : decode cX4_frees 55 = .ok (.iinc 3 1, 3) := by decide +kernel
theorem dX4_frees_58 : decode cX4_frees 58 = .ok (.goto (-33), 3) := by decide +kernel
theorem dX4_frees_61 : decode cX4_frees 61 = .ok (.aload_n 0, 1) := by decide +kernel
theorem dX4_frees_62 : decode cX4_frees 62 = .ok (.getfield 35, 3) := by decide +kernel
theorem dX4_frees_65 : decode cX4_frees 65 = .ok (.iload_n 1, 1) := by decide +kernel
theorem dX4_frees_66 : decode cX4_frees 66 = .ok (.putfield 121, 3) := by decide +kernel
theorem dX4_frees_69 : decode cX4_frees 69 = .ok (.iload_n 2, 1) := by decide +kernel
theorem dX4_frees_70 : decode cX4_frees 70 = .ok (.ireturn, 1) := by decide +kernel
theorem dX4_laws_0 : decode cX4_laws 0 = .ok (.aload_n 0, 1) := by decide +kernel
theorem dX4_laws_1 : decode cX4_laws 1 = .ok (.getfield 35, 3) := by decide +kernel
theorem dX4_laws_4 : decode cX4_laws 4 = .ok (.invokevirtual 117, 3) := by decide +kernel
theorem dX4_laws_7 : decode cX4_laws 7 = .ok (.ifCond .eq 6, 3) := by decide +kernel
theorem dX4_laws_10 : decode cX4_laws 10 = .ok (.bipush (-3), 2) := by decide +kernel
theorem dX4_laws_12 : decode cX4_laws 12 = .ok (.ireturn, 1) := by decide +kernel
theorem dX4_laws_13 : decode cX4_laws 13 = .ok (.aload_n 0, 1) := by decide +kernel
theorem dX4_laws_14 : decode cX4_laws 14 = .ok (.getfield 35, 3) := by decide +kernel
theorem dX4_laws_17 : decode cX4_laws 17 = .ok (.getfield 124, 3) := by decide +kernel
theorem dX4_laws_20 : decode cX4_laws 20 = .ok (.istore_n 1, 1) := by decide +kernel
theorem dX4_laws_21 : decode cX4_laws 21 = .ok (.iconst 0, 1) := by decide +kernel
theorem dX4_laws_22 : decode cX4_laws 22 = .ok (.istore_n 2, 1) := by decide +kernel
theorem dX4_laws_23 : decode cX4_laws 23 = .ok (.iconst 0, 1) := by decide +kernel
theorem dX4_laws_24 : decode cX4_laws 24 = .ok (.istore_n 3, 1) := by decide +kernel
theorem dX4_laws_25 : decode cX4_laws 25 = .ok (.iload_n 3, 1) := by decide +kernel
theorem dX4_laws_26 : decode cX4_laws 26 = .ok (.bipush 7, 2) := by decide +kernel
theorem dX4_laws_28 : decode cX4_laws 28 = .ok (.if_icmp .gt 33, 3) := by decide +kernel
theorem dX4_laws_31 : decode cX4_laws 31 = .ok (.aload_n 0, 1) := by decide +kernel
theorem dX4_laws_32 : decode cX4_laws 32 = .ok (.getfield 35, 3) := by decide +kernel
theorem dX4_laws_35 : decode cX4_laws 35 = .ok (.iload_n 3, 1) := by decide +kernel
theorem dX4_laws_36 : decode cX4_laws 36 = .ok (.putfield 124, 3) := by decide +kernel
theorem dX4_laws_39 : decode cX4_laws 39 = .ok (.aload_n 0, 1) := by decide +kernel
theorem dX4_laws_40 : decode cX4_laws 40 = .ok (.getfield 35, 3) := by decide +kernel
theorem dX4_laws_43 : decode cX4_laws 43 = .ok (.invokevirtual 204, 3) := by decide +kernel
theorem dX4_laws_46 : decode cX4_laws 46 = .ok (.ifCond .eq 9, 3) := by decide +kernel
theorem dX4_laws_49 : decode cX4_laws 49 = .ok (.iload_n 2, 1) := by decide +kernel
theorem dX4_laws_50 : decode cX4_laws 50 = .ok (.iconst 1, 1) := by decide +kernel
theorem dX4_laws_51 : decode cX4_laws 51 = .ok (.iload_n 3, 1) := by decide +kernel
theorem dX4_laws_52 : decode cX4_laws 52 = .ok (.ishl, 1) := by decide +kernel
theorem dX4_laws_53 : decode cX4_laws 53 = .ok (.ior, 1) := by decide +kernel
theorem dX4_laws_54 : decode cX4_laws 54 = .ok (.istore_n 2, 1) := by decide +kernel
theorem dX4_laws_55 : decode cX4_laws 55 = .ok (.iinc 3 1, 3) := by decide +kernel
theorem dX4_laws_58 : decode cX4_laws 58 = .ok (.goto (-33), 3) := by decide +kernel
theorem dX4_laws_61 : decode cX4_laws 61 = .ok (.aload_n 0, 1) := by decide +kernel
theorem dX4_laws_62 : decode cX4_laws 62 = .ok (.getfield 35, 3) := by decide +kernel
theorem dX4_laws_65 : decode cX4_laws 65 = .ok (.iload_n 1, 1) := by decide +kernel
theorem dX4_laws_66 : decode cX4_laws 66 = .ok (.putfield 124, 3) := by decide +kernel
theorem dX4_laws_69 : decode cX4_laws 69 = .ok (.iload_n 2, 1) := by decide +kernel
theorem dX4_laws_70 : decode cX4_laws 70 = .ok (.ireturn, 1) := by decide +kernel
theorem dX4_kinds_0 : decode cX4_kinds 0 = .ok (.aload_n 0, 1) := by decide +kernel
theorem dX4_kinds_1 : decode cX4_kinds 1 = .ok (.getfield 35, 3) := by decide +kernel
theorem dX4_kinds_4 : decode cX4_kinds 4 = .ok (.iload_n 1, 1) := by decide +kernel
theorem dX4_kinds_5 : decode cX4_kinds 5 = .ok (.invokevirtual 86, 3) := by decide +kernel
theorem dX4_kinds_8 : decode cX4_kinds 8 = .ok (.ifCond .ne 5, 3) := by decide +kernel
theorem dX4_kinds_11 : decode cX4_kinds 11 = .ok (.iconst (-1), 1) := by decide +kernel
theorem dX4_kinds_12 : decode cX4_kinds 12 = .ok (.ireturn, 1) := by decide +kernel
theorem dX4_kinds_13 : decode cX4_kinds 13 = .ok (.aload_n 0, 1) := by decide +kernel
theorem dX4_kinds_14 : decode cX4_kinds 14 = .ok (.getfield 35, 3) := by decide +kernel
theorem dX4_kinds_17 : decode cX4_kinds 17 = .ok (.getfield 89, 3) := by decide +kernel
theorem dX4_kinds_20 : decode cX4_kinds 20 = .ok (.iload_n 1, 1) := by decide +kernel
theorem dX4_kinds_21 : decode cX4_kinds 21 = .ok (.iaload, 1) := by decide +kernel
theorem dX4_kinds_22 : decode cX4_kinds 22 = .ok (.istore_n 2, 1) := by decide +kernel
theorem dX4_kinds_23 : decode cX4_kinds 23 = .ok (.iconst 0, 1) := by decide +kernel
theorem dX4_kinds_24 : decode cX4_kinds 24 = .ok (.istore_n 3, 1) := by decide +kernel
theorem dX4_kinds_25 : decode cX4_kinds 25 = .ok (.iconst 0, 1) := by decide +kernel
theorem dX4_kinds_26 : decode cX4_kinds 26 = .ok (.istore 4, 2) := by decide +kernel
theorem dX4_kinds_28 : decode cX4_kinds 28 = .ok (.iload 4, 2) := by decide +kernel
theorem dX4_kinds_30 : decode cX4_kinds 30 = .ok (.iconst 3, 1) := by decide +kernel
theorem dX4_kinds_31 : decode cX4_kinds 31 = .ok (.if_icmp .ge 37, 3) := by decide +kernel
theorem dX4_kinds_34 : decode cX4_kinds 34 = .ok (.aload_n 0, 1) := by decide +kernel
theorem dX4_kinds_35 : decode cX4_kinds 35 = .ok (.getfield 35, 3) := by decide +kernel
theorem dX4_kinds_38 : decode cX4_kinds 38 = .ok (.getfield 89, 3) := by decide +kernel
theorem dX4_kinds_41 : decode cX4_kinds 41 = .ok (.iload_n 1, 1) := by decide +kernel
theorem dX4_kinds_42 : decode cX4_kinds 42 = .ok (.iload 4, 2) := by decide +kernel
theorem dX4_kinds_44 : decode cX4_kinds 44 = .ok (.iastore, 1) := by decide +kernel
theorem dX4_kinds_45 : decode cX4_kinds 45 = .ok (.aload_n 0, 1) := by decide +kernel
theorem dX4_kinds_46 : decode cX4_kinds 46 = .ok (.getfield 35, 3) := by decide +kernel
theorem dX4_kinds_49 : decode cX4_kinds 49 = .ok (.invokevirtual 204, 3) := by decide +kernel
theorem dX4_kinds_52 : decode cX4_kinds 52 = .ok (.ifCond .eq 10, 3) := by decide +kernel
theorem dX4_kinds_55 : decode cX4_kinds 55 = .ok (.iload_n 3, 1) := by decide +kernel
theorem dX4_kinds_56 : decode cX4_kinds 56 = .ok (.iconst 1, 1) := by decide +kernel
theorem dX4_kinds_57 : decode cX4_kinds 57 = .ok (.iload 4, 2) := by decide +kernel
theorem dX4_kinds_59 : decode cX4_kinds 59 = .ok (.ishl, 1) := by decide +kernel
theorem dX4_kinds_60 : decode cX4_kinds 60 = .ok (.ior, 1) := by decide +kernel
theorem dX4_kinds_61 : decode cX4_kinds 61 = .ok (.istore_n 3, 1) := by decide +kernel
theorem dX4_kinds_62 : decode cX4_kinds 62 = .ok (.iinc 4 1, 3) := by decide +kernel
theorem dX4_kinds_65 : decode cX4_kinds 65 = .ok (.goto (-37), 3) := by decide +kernel
theorem dX4_kinds_68 : decode cX4_kinds 68 = .ok (.aload_n 0, 1) := by decide +kernel
theorem dX4_kinds_69 : decode cX4_kinds 69 = .ok (.getfield 35, 3) := by decide +kernel
theorem dX4_kinds_72 : decode cX4_kinds 72 = .ok (.getfield 89, 3) := by decide +kernel
theorem dX4_kinds_75 : decode cX4_kinds 75 = .ok (.iload_n 1, 1) := by decide +kernel
theorem dX4_kinds_76 : decode cX4_kinds 76 = .ok (.iload_n 2, 1) := by decide +kernel
theorem dX4_kinds_77 : decode cX4_kinds 77 = .ok (.iastore, 1) := by decide +kernel
theorem dX4_kinds_78 : decode cX4_kinds 78 = .ok (.iload_n 3, 1) := by decide +kernel
theorem dX4_kinds_79 : decode cX4_kinds 79 = .ok (.ireturn, 1) := by decide +kernel
theorem dX4_odds_0 : decode cX4_odds 0 = .ok (.aload_n 0, 1) := by decide +kernel
theorem dX4_odds_1 : decode cX4_odds 1 = .ok (.getfield 35, 3) := by decide +kernel
theorem dX4_odds_4 : decode cX4_odds 4 = .ok (.iload_n 1, 1) := by decide +kernel
theorem dX4_odds_5 : decode cX4_odds 5 = .ok (.invokevirtual 75, 3) := by decide +kernel
theorem dX4_odds_8 : decode cX4_odds 8 = .ok (.ifCond .eq 22, 3) := by decide +kernel
theorem dX4_odds_11 : decode cX4_odds 11 = .ok (.iload_n 2, 1) := by decide +kernel
theorem dX4_odds_12 : decode cX4_odds 12 = .ok (.iconst 0, 1) := by decide +kernel
theorem dX4_odds_13 : decode cX4_odds 13 = .ok (.ldc 191, 2) := by decide +kernel
theorem dX4_odds_15 : decode cX4_odds 15 = .ok (.invokestatic 113, 3) := by decide +kernel
theorem dX4_odds_18 : decode cX4_odds 18 = .ok (.ifCond .eq 12, 3) := by decide +kernel
theorem dX4_odds_21 : decode cX4_odds 21 = .ok (.iload_n 3, 1) := by decide +kernel
theorem dX4_odds_22 : decode cX4_odds 22 = .ok (.iconst 0, 1) := by decide +kernel
theorem dX4_odds_23 : decode cX4_odds 23 = .ok (.iconst 1, 1) := by decide +kernel
theorem dX4_odds_24 : decode cX4_odds 24 = .ok (.invokestatic 113, 3) := by decide +kernel
theorem dX4_odds_27 : decode cX4_odds 27 = .ok (.ifCond .ne 7, 3) := by decide +kernel
theorem dX4_odds_30 : decode cX4_odds 30 = .ok (.ldc2_w 136, 3) := by decide +kernel
theorem dX4_odds_33 : decode cX4_odds 33 = .ok (.lreturn, 1) := by decide +kernel
theorem dX4_odds_34 : decode cX4_odds 34 = .ok (.aload_n 0, 1) := by decide +kernel
theorem dX4_odds_35 : decode cX4_odds 35 = .ok (.getfield 35, 3) := by decide +kernel
theorem dX4_odds_38 : decode cX4_odds 38 = .ok (.getfield 127, 3) := by decide +kernel
theorem dX4_odds_41 : decode cX4_odds 41 = .ok (.istore 4, 2) := by decide +kernel
theorem dX4_odds_43 : decode cX4_odds 43 = .ok (.aload_n 0, 1) := by decide +kernel
theorem dX4_odds_44 : decode cX4_odds 44 = .ok (.getfield 35, 3) := by decide +kernel
theorem dX4_odds_47 : decode cX4_odds 47 = .ok (.invokevirtual 201, 3) := by decide +kernel
theorem dX4_odds_50 : decode cX4_odds 50 = .ok (.istore 5, 2) := by decide +kernel
theorem dX4_odds_52 : decode cX4_odds 52 = .ok (.iconst 0, 1) := by decide +kernel
theorem dX4_odds_53 : decode cX4_odds 53 = .ok (.istore 6, 2) := by decide +kernel
theorem dX4_odds_55 : decode cX4_odds 55 = .ok (.iconst 0, 1) := by decide +kernel
theorem dX4_odds_56 : decode cX4_odds 56 = .ok (.istore 7, 2) := by decide +kernel
theorem dX4_odds_58 : decode cX4_odds 58 = .ok (.iload 7, 2) := by decide +kernel
theorem dX4_odds_60 : decode cX4_odds 60 = .ok (.iload 5, 2) := by decide +kernel
theorem dX4_odds_62 : decode cX4_odds 62 = .ok (.if_icmp .gt 33, 3) := by decide +kernel
theorem dX4_odds_65 : decode cX4_odds 65 = .ok (.aload_n 0, 1) := by decide +kernel
theorem dX4_odds_66 : decode cX4_odds 66 = .ok (.getfield 35, 3) := by decide +kernel
theorem dX4_odds_69 : decode cX4_odds 69 = .ok (.iload 7, 2) := by decide +kernel
theorem dX4_odds_71 : decode cX4_odds 71 = .ok (.putfield 127, 3) := by decide +kernel
theorem dX4_odds_74 : decode cX4_odds 74 = .ok (.aload_n 0, 1) := by decide +kernel
theorem dX4_odds_75 : decode cX4_odds 75 = .ok (.getfield 35, 3) := by decide +kernel
theorem dX4_odds_78 : decode cX4_odds 78 = .ok (.iload_n 1, 1) := by decide +kernel
theorem dX4_odds_79 : decode cX4_odds 79 = .ok (.invokevirtual 133, 3) := by decide +kernel
theorem dX4_odds_82 : decode cX4_odds 82 = .ok (.iload_n 2, 1) := by decide +kernel
theorem dX4_odds_83 : decode cX4_odds 83 = .ok (.if_icmp .lt 6, 3) := by decide +kernel
theorem dX4_odds_86 : decode cX4_odds 86 = .ok (.iinc 6 1, 3) := by decide +kernel
theorem dX4_odds_89 : decode cX4_odds 89 = .ok (.iinc 7 1, 3) := by decide +kernel
theorem dX4_odds_92 : decode cX4_odds 92 = .ok (.goto (-34), 3) := by decide +kernel
theorem dX4_odds_95 : decode cX4_odds 95 = .ok (.aload_n 0, 1) := by decide +kernel
theorem dX4_odds_96 : decode cX4_odds 96 = .ok (.getfield 35, 3) := by decide +kernel
theorem dX4_odds_99 : decode cX4_odds 99 = .ok (.iload 4, 2) := by decide +kernel
theorem dX4_odds_101 : decode cX4_odds 101 = .ok (.putfield 127, 3) := by decide +kernel
theorem dX4_odds_104 : decode cX4_odds 104 = .ok (.iload 6, 2) := by decide +kernel
theorem dX4_odds_106 : decode cX4_odds 106 = .ok (.i2l, 1) := by decide +kernel
theorem dX4_odds_107 : decode cX4_odds 107 = .ok (.iload 5, 2) := by decide +kernel
theorem dX4_odds_109 : decode cX4_odds 109 = .ok (.iconst 1, 1) := by decide +kernel
theorem dX4_odds_110 : decode cX4_odds 110 = .ok (.iadd, 1) := by decide +kernel
theorem dX4_odds_111 : decode cX4_odds 111 = .ok (.i2l, 1) := by decide +kernel
theorem dX4_odds_112 : decode cX4_odds 112 = .ok (.iload_n 3, 1) := by decide +kernel
theorem dX4_odds_113 : decode cX4_odds 113 = .ok (.invokestatic 143, 3) := by decide +kernel
theorem dX4_odds_116 : decode cX4_odds 116 = .ok (.lreturn, 1) := by decide +kernel
theorem dX4_sheet_0 : decode cX4_sheet 0 = .ok (.iload_n 1, 1) := by decide +kernel
theorem dX4_sheet_1 : decode cX4_sheet 1 = .ok (.iload_n 2, 1) := by decide +kernel
theorem dX4_sheet_2 : decode cX4_sheet 2 = .ok (.invokestatic 42, 3) := by decide +kernel
theorem dX4_sheet_5 : decode cX4_sheet 5 = .ok (.istore 4, 2) := by decide +kernel
theorem dX4_sheet_7 : decode cX4_sheet 7 = .ok (.iload 4, 2) := by decide +kernel
theorem dX4_sheet_9 : decode cX4_sheet 9 = .ok (.ifCond .ne 13, 3) := by decide +kernel
theorem dX4_sheet_12 : decode cX4_sheet 12 = .ok (.iload_n 3, 1) := by decide +kernel
theorem dX4_sheet_13 : decode cX4_sheet 13 = .ok (.bipush 60, 2) := by decide +kernel
theorem dX4_sheet_15 : decode cX4_sheet 15 = .ok (.if_icmp .le 7, 3) := by decide +kernel
theorem dX4_sheet_18 : decode cX4_sheet 18 = .ok (.bipush (-2), 2) := by decide +kernel
theorem dX4_sheet_20 : decode cX4_sheet 20 = .ok (.istore 4, 2) := by decide +kernel
theorem dX4_sheet_22 : decode cX4_sheet 22 = .ok (.iload 4, 2) := by decide +kernel
theorem dX4_sheet_24 : decode cX4_sheet 24 = .ok (.ifCond .eq 10, 3) := by decide +kernel
theorem dX4_sheet_27 : decode cX4_sheet 27 = .ok (.aload_n 0, 1) := by decide +kernel
theorem dX4_sheet_28 : decode cX4_sheet 28 = .ok (.iload 4, 2) := by decide +kernel
theorem dX4_sheet_30 : decode cX4_sheet 30 = .ok (.invokevirtual 46, 3) := by decide +kernel
theorem dX4_sheet_33 : decode cX4_sheet 33 = .ok (.ireturn, 1) := by decide +kernel
theorem dX4_sheet_34 : decode cX4_sheet 34 = .ok (.iload_n 3, 1) := by decide +kernel
theorem dX4_sheet_35 : decode cX4_sheet 35 = .ok (.ifCond .ge 9, 3) := by decide +kernel
theorem dX4_sheet_38 : decode cX4_sheet 38 = .ok (.aload_n 0, 1) := by decide +kernel
theorem dX4_sheet_39 : decode cX4_sheet 39 = .ok (.iconst 4, 1) := by decide +kernel
theorem dX4_sheet_40 : decode cX4_sheet 40 = .ok (.invokevirtual 57, 3) := by decide +kernel
theorem dX4_sheet_43 : decode cX4_sheet 43 = .ok (.ireturn, 1) := by decide +kernel
theorem dX4_sheet_44 : decode cX4_sheet 44 = .ok (.aload_n 0, 1) := by decide +kernel
theorem dX4_sheet_45 : decode cX4_sheet 45 = .ok (.iconst 0, 1) := by decide +kernel
theorem dX4_sheet_46 : decode cX4_sheet 46 = .ok (.putfield 60, 3) := by decide +kernel
theorem dX4_sheet_49 : decode cX4_sheet 49 = .ok (.aload_n 0, 1) := by decide +kernel
theorem dX4_sheet_50 : decode cX4_sheet 50 = .ok (.getfield 13, 3) := by decide +kernel
theorem dX4_sheet_53 : decode cX4_sheet 53 = .ok (.iload_n 1, 1) := by decide +kernel
theorem dX4_sheet_54 : decode cX4_sheet 54 = .ok (.aaload, 1) := by decide +kernel
theorem dX4_sheet_55 : decode cX4_sheet 55 = .ok (.iload_n 2, 1) := by decide +kernel
theorem dX4_sheet_56 : decode cX4_sheet 56 = .ok (.iload_n 3, 1) := by decide +kernel
theorem dX4_sheet_57 : decode cX4_sheet 57 = .ok (.invokevirtual 207, 3) := by decide +kernel
theorem dX4_sheet_60 : decode cX4_sheet 60 = .ok (.iconst 1, 1) := by decide +kernel
theorem dX4_sheet_61 : decode cX4_sheet 61 = .ok (.ireturn, 1) := by decide +kernel
theorem dX4_lose_0 : decode cX4_lose 0 = .ok (.iload_n 1, 1) := by decide +kernel
theorem dX4_lose_1 : decode cX4_lose 1 = .ok (.invokestatic 210, 3) := by decide +kernel
theorem dX4_lose_4 : decode cX4_lose 4 = .ok (.ifCond .ne 5, 3) := by decide +kernel
theorem dX4_lose_7 : decode cX4_lose 7 = .ok (.iconst (-1), 1) := by decide +kernel
theorem dX4_lose_8 : decode cX4_lose 8 = .ok (.ireturn, 1) := by decide +kernel
theorem dX4_lose_9 : decode cX4_lose 9 = .ok (.aload_n 0, 1) := by decide +kernel
theorem dX4_lose_10 : decode cX4_lose 10 = .ok (.getfield 13, 3) := by decide +kernel
theorem dX4_lose_13 : decode cX4_lose 13 = .ok (.iload_n 1, 1) := by decide +kernel
theorem dX4_lose_14 : decode cX4_lose 14 = .ok (.aaload, 1) := by decide +kernel
theorem dX4_lose_15 : decode cX4_lose 15 = .ok (.invokevirtual 213, 3) := by decide +kernel
theorem dX4_lose_18 : decode cX4_lose 18 = .ok (.ifCond .ne 5, 3) := by decide +kernel
theorem dX4_lose_21 : decode cX4_lose 21 = .ok (.iconst 0, 1) := by decide +kernel
theorem dX4_lose_22 : decode cX4_lose 22 = .ok (.ireturn, 1) := by decide +kernel
theorem dX4_lose_23 : decode cX4_lose 23 = .ok (.aload_n 0, 1) := by decide +kernel
theorem dX4_lose_24 : decode cX4_lose 24 = .ok (.getfield 13, 3) := by decide +kernel
theorem dX4_lose_27 : decode cX4_lose 27 = .ok (.iload_n 1, 1) := by decide +kernel
theorem dX4_lose_28 : decode cX4_lose 28 = .ok (.aaload, 1) := by decide +kernel
theorem dX4_lose_29 : decode cX4_lose 29 = .ok (.invokevirtual 216, 3) := by decide +kernel
theorem dX4_lose_32 : decode cX4_lose 32 = .ok (.iconst 1, 1) := by decide +kernel
theorem dX4_lose_33 : decode cX4_lose 33 = .ok (.ireturn, 1) := by decide +kernel
theorem dX4_put_0 : decode cX4_put 0 = .ok (.iload_n 1, 1) := by decide +kernel
theorem dX4_put_1 : decode cX4_put 1 = .ok (.invokestatic 210, 3) := by decide +kernel
theorem dX4_put_4 : decode cX4_put 4 = .ok (.ifCond .ne 9, 3) := by decide +kernel
theorem dX4_put_7 : decode cX4_put 7 = .ok (.aload_n 0, 1) := by decide +kernel
theorem dX4_put_8 : decode cX4_put 8 = .ok (.iconst (-1), 1) := by decide +kernel
theorem dX4_put_9 : decode cX4_put 9 = .ok (.invokevirtual 46, 3) := by decide +kernel
theorem dX4_put_12 : decode cX4_put 12 = .ok (.ireturn, 1) := by decide +kernel
theorem dX4_put_13 : decode cX4_put 13 = .ok (.aload_n 0, 1) := by decide +kernel
theorem dX4_put_14 : decode cX4_put 14 = .ok (.getfield 13, 3) := by decide +kernel
theorem dX4_put_17 : decode cX4_put 17 = .ok (.iload_n 1, 1) := by decide +kernel
theorem dX4_put_18 : decode cX4_put 18 = .ok (.aaload, 1) := by decide +kernel
theorem dX4_put_19 : decode cX4_put 19 = .ok (.astore 4, 2) := by decide +kernel
theorem dX4_put_21 : decode cX4_put 21 = .ok (.aload 4, 2) := by decide +kernel
theorem dX4_put_23 : decode cX4_put 23 = .ok (.invokevirtual 213, 3) := by decide +kernel
theorem dX4_put_26 : decode cX4_put 26 = .ok (.ifCond .ne 9, 3) := by decide +kernel
theorem dX4_put_29 : decode cX4_put 29 = .ok (.aload_n 0, 1) := by decide +kernel
theorem dX4_put_30 : decode cX4_put 30 = .ok (.iconst 1, 1) := by decide +kernel
theorem dX4_put_31 : decode cX4_put 31 = .ok (.invokevirtual 57, 3) := by decide +kernel
theorem dX4_put_34 : decode cX4_put 34 = .ok (.ireturn, 1) := by decide +kernel
theorem dX4_put_35 : decode cX4_put 35 = .ok (.aload 4, 2) := by decide +kernel
theorem dX4_put_37 : decode cX4_put 37 = .ok (.iload_n 2, 1) := by decide +kernel
theorem dX4_put_38 : decode cX4_put 38 = .ok (.invokevirtual 219, 3) := by decide +kernel
theorem dX4_put_41 : decode cX4_put 41 = .ok (.ifCond .ne 9, 3) := by decide +kernel
theorem dX4_put_44 : decode cX4_put 44 = .ok (.aload_n 0, 1) := by decide +kernel
theorem dX4_put_45 : decode cX4_put 45 = .ok (.iconst 3, 1) := by decide +kernel
theorem dX4_put_46 : decode cX4_put 46 = .ok (.invokevirtual 57, 3) := by decide +kernel
theorem dX4_put_49 : decode cX4_put 49 = .ok (.ireturn, 1) := by decide +kernel
theorem dX4_put_50 : decode cX4_put 50 = .ok (.aload_n 0, 1) := by decide +kernel
theorem dX4_put_51 : decode cX4_put 51 = .ok (.iconst 0, 1) := by decide +kernel
theorem dX4_put_52 : decode cX4_put 52 = .ok (.putfield 60, 3) := by decide +kernel
theorem dX4_put_55 : decode cX4_put 55 = .ok (.aload 4, 2) := by decide +kernel
theorem dX4_put_57 : decode cX4_put 57 = .ok (.getfield 222, 3) := by decide +kernel
theorem dX4_put_60 : decode cX4_put 60 = .ok (.iload_n 2, 1) := by decide +kernel
theorem dX4_put_61 : decode cX4_put 61 = .ok (.aload 4, 2) := by decide +kernel
theorem dX4_put_63 : decode cX4_put 63 = .ok (.iload_n 3, 1) := by decide +kernel
theorem dX4_put_64 : decode cX4_put 64 = .ok (.invokevirtual 225, 3) := by decide +kernel
theorem dX4_put_67 : decode cX4_put 67 = .ok (.iastore, 1) := by decide +kernel
theorem dX4_put_68 : decode cX4_put 68 = .ok (.iconst 1, 1) := by decide +kernel
theorem dX4_put_69 : decode cX4_put 69 = .ok (.ireturn, 1) := by decide +kernel
theorem dX4_cell_0 : decode cX4_cell 0 = .ok (.iload_n 1, 1) := by decide +kernel
theorem dX4_cell_1 : decode cX4_cell 1 = .ok (.iload_n 3, 1) := by decide +kernel
theorem dX4_cell_2 : decode cX4_cell 2 = .ok (.invokestatic 42, 3) := by decide +kernel
theorem dX4_cell_5 : decode cX4_cell 5 = .ok (.ifCond .eq 8, 3) := by decide +kernel
theorem dX4_cell_8 : decode cX4_cell 8 = .ok (.aload_n 0, 1) := by decide +kernel
theorem dX4_cell_9 : decode cX4_cell 9 = .ok (.invokevirtual 147, 3) := by decide +kernel
theorem dX4_cell_12 : decode cX4_cell 12 = .ok (.lreturn, 1) := by decide +kernel
theorem dX4_cell_13 : decode cX4_cell 13 = .ok (.aload_n 0, 1) := by decide +kernel
theorem dX4_cell_14 : decode cX4_cell 14 = .ok (.getfield 13, 3) := by decide +kernel
theorem dX4_cell_17 : decode cX4_cell 17 = .ok (.iload_n 1, 1) := by decide +kernel
theorem dX4_cell_18 : decode cX4_cell 18 = .ok (.aaload, 1) := by decide +kernel
theorem dX4_cell_19 : decode cX4_cell 19 = .ok (.astore 4, 2) := by decide +kernel
theorem dX4_cell_21 : decode cX4_cell 21 = .ok (.aload 4, 2) := by decide +kernel
theorem dX4_cell_23 : decode cX4_cell 23 = .ok (.iload_n 3, 1) := by decide +kernel
theorem dX4_cell_24 : decode cX4_cell 24 = .ok (.invokevirtual 50, 3) := by decide +kernel
theorem dX4_cell_27 : decode cX4_cell 27 = .ok (.istore 5, 2) := by decide +kernel
theorem dX4_cell_29 : decode cX4_cell 29 = .ok (.iload 5, 2) := by decide +kernel
theorem dX4_cell_31 : decode cX4_cell 31 = .ok (.ifCond .ne 15, 3) := by decide +kernel
theorem dX4_cell_34 : decode cX4_cell 34 = .ok (.aload 4, 2) := by decide +kernel
theorem dX4_cell_36 : decode cX4_cell 36 = .ok (.iload_n 2, 1) := by decide +kernel
theorem dX4_cell_37 : decode cX4_cell 37 = .ok (.invokevirtual 219, 3) := by decide +kernel
theorem dX4_cell_40 : decode cX4_cell 40 = .ok (.ifCond .ne 6, 3) := by decide +kernel
theorem dX4_cell_43 : decode cX4_cell 43 = .ok (.iconst 3, 1) := by decide +kernel
theorem dX4_cell_44 : decode cX4_cell 44 = .ok (.istore 5, 2) := by decide +kernel
theorem dX4_cell_46 : decode cX4_cell 46 = .ok (.aload_n 0, 1) := by decide +kernel
theorem dX4_cell_47 : decode cX4_cell 47 = .ok (.iload 5, 2) := by decide +kernel
theorem dX4_cell_49 : decode cX4_cell 49 = .ok (.putfield 60, 3) := by decide +kernel
theorem dX4_cell_52 : decode cX4_cell 52 = .ok (.iload 5, 2) := by decide +kernel
theorem dX4_cell_54 : decode cX4_cell 54 = .ok (.ifCond .eq 9, 3) := by decide +kernel
theorem dX4_cell_57 : decode cX4_cell 57 = .ok (.ldc2_w 136, 3) := by decide +kernel
theorem dX4_cell_60 : decode cX4_cell 60 = .ok (.goto 11, 3) := by decide +kernel
theorem dX4_cell_63 : decode cX4_cell 63 = .ok (.aload 4, 2) := by decide +kernel
theorem dX4_cell_65 : decode cX4_cell 65 = .ok (.getfield 222, 3) := by decide +kernel
theorem dX4_cell_68 : decode cX4_cell 68 = .ok (.iload_n 2, 1) := by decide +kernel
theorem dX4_cell_69 : decode cX4_cell 69 = .ok (.iaload, 1) := by decide +kernel
theorem dX4_cell_70 : decode cX4_cell 70 = .ok (.i2l, 1) := by decide +kernel
theorem dX4_cell_71 : decode cX4_cell 71 = .ok (.lreturn, 1) := by decide +kernel
theorem dX4_copy_0 : decode cX4_copy 0 = .ok (.iload_n 1, 1) := by decide +kernel
theorem dX4_copy_1 : decode cX4_copy 1 = .ok (.invokestatic 210, 3) := by decide +kernel
theorem dX4_copy_4 : decode cX4_copy 4 = .ok (.ifCond .eq 10, 3) := by decide +kernel
theorem dX4_copy_7 : decode cX4_copy 7 = .ok (.iload_n 3, 1) := by decide +kernel
theorem dX4_copy_8 : decode cX4_copy 8 = .ok (.invokestatic 210, 3) := by decide +kernel
theorem dX4_copy_11 : decode cX4_copy 11 = .ok (.ifCond .ne 9, 3) := by decide +kernel
theorem dX4_copy_14 : decode cX4_copy 14 = .ok (.aload_n 0, 1) := by decide +kernel
theorem dX4_copy_15 : decode cX4_copy 15 = .ok (.iconst (-1), 1) := by decide +kernel
theorem dX4_copy_16 : decode cX4_copy 16 = .ok (.invokevirtual 46, 3) := by decide +kernel
theorem dX4_copy_19 : decode cX4_copy 19 = .ok (.ireturn, 1) := by decide +kernel
theorem dX4_copy_20 : decode cX4_copy 20 = .ok (.aload_n 0, 1) := by decide +kernel
theorem dX4_copy_21 : decode cX4_copy 21 = .ok (.getfield 13, 3) := by decide +kernel
theorem dX4_copy_24 : decode cX4_copy 24 = .ok (.iload_n 1, 1) := by decide +kernel
theorem dX4_copy_25 : decode cX4_copy 25 = .ok (.aaload, 1) := by decide +kernel
theorem dX4_copy_26 : decode cX4_copy 26 = .ok (.astore 6, 2) := by decide +kernel
theorem dX4_copy_28 : decode cX4_copy 28 = .ok (.aload_n 0, 1) := by decide +kernel
theorem dX4_copy_29 : decode cX4_copy 29 = .ok (.getfield 13, 3) := by decide +kernel
theorem dX4_copy_32 : decode cX4_copy 32 = .ok (.iload_n 3, 1) := by decide +kernel
theorem dX4_copy_33 : decode cX4_copy 33 = .ok (.aaload, 1) := by decide +kernel
theorem dX4_copy_34 : decode cX4_copy 34 = .ok (.astore 7, 2) := by decide +kernel
theorem dX4_copy_36 : decode cX4_copy 36 = .ok (.aload 6, 2) := by decide +kernel
theorem dX4_copy_38 : decode cX4_copy 38 = .ok (.invokevirtual 213, 3) := by decide +kernel
theorem dX4_copy_41 : decode cX4_copy 41 = .ok (.ifCond .eq 11, 3) := by decide +kernel
theorem dX4_copy_44 : decode cX4_copy 44 = .ok (.aload 7, 2) := by decide +kernel
theorem dX4_copy_46 : decode cX4_copy 46 = .ok (.invokevirtual 213, 3) := by decide +kernel
theorem dX4_copy_49 : decode cX4_copy 49 = .ok (.ifCond .ne 9, 3) := by decide +kernel
theorem dX4_copy_52 : decode cX4_copy 52 = .ok (.aload_n 0, 1) := by decide +kernel
theorem dX4_copy_53 : decode cX4_copy 53 = .ok (.iconst 1, 1) := by decide +kernel
theorem dX4_copy_54 : decode cX4_copy 54 = .ok (.invokevirtual 57, 3) := by decide +kernel
theorem dX4_copy_57 : decode cX4_copy 57 = .ok (.ireturn, 1) := by decide +kernel
theorem dX4_copy_58 : decode cX4_copy 58 = .ok (.aload 6, 2) := by decide +kernel
theorem dX4_copy_60 : decode cX4_copy 60 = .ok (.getfield 228, 3) := by decide +kernel
theorem dX4_copy_63 : decode cX4_copy 63 = .ok (.aload 7, 2) := by decide +kernel
theorem dX4_copy_65 : decode cX4_copy 65 = .ok (.getfield 228, 3) := by decide +kernel
theorem dX4_copy_68 : decode cX4_copy 68 = .ok (.if_icmp .eq 9, 3) := by decide +kernel
theorem dX4_copy_71 : decode cX4_copy 71 = .ok (.aload_n 0, 1) := by decide +kernel
theorem dX4_copy_72 : decode cX4_copy 72 = .ok (.iconst 2, 1) := by decide +kernel
theorem dX4_copy_73 : decode cX4_copy 73 = .ok (.invokevirtual 57, 3) := by decide +kernel
theorem dX4_copy_76 : decode cX4_copy 76 = .ok (.ireturn, 1) := by decide +kernel
theorem dX4_copy_77 : decode cX4_copy 77 = .ok (.aload 6, 2) := by decide +kernel
theorem dX4_copy_79 : decode cX4_copy 79 = .ok (.iload_n 2, 1) := by decide +kernel
theorem dX4_copy_80 : decode cX4_copy 80 = .ok (.iload 5, 2) := by decide +kernel
theorem dX4_copy_82 : decode cX4_copy 82 = .ok (.invokevirtual 53, 3) := by decide +kernel
theorem dX4_copy_85 : decode cX4_copy 85 = .ok (.ifCond .eq 15, 3) := by decide +kernel
theorem dX4_copy_88 : decode cX4_copy 88 = .ok (.aload 7, 2) := by decide +kernel
theorem dX4_copy_90 : decode cX4_copy 90 = .ok (.iload 4, 2) := by decide +kernel
theorem dX4_copy_92 : decode cX4_copy 92 = .ok (.iload 5, 2) := by decide +kernel
theorem dX4_copy_94 : decode cX4_copy 94 = .ok (.invokevirtual 53, 3) := by decide +kernel
theorem dX4_copy_97 : decode cX4_copy 97 = .ok (.ifCond .ne 9, 3) := by decide +kernel
theorem dX4_copy_100 : decode cX4_copy 100 = .ok (.aload_n 0, 1) := by decide +kernel
theorem dX4_copy_101 : decode cX4_copy 101 = .ok (.iconst 3, 1) := by decide +kernel
theorem dX4_copy_102 : decode cX4_copy 102 = .ok (.invokevirtual 57, 3) := by decide +kernel
theorem dX4_copy_105 : decode cX4_copy 105 = .ok (.ireturn, 1) := by decide +kernel
theorem dX4_copy_106 : decode cX4_copy 106 = .ok (.aload_n 0, 1) := by decide +kernel
theorem dX4_copy_107 : decode cX4_copy 107 = .ok (.iconst 0, 1) := by decide +kernel
theorem dX4_copy_108 : decode cX4_copy 108 = .ok (.putfield 60, 3) := by decide +kernel
theorem dX4_copy_111 : decode cX4_copy 111 = .ok (.aload 6, 2) := by decide +kernel
theorem dX4_copy_113 : decode cX4_copy 113 = .ok (.getfield 222, 3) := by decide +kernel
theorem dX4_copy_116 : decode cX4_copy 116 = .ok (.iload_n 2, 1) := by decide +kernel
theorem dX4_copy_117 : decode cX4_copy 117 = .ok (.aload 7, 2) := by decide +kernel
theorem dX4_copy_119 : decode cX4_copy 119 = .ok (.getfield 222, 3) := by decide +kernel
theorem dX4_copy_122 : decode cX4_copy 122 = .ok (.iload 4, 2) := by decide +kernel
theorem dX4_copy_124 : decode cX4_copy 124 = .ok (.iload 5, 2) := by decide +kernel
theorem dX4_copy_126 : decode cX4_copy 126 = .ok (.invokestatic 231, 3) := by decide +kernel
theorem dX4_copy_129 : decode cX4_copy 129 = .ok (.iload 5, 2) := by decide +kernel
theorem dX4_copy_131 : decode cX4_copy 131 = .ok (.ireturn, 1) := by decide +kernel
theorem dX4_tell_0 : decode cX4_tell 0 = .ok (.aload_n 0, 1) := by decide +kernel
theorem dX4_tell_1 : decode cX4_tell 1 = .ok (.getfield 35, 3) := by decide +kernel
theorem dX4_tell_4 : decode cX4_tell 4 = .ok (.iload_n 1, 1) := by decide +kernel
theorem dX4_tell_5 : decode cX4_tell 5 = .ok (.invokevirtual 86, 3) := by decide +kernel
theorem dX4_tell_8 : decode cX4_tell 8 = .ok (.ifCond .ne 5, 3) := by decide +kernel
theorem dX4_tell_11 : decode cX4_tell 11 = .ok (.iconst (-1), 1) := by decide +kernel
theorem dX4_tell_12 : decode cX4_tell 12 = .ok (.ireturn, 1) := by decide +kernel
theorem dX4_tell_13 : decode cX4_tell 13 = .ok (.aload_n 0, 1) := by decide +kernel
theorem dX4_tell_14 : decode cX4_tell 14 = .ok (.getfield 35, 3) := by decide +kernel
theorem dX4_tell_17 : decode cX4_tell 17 = .ok (.getfield 92, 3) := by decide +kernel
theorem dX4_tell_20 : decode cX4_tell 20 = .ok (.iload_n 1, 1) := by decide +kernel
theorem dX4_tell_21 : decode cX4_tell 21 = .ok (.iaload, 1) := by decide +kernel
theorem dX4_tell_22 : decode cX4_tell 22 = .ok (.istore_n 2, 1) := by decide +kernel
theorem dX4_tell_23 : decode cX4_tell 23 = .ok (.aload_n 0, 1) := by decide +kernel
theorem dX4_tell_24 : decode cX4_tell 24 = .ok (.getfield 35, 3) := by decide +kernel
theorem dX4_tell_27 : decode cX4_tell 27 = .ok (.getfield 89, 3) := by decide +kernel
theorem dX4_tell_30 : decode cX4_tell 30 = .ok (.iload_n 1, 1) := by decide +kernel
theorem dX4_tell_31 : decode cX4_tell 31 = .ok (.iaload, 1) := by decide +kernel
theorem dX4_tell_32 : decode cX4_tell 32 = .ok (.lookupswitch 40 #[(1, 34), (2, 28)], 28) := by decide +kernel
theorem dX4_tell_60 : decode cX4_tell 60 = .ok (.aload_n 0, 1) := by decide +kernel
theorem dX4_tell_61 : decode cX4_tell 61 = .ok (.iload_n 2, 1) := by decide +kernel
theorem dX4_tell_62 : decode cX4_tell 62 = .ok (.invokevirtual 237, 3) := by decide +kernel
theorem dX4_tell_65 : decode cX4_tell 65 = .ok (.ireturn, 1) := by decide +kernel
theorem dX4_tell_66 : decode cX4_tell 66 = .ok (.aload_n 0, 1) := by decide +kernel
theorem dX4_tell_67 : decode cX4_tell 67 = .ok (.iload_n 2, 1) := by decide +kernel
theorem dX4_tell_68 : decode cX4_tell 68 = .ok (.invokevirtual 240, 3) := by decide +kernel
theorem dX4_tell_71 : decode cX4_tell 71 = .ok (.ireturn, 1) := by decide +kernel
theorem dX4_tell_72 : decode cX4_tell 72 = .ok (.aload_n 0, 1) := by decide +kernel
theorem dX4_tell_73 : decode cX4_tell 73 = .ok (.iload_n 2, 1) := by decide +kernel
theorem dX4_tell_74 : decode cX4_tell 74 = .ok (.invokevirtual 243, 3) := by decide +kernel
theorem dX4_tell_77 : decode cX4_tell 77 = .ok (.ireturn, 1) := by decide +kernel
theorem dX4_hush_0 : decode cX4_hush 0 = .ok (.aload_n 0, 1) := by decide +kernel
theorem dX4_hush_1 : decode cX4_hush 1 = .ok (.getfield 35, 3) := by decide +kernel
theorem dX4_hush_4 : decode cX4_hush 4 = .ok (.iload_n 1, 1) := by decide +kernel
theorem dX4_hush_5 : decode cX4_hush 5 = .ok (.invokevirtual 86, 3) := by decide +kernel
theorem dX4_hush_8 : decode cX4_hush 8 = .ok (.ifCond .ne 5, 3) := by decide +kernel
theorem dX4_hush_11 : decode cX4_hush 11 = .ok (.iconst (-1), 1) := by decide +kernel
theorem dX4_hush_12 : decode cX4_hush 12 = .ok (.ireturn, 1) := by decide +kernel
theorem dX4_hush_13 : decode cX4_hush 13 = .ok (.aload_n 0, 1) := by decide +kernel
theorem dX4_hush_14 : decode cX4_hush 14 = .ok (.getfield 35, 3) := by decide +kernel
theorem dX4_hush_17 : decode cX4_hush 17 = .ok (.getfield 89, 3) := by decide +kernel
theorem dX4_hush_20 : decode cX4_hush 20 = .ok (.iload_n 1, 1) := by decide +kernel
theorem dX4_hush_21 : decode cX4_hush 21 = .ok (.iaload, 1) := by decide +kernel
theorem dX4_hush_22 : decode cX4_hush 22 = .ok (.iconst 2, 1) := by decide +kernel
theorem dX4_hush_23 : decode cX4_hush 23 = .ok (.if_icmp .ne 11, 3) := by decide +kernel
theorem dX4_hush_26 : decode cX4_hush 26 = .ok (.aload_n 0, 1) := by decide +kernel
theorem dX4_hush_27 : decode cX4_hush 27 = .ok (.iconst 5, 1) := by decide +kernel
theorem dX4_hush_28 : decode cX4_hush 28 = .ok (.invokevirtual 246, 3) := by decide +kernel
theorem dX4_hush_31 : decode cX4_hush 31 = .ok (.bipush 80, 2) := by decide +kernel
theorem dX4_hush_33 : decode cX4_hush 33 = .ok (.ireturn, 1) := by decide +kernel
theorem dX4_hush_34 : decode cX4_hush 34 = .ok (.aload_n 0, 1) := by decide +kernel
theorem dX4_hush_35 : decode cX4_hush 35 = .ok (.iconst 4, 1) := by decide +kernel
theorem dX4_hush_36 : decode cX4_hush 36 = .ok (.invokevirtual 246, 3) := by decide +kernel
theorem dX4_hush_39 : decode cX4_hush 39 = .ok (.iload_n 1, 1) := by decide +kernel
theorem dX4_hush_40 : decode cX4_hush 40 = .ok (.ireturn, 1) := by decide +kernel
theorem dX4_as_0 : decode cX4_as 0 = .ok (.aload_n 0, 1) := by decide +kernel
theorem dX4_as_1 : decode cX4_as 1 = .ok (.getfield 35, 3) := by decide +kernel
theorem dX4_as_4 : decode cX4_as 4 = .ok (.iload_n 1, 1) := by decide +kernel
theorem dX4_as_5 : decode cX4_as 5 = .ok (.invokevirtual 86, 3) := by decide +kernel
theorem dX4_as_8 : decode cX4_as 8 = .ok (.ifCond .ne 9, 3) := by decide +kernel
theorem dX4_as_11 : decode cX4_as 11 = .ok (.aload_n 0, 1) := by decide +kernel
theorem dX4_as_12 : decode cX4_as 12 = .ok (.iconst (-1), 1) := by decide +kernel
theorem dX4_as_13 : decode cX4_as 13 = .ok (.invokevirtual 46, 3) := by decide +kernel
theorem dX4_as_16 : decode cX4_as 16 = .ok (.ireturn, 1) := by decide +kernel
theorem dX4_as_17 : decode cX4_as 17 = .ok (.iload_n 2, 1) := by decide +kernel
theorem dX4_as_18 : decode cX4_as 18 = .ok (.iconst 0, 1) := by decide +kernel
theorem dX4_as_19 : decode cX4_as 19 = .ok (.iconst 2, 1) := by decide +kernel
theorem dX4_as_20 : decode cX4_as 20 = .ok (.invokestatic 113, 3) := by decide +kernel
theorem dX4_as_23 : decode cX4_as 23 = .ok (.ifCond .ne 10, 3) := by decide +kernel
theorem dX4_as_26 : decode cX4_as 26 = .ok (.aload_n 0, 1) := by decide +kernel
theorem dX4_as_27 : decode cX4_as 27 = .ok (.bipush (-2), 2) := by decide +kernel
theorem dX4_as_29 : decode cX4_as 29 = .ok (.invokevirtual 46, 3) := by decide +kernel
theorem dX4_as_32 : decode cX4_as 32 = .ok (.ireturn, 1) := by decide +kernel
theorem dX4_as_33 : decode cX4_as 33 = .ok (.aload_n 0, 1) := by decide +kernel
theorem dX4_as_34 : decode cX4_as 34 = .ok (.getfield 35, 3) := by decide +kernel
theorem dX4_as_37 : decode cX4_as 37 = .ok (.getfield 89, 3) := by decide +kernel
theorem dX4_as_40 : decode cX4_as 40 = .ok (.iload_n 1, 1) := by decide +kernel
theorem dX4_as_41 : decode cX4_as 41 = .ok (.iaload, 1) := by decide +kernel
theorem dX4_as_42 : decode cX4_as 42 = .ok (.iload_n 2, 1) := by decide +kernel
theorem dX4_as_43 : decode cX4_as 43 = .ok (.if_icmp .ge 9, 3) := by decide +kernel
theorem dX4_as_46 : decode cX4_as 46 = .ok (.aload_n 0, 1) := by decide +kernel
theorem dX4_as_47 : decode cX4_as 47 = .ok (.iconst 2, 1) := by decide +kernel
theorem dX4_as_48 : decode cX4_as 48 = .ok (.invokevirtual 57, 3) := by decide +kernel
theorem dX4_as_51 : decode cX4_as 51 = .ok (.ireturn, 1) := by decide +kernel
theorem dX4_as_52 : decode cX4_as 52 = .ok (.aload_n 0, 1) := by decide +kernel
theorem dX4_as_53 : decode cX4_as 53 = .ok (.iconst 0, 1) := by decide +kernel
theorem dX4_as_54 : decode cX4_as 54 = .ok (.putfield 60, 3) := by decide +kernel
theorem dX4_as_57 : decode cX4_as 57 = .ok (.iconst 1, 1) := by decide +kernel
theorem dX4_as_58 : decode cX4_as 58 = .ok (.ireturn, 1) := by decide +kernel
theorem dX4_trace_0 : decode cX4_trace 0 = .ok (.aload_n 0, 1) := by decide +kernel
theorem dX4_trace_1 : decode cX4_trace 1 = .ok (.getfield 249, 3) := by decide +kernel
theorem dX4_trace_4 : decode cX4_trace 4 = .ok (.ireturn, 1) := by decide +kernel
theorem dX4_fault_0 : decode cX4_fault 0 = .ok (.aload_n 0, 1) := by decide +kernel
theorem dX4_fault_1 : decode cX4_fault 1 = .ok (.getfield 60, 3) := by decide +kernel
theorem dX4_fault_4 : decode cX4_fault 4 = .ok (.ireturn, 1) := by decide +kernel
theorem dX4_many_0 : decode cX4_many 0 = .ok (.iload_n 1, 1) := by decide +kernel
theorem dX4_many_1 : decode cX4_many 1 = .ok (.tableswitch 75 0 4 #[35, 43, 51, 59, 67], 35) := by decide +kernel
theorem dX4_many_36 : decode cX4_many 36 = .ok (.aload_n 0, 1) := by decide +kernel
theorem dX4_many_37 : decode cX4_many 37 = .ok (.getfield 35, 3) := by decide +kernel
theorem dX4_many_40 : decode cX4_many 40 = .ok (.getfield 72, 3) := by decide +kernel
theorem dX4_many_43 : decode cX4_many 43 = .ok (.ireturn, 1) := by decide +kernel
theorem dX4_many_44 : decode cX4_many 44 = .ok (.aload_n 0, 1) := by decide +kernel
theorem dX4_many_45 : decode cX4_many 45 = .ok (.getfield 35, 3) := by decide +kernel
theorem dX4_many_48 : decode cX4_many 48 = .ok (.getfield 179, 3) := by decide +kernel
theorem dX4_many_51 : decode cX4_many 51 = .ok (.ireturn, 1) := by decide +kernel
theorem dX4_many_52 : decode cX4_many 52 = .ok (.aload_n 0, 1) := by decide +kernel
theorem dX4_many_53 : decode cX4_many 53 = .ok (.getfield 35, 3) := by decide +kernel
theorem dX4_many_56 : decode cX4_many 56 = .ok (.getfield 121, 3) := by decide +kernel
theorem dX4_many_59 : decode cX4_many 59 = .ok (.ireturn, 1) := by decide +kernel
theorem dX4_many_60 : decode cX4_many 60 = .ok (.aload_n 0, 1) := by decide +kernel
theorem dX4_many_61 : decode cX4_many 61 = .ok (.getfield 35, 3) := by decide +kernel
theorem dX4_many_64 : decode cX4_many 64 = .ok (.getfield 124, 3) := by decide +kernel
theorem dX4_many_67 : decode cX4_many 67 = .ok (.ireturn, 1) := by decide +kernel
theorem dX4_many_68 : decode cX4_many 68 = .ok (.aload_n 0, 1) := by decide +kernel
theorem dX4_many_69 : decode cX4_many 69 = .ok (.getfield 35, 3) := by decide +kernel
theorem dX4_many_72 : decode cX4_many 72 = .ok (.getfield 192, 3) := by decide +kernel
theorem dX4_many_75 : decode cX4_many 75 = .ok (.ireturn, 1) := by decide +kernel
theorem dX4_many_76 : decode cX4_many 76 = .ok (.bipush (-2), 2) := by decide +kernel
theorem dX4_many_78 : decode cX4_many 78 = .ok (.ireturn, 1) := by decide +kernel
theorem dX4_isWithin_0 : decode cX4_isWithin 0 = .ok (.iload_n 0, 1) := by decide +kernel
theorem dX4_isWithin_1 : decode cX4_isWithin 1 = .ok (.iload_n 1, 1) := by decide +kernel
theorem dX4_isWithin_2 : decode cX4_isWithin 2 = .ok (.if_icmp .lt 12, 3) := by decide +kernel
theorem dX4_isWithin_5 : decode cX4_isWithin 5 = .ok (.iload_n 0, 1) := by decide +kernel
theorem dX4_isWithin_6 : decode cX4_isWithin 6 = .ok (.iload_n 2, 1) := by decide +kernel
theorem dX4_isWithin_7 : decode cX4_isWithin 7 = .ok (.if_icmp .gt 7, 3) := by decide +kernel
theorem dX4_isWithin_10 : decode cX4_isWithin 10 = .ok (.iconst 1, 1) := by decide +kernel
theorem dX4_isWithin_11 : decode cX4_isWithin 11 = .ok (.goto 4, 3) := by decide +kernel
theorem dX4_isWithin_14 : decode cX4_isWithin 14 = .ok (.iconst 0, 1) := by decide +kernel
theorem dX4_isWithin_15 : decode cX4_isWithin 15 = .ok (.ireturn, 1) := by decide +kernel
theorem dX4_isSheet_0 : decode cX4_isSheet 0 = .ok (.iload_n 0, 1) := by decide +kernel
theorem dX4_isSheet_1 : decode cX4_isSheet 1 = .ok (.iconst 0, 1) := by decide +kernel
theorem dX4_isSheet_2 : decode cX4_isSheet 2 = .ok (.iconst 3, 1) := by decide +kernel
theorem dX4_isSheet_3 : decode cX4_isSheet 3 = .ok (.invokestatic 113, 3) := by decide +kernel
theorem dX4_isSheet_6 : decode cX4_isSheet 6 = .ok (.ireturn, 1) := by decide +kernel
theorem dX4_refusalOfRow_0 : decode cX4_refusalOfRow 0 = .ok (.iload_n 0, 1) := by decide +kernel
theorem dX4_refusalOfRow_1 : decode cX4_refusalOfRow 1 = .ok (.invokestatic 210, 3) := by decide +kernel
theorem dX4_refusalOfRow_4 : decode cX4_refusalOfRow 4 = .ok (.ifCond .ne 5, 3) := by decide +kernel
theorem dX4_refusalOfRow_7 : decode cX4_refusalOfRow 7 = .ok (.iconst (-1), 1) := by decide +kernel
theorem dX4_refusalOfRow_8 : decode cX4_refusalOfRow 8 = .ok (.ireturn, 1) := by decide +kernel
theorem dX4_refusalOfRow_9 : decode cX4_refusalOfRow 9 = .ok (.iload_n 1, 1) := by decide +kernel
theorem dX4_refusalOfRow_10 : decode cX4_refusalOfRow 10 = .ok (.iconst 0, 1) := by decide +kernel
theorem dX4_refusalOfRow_11 : decode cX4_refusalOfRow 11 = .ok (.iconst 2, 1) := by decide +kernel
theorem dX4_refusalOfRow_12 : decode cX4_refusalOfRow 12 = .ok (.invokestatic 113, 3) := by decide +kernel
theorem dX4_refusalOfRow_15 : decode cX4_refusalOfRow 15 = .ok (.ifCond .eq 7, 3) := by decide +kernel
theorem dX4_refusalOfRow_18 : decode cX4_refusalOfRow 18 = .ok (.iconst 0, 1) := by decide +kernel
theorem dX4_refusalOfRow_19 : decode cX4_refusalOfRow 19 = .ok (.goto 5, 3) := by decide +kernel
theorem dX4_refusalOfRow_22 : decode cX4_refusalOfRow 22 = .ok (.bipush (-2), 2) := by decide +kernel
theorem dX4_refusalOfRow_24 : decode cX4_refusalOfRow 24 = .ok (.ireturn, 1) := by decide +kernel
theorem dX4_refused_0 : decode cX4_refused 0 = .ok (.aload_n 0, 1) := by decide +kernel
theorem dX4_refused_1 : decode cX4_refused 1 = .ok (.iconst 0, 1) := by decide +kernel
theorem dX4_refused_2 : decode cX4_refused 2 = .ok (.putfield 60, 3) := by decide +kernel
theorem dX4_refused_5 : decode cX4_refused 5 = .ok (.iload_n 1, 1) := by decide +kernel
theorem dX4_refused_6 : decode cX4_refused 6 = .ok (.ireturn, 1) := by decide +kernel
theorem dX4_lostUnfaulted_0 : decode cX4_lostUnfaulted 0 = .ok (.aload_n 0, 1) := by decide +kernel
theorem dX4_lostUnfaulted_1 : decode cX4_lostUnfaulted 1 = .ok (.iconst 0, 1) := by decide +kernel
theorem dX4_lostUnfaulted_2 : decode cX4_lostUnfaulted 2 = .ok (.putfield 60, 3) := by decide +kernel
theorem dX4_lostUnfaulted_5 : decode cX4_lostUnfaulted 5 = .ok (.ldc2_w 136, 3) := by decide +kernel
theorem dX4_lostUnfaulted_8 : decode cX4_lostUnfaulted 8 = .ok (.lreturn, 1) := by decide +kernel
theorem dX4_faulted_0 : decode cX4_faulted 0 = .ok (.aload_n 0, 1) := by decide +kernel
theorem dX4_faulted_1 : decode cX4_faulted 1 = .ok (.iload_n 1, 1) := by decide +kernel
theorem dX4_faulted_2 : decode cX4_faulted 2 = .ok (.putfield 60, 3) := by decide +kernel
theorem dX4_faulted_5 : decode cX4_faulted 5 = .ok (.bipush (-10), 2) := by decide +kernel
theorem dX4_faulted_7 : decode cX4_faulted 7 = .ok (.iload_n 1, 1) := by decide +kernel
theorem dX4_faulted_8 : decode cX4_faulted 8 = .ok (.isub, 1) := by decide +kernel
theorem dX4_faulted_9 : decode cX4_faulted 9 = .ok (.ireturn, 1) := by decide +kernel
theorem dX4_takeWay_0 : decode cX4_takeWay 0 = .ok (.iload_n 1, 1) := by decide +kernel
theorem dX4_takeWay_1 : decode cX4_takeWay 1 = .ok (.iload_n 2, 1) := by decide +kernel
theorem dX4_takeWay_2 : decode cX4_takeWay 2 = .ok (.invokestatic 42, 3) := by decide +kernel
theorem dX4_takeWay_5 : decode cX4_takeWay 5 = .ok (.istore 5, 2) := by decide +kernel
theorem dX4_takeWay_7 : decode cX4_takeWay 7 = .ok (.iload 5, 2) := by decide +kernel
theorem dX4_takeWay_9 : decode cX4_takeWay 9 = .ok (.ifCond .ne 18, 3) := by decide +kernel
theorem dX4_takeWay_12 : decode cX4_takeWay 12 = .ok (.iload 4, 2) := by decide +kernel
theorem dX4_takeWay_14 : decode cX4_takeWay 14 = .ok (.iconst 0, 1) := by decide +kernel
theorem dX4_takeWay_15 : decode cX4_takeWay 15 = .ok (.bipush 8, 2) := by decide +kernel
theorem dX4_takeWay_17 : decode cX4_takeWay 17 = .ok (.invokestatic 113, 3) := by decide +kernel
theorem dX4_takeWay_20 : decode cX4_takeWay 20 = .ok (.ifCond .ne 7, 3) := by decide +kernel
theorem dX4_takeWay_23 : decode cX4_takeWay 23 = .ok (.bipush (-2), 2) := by decide +kernel
theorem dX4_takeWay_25 : decode cX4_takeWay 25 = .ok (.istore 5, 2) := by decide +kernel
theorem dX4_takeWay_27 : decode cX4_takeWay 27 = .ok (.iload 5, 2) := by decide +kernel
theorem dX4_takeWay_29 : decode cX4_takeWay 29 = .ok (.ifCond .ne 17, 3) := by decide +kernel
theorem dX4_takeWay_32 : decode cX4_takeWay 32 = .ok (.aload_n 0, 1) := by decide +kernel
theorem dX4_takeWay_33 : decode cX4_takeWay 33 = .ok (.getfield 35, 3) := by decide +kernel
theorem dX4_takeWay_36 : decode cX4_takeWay 36 = .ok (.invokevirtual 117, 3) := by decide +kernel
theorem dX4_takeWay_39 : decode cX4_takeWay 39 = .ok (.ifCond .eq 7, 3) := by decide +kernel
theorem dX4_takeWay_42 : decode cX4_takeWay 42 = .ok (.bipush (-3), 2) := by decide +kernel
theorem dX4_takeWay_44 : decode cX4_takeWay 44 = .ok (.istore 5, 2) := by decide +kernel
theorem dX4_takeWay_46 : decode cX4_takeWay 46 = .ok (.iload 5, 2) := by decide +kernel
theorem dX4_takeWay_48 : decode cX4_takeWay 48 = .ok (.ifCond .eq 10, 3) := by decide +kernel
theorem dX4_takeWay_51 : decode cX4_takeWay 51 = .ok (.aload_n 0, 1) := by decide +kernel
theorem dX4_takeWay_52 : decode cX4_takeWay 52 = .ok (.iload 5, 2) := by decide +kernel
theorem dX4_takeWay_54 : decode cX4_takeWay 54 = .ok (.invokevirtual 46, 3) := by decide +kernel
theorem dX4_takeWay_57 : decode cX4_takeWay 57 = .ok (.ireturn, 1) := by decide +kernel
theorem dX4_takeWay_58 : decode cX4_takeWay 58 = .ok (.aload_n 0, 1) := by decide +kernel
theorem dX4_takeWay_59 : decode cX4_takeWay 59 = .ok (.getfield 13, 3) := by decide +kernel
theorem dX4_takeWay_62 : decode cX4_takeWay 62 = .ok (.iload_n 1, 1) := by decide +kernel
theorem dX4_takeWay_63 : decode cX4_takeWay 63 = .ok (.aaload, 1) := by decide +kernel
theorem dX4_takeWay_64 : decode cX4_takeWay 64 = .ok (.astore 6, 2) := by decide +kernel
theorem dX4_takeWay_66 : decode cX4_takeWay 66 = .ok (.aload 6, 2) := by decide +kernel
theorem dX4_takeWay_68 : decode cX4_takeWay 68 = .ok (.iload_n 2, 1) := by decide +kernel
theorem dX4_takeWay_69 : decode cX4_takeWay 69 = .ok (.invokevirtual 50, 3) := by decide +kernel
theorem dX4_takeWay_72 : decode cX4_takeWay 72 = .ok (.istore 7, 2) := by decide +kernel
theorem dX4_takeWay_74 : decode cX4_takeWay 74 = .ok (.iload 7, 2) := by decide +kernel
theorem dX4_takeWay_76 : decode cX4_takeWay 76 = .ok (.ifCond .ne 17, 3) := by decide +kernel
theorem dX4_takeWay_79 : decode cX4_takeWay 79 = .ok (.aload 6, 2) := by decide +kernel
theorem dX4_takeWay_81 : decode cX4_takeWay 81 = .ok (.iload_n 3, 1) := by decide +kernel
theorem dX4_takeWay_82 : decode cX4_takeWay 82 = .ok (.iload 4, 2) := by decide +kernel
theorem dX4_takeWay_84 : decode cX4_takeWay 84 = .ok (.invokevirtual 53, 3) := by decide +kernel
theorem dX4_takeWay_87 : decode cX4_takeWay 87 = .ok (.ifCond .ne 6, 3) := by decide +kernel
theorem dX4_takeWay_90 : decode cX4_takeWay 90 = .ok (.iconst 3, 1) := by decide +kernel
theorem dX4_takeWay_91 : decode cX4_takeWay 91 = .ok (.istore 7, 2) := by decide +kernel
theorem dX4_takeWay_93 : decode cX4_takeWay 93 = .ok (.iload 7, 2) := by decide +kernel
theorem dX4_takeWay_95 : decode cX4_takeWay 95 = .ok (.ifCond .eq 10, 3) := by decide +kernel
theorem dX4_takeWay_98 : decode cX4_takeWay 98 = .ok (.aload_n 0, 1) := by decide +kernel
theorem dX4_takeWay_99 : decode cX4_takeWay 99 = .ok (.iload 7, 2) := by decide +kernel
theorem dX4_takeWay_101 : decode cX4_takeWay 101 = .ok (.invokevirtual 57, 3) := by decide +kernel
theorem dX4_takeWay_104 : decode cX4_takeWay 104 = .ok (.ireturn, 1) := by decide +kernel
theorem dX4_takeWay_105 : decode cX4_takeWay 105 = .ok (.aload_n 0, 1) := by decide +kernel
theorem dX4_takeWay_106 : decode cX4_takeWay 106 = .ok (.iconst 0, 1) := by decide +kernel
theorem dX4_takeWay_107 : decode cX4_takeWay 107 = .ok (.putfield 60, 3) := by decide +kernel
theorem dX4_takeWay_110 : decode cX4_takeWay 110 = .ok (.aload_n 0, 1) := by decide +kernel
theorem dX4_takeWay_111 : decode cX4_takeWay 111 = .ok (.getfield 28, 3) := by decide +kernel
theorem dX4_takeWay_114 : decode cX4_takeWay 114 = .ok (.invokevirtual 182, 3) := by decide +kernel
theorem dX4_takeWay_117 : decode cX4_takeWay 117 = .ok (.iload_n 3, 1) := by decide +kernel
theorem dX4_takeWay_118 : decode cX4_takeWay 118 = .ok (.istore 8, 2) := by decide +kernel
theorem dX4_takeWay_120 : decode cX4_takeWay 120 = .ok (.iload 8, 2) := by decide +kernel
theorem dX4_takeWay_122 : decode cX4_takeWay 122 = .ok (.iload_n 3, 1) := by decide +kernel
theorem dX4_takeWay_123 : decode cX4_takeWay 123 = .ok (.iload 4, 2) := by decide +kernel
theorem dX4_takeWay_125 : decode cX4_takeWay 125 = .ok (.iadd, 1) := by decide +kernel
theorem dX4_takeWay_126 : decode cX4_takeWay 126 = .ok (.if_icmp .ge 44, 3) := by decide +kernel
theorem dX4_takeWay_129 : decode cX4_takeWay 129 = .ok (.aload_n 0, 1) := by decide +kernel
theorem dX4_takeWay_130 : decode cX4_takeWay 130 = .ok (.getfield 35, 3) := by decide +kernel
theorem dX4_takeWay_133 : decode cX4_takeWay 133 = .ok (.aload 6, 2) := by decide +kernel
theorem dX4_takeWay_135 : decode cX4_takeWay 135 = .ok (.getfield 222, 3) := by decide +kernel
theorem dX4_takeWay_138 : decode cX4_takeWay 138 = .ok (.iload 8, 2) := by decide +kernel
theorem dX4_takeWay_140 : decode cX4_takeWay 140 = .ok (.iaload, 1) := by decide +kernel
theorem dX4_takeWay_141 : decode cX4_takeWay 141 = .ok (.invokevirtual 75, 3) := by decide +kernel
theorem dX4_takeWay_144 : decode cX4_takeWay 144 = .ok (.ifCond .ne 5, 3) := by decide +kernel
theorem dX4_takeWay_147 : decode cX4_takeWay 147 = .ok (.iconst (-1), 1) := by decide +kernel
theorem dX4_takeWay_148 : decode cX4_takeWay 148 = .ok (.ireturn, 1) := by decide +kernel
theorem dX4_takeWay_149 : decode cX4_takeWay 149 = .ok (.aload_n 0, 1) := by decide +kernel
theorem dX4_takeWay_150 : decode cX4_takeWay 150 = .ok (.getfield 28, 3) := by decide +kernel
theorem dX4_takeWay_153 : decode cX4_takeWay 153 = .ok (.aload 6, 2) := by decide +kernel
theorem dX4_takeWay_155 : decode cX4_takeWay 155 = .ok (.getfield 222, 3) := by decide +kernel
theorem dX4_takeWay_158 : decode cX4_takeWay 158 = .ok (.iload 8, 2) := by decide +kernel
theorem dX4_takeWay_160 : decode cX4_takeWay 160 = .ok (.iaload, 1) := by decide +kernel
theorem dX4_takeWay_161 : decode cX4_takeWay 161 = .ok (.invokevirtual 185, 3) := by decide +kernel
theorem dX4_takeWay_164 : decode cX4_takeWay 164 = .ok (.iinc 8 1, 3) := by decide +kernel
theorem dX4_takeWay_167 : decode cX4_takeWay 167 = .ok (.goto (-47), 3) := by decide +kernel
theorem dX4_takeWay_170 : decode cX4_takeWay 170 = .ok (.iconst 0, 1) := by decide +kernel
theorem dX4_takeWay_171 : decode cX4_takeWay 171 = .ok (.ireturn, 1) := by decide +kernel
theorem dX4_cheapestDeclared_0 : decode cX4_cheapestDeclared 0 = .ok (.aload_n 0, 1) := by decide +kernel
theorem dX4_cheapestDeclared_1 : decode cX4_cheapestDeclared 1 = .ok (.getfield 35, 3) := by decide +kernel
theorem dX4_cheapestDeclared_4 : decode cX4_cheapestDeclared 4 = .ok (.getfield 127, 3) := by decide +kernel
theorem dX4_cheapestDeclared_7 : decode cX4_cheapestDeclared 7 = .ok (.istore_n 1, 1) := by decide +kernel
theorem dX4_cheapestDeclared_8 : decode cX4_cheapestDeclared 8 = .ok (.iconst 0, 1) := by decide +kernel
theorem dX4_cheapestDeclared_9 : decode cX4_cheapestDeclared 9 = .ok (.istore_n 2, 1) := by decide +kernel
theorem dX4_cheapestDeclared_10 : decode cX4_cheapestDeclared 10 = .ok (.ldc2_w 177, 3) := by decide +kernel
theorem dX4_cheapestDeclared_13 : decode cX4_cheapestDeclared 13 = .ok (.lstore_n 3, 1) := by decide +kernel
theorem dX4_cheapestDeclared_14 : decode cX4_cheapestDeclared 14 = .ok (.aload_n 0, 1) := by decide +kernel
theorem dX4_cheapestDeclared_15 : decode cX4_cheapestDeclared 15 = .ok (.getfield 35, 3) := by decide +kernel
theorem dX4_cheapestDeclared_18 : decode cX4_cheapestDeclared 18 = .ok (.invokevirtual 201, 3) := by decide +kernel
theorem dX4_cheapestDeclared_21 : decode cX4_cheapestDeclared 21 = .ok (.istore 5, 2) := by decide +kernel
theorem dX4_cheapestDeclared_23 : decode cX4_cheapestDeclared 23 = .ok (.iconst 0, 1) := by decide +kernel
theorem dX4_cheapestDeclared_24 : decode cX4_cheapestDeclared 24 = .ok (.istore 6, 2) := by decide +kernel
theorem dX4_cheapestDeclared_26 : decode cX4_cheapestDeclared 26 = .ok (.iload 6, 2) := by decide +kernel
theorem dX4_cheapestDeclared_28 : decode cX4_cheapestDeclared 28 = .ok (.iload 5, 2) := by decide +kernel
theorem dX4_cheapestDeclared_30 : decode cX4_cheapestDeclared 30 = .ok (.if_icmp .gt 44, 3) := by decide +kernel
theorem dX4_cheapestDeclared_33 : decode cX4_cheapestDeclared 33 = .ok (.aload_n 0, 1) := by decide +kernel
theorem dX4_cheapestDeclared_34 : decode cX4_cheapestDeclared 34 = .ok (.getfield 35, 3) := by decide +kernel
theorem dX4_cheapestDeclared_37 : decode cX4_cheapestDeclared 37 = .ok (.iload 6, 2) := by decide +kernel
theorem dX4_cheapestDeclared_39 : decode cX4_cheapestDeclared 39 = .ok (.putfield 127, 3) := by decide +kernel
theorem dX4_cheapestDeclared_42 : decode cX4_cheapestDeclared 42 = .ok (.aload_n 0, 1) := by decide +kernel
theorem dX4_cheapestDeclared_43 : decode cX4_cheapestDeclared 43 = .ok (.getfield 28, 3) := by decide +kernel
theorem dX4_cheapestDeclared_46 : decode cX4_cheapestDeclared 46 = .ok (.aload_n 0, 1) := by decide +kernel
theorem dX4_cheapestDeclared_47 : decode cX4_cheapestDeclared 47 = .ok (.getfield 35, 3) := by decide +kernel
theorem dX4_cheapestDeclared_50 : decode cX4_cheapestDeclared 50 = .ok (.invokevirtual 155, 3) := by decide +kernel
theorem dX4_cheapestDeclared_53 : decode cX4_cheapestDeclared 53 = .ok (.lstore 7, 2) := by decide +kernel
theorem dX4_cheapestDeclared_55 : decode cX4_cheapestDeclared 55 = .ok (.lload 7, 2) := by decide +kernel
theorem dX4_cheapestDeclared_57 : decode cX4_cheapestDeclared 57 = .ok (.lload_n 3, 1) := by decide +kernel
theorem dX4_cheapestDeclared_58 : decode cX4_cheapestDeclared 58 = .ok (.lcmp, 1) := by decide +kernel
theorem dX4_cheapestDeclared_59 : decode cX4_cheapestDeclared 59 = .ok (.ifCond .ge 9, 3) := by decide +kernel
theorem dX4_cheapestDeclared_62 : decode cX4_cheapestDeclared 62 = .ok (.lload 7, 2) := by decide +kernel
theorem dX4_cheapestDeclared_64 : decode cX4_cheapestDeclared 64 = .ok (.lstore_n 3, 1) := by decide +kernel
theorem dX4_cheapestDeclared_65 : decode cX4_cheapestDeclared 65 = .ok (.iload 6, 2) := by decide +kernel
theorem dX4_cheapestDeclared_67 : decode cX4_cheapestDeclared 67 = .ok (.istore_n 2, 1) := by decide +kernel
theorem dX4_cheapestDeclared_68 : decode cX4_cheapestDeclared 68 = .ok (.iinc 6 1, 3) := by decide +kernel
theorem dX4_cheapestDeclared_71 : decode cX4_cheapestDeclared 71 = .ok (.goto (-45), 3) := by decide +kernel
theorem dX4_cheapestDeclared_74 : decode cX4_cheapestDeclared 74 = .ok (.aload_n 0, 1) := by decide +kernel
theorem dX4_cheapestDeclared_75 : decode cX4_cheapestDeclared 75 = .ok (.getfield 35, 3) := by decide +kernel
theorem dX4_cheapestDeclared_78 : decode cX4_cheapestDeclared 78 = .ok (.iload_n 1, 1) := by decide +kernel
theorem dX4_cheapestDeclared_79 : decode cX4_cheapestDeclared 79 = .ok (.putfield 127, 3) := by decide +kernel
theorem dX4_cheapestDeclared_82 : decode cX4_cheapestDeclared 82 = .ok (.iload_n 2, 1) := by decide +kernel
theorem dX4_cheapestDeclared_83 : decode cX4_cheapestDeclared 83 = .ok (.ireturn, 1) := by decide +kernel
theorem dX4_cheapestCarrierRow_0 : decode cX4_cheapestCarrierRow 0 = .ok (.aload_n 0, 1) := by decide +kernel
theorem dX4_cheapestCarrierRow_1 : decode cX4_cheapestCarrierRow 1 = .ok (.getfield 35, 3) := by decide +kernel
theorem dX4_cheapestCarrierRow_4 : decode cX4_cheapestCarrierRow 4 = .ok (.invokevirtual 164, 3) := by decide +kernel
theorem dX4_cheapestCarrierRow_7 : decode cX4_cheapestCarrierRow 7 = .ok (.istore_n 1, 1) := by decide +kernel
theorem dX4_cheapestCarrierRow_8 : decode cX4_cheapestCarrierRow 8 = .ok (.iconst 0, 1) := by decide +kernel
theorem dX4_cheapestCarrierRow_9 : decode cX4_cheapestCarrierRow 9 = .ok (.istore_n 2, 1) := by decide +kernel
theorem dX4_cheapestCarrierRow_10 : decode cX4_cheapestCarrierRow 10 = .ok (.ldc 254, 2) := by decide +kernel
theorem dX4_cheapestCarrierRow_12 : decode cX4_cheapestCarrierRow 12 = .ok (.istore_n 3, 1) := by decide +kernel
theorem dX4_cheapestCarrierRow_13 : decode cX4_cheapestCarrierRow 13 = .ok (.aload_n 0, 1) := by decide +kernel
theorem dX4_cheapestCarrierRow_14 : decode cX4_cheapestCarrierRow 14 = .ok (.getfield 35, 3) := by decide +kernel
theorem dX4_cheapestCarrierRow_17 : decode cX4_cheapestCarrierRow 17 = .ok (.invokevirtual 255, 3) := by decide +kernel
theorem dX4_cheapestCarrierRow_20 : decode cX4_cheapestCarrierRow 20 = .ok (.istore 4, 2) := by decide +kernel
theorem dX4_cheapestCarrierRow_22 : decode cX4_cheapestCarrierRow 22 = .ok (.iconst 0, 1) := by decide +kernel
theorem dX4_cheapestCarrierRow_23 : decode cX4_cheapestCarrierRow 23 = .ok (.istore 5, 2) := by decide +kernel
theorem dX4_cheapestCarrierRow_25 : decode cX4_cheapestCarrierRow 25 = .ok (.iload 5, 2) := by decide +kernel
theorem dX4_cheapestCarrierRow_27 : decode cX4_cheapestCarrierRow 27 = .ok (.iload 4, 2) := by decide +kernel
theorem dX4_cheapestCarrierRow_29 : decode cX4_cheapestCarrierRow 29 = .ok (.if_icmp .ge 39, 3) := by decide +kernel
theorem dX4_cheapestCarrierRow_32 : decode cX4_cheapestCarrierRow 32 = .ok (.aload_n 0, 1) := by decide +kernel
theorem dX4_cheapestCarrierRow_33 : decode cX4_cheapestCarrierRow 33 = .ok (.getfield 35, 3) := by decide +kernel
theorem dX4_cheapestCarrierRow_36 : decode cX4_cheapestCarrierRow 36 = .ok (.iload 5, 2) := by decide +kernel
theorem dX4_cheapestCarrierRow_38 : decode cX4_cheapestCarrierRow 38 = .ok (.invokevirtual 170, 3) := by decide +kernel
theorem dX4_cheapestCarrierRow_41 : decode cX4_cheapestCarrierRow 41 = .ok (.aload_n 0, 1) := by decide +kernel
theorem dX4_cheapestCarrierRow_42 : decode cX4_cheapestCarrierRow 42 = .ok (.getfield 35, 3) := by decide +kernel
theorem dX4_cheapestCarrierRow_45 : decode cX4_cheapestCarrierRow 45 = .ok (.invokevirtual 174, 3) := by decide +kernel
theorem dX4_cheapestCarrierRow_48 : decode cX4_cheapestCarrierRow 48 = .ok (.istore 6, 2) := by decide +kernel
theorem dX4_cheapestCarrierRow_50 : decode cX4_cheapestCarrierRow 50 = .ok (.iload 6, 2) := by decide +kernel
theorem dX4_cheapestCarrierRow_52 : decode cX4_cheapestCarrierRow 52 = .ok (.iload_n 3, 1) := by decide +kernel
theorem dX4_cheapestCarrierRow_53 : decode cX4_cheapestCarrierRow 53 = .ok (.if_icmp .ge 9, 3) := by decide +kernel
theorem dX4_cheapestCarrierRow_56 : decode cX4_cheapestCarrierRow 56 = .ok (.iload 6, 2) := by decide +kernel
theorem dX4_cheapestCarrierRow_58 : decode cX4_cheapestCarrierRow 58 = .ok (.istore_n 3, 1) := by decide +kernel
theorem dX4_cheapestCarrierRow_59 : decode cX4_cheapestCarrierRow 59 = .ok (.iload 5, 2) := by decide +kernel
theorem dX4_cheapestCarrierRow_61 : decode cX4_cheapestCarrierRow 61 = .ok (.istore_n 2, 1) := by decide +kernel
theorem dX4_cheapestCarrierRow_62 : decode cX4_cheapestCarrierRow 62 = .ok (.iinc 5 1, 3) := by decide +kernel
theorem dX4_cheapestCarrierRow_65 : decode cX4_cheapestCarrierRow 65 = .ok (.goto (-40), 3) := by decide +kernel
theorem dX4_cheapestCarrierRow_68 : decode cX4_cheapestCarrierRow 68 = .ok (.aload_n 0, 1) := by decide +kernel
theorem dX4_cheapestCarrierRow_69 : decode cX4_cheapestCarrierRow 69 = .ok (.getfield 35, 3) := by decide +kernel
theorem dX4_cheapestCarrierRow_72 : decode cX4_cheapestCarrierRow 72 = .ok (.iload_n 1, 1) := by decide +kernel
theorem dX4_cheapestCarrierRow_73 : decode cX4_cheapestCarrierRow 73 = .ok (.invokevirtual 170, 3) := by decide +kernel
theorem dX4_cheapestCarrierRow_76 : decode cX4_cheapestCarrierRow 76 = .ok (.iload_n 2, 1) := by decide +kernel
theorem dX4_cheapestCarrierRow_77 : decode cX4_cheapestCarrierRow 77 = .ok (.ireturn, 1) := by decide +kernel
theorem dX4_leastTerms_0 : decode cX4_leastTerms 0 = .ok (.lload_n 0, 1) := by decide +kernel
theorem dX4_leastTerms_1 : decode cX4_leastTerms 1 = .ok (.lload_n 2, 1) := by decide +kernel
theorem dX4_leastTerms_2 : decode cX4_leastTerms 2 = .ok (.invokestatic 258, 3) := by decide +kernel
theorem dX4_leastTerms_5 : decode cX4_leastTerms 5 = .ok (.lstore 5, 2) := by decide +kernel
theorem dX4_leastTerms_7 : decode cX4_leastTerms 7 = .ok (.iload 4, 2) := by decide +kernel
theorem dX4_leastTerms_9 : decode cX4_leastTerms 9 = .ok (.ifCond .ne 7, 3) := by decide +kernel
theorem dX4_leastTerms_12 : decode cX4_leastTerms 12 = .ok (.lload_n 0, 1) := by decide +kernel
theorem dX4_leastTerms_13 : decode cX4_leastTerms 13 = .ok (.goto 4, 3) := by decide +kernel
theorem dX4_leastTerms_16 : decode cX4_leastTerms 16 = .ok (.lload_n 2, 1) := by decide +kernel
theorem dX4_leastTerms_17 : decode cX4_leastTerms 17 = .ok (.lstore 7, 2) := by decide +kernel
theorem dX4_leastTerms_19 : decode cX4_leastTerms 19 = .ok (.lload 5, 2) := by decide +kernel
theorem dX4_leastTerms_21 : decode cX4_leastTerms 21 = .ok (.lconst 0, 1) := by decide +kernel
theorem dX4_leastTerms_22 : decode cX4_leastTerms 22 = .ok (.lcmp, 1) := by decide +kernel
theorem dX4_leastTerms_23 : decode cX4_leastTerms 23 = .ok (.ifCond .ne 8, 3) := by decide +kernel
theorem dX4_leastTerms_26 : decode cX4_leastTerms 26 = .ok (.lload 7, 2) := by decide +kernel
theorem dX4_leastTerms_28 : decode cX4_leastTerms 28 = .ok (.goto 8, 3) := by decide +kernel
theorem dX4_leastTerms_31 : decode cX4_leastTerms 31 = .ok (.lload 7, 2) := by decide +kernel
theorem dX4_leastTerms_33 : decode cX4_leastTerms 33 = .ok (.lload 5, 2) := by decide +kernel
theorem dX4_leastTerms_35 : decode cX4_leastTerms 35 = .ok (.ldiv, 1) := by decide +kernel
theorem dX4_leastTerms_36 : decode cX4_leastTerms 36 = .ok (.lreturn, 1) := by decide +kernel
theorem dX4_commonDivisor_0 : decode cX4_commonDivisor 0 = .ok (.lload_n 0, 1) := by decide +kernel
theorem dX4_commonDivisor_1 : decode cX4_commonDivisor 1 = .ok (.lstore 4, 2) := by decide +kernel
theorem dX4_commonDivisor_3 : decode cX4_commonDivisor 3 = .ok (.lload_n 2, 1) := by decide +kernel
theorem dX4_commonDivisor_4 : decode cX4_commonDivisor 4 = .ok (.lstore 6, 2) := by decide +kernel
theorem dX4_commonDivisor_6 : decode cX4_commonDivisor 6 = .ok (.iconst 0, 1) := by decide +kernel
theorem dX4_commonDivisor_7 : decode cX4_commonDivisor 7 = .ok (.istore 8, 2) := by decide +kernel
theorem dX4_commonDivisor_9 : decode cX4_commonDivisor 9 = .ok (.iload 8, 2) := by decide +kernel
theorem dX4_commonDivisor_11 : decode cX4_commonDivisor 11 = .ok (.bipush 100, 2) := by decide +kernel
theorem dX4_commonDivisor_13 : decode cX4_commonDivisor 13 = .ok (.if_icmp .ge 31, 3) := by decide +kernel
theorem dX4_commonDivisor_16 : decode cX4_commonDivisor 16 = .ok (.lload 6, 2) := by decide +kernel
theorem dX4_commonDivisor_18 : decode cX4_commonDivisor 18 = .ok (.lconst 0, 1) := by decide +kernel
theorem dX4_commonDivisor_19 : decode cX4_commonDivisor 19 = .ok (.lcmp, 1) := by decide +kernel
theorem dX4_commonDivisor_20 : decode cX4_commonDivisor 20 = .ok (.ifCond .eq 24, 3) := by decide +kernel
theorem dX4_commonDivisor_23 : decode cX4_commonDivisor 23 = .ok (.lload 4, 2) := by decide +kernel
theorem dX4_commonDivisor_25 : decode cX4_commonDivisor 25 = .ok (.lload 6, 2) := by decide +kernel
theorem dX4_commonDivisor_27 : decode cX4_commonDivisor 27 = .ok (.lrem, 1) := by decide +kernel
theorem dX4_commonDivisor_28 : decode cX4_commonDivisor 28 = .ok (.lstore 9, 2) := by decide +kernel
theorem dX4_commonDivisor_30 : decode cX4_commonDivisor 30 = .ok (.lload 6, 2) := by decide +kernel
theorem dX4_commonDivisor_32 : decode cX4_commonDivisor 32 = .ok (.lstore 4, 2) := by decide +kernel
theorem dX4_commonDivisor_34 : decode cX4_commonDivisor 34 = .ok (.lload 9, 2) := by decide +kernel
theorem dX4_commonDivisor_36 : decode cX4_commonDivisor 36 = .ok (.lstore 6, 2) := by decide +kernel
theorem dX4_commonDivisor_38 : decode cX4_commonDivisor 38 = .ok (.iinc 8 1, 3) := by decide +kernel
theorem dX4_commonDivisor_41 : decode cX4_commonDivisor 41 = .ok (.goto (-32), 3) := by decide +kernel
theorem dX4_commonDivisor_44 : decode cX4_commonDivisor 44 = .ok (.lload 4, 2) := by decide +kernel
theorem dX4_commonDivisor_46 : decode cX4_commonDivisor 46 = .ok (.lreturn, 1) := by decide +kernel
theorem dX4_leave_0 : decode cX4_leave 0 = .ok (.aload_n 0, 1) := by decide +kernel
theorem dX4_leave_1 : decode cX4_leave 1 = .ok (.bipush 31, 2) := by decide +kernel
theorem dX4_leave_3 : decode cX4_leave 3 = .ok (.aload_n 0, 1) := by decide +kernel
theorem dX4_leave_4 : decode cX4_leave 4 = .ok (.getfield 249, 3) := by decide +kernel
theorem dX4_leave_7 : decode cX4_leave 7 = .ok (.imul, 1) := by decide +kernel
theorem dX4_leave_8 : decode cX4_leave 8 = .ok (.iload_n 1, 1) := by decide +kernel
theorem dX4_leave_9 : decode cX4_leave 9 = .ok (.iadd, 1) := by decide +kernel
theorem dX4_leave_10 : decode cX4_leave 10 = .ok (.putfield 249, 3) := by decide +kernel
theorem dX4_leave_13 : decode cX4_leave 13 = .ok (.return_, 1) := by decide +kernel
theorem dX4_silenceTells_0 : decode cX4_silenceTells 0 = .ok (.aload_n 0, 1) := by decide +kernel
theorem dX4_silenceTells_1 : decode cX4_silenceTells 1 = .ok (.iconst 1, 1) := by decide +kernel
theorem dX4_silenceTells_2 : decode cX4_silenceTells 2 = .ok (.invokevirtual 246, 3) := by decide +kernel
theorem dX4_silenceTells_5 : decode cX4_silenceTells 5 = .ok (.iload_n 1, 1) := by decide +kernel
theorem dX4_silenceTells_6 : decode cX4_silenceTells 6 = .ok (.ireturn, 1) := by decide +kernel
theorem dX4_keptTells_0 : decode cX4_keptTells 0 = .ok (.aload_n 0, 1) := by decide +kernel
theorem dX4_keptTells_1 : decode cX4_keptTells 1 = .ok (.iconst 2, 1) := by decide +kernel
theorem dX4_keptTells_2 : decode cX4_keptTells 2 = .ok (.invokevirtual 246, 3) := by decide +kernel
theorem dX4_keptTells_5 : decode cX4_keptTells 5 = .ok (.aload_n 0, 1) := by decide +kernel
theorem dX4_keptTells_6 : decode cX4_keptTells 6 = .ok (.iload_n 1, 1) := by decide +kernel
theorem dX4_keptTells_7 : decode cX4_keptTells 7 = .ok (.invokevirtual 243, 3) := by decide +kernel
theorem dX4_keptTells_10 : decode cX4_keptTells 10 = .ok (.bipush 100, 2) := by decide +kernel
theorem dX4_keptTells_12 : decode cX4_keptTells 12 = .ok (.iadd, 1) := by decide +kernel
theorem dX4_keptTells_13 : decode cX4_keptTells 13 = .ok (.ireturn, 1) := by decide +kernel
theorem dX4_heldTells_0 : decode cX4_heldTells 0 = .ok (.aload_n 0, 1) := by decide +kernel
theorem dX4_heldTells_1 : decode cX4_heldTells 1 = .ok (.iconst 3, 1) := by decide +kernel
theorem dX4_heldTells_2 : decode cX4_heldTells 2 = .ok (.invokevirtual 246, 3) := by decide +kernel
theorem dX4_heldTells_5 : decode cX4_heldTells 5 = .ok (.aload_n 0, 1) := by decide +kernel
theorem dX4_heldTells_6 : decode cX4_heldTells 6 = .ok (.iload_n 1, 1) := by decide +kernel
theorem dX4_heldTells_7 : decode cX4_heldTells 7 = .ok (.invokevirtual 240, 3) := by decide +kernel
theorem dX4_heldTells_10 : decode cX4_heldTells 10 = .ok (.istore_n 2, 1) := by decide +kernel
theorem dX4_heldTells_11 : decode cX4_heldTells 11 = .ok (.iload_n 2, 1) := by decide +kernel
theorem dX4_heldTells_12 : decode cX4_heldTells 12 = .ok (.aload_n 0, 1) := by decide +kernel
theorem dX4_heldTells_13 : decode cX4_heldTells 13 = .ok (.iload_n 1, 1) := by decide +kernel
theorem dX4_heldTells_14 : decode cX4_heldTells 14 = .ok (.invokevirtual 243, 3) := by decide +kernel
theorem dX4_heldTells_17 : decode cX4_heldTells 17 = .ok (.iadd, 1) := by decide +kernel
theorem dX4_heldTells_18 : decode cX4_heldTells 18 = .ok (.ireturn, 1) := by decide +kernel
end
section
theorem dX5_init_0 : decode cX5_init 0 = .ok (.aload_n 0, 1) := by decide +kernel
theorem dX5_init_1 : decode cX5_init 1 = .ok (.invokespecial 1, 3) := by decide +kernel
theorem dX5_init_4 : decode cX5_init 4 = .ok (.aload_n 0, 1) := by decide +kernel
theorem dX5_init_5 : decode cX5_init 5 = .ok (.iconst 4, 1) := by decide +kernel
theorem dX5_init_6 : decode cX5_init 6 = .ok (.newarray .int, 2) := by decide +kernel
theorem dX5_init_8 : decode cX5_init 8 = .ok (.putfield 7, 3) := by decide +kernel
theorem dX5_init_11 : decode cX5_init 11 = .ok (.aload_n 0, 1) := by decide +kernel
theorem dX5_init_12 : decode cX5_init 12 = .ok (.iconst 4, 1) := by decide +kernel
theorem dX5_init_13 : decode cX5_init 13 = .ok (.newarray .int, 2) := by decide +kernel
theorem dX5_init_15 : decode cX5_init 15 = .ok (.putfield 13, 3) := by decide +kernel
theorem dX5_init_18 : decode cX5_init 18 = .ok (.aload_n 0, 1) := by decide +kernel
theorem dX5_init_19 : decode cX5_init 19 = .ok (.iconst 4, 1) := by decide +kernel
theorem dX5_init_20 : decode cX5_init 20 = .ok (.newarray .int, 2) := by decide +kernel
theorem dX5_init_22 : decode cX5_init 22 = .ok (.putfield 16, 3) := by decide +kernel
theorem dX5_init_25 : decode cX5_init 25 = .ok (.aload_n 0, 1) := by decide +kernel
theorem dX5_init_26 : decode cX5_init 26 = .ok (.iconst 4, 1) := by decide +kernel
theorem dX5_init_27 : decode cX5_init 27 = .ok (.newarray .int, 2) := by decide +kernel
theorem dX5_init_29 : decode cX5_init 29 = .ok (.putfield 19, 3) := by decide +kernel
theorem dX5_init_32 : decode cX5_init 32 = .ok (.aload_n 0, 1) := by decide +kernel
theorem dX5_init_33 : decode cX5_init 33 = .ok (.iconst 4, 1) := by decide +kernel
theorem dX5_init_34 : decode cX5_init 34 = .ok (.newarray .int, 2) := by decide +kernel
theorem dX5_init_36 : decode cX5_init 36 = .ok (.putfield 22, 3) := by decide +kernel
theorem dX5_init_39 : decode cX5_init 39 = .ok (.aload_n 0, 1) := by decide +kernel
theorem dX5_init_40 : decode cX5_init 40 = .ok (.iconst 4, 1) := by decide +kernel
theorem dX5_init_41 : decode cX5_init 41 = .ok (.newarray .int, 2) := by decide +kernel
theorem dX5_init_43 : decode cX5_init 43 = .ok (.putfield 25, 3) := by decide +kernel
theorem dX5_init_46 : decode cX5_init 46 = .ok (.aload_n 0, 1) := by decide +kernel
theorem dX5_init_47 : decode cX5_init 47 = .ok (.iconst 3, 1) := by decide +kernel
theorem dX5_init_48 : decode cX5_init 48 = .ok (.newarray .int, 2) := by decide +kernel
theorem dX5_init_50 : decode cX5_init 50 = .ok (.putfield 28, 3) := by decide +kernel
theorem dX5_init_53 : decode cX5_init 53 = .ok (.aload_n 0, 1) := by decide +kernel
theorem dX5_init_54 : decode cX5_init 54 = .ok (.iconst 4, 1) := by decide +kernel
theorem dX5_init_55 : decode cX5_init 55 = .ok (.newarray .int, 2) := by decide +kernel
theorem dX5_init_57 : decode cX5_init 57 = .ok (.putfield 31, 3) := by decide +kernel
theorem dX5_init_60 : decode cX5_init 60 = .ok (.aload_n 0, 1) := by decide +kernel
theorem dX5_init_61 : decode cX5_init 61 = .ok (.iconst 4, 1) := by decide +kernel
theorem dX5_init_62 : decode cX5_init 62 = .ok (.newarray .int, 2) := by decide +kernel
theorem dX5_init_64 : decode cX5_init 64 = .ok (.putfield 34, 3) := by decide +kernel
theorem dX5_init_67 : decode cX5_init 67 = .ok (.aload_n 0, 1) := by decide +kernel
theorem dX5_init_68 : decode cX5_init 68 = .ok (.iconst 4, 1) := by decide +kernel
theorem dX5_init_69 : decode cX5_init 69 = .ok (.newarray .int, 2) := by decide +kernel
theorem dX5_init_71 : decode cX5_init 71 = .ok (.putfield 37, 3) := by decide +kernel
theorem dX5_init_74 : decode cX5_init 74 = .ok (.aload_n 0, 1) := by decide +kernel
theorem dX5_init_75 : decode cX5_init 75 = .ok (.iconst 4, 1) := by decide +kernel
theorem dX5_init_76 : decode cX5_init 76 = .ok (.newarray .int, 2) := by decide +kernel
theorem dX5_init_78 : decode cX5_init 78 = .ok (.putfield 40, 3) := by decide +kernel
theorem dX5_init_81 : decode cX5_init 81 = .ok (.aload_n 0, 1) := by decide +kernel
theorem dX5_init_82 : decode cX5_init 82 = .ok (.iconst 4, 1) := by decide +kernel
theorem dX5_init_83 : decode cX5_init 83 = .ok (.newarray .int, 2) := by decide +kernel
theorem dX5_init_85 : decode cX5_init 85 = .ok (.putfield 43, 3) := by decide +kernel
theorem dX5_init_88 : decode cX5_init 88 = .ok (.aload_n 0, 1) := by decide +kernel
theorem dX5_init_89 : decode cX5_init 89 = .ok (.bipush 8, 2) := by decide +kernel
theorem dX5_init_91 : decode cX5_init 91 = .ok (.newarray .int, 2) := by decide +kernel
theorem dX5_init_93 : decode cX5_init 93 = .ok (.putfield 46, 3) := by decide +kernel
theorem dX5_init_96 : decode cX5_init 96 = .ok (.aload_n 0, 1) := by decide +kernel
theorem dX5_init_97 : decode cX5_init 97 = .ok (.iconst 4, 1) := by decide +kernel
theorem dX5_init_98 : decode cX5_init 98 = .ok (.newarray .int, 2) := by decide +kernel
theorem dX5_init_100 : decode cX5_init 100 = .ok (.putfield 49, 3) := by decide +kernel
theorem dX5_init_103 : decode cX5_init 103 = .ok (.aload_n 0, 1) := by decide +kernel
theorem dX5_init_104 : decode cX5_init 104 = .ok (.iconst 4, 1) := by decide +kernel
theorem dX5_init_105 : decode cX5_init 105 = .ok (.newarray .int, 2) := by decide +kernel
theorem dX5_init_107 : decode cX5_init 107 = .ok (.putfield 52, 3) := by decide +kernel
theorem dX5_init_110 : decode cX5_init 110 = .ok (.aload_n 0, 1) := by decide +kernel
theorem dX5_init_111 : decode cX5_init 111 = .ok (.bipush 8, 2) := by decide +kernel
theorem dX5_init_113 : decode cX5_init 113 = .ok (.newarray .int, 2) := by decide +kernel
theorem dX5_init_115 : decode cX5_init 115 = .ok (.putfield 55, 3) := by decide +kernel
theorem dX5_init_118 : decode cX5_init 118 = .ok (.aload_n 0, 1) := by decide +kernel
theorem dX5_init_119 : decode cX5_init 119 = .ok (.bipush 8, 2) := by decide +kernel
theorem dX5_init_121 : decode cX5_init 121 = .ok (.newarray .int, 2) := by decide +kernel
theorem dX5_init_123 : decode cX5_init 123 = .ok (.putfield 58, 3) := by decide +kernel
theorem dX5_init_126 : decode cX5_init 126 = .ok (.aload_n 0, 1) := by decide +kernel
theorem dX5_init_127 : decode cX5_init 127 = .ok (.iconst 4, 1) := by decide +kernel
theorem dX5_init_128 : decode cX5_init 128 = .ok (.newarray .int, 2) := by decide +kernel
theorem dX5_init_130 : decode cX5_init 130 = .ok (.putfield 61, 3) := by decide +kernel
theorem dX5_init_133 : decode cX5_init 133 = .ok (.aload_n 0, 1) := by decide +kernel
theorem dX5_init_134 : decode cX5_init 134 = .ok (.iconst 4, 1) := by decide +kernel
theorem dX5_init_135 : decode cX5_init 135 = .ok (.newarray .int, 2) := by decide +kernel
theorem dX5_init_137 : decode cX5_init 137 = .ok (.putfield 64, 3) := by decide +kernel
theorem dX5_init_140 : decode cX5_init 140 = .ok (.aload_n 0, 1) := by decide +kernel
theorem dX5_init_141 : decode cX5_init 141 = .ok (.sipush 240, 3) := by decide +kernel
theorem dX5_init_144 : decode cX5_init 144 = .ok (.newarray .int, 2) := by decide +kernel
theorem dX5_init_146 : decode cX5_init 146 = .ok (.putfield 67, 3) := by decide +kernel
theorem dX5_init_149 : decode cX5_init 149 = .ok (.aload_n 0, 1) := by decide +kernel
theorem dX5_init_150 : decode cX5_init 150 = .ok (.bipush 60, 2) := by decide +kernel
theorem dX5_init_152 : decode cX5_init 152 = .ok (.newarray .int, 2) := by decide +kernel
theorem dX5_init_154 : decode cX5_init 154 = .ok (.putfield 70, 3) := by decide +kernel
theorem dX5_init_157 : decode cX5_init 157 = .ok (.iconst 0, 1) := by decide +kernel
theorem dX5_init_158 : decode cX5_init 158 = .ok (.istore_n 1, 1) := by decide +kernel
theorem dX5_init_159 : decode cX5_init 159 = .ok (.iload_n 1, 1) := by decide +kernel
theorem dX5_init_160 : decode cX5_init 160 = .ok (.iconst 4, 1) := by decide +kernel
theorem dX5_init_161 : decode cX5_init 161 = .ok (.if_icmp .ge 16, 3) := by decide +kernel
theorem dX5_init_164 : decode cX5_init 164 = .ok (.aload_n 0, 1) := by decide +kernel
theorem dX5_init_165 : decode cX5_init 165 = .ok (.getfield 61, 3) := by decide +kernel
theorem dX5_init_168 : decode cX5_init 168 = .ok (.iload_n 1, 1) := by decide +kernel
theorem dX5_init_169 : decode cX5_init 169 = .ok (.iconst (-1), 1) := by decide +kernel
theorem dX5_init_170 : decode cX5_init 170 = .ok (.iastore, 1) := by decide +kernel
theorem dX5_init_171 : decode cX5_init 171 = .ok (.iinc 1 1, 3) := by decide +kernel
theorem dX5_init_174 : decode cX5_init 174 = .ok (.goto (-15), 3) := by decide +kernel
theorem dX5_init_177 : decode cX5_init 177 = .ok (.aload_n 0, 1) := by decide +kernel
theorem dX5_init_178 : decode cX5_init 178 = .ok (.bipush (-9), 2) := by decide +kernel
theorem dX5_init_180 : decode cX5_init 180 = .ok (.putfield 73, 3) := by decide +kernel
theorem dX5_init_183 : decode cX5_init 183 = .ok (.return_, 1) := by decide +kernel
theorem dX5_in_0 : decode cX5_in 0 = .ok (.lload_n 0, 1) := by decide +kernel
theorem dX5_in_1 : decode cX5_in 1 = .ok (.lload_n 2, 1) := by decide +kernel
theorem dX5_in_2 : decode cX5_in 2 = .ok (.lcmp, 1) := by decide +kernel
theorem dX5_in_3 : decode cX5_in 3 = .ok (.ifCond .lt 14, 3) := by decide +kernel
theorem dX5_in_6 : decode cX5_in 6 = .ok (.lload_n 0, 1) := by decide +kernel
theorem dX5_in_7 : decode cX5_in 7 = .ok (.lload 4, 2) := by decide +kernel
theorem dX5_in_9 : decode cX5_in 9 = .ok (.lcmp, 1) := by decide +kernel
theorem dX5_in_10 : decode cX5_in 10 = .ok (.ifCond .gt 7, 3) := by decide +kernel
theorem dX5_in_13 : decode cX5_in 13 = .ok (.iconst 1, 1) := by decide +kernel
theorem dX5_in_14 : decode cX5_in 14 = .ok (.goto 4, 3) := by decide +kernel
theorem dX5_in_17 : decode cX5_in 17 = .ok (.iconst 0, 1) := by decide +kernel
theorem dX5_in_18 : decode cX5_in 18 = .ok (.ireturn, 1) := by decide +kernel
theorem dX5_lost_0 : decode cX5_lost 0 = .ok (.ldc2_w 77, 3) := by decide +kernel
theorem dX5_lost_3 : decode cX5_lost 3 = .ok (.lreturn, 1) := by decide +kernel
theorem dX5_isIn_0 : decode cX5_isIn 0 = .ok (.iload_n 0, 1) := by decide +kernel
theorem dX5_isIn_1 : decode cX5_isIn 1 = .ok (.iload_n 1, 1) := by decide +kernel
theorem dX5_isIn_2 : decode cX5_isIn 2 = .ok (.ishr, 1) := by decide +kernel
theorem dX5_isIn_3 : decode cX5_isIn 3 = .ok (.iconst 1, 1) := by decide +kernel
theorem dX5_isIn_4 : decode cX5_isIn 4 = .ok (.iand, 1) := by decide +kernel
theorem dX5_isIn_5 : decode cX5_isIn 5 = .ok (.iconst 1, 1) := by decide +kernel
theorem dX5_isIn_6 : decode cX5_isIn 6 = .ok (.if_icmp .ne 7, 3) := by decide +kernel
theorem dX5_isIn_9 : decode cX5_isIn 9 = .ok (.iconst 1, 1) := by decide +kernel
theorem dX5_isIn_10 : decode cX5_isIn 10 = .ok (.goto 4, 3) := by decide +kernel
theorem dX5_isIn_13 : decode cX5_isIn 13 = .ok (.iconst 0, 1) := by decide +kernel
theorem dX5_isIn_14 : decode cX5_isIn 14 = .ok (.ireturn, 1) := by decide +kernel
theorem dX5_told_0 : decode cX5_told 0 = .ok (.lload_n 0, 1) := by decide +kernel
theorem dX5_told_1 : decode cX5_told 1 = .ok (.lstore 5, 2) := by decide +kernel
theorem dX5_told_3 : decode cX5_told 3 = .ok (.lload_n 2, 1) := by decide +kernel
theorem dX5_told_4 : decode cX5_told 4 = .ok (.lstore 7, 2) := by decide +kernel
theorem dX5_told_6 : decode cX5_told 6 = .ok (.lload 7, 2) := by decide +kernel
theorem dX5_told_8 : decode cX5_told 8 = .ok (.lconst 0, 1) := by decide +kernel
theorem dX5_told_9 : decode cX5_told 9 = .ok (.lcmp, 1) := by decide +kernel
theorem dX5_told_10 : decode cX5_told 10 = .ok (.ifCond .eq 21, 3) := by decide +kernel
theorem dX5_told_13 : decode cX5_told 13 = .ok (.lload 5, 2) := by decide +kernel
theorem dX5_told_15 : decode cX5_told 15 = .ok (.lload 7, 2) := by decide +kernel
theorem dX5_told_17 : decode cX5_told 17 = .ok (.lrem, 1) := by decide +kernel
theorem dX5_told_18 : decode cX5_told 18 = .ok (.lstore 9, 2) := by decide +kernel
theorem dX5_told_20 : decode cX5_told 20 = .ok (.lload 7, 2) := by decide +kernel
theorem dX5_told_22 : decode cX5_told 22 = .ok (.lstore 5, 2) := by decide +kernel
theorem dX5_told_24 : decode cX5_told 24 = .ok (.lload 9, 2) := by decide +kernel
theorem dX5_told_26 : decode cX5_told 26 = .ok (.lstore 7, 2) := by decide +kernel
theorem dX5_told_28 : decode cX5_told 28 = .ok (.goto (-22), 3) := by decide +kernel
theorem dX5_told_31 : decode cX5_told 31 = .ok (.iload 4, 2) := by decide +kernel
theorem dX5_told_33 : decode cX5_told 33 = .ok (.ifCond .ne 7, 3) := by decide +kernel
theorem dX5_told_36 : decode cX5_told 36 = .ok (.lload_n 0, 1) := by decide +kernel
theorem dX5_told_37 : decode cX5_told 37 = .ok (.goto 4, 3) := by decide +kernel
theorem dX5_told_40 : decode cX5_told 40 = .ok (.lload_n 2, 1) := by decide +kernel
theorem dX5_told_41 : decode cX5_told 41 = .ok (.lload 5, 2) := by decide +kernel
theorem dX5_told_43 : decode cX5_told 43 = .ok (.ldiv, 1) := by decide +kernel
theorem dX5_told_44 : decode cX5_told 44 = .ok (.lreturn, 1) := by decide +kernel
theorem dX5_tens_0 : decode cX5_tens 0 = .ok (.lconst 1, 1) := by decide +kernel
theorem dX5_tens_1 : decode cX5_tens 1 = .ok (.lstore_n 1, 1) := by decide +kernel
theorem dX5_tens_2 : decode cX5_tens 2 = .ok (.iconst 0, 1) := by decide +kernel
theorem dX5_tens_3 : decode cX5_tens 3 = .ok (.istore_n 3, 1) := by decide +kernel
theorem dX5_tens_4 : decode cX5_tens 4 = .ok (.iload_n 3, 1) := by decide +kernel
theorem dX5_tens_5 : decode cX5_tens 5 = .ok (.iload_n 0, 1) := by decide +kernel
theorem dX5_tens_6 : decode cX5_tens 6 = .ok (.if_icmp .ge 15, 3) := by decide +kernel
theorem dX5_tens_9 : decode cX5_tens 9 = .ok (.lload_n 1, 1) := by decide +kernel
theorem dX5_tens_10 : decode cX5_tens 10 = .ok (.ldc2_w 79, 3) := by decide +kernel
theorem dX5_tens_13 : decode cX5_tens 13 = .ok (.lmul, 1) := by decide +kernel
theorem dX5_tens_14 : decode cX5_tens 14 = .ok (.lstore_n 1, 1) := by decide +kernel
theorem dX5_tens_15 : decode cX5_tens 15 = .ok (.iinc 3 1, 3) := by decide +kernel
theorem dX5_tens_18 : decode cX5_tens 18 = .ok (.goto (-14), 3) := by decide +kernel
theorem dX5_tens_21 : decode cX5_tens 21 = .ok (.lload_n 1, 1) := by decide +kernel
theorem dX5_tens_22 : decode cX5_tens 22 = .ok (.lreturn, 1) := by decide +kernel
theorem dX5_refused_0 : decode cX5_refused 0 = .ok (.aload_n 0, 1) := by decide +kernel
theorem dX5_refused_1 : decode cX5_refused 1 = .ok (.iconst 0, 1) := by decide +kernel
theorem dX5_refused_2 : decode cX5_refused 2 = .ok (.putfield 81, 3) := by decide +kernel
theorem dX5_refused_5 : decode cX5_refused 5 = .ok (.iload_n 1, 1) := by decide +kernel
theorem dX5_refused_6 : decode cX5_refused 6 = .ok (.ireturn, 1) := by decide +kernel
theorem dX5_failed_0 : decode cX5_failed 0 = .ok (.aload_n 0, 1) := by decide +kernel
theorem dX5_failed_1 : decode cX5_failed 1 = .ok (.iload_n 1, 1) := by decide +kernel
theorem dX5_failed_2 : decode cX5_failed 2 = .ok (.putfield 81, 3) := by decide +kernel
theorem dX5_failed_5 : decode cX5_failed 5 = .ok (.bipush (-10), 2) := by decide +kernel
theorem dX5_failed_7 : decode cX5_failed 7 = .ok (.iload_n 1, 1) := by decide +kernel
theorem dX5_failed_8 : decode cX5_failed 8 = .ok (.isub, 1) := by decide +kernel
theorem dX5_failed_9 : decode cX5_failed 9 = .ok (.ireturn, 1) := by decide +kernel
theorem dX5_failedLong_0 : decode cX5_failedLong 0 = .ok (.aload_n 0, 1) := by decide +kernel
theorem dX5_failedLong_1 : decode cX5_failedLong 1 = .ok (.iload_n 1, 1) := by decide +kernel
theorem dX5_failedLong_2 : decode cX5_failedLong 2 = .ok (.putfield 81, 3) := by decide +kernel
theorem dX5_failedLong_5 : decode cX5_failedLong 5 = .ok (.invokestatic 84, 3) := by decide +kernel
theorem dX5_failedLong_8 : decode cX5_failedLong 8 = .ok (.lreturn, 1) := by decide +kernel
theorem dX5_noPost_0 : decode cX5_noPost 0 = .ok (.iload_n 1, 1) := by decide +kernel
theorem dX5_noPost_1 : decode cX5_noPost 1 = .ok (.i2l, 1) := by decide +kernel
theorem dX5_noPost_2 : decode cX5_noPost 2 = .ok (.lconst 0, 1) := by decide +kernel
theorem dX5_noPost_3 : decode cX5_noPost 3 = .ok (.aload_n 0, 1) := by decide +kernel
theorem dX5_noPost_4 : decode cX5_noPost 4 = .ok (.getfield 88, 3) := by decide +kernel
theorem dX5_noPost_7 : decode cX5_noPost 7 = .ok (.i2l, 1) := by decide +kernel
theorem dX5_noPost_8 : decode cX5_noPost 8 = .ok (.lconst 1, 1) := by decide +kernel
theorem dX5_noPost_9 : decode cX5_noPost 9 = .ok (.lsub, 1) := by decide +kernel
theorem dX5_noPost_10 : decode cX5_noPost 10 = .ok (.invokestatic 91, 3) := by decide +kernel
theorem dX5_noPost_13 : decode cX5_noPost 13 = .ok (.ifCond .ne 7, 3) := by decide +kernel
theorem dX5_noPost_16 : decode cX5_noPost 16 = .ok (.iconst 1, 1) := by decide +kernel
theorem dX5_noPost_17 : decode cX5_noPost 17 = .ok (.goto 4, 3) := by decide +kernel
theorem dX5_noPost_20 : decode cX5_noPost 20 = .ok (.iconst 0, 1) := by decide +kernel
theorem dX5_noPost_21 : decode cX5_noPost 21 = .ok (.ireturn, 1) := by decide +kernel
theorem dX5_noSilence_0 : decode cX5_noSilence 0 = .ok (.iload_n 1, 1) := by decide +kernel
theorem dX5_noSilence_1 : decode cX5_noSilence 1 = .ok (.i2l, 1) := by decide +kernel
theorem dX5_noSilence_2 : decode cX5_noSilence 2 = .ok (.lconst 0, 1) := by decide +kernel
theorem dX5_noSilence_3 : decode cX5_noSilence 3 = .ok (.aload_n 0, 1) := by decide +kernel
theorem dX5_noSilence_4 : decode cX5_noSilence 4 = .ok (.getfield 95, 3) := by decide +kernel
theorem dX5_noSilence_7 : decode cX5_noSilence 7 = .ok (.i2l, 1) := by decide +kernel
theorem dX5_noSilence_8 : decode cX5_noSilence 8 = .ok (.lconst 1, 1) := by decide +kernel
theorem dX5_noSilence_9 : decode cX5_noSilence 9 = .ok (.lsub, 1) := by decide +kernel
theorem dX5_noSilence_10 : decode cX5_noSilence 10 = .ok (.invokestatic 91, 3) := by decide +kernel
theorem dX5_noSilence_13 : decode cX5_noSilence 13 = .ok (.ifCond .ne 7, 3) := by decide +kernel
theorem dX5_noSilence_16 : decode cX5_noSilence 16 = .ok (.iconst 1, 1) := by decide +kernel
theorem dX5_noSilence_17 : decode cX5_noSilence 17 = .ok (.goto 4, 3) := by decide +kernel
theorem dX5_noSilence_20 : decode cX5_noSilence 20 = .ok (.iconst 0, 1) := by decide +kernel
theorem dX5_noSilence_21 : decode cX5_noSilence 21 = .ok (.ireturn, 1) := by decide +kernel
theorem dX5_noCarrier_0 : decode cX5_noCarrier 0 = .ok (.iload_n 0, 1) := by decide +kernel
theorem dX5_noCarrier_1 : decode cX5_noCarrier 1 = .ok (.i2l, 1) := by decide +kernel
theorem dX5_noCarrier_2 : decode cX5_noCarrier 2 = .ok (.lconst 0, 1) := by decide +kernel
theorem dX5_noCarrier_3 : decode cX5_noCarrier 3 = .ok (.ldc2_w 98, 3) := by decide +kernel
theorem dX5_noCarrier_6 : decode cX5_noCarrier 6 = .ok (.invokestatic 91, 3) := by decide +kernel
theorem dX5_noCarrier_9 : decode cX5_noCarrier 9 = .ok (.ifCond .ne 7, 3) := by decide +kernel
theorem dX5_noCarrier_12 : decode cX5_noCarrier 12 = .ok (.iconst 1, 1) := by decide +kernel
theorem dX5_noCarrier_13 : decode cX5_noCarrier 13 = .ok (.goto 4, 3) := by decide +kernel
theorem dX5_noCarrier_16 : decode cX5_noCarrier 16 = .ok (.iconst 0, 1) := by decide +kernel
theorem dX5_noCarrier_17 : decode cX5_noCarrier 17 = .ok (.ireturn, 1) := by decide +kernel
theorem dX5_all_0 : decode cX5_all 0 = .ok (.iconst 1, 1) := by decide +kernel
theorem dX5_all_1 : decode cX5_all 1 = .ok (.aload_n 0, 1) := by decide +kernel
theorem dX5_all_2 : decode cX5_all 2 = .ok (.getfield 95, 3) := by decide +kernel
theorem dX5_all_5 : decode cX5_all 5 = .ok (.ishl, 1) := by decide +kernel
theorem dX5_all_6 : decode cX5_all 6 = .ok (.iconst 1, 1) := by decide +kernel
theorem dX5_all_7 : decode cX5_all 7 = .ok (.isub, 1) := by decide +kernel
theorem dX5_all_8 : decode cX5_all 8 = .ok (.ireturn, 1) := by decide +kernel
theorem dX5_codeAt_0 : decode cX5_codeAt 0 = .ok (.aload_n 0, 1) := by decide +kernel
theorem dX5_codeAt_1 : decode cX5_codeAt 1 = .ok (.getfield 100, 3) := by decide +kernel
theorem dX5_codeAt_4 : decode cX5_codeAt 4 = .ok (.iload_n 2, 1) := by decide +kernel
theorem dX5_codeAt_5 : decode cX5_codeAt 5 = .ok (.if_icmp .ge 17, 3) := by decide +kernel
theorem dX5_codeAt_8 : decode cX5_codeAt 8 = .ok (.aload_n 0, 1) := by decide +kernel
theorem dX5_codeAt_9 : decode cX5_codeAt 9 = .ok (.getfield 67, 3) := by decide +kernel
theorem dX5_codeAt_12 : decode cX5_codeAt 12 = .ok (.iload_n 1, 1) := by decide +kernel
theorem dX5_codeAt_13 : decode cX5_codeAt 13 = .ok (.aload_n 0, 1) := by decide +kernel
theorem dX5_codeAt_14 : decode cX5_codeAt 14 = .ok (.getfield 100, 3) := by decide +kernel
theorem dX5_codeAt_17 : decode cX5_codeAt 17 = .ok (.iadd, 1) := by decide +kernel
theorem dX5_codeAt_18 : decode cX5_codeAt 18 = .ok (.iaload, 1) := by decide +kernel
theorem dX5_codeAt_19 : decode cX5_codeAt 19 = .ok (.goto 5, 3) := by decide +kernel
theorem dX5_codeAt_22 : decode cX5_codeAt 22 = .ok (.bipush (-9), 2) := by decide +kernel
theorem dX5_codeAt_24 : decode cX5_codeAt 24 = .ok (.ireturn, 1) := by decide +kernel
theorem dX5_figure_0 : decode cX5_figure 0 = .ok (.aload_n 0, 1) := by decide +kernel
theorem dX5_figure_1 : decode cX5_figure 1 = .ok (.iload_n 1, 1) := by decide +kernel
theorem dX5_figure_2 : decode cX5_figure 2 = .ok (.iload_n 2, 1) := by decide +kernel
theorem dX5_figure_3 : decode cX5_figure 3 = .ok (.invokevirtual 103, 3) := by decide +kernel
theorem dX5_figure_6 : decode cX5_figure 6 = .ok (.bipush 48, 2) := by decide +kernel
theorem dX5_figure_8 : decode cX5_figure 8 = .ok (.isub, 1) := by decide +kernel
theorem dX5_figure_9 : decode cX5_figure 9 = .ok (.istore 4, 2) := by decide +kernel
theorem dX5_figure_11 : decode cX5_figure 11 = .ok (.iload 4, 2) := by decide +kernel
theorem dX5_figure_13 : decode cX5_figure 13 = .ok (.i2l, 1) := by decide +kernel
theorem dX5_figure_14 : decode cX5_figure 14 = .ok (.iload_n 3, 1) := by decide +kernel
theorem dX5_figure_15 : decode cX5_figure 15 = .ok (.i2l, 1) := by decide +kernel
theorem dX5_figure_16 : decode cX5_figure 16 = .ok (.ldc2_w 107, 3) := by decide +kernel
theorem dX5_figure_19 : decode cX5_figure 19 = .ok (.invokestatic 91, 3) := by decide +kernel
theorem dX5_figure_22 : decode cX5_figure 22 = .ok (.istore 5, 2) := by decide +kernel
theorem dX5_figure_24 : decode cX5_figure 24 = .ok (.aload_n 0, 1) := by decide +kernel
theorem dX5_figure_25 : decode cX5_figure 25 = .ok (.dup, 1) := by decide +kernel
theorem dX5_figure_26 : decode cX5_figure 26 = .ok (.getfield 100, 3) := by decide +kernel
theorem dX5_figure_29 : decode cX5_figure 29 = .ok (.iload 5, 2) := by decide +kernel
theorem dX5_figure_31 : decode cX5_figure 31 = .ok (.ifCond .eq 7, 3) := by decide +kernel
theorem dX5_figure_34 : decode cX5_figure 34 = .ok (.iconst 1, 1) := by decide +kernel
theorem dX5_figure_35 : decode cX5_figure 35 = .ok (.goto 4, 3) := by decide +kernel
theorem dX5_figure_38 : decode cX5_figure 38 = .ok (.iconst 0, 1) := by decide +kernel
theorem dX5_figure_39 : decode cX5_figure 39 = .ok (.iadd, 1) := by decide +kernel
theorem dX5_figure_40 : decode cX5_figure 40 = .ok (.putfield 100, 3) := by decide +kernel
theorem dX5_figure_43 : decode cX5_figure 43 = .ok (.iload 5, 2) := by decide +kernel
theorem dX5_figure_45 : decode cX5_figure 45 = .ok (.ifCond .eq 8, 3) := by decide +kernel
theorem dX5_figure_48 : decode cX5_figure 48 = .ok (.iload 4, 2) := by decide +kernel
theorem dX5_figure_50 : decode cX5_figure 50 = .ok (.goto 5, 3) := by decide +kernel
theorem dX5_figure_53 : decode cX5_figure 53 = .ok (.bipush (-9), 2) := by decide +kernel
theorem dX5_figure_55 : decode cX5_figure 55 = .ok (.ireturn, 1) := by decide +kernel
theorem dX5_readsPost_0 : decode cX5_readsPost 0 = .ok (.aload_n 0, 1) := by decide +kernel
theorem dX5_readsPost_1 : decode cX5_readsPost 1 = .ok (.getfield 109, 3) := by decide +kernel
theorem dX5_readsPost_4 : decode cX5_readsPost 4 = .ok (.iconst 4, 1) := by decide +kernel
theorem dX5_readsPost_5 : decode cX5_readsPost 5 = .ok (.if_icmp .eq 14, 3) := by decide +kernel
theorem dX5_readsPost_8 : decode cX5_readsPost 8 = .ok (.aload_n 0, 1) := by decide +kernel
theorem dX5_readsPost_9 : decode cX5_readsPost 9 = .ok (.iload_n 1, 1) := by decide +kernel
theorem dX5_readsPost_10 : decode cX5_readsPost 10 = .ok (.iload_n 2, 1) := by decide +kernel
theorem dX5_readsPost_11 : decode cX5_readsPost 11 = .ok (.invokevirtual 103, 3) := by decide +kernel
theorem dX5_readsPost_14 : decode cX5_readsPost 14 = .ok (.bipush 59, 2) := by decide +kernel
theorem dX5_readsPost_16 : decode cX5_readsPost 16 = .ok (.if_icmp .eq 5, 3) := by decide +kernel
theorem dX5_readsPost_19 : decode cX5_readsPost 19 = .ok (.iconst 0, 1) := by decide +kernel
theorem dX5_readsPost_20 : decode cX5_readsPost 20 = .ok (.ireturn, 1) := by decide +kernel
theorem dX5_readsPost_21 : decode cX5_readsPost 21 = .ok (.aload_n 0, 1) := by decide +kernel
theorem dX5_readsPost_22 : decode cX5_readsPost 22 = .ok (.dup, 1) := by decide +kernel
theorem dX5_readsPost_23 : decode cX5_readsPost 23 = .ok (.getfield 100, 3) := by decide +kernel
theorem dX5_readsPost_26 : decode cX5_readsPost 26 = .ok (.iconst 1, 1) := by decide +kernel
theorem dX5_readsPost_27 : decode cX5_readsPost 27 = .ok (.iadd, 1) := by decide +kernel
theorem dX5_readsPost_28 : decode cX5_readsPost 28 = .ok (.putfield 100, 3) := by decide +kernel
theorem dX5_readsPost_31 : decode cX5_readsPost 31 = .ok (.aload_n 0, 1) := by decide +kernel
theorem dX5_readsPost_32 : decode cX5_readsPost 32 = .ok (.iload_n 1, 1) := by decide +kernel
theorem dX5_readsPost_33 : decode cX5_readsPost 33 = .ok (.iload_n 2, 1) := by decide +kernel
theorem dX5_readsPost_34 : decode cX5_readsPost 34 = .ok (.iconst 1, 1) := by decide +kernel
theorem dX5_readsPost_35 : decode cX5_readsPost 35 = .ok (.invokevirtual 112, 3) := by decide +kernel
theorem dX5_readsPost_38 : decode cX5_readsPost 38 = .ok (.istore_n 3, 1) := by decide +kernel
theorem dX5_readsPost_39 : decode cX5_readsPost 39 = .ok (.iload_n 3, 1) := by decide +kernel
theorem dX5_readsPost_40 : decode cX5_readsPost 40 = .ok (.ifCond .ge 8, 3) := by decide +kernel
theorem dX5_readsPost_43 : decode cX5_readsPost 43 = .ok (.bipush (-9), 2) := by decide +kernel
theorem dX5_readsPost_45 : decode cX5_readsPost 45 = .ok (.goto 10, 3) := by decide +kernel
theorem dX5_readsPost_48 : decode cX5_readsPost 48 = .ok (.aload_n 0, 1) := by decide +kernel
theorem dX5_readsPost_49 : decode cX5_readsPost 49 = .ok (.iload_n 1, 1) := by decide +kernel
theorem dX5_readsPost_50 : decode cX5_readsPost 50 = .ok (.iload_n 2, 1) := by decide +kernel
theorem dX5_readsPost_51 : decode cX5_readsPost 51 = .ok (.iconst 0, 1) := by decide +kernel
theorem dX5_readsPost_52 : decode cX5_readsPost 52 = .ok (.invokevirtual 112, 3) := by decide +kernel
theorem dX5_readsPost_55 : decode cX5_readsPost 55 = .ok (.istore 4, 2) := by decide +kernel
theorem dX5_readsPost_57 : decode cX5_readsPost 57 = .ok (.iload 4, 2) := by decide +kernel
theorem dX5_readsPost_59 : decode cX5_readsPost 59 = .ok (.ifCond .ge 5, 3) := by decide +kernel
theorem dX5_readsPost_62 : decode cX5_readsPost 62 = .ok (.iconst 0, 1) := by decide +kernel
theorem dX5_readsPost_63 : decode cX5_readsPost 63 = .ok (.ireturn, 1) := by decide +kernel
theorem dX5_readsPost_64 : decode cX5_readsPost 64 = .ok (.aload_n 0, 1) := by decide +kernel
theorem dX5_readsPost_65 : decode cX5_readsPost 65 = .ok (.getfield 31, 3) := by decide +kernel
theorem dX5_readsPost_68 : decode cX5_readsPost 68 = .ok (.aload_n 0, 1) := by decide +kernel
theorem dX5_readsPost_69 : decode cX5_readsPost 69 = .ok (.getfield 109, 3) := by decide +kernel
theorem dX5_readsPost_72 : decode cX5_readsPost 72 = .ok (.iload_n 3, 1) := by decide +kernel
theorem dX5_readsPost_73 : decode cX5_readsPost 73 = .ok (.iastore, 1) := by decide +kernel
theorem dX5_readsPost_74 : decode cX5_readsPost 74 = .ok (.aload_n 0, 1) := by decide +kernel
theorem dX5_readsPost_75 : decode cX5_readsPost 75 = .ok (.getfield 34, 3) := by decide +kernel
theorem dX5_readsPost_78 : decode cX5_readsPost 78 = .ok (.aload_n 0, 1) := by decide +kernel
theorem dX5_readsPost_79 : decode cX5_readsPost 79 = .ok (.getfield 109, 3) := by decide +kernel
theorem dX5_readsPost_82 : decode cX5_readsPost 82 = .ok (.iload 4, 2) := by decide +kernel
theorem dX5_readsPost_84 : decode cX5_readsPost 84 = .ok (.iastore, 1) := by decide +kernel
theorem dX5_readsPost_85 : decode cX5_readsPost 85 = .ok (.aload_n 0, 1) := by decide +kernel
theorem dX5_readsPost_86 : decode cX5_readsPost 86 = .ok (.dup, 1) := by decide +kernel
theorem dX5_readsPost_87 : decode cX5_readsPost 87 = .ok (.getfield 109, 3) := by decide +kernel
theorem dX5_readsPost_90 : decode cX5_readsPost 90 = .ok (.iconst 1, 1) := by decide +kernel
theorem dX5_readsPost_91 : decode cX5_readsPost 91 = .ok (.iadd, 1) := by decide +kernel
theorem dX5_readsPost_92 : decode cX5_readsPost 92 = .ok (.putfield 109, 3) := by decide +kernel
theorem dX5_readsPost_95 : decode cX5_readsPost 95 = .ok (.iconst 1, 1) := by decide +kernel
theorem dX5_readsPost_96 : decode cX5_readsPost 96 = .ok (.ireturn, 1) := by decide +kernel
theorem dX5_readsSilence_0 : decode cX5_readsSilence 0 = .ok (.aload_n 0, 1) := by decide +kernel
theorem dX5_readsSilence_1 : decode cX5_readsSilence 1 = .ok (.getfield 116, 3) := by decide +kernel
theorem dX5_readsSilence_4 : decode cX5_readsSilence 4 = .ok (.iconst 4, 1) := by decide +kernel
theorem dX5_readsSilence_5 : decode cX5_readsSilence 5 = .ok (.if_icmp .eq 14, 3) := by decide +kernel
theorem dX5_readsSilence_8 : decode cX5_readsSilence 8 = .ok (.aload_n 0, 1) := by decide +kernel
theorem dX5_readsSilence_9 : decode cX5_readsSilence 9 = .ok (.iload_n 1, 1) := by decide +kernel
theorem dX5_readsSilence_10 : decode cX5_readsSilence 10 = .ok (.iload_n 2, 1) := by decide +kernel
theorem dX5_readsSilence_11 : decode cX5_readsSilence 11 = .ok (.invokevirtual 103, 3) := by decide +kernel
theorem dX5_readsSilence_14 : decode cX5_readsSilence 14 = .ok (.bipush 44, 2) := by decide +kernel
theorem dX5_readsSilence_16 : decode cX5_readsSilence 16 = .ok (.if_icmp .eq 5, 3) := by decide +kernel
theorem dX5_readsSilence_19 : decode cX5_readsSilence 19 = .ok (.iconst 0, 1) := by decide +kernel
theorem dX5_readsSilence_20 : decode cX5_readsSilence 20 = .ok (.ireturn, 1) := by decide +kernel
theorem dX5_readsSilence_21 : decode cX5_readsSilence 21 = .ok (.aload_n 0, 1) := by decide +kernel
theorem dX5_readsSilence_22 : decode cX5_readsSilence 22 = .ok (.dup, 1) := by decide +kernel
theorem dX5_readsSilence_23 : decode cX5_readsSilence 23 = .ok (.getfield 100, 3) := by decide +kernel
theorem dX5_readsSilence_26 : decode cX5_readsSilence 26 = .ok (.iconst 1, 1) := by decide +kernel
theorem dX5_readsSilence_27 : decode cX5_readsSilence 27 = .ok (.iadd, 1) := by decide +kernel
theorem dX5_readsSilence_28 : decode cX5_readsSilence 28 = .ok (.putfield 100, 3) := by decide +kernel
theorem dX5_readsSilence_31 : decode cX5_readsSilence 31 = .ok (.aload_n 0, 1) := by decide +kernel
theorem dX5_readsSilence_32 : decode cX5_readsSilence 32 = .ok (.iload_n 1, 1) := by decide +kernel
theorem dX5_readsSilence_33 : decode cX5_readsSilence 33 = .ok (.iload_n 2, 1) := by decide +kernel
theorem dX5_readsSilence_34 : decode cX5_readsSilence 34 = .ok (.invokevirtual 103, 3) := by decide +kernel
theorem dX5_readsSilence_37 : decode cX5_readsSilence 37 = .ok (.istore_n 3, 1) := by decide +kernel
theorem dX5_readsSilence_38 : decode cX5_readsSilence 38 = .ok (.iload_n 3, 1) := by decide +kernel
theorem dX5_readsSilence_39 : decode cX5_readsSilence 39 = .ok (.bipush 115, 2) := by decide +kernel
theorem dX5_readsSilence_41 : decode cX5_readsSilence 41 = .ok (.if_icmp .eq 17, 3) := by decide +kernel
theorem dX5_readsSilence_44 : decode cX5_readsSilence 44 = .ok (.iload_n 3, 1) := by decide +kernel
theorem dX5_readsSilence_45 : decode cX5_readsSilence 45 = .ok (.bipush 107, 2) := by decide +kernel
theorem dX5_readsSilence_47 : decode cX5_readsSilence 47 = .ok (.if_icmp .eq 11, 3) := by decide +kernel
theorem dX5_readsSilence_50 : decode cX5_readsSilence 50 = .ok (.iload_n 3, 1) := by decide +kernel
theorem dX5_readsSilence_51 : decode cX5_readsSilence 51 = .ok (.bipush 104, 2) := by decide +kernel
theorem dX5_readsSilence_53 : decode cX5_readsSilence 53 = .ok (.if_icmp .eq 5, 3) := by decide +kernel
theorem dX5_readsSilence_56 : decode cX5_readsSilence 56 = .ok (.iconst 0, 1) := by decide +kernel
theorem dX5_readsSilence_57 : decode cX5_readsSilence 57 = .ok (.ireturn, 1) := by decide +kernel
theorem dX5_readsSilence_58 : decode cX5_readsSilence 58 = .ok (.aload_n 0, 1) := by decide +kernel
theorem dX5_readsSilence_59 : decode cX5_readsSilence 59 = .ok (.dup, 1) := by decide +kernel
theorem dX5_readsSilence_60 : decode cX5_readsSilence 60 = .ok (.getfield 100, 3) := by decide +kernel
theorem dX5_readsSilence_63 : decode cX5_readsSilence 63 = .ok (.iconst 1, 1) := by decide +kernel
theorem dX5_readsSilence_64 : decode cX5_readsSilence 64 = .ok (.iadd, 1) := by decide +kernel
theorem dX5_readsSilence_65 : decode cX5_readsSilence 65 = .ok (.putfield 100, 3) := by decide +kernel
theorem dX5_readsSilence_68 : decode cX5_readsSilence 68 = .ok (.aload_n 0, 1) := by decide +kernel
theorem dX5_readsSilence_69 : decode cX5_readsSilence 69 = .ok (.iload_n 1, 1) := by decide +kernel
theorem dX5_readsSilence_70 : decode cX5_readsSilence 70 = .ok (.iload_n 2, 1) := by decide +kernel
theorem dX5_readsSilence_71 : decode cX5_readsSilence 71 = .ok (.iconst 1, 1) := by decide +kernel
theorem dX5_readsSilence_72 : decode cX5_readsSilence 72 = .ok (.invokevirtual 112, 3) := by decide +kernel
theorem dX5_readsSilence_75 : decode cX5_readsSilence 75 = .ok (.istore 4, 2) := by decide +kernel
theorem dX5_readsSilence_77 : decode cX5_readsSilence 77 = .ok (.iload 4, 2) := by decide +kernel
theorem dX5_readsSilence_79 : decode cX5_readsSilence 79 = .ok (.ifCond .ge 8, 3) := by decide +kernel
theorem dX5_readsSilence_82 : decode cX5_readsSilence 82 = .ok (.bipush (-9), 2) := by decide +kernel
theorem dX5_readsSilence_84 : decode cX5_readsSilence 84 = .ok (.goto 10, 3) := by decide +kernel
theorem dX5_readsSilence_87 : decode cX5_readsSilence 87 = .ok (.aload_n 0, 1) := by decide +kernel
theorem dX5_readsSilence_88 : decode cX5_readsSilence 88 = .ok (.iload_n 1, 1) := by decide +kernel
theorem dX5_readsSilence_89 : decode cX5_readsSilence 89 = .ok (.iload_n 2, 1) := by decide +kernel
theorem dX5_readsSilence_90 : decode cX5_readsSilence 90 = .ok (.iconst 1, 1) := by decide +kernel
theorem dX5_readsSilence_91 : decode cX5_readsSilence 91 = .ok (.invokevirtual 112, 3) := by decide +kernel
theorem dX5_readsSilence_94 : decode cX5_readsSilence 94 = .ok (.istore 5, 2) := by decide +kernel
theorem dX5_readsSilence_96 : decode cX5_readsSilence 96 = .ok (.iload 5, 2) := by decide +kernel
theorem dX5_readsSilence_98 : decode cX5_readsSilence 98 = .ok (.ifCond .ge 5, 3) := by decide +kernel
theorem dX5_readsSilence_101 : decode cX5_readsSilence 101 = .ok (.iconst 0, 1) := by decide +kernel
theorem dX5_readsSilence_102 : decode cX5_readsSilence 102 = .ok (.ireturn, 1) := by decide +kernel
theorem dX5_readsSilence_103 : decode cX5_readsSilence 103 = .ok (.aload_n 0, 1) := by decide +kernel
theorem dX5_readsSilence_104 : decode cX5_readsSilence 104 = .ok (.getfield 37, 3) := by decide +kernel
theorem dX5_readsSilence_107 : decode cX5_readsSilence 107 = .ok (.aload_n 0, 1) := by decide +kernel
theorem dX5_readsSilence_108 : decode cX5_readsSilence 108 = .ok (.getfield 116, 3) := by decide +kernel
theorem dX5_readsSilence_111 : decode cX5_readsSilence 111 = .ok (.iload_n 3, 1) := by decide +kernel
theorem dX5_readsSilence_112 : decode cX5_readsSilence 112 = .ok (.bipush 115, 2) := by decide +kernel
theorem dX5_readsSilence_114 : decode cX5_readsSilence 114 = .ok (.if_icmp .ne 7, 3) := by decide +kernel
theorem dX5_readsSilence_117 : decode cX5_readsSilence 117 = .ok (.iconst 0, 1) := by decide +kernel
theorem dX5_readsSilence_118 : decode cX5_readsSilence 118 = .ok (.goto 14, 3) := by decide +kernel
theorem dX5_readsSilence_121 : decode cX5_readsSilence 121 = .ok (.iload_n 3, 1) := by decide +kernel
theorem dX5_readsSilence_122 : decode cX5_readsSilence 122 = .ok (.bipush 107, 2) := by decide +kernel
theorem dX5_readsSilence_124 : decode cX5_readsSilence 124 = .ok (.if_icmp .ne 7, 3) := by decide +kernel
theorem dX5_readsSilence_127 : decode cX5_readsSilence 127 = .ok (.iconst 1, 1) := by decide +kernel
theorem dX5_readsSilence_128 : decode cX5_readsSilence 128 = .ok (.goto 4, 3) := by decide +kernel
theorem dX5_readsSilence_131 : decode cX5_readsSilence 131 = .ok (.iconst 2, 1) := by decide +kernel
theorem dX5_readsSilence_132 : decode cX5_readsSilence 132 = .ok (.iastore, 1) := by decide +kernel
theorem dX5_readsSilence_133 : decode cX5_readsSilence 133 = .ok (.aload_n 0, 1) := by decide +kernel
theorem dX5_readsSilence_134 : decode cX5_readsSilence 134 = .ok (.getfield 40, 3) := by decide +kernel
theorem dX5_readsSilence_137 : decode cX5_readsSilence 137 = .ok (.aload_n 0, 1) := by decide +kernel
theorem dX5_readsSilence_138 : decode cX5_readsSilence 138 = .ok (.getfield 116, 3) := by decide +kernel
theorem dX5_readsSilence_141 : decode cX5_readsSilence 141 = .ok (.iload 4, 2) := by decide +kernel
theorem dX5_readsSilence_143 : decode cX5_readsSilence 143 = .ok (.iastore, 1) := by decide +kernel
theorem dX5_readsSilence_144 : decode cX5_readsSilence 144 = .ok (.aload_n 0, 1) := by decide +kernel
theorem dX5_readsSilence_145 : decode cX5_readsSilence 145 = .ok (.getfield 43, 3) := by decide +kernel
theorem dX5_readsSilence_148 : decode cX5_readsSilence 148 = .ok (.aload_n 0, 1) := by decide +kernel
theorem dX5_readsSilence_149 : decode cX5_readsSilence 149 = .ok (.getfield 116, 3) := by decide +kernel
theorem dX5_readsSilence_152 : decode cX5_readsSilence 152 = .ok (.iload 5, 2) := by decide +kernel
theorem dX5_readsSilence_154 : decode cX5_readsSilence 154 = .ok (.iastore, 1) := by decide +kernel
theorem dX5_readsSilence_155 : decode cX5_readsSilence 155 = .ok (.aload_n 0, 1) := by decide +kernel
theorem dX5_readsSilence_156 : decode cX5_readsSilence 156 = .ok (.dup, 1) := by decide +kernel
theorem dX5_readsSilence_157 : decode cX5_readsSilence 157 = .ok (.getfield 116, 3) := by decide +kernel
theorem dX5_readsSilence_160 : decode cX5_readsSilence 160 = .ok (.iconst 1, 1) := by decide +kernel
theorem dX5_readsSilence_161 : decode cX5_readsSilence 161 = .ok (.iadd, 1) := by decide +kernel
theorem dX5_readsSilence_162 : decode cX5_readsSilence 162 = .ok (.putfield 116, 3) := by decide +kernel
theorem dX5_readsSilence_165 : decode cX5_readsSilence 165 = .ok (.iconst 1, 1) := by decide +kernel
theorem dX5_readsSilence_166 : decode cX5_readsSilence 166 = .ok (.ireturn, 1) := by decide +kernel
theorem dX5_readsFrontier_0 : decode cX5_readsFrontier 0 = .ok (.aload_n 0, 1) := by decide +kernel
theorem dX5_readsFrontier_1 : decode cX5_readsFrontier 1 = .ok (.iconst 0, 1) := by decide +kernel
theorem dX5_readsFrontier_2 : decode cX5_readsFrontier 2 = .ok (.putfield 100, 3) := by decide +kernel
theorem dX5_readsFrontier_5 : decode cX5_readsFrontier 5 = .ok (.aload_n 0, 1) := by decide +kernel
theorem dX5_readsFrontier_6 : decode cX5_readsFrontier 6 = .ok (.iconst 0, 1) := by decide +kernel
theorem dX5_readsFrontier_7 : decode cX5_readsFrontier 7 = .ok (.putfield 109, 3) := by decide +kernel
theorem dX5_readsFrontier_10 : decode cX5_readsFrontier 10 = .ok (.aload_n 0, 1) := by decide +kernel
theorem dX5_readsFrontier_11 : decode cX5_readsFrontier 11 = .ok (.iconst 0, 1) := by decide +kernel
theorem dX5_readsFrontier_12 : decode cX5_readsFrontier 12 = .ok (.putfield 116, 3) := by decide +kernel
theorem dX5_readsFrontier_15 : decode cX5_readsFrontier 15 = .ok (.aload_n 0, 1) := by decide +kernel
theorem dX5_readsFrontier_16 : decode cX5_readsFrontier 16 = .ok (.iload_n 1, 1) := by decide +kernel
theorem dX5_readsFrontier_17 : decode cX5_readsFrontier 17 = .ok (.iload_n 2, 1) := by decide +kernel
theorem dX5_readsFrontier_18 : decode cX5_readsFrontier 18 = .ok (.invokevirtual 103, 3) := by decide +kernel
theorem dX5_readsFrontier_21 : decode cX5_readsFrontier 21 = .ok (.bipush 117, 2) := by decide +kernel
theorem dX5_readsFrontier_23 : decode cX5_readsFrontier 23 = .ok (.if_icmp .ne 7, 3) := by decide +kernel
theorem dX5_readsFrontier_26 : decode cX5_readsFrontier 26 = .ok (.iconst 1, 1) := by decide +kernel
theorem dX5_readsFrontier_27 : decode cX5_readsFrontier 27 = .ok (.goto 4, 3) := by decide +kernel
theorem dX5_readsFrontier_30 : decode cX5_readsFrontier 30 = .ok (.iconst 0, 1) := by decide +kernel
theorem dX5_readsFrontier_31 : decode cX5_readsFrontier 31 = .ok (.istore_n 3, 1) := by decide +kernel
theorem dX5_readsFrontier_32 : decode cX5_readsFrontier 32 = .ok (.aload_n 0, 1) := by decide +kernel
theorem dX5_readsFrontier_33 : decode cX5_readsFrontier 33 = .ok (.dup, 1) := by decide +kernel
theorem dX5_readsFrontier_34 : decode cX5_readsFrontier 34 = .ok (.getfield 100, 3) := by decide +kernel
theorem dX5_readsFrontier_37 : decode cX5_readsFrontier 37 = .ok (.iload_n 3, 1) := by decide +kernel
theorem dX5_readsFrontier_38 : decode cX5_readsFrontier 38 = .ok (.ifCond .eq 7, 3) := by decide +kernel
theorem dX5_readsFrontier_41 : decode cX5_readsFrontier 41 = .ok (.iconst 1, 1) := by decide +kernel
theorem dX5_readsFrontier_42 : decode cX5_readsFrontier 42 = .ok (.goto 4, 3) := by decide +kernel
theorem dX5_readsFrontier_45 : decode cX5_readsFrontier 45 = .ok (.iconst 0, 1) := by decide +kernel
theorem dX5_readsFrontier_46 : decode cX5_readsFrontier 46 = .ok (.iadd, 1) := by decide +kernel
theorem dX5_readsFrontier_47 : decode cX5_readsFrontier 47 = .ok (.putfield 100, 3) := by decide +kernel
theorem dX5_readsFrontier_50 : decode cX5_readsFrontier 50 = .ok (.aload_n 0, 1) := by decide +kernel
theorem dX5_readsFrontier_51 : decode cX5_readsFrontier 51 = .ok (.iload_n 3, 1) := by decide +kernel
theorem dX5_readsFrontier_52 : decode cX5_readsFrontier 52 = .ok (.ifCond .eq 13, 3) := by decide +kernel
theorem dX5_readsFrontier_55 : decode cX5_readsFrontier 55 = .ok (.aload_n 0, 1) := by decide +kernel
theorem dX5_readsFrontier_56 : decode cX5_readsFrontier 56 = .ok (.iload_n 1, 1) := by decide +kernel
theorem dX5_readsFrontier_57 : decode cX5_readsFrontier 57 = .ok (.iload_n 2, 1) := by decide +kernel
theorem dX5_readsFrontier_58 : decode cX5_readsFrontier 58 = .ok (.iconst 0, 1) := by decide +kernel
theorem dX5_readsFrontier_59 : decode cX5_readsFrontier 59 = .ok (.invokevirtual 112, 3) := by decide +kernel
theorem dX5_readsFrontier_62 : decode cX5_readsFrontier 62 = .ok (.goto 5, 3) := by decide +kernel
theorem dX5_readsFrontier_65 : decode cX5_readsFrontier 65 = .ok (.bipush (-9), 2) := by decide +kernel
theorem dX5_readsFrontier_67 : decode cX5_readsFrontier 67 = .ok (.putfield 119, 3) := by decide +kernel
theorem dX5_readsFrontier_70 : decode cX5_readsFrontier 70 = .ok (.aload_n 0, 1) := by decide +kernel
theorem dX5_readsFrontier_71 : decode cX5_readsFrontier 71 = .ok (.getfield 119, 3) := by decide +kernel
theorem dX5_readsFrontier_74 : decode cX5_readsFrontier 74 = .ok (.ifCond .lt 7, 3) := by decide +kernel
theorem dX5_readsFrontier_77 : decode cX5_readsFrontier 77 = .ok (.iconst 1, 1) := by decide +kernel
theorem dX5_readsFrontier_78 : decode cX5_readsFrontier 78 = .ok (.goto 4, 3) := by decide +kernel
theorem dX5_readsFrontier_81 : decode cX5_readsFrontier 81 = .ok (.iconst 0, 1) := by decide +kernel
theorem dX5_readsFrontier_82 : decode cX5_readsFrontier 82 = .ok (.istore_n 3, 1) := by decide +kernel
theorem dX5_readsFrontier_83 : decode cX5_readsFrontier 83 = .ok (.iload_n 3, 1) := by decide +kernel
theorem dX5_readsFrontier_84 : decode cX5_readsFrontier 84 = .ok (.ifCond .eq 31, 3) := by decide +kernel
theorem dX5_readsFrontier_87 : decode cX5_readsFrontier 87 = .ok (.aload_n 0, 1) := by decide +kernel
theorem dX5_readsFrontier_88 : decode cX5_readsFrontier 88 = .ok (.getfield 109, 3) := by decide +kernel
theorem dX5_readsFrontier_91 : decode cX5_readsFrontier 91 = .ok (.ifCond .eq 14, 3) := by decide +kernel
theorem dX5_readsFrontier_94 : decode cX5_readsFrontier 94 = .ok (.aload_n 0, 1) := by decide +kernel
theorem dX5_readsFrontier_95 : decode cX5_readsFrontier 95 = .ok (.iload_n 1, 1) := by decide +kernel
theorem dX5_readsFrontier_96 : decode cX5_readsFrontier 96 = .ok (.iload_n 2, 1) := by decide +kernel
theorem dX5_readsFrontier_97 : decode cX5_readsFrontier 97 = .ok (.invokevirtual 103, 3) := by decide +kernel
theorem dX5_readsFrontier_100 : decode cX5_readsFrontier 100 = .ok (.bipush 59, 2) := by decide +kernel
theorem dX5_readsFrontier_102 : decode cX5_readsFrontier 102 = .ok (.if_icmp .ne 13, 3) := by decide +kernel
theorem dX5_readsFrontier_105 : decode cX5_readsFrontier 105 = .ok (.aload_n 0, 1) := by decide +kernel
theorem dX5_readsFrontier_106 : decode cX5_readsFrontier 106 = .ok (.iload_n 1, 1) := by decide +kernel
theorem dX5_readsFrontier_107 : decode cX5_readsFrontier 107 = .ok (.iload_n 2, 1) := by decide +kernel
theorem dX5_readsFrontier_108 : decode cX5_readsFrontier 108 = .ok (.invokevirtual 122, 3) := by decide +kernel
theorem dX5_readsFrontier_111 : decode cX5_readsFrontier 111 = .ok (.istore_n 3, 1) := by decide +kernel
theorem dX5_readsFrontier_112 : decode cX5_readsFrontier 112 = .ok (.goto (-29), 3) := by decide +kernel
theorem dX5_readsFrontier_115 : decode cX5_readsFrontier 115 = .ok (.iload_n 3, 1) := by decide +kernel
theorem dX5_readsFrontier_116 : decode cX5_readsFrontier 116 = .ok (.ifCond .eq 28, 3) := by decide +kernel
theorem dX5_readsFrontier_119 : decode cX5_readsFrontier 119 = .ok (.aload_n 0, 1) := by decide +kernel
theorem dX5_readsFrontier_120 : decode cX5_readsFrontier 120 = .ok (.getfield 116, 3) := by decide +kernel
theorem dX5_readsFrontier_123 : decode cX5_readsFrontier 123 = .ok (.ifCond .eq 11, 3) := by decide +kernel
theorem dX5_readsFrontier_126 : decode cX5_readsFrontier 126 = .ok (.aload_n 0, 1) := by decide +kernel
theorem dX5_readsFrontier_127 : decode cX5_readsFrontier 127 = .ok (.getfield 100, 3) := by decide +kernel
theorem dX5_readsFrontier_130 : decode cX5_readsFrontier 130 = .ok (.iload_n 2, 1) := by decide +kernel
theorem dX5_readsFrontier_131 : decode cX5_readsFrontier 131 = .ok (.if_icmp .ge 13, 3) := by decide +kernel
theorem dX5_readsFrontier_134 : decode cX5_readsFrontier 134 = .ok (.aload_n 0, 1) := by decide +kernel
theorem dX5_readsFrontier_135 : decode cX5_readsFrontier 135 = .ok (.iload_n 1, 1) := by decide +kernel
theorem dX5_readsFrontier_136 : decode cX5_readsFrontier 136 = .ok (.iload_n 2, 1) := by decide +kernel
theorem dX5_readsFrontier_137 : decode cX5_readsFrontier 137 = .ok (.invokevirtual 126, 3) := by decide +kernel
theorem dX5_readsFrontier_140 : decode cX5_readsFrontier 140 = .ok (.istore_n 3, 1) := by decide +kernel
theorem dX5_readsFrontier_141 : decode cX5_readsFrontier 141 = .ok (.goto (-26), 3) := by decide +kernel
theorem dX5_readsFrontier_144 : decode cX5_readsFrontier 144 = .ok (.iload_n 3, 1) := by decide +kernel
theorem dX5_readsFrontier_145 : decode cX5_readsFrontier 145 = .ok (.ireturn, 1) := by decide +kernel
theorem dX5_cellsBarred_0 : decode cX5_cellsBarred 0 = .ok (.aload_n 0, 1) := by decide +kernel
theorem dX5_cellsBarred_1 : decode cX5_cellsBarred 1 = .ok (.getfield 61, 3) := by decide +kernel
theorem dX5_cellsBarred_4 : decode cX5_cellsBarred 4 = .ok (.iload_n 1, 1) := by decide +kernel
theorem dX5_cellsBarred_5 : decode cX5_cellsBarred 5 = .ok (.iaload, 1) := by decide +kernel
theorem dX5_cellsBarred_6 : decode cX5_cellsBarred 6 = .ok (.ifCond .lt 19, 3) := by decide +kernel
theorem dX5_cellsBarred_9 : decode cX5_cellsBarred 9 = .ok (.aload_n 0, 1) := by decide +kernel
theorem dX5_cellsBarred_10 : decode cX5_cellsBarred 10 = .ok (.getfield 64, 3) := by decide +kernel
theorem dX5_cellsBarred_13 : decode cX5_cellsBarred 13 = .ok (.iload_n 1, 1) := by decide +kernel
theorem dX5_cellsBarred_14 : decode cX5_cellsBarred 14 = .ok (.iaload, 1) := by decide +kernel
theorem dX5_cellsBarred_15 : decode cX5_cellsBarred 15 = .ok (.iload_n 2, 1) := by decide +kernel
theorem dX5_cellsBarred_16 : decode cX5_cellsBarred 16 = .ok (.if_icmp .eq 9, 3) := by decide +kernel
theorem dX5_cellsBarred_19 : decode cX5_cellsBarred 19 = .ok (.aload_n 0, 1) := by decide +kernel
theorem dX5_cellsBarred_20 : decode cX5_cellsBarred 20 = .ok (.iconst 2, 1) := by decide +kernel
theorem dX5_cellsBarred_21 : decode cX5_cellsBarred 21 = .ok (.invokevirtual 129, 3) := by decide +kernel
theorem dX5_cellsBarred_24 : decode cX5_cellsBarred 24 = .ok (.ireturn, 1) := by decide +kernel
theorem dX5_cellsBarred_25 : decode cX5_cellsBarred 25 = .ok (.aload_n 0, 1) := by decide +kernel
theorem dX5_cellsBarred_26 : decode cX5_cellsBarred 26 = .ok (.getfield 61, 3) := by decide +kernel
theorem dX5_cellsBarred_29 : decode cX5_cellsBarred 29 = .ok (.iload_n 1, 1) := by decide +kernel
theorem dX5_cellsBarred_30 : decode cX5_cellsBarred 30 = .ok (.iaload, 1) := by decide +kernel
theorem dX5_cellsBarred_31 : decode cX5_cellsBarred 31 = .ok (.ifCond .ge 9, 3) := by decide +kernel
theorem dX5_cellsBarred_34 : decode cX5_cellsBarred 34 = .ok (.aload_n 0, 1) := by decide +kernel
theorem dX5_cellsBarred_35 : decode cX5_cellsBarred 35 = .ok (.iconst 1, 1) := by decide +kernel
theorem dX5_cellsBarred_36 : decode cX5_cellsBarred 36 = .ok (.invokevirtual 129, 3) := by decide +kernel
theorem dX5_cellsBarred_39 : decode cX5_cellsBarred 39 = .ok (.ireturn, 1) := by decide +kernel
theorem dX5_cellsBarred_40 : decode cX5_cellsBarred 40 = .ok (.lload 4, 2) := by decide +kernel
theorem dX5_cellsBarred_42 : decode cX5_cellsBarred 42 = .ok (.lconst 0, 1) := by decide +kernel
theorem dX5_cellsBarred_43 : decode cX5_cellsBarred 43 = .ok (.lcmp, 1) := by decide +kernel
theorem dX5_cellsBarred_44 : decode cX5_cellsBarred 44 = .ok (.ifCond .ge 9, 3) := by decide +kernel
theorem dX5_cellsBarred_47 : decode cX5_cellsBarred 47 = .ok (.aload_n 0, 1) := by decide +kernel
theorem dX5_cellsBarred_48 : decode cX5_cellsBarred 48 = .ok (.iconst 4, 1) := by decide +kernel
theorem dX5_cellsBarred_49 : decode cX5_cellsBarred 49 = .ok (.invokevirtual 129, 3) := by decide +kernel
theorem dX5_cellsBarred_52 : decode cX5_cellsBarred 52 = .ok (.ireturn, 1) := by decide +kernel
theorem dX5_cellsBarred_53 : decode cX5_cellsBarred 53 = .ok (.iload_n 3, 1) := by decide +kernel
theorem dX5_cellsBarred_54 : decode cX5_cellsBarred 54 = .ok (.lload 4, 2) := by decide +kernel
theorem dX5_cellsBarred_56 : decode cX5_cellsBarred 56 = .ok (.aload_n 0, 1) := by decide +kernel
theorem dX5_cellsBarred_57 : decode cX5_cellsBarred 57 = .ok (.getfield 61, 3) := by decide +kernel
theorem dX5_cellsBarred_60 : decode cX5_cellsBarred 60 = .ok (.iload_n 1, 1) := by decide +kernel
theorem dX5_cellsBarred_61 : decode cX5_cellsBarred 61 = .ok (.iaload, 1) := by decide +kernel
theorem dX5_cellsBarred_62 : decode cX5_cellsBarred 62 = .ok (.invokestatic 133, 3) := by decide +kernel
theorem dX5_cellsBarred_65 : decode cX5_cellsBarred 65 = .ok (.ifCond .eq 11, 3) := by decide +kernel
theorem dX5_cellsBarred_68 : decode cX5_cellsBarred 68 = .ok (.aload_n 0, 1) := by decide +kernel
theorem dX5_cellsBarred_69 : decode cX5_cellsBarred 69 = .ok (.iconst 3, 1) := by decide +kernel
theorem dX5_cellsBarred_70 : decode cX5_cellsBarred 70 = .ok (.invokevirtual 129, 3) := by decide +kernel
theorem dX5_cellsBarred_73 : decode cX5_cellsBarred 73 = .ok (.goto 4, 3) := by decide +kernel
theorem dX5_cellsBarred_76 : decode cX5_cellsBarred 76 = .ok (.iconst 0, 1) := by decide +kernel
theorem dX5_cellsBarred_77 : decode cX5_cellsBarred 77 = .ok (.ireturn, 1) := by decide +kernel
theorem dX5_frontier_0 : decode cX5_frontier 0 = .ok (.iload_n 1, 1) := by decide +kernel
theorem dX5_frontier_1 : decode cX5_frontier 1 = .ok (.invokestatic 137, 3) := by decide +kernel
theorem dX5_frontier_4 : decode cX5_frontier 4 = .ok (.ifCond .eq 9, 3) := by decide +kernel
theorem dX5_frontier_7 : decode cX5_frontier 7 = .ok (.aload_n 0, 1) := by decide +kernel
theorem dX5_frontier_8 : decode cX5_frontier 8 = .ok (.iconst (-1), 1) := by decide +kernel
theorem dX5_frontier_9 : decode cX5_frontier 9 = .ok (.invokevirtual 141, 3) := by decide +kernel
theorem dX5_frontier_12 : decode cX5_frontier 12 = .ok (.ireturn, 1) := by decide +kernel
theorem dX5_frontier_13 : decode cX5_frontier 13 = .ok (.iload_n 2, 1) := by decide +kernel
theorem dX5_frontier_14 : decode cX5_frontier 14 = .ok (.i2l, 1) := by decide +kernel
theorem dX5_frontier_15 : decode cX5_frontier 15 = .ok (.lconst 0, 1) := by decide +kernel
theorem dX5_frontier_16 : decode cX5_frontier 16 = .ok (.ldc2_w 98, 3) := by decide +kernel
theorem dX5_frontier_19 : decode cX5_frontier 19 = .ok (.invokestatic 91, 3) := by decide +kernel
theorem dX5_frontier_22 : decode cX5_frontier 22 = .ok (.ifCond .ne 10, 3) := by decide +kernel
theorem dX5_frontier_25 : decode cX5_frontier 25 = .ok (.aload_n 0, 1) := by decide +kernel
theorem dX5_frontier_26 : decode cX5_frontier 26 = .ok (.bipush (-2), 2) := by decide +kernel
theorem dX5_frontier_28 : decode cX5_frontier 28 = .ok (.invokevirtual 141, 3) := by decide +kernel
theorem dX5_frontier_31 : decode cX5_frontier 31 = .ok (.ireturn, 1) := by decide +kernel
theorem dX5_frontier_32 : decode cX5_frontier 32 = .ok (.aload_n 0, 1) := by decide +kernel
theorem dX5_frontier_33 : decode cX5_frontier 33 = .ok (.iload_n 1, 1) := by decide +kernel
theorem dX5_frontier_34 : decode cX5_frontier 34 = .ok (.iload_n 2, 1) := by decide +kernel
theorem dX5_frontier_35 : decode cX5_frontier 35 = .ok (.iload_n 3, 1) := by decide +kernel
theorem dX5_frontier_36 : decode cX5_frontier 36 = .ok (.iload 4, 2) := by decide +kernel
theorem dX5_frontier_38 : decode cX5_frontier 38 = .ok (.i2l, 1) := by decide +kernel
theorem dX5_frontier_39 : decode cX5_frontier 39 = .ok (.invokevirtual 144, 3) := by decide +kernel
theorem dX5_frontier_42 : decode cX5_frontier 42 = .ok (.istore 5, 2) := by decide +kernel
theorem dX5_frontier_44 : decode cX5_frontier 44 = .ok (.iload 5, 2) := by decide +kernel
theorem dX5_frontier_46 : decode cX5_frontier 46 = .ok (.ifCond .ge 6, 3) := by decide +kernel
theorem dX5_frontier_49 : decode cX5_frontier 49 = .ok (.iload 5, 2) := by decide +kernel
theorem dX5_frontier_51 : decode cX5_frontier 51 = .ok (.ireturn, 1) := by decide +kernel
theorem dX5_frontier_52 : decode cX5_frontier 52 = .ok (.aload_n 0, 1) := by decide +kernel
theorem dX5_frontier_53 : decode cX5_frontier 53 = .ok (.bipush 60, 2) := by decide +kernel
theorem dX5_frontier_55 : decode cX5_frontier 55 = .ok (.iload_n 1, 1) := by decide +kernel
theorem dX5_frontier_56 : decode cX5_frontier 56 = .ok (.imul, 1) := by decide +kernel
theorem dX5_frontier_57 : decode cX5_frontier 57 = .ok (.iload_n 3, 1) := by decide +kernel
theorem dX5_frontier_58 : decode cX5_frontier 58 = .ok (.iadd, 1) := by decide +kernel
theorem dX5_frontier_59 : decode cX5_frontier 59 = .ok (.iload 4, 2) := by decide +kernel
theorem dX5_frontier_61 : decode cX5_frontier 61 = .ok (.invokevirtual 148, 3) := by decide +kernel
theorem dX5_frontier_64 : decode cX5_frontier 64 = .ok (.ifCond .ne 15, 3) := by decide +kernel
theorem dX5_frontier_67 : decode cX5_frontier 67 = .ok (.aload_n 0, 1) := by decide +kernel
theorem dX5_frontier_68 : decode cX5_frontier 68 = .ok (.bipush (-100), 2) := by decide +kernel
theorem dX5_frontier_70 : decode cX5_frontier 70 = .ok (.aload_n 0, 1) := by decide +kernel
theorem dX5_frontier_71 : decode cX5_frontier 71 = .ok (.getfield 100, 3) := by decide +kernel
theorem dX5_frontier_74 : decode cX5_frontier 74 = .ok (.isub, 1) := by decide +kernel
theorem dX5_frontier_75 : decode cX5_frontier 75 = .ok (.invokevirtual 141, 3) := by decide +kernel
theorem dX5_frontier_78 : decode cX5_frontier 78 = .ok (.ireturn, 1) := by decide +kernel
theorem dX5_frontier_79 : decode cX5_frontier 79 = .ok (.aload_n 0, 1) := by decide +kernel
theorem dX5_frontier_80 : decode cX5_frontier 80 = .ok (.aload_n 0, 1) := by decide +kernel
theorem dX5_frontier_81 : decode cX5_frontier 81 = .ok (.getfield 119, 3) := by decide +kernel
theorem dX5_frontier_84 : decode cX5_frontier 84 = .ok (.putfield 151, 3) := by decide +kernel
theorem dX5_frontier_87 : decode cX5_frontier 87 = .ok (.aload_n 0, 1) := by decide +kernel
theorem dX5_frontier_88 : decode cX5_frontier 88 = .ok (.aload_n 0, 1) := by decide +kernel
theorem dX5_frontier_89 : decode cX5_frontier 89 = .ok (.getfield 109, 3) := by decide +kernel
theorem dX5_frontier_92 : decode cX5_frontier 92 = .ok (.putfield 88, 3) := by decide +kernel
theorem dX5_frontier_95 : decode cX5_frontier 95 = .ok (.aload_n 0, 1) := by decide +kernel
theorem dX5_frontier_96 : decode cX5_frontier 96 = .ok (.aload_n 0, 1) := by decide +kernel
theorem dX5_frontier_97 : decode cX5_frontier 97 = .ok (.getfield 116, 3) := by decide +kernel
theorem dX5_frontier_100 : decode cX5_frontier 100 = .ok (.putfield 95, 3) := by decide +kernel
theorem dX5_frontier_103 : decode cX5_frontier 103 = .ok (.iconst 0, 1) := by decide +kernel
theorem dX5_frontier_104 : decode cX5_frontier 104 = .ok (.istore 6, 2) := by decide +kernel
theorem dX5_frontier_106 : decode cX5_frontier 106 = .ok (.iload 6, 2) := by decide +kernel
theorem dX5_frontier_108 : decode cX5_frontier 108 = .ok (.iconst 4, 1) := by decide +kernel
theorem dX5_frontier_109 : decode cX5_frontier 109 = .ok (.if_icmp .ge 87, 3) := by decide +kernel
theorem dX5_frontier_112 : decode cX5_frontier 112 = .ok (.aload_n 0, 1) := by decide +kernel
theorem dX5_frontier_113 : decode cX5_frontier 113 = .ok (.getfield 7, 3) := by decide +kernel
theorem dX5_frontier_116 : decode cX5_frontier 116 = .ok (.iload 6, 2) := by decide +kernel
theorem dX5_frontier_118 : decode cX5_frontier 118 = .ok (.aload_n 0, 1) := by decide +kernel
theorem dX5_frontier_119 : decode cX5_frontier 119 = .ok (.getfield 31, 3) := by decide +kernel
theorem dX5_frontier_122 : decode cX5_frontier 122 = .ok (.iload 6, 2) := by decide +kernel
theorem dX5_frontier_124 : decode cX5_frontier 124 = .ok (.iaload, 1) := by decide +kernel
theorem dX5_frontier_125 : decode cX5_frontier 125 = .ok (.iastore, 1) := by decide +kernel
theorem dX5_frontier_126 : decode cX5_frontier 126 = .ok (.aload_n 0, 1) := by decide +kernel
theorem dX5_frontier_127 : decode cX5_frontier 127 = .ok (.getfield 13, 3) := by decide +kernel
theorem dX5_frontier_130 : decode cX5_frontier 130 = .ok (.iload 6, 2) := by decide +kernel
theorem dX5_frontier_132 : decode cX5_frontier 132 = .ok (.aload_n 0, 1) := by decide +kernel
theorem dX5_frontier_133 : decode cX5_frontier 133 = .ok (.getfield 34, 3) := by decide +kernel
theorem dX5_frontier_136 : decode cX5_frontier 136 = .ok (.iload 6, 2) := by decide +kernel
theorem dX5_frontier_138 : decode cX5_frontier 138 = .ok (.iaload, 1) := by decide +kernel
theorem dX5_frontier_139 : decode cX5_frontier 139 = .ok (.iastore, 1) := by decide +kernel
theorem dX5_frontier_140 : decode cX5_frontier 140 = .ok (.aload_n 0, 1) := by decide +kernel
theorem dX5_frontier_141 : decode cX5_frontier 141 = .ok (.getfield 16, 3) := by decide +kernel
theorem dX5_frontier_144 : decode cX5_frontier 144 = .ok (.iload 6, 2) := by decide +kernel
theorem dX5_frontier_146 : decode cX5_frontier 146 = .ok (.aload_n 0, 1) := by decide +kernel
theorem dX5_frontier_147 : decode cX5_frontier 147 = .ok (.getfield 37, 3) := by decide +kernel
theorem dX5_frontier_150 : decode cX5_frontier 150 = .ok (.iload 6, 2) := by decide +kernel
theorem dX5_frontier_152 : decode cX5_frontier 152 = .ok (.iaload, 1) := by decide +kernel
theorem dX5_frontier_153 : decode cX5_frontier 153 = .ok (.iastore, 1) := by decide +kernel
theorem dX5_frontier_154 : decode cX5_frontier 154 = .ok (.aload_n 0, 1) := by decide +kernel
theorem dX5_frontier_155 : decode cX5_frontier 155 = .ok (.getfield 19, 3) := by decide +kernel
theorem dX5_frontier_158 : decode cX5_frontier 158 = .ok (.iload 6, 2) := by decide +kernel
theorem dX5_frontier_160 : decode cX5_frontier 160 = .ok (.aload_n 0, 1) := by decide +kernel
theorem dX5_frontier_161 : decode cX5_frontier 161 = .ok (.getfield 40, 3) := by decide +kernel
theorem dX5_frontier_164 : decode cX5_frontier 164 = .ok (.iload 6, 2) := by decide +kernel
theorem dX5_frontier_166 : decode cX5_frontier 166 = .ok (.iaload, 1) := by decide +kernel
theorem dX5_frontier_167 : decode cX5_frontier 167 = .ok (.iastore, 1) := by decide +kernel
theorem dX5_frontier_168 : decode cX5_frontier 168 = .ok (.aload_n 0, 1) := by decide +kernel
theorem dX5_frontier_169 : decode cX5_frontier 169 = .ok (.getfield 22, 3) := by decide +kernel
theorem dX5_frontier_172 : decode cX5_frontier 172 = .ok (.iload 6, 2) := by decide +kernel
theorem dX5_frontier_174 : decode cX5_frontier 174 = .ok (.aload_n 0, 1) := by decide +kernel
theorem dX5_frontier_175 : decode cX5_frontier 175 = .ok (.getfield 43, 3) := by decide +kernel
theorem dX5_frontier_178 : decode cX5_frontier 178 = .ok (.iload 6, 2) := by decide +kernel
theorem dX5_frontier_180 : decode cX5_frontier 180 = .ok (.iaload, 1) := by decide +kernel
theorem dX5_frontier_181 : decode cX5_frontier 181 = .ok (.iastore, 1) := by decide +kernel
theorem dX5_frontier_182 : decode cX5_frontier 182 = .ok (.aload_n 0, 1) := by decide +kernel
theorem dX5_frontier_183 : decode cX5_frontier 183 = .ok (.getfield 25, 3) := by decide +kernel
theorem dX5_frontier_186 : decode cX5_frontier 186 = .ok (.iload 6, 2) := by decide +kernel
theorem dX5_frontier_188 : decode cX5_frontier 188 = .ok (.iconst 0, 1) := by decide +kernel
theorem dX5_frontier_189 : decode cX5_frontier 189 = .ok (.iastore, 1) := by decide +kernel
theorem dX5_frontier_190 : decode cX5_frontier 190 = .ok (.iinc 6 1, 3) := by decide +kernel
theorem dX5_frontier_193 : decode cX5_frontier 193 = .ok (.goto (-87), 3) := by decide +kernel
theorem dX5_frontier_196 : decode cX5_frontier 196 = .ok (.iconst 0, 1) := by decide +kernel
theorem dX5_frontier_197 : decode cX5_frontier 197 = .ok (.istore 6, 2) := by decide +kernel
theorem dX5_frontier_199 : decode cX5_frontier 199 = .ok (.iload 6, 2) := by decide +kernel
theorem dX5_frontier_201 : decode cX5_frontier 201 = .ok (.iconst 3, 1) := by decide +kernel
theorem dX5_frontier_202 : decode cX5_frontier 202 = .ok (.if_icmp .ge 17, 3) := by decide +kernel
theorem dX5_frontier_205 : decode cX5_frontier 205 = .ok (.aload_n 0, 1) := by decide +kernel
theorem dX5_frontier_206 : decode cX5_frontier 206 = .ok (.getfield 28, 3) := by decide +kernel
theorem dX5_frontier_209 : decode cX5_frontier 209 = .ok (.iload 6, 2) := by decide +kernel
theorem dX5_frontier_211 : decode cX5_frontier 211 = .ok (.iconst 0, 1) := by decide +kernel
theorem dX5_frontier_212 : decode cX5_frontier 212 = .ok (.iastore, 1) := by decide +kernel
theorem dX5_frontier_213 : decode cX5_frontier 213 = .ok (.iinc 6 1, 3) := by decide +kernel
theorem dX5_frontier_216 : decode cX5_frontier 216 = .ok (.goto (-17), 3) := by decide +kernel
theorem dX5_frontier_219 : decode cX5_frontier 219 = .ok (.aload_n 0, 1) := by decide +kernel
theorem dX5_frontier_220 : decode cX5_frontier 220 = .ok (.aload_n 0, 1) := by decide +kernel
theorem dX5_frontier_221 : decode cX5_frontier 221 = .ok (.invokevirtual 154, 3) := by decide +kernel
theorem dX5_frontier_224 : decode cX5_frontier 224 = .ok (.putfield 158, 3) := by decide +kernel
theorem dX5_frontier_227 : decode cX5_frontier 227 = .ok (.aload_n 0, 1) := by decide +kernel
theorem dX5_frontier_228 : decode cX5_frontier 228 = .ok (.bipush 7, 2) := by decide +kernel
theorem dX5_frontier_230 : decode cX5_frontier 230 = .ok (.putfield 161, 3) := by decide +kernel
theorem dX5_frontier_233 : decode cX5_frontier 233 = .ok (.aload_n 0, 1) := by decide +kernel
theorem dX5_frontier_234 : decode cX5_frontier 234 = .ok (.iconst 0, 1) := by decide +kernel
theorem dX5_frontier_235 : decode cX5_frontier 235 = .ok (.putfield 164, 3) := by decide +kernel
theorem dX5_frontier_238 : decode cX5_frontier 238 = .ok (.aload_n 0, 1) := by decide +kernel
theorem dX5_frontier_239 : decode cX5_frontier 239 = .ok (.aload_n 0, 1) := by decide +kernel
theorem dX5_frontier_240 : decode cX5_frontier 240 = .ok (.getfield 95, 3) := by decide +kernel
theorem dX5_frontier_243 : decode cX5_frontier 243 = .ok (.invokevirtual 141, 3) := by decide +kernel
theorem dX5_frontier_246 : decode cX5_frontier 246 = .ok (.ireturn, 1) := by decide +kernel
theorem dX5_gradeOf_0 : decode cX5_gradeOf 0 = .ok (.aload_n 0, 1) := by decide +kernel
theorem dX5_gradeOf_1 : decode cX5_gradeOf 1 = .ok (.getfield 22, 3) := by decide +kernel
theorem dX5_gradeOf_4 : decode cX5_gradeOf 4 = .ok (.iload_n 1, 1) := by decide +kernel
theorem dX5_gradeOf_5 : decode cX5_gradeOf 5 = .ok (.iaload, 1) := by decide +kernel
theorem dX5_gradeOf_6 : decode cX5_gradeOf 6 = .ok (.istore_n 2, 1) := by decide +kernel
theorem dX5_gradeOf_7 : decode cX5_gradeOf 7 = .ok (.aload_n 0, 1) := by decide +kernel
theorem dX5_gradeOf_8 : decode cX5_gradeOf 8 = .ok (.getfield 16, 3) := by decide +kernel
theorem dX5_gradeOf_11 : decode cX5_gradeOf 11 = .ok (.iload_n 1, 1) := by decide +kernel
theorem dX5_gradeOf_12 : decode cX5_gradeOf 12 = .ok (.iaload, 1) := by decide +kernel
theorem dX5_gradeOf_13 : decode cX5_gradeOf 13 = .ok (.ifCond .ne 7, 3) := by decide +kernel
theorem dX5_gradeOf_16 : decode cX5_gradeOf 16 = .ok (.iload_n 2, 1) := by decide +kernel
theorem dX5_gradeOf_17 : decode cX5_gradeOf 17 = .ok (.goto 24, 3) := by decide +kernel
theorem dX5_gradeOf_20 : decode cX5_gradeOf 20 = .ok (.aload_n 0, 1) := by decide +kernel
theorem dX5_gradeOf_21 : decode cX5_gradeOf 21 = .ok (.getfield 16, 3) := by decide +kernel
theorem dX5_gradeOf_24 : decode cX5_gradeOf 24 = .ok (.iload_n 1, 1) := by decide +kernel
theorem dX5_gradeOf_25 : decode cX5_gradeOf 25 = .ok (.iaload, 1) := by decide +kernel
theorem dX5_gradeOf_26 : decode cX5_gradeOf 26 = .ok (.iconst 1, 1) := by decide +kernel
theorem dX5_gradeOf_27 : decode cX5_gradeOf 27 = .ok (.if_icmp .ne 9, 3) := by decide +kernel
theorem dX5_gradeOf_30 : decode cX5_gradeOf 30 = .ok (.iload_n 2, 1) := by decide +kernel
theorem dX5_gradeOf_31 : decode cX5_gradeOf 31 = .ok (.iconst 1, 1) := by decide +kernel
theorem dX5_gradeOf_32 : decode cX5_gradeOf 32 = .ok (.iadd, 1) := by decide +kernel
theorem dX5_gradeOf_33 : decode cX5_gradeOf 33 = .ok (.goto 8, 3) := by decide +kernel
theorem dX5_gradeOf_36 : decode cX5_gradeOf 36 = .ok (.iconst 2, 1) := by decide +kernel
theorem dX5_gradeOf_37 : decode cX5_gradeOf 37 = .ok (.iload_n 2, 1) := by decide +kernel
theorem dX5_gradeOf_38 : decode cX5_gradeOf 38 = .ok (.iconst 1, 1) := by decide +kernel
theorem dX5_gradeOf_39 : decode cX5_gradeOf 39 = .ok (.iadd, 1) := by decide +kernel
theorem dX5_gradeOf_40 : decode cX5_gradeOf 40 = .ok (.imul, 1) := by decide +kernel
theorem dX5_gradeOf_41 : decode cX5_gradeOf 41 = .ok (.ireturn, 1) := by decide +kernel
theorem dX5_isDutiable_0 : decode cX5_isDutiable 0 = .ok (.iload_n 1, 1) := by decide +kernel
theorem dX5_isDutiable_1 : decode cX5_isDutiable 1 = .ok (.aload_n 0, 1) := by decide +kernel
theorem dX5_isDutiable_2 : decode cX5_isDutiable 2 = .ok (.getfield 73, 3) := by decide +kernel
theorem dX5_isDutiable_5 : decode cX5_isDutiable 5 = .ok (.if_icmp .eq 23, 3) := by decide +kernel
theorem dX5_isDutiable_8 : decode cX5_isDutiable 8 = .ok (.aload_n 0, 1) := by decide +kernel
theorem dX5_isDutiable_9 : decode cX5_isDutiable 9 = .ok (.getfield 161, 3) := by decide +kernel
theorem dX5_isDutiable_12 : decode cX5_isDutiable 12 = .ok (.aload_n 0, 1) := by decide +kernel
theorem dX5_isDutiable_13 : decode cX5_isDutiable 13 = .ok (.getfield 16, 3) := by decide +kernel
theorem dX5_isDutiable_16 : decode cX5_isDutiable 16 = .ok (.iload_n 1, 1) := by decide +kernel
theorem dX5_isDutiable_17 : decode cX5_isDutiable 17 = .ok (.iaload, 1) := by decide +kernel
theorem dX5_isDutiable_18 : decode cX5_isDutiable 18 = .ok (.invokestatic 167, 3) := by decide +kernel
theorem dX5_isDutiable_21 : decode cX5_isDutiable 21 = .ok (.ifCond .eq 7, 3) := by decide +kernel
theorem dX5_isDutiable_24 : decode cX5_isDutiable 24 = .ok (.iconst 1, 1) := by decide +kernel
theorem dX5_isDutiable_25 : decode cX5_isDutiable 25 = .ok (.goto 4, 3) := by decide +kernel
theorem dX5_isDutiable_28 : decode cX5_isDutiable 28 = .ok (.iconst 0, 1) := by decide +kernel
theorem dX5_isDutiable_29 : decode cX5_isDutiable 29 = .ok (.ireturn, 1) := by decide +kernel
theorem dX5_ofPost_0 : decode cX5_ofPost 0 = .ok (.aload_n 0, 1) := by decide +kernel
theorem dX5_ofPost_1 : decode cX5_ofPost 1 = .ok (.iload_n 1, 1) := by decide +kernel
theorem dX5_ofPost_2 : decode cX5_ofPost 2 = .ok (.invokevirtual 170, 3) := by decide +kernel
theorem dX5_ofPost_5 : decode cX5_ofPost 5 = .ok (.ifCond .eq 5, 3) := by decide +kernel
theorem dX5_ofPost_8 : decode cX5_ofPost 8 = .ok (.iconst (-1), 1) := by decide +kernel
theorem dX5_ofPost_9 : decode cX5_ofPost 9 = .ok (.ireturn, 1) := by decide +kernel
theorem dX5_ofPost_10 : decode cX5_ofPost 10 = .ok (.iload_n 2, 1) := by decide +kernel
theorem dX5_ofPost_11 : decode cX5_ofPost 11 = .ok (.ifCond .ne 12, 3) := by decide +kernel
theorem dX5_ofPost_14 : decode cX5_ofPost 14 = .ok (.aload_n 0, 1) := by decide +kernel
theorem dX5_ofPost_15 : decode cX5_ofPost 15 = .ok (.getfield 7, 3) := by decide +kernel
theorem dX5_ofPost_18 : decode cX5_ofPost 18 = .ok (.iload_n 1, 1) := by decide +kernel
theorem dX5_ofPost_19 : decode cX5_ofPost 19 = .ok (.iaload, 1) := by decide +kernel
theorem dX5_ofPost_20 : decode cX5_ofPost 20 = .ok (.goto 19, 3) := by decide +kernel
theorem dX5_ofPost_23 : decode cX5_ofPost 23 = .ok (.iload_n 2, 1) := by decide +kernel
theorem dX5_ofPost_24 : decode cX5_ofPost 24 = .ok (.iconst 1, 1) := by decide +kernel
theorem dX5_ofPost_25 : decode cX5_ofPost 25 = .ok (.if_icmp .ne 12, 3) := by decide +kernel
theorem dX5_ofPost_28 : decode cX5_ofPost 28 = .ok (.aload_n 0, 1) := by decide +kernel
theorem dX5_ofPost_29 : decode cX5_ofPost 29 = .ok (.getfield 13, 3) := by decide +kernel
theorem dX5_ofPost_32 : decode cX5_ofPost 32 = .ok (.iload_n 1, 1) := by decide +kernel
theorem dX5_ofPost_33 : decode cX5_ofPost 33 = .ok (.iaload, 1) := by decide +kernel
theorem dX5_ofPost_34 : decode cX5_ofPost 34 = .ok (.goto 5, 3) := by decide +kernel
theorem dX5_ofPost_37 : decode cX5_ofPost 37 = .ok (.bipush (-2), 2) := by decide +kernel
theorem dX5_ofPost_39 : decode cX5_ofPost 39 = .ok (.ireturn, 1) := by decide +kernel
theorem dX5_ofSilence_0 : decode cX5_ofSilence 0 = .ok (.aload_n 0, 1) := by decide +kernel
theorem dX5_ofSilence_1 : decode cX5_ofSilence 1 = .ok (.iload_n 1, 1) := by decide +kernel
theorem dX5_ofSilence_2 : decode cX5_ofSilence 2 = .ok (.invokevirtual 173, 3) := by decide +kernel
theorem dX5_ofSilence_5 : decode cX5_ofSilence 5 = .ok (.ifCond .eq 5, 3) := by decide +kernel
theorem dX5_ofSilence_8 : decode cX5_ofSilence 8 = .ok (.iconst (-1), 1) := by decide +kernel
theorem dX5_ofSilence_9 : decode cX5_ofSilence 9 = .ok (.ireturn, 1) := by decide +kernel
theorem dX5_ofSilence_10 : decode cX5_ofSilence 10 = .ok (.iload_n 2, 1) := by decide +kernel
theorem dX5_ofSilence_11 : decode cX5_ofSilence 11 = .ok (.tableswitch 123 0 7 #[45, 52, 59, 66, 72, 85, 92, 109], 45) := by decide +kernel
theorem dX5_ofSilence_56 : decode cX5_ofSilence 56 = .ok (.aload_n 0, 1) := by decide +kernel
theorem dX5_ofSilence_57 : decode cX5_ofSilence 57 = .ok (.getfield 16, 3) := by decide +kernel
theorem dX5_ofSilence_60 : decode cX5_ofSilence 60 = .ok (.iload_n 1, 1) := by decide +kernel
theorem dX5_ofSilence_61 : decode cX5_ofSilence 61 = .ok (.iaload, 1) := by decide +kernel
theorem dX5_ofSilence_62 : decode cX5_ofSilence 62 = .ok (.ireturn, 1) := by decide +kernel
theorem dX5_ofSilence_63 : decode cX5_ofSilence 63 = .ok (.aload_n 0, 1) := by decide +kernel
theorem dX5_ofSilence_64 : decode cX5_ofSilence 64 = .ok (.getfield 19, 3) := by decide +kernel
theorem dX5_ofSilence_67 : decode cX5_ofSilence 67 = .ok (.iload_n 1, 1) := by decide +kernel
theorem dX5_ofSilence_68 : decode cX5_ofSilence 68 = .ok (.iaload, 1) := by decide +kernel
theorem dX5_ofSilence_69 : decode cX5_ofSilence 69 = .ok (.ireturn, 1) := by decide +kernel
theorem dX5_ofSilence_70 : decode cX5_ofSilence 70 = .ok (.aload_n 0, 1) := by decide +kernel
theorem dX5_ofSilence_71 : decode cX5_ofSilence 71 = .ok (.getfield 22, 3) := by decide +kernel
theorem dX5_ofSilence_74 : decode cX5_ofSilence 74 = .ok (.iload_n 1, 1) := by decide +kernel
theorem dX5_ofSilence_75 : decode cX5_ofSilence 75 = .ok (.iaload, 1) := by decide +kernel
theorem dX5_ofSilence_76 : decode cX5_ofSilence 76 = .ok (.ireturn, 1) := by decide +kernel
theorem dX5_ofSilence_77 : decode cX5_ofSilence 77 = .ok (.aload_n 0, 1) := by decide +kernel
theorem dX5_ofSilence_78 : decode cX5_ofSilence 78 = .ok (.iload_n 1, 1) := by decide +kernel
theorem dX5_ofSilence_79 : decode cX5_ofSilence 79 = .ok (.invokevirtual 176, 3) := by decide +kernel
theorem dX5_ofSilence_82 : decode cX5_ofSilence 82 = .ok (.ireturn, 1) := by decide +kernel
theorem dX5_ofSilence_83 : decode cX5_ofSilence 83 = .ok (.aload_n 0, 1) := by decide +kernel
theorem dX5_ofSilence_84 : decode cX5_ofSilence 84 = .ok (.getfield 19, 3) := by decide +kernel
theorem dX5_ofSilence_87 : decode cX5_ofSilence 87 = .ok (.iload_n 1, 1) := by decide +kernel
theorem dX5_ofSilence_88 : decode cX5_ofSilence 88 = .ok (.iaload, 1) := by decide +kernel
theorem dX5_ofSilence_89 : decode cX5_ofSilence 89 = .ok (.aload_n 0, 1) := by decide +kernel
theorem dX5_ofSilence_90 : decode cX5_ofSilence 90 = .ok (.iload_n 1, 1) := by decide +kernel
theorem dX5_ofSilence_91 : decode cX5_ofSilence 91 = .ok (.invokevirtual 176, 3) := by decide +kernel
theorem dX5_ofSilence_94 : decode cX5_ofSilence 94 = .ok (.imul, 1) := by decide +kernel
theorem dX5_ofSilence_95 : decode cX5_ofSilence 95 = .ok (.ireturn, 1) := by decide +kernel
theorem dX5_ofSilence_96 : decode cX5_ofSilence 96 = .ok (.aload_n 0, 1) := by decide +kernel
theorem dX5_ofSilence_97 : decode cX5_ofSilence 97 = .ok (.getfield 25, 3) := by decide +kernel
theorem dX5_ofSilence_100 : decode cX5_ofSilence 100 = .ok (.iload_n 1, 1) := by decide +kernel
theorem dX5_ofSilence_101 : decode cX5_ofSilence 101 = .ok (.iaload, 1) := by decide +kernel
theorem dX5_ofSilence_102 : decode cX5_ofSilence 102 = .ok (.ireturn, 1) := by decide +kernel
theorem dX5_ofSilence_103 : decode cX5_ofSilence 103 = .ok (.aload_n 0, 1) := by decide +kernel
theorem dX5_ofSilence_104 : decode cX5_ofSilence 104 = .ok (.getfield 158, 3) := by decide +kernel
theorem dX5_ofSilence_107 : decode cX5_ofSilence 107 = .ok (.iload_n 1, 1) := by decide +kernel
theorem dX5_ofSilence_108 : decode cX5_ofSilence 108 = .ok (.invokestatic 167, 3) := by decide +kernel
theorem dX5_ofSilence_111 : decode cX5_ofSilence 111 = .ok (.ifCond .eq 7, 3) := by decide +kernel
theorem dX5_ofSilence_114 : decode cX5_ofSilence 114 = .ok (.iconst 1, 1) := by decide +kernel
theorem dX5_ofSilence_115 : decode cX5_ofSilence 115 = .ok (.goto 4, 3) := by decide +kernel
theorem dX5_ofSilence_118 : decode cX5_ofSilence 118 = .ok (.iconst 0, 1) := by decide +kernel
theorem dX5_ofSilence_119 : decode cX5_ofSilence 119 = .ok (.ireturn, 1) := by decide +kernel
theorem dX5_ofSilence_120 : decode cX5_ofSilence 120 = .ok (.aload_n 0, 1) := by decide +kernel
theorem dX5_ofSilence_121 : decode cX5_ofSilence 121 = .ok (.iload_n 1, 1) := by decide +kernel
theorem dX5_ofSilence_122 : decode cX5_ofSilence 122 = .ok (.invokevirtual 179, 3) := by decide +kernel
theorem dX5_ofSilence_125 : decode cX5_ofSilence 125 = .ok (.ifCond .eq 7, 3) := by decide +kernel
theorem dX5_ofSilence_128 : decode cX5_ofSilence 128 = .ok (.iconst 1, 1) := by decide +kernel
theorem dX5_ofSilence_129 : decode cX5_ofSilence 129 = .ok (.goto 4, 3) := by decide +kernel
theorem dX5_ofSilence_132 : decode cX5_ofSilence 132 = .ok (.iconst 0, 1) := by decide +kernel
theorem dX5_ofSilence_133 : decode cX5_ofSilence 133 = .ok (.ireturn, 1) := by decide +kernel
theorem dX5_ofSilence_134 : decode cX5_ofSilence 134 = .ok (.bipush (-2), 2) := by decide +kernel
theorem dX5_ofSilence_136 : decode cX5_ofSilence 136 = .ok (.ireturn, 1) := by decide +kernel
theorem dX5_free_0 : decode cX5_free 0 = .ok (.iload_n 1, 1) := by decide +kernel
theorem dX5_free_1 : decode cX5_free 1 = .ok (.i2l, 1) := by decide +kernel
theorem dX5_free_2 : decode cX5_free 2 = .ok (.lconst 0, 1) := by decide +kernel
theorem dX5_free_3 : decode cX5_free 3 = .ok (.ldc2_w 107, 3) := by decide +kernel
theorem dX5_free_6 : decode cX5_free 6 = .ok (.invokestatic 91, 3) := by decide +kernel
theorem dX5_free_9 : decode cX5_free 9 = .ok (.ifCond .ne 6, 3) := by decide +kernel
theorem dX5_free_12 : decode cX5_free 12 = .ok (.bipush (-2), 2) := by decide +kernel
theorem dX5_free_14 : decode cX5_free 14 = .ok (.ireturn, 1) := by decide +kernel
theorem dX5_free_15 : decode cX5_free 15 = .ok (.aload_n 0, 1) := by decide +kernel
theorem dX5_free_16 : decode cX5_free 16 = .ok (.getfield 95, 3) := by decide +kernel
theorem dX5_free_19 : decode cX5_free 19 = .ok (.ifCond .ne 6, 3) := by decide +kernel
theorem dX5_free_22 : decode cX5_free 22 = .ok (.bipush (-3), 2) := by decide +kernel
theorem dX5_free_24 : decode cX5_free 24 = .ok (.ireturn, 1) := by decide +kernel
theorem dX5_free_25 : decode cX5_free 25 = .ok (.aload_n 0, 1) := by decide +kernel
theorem dX5_free_26 : decode cX5_free 26 = .ok (.getfield 151, 3) := by decide +kernel
theorem dX5_free_29 : decode cX5_free 29 = .ok (.istore_n 2, 1) := by decide +kernel
theorem dX5_free_30 : decode cX5_free 30 = .ok (.aload_n 0, 1) := by decide +kernel
theorem dX5_free_31 : decode cX5_free 31 = .ok (.iload_n 1, 1) := by decide +kernel
theorem dX5_free_32 : decode cX5_free 32 = .ok (.putfield 151, 3) := by decide +kernel
theorem dX5_free_35 : decode cX5_free 35 = .ok (.iload_n 2, 1) := by decide +kernel
theorem dX5_free_36 : decode cX5_free 36 = .ok (.ireturn, 1) := by decide +kernel
theorem dX5_law_0 : decode cX5_law 0 = .ok (.iload_n 1, 1) := by decide +kernel
theorem dX5_law_1 : decode cX5_law 1 = .ok (.i2l, 1) := by decide +kernel
theorem dX5_law_2 : decode cX5_law 2 = .ok (.lconst 0, 1) := by decide +kernel
theorem dX5_law_3 : decode cX5_law 3 = .ok (.ldc2_w 182, 3) := by decide +kernel
theorem dX5_law_6 : decode cX5_law 6 = .ok (.invokestatic 91, 3) := by decide +kernel
theorem dX5_law_9 : decode cX5_law 9 = .ok (.ifCond .ne 6, 3) := by decide +kernel
theorem dX5_law_12 : decode cX5_law 12 = .ok (.bipush (-2), 2) := by decide +kernel
theorem dX5_law_14 : decode cX5_law 14 = .ok (.ireturn, 1) := by decide +kernel
theorem dX5_law_15 : decode cX5_law 15 = .ok (.aload_n 0, 1) := by decide +kernel
theorem dX5_law_16 : decode cX5_law 16 = .ok (.getfield 95, 3) := by decide +kernel
theorem dX5_law_19 : decode cX5_law 19 = .ok (.ifCond .ne 6, 3) := by decide +kernel
theorem dX5_law_22 : decode cX5_law 22 = .ok (.bipush (-3), 2) := by decide +kernel
theorem dX5_law_24 : decode cX5_law 24 = .ok (.ireturn, 1) := by decide +kernel
theorem dX5_law_25 : decode cX5_law 25 = .ok (.aload_n 0, 1) := by decide +kernel
theorem dX5_law_26 : decode cX5_law 26 = .ok (.getfield 161, 3) := by decide +kernel
theorem dX5_law_29 : decode cX5_law 29 = .ok (.istore_n 2, 1) := by decide +kernel
theorem dX5_law_30 : decode cX5_law 30 = .ok (.aload_n 0, 1) := by decide +kernel
theorem dX5_law_31 : decode cX5_law 31 = .ok (.iload_n 1, 1) := by decide +kernel
theorem dX5_law_32 : decode cX5_law 32 = .ok (.putfield 161, 3) := by decide +kernel
theorem dX5_law_35 : decode cX5_law 35 = .ok (.iload_n 2, 1) := by decide +kernel
theorem dX5_law_36 : decode cX5_law 36 = .ok (.ireturn, 1) := by decide +kernel
theorem dX5_carry_0 : decode cX5_carry 0 = .ok (.aload_n 0, 1) := by decide +kernel
theorem dX5_carry_1 : decode cX5_carry 1 = .ok (.iload_n 1, 1) := by decide +kernel
theorem dX5_carry_2 : decode cX5_carry 2 = .ok (.invokevirtual 173, 3) := by decide +kernel
theorem dX5_carry_5 : decode cX5_carry 5 = .ok (.ifCond .ne 10, 3) := by decide +kernel
theorem dX5_carry_8 : decode cX5_carry 8 = .ok (.iload_n 2, 1) := by decide +kernel
theorem dX5_carry_9 : decode cX5_carry 9 = .ok (.invokestatic 184, 3) := by decide +kernel
theorem dX5_carry_12 : decode cX5_carry 12 = .ok (.ifCond .eq 5, 3) := by decide +kernel
theorem dX5_carry_15 : decode cX5_carry 15 = .ok (.iconst (-1), 1) := by decide +kernel
theorem dX5_carry_16 : decode cX5_carry 16 = .ok (.ireturn, 1) := by decide +kernel
theorem dX5_carry_17 : decode cX5_carry 17 = .ok (.aload_n 0, 1) := by decide +kernel
theorem dX5_carry_18 : decode cX5_carry 18 = .ok (.getfield 25, 3) := by decide +kernel
theorem dX5_carry_21 : decode cX5_carry 21 = .ok (.iload_n 1, 1) := by decide +kernel
theorem dX5_carry_22 : decode cX5_carry 22 = .ok (.iaload, 1) := by decide +kernel
theorem dX5_carry_23 : decode cX5_carry 23 = .ok (.istore_n 3, 1) := by decide +kernel
theorem dX5_carry_24 : decode cX5_carry 24 = .ok (.aload_n 0, 1) := by decide +kernel
theorem dX5_carry_25 : decode cX5_carry 25 = .ok (.getfield 25, 3) := by decide +kernel
theorem dX5_carry_28 : decode cX5_carry 28 = .ok (.iload_n 1, 1) := by decide +kernel
theorem dX5_carry_29 : decode cX5_carry 29 = .ok (.iload_n 2, 1) := by decide +kernel
theorem dX5_carry_30 : decode cX5_carry 30 = .ok (.iastore, 1) := by decide +kernel
theorem dX5_carry_31 : decode cX5_carry 31 = .ok (.iload_n 3, 1) := by decide +kernel
theorem dX5_carry_32 : decode cX5_carry 32 = .ok (.ireturn, 1) := by decide +kernel
theorem dX5_declare_0 : decode cX5_declare 0 = .ok (.aload_n 0, 1) := by decide +kernel
theorem dX5_declare_1 : decode cX5_declare 1 = .ok (.iload_n 1, 1) := by decide +kernel
theorem dX5_declare_2 : decode cX5_declare 2 = .ok (.invokevirtual 173, 3) := by decide +kernel
theorem dX5_declare_5 : decode cX5_declare 5 = .ok (.ifCond .eq 5, 3) := by decide +kernel
theorem dX5_declare_8 : decode cX5_declare 8 = .ok (.iconst (-1), 1) := by decide +kernel
theorem dX5_declare_9 : decode cX5_declare 9 = .ok (.ireturn, 1) := by decide +kernel
theorem dX5_declare_10 : decode cX5_declare 10 = .ok (.aload_n 0, 1) := by decide +kernel
theorem dX5_declare_11 : decode cX5_declare 11 = .ok (.getfield 158, 3) := by decide +kernel
theorem dX5_declare_14 : decode cX5_declare 14 = .ok (.iload_n 1, 1) := by decide +kernel
theorem dX5_declare_15 : decode cX5_declare 15 = .ok (.invokestatic 167, 3) := by decide +kernel
theorem dX5_declare_18 : decode cX5_declare 18 = .ok (.istore_n 3, 1) := by decide +kernel
theorem dX5_declare_19 : decode cX5_declare 19 = .ok (.aload_n 0, 1) := by decide +kernel
theorem dX5_declare_20 : decode cX5_declare 20 = .ok (.iload_n 2, 1) := by decide +kernel
theorem dX5_declare_21 : decode cX5_declare 21 = .ok (.ifCond .eq 14, 3) := by decide +kernel
theorem dX5_declare_24 : decode cX5_declare 24 = .ok (.aload_n 0, 1) := by decide +kernel
theorem dX5_declare_25 : decode cX5_declare 25 = .ok (.getfield 158, 3) := by decide +kernel
theorem dX5_declare_28 : decode cX5_declare 28 = .ok (.iconst 1, 1) := by decide +kernel
theorem dX5_declare_29 : decode cX5_declare 29 = .ok (.iload_n 1, 1) := by decide +kernel
theorem dX5_declare_30 : decode cX5_declare 30 = .ok (.ishl, 1) := by decide +kernel
theorem dX5_declare_31 : decode cX5_declare 31 = .ok (.ior, 1) := by decide +kernel
theorem dX5_declare_32 : decode cX5_declare 32 = .ok (.goto 13, 3) := by decide +kernel
theorem dX5_declare_35 : decode cX5_declare 35 = .ok (.aload_n 0, 1) := by decide +kernel
theorem dX5_declare_36 : decode cX5_declare 36 = .ok (.getfield 158, 3) := by decide +kernel
theorem dX5_declare_39 : decode cX5_declare 39 = .ok (.iconst 1, 1) := by decide +kernel
theorem dX5_declare_40 : decode cX5_declare 40 = .ok (.iload_n 1, 1) := by decide +kernel
theorem dX5_declare_41 : decode cX5_declare 41 = .ok (.ishl, 1) := by decide +kernel
theorem dX5_declare_42 : decode cX5_declare 42 = .ok (.iconst (-1), 1) := by decide +kernel
theorem dX5_declare_43 : decode cX5_declare 43 = .ok (.ixor, 1) := by decide +kernel
theorem dX5_declare_44 : decode cX5_declare 44 = .ok (.iand, 1) := by decide +kernel
theorem dX5_declare_45 : decode cX5_declare 45 = .ok (.putfield 158, 3) := by decide +kernel
theorem dX5_declare_48 : decode cX5_declare 48 = .ok (.iload_n 3, 1) := by decide +kernel
theorem dX5_declare_49 : decode cX5_declare 49 = .ok (.iload_n 2, 1) := by decide +kernel
theorem dX5_declare_50 : decode cX5_declare 50 = .ok (.if_icmp .ne 7, 3) := by decide +kernel
theorem dX5_declare_53 : decode cX5_declare 53 = .ok (.iconst 0, 1) := by decide +kernel
theorem dX5_declare_54 : decode cX5_declare 54 = .ok (.goto 4, 3) := by decide +kernel
theorem dX5_declare_57 : decode cX5_declare 57 = .ok (.iconst 1, 1) := by decide +kernel
theorem dX5_declare_58 : decode cX5_declare 58 = .ok (.ireturn, 1) := by decide +kernel
theorem dX5_hum_0 : decode cX5_hum 0 = .ok (.iload_n 1, 1) := by decide +kernel
theorem dX5_hum_1 : decode cX5_hum 1 = .ok (.invokestatic 184, 3) := by decide +kernel
theorem dX5_hum_4 : decode cX5_hum 4 = .ok (.ifCond .eq 5, 3) := by decide +kernel
theorem dX5_hum_7 : decode cX5_hum 7 = .ok (.iconst (-1), 1) := by decide +kernel
theorem dX5_hum_8 : decode cX5_hum 8 = .ok (.ireturn, 1) := by decide +kernel
theorem dX5_hum_9 : decode cX5_hum 9 = .ok (.iload_n 2, 1) := by decide +kernel
theorem dX5_hum_10 : decode cX5_hum 10 = .ok (.i2l, 1) := by decide +kernel
theorem dX5_hum_11 : decode cX5_hum 11 = .ok (.lconst 0, 1) := by decide +kernel
theorem dX5_hum_12 : decode cX5_hum 12 = .ok (.ldc2_w 107, 3) := by decide +kernel
theorem dX5_hum_15 : decode cX5_hum 15 = .ok (.invokestatic 91, 3) := by decide +kernel
theorem dX5_hum_18 : decode cX5_hum 18 = .ok (.ifCond .ne 6, 3) := by decide +kernel
theorem dX5_hum_21 : decode cX5_hum 21 = .ok (.bipush (-2), 2) := by decide +kernel
theorem dX5_hum_23 : decode cX5_hum 23 = .ok (.ireturn, 1) := by decide +kernel
theorem dX5_hum_24 : decode cX5_hum 24 = .ok (.aload_n 0, 1) := by decide +kernel
theorem dX5_hum_25 : decode cX5_hum 25 = .ok (.getfield 95, 3) := by decide +kernel
theorem dX5_hum_28 : decode cX5_hum 28 = .ok (.ifCond .ne 6, 3) := by decide +kernel
theorem dX5_hum_31 : decode cX5_hum 31 = .ok (.bipush (-3), 2) := by decide +kernel
theorem dX5_hum_33 : decode cX5_hum 33 = .ok (.ireturn, 1) := by decide +kernel
theorem dX5_hum_34 : decode cX5_hum 34 = .ok (.aload_n 0, 1) := by decide +kernel
theorem dX5_hum_35 : decode cX5_hum 35 = .ok (.getfield 28, 3) := by decide +kernel
theorem dX5_hum_38 : decode cX5_hum 38 = .ok (.iload_n 1, 1) := by decide +kernel
theorem dX5_hum_39 : decode cX5_hum 39 = .ok (.iaload, 1) := by decide +kernel
theorem dX5_hum_40 : decode cX5_hum 40 = .ok (.istore_n 3, 1) := by decide +kernel
theorem dX5_hum_41 : decode cX5_hum 41 = .ok (.aload_n 0, 1) := by decide +kernel
theorem dX5_hum_42 : decode cX5_hum 42 = .ok (.getfield 28, 3) := by decide +kernel
theorem dX5_hum_45 : decode cX5_hum 45 = .ok (.iload_n 1, 1) := by decide +kernel
theorem dX5_hum_46 : decode cX5_hum 46 = .ok (.iload_n 2, 1) := by decide +kernel
theorem dX5_hum_47 : decode cX5_hum 47 = .ok (.iastore, 1) := by decide +kernel
theorem dX5_hum_48 : decode cX5_hum 48 = .ok (.iload_n 3, 1) := by decide +kernel
theorem dX5_hum_49 : decode cX5_hum 49 = .ok (.ireturn, 1) := by decide +kernel
theorem dX5_dutyOf_0 : decode cX5_dutyOf 0 = .ok (.iconst 0, 1) := by decide +kernel
theorem dX5_dutyOf_1 : decode cX5_dutyOf 1 = .ok (.istore_n 3, 1) := by decide +kernel
theorem dX5_dutyOf_2 : decode cX5_dutyOf 2 = .ok (.iconst 0, 1) := by decide +kernel
theorem dX5_dutyOf_3 : decode cX5_dutyOf 3 = .ok (.istore 4, 2) := by decide +kernel
theorem dX5_dutyOf_5 : decode cX5_dutyOf 5 = .ok (.iconst 0, 1) := by decide +kernel
theorem dX5_dutyOf_6 : decode cX5_dutyOf 6 = .ok (.istore 5, 2) := by decide +kernel
theorem dX5_dutyOf_8 : decode cX5_dutyOf 8 = .ok (.iload 5, 2) := by decide +kernel
theorem dX5_dutyOf_10 : decode cX5_dutyOf 10 = .ok (.aload_n 0, 1) := by decide +kernel
theorem dX5_dutyOf_11 : decode cX5_dutyOf 11 = .ok (.getfield 95, 3) := by decide +kernel
theorem dX5_dutyOf_14 : decode cX5_dutyOf 14 = .ok (.if_icmp .ge 75, 3) := by decide +kernel
theorem dX5_dutyOf_17 : decode cX5_dutyOf 17 = .ok (.aload_n 0, 1) := by decide +kernel
theorem dX5_dutyOf_18 : decode cX5_dutyOf 18 = .ok (.getfield 25, 3) := by decide +kernel
theorem dX5_dutyOf_21 : decode cX5_dutyOf 21 = .ok (.iload 5, 2) := by decide +kernel
theorem dX5_dutyOf_23 : decode cX5_dutyOf 23 = .ok (.iaload, 1) := by decide +kernel
theorem dX5_dutyOf_24 : decode cX5_dutyOf 24 = .ok (.iload_n 2, 1) := by decide +kernel
theorem dX5_dutyOf_25 : decode cX5_dutyOf 25 = .ok (.if_icmp .ne 58, 3) := by decide +kernel
theorem dX5_dutyOf_28 : decode cX5_dutyOf 28 = .ok (.aload_n 0, 1) := by decide +kernel
theorem dX5_dutyOf_29 : decode cX5_dutyOf 29 = .ok (.getfield 158, 3) := by decide +kernel
theorem dX5_dutyOf_32 : decode cX5_dutyOf 32 = .ok (.iload 5, 2) := by decide +kernel
theorem dX5_dutyOf_34 : decode cX5_dutyOf 34 = .ok (.invokestatic 167, 3) := by decide +kernel
theorem dX5_dutyOf_37 : decode cX5_dutyOf 37 = .ok (.ifCond .eq 46, 3) := by decide +kernel
theorem dX5_dutyOf_40 : decode cX5_dutyOf 40 = .ok (.aload_n 0, 1) := by decide +kernel
theorem dX5_dutyOf_41 : decode cX5_dutyOf 41 = .ok (.iload 5, 2) := by decide +kernel
theorem dX5_dutyOf_43 : decode cX5_dutyOf 43 = .ok (.invokevirtual 179, 3) := by decide +kernel
theorem dX5_dutyOf_46 : decode cX5_dutyOf 46 = .ok (.ifCond .eq 37, 3) := by decide +kernel
theorem dX5_dutyOf_49 : decode cX5_dutyOf 49 = .ok (.iload_n 3, 1) := by decide +kernel
theorem dX5_dutyOf_50 : decode cX5_dutyOf 50 = .ok (.aload_n 0, 1) := by decide +kernel
theorem dX5_dutyOf_51 : decode cX5_dutyOf 51 = .ok (.getfield 19, 3) := by decide +kernel
theorem dX5_dutyOf_54 : decode cX5_dutyOf 54 = .ok (.iload 5, 2) := by decide +kernel
theorem dX5_dutyOf_56 : decode cX5_dutyOf 56 = .ok (.iaload, 1) := by decide +kernel
theorem dX5_dutyOf_57 : decode cX5_dutyOf 57 = .ok (.iadd, 1) := by decide +kernel
theorem dX5_dutyOf_58 : decode cX5_dutyOf 58 = .ok (.istore_n 3, 1) := by decide +kernel
theorem dX5_dutyOf_59 : decode cX5_dutyOf 59 = .ok (.aload_n 0, 1) := by decide +kernel
theorem dX5_dutyOf_60 : decode cX5_dutyOf 60 = .ok (.iload 5, 2) := by decide +kernel
theorem dX5_dutyOf_62 : decode cX5_dutyOf 62 = .ok (.invokevirtual 176, 3) := by decide +kernel
theorem dX5_dutyOf_65 : decode cX5_dutyOf 65 = .ok (.iload 4, 2) := by decide +kernel
theorem dX5_dutyOf_67 : decode cX5_dutyOf 67 = .ok (.if_icmp .le 12, 3) := by decide +kernel
theorem dX5_dutyOf_70 : decode cX5_dutyOf 70 = .ok (.aload_n 0, 1) := by decide +kernel
theorem dX5_dutyOf_71 : decode cX5_dutyOf 71 = .ok (.iload 5, 2) := by decide +kernel
theorem dX5_dutyOf_73 : decode cX5_dutyOf 73 = .ok (.invokevirtual 176, 3) := by decide +kernel
theorem dX5_dutyOf_76 : decode cX5_dutyOf 76 = .ok (.goto 5, 3) := by decide +kernel
theorem dX5_dutyOf_79 : decode cX5_dutyOf 79 = .ok (.iload 4, 2) := by decide +kernel
theorem dX5_dutyOf_81 : decode cX5_dutyOf 81 = .ok (.istore 4, 2) := by decide +kernel
theorem dX5_dutyOf_83 : decode cX5_dutyOf 83 = .ok (.iinc 5 1, 3) := by decide +kernel
theorem dX5_dutyOf_86 : decode cX5_dutyOf 86 = .ok (.goto (-78), 3) := by decide +kernel
theorem dX5_dutyOf_89 : decode cX5_dutyOf 89 = .ok (.iload_n 3, 1) := by decide +kernel
theorem dX5_dutyOf_90 : decode cX5_dutyOf 90 = .ok (.aload_n 0, 1) := by decide +kernel
theorem dX5_dutyOf_91 : decode cX5_dutyOf 91 = .ok (.getfield 151, 3) := by decide +kernel
theorem dX5_dutyOf_94 : decode cX5_dutyOf 94 = .ok (.if_icmp .le 22, 3) := by decide +kernel
theorem dX5_dutyOf_97 : decode cX5_dutyOf 97 = .ok (.iload_n 3, 1) := by decide +kernel
theorem dX5_dutyOf_98 : decode cX5_dutyOf 98 = .ok (.aload_n 0, 1) := by decide +kernel
theorem dX5_dutyOf_99 : decode cX5_dutyOf 99 = .ok (.getfield 151, 3) := by decide +kernel
theorem dX5_dutyOf_102 : decode cX5_dutyOf 102 = .ok (.isub, 1) := by decide +kernel
theorem dX5_dutyOf_103 : decode cX5_dutyOf 103 = .ok (.iload 4, 2) := by decide +kernel
theorem dX5_dutyOf_105 : decode cX5_dutyOf 105 = .ok (.imul, 1) := by decide +kernel
theorem dX5_dutyOf_106 : decode cX5_dutyOf 106 = .ok (.aload_n 0, 1) := by decide +kernel
theorem dX5_dutyOf_107 : decode cX5_dutyOf 107 = .ok (.getfield 7, 3) := by decide +kernel
theorem dX5_dutyOf_110 : decode cX5_dutyOf 110 = .ok (.iload_n 1, 1) := by decide +kernel
theorem dX5_dutyOf_111 : decode cX5_dutyOf 111 = .ok (.iaload, 1) := by decide +kernel
theorem dX5_dutyOf_112 : decode cX5_dutyOf 112 = .ok (.imul, 1) := by decide +kernel
theorem dX5_dutyOf_113 : decode cX5_dutyOf 113 = .ok (.goto 4, 3) := by decide +kernel
theorem dX5_dutyOf_116 : decode cX5_dutyOf 116 = .ok (.iconst 0, 1) := by decide +kernel
theorem dX5_dutyOf_117 : decode cX5_dutyOf 117 = .ok (.ireturn, 1) := by decide +kernel
theorem dX5_dutyAt_0 : decode cX5_dutyAt 0 = .ok (.iconst 0, 1) := by decide +kernel
theorem dX5_dutyAt_1 : decode cX5_dutyAt 1 = .ok (.istore_n 2, 1) := by decide +kernel
theorem dX5_dutyAt_2 : decode cX5_dutyAt 2 = .ok (.iconst 0, 1) := by decide +kernel
theorem dX5_dutyAt_3 : decode cX5_dutyAt 3 = .ok (.istore_n 3, 1) := by decide +kernel
theorem dX5_dutyAt_4 : decode cX5_dutyAt 4 = .ok (.iload_n 3, 1) := by decide +kernel
theorem dX5_dutyAt_5 : decode cX5_dutyAt 5 = .ok (.iconst 3, 1) := by decide +kernel
theorem dX5_dutyAt_6 : decode cX5_dutyAt 6 = .ok (.if_icmp .ge 18, 3) := by decide +kernel
theorem dX5_dutyAt_9 : decode cX5_dutyAt 9 = .ok (.iload_n 2, 1) := by decide +kernel
theorem dX5_dutyAt_10 : decode cX5_dutyAt 10 = .ok (.aload_n 0, 1) := by decide +kernel
theorem dX5_dutyAt_11 : decode cX5_dutyAt 11 = .ok (.iload_n 1, 1) := by decide +kernel
theorem dX5_dutyAt_12 : decode cX5_dutyAt 12 = .ok (.iload_n 3, 1) := by decide +kernel
theorem dX5_dutyAt_13 : decode cX5_dutyAt 13 = .ok (.invokevirtual 187, 3) := by decide +kernel
theorem dX5_dutyAt_16 : decode cX5_dutyAt 16 = .ok (.iadd, 1) := by decide +kernel
theorem dX5_dutyAt_17 : decode cX5_dutyAt 17 = .ok (.istore_n 2, 1) := by decide +kernel
theorem dX5_dutyAt_18 : decode cX5_dutyAt 18 = .ok (.iinc 3 1, 3) := by decide +kernel
theorem dX5_dutyAt_21 : decode cX5_dutyAt 21 = .ok (.goto (-17), 3) := by decide +kernel
theorem dX5_dutyAt_24 : decode cX5_dutyAt 24 = .ok (.iload_n 2, 1) := by decide +kernel
theorem dX5_dutyAt_25 : decode cX5_dutyAt 25 = .ok (.ireturn, 1) := by decide +kernel
theorem dX5_duty_0 : decode cX5_duty 0 = .ok (.aload_n 0, 1) := by decide +kernel
theorem dX5_duty_1 : decode cX5_duty 1 = .ok (.iload_n 1, 1) := by decide +kernel
theorem dX5_duty_2 : decode cX5_duty 2 = .ok (.invokevirtual 170, 3) := by decide +kernel
theorem dX5_duty_5 : decode cX5_duty 5 = .ok (.ifCond .eq 7, 3) := by decide +kernel
theorem dX5_duty_8 : decode cX5_duty 8 = .ok (.iconst (-1), 1) := by decide +kernel
theorem dX5_duty_9 : decode cX5_duty 9 = .ok (.goto 8, 3) := by decide +kernel
theorem dX5_duty_12 : decode cX5_duty 12 = .ok (.aload_n 0, 1) := by decide +kernel
theorem dX5_duty_13 : decode cX5_duty 13 = .ok (.iload_n 1, 1) := by decide +kernel
theorem dX5_duty_14 : decode cX5_duty 14 = .ok (.invokevirtual 190, 3) := by decide +kernel
theorem dX5_duty_17 : decode cX5_duty 17 = .ok (.ireturn, 1) := by decide +kernel
theorem dX5_heardAt_0 : decode cX5_heardAt 0 = .ok (.aload_n 0, 1) := by decide +kernel
theorem dX5_heardAt_1 : decode cX5_heardAt 1 = .ok (.getfield 13, 3) := by decide +kernel
theorem dX5_heardAt_4 : decode cX5_heardAt 4 = .ok (.iload_n 2, 1) := by decide +kernel
theorem dX5_heardAt_5 : decode cX5_heardAt 5 = .ok (.iaload, 1) := by decide +kernel
theorem dX5_heardAt_6 : decode cX5_heardAt 6 = .ok (.aload_n 0, 1) := by decide +kernel
theorem dX5_heardAt_7 : decode cX5_heardAt 7 = .ok (.getfield 28, 3) := by decide +kernel
theorem dX5_heardAt_10 : decode cX5_heardAt 10 = .ok (.aload_n 0, 1) := by decide +kernel
theorem dX5_heardAt_11 : decode cX5_heardAt 11 = .ok (.getfield 25, 3) := by decide +kernel
theorem dX5_heardAt_14 : decode cX5_heardAt 14 = .ok (.iload_n 1, 1) := by decide +kernel
theorem dX5_heardAt_15 : decode cX5_heardAt 15 = .ok (.iaload, 1) := by decide +kernel
theorem dX5_heardAt_16 : decode cX5_heardAt 16 = .ok (.iaload, 1) := by decide +kernel
theorem dX5_heardAt_17 : decode cX5_heardAt 17 = .ok (.isub, 1) := by decide +kernel
theorem dX5_heardAt_18 : decode cX5_heardAt 18 = .ok (.istore_n 3, 1) := by decide +kernel
theorem dX5_heardAt_19 : decode cX5_heardAt 19 = .ok (.iload_n 3, 1) := by decide +kernel
theorem dX5_heardAt_20 : decode cX5_heardAt 20 = .ok (.ifCond .le 26, 3) := by decide +kernel
theorem dX5_heardAt_23 : decode cX5_heardAt 23 = .ok (.aload_n 0, 1) := by decide +kernel
theorem dX5_heardAt_24 : decode cX5_heardAt 24 = .ok (.getfield 158, 3) := by decide +kernel
theorem dX5_heardAt_27 : decode cX5_heardAt 27 = .ok (.iload_n 1, 1) := by decide +kernel
theorem dX5_heardAt_28 : decode cX5_heardAt 28 = .ok (.invokestatic 167, 3) := by decide +kernel
theorem dX5_heardAt_31 : decode cX5_heardAt 31 = .ok (.ifCond .ne 15, 3) := by decide +kernel
theorem dX5_heardAt_34 : decode cX5_heardAt 34 = .ok (.aload_n 0, 1) := by decide +kernel
theorem dX5_heardAt_35 : decode cX5_heardAt 35 = .ok (.iload_n 1, 1) := by decide +kernel
theorem dX5_heardAt_36 : decode cX5_heardAt 36 = .ok (.invokevirtual 179, 3) := by decide +kernel
theorem dX5_heardAt_39 : decode cX5_heardAt 39 = .ok (.ifCond .eq 7, 3) := by decide +kernel
theorem dX5_heardAt_42 : decode cX5_heardAt 42 = .ok (.iload_n 3, 1) := by decide +kernel
theorem dX5_heardAt_43 : decode cX5_heardAt 43 = .ok (.goto 4, 3) := by decide +kernel
theorem dX5_heardAt_46 : decode cX5_heardAt 46 = .ok (.iconst 0, 1) := by decide +kernel
theorem dX5_heardAt_47 : decode cX5_heardAt 47 = .ok (.ireturn, 1) := by decide +kernel
theorem dX5_clear_0 : decode cX5_clear 0 = .ok (.aload_n 0, 1) := by decide +kernel
theorem dX5_clear_1 : decode cX5_clear 1 = .ok (.iload_n 1, 1) := by decide +kernel
theorem dX5_clear_2 : decode cX5_clear 2 = .ok (.invokevirtual 170, 3) := by decide +kernel
theorem dX5_clear_5 : decode cX5_clear 5 = .ok (.ifCond .ne 13, 3) := by decide +kernel
theorem dX5_clear_8 : decode cX5_clear 8 = .ok (.iload_n 2, 1) := by decide +kernel
theorem dX5_clear_9 : decode cX5_clear 9 = .ok (.i2l, 1) := by decide +kernel
theorem dX5_clear_10 : decode cX5_clear 10 = .ok (.lconst 0, 1) := by decide +kernel
theorem dX5_clear_11 : decode cX5_clear 11 = .ok (.lconst 1, 1) := by decide +kernel
theorem dX5_clear_12 : decode cX5_clear 12 = .ok (.invokestatic 91, 3) := by decide +kernel
theorem dX5_clear_15 : decode cX5_clear 15 = .ok (.ifCond .ne 7, 3) := by decide +kernel
theorem dX5_clear_18 : decode cX5_clear 18 = .ok (.invokestatic 84, 3) := by decide +kernel
theorem dX5_clear_21 : decode cX5_clear 21 = .ok (.lreturn, 1) := by decide +kernel
theorem dX5_clear_22 : decode cX5_clear 22 = .ok (.lconst 1, 1) := by decide +kernel
theorem dX5_clear_23 : decode cX5_clear 23 = .ok (.lstore_n 3, 1) := by decide +kernel
theorem dX5_clear_24 : decode cX5_clear 24 = .ok (.iconst 0, 1) := by decide +kernel
theorem dX5_clear_25 : decode cX5_clear 25 = .ok (.istore 5, 2) := by decide +kernel
theorem dX5_clear_27 : decode cX5_clear 27 = .ok (.iload 5, 2) := by decide +kernel
theorem dX5_clear_29 : decode cX5_clear 29 = .ok (.aload_n 0, 1) := by decide +kernel
theorem dX5_clear_30 : decode cX5_clear 30 = .ok (.getfield 95, 3) := by decide +kernel
theorem dX5_clear_33 : decode cX5_clear 33 = .ok (.if_icmp .ge 24, 3) := by decide +kernel
theorem dX5_clear_36 : decode cX5_clear 36 = .ok (.lload_n 3, 1) := by decide +kernel
theorem dX5_clear_37 : decode cX5_clear 37 = .ok (.ldc2_w 79, 3) := by decide +kernel
theorem dX5_clear_40 : decode cX5_clear 40 = .ok (.aload_n 0, 1) := by decide +kernel
theorem dX5_clear_41 : decode cX5_clear 41 = .ok (.iload 5, 2) := by decide +kernel
theorem dX5_clear_43 : decode cX5_clear 43 = .ok (.iload_n 1, 1) := by decide +kernel
theorem dX5_clear_44 : decode cX5_clear 44 = .ok (.invokevirtual 193, 3) := by decide +kernel
theorem dX5_clear_47 : decode cX5_clear 47 = .ok (.i2l, 1) := by decide +kernel
theorem dX5_clear_48 : decode cX5_clear 48 = .ok (.lsub, 1) := by decide +kernel
theorem dX5_clear_49 : decode cX5_clear 49 = .ok (.lmul, 1) := by decide +kernel
theorem dX5_clear_50 : decode cX5_clear 50 = .ok (.lstore_n 3, 1) := by decide +kernel
theorem dX5_clear_51 : decode cX5_clear 51 = .ok (.iinc 5 1, 3) := by decide +kernel
theorem dX5_clear_54 : decode cX5_clear 54 = .ok (.goto (-27), 3) := by decide +kernel
theorem dX5_clear_57 : decode cX5_clear 57 = .ok (.lload_n 3, 1) := by decide +kernel
theorem dX5_clear_58 : decode cX5_clear 58 = .ok (.aload_n 0, 1) := by decide +kernel
theorem dX5_clear_59 : decode cX5_clear 59 = .ok (.getfield 95, 3) := by decide +kernel
theorem dX5_clear_62 : decode cX5_clear 62 = .ok (.invokestatic 196, 3) := by decide +kernel
theorem dX5_clear_65 : decode cX5_clear 65 = .ok (.iload_n 2, 1) := by decide +kernel
theorem dX5_clear_66 : decode cX5_clear 66 = .ok (.invokestatic 200, 3) := by decide +kernel
theorem dX5_clear_69 : decode cX5_clear 69 = .ok (.lreturn, 1) := by decide +kernel
theorem dX5_costNow_0 : decode cX5_costNow 0 = .ok (.lconst 0, 1) := by decide +kernel
theorem dX5_costNow_1 : decode cX5_costNow 1 = .ok (.lstore_n 2, 1) := by decide +kernel
theorem dX5_costNow_2 : decode cX5_costNow 2 = .ok (.iconst 0, 1) := by decide +kernel
theorem dX5_costNow_3 : decode cX5_costNow 3 = .ok (.istore 4, 2) := by decide +kernel
theorem dX5_costNow_5 : decode cX5_costNow 5 = .ok (.iload 4, 2) := by decide +kernel
theorem dX5_costNow_7 : decode cX5_costNow 7 = .ok (.iload_n 1, 1) := by decide +kernel
theorem dX5_costNow_8 : decode cX5_costNow 8 = .ok (.if_icmp .ge 29, 3) := by decide +kernel
theorem dX5_costNow_11 : decode cX5_costNow 11 = .ok (.lload_n 2, 1) := by decide +kernel
theorem dX5_costNow_12 : decode cX5_costNow 12 = .ok (.aload_n 0, 1) := by decide +kernel
theorem dX5_costNow_13 : decode cX5_costNow 13 = .ok (.aload_n 0, 1) := by decide +kernel
theorem dX5_costNow_14 : decode cX5_costNow 14 = .ok (.getfield 46, 3) := by decide +kernel
theorem dX5_costNow_17 : decode cX5_costNow 17 = .ok (.iload 4, 2) := by decide +kernel
theorem dX5_costNow_19 : decode cX5_costNow 19 = .ok (.iaload, 1) := by decide +kernel
theorem dX5_costNow_20 : decode cX5_costNow 20 = .ok (.invokevirtual 190, 3) := by decide +kernel
theorem dX5_costNow_23 : decode cX5_costNow 23 = .ok (.i2l, 1) := by decide +kernel
theorem dX5_costNow_24 : decode cX5_costNow 24 = .ok (.iload_n 1, 1) := by decide +kernel
theorem dX5_costNow_25 : decode cX5_costNow 25 = .ok (.invokestatic 196, 3) := by decide +kernel
theorem dX5_costNow_28 : decode cX5_costNow 28 = .ok (.lmul, 1) := by decide +kernel
theorem dX5_costNow_29 : decode cX5_costNow 29 = .ok (.ladd, 1) := by decide +kernel
theorem dX5_costNow_30 : decode cX5_costNow 30 = .ok (.lstore_n 2, 1) := by decide +kernel
theorem dX5_costNow_31 : decode cX5_costNow 31 = .ok (.iinc 4 1, 3) := by decide +kernel
theorem dX5_costNow_34 : decode cX5_costNow 34 = .ok (.goto (-29), 3) := by decide +kernel
theorem dX5_costNow_37 : decode cX5_costNow 37 = .ok (.iconst 0, 1) := by decide +kernel
theorem dX5_costNow_38 : decode cX5_costNow 38 = .ok (.istore 4, 2) := by decide +kernel
theorem dX5_costNow_40 : decode cX5_costNow 40 = .ok (.iload 4, 2) := by decide +kernel
theorem dX5_costNow_42 : decode cX5_costNow 42 = .ok (.aload_n 0, 1) := by decide +kernel
theorem dX5_costNow_43 : decode cX5_costNow 43 = .ok (.getfield 95, 3) := by decide +kernel
theorem dX5_costNow_46 : decode cX5_costNow 46 = .ok (.if_icmp .ge 109, 3) := by decide +kernel
theorem dX5_costNow_49 : decode cX5_costNow 49 = .ok (.lconst 1, 1) := by decide +kernel
theorem dX5_costNow_50 : decode cX5_costNow 50 = .ok (.lstore 5, 2) := by decide +kernel
theorem dX5_costNow_52 : decode cX5_costNow 52 = .ok (.iconst 0, 1) := by decide +kernel
theorem dX5_costNow_53 : decode cX5_costNow 53 = .ok (.istore 7, 2) := by decide +kernel
theorem dX5_costNow_55 : decode cX5_costNow 55 = .ok (.iload 7, 2) := by decide +kernel
theorem dX5_costNow_57 : decode cX5_costNow 57 = .ok (.iload_n 1, 1) := by decide +kernel
theorem dX5_costNow_58 : decode cX5_costNow 58 = .ok (.if_icmp .ge 91, 3) := by decide +kernel
theorem dX5_costNow_61 : decode cX5_costNow 61 = .ok (.aload_n 0, 1) := by decide +kernel
theorem dX5_costNow_62 : decode cX5_costNow 62 = .ok (.getfield 46, 3) := by decide +kernel
theorem dX5_costNow_65 : decode cX5_costNow 65 = .ok (.iload 7, 2) := by decide +kernel
theorem dX5_costNow_67 : decode cX5_costNow 67 = .ok (.iaload, 1) := by decide +kernel
theorem dX5_costNow_68 : decode cX5_costNow 68 = .ok (.istore 8, 2) := by decide +kernel
theorem dX5_costNow_70 : decode cX5_costNow 70 = .ok (.lload_n 2, 1) := by decide +kernel
theorem dX5_costNow_71 : decode cX5_costNow 71 = .ok (.lload 5, 2) := by decide +kernel
theorem dX5_costNow_73 : decode cX5_costNow 73 = .ok (.aload_n 0, 1) := by decide +kernel
theorem dX5_costNow_74 : decode cX5_costNow 74 = .ok (.iload 4, 2) := by decide +kernel
theorem dX5_costNow_76 : decode cX5_costNow 76 = .ok (.iload 8, 2) := by decide +kernel
theorem dX5_costNow_78 : decode cX5_costNow 78 = .ok (.invokevirtual 193, 3) := by decide +kernel
theorem dX5_costNow_81 : decode cX5_costNow 81 = .ok (.i2l, 1) := by decide +kernel
theorem dX5_costNow_82 : decode cX5_costNow 82 = .ok (.lmul, 1) := by decide +kernel
theorem dX5_costNow_83 : decode cX5_costNow 83 = .ok (.iload_n 1, 1) := by decide +kernel
theorem dX5_costNow_84 : decode cX5_costNow 84 = .ok (.iload 7, 2) := by decide +kernel
theorem dX5_costNow_86 : decode cX5_costNow 86 = .ok (.isub, 1) := by decide +kernel
theorem dX5_costNow_87 : decode cX5_costNow 87 = .ok (.iconst 1, 1) := by decide +kernel
theorem dX5_costNow_88 : decode cX5_costNow 88 = .ok (.isub, 1) := by decide +kernel
theorem dX5_costNow_89 : decode cX5_costNow 89 = .ok (.invokestatic 196, 3) := by decide +kernel
theorem dX5_costNow_92 : decode cX5_costNow 92 = .ok (.lmul, 1) := by decide +kernel
theorem dX5_costNow_93 : decode cX5_costNow 93 = .ok (.ldc2_w 98, 3) := by decide +kernel
theorem dX5_costNow_96 : decode cX5_costNow 96 = .ok (.aload_n 0, 1) := by decide +kernel
theorem dX5_costNow_97 : decode cX5_costNow 97 = .ok (.getfield 19, 3) := by decide +kernel
theorem dX5_costNow_100 : decode cX5_costNow 100 = .ok (.iload 4, 2) := by decide +kernel
theorem dX5_costNow_102 : decode cX5_costNow 102 = .ok (.iaload, 1) := by decide +kernel
theorem dX5_costNow_103 : decode cX5_costNow 103 = .ok (.i2l, 1) := by decide +kernel
theorem dX5_costNow_104 : decode cX5_costNow 104 = .ok (.lmul, 1) := by decide +kernel
theorem dX5_costNow_105 : decode cX5_costNow 105 = .ok (.aload_n 0, 1) := by decide +kernel
theorem dX5_costNow_106 : decode cX5_costNow 106 = .ok (.iload 4, 2) := by decide +kernel
theorem dX5_costNow_108 : decode cX5_costNow 108 = .ok (.invokevirtual 176, 3) := by decide +kernel
theorem dX5_costNow_111 : decode cX5_costNow 111 = .ok (.i2l, 1) := by decide +kernel
theorem dX5_costNow_112 : decode cX5_costNow 112 = .ok (.lmul, 1) := by decide +kernel
theorem dX5_costNow_113 : decode cX5_costNow 113 = .ok (.aload_n 0, 1) := by decide +kernel
theorem dX5_costNow_114 : decode cX5_costNow 114 = .ok (.getfield 7, 3) := by decide +kernel
theorem dX5_costNow_117 : decode cX5_costNow 117 = .ok (.iload 8, 2) := by decide +kernel
theorem dX5_costNow_119 : decode cX5_costNow 119 = .ok (.iaload, 1) := by decide +kernel
theorem dX5_costNow_120 : decode cX5_costNow 120 = .ok (.i2l, 1) := by decide +kernel
theorem dX5_costNow_121 : decode cX5_costNow 121 = .ok (.lmul, 1) := by decide +kernel
theorem dX5_costNow_122 : decode cX5_costNow 122 = .ok (.lmul, 1) := by decide +kernel
theorem dX5_costNow_123 : decode cX5_costNow 123 = .ok (.ladd, 1) := by decide +kernel
theorem dX5_costNow_124 : decode cX5_costNow 124 = .ok (.lstore_n 2, 1) := by decide +kernel
theorem dX5_costNow_125 : decode cX5_costNow 125 = .ok (.lload 5, 2) := by decide +kernel
theorem dX5_costNow_127 : decode cX5_costNow 127 = .ok (.ldc2_w 79, 3) := by decide +kernel
theorem dX5_costNow_130 : decode cX5_costNow 130 = .ok (.aload_n 0, 1) := by decide +kernel
theorem dX5_costNow_131 : decode cX5_costNow 131 = .ok (.iload 4, 2) := by decide +kernel
theorem dX5_costNow_133 : decode cX5_costNow 133 = .ok (.iload 8, 2) := by decide +kernel
theorem dX5_costNow_135 : decode cX5_costNow 135 = .ok (.invokevirtual 193, 3) := by decide +kernel
theorem dX5_costNow_138 : decode cX5_costNow 138 = .ok (.i2l, 1) := by decide +kernel
theorem dX5_costNow_139 : decode cX5_costNow 139 = .ok (.lsub, 1) := by decide +kernel
theorem dX5_costNow_140 : decode cX5_costNow 140 = .ok (.lmul, 1) := by decide +kernel
theorem dX5_costNow_141 : decode cX5_costNow 141 = .ok (.lstore 5, 2) := by decide +kernel
theorem dX5_costNow_143 : decode cX5_costNow 143 = .ok (.iinc 7 1, 3) := by decide +kernel
theorem dX5_costNow_146 : decode cX5_costNow 146 = .ok (.goto (-91), 3) := by decide +kernel
theorem dX5_costNow_149 : decode cX5_costNow 149 = .ok (.iinc 4 1, 3) := by decide +kernel
theorem dX5_costNow_152 : decode cX5_costNow 152 = .ok (.goto (-112), 3) := by decide +kernel
theorem dX5_costNow_155 : decode cX5_costNow 155 = .ok (.lload_n 2, 1) := by decide +kernel
theorem dX5_costNow_156 : decode cX5_costNow 156 = .ok (.lreturn, 1) := by decide +kernel
theorem dX5_wayBarred_0 : decode cX5_wayBarred 0 = .ok (.aload_n 0, 1) := by decide +kernel
theorem dX5_wayBarred_1 : decode cX5_wayBarred 1 = .ok (.iload_n 1, 1) := by decide +kernel
theorem dX5_wayBarred_2 : decode cX5_wayBarred 2 = .ok (.iload_n 2, 1) := by decide +kernel
theorem dX5_wayBarred_3 : decode cX5_wayBarred 3 = .ok (.iload_n 3, 1) := by decide +kernel
theorem dX5_wayBarred_4 : decode cX5_wayBarred 4 = .ok (.iload 4, 2) := by decide +kernel
theorem dX5_wayBarred_6 : decode cX5_wayBarred 6 = .ok (.i2l, 1) := by decide +kernel
theorem dX5_wayBarred_7 : decode cX5_wayBarred 7 = .ok (.invokevirtual 144, 3) := by decide +kernel
theorem dX5_wayBarred_10 : decode cX5_wayBarred 10 = .ok (.istore 5, 2) := by decide +kernel
theorem dX5_wayBarred_12 : decode cX5_wayBarred 12 = .ok (.iload 5, 2) := by decide +kernel
theorem dX5_wayBarred_14 : decode cX5_wayBarred 14 = .ok (.ifCond .ge 6, 3) := by decide +kernel
theorem dX5_wayBarred_17 : decode cX5_wayBarred 17 = .ok (.iload 5, 2) := by decide +kernel
theorem dX5_wayBarred_19 : decode cX5_wayBarred 19 = .ok (.ireturn, 1) := by decide +kernel
theorem dX5_wayBarred_20 : decode cX5_wayBarred 20 = .ok (.iconst 0, 1) := by decide +kernel
theorem dX5_wayBarred_21 : decode cX5_wayBarred 21 = .ok (.istore 6, 2) := by decide +kernel
theorem dX5_wayBarred_23 : decode cX5_wayBarred 23 = .ok (.iload 6, 2) := by decide +kernel
theorem dX5_wayBarred_25 : decode cX5_wayBarred 25 = .ok (.iload 4, 2) := by decide +kernel
theorem dX5_wayBarred_27 : decode cX5_wayBarred 27 = .ok (.if_icmp .ge 50, 3) := by decide +kernel
theorem dX5_wayBarred_30 : decode cX5_wayBarred 30 = .ok (.aload_n 0, 1) := by decide +kernel
theorem dX5_wayBarred_31 : decode cX5_wayBarred 31 = .ok (.getfield 46, 3) := by decide +kernel
theorem dX5_wayBarred_34 : decode cX5_wayBarred 34 = .ok (.iload 6, 2) := by decide +kernel
theorem dX5_wayBarred_36 : decode cX5_wayBarred 36 = .ok (.aload_n 0, 1) := by decide +kernel
theorem dX5_wayBarred_37 : decode cX5_wayBarred 37 = .ok (.getfield 67, 3) := by decide +kernel
theorem dX5_wayBarred_40 : decode cX5_wayBarred 40 = .ok (.bipush 60, 2) := by decide +kernel
theorem dX5_wayBarred_42 : decode cX5_wayBarred 42 = .ok (.iload_n 1, 1) := by decide +kernel
theorem dX5_wayBarred_43 : decode cX5_wayBarred 43 = .ok (.imul, 1) := by decide +kernel
theorem dX5_wayBarred_44 : decode cX5_wayBarred 44 = .ok (.iload_n 3, 1) := by decide +kernel
theorem dX5_wayBarred_45 : decode cX5_wayBarred 45 = .ok (.iadd, 1) := by decide +kernel
theorem dX5_wayBarred_46 : decode cX5_wayBarred 46 = .ok (.iload 6, 2) := by decide +kernel
theorem dX5_wayBarred_48 : decode cX5_wayBarred 48 = .ok (.iadd, 1) := by decide +kernel
theorem dX5_wayBarred_49 : decode cX5_wayBarred 49 = .ok (.iaload, 1) := by decide +kernel
theorem dX5_wayBarred_50 : decode cX5_wayBarred 50 = .ok (.iastore, 1) := by decide +kernel
theorem dX5_wayBarred_51 : decode cX5_wayBarred 51 = .ok (.aload_n 0, 1) := by decide +kernel
theorem dX5_wayBarred_52 : decode cX5_wayBarred 52 = .ok (.aload_n 0, 1) := by decide +kernel
theorem dX5_wayBarred_53 : decode cX5_wayBarred 53 = .ok (.getfield 46, 3) := by decide +kernel
theorem dX5_wayBarred_56 : decode cX5_wayBarred 56 = .ok (.iload 6, 2) := by decide +kernel
theorem dX5_wayBarred_58 : decode cX5_wayBarred 58 = .ok (.iaload, 1) := by decide +kernel
theorem dX5_wayBarred_59 : decode cX5_wayBarred 59 = .ok (.invokevirtual 170, 3) := by decide +kernel
theorem dX5_wayBarred_62 : decode cX5_wayBarred 62 = .ok (.ifCond .eq 9, 3) := by decide +kernel
theorem dX5_wayBarred_65 : decode cX5_wayBarred 65 = .ok (.aload_n 0, 1) := by decide +kernel
theorem dX5_wayBarred_66 : decode cX5_wayBarred 66 = .ok (.iconst (-1), 1) := by decide +kernel
theorem dX5_wayBarred_67 : decode cX5_wayBarred 67 = .ok (.invokevirtual 141, 3) := by decide +kernel
theorem dX5_wayBarred_70 : decode cX5_wayBarred 70 = .ok (.ireturn, 1) := by decide +kernel
theorem dX5_wayBarred_71 : decode cX5_wayBarred 71 = .ok (.iinc 6 1, 3) := by decide +kernel
theorem dX5_wayBarred_74 : decode cX5_wayBarred 74 = .ok (.goto (-51), 3) := by decide +kernel
theorem dX5_wayBarred_77 : decode cX5_wayBarred 77 = .ok (.aload_n 0, 1) := by decide +kernel
theorem dX5_wayBarred_78 : decode cX5_wayBarred 78 = .ok (.iconst 0, 1) := by decide +kernel
theorem dX5_wayBarred_79 : decode cX5_wayBarred 79 = .ok (.invokevirtual 141, 3) := by decide +kernel
theorem dX5_wayBarred_82 : decode cX5_wayBarred 82 = .ok (.ireturn, 1) := by decide +kernel
theorem dX5_refusedLong_0 : decode cX5_refusedLong 0 = .ok (.aload_n 0, 1) := by decide +kernel
theorem dX5_refusedLong_1 : decode cX5_refusedLong 1 = .ok (.iconst 0, 1) := by decide +kernel
theorem dX5_refusedLong_2 : decode cX5_refusedLong 2 = .ok (.putfield 81, 3) := by decide +kernel
theorem dX5_refusedLong_5 : decode cX5_refusedLong 5 = .ok (.invokestatic 84, 3) := by decide +kernel
theorem dX5_refusedLong_8 : decode cX5_refusedLong 8 = .ok (.lreturn, 1) := by decide +kernel
theorem dX5_cost_0 : decode cX5_cost 0 = .ok (.iload_n 1, 1) := by decide +kernel
theorem dX5_cost_1 : decode cX5_cost 1 = .ok (.invokestatic 137, 3) := by decide +kernel
theorem dX5_cost_4 : decode cX5_cost 4 = .ok (.ifCond .ne 46, 3) := by decide +kernel
theorem dX5_cost_7 : decode cX5_cost 7 = .ok (.iload_n 2, 1) := by decide +kernel
theorem dX5_cost_8 : decode cX5_cost 8 = .ok (.i2l, 1) := by decide +kernel
theorem dX5_cost_9 : decode cX5_cost 9 = .ok (.lconst 0, 1) := by decide +kernel
theorem dX5_cost_10 : decode cX5_cost 10 = .ok (.ldc2_w 98, 3) := by decide +kernel
theorem dX5_cost_13 : decode cX5_cost 13 = .ok (.invokestatic 91, 3) := by decide +kernel
theorem dX5_cost_16 : decode cX5_cost 16 = .ok (.ifCond .eq 34, 3) := by decide +kernel
theorem dX5_cost_19 : decode cX5_cost 19 = .ok (.iload 4, 2) := by decide +kernel
theorem dX5_cost_21 : decode cX5_cost 21 = .ok (.i2l, 1) := by decide +kernel
theorem dX5_cost_22 : decode cX5_cost 22 = .ok (.lconst 0, 1) := by decide +kernel
theorem dX5_cost_23 : decode cX5_cost 23 = .ok (.ldc2_w 204, 3) := by decide +kernel
theorem dX5_cost_26 : decode cX5_cost 26 = .ok (.invokestatic 91, 3) := by decide +kernel
theorem dX5_cost_29 : decode cX5_cost 29 = .ok (.ifCond .eq 21, 3) := by decide +kernel
theorem dX5_cost_32 : decode cX5_cost 32 = .ok (.iload 5, 2) := by decide +kernel
theorem dX5_cost_34 : decode cX5_cost 34 = .ok (.i2l, 1) := by decide +kernel
theorem dX5_cost_35 : decode cX5_cost 35 = .ok (.lconst 0, 1) := by decide +kernel
theorem dX5_cost_36 : decode cX5_cost 36 = .ok (.lconst 1, 1) := by decide +kernel
theorem dX5_cost_37 : decode cX5_cost 37 = .ok (.invokestatic 91, 3) := by decide +kernel
theorem dX5_cost_40 : decode cX5_cost 40 = .ok (.ifCond .eq 10, 3) := by decide +kernel
theorem dX5_cost_43 : decode cX5_cost 43 = .ok (.aload_n 0, 1) := by decide +kernel
theorem dX5_cost_44 : decode cX5_cost 44 = .ok (.getfield 95, 3) := by decide +kernel
theorem dX5_cost_47 : decode cX5_cost 47 = .ok (.ifCond .ne 8, 3) := by decide +kernel
theorem dX5_cost_50 : decode cX5_cost 50 = .ok (.aload_n 0, 1) := by decide +kernel
theorem dX5_cost_51 : decode cX5_cost 51 = .ok (.invokevirtual 206, 3) := by decide +kernel
theorem dX5_cost_54 : decode cX5_cost 54 = .ok (.lreturn, 1) := by decide +kernel
theorem dX5_cost_55 : decode cX5_cost 55 = .ok (.aload_n 0, 1) := by decide +kernel
theorem dX5_cost_56 : decode cX5_cost 56 = .ok (.iload_n 1, 1) := by decide +kernel
theorem dX5_cost_57 : decode cX5_cost 57 = .ok (.iload_n 2, 1) := by decide +kernel
theorem dX5_cost_58 : decode cX5_cost 58 = .ok (.iload_n 3, 1) := by decide +kernel
theorem dX5_cost_59 : decode cX5_cost 59 = .ok (.iload 4, 2) := by decide +kernel
theorem dX5_cost_61 : decode cX5_cost 61 = .ok (.invokevirtual 209, 3) := by decide +kernel
theorem dX5_cost_64 : decode cX5_cost 64 = .ok (.ifCond .ge 9, 3) := by decide +kernel
theorem dX5_cost_67 : decode cX5_cost 67 = .ok (.invokestatic 84, 3) := by decide +kernel
theorem dX5_cost_70 : decode cX5_cost 70 = .ok (.goto 19, 3) := by decide +kernel
theorem dX5_cost_73 : decode cX5_cost 73 = .ok (.aload_n 0, 1) := by decide +kernel
theorem dX5_cost_74 : decode cX5_cost 74 = .ok (.iload 4, 2) := by decide +kernel
theorem dX5_cost_76 : decode cX5_cost 76 = .ok (.invokevirtual 213, 3) := by decide +kernel
theorem dX5_cost_79 : decode cX5_cost 79 = .ok (.iload 4, 2) := by decide +kernel
theorem dX5_cost_81 : decode cX5_cost 81 = .ok (.invokestatic 196, 3) := by decide +kernel
theorem dX5_cost_84 : decode cX5_cost 84 = .ok (.iload 5, 2) := by decide +kernel
theorem dX5_cost_86 : decode cX5_cost 86 = .ok (.invokestatic 200, 3) := by decide +kernel
theorem dX5_cost_89 : decode cX5_cost 89 = .ok (.lreturn, 1) := by decide +kernel
theorem dX5_say_0 : decode cX5_say 0 = .ok (.iload_n 1, 1) := by decide +kernel
theorem dX5_say_1 : decode cX5_say 1 = .ok (.invokestatic 137, 3) := by decide +kernel
theorem dX5_say_4 : decode cX5_say 4 = .ok (.ifCond .eq 9, 3) := by decide +kernel
theorem dX5_say_7 : decode cX5_say 7 = .ok (.aload_n 0, 1) := by decide +kernel
theorem dX5_say_8 : decode cX5_say 8 = .ok (.iconst (-1), 1) := by decide +kernel
theorem dX5_say_9 : decode cX5_say 9 = .ok (.invokevirtual 141, 3) := by decide +kernel
theorem dX5_say_12 : decode cX5_say 12 = .ok (.ireturn, 1) := by decide +kernel
theorem dX5_say_13 : decode cX5_say 13 = .ok (.iload_n 2, 1) := by decide +kernel
theorem dX5_say_14 : decode cX5_say 14 = .ok (.i2l, 1) := by decide +kernel
theorem dX5_say_15 : decode cX5_say 15 = .ok (.lconst 0, 1) := by decide +kernel
theorem dX5_say_16 : decode cX5_say 16 = .ok (.ldc2_w 98, 3) := by decide +kernel
theorem dX5_say_19 : decode cX5_say 19 = .ok (.invokestatic 91, 3) := by decide +kernel
theorem dX5_say_22 : decode cX5_say 22 = .ok (.ifCond .eq 16, 3) := by decide +kernel
theorem dX5_say_25 : decode cX5_say 25 = .ok (.iload 4, 2) := by decide +kernel
theorem dX5_say_27 : decode cX5_say 27 = .ok (.i2l, 1) := by decide +kernel
theorem dX5_say_28 : decode cX5_say 28 = .ok (.lconst 0, 1) := by decide +kernel
theorem dX5_say_29 : decode cX5_say 29 = .ok (.ldc2_w 204, 3) := by decide +kernel
theorem dX5_say_32 : decode cX5_say 32 = .ok (.invokestatic 91, 3) := by decide +kernel
theorem dX5_say_35 : decode cX5_say 35 = .ok (.ifCond .ne 10, 3) := by decide +kernel
theorem dX5_say_38 : decode cX5_say 38 = .ok (.aload_n 0, 1) := by decide +kernel
theorem dX5_say_39 : decode cX5_say 39 = .ok (.bipush (-2), 2) := by decide +kernel
theorem dX5_say_41 : decode cX5_say 41 = .ok (.invokevirtual 141, 3) := by decide +kernel
theorem dX5_say_44 : decode cX5_say 44 = .ok (.ireturn, 1) := by decide +kernel
theorem dX5_say_45 : decode cX5_say 45 = .ok (.aload_n 0, 1) := by decide +kernel
theorem dX5_say_46 : decode cX5_say 46 = .ok (.getfield 95, 3) := by decide +kernel
theorem dX5_say_49 : decode cX5_say 49 = .ok (.ifCond .ne 10, 3) := by decide +kernel
theorem dX5_say_52 : decode cX5_say 52 = .ok (.aload_n 0, 1) := by decide +kernel
theorem dX5_say_53 : decode cX5_say 53 = .ok (.bipush (-3), 2) := by decide +kernel
theorem dX5_say_55 : decode cX5_say 55 = .ok (.invokevirtual 141, 3) := by decide +kernel
theorem dX5_say_58 : decode cX5_say 58 = .ok (.ireturn, 1) := by decide +kernel
theorem dX5_say_59 : decode cX5_say 59 = .ok (.aload_n 0, 1) := by decide +kernel
theorem dX5_say_60 : decode cX5_say 60 = .ok (.iload_n 1, 1) := by decide +kernel
theorem dX5_say_61 : decode cX5_say 61 = .ok (.iload_n 2, 1) := by decide +kernel
theorem dX5_say_62 : decode cX5_say 62 = .ok (.iload_n 3, 1) := by decide +kernel
theorem dX5_say_63 : decode cX5_say 63 = .ok (.iload 4, 2) := by decide +kernel
theorem dX5_say_65 : decode cX5_say 65 = .ok (.invokevirtual 209, 3) := by decide +kernel
theorem dX5_say_68 : decode cX5_say 68 = .ok (.istore 5, 2) := by decide +kernel
theorem dX5_say_70 : decode cX5_say 70 = .ok (.iload 5, 2) := by decide +kernel
theorem dX5_say_72 : decode cX5_say 72 = .ok (.ifCond .ge 6, 3) := by decide +kernel
theorem dX5_say_75 : decode cX5_say 75 = .ok (.iload 5, 2) := by decide +kernel
theorem dX5_say_77 : decode cX5_say 77 = .ok (.ireturn, 1) := by decide +kernel
theorem dX5_say_78 : decode cX5_say 78 = .ok (.aload_n 0, 1) := by decide +kernel
theorem dX5_say_79 : decode cX5_say 79 = .ok (.getfield 158, 3) := by decide +kernel
theorem dX5_say_82 : decode cX5_say 82 = .ok (.istore 6, 2) := by decide +kernel
theorem dX5_say_84 : decode cX5_say 84 = .ok (.bipush (-9), 2) := by decide +kernel
theorem dX5_say_86 : decode cX5_say 86 = .ok (.istore 7, 2) := by decide +kernel
theorem dX5_say_88 : decode cX5_say 88 = .ok (.lconst 0, 1) := by decide +kernel
theorem dX5_say_89 : decode cX5_say 89 = .ok (.lstore 8, 2) := by decide +kernel
theorem dX5_say_91 : decode cX5_say 91 = .ok (.iconst 0, 1) := by decide +kernel
theorem dX5_say_92 : decode cX5_say 92 = .ok (.istore 10, 2) := by decide +kernel
theorem dX5_say_94 : decode cX5_say 94 = .ok (.iload 10, 2) := by decide +kernel
theorem dX5_say_96 : decode cX5_say 96 = .ok (.aload_n 0, 1) := by decide +kernel
theorem dX5_say_97 : decode cX5_say 97 = .ok (.invokevirtual 154, 3) := by decide +kernel
theorem dX5_say_100 : decode cX5_say 100 = .ok (.if_icmp .gt 44, 3) := by decide +kernel
theorem dX5_say_103 : decode cX5_say 103 = .ok (.aload_n 0, 1) := by decide +kernel
theorem dX5_say_104 : decode cX5_say 104 = .ok (.iload 10, 2) := by decide +kernel
theorem dX5_say_106 : decode cX5_say 106 = .ok (.putfield 158, 3) := by decide +kernel
theorem dX5_say_109 : decode cX5_say 109 = .ok (.aload_n 0, 1) := by decide +kernel
theorem dX5_say_110 : decode cX5_say 110 = .ok (.iload 4, 2) := by decide +kernel
theorem dX5_say_112 : decode cX5_say 112 = .ok (.invokevirtual 213, 3) := by decide +kernel
theorem dX5_say_115 : decode cX5_say 115 = .ok (.lstore 11, 2) := by decide +kernel
theorem dX5_say_117 : decode cX5_say 117 = .ok (.iload 7, 2) := by decide +kernel
theorem dX5_say_119 : decode cX5_say 119 = .ok (.ifCond .lt 11, 3) := by decide +kernel
theorem dX5_say_122 : decode cX5_say 122 = .ok (.lload 11, 2) := by decide +kernel
theorem dX5_say_124 : decode cX5_say 124 = .ok (.lload 8, 2) := by decide +kernel
theorem dX5_say_126 : decode cX5_say 126 = .ok (.lcmp, 1) := by decide +kernel
theorem dX5_say_127 : decode cX5_say 127 = .ok (.ifCond .ge 11, 3) := by decide +kernel
theorem dX5_say_130 : decode cX5_say 130 = .ok (.iload 10, 2) := by decide +kernel
theorem dX5_say_132 : decode cX5_say 132 = .ok (.istore 7, 2) := by decide +kernel
theorem dX5_say_134 : decode cX5_say 134 = .ok (.lload 11, 2) := by decide +kernel
theorem dX5_say_136 : decode cX5_say 136 = .ok (.lstore 8, 2) := by decide +kernel
theorem dX5_say_138 : decode cX5_say 138 = .ok (.iinc 10 1, 3) := by decide +kernel
theorem dX5_say_141 : decode cX5_say 141 = .ok (.goto (-47), 3) := by decide +kernel
theorem dX5_say_144 : decode cX5_say 144 = .ok (.aload_n 0, 1) := by decide +kernel
theorem dX5_say_145 : decode cX5_say 145 = .ok (.iload 6, 2) := by decide +kernel
theorem dX5_say_147 : decode cX5_say 147 = .ok (.putfield 158, 3) := by decide +kernel
theorem dX5_say_150 : decode cX5_say 150 = .ok (.iload 7, 2) := by decide +kernel
theorem dX5_say_152 : decode cX5_say 152 = .ok (.ireturn, 1) := by decide +kernel
theorem dX5_dutyEverywhere_0 : decode cX5_dutyEverywhere 0 = .ok (.iconst 0, 1) := by decide +kernel
theorem dX5_dutyEverywhere_1 : decode cX5_dutyEverywhere 1 = .ok (.istore_n 1, 1) := by decide +kernel
theorem dX5_dutyEverywhere_2 : decode cX5_dutyEverywhere 2 = .ok (.iconst 0, 1) := by decide +kernel
theorem dX5_dutyEverywhere_3 : decode cX5_dutyEverywhere 3 = .ok (.istore_n 2, 1) := by decide +kernel
theorem dX5_dutyEverywhere_4 : decode cX5_dutyEverywhere 4 = .ok (.iload_n 2, 1) := by decide +kernel
theorem dX5_dutyEverywhere_5 : decode cX5_dutyEverywhere 5 = .ok (.aload_n 0, 1) := by decide +kernel
theorem dX5_dutyEverywhere_6 : decode cX5_dutyEverywhere 6 = .ok (.getfield 88, 3) := by decide +kernel
theorem dX5_dutyEverywhere_9 : decode cX5_dutyEverywhere 9 = .ok (.if_icmp .ge 17, 3) := by decide +kernel
theorem dX5_dutyEverywhere_12 : decode cX5_dutyEverywhere 12 = .ok (.iload_n 1, 1) := by decide +kernel
theorem dX5_dutyEverywhere_13 : decode cX5_dutyEverywhere 13 = .ok (.aload_n 0, 1) := by decide +kernel
theorem dX5_dutyEverywhere_14 : decode cX5_dutyEverywhere 14 = .ok (.iload_n 2, 1) := by decide +kernel
theorem dX5_dutyEverywhere_15 : decode cX5_dutyEverywhere 15 = .ok (.invokevirtual 190, 3) := by decide +kernel
theorem dX5_dutyEverywhere_18 : decode cX5_dutyEverywhere 18 = .ok (.iadd, 1) := by decide +kernel
theorem dX5_dutyEverywhere_19 : decode cX5_dutyEverywhere 19 = .ok (.istore_n 1, 1) := by decide +kernel
theorem dX5_dutyEverywhere_20 : decode cX5_dutyEverywhere 20 = .ok (.iinc 2 1, 3) := by decide +kernel
theorem dX5_dutyEverywhere_23 : decode cX5_dutyEverywhere 23 = .ok (.goto (-19), 3) := by decide +kernel
theorem dX5_dutyEverywhere_26 : decode cX5_dutyEverywhere 26 = .ok (.iload_n 1, 1) := by decide +kernel
theorem dX5_dutyEverywhere_27 : decode cX5_dutyEverywhere 27 = .ok (.ireturn, 1) := by decide +kernel
theorem dX5_pack_0 : decode cX5_pack 0 = .ok (.iload_n 1, 1) := by decide +kernel
theorem dX5_pack_1 : decode cX5_pack 1 = .ok (.iconst (-1), 1) := by decide +kernel
theorem dX5_pack_2 : decode cX5_pack 2 = .ok (.if_icmp .ge 5, 3) := by decide +kernel
theorem dX5_pack_5 : decode cX5_pack 5 = .ok (.iconst (-1), 1) := by decide +kernel
theorem dX5_pack_6 : decode cX5_pack 6 = .ok (.ireturn, 1) := by decide +kernel
theorem dX5_pack_7 : decode cX5_pack 7 = .ok (.aload_n 0, 1) := by decide +kernel
theorem dX5_pack_8 : decode cX5_pack 8 = .ok (.getfield 95, 3) := by decide +kernel
theorem dX5_pack_11 : decode cX5_pack 11 = .ok (.ifCond .ne 6, 3) := by decide +kernel
theorem dX5_pack_14 : decode cX5_pack 14 = .ok (.bipush (-3), 2) := by decide +kernel
theorem dX5_pack_16 : decode cX5_pack 16 = .ok (.ireturn, 1) := by decide +kernel
theorem dX5_pack_17 : decode cX5_pack 17 = .ok (.iconst 1, 1) := by decide +kernel
theorem dX5_pack_18 : decode cX5_pack 18 = .ok (.istore_n 2, 1) := by decide +kernel
theorem dX5_pack_19 : decode cX5_pack 19 = .ok (.iconst 0, 1) := by decide +kernel
theorem dX5_pack_20 : decode cX5_pack 20 = .ok (.istore_n 3, 1) := by decide +kernel
theorem dX5_pack_21 : decode cX5_pack 21 = .ok (.iload_n 3, 1) := by decide +kernel
theorem dX5_pack_22 : decode cX5_pack 22 = .ok (.aload_n 0, 1) := by decide +kernel
theorem dX5_pack_23 : decode cX5_pack 23 = .ok (.getfield 95, 3) := by decide +kernel
theorem dX5_pack_26 : decode cX5_pack 26 = .ok (.if_icmp .ge 25, 3) := by decide +kernel
theorem dX5_pack_29 : decode cX5_pack 29 = .ok (.aload_n 0, 1) := by decide +kernel
theorem dX5_pack_30 : decode cX5_pack 30 = .ok (.getfield 49, 3) := by decide +kernel
theorem dX5_pack_33 : decode cX5_pack 33 = .ok (.iload_n 3, 1) := by decide +kernel
theorem dX5_pack_34 : decode cX5_pack 34 = .ok (.aload_n 0, 1) := by decide +kernel
theorem dX5_pack_35 : decode cX5_pack 35 = .ok (.getfield 25, 3) := by decide +kernel
theorem dX5_pack_38 : decode cX5_pack 38 = .ok (.iload_n 3, 1) := by decide +kernel
theorem dX5_pack_39 : decode cX5_pack 39 = .ok (.iaload, 1) := by decide +kernel
theorem dX5_pack_40 : decode cX5_pack 40 = .ok (.iastore, 1) := by decide +kernel
theorem dX5_pack_41 : decode cX5_pack 41 = .ok (.iload_n 2, 1) := by decide +kernel
theorem dX5_pack_42 : decode cX5_pack 42 = .ok (.iconst 3, 1) := by decide +kernel
theorem dX5_pack_43 : decode cX5_pack 43 = .ok (.imul, 1) := by decide +kernel
theorem dX5_pack_44 : decode cX5_pack 44 = .ok (.istore_n 2, 1) := by decide +kernel
theorem dX5_pack_45 : decode cX5_pack 45 = .ok (.iinc 3 1, 3) := by decide +kernel
theorem dX5_pack_48 : decode cX5_pack 48 = .ok (.goto (-27), 3) := by decide +kernel
theorem dX5_pack_51 : decode cX5_pack 51 = .ok (.bipush (-9), 2) := by decide +kernel
theorem dX5_pack_53 : decode cX5_pack 53 = .ok (.istore_n 3, 1) := by decide +kernel
theorem dX5_pack_54 : decode cX5_pack 54 = .ok (.iconst 0, 1) := by decide +kernel
theorem dX5_pack_55 : decode cX5_pack 55 = .ok (.istore 4, 2) := by decide +kernel
theorem dX5_pack_57 : decode cX5_pack 57 = .ok (.iload 4, 2) := by decide +kernel
theorem dX5_pack_59 : decode cX5_pack 59 = .ok (.iload_n 2, 1) := by decide +kernel
theorem dX5_pack_60 : decode cX5_pack 60 = .ok (.if_icmp .ge 100, 3) := by decide +kernel
theorem dX5_pack_63 : decode cX5_pack 63 = .ok (.iload 4, 2) := by decide +kernel
theorem dX5_pack_65 : decode cX5_pack 65 = .ok (.istore 5, 2) := by decide +kernel
theorem dX5_pack_67 : decode cX5_pack 67 = .ok (.aload_n 0, 1) := by decide +kernel
theorem dX5_pack_68 : decode cX5_pack 68 = .ok (.getfield 95, 3) := by decide +kernel
theorem dX5_pack_71 : decode cX5_pack 71 = .ok (.iconst 1, 1) := by decide +kernel
theorem dX5_pack_72 : decode cX5_pack 72 = .ok (.isub, 1) := by decide +kernel
theorem dX5_pack_73 : decode cX5_pack 73 = .ok (.istore 6, 2) := by decide +kernel
theorem dX5_pack_75 : decode cX5_pack 75 = .ok (.iload 6, 2) := by decide +kernel
theorem dX5_pack_77 : decode cX5_pack 77 = .ok (.ifCond .lt 26, 3) := by decide +kernel
theorem dX5_pack_80 : decode cX5_pack 80 = .ok (.aload_n 0, 1) := by decide +kernel
theorem dX5_pack_81 : decode cX5_pack 81 = .ok (.getfield 25, 3) := by decide +kernel
theorem dX5_pack_84 : decode cX5_pack 84 = .ok (.iload 6, 2) := by decide +kernel
theorem dX5_pack_86 : decode cX5_pack 86 = .ok (.iload 5, 2) := by decide +kernel
theorem dX5_pack_88 : decode cX5_pack 88 = .ok (.iconst 3, 1) := by decide +kernel
theorem dX5_pack_89 : decode cX5_pack 89 = .ok (.irem, 1) := by decide +kernel
theorem dX5_pack_90 : decode cX5_pack 90 = .ok (.iastore, 1) := by decide +kernel
theorem dX5_pack_91 : decode cX5_pack 91 = .ok (.iload 5, 2) := by decide +kernel
theorem dX5_pack_93 : decode cX5_pack 93 = .ok (.iconst 3, 1) := by decide +kernel
theorem dX5_pack_94 : decode cX5_pack 94 = .ok (.idiv, 1) := by decide +kernel
theorem dX5_pack_95 : decode cX5_pack 95 = .ok (.istore 5, 2) := by decide +kernel
theorem dX5_pack_97 : decode cX5_pack 97 = .ok (.iinc 6 (-1), 3) := by decide +kernel
theorem dX5_pack_100 : decode cX5_pack 100 = .ok (.goto (-25), 3) := by decide +kernel
theorem dX5_pack_103 : decode cX5_pack 103 = .ok (.aload_n 0, 1) := by decide +kernel
theorem dX5_pack_104 : decode cX5_pack 104 = .ok (.invokevirtual 216, 3) := by decide +kernel
theorem dX5_pack_107 : decode cX5_pack 107 = .ok (.istore 6, 2) := by decide +kernel
theorem dX5_pack_109 : decode cX5_pack 109 = .ok (.iload_n 3, 1) := by decide +kernel
theorem dX5_pack_110 : decode cX5_pack 110 = .ok (.ifCond .lt 9, 3) := by decide +kernel
theorem dX5_pack_113 : decode cX5_pack 113 = .ok (.iload 6, 2) := by decide +kernel
theorem dX5_pack_115 : decode cX5_pack 115 = .ok (.iload_n 3, 1) := by decide +kernel
theorem dX5_pack_116 : decode cX5_pack 116 = .ok (.if_icmp .ge 38, 3) := by decide +kernel
theorem dX5_pack_119 : decode cX5_pack 119 = .ok (.iload 6, 2) := by decide +kernel
theorem dX5_pack_121 : decode cX5_pack 121 = .ok (.istore_n 3, 1) := by decide +kernel
theorem dX5_pack_122 : decode cX5_pack 122 = .ok (.iconst 0, 1) := by decide +kernel
theorem dX5_pack_123 : decode cX5_pack 123 = .ok (.istore 7, 2) := by decide +kernel
theorem dX5_pack_125 : decode cX5_pack 125 = .ok (.iload 7, 2) := by decide +kernel
theorem dX5_pack_127 : decode cX5_pack 127 = .ok (.aload_n 0, 1) := by decide +kernel
theorem dX5_pack_128 : decode cX5_pack 128 = .ok (.getfield 95, 3) := by decide +kernel
theorem dX5_pack_131 : decode cX5_pack 131 = .ok (.if_icmp .ge 23, 3) := by decide +kernel
theorem dX5_pack_134 : decode cX5_pack 134 = .ok (.aload_n 0, 1) := by decide +kernel
theorem dX5_pack_135 : decode cX5_pack 135 = .ok (.getfield 52, 3) := by decide +kernel
theorem dX5_pack_138 : decode cX5_pack 138 = .ok (.iload 7, 2) := by decide +kernel
theorem dX5_pack_140 : decode cX5_pack 140 = .ok (.aload_n 0, 1) := by decide +kernel
theorem dX5_pack_141 : decode cX5_pack 141 = .ok (.getfield 25, 3) := by decide +kernel
theorem dX5_pack_144 : decode cX5_pack 144 = .ok (.iload 7, 2) := by decide +kernel
theorem dX5_pack_146 : decode cX5_pack 146 = .ok (.iaload, 1) := by decide +kernel
theorem dX5_pack_147 : decode cX5_pack 147 = .ok (.iastore, 1) := by decide +kernel
theorem dX5_pack_148 : decode cX5_pack 148 = .ok (.iinc 7 1, 3) := by decide +kernel
theorem dX5_pack_151 : decode cX5_pack 151 = .ok (.goto (-26), 3) := by decide +kernel
theorem dX5_pack_154 : decode cX5_pack 154 = .ok (.iinc 4 1, 3) := by decide +kernel
theorem dX5_pack_157 : decode cX5_pack 157 = .ok (.goto (-100), 3) := by decide +kernel
theorem dX5_pack_160 : decode cX5_pack 160 = .ok (.iconst 0, 1) := by decide +kernel
theorem dX5_pack_161 : decode cX5_pack 161 = .ok (.istore 4, 2) := by decide +kernel
theorem dX5_pack_163 : decode cX5_pack 163 = .ok (.iload 4, 2) := by decide +kernel
theorem dX5_pack_165 : decode cX5_pack 165 = .ok (.aload_n 0, 1) := by decide +kernel
theorem dX5_pack_166 : decode cX5_pack 166 = .ok (.getfield 95, 3) := by decide +kernel
theorem dX5_pack_169 : decode cX5_pack 169 = .ok (.if_icmp .ge 23, 3) := by decide +kernel
theorem dX5_pack_172 : decode cX5_pack 172 = .ok (.aload_n 0, 1) := by decide +kernel
theorem dX5_pack_173 : decode cX5_pack 173 = .ok (.getfield 25, 3) := by decide +kernel
theorem dX5_pack_176 : decode cX5_pack 176 = .ok (.iload 4, 2) := by decide +kernel
theorem dX5_pack_178 : decode cX5_pack 178 = .ok (.aload_n 0, 1) := by decide +kernel
theorem dX5_pack_179 : decode cX5_pack 179 = .ok (.getfield 49, 3) := by decide +kernel
theorem dX5_pack_182 : decode cX5_pack 182 = .ok (.iload 4, 2) := by decide +kernel
theorem dX5_pack_184 : decode cX5_pack 184 = .ok (.iaload, 1) := by decide +kernel
theorem dX5_pack_185 : decode cX5_pack 185 = .ok (.iastore, 1) := by decide +kernel
theorem dX5_pack_186 : decode cX5_pack 186 = .ok (.iinc 4 1, 3) := by decide +kernel
theorem dX5_pack_189 : decode cX5_pack 189 = .ok (.goto (-26), 3) := by decide +kernel
theorem dX5_pack_192 : decode cX5_pack 192 = .ok (.iload_n 1, 1) := by decide +kernel
theorem dX5_pack_193 : decode cX5_pack 193 = .ok (.ifCond .ge 7, 3) := by decide +kernel
theorem dX5_pack_196 : decode cX5_pack 196 = .ok (.iload_n 3, 1) := by decide +kernel
theorem dX5_pack_197 : decode cX5_pack 197 = .ok (.goto 22, 3) := by decide +kernel
theorem dX5_pack_200 : decode cX5_pack 200 = .ok (.iload_n 1, 1) := by decide +kernel
theorem dX5_pack_201 : decode cX5_pack 201 = .ok (.aload_n 0, 1) := by decide +kernel
theorem dX5_pack_202 : decode cX5_pack 202 = .ok (.getfield 95, 3) := by decide +kernel
theorem dX5_pack_205 : decode cX5_pack 205 = .ok (.if_icmp .ge 12, 3) := by decide +kernel
theorem dX5_pack_208 : decode cX5_pack 208 = .ok (.aload_n 0, 1) := by decide +kernel
theorem dX5_pack_209 : decode cX5_pack 209 = .ok (.getfield 52, 3) := by decide +kernel
theorem dX5_pack_212 : decode cX5_pack 212 = .ok (.iload_n 1, 1) := by decide +kernel
theorem dX5_pack_213 : decode cX5_pack 213 = .ok (.iaload, 1) := by decide +kernel
theorem dX5_pack_214 : decode cX5_pack 214 = .ok (.goto 5, 3) := by decide +kernel
theorem dX5_pack_217 : decode cX5_pack 217 = .ok (.bipush (-9), 2) := by decide +kernel
theorem dX5_pack_219 : decode cX5_pack 219 = .ok (.ireturn, 1) := by decide +kernel
theorem dX5_road_0 : decode cX5_road 0 = .ok (.aload_n 0, 1) := by decide +kernel
theorem dX5_road_1 : decode cX5_road 1 = .ok (.getfield 95, 3) := by decide +kernel
theorem dX5_road_4 : decode cX5_road 4 = .ok (.ifCond .ne 6, 3) := by decide +kernel
theorem dX5_road_7 : decode cX5_road 7 = .ok (.bipush (-3), 2) := by decide +kernel
theorem dX5_road_9 : decode cX5_road 9 = .ok (.ireturn, 1) := by decide +kernel
theorem dX5_road_10 : decode cX5_road 10 = .ok (.iconst 0, 1) := by decide +kernel
theorem dX5_road_11 : decode cX5_road 11 = .ok (.istore_n 1, 1) := by decide +kernel
theorem dX5_road_12 : decode cX5_road 12 = .ok (.ldc2_w 219, 3) := by decide +kernel
theorem dX5_road_15 : decode cX5_road 15 = .ok (.lstore_n 2, 1) := by decide +kernel
theorem dX5_road_16 : decode cX5_road 16 = .ok (.iconst 0, 1) := by decide +kernel
theorem dX5_road_17 : decode cX5_road 17 = .ok (.istore 4, 2) := by decide +kernel
theorem dX5_road_19 : decode cX5_road 19 = .ok (.iload 4, 2) := by decide +kernel
theorem dX5_road_21 : decode cX5_road 21 = .ok (.aload_n 0, 1) := by decide +kernel
theorem dX5_road_22 : decode cX5_road 22 = .ok (.getfield 88, 3) := by decide +kernel
theorem dX5_road_25 : decode cX5_road 25 = .ok (.if_icmp .ge 57, 3) := by decide +kernel
theorem dX5_road_28 : decode cX5_road 28 = .ok (.aload_n 0, 1) := by decide +kernel
theorem dX5_road_29 : decode cX5_road 29 = .ok (.getfield 46, 3) := by decide +kernel
theorem dX5_road_32 : decode cX5_road 32 = .ok (.iconst 0, 1) := by decide +kernel
theorem dX5_road_33 : decode cX5_road 33 = .ok (.iload 4, 2) := by decide +kernel
theorem dX5_road_35 : decode cX5_road 35 = .ok (.iastore, 1) := by decide +kernel
theorem dX5_road_36 : decode cX5_road 36 = .ok (.aload_n 0, 1) := by decide +kernel
theorem dX5_road_37 : decode cX5_road 37 = .ok (.iconst 1, 1) := by decide +kernel
theorem dX5_road_38 : decode cX5_road 38 = .ok (.invokevirtual 213, 3) := by decide +kernel
theorem dX5_road_41 : decode cX5_road 41 = .ok (.lstore 5, 2) := by decide +kernel
theorem dX5_road_43 : decode cX5_road 43 = .ok (.lload_n 2, 1) := by decide +kernel
theorem dX5_road_44 : decode cX5_road 44 = .ok (.lconst 0, 1) := by decide +kernel
theorem dX5_road_45 : decode cX5_road 45 = .ok (.lcmp, 1) := by decide +kernel
theorem dX5_road_46 : decode cX5_road 46 = .ok (.ifCond .lt 10, 3) := by decide +kernel
theorem dX5_road_49 : decode cX5_road 49 = .ok (.lload 5, 2) := by decide +kernel
theorem dX5_road_51 : decode cX5_road 51 = .ok (.lload_n 2, 1) := by decide +kernel
theorem dX5_road_52 : decode cX5_road 52 = .ok (.lcmp, 1) := by decide +kernel
theorem dX5_road_53 : decode cX5_road 53 = .ok (.ifCond .ge 8, 3) := by decide +kernel
theorem dX5_road_56 : decode cX5_road 56 = .ok (.iload 4, 2) := by decide +kernel
theorem dX5_road_58 : decode cX5_road 58 = .ok (.goto 4, 3) := by decide +kernel
theorem dX5_road_61 : decode cX5_road 61 = .ok (.iload_n 1, 1) := by decide +kernel
theorem dX5_road_62 : decode cX5_road 62 = .ok (.istore_n 1, 1) := by decide +kernel
theorem dX5_road_63 : decode cX5_road 63 = .ok (.iload_n 1, 1) := by decide +kernel
theorem dX5_road_64 : decode cX5_road 64 = .ok (.iload 4, 2) := by decide +kernel
theorem dX5_road_66 : decode cX5_road 66 = .ok (.if_icmp .ne 8, 3) := by decide +kernel
theorem dX5_road_69 : decode cX5_road 69 = .ok (.lload 5, 2) := by decide +kernel
theorem dX5_road_71 : decode cX5_road 71 = .ok (.goto 4, 3) := by decide +kernel
theorem dX5_road_74 : decode cX5_road 74 = .ok (.lload_n 2, 1) := by decide +kernel
theorem dX5_road_75 : decode cX5_road 75 = .ok (.lstore_n 2, 1) := by decide +kernel
theorem dX5_road_76 : decode cX5_road 76 = .ok (.iinc 4 1, 3) := by decide +kernel
theorem dX5_road_79 : decode cX5_road 79 = .ok (.goto (-60), 3) := by decide +kernel
theorem dX5_road_82 : decode cX5_road 82 = .ok (.iload_n 1, 1) := by decide +kernel
theorem dX5_road_83 : decode cX5_road 83 = .ok (.ireturn, 1) := by decide +kernel
theorem dX5_worth_0 : decode cX5_worth 0 = .ok (.aload_n 0, 1) := by decide +kernel
theorem dX5_worth_1 : decode cX5_worth 1 = .ok (.iload_n 1, 1) := by decide +kernel
theorem dX5_worth_2 : decode cX5_worth 2 = .ok (.invokevirtual 173, 3) := by decide +kernel
theorem dX5_worth_5 : decode cX5_worth 5 = .ok (.ifCond .ne 35, 3) := by decide +kernel
theorem dX5_worth_8 : decode cX5_worth 8 = .ok (.iload_n 2, 1) := by decide +kernel
theorem dX5_worth_9 : decode cX5_worth 9 = .ok (.invokestatic 137, 3) := by decide +kernel
theorem dX5_worth_12 : decode cX5_worth 12 = .ok (.ifCond .ne 28, 3) := by decide +kernel
theorem dX5_worth_15 : decode cX5_worth 15 = .ok (.iload_n 3, 1) := by decide +kernel
theorem dX5_worth_16 : decode cX5_worth 16 = .ok (.i2l, 1) := by decide +kernel
theorem dX5_worth_17 : decode cX5_worth 17 = .ok (.lconst 0, 1) := by decide +kernel
theorem dX5_worth_18 : decode cX5_worth 18 = .ok (.ldc2_w 98, 3) := by decide +kernel
theorem dX5_worth_21 : decode cX5_worth 21 = .ok (.invokestatic 91, 3) := by decide +kernel
theorem dX5_worth_24 : decode cX5_worth 24 = .ok (.ifCond .eq 16, 3) := by decide +kernel
theorem dX5_worth_27 : decode cX5_worth 27 = .ok (.iload 5, 2) := by decide +kernel
theorem dX5_worth_29 : decode cX5_worth 29 = .ok (.i2l, 1) := by decide +kernel
theorem dX5_worth_30 : decode cX5_worth 30 = .ok (.lconst 0, 1) := by decide +kernel
theorem dX5_worth_31 : decode cX5_worth 31 = .ok (.ldc2_w 204, 3) := by decide +kernel
theorem dX5_worth_34 : decode cX5_worth 34 = .ok (.invokestatic 91, 3) := by decide +kernel
theorem dX5_worth_37 : decode cX5_worth 37 = .ok (.ifCond .ne 8, 3) := by decide +kernel
theorem dX5_worth_40 : decode cX5_worth 40 = .ok (.aload_n 0, 1) := by decide +kernel
theorem dX5_worth_41 : decode cX5_worth 41 = .ok (.invokevirtual 206, 3) := by decide +kernel
theorem dX5_worth_44 : decode cX5_worth 44 = .ok (.lreturn, 1) := by decide +kernel
theorem dX5_worth_45 : decode cX5_worth 45 = .ok (.aload_n 0, 1) := by decide +kernel
theorem dX5_worth_46 : decode cX5_worth 46 = .ok (.iload_n 2, 1) := by decide +kernel
theorem dX5_worth_47 : decode cX5_worth 47 = .ok (.iload_n 3, 1) := by decide +kernel
theorem dX5_worth_48 : decode cX5_worth 48 = .ok (.iload 4, 2) := by decide +kernel
theorem dX5_worth_50 : decode cX5_worth 50 = .ok (.iload 5, 2) := by decide +kernel
theorem dX5_worth_52 : decode cX5_worth 52 = .ok (.invokevirtual 209, 3) := by decide +kernel
theorem dX5_worth_55 : decode cX5_worth 55 = .ok (.ifCond .ge 7, 3) := by decide +kernel
theorem dX5_worth_58 : decode cX5_worth 58 = .ok (.invokestatic 84, 3) := by decide +kernel
theorem dX5_worth_61 : decode cX5_worth 61 = .ok (.lreturn, 1) := by decide +kernel
theorem dX5_worth_62 : decode cX5_worth 62 = .ok (.aload_n 0, 1) := by decide +kernel
theorem dX5_worth_63 : decode cX5_worth 63 = .ok (.iload 5, 2) := by decide +kernel
theorem dX5_worth_65 : decode cX5_worth 65 = .ok (.invokevirtual 213, 3) := by decide +kernel
theorem dX5_worth_68 : decode cX5_worth 68 = .ok (.lstore 6, 2) := by decide +kernel
theorem dX5_worth_70 : decode cX5_worth 70 = .ok (.aload_n 0, 1) := by decide +kernel
theorem dX5_worth_71 : decode cX5_worth 71 = .ok (.iload_n 1, 1) := by decide +kernel
theorem dX5_worth_72 : decode cX5_worth 72 = .ok (.putfield 73, 3) := by decide +kernel
theorem dX5_worth_75 : decode cX5_worth 75 = .ok (.lload 6, 2) := by decide +kernel
theorem dX5_worth_77 : decode cX5_worth 77 = .ok (.aload_n 0, 1) := by decide +kernel
theorem dX5_worth_78 : decode cX5_worth 78 = .ok (.iload 5, 2) := by decide +kernel
theorem dX5_worth_80 : decode cX5_worth 80 = .ok (.invokevirtual 213, 3) := by decide +kernel
theorem dX5_worth_83 : decode cX5_worth 83 = .ok (.lsub, 1) := by decide +kernel
theorem dX5_worth_84 : decode cX5_worth 84 = .ok (.bipush 8, 2) := by decide +kernel
theorem dX5_worth_86 : decode cX5_worth 86 = .ok (.iload 5, 2) := by decide +kernel
theorem dX5_worth_88 : decode cX5_worth 88 = .ok (.isub, 1) := by decide +kernel
theorem dX5_worth_89 : decode cX5_worth 89 = .ok (.invokestatic 196, 3) := by decide +kernel
theorem dX5_worth_92 : decode cX5_worth 92 = .ok (.lmul, 1) := by decide +kernel
theorem dX5_worth_93 : decode cX5_worth 93 = .ok (.lstore 8, 2) := by decide +kernel
theorem dX5_worth_95 : decode cX5_worth 95 = .ok (.aload_n 0, 1) := by decide +kernel
theorem dX5_worth_96 : decode cX5_worth 96 = .ok (.bipush (-9), 2) := by decide +kernel
theorem dX5_worth_98 : decode cX5_worth 98 = .ok (.putfield 73, 3) := by decide +kernel
theorem dX5_worth_101 : decode cX5_worth 101 = .ok (.lload 8, 2) := by decide +kernel
theorem dX5_worth_103 : decode cX5_worth 103 = .ok (.lreturn, 1) := by decide +kernel
theorem dX5_reading_0 : decode cX5_reading 0 = .ok (.aload_n 0, 1) := by decide +kernel
theorem dX5_reading_1 : decode cX5_reading 1 = .ok (.iload_n 1, 1) := by decide +kernel
theorem dX5_reading_2 : decode cX5_reading 2 = .ok (.invokevirtual 170, 3) := by decide +kernel
theorem dX5_reading_5 : decode cX5_reading 5 = .ok (.ifCond .eq 5, 3) := by decide +kernel
theorem dX5_reading_8 : decode cX5_reading 8 = .ok (.iconst (-1), 1) := by decide +kernel
theorem dX5_reading_9 : decode cX5_reading 9 = .ok (.ireturn, 1) := by decide +kernel
theorem dX5_reading_10 : decode cX5_reading 10 = .ok (.iload_n 2, 1) := by decide +kernel
theorem dX5_reading_11 : decode cX5_reading 11 = .ok (.i2l, 1) := by decide +kernel
theorem dX5_reading_12 : decode cX5_reading 12 = .ok (.lconst 0, 1) := by decide +kernel
theorem dX5_reading_13 : decode cX5_reading 13 = .ok (.ldc2_w 221, 3) := by decide +kernel
theorem dX5_reading_16 : decode cX5_reading 16 = .ok (.invokestatic 91, 3) := by decide +kernel
theorem dX5_reading_19 : decode cX5_reading 19 = .ok (.ifCond .ne 6, 3) := by decide +kernel
theorem dX5_reading_22 : decode cX5_reading 22 = .ok (.bipush (-2), 2) := by decide +kernel
theorem dX5_reading_24 : decode cX5_reading 24 = .ok (.ireturn, 1) := by decide +kernel
theorem dX5_reading_25 : decode cX5_reading 25 = .ok (.aload_n 0, 1) := by decide +kernel
theorem dX5_reading_26 : decode cX5_reading 26 = .ok (.getfield 164, 3) := by decide +kernel
theorem dX5_reading_29 : decode cX5_reading 29 = .ok (.bipush 8, 2) := by decide +kernel
theorem dX5_reading_31 : decode cX5_reading 31 = .ok (.if_icmp .ne 6, 3) := by decide +kernel
theorem dX5_reading_34 : decode cX5_reading 34 = .ok (.bipush (-4), 2) := by decide +kernel
theorem dX5_reading_36 : decode cX5_reading 36 = .ok (.ireturn, 1) := by decide +kernel
theorem dX5_reading_37 : decode cX5_reading 37 = .ok (.aload_n 0, 1) := by decide +kernel
theorem dX5_reading_38 : decode cX5_reading 38 = .ok (.getfield 55, 3) := by decide +kernel
theorem dX5_reading_41 : decode cX5_reading 41 = .ok (.aload_n 0, 1) := by decide +kernel
theorem dX5_reading_42 : decode cX5_reading 42 = .ok (.getfield 164, 3) := by decide +kernel
theorem dX5_reading_45 : decode cX5_reading 45 = .ok (.iload_n 1, 1) := by decide +kernel
theorem dX5_reading_46 : decode cX5_reading 46 = .ok (.iastore, 1) := by decide +kernel
theorem dX5_reading_47 : decode cX5_reading 47 = .ok (.aload_n 0, 1) := by decide +kernel
theorem dX5_reading_48 : decode cX5_reading 48 = .ok (.getfield 58, 3) := by decide +kernel
theorem dX5_reading_51 : decode cX5_reading 51 = .ok (.aload_n 0, 1) := by decide +kernel
theorem dX5_reading_52 : decode cX5_reading 52 = .ok (.getfield 164, 3) := by decide +kernel
theorem dX5_reading_55 : decode cX5_reading 55 = .ok (.iload_n 2, 1) := by decide +kernel
theorem dX5_reading_56 : decode cX5_reading 56 = .ok (.iastore, 1) := by decide +kernel
theorem dX5_reading_57 : decode cX5_reading 57 = .ok (.aload_n 0, 1) := by decide +kernel
theorem dX5_reading_58 : decode cX5_reading 58 = .ok (.dup, 1) := by decide +kernel
theorem dX5_reading_59 : decode cX5_reading 59 = .ok (.getfield 164, 3) := by decide +kernel
theorem dX5_reading_62 : decode cX5_reading 62 = .ok (.iconst 1, 1) := by decide +kernel
theorem dX5_reading_63 : decode cX5_reading 63 = .ok (.iadd, 1) := by decide +kernel
theorem dX5_reading_64 : decode cX5_reading 64 = .ok (.putfield 164, 3) := by decide +kernel
theorem dX5_reading_67 : decode cX5_reading 67 = .ok (.aload_n 0, 1) := by decide +kernel
theorem dX5_reading_68 : decode cX5_reading 68 = .ok (.getfield 164, 3) := by decide +kernel
theorem dX5_reading_71 : decode cX5_reading 71 = .ok (.iconst 1, 1) := by decide +kernel
theorem dX5_reading_72 : decode cX5_reading 72 = .ok (.isub, 1) := by decide +kernel
theorem dX5_reading_73 : decode cX5_reading 73 = .ok (.ireturn, 1) := by decide +kernel
theorem dX5_back_0 : decode cX5_back 0 = .ok (.iload_n 1, 1) := by decide +kernel
theorem dX5_back_1 : decode cX5_back 1 = .ok (.i2l, 1) := by decide +kernel
theorem dX5_back_2 : decode cX5_back 2 = .ok (.lconst 0, 1) := by decide +kernel
theorem dX5_back_3 : decode cX5_back 3 = .ok (.aload_n 0, 1) := by decide +kernel
theorem dX5_back_4 : decode cX5_back 4 = .ok (.getfield 164, 3) := by decide +kernel
theorem dX5_back_7 : decode cX5_back 7 = .ok (.i2l, 1) := by decide +kernel
theorem dX5_back_8 : decode cX5_back 8 = .ok (.invokestatic 91, 3) := by decide +kernel
theorem dX5_back_11 : decode cX5_back 11 = .ok (.ifCond .ne 6, 3) := by decide +kernel
theorem dX5_back_14 : decode cX5_back 14 = .ok (.bipush (-2), 2) := by decide +kernel
theorem dX5_back_16 : decode cX5_back 16 = .ok (.ireturn, 1) := by decide +kernel
theorem dX5_back_17 : decode cX5_back 17 = .ok (.aload_n 0, 1) := by decide +kernel
theorem dX5_back_18 : decode cX5_back 18 = .ok (.dup, 1) := by decide +kernel
theorem dX5_back_19 : decode cX5_back 19 = .ok (.getfield 164, 3) := by decide +kernel
theorem dX5_back_22 : decode cX5_back 22 = .ok (.iload_n 1, 1) := by decide +kernel
theorem dX5_back_23 : decode cX5_back 23 = .ok (.isub, 1) := by decide +kernel
theorem dX5_back_24 : decode cX5_back 24 = .ok (.putfield 164, 3) := by decide +kernel
theorem dX5_back_27 : decode cX5_back 27 = .ok (.aload_n 0, 1) := by decide +kernel
theorem dX5_back_28 : decode cX5_back 28 = .ok (.getfield 164, 3) := by decide +kernel
theorem dX5_back_31 : decode cX5_back 31 = .ok (.ireturn, 1) := by decide +kernel
theorem dX5_areSo_0 : decode cX5_areSo 0 = .ok (.iconst 1, 1) := by decide +kernel
theorem dX5_areSo_1 : decode cX5_areSo 1 = .ok (.istore_n 1, 1) := by decide +kernel
theorem dX5_areSo_2 : decode cX5_areSo 2 = .ok (.iconst 0, 1) := by decide +kernel
theorem dX5_areSo_3 : decode cX5_areSo 3 = .ok (.istore_n 2, 1) := by decide +kernel
theorem dX5_areSo_4 : decode cX5_areSo 4 = .ok (.iload_n 2, 1) := by decide +kernel
theorem dX5_areSo_5 : decode cX5_areSo 5 = .ok (.aload_n 0, 1) := by decide +kernel
theorem dX5_areSo_6 : decode cX5_areSo 6 = .ok (.getfield 164, 3) := by decide +kernel
theorem dX5_areSo_9 : decode cX5_areSo 9 = .ok (.if_icmp .ge 38, 3) := by decide +kernel
theorem dX5_areSo_12 : decode cX5_areSo 12 = .ok (.iload_n 1, 1) := by decide +kernel
theorem dX5_areSo_13 : decode cX5_areSo 13 = .ok (.ifCond .eq 26, 3) := by decide +kernel
theorem dX5_areSo_16 : decode cX5_areSo 16 = .ok (.aload_n 0, 1) := by decide +kernel
theorem dX5_areSo_17 : decode cX5_areSo 17 = .ok (.aload_n 0, 1) := by decide +kernel
theorem dX5_areSo_18 : decode cX5_areSo 18 = .ok (.getfield 55, 3) := by decide +kernel
theorem dX5_areSo_21 : decode cX5_areSo 21 = .ok (.iload_n 2, 1) := by decide +kernel
theorem dX5_areSo_22 : decode cX5_areSo 22 = .ok (.iaload, 1) := by decide +kernel
theorem dX5_areSo_23 : decode cX5_areSo 23 = .ok (.invokevirtual 190, 3) := by decide +kernel
theorem dX5_areSo_26 : decode cX5_areSo 26 = .ok (.aload_n 0, 1) := by decide +kernel
theorem dX5_areSo_27 : decode cX5_areSo 27 = .ok (.getfield 58, 3) := by decide +kernel
theorem dX5_areSo_30 : decode cX5_areSo 30 = .ok (.iload_n 2, 1) := by decide +kernel
theorem dX5_areSo_31 : decode cX5_areSo 31 = .ok (.iaload, 1) := by decide +kernel
theorem dX5_areSo_32 : decode cX5_areSo 32 = .ok (.if_icmp .ne 7, 3) := by decide +kernel
theorem dX5_areSo_35 : decode cX5_areSo 35 = .ok (.iconst 1, 1) := by decide +kernel
theorem dX5_areSo_36 : decode cX5_areSo 36 = .ok (.goto 4, 3) := by decide +kernel
theorem dX5_areSo_39 : decode cX5_areSo 39 = .ok (.iconst 0, 1) := by decide +kernel
theorem dX5_areSo_40 : decode cX5_areSo 40 = .ok (.istore_n 1, 1) := by decide +kernel
theorem dX5_areSo_41 : decode cX5_areSo 41 = .ok (.iinc 2 1, 3) := by decide +kernel
theorem dX5_areSo_44 : decode cX5_areSo 44 = .ok (.goto (-40), 3) := by decide +kernel
theorem dX5_areSo_47 : decode cX5_areSo 47 = .ok (.iload_n 1, 1) := by decide +kernel
theorem dX5_areSo_48 : decode cX5_areSo 48 = .ok (.ireturn, 1) := by decide +kernel
theorem dX5_said_0 : decode cX5_said 0 = .ok (.iload_n 1, 1) := by decide +kernel
theorem dX5_said_1 : decode cX5_said 1 = .ok (.i2l, 1) := by decide +kernel
theorem dX5_said_2 : decode cX5_said 2 = .ok (.lconst 0, 1) := by decide +kernel
theorem dX5_said_3 : decode cX5_said 3 = .ok (.lconst 1, 1) := by decide +kernel
theorem dX5_said_4 : decode cX5_said 4 = .ok (.invokestatic 91, 3) := by decide +kernel
theorem dX5_said_7 : decode cX5_said 7 = .ok (.ifCond .ne 6, 3) := by decide +kernel
theorem dX5_said_10 : decode cX5_said 10 = .ok (.bipush (-2), 2) := by decide +kernel
theorem dX5_said_12 : decode cX5_said 12 = .ok (.ireturn, 1) := by decide +kernel
theorem dX5_said_13 : decode cX5_said 13 = .ok (.aload_n 0, 1) := by decide +kernel
theorem dX5_said_14 : decode cX5_said 14 = .ok (.getfield 95, 3) := by decide +kernel
theorem dX5_said_17 : decode cX5_said 17 = .ok (.ifCond .ne 6, 3) := by decide +kernel
theorem dX5_said_20 : decode cX5_said 20 = .ok (.bipush (-3), 2) := by decide +kernel
theorem dX5_said_22 : decode cX5_said 22 = .ok (.ireturn, 1) := by decide +kernel
theorem dX5_said_23 : decode cX5_said 23 = .ok (.aload_n 0, 1) := by decide +kernel
theorem dX5_said_24 : decode cX5_said 24 = .ok (.getfield 158, 3) := by decide +kernel
theorem dX5_said_27 : decode cX5_said 27 = .ok (.istore_n 2, 1) := by decide +kernel
theorem dX5_said_28 : decode cX5_said 28 = .ok (.iconst 0, 1) := by decide +kernel
theorem dX5_said_29 : decode cX5_said 29 = .ok (.istore_n 3, 1) := by decide +kernel
theorem dX5_said_30 : decode cX5_said 30 = .ok (.bipush (-9), 2) := by decide +kernel
theorem dX5_said_32 : decode cX5_said 32 = .ok (.istore 4, 2) := by decide +kernel
theorem dX5_said_34 : decode cX5_said 34 = .ok (.iconst 0, 1) := by decide +kernel
theorem dX5_said_35 : decode cX5_said 35 = .ok (.istore 5, 2) := by decide +kernel
theorem dX5_said_37 : decode cX5_said 37 = .ok (.iload 5, 2) := by decide +kernel
theorem dX5_said_39 : decode cX5_said 39 = .ok (.aload_n 0, 1) := by decide +kernel
theorem dX5_said_40 : decode cX5_said 40 = .ok (.invokevirtual 154, 3) := by decide +kernel
theorem dX5_said_43 : decode cX5_said 43 = .ok (.if_icmp .gt 39, 3) := by decide +kernel
theorem dX5_said_46 : decode cX5_said 46 = .ok (.aload_n 0, 1) := by decide +kernel
theorem dX5_said_47 : decode cX5_said 47 = .ok (.iload 5, 2) := by decide +kernel
theorem dX5_said_49 : decode cX5_said 49 = .ok (.putfield 158, 3) := by decide +kernel
theorem dX5_said_52 : decode cX5_said 52 = .ok (.aload_n 0, 1) := by decide +kernel
theorem dX5_said_53 : decode cX5_said 53 = .ok (.invokevirtual 223, 3) := by decide +kernel
theorem dX5_said_56 : decode cX5_said 56 = .ok (.ifCond .eq 20, 3) := by decide +kernel
theorem dX5_said_59 : decode cX5_said 59 = .ok (.iinc 3 1, 3) := by decide +kernel
theorem dX5_said_62 : decode cX5_said 62 = .ok (.iload 4, 2) := by decide +kernel
theorem dX5_said_64 : decode cX5_said 64 = .ok (.ifCond .ge 8, 3) := by decide +kernel
theorem dX5_said_67 : decode cX5_said 67 = .ok (.iload 5, 2) := by decide +kernel
theorem dX5_said_69 : decode cX5_said 69 = .ok (.goto 5, 3) := by decide +kernel
theorem dX5_said_72 : decode cX5_said 72 = .ok (.iload 4, 2) := by decide +kernel
theorem dX5_said_74 : decode cX5_said 74 = .ok (.istore 4, 2) := by decide +kernel
theorem dX5_said_76 : decode cX5_said 76 = .ok (.iinc 5 1, 3) := by decide +kernel
theorem dX5_said_79 : decode cX5_said 79 = .ok (.goto (-42), 3) := by decide +kernel
theorem dX5_said_82 : decode cX5_said 82 = .ok (.aload_n 0, 1) := by decide +kernel
theorem dX5_said_83 : decode cX5_said 83 = .ok (.iload_n 2, 1) := by decide +kernel
theorem dX5_said_84 : decode cX5_said 84 = .ok (.putfield 158, 3) := by decide +kernel
theorem dX5_said_87 : decode cX5_said 87 = .ok (.iload_n 1, 1) := by decide +kernel
theorem dX5_said_88 : decode cX5_said 88 = .ok (.ifCond .ne 7, 3) := by decide +kernel
theorem dX5_said_91 : decode cX5_said 91 = .ok (.iload_n 3, 1) := by decide +kernel
theorem dX5_said_92 : decode cX5_said 92 = .ok (.goto 5, 3) := by decide +kernel
theorem dX5_said_95 : decode cX5_said 95 = .ok (.iload 4, 2) := by decide +kernel
theorem dX5_said_97 : decode cX5_said 97 = .ok (.ireturn, 1) := by decide +kernel
theorem dX5_frees_0 : decode cX5_frees 0 = .ok (.aload_n 0, 1) := by decide +kernel
theorem dX5_frees_1 : decode cX5_frees 1 = .ok (.getfield 95, 3) := by decide +kernel
theorem dX5_frees_4 : decode cX5_frees 4 = .ok (.ifCond .ne 6, 3) := by decide +kernel
theorem dX5_frees_7 : decode cX5_frees 7 = .ok (.bipush (-3), 2) := by decide +kernel
theorem dX5_frees_9 : decode cX5_frees 9 = .ok (.ireturn, 1) := by decide +kernel
theorem dX5_frees_10 : decode cX5_frees 10 = .ok (.aload_n 0, 1) := by decide +kernel
theorem dX5_frees_11 : decode cX5_frees 11 = .ok (.getfield 151, 3) := by decide +kernel
theorem dX5_frees_14 : decode cX5_frees 14 = .ok (.istore_n 1, 1) := by decide +kernel
theorem dX5_frees_15 : decode cX5_frees 15 = .ok (.iconst 0, 1) := by decide +kernel
theorem dX5_frees_16 : decode cX5_frees 16 = .ok (.istore_n 2, 1) := by decide +kernel
theorem dX5_frees_17 : decode cX5_frees 17 = .ok (.iconst 0, 1) := by decide +kernel
theorem dX5_frees_18 : decode cX5_frees 18 = .ok (.istore_n 3, 1) := by decide +kernel
theorem dX5_frees_19 : decode cX5_frees 19 = .ok (.iload_n 3, 1) := by decide +kernel
theorem dX5_frees_20 : decode cX5_frees 20 = .ok (.bipush 10, 2) := by decide +kernel
theorem dX5_frees_22 : decode cX5_frees 22 = .ok (.if_icmp .ge 31, 3) := by decide +kernel
theorem dX5_frees_25 : decode cX5_frees 25 = .ok (.aload_n 0, 1) := by decide +kernel
theorem dX5_frees_26 : decode cX5_frees 26 = .ok (.iload_n 3, 1) := by decide +kernel
theorem dX5_frees_27 : decode cX5_frees 27 = .ok (.putfield 151, 3) := by decide +kernel
theorem dX5_frees_30 : decode cX5_frees 30 = .ok (.iload_n 2, 1) := by decide +kernel
theorem dX5_frees_31 : decode cX5_frees 31 = .ok (.aload_n 0, 1) := by decide +kernel
theorem dX5_frees_32 : decode cX5_frees 32 = .ok (.invokevirtual 223, 3) := by decide +kernel
theorem dX5_frees_35 : decode cX5_frees 35 = .ok (.ifCond .eq 9, 3) := by decide +kernel
theorem dX5_frees_38 : decode cX5_frees 38 = .ok (.iconst 1, 1) := by decide +kernel
theorem dX5_frees_39 : decode cX5_frees 39 = .ok (.iload_n 3, 1) := by decide +kernel
theorem dX5_frees_40 : decode cX5_frees 40 = .ok (.ishl, 1) := by decide +kernel
theorem dX5_frees_41 : decode cX5_frees 41 = .ok (.goto 4, 3) := by decide +kernel
theorem dX5_frees_44 : decode cX5_frees 44 = .ok (.iconst 0, 1) := by decide +kernel
theorem dX5_frees_45 : decode cX5_frees 45 = .ok (.ior, 1) := by decide +kernel
theorem dX5_frees_46 : decode cX5_frees 46 = .ok (.istore_n 2, 1) := by decide +kernel
theorem dX5_frees_47 : decode cX5_frees 47 = .ok (.iinc 3 1, 3) := by decide +kernel
theorem dX5_frees_50 : decode cX5_frees 50 = .ok (.goto (-31), 3) := by decide +kernel
theorem dX5_frees_53 : decode cX5_frees 53 = .ok (.aload_n 0, 1) := by decide +kernel
theorem dX5_frees_54 : decode cX5_frees 54 = .ok (.iload_n 1, 1) := by decide +kernel
theorem dX5_frees_55 : decode cX5_frees 55 = .ok (.putfield 151, 3) := by decide +kernel
theorem dX5_frees_58 : decode cX5_frees 58 = .ok (.iload_n 2, 1) := by decide +kernel
theorem dX5_frees_59 : decode cX5_frees 59 = .ok (.ireturn, 1) := by decide +kernel
theorem dX5_laws_0 : decode cX5_laws 0 = .ok (.aload_n 0, 1) := by decide +kernel
theorem dX5_laws_1 : decode cX5_laws 1 = .ok (.getfield 95, 3) := by decide +kernel
theorem dX5_laws_4 : decode cX5_laws 4 = .ok (.ifCond .ne 6, 3) := by decide +kernel
theorem dX5_laws_7 : decode cX5_laws 7 = .ok (.bipush (-3), 2) := by decide +kernel
theorem dX5_laws_9 : decode cX5_laws 9 = .ok (.ireturn, 1) := by decide +kernel
theorem dX5_laws_10 : decode cX5_laws 10 = .ok (.aload_n 0, 1) := by decide +kernel
theorem dX5_laws_11 : decode cX5_laws 11 = .ok (.getfield 161, 3) := by decide +kernel
theorem dX5_laws_14 : decode cX5_laws 14 = .ok (.istore_n 1, 1) := by decide +kernel
theorem dX5_laws_15 : decode cX5_laws 15 = .ok (.iconst 0, 1) := by decide +kernel
theorem dX5_laws_16 : decode cX5_laws 16 = .ok (.istore_n 2, 1) := by decide +kernel
theorem dX5_laws_17 : decode cX5_laws 17 = .ok (.iconst 0, 1) := by decide +kernel
theorem dX5_laws_18 : decode cX5_laws 18 = .ok (.istore_n 3, 1) := by decide +kernel
theorem dX5_laws_19 : decode cX5_laws 19 = .ok (.iload_n 3, 1) := by decide +kernel
theorem dX5_laws_20 : decode cX5_laws 20 = .ok (.bipush 8, 2) := by decide +kernel
theorem dX5_laws_22 : decode cX5_laws 22 = .ok (.if_icmp .ge 31, 3) := by decide +kernel
theorem dX5_laws_25 : decode cX5_laws 25 = .ok (.aload_n 0, 1) := by decide +kernel
theorem dX5_laws_26 : decode cX5_laws 26 = .ok (.iload_n 3, 1) := by decide +kernel
theorem dX5_laws_27 : decode cX5_laws 27 = .ok (.putfield 161, 3) := by decide +kernel
theorem dX5_laws_30 : decode cX5_laws 30 = .ok (.iload_n 2, 1) := by decide +kernel
theorem dX5_laws_31 : decode cX5_laws 31 = .ok (.aload_n 0, 1) := by decide +kernel
theorem dX5_laws_32 : decode cX5_laws 32 = .ok (.invokevirtual 223, 3) := by decide +kernel
theorem dX5_laws_35 : decode cX5_laws 35 = .ok (.ifCond .eq 9, 3) := by decide +kernel
theorem dX5_laws_38 : decode cX5_laws 38 = .ok (.iconst 1, 1) := by decide +kernel
theorem dX5_laws_39 : decode cX5_laws 39 = .ok (.iload_n 3, 1) := by decide +kernel
theorem dX5_laws_40 : decode cX5_laws 40 = .ok (.ishl, 1) := by decide +kernel
theorem dX5_laws_41 : decode cX5_laws 41 = .ok (.goto 4, 3) := by decide +kernel
theorem dX5_laws_44 : decode cX5_laws 44 = .ok (.iconst 0, 1) := by decide +kernel
theorem dX5_laws_45 : decode cX5_laws 45 = .ok (.ior, 1) := by decide +kernel
theorem dX5_laws_46 : decode cX5_laws 46 = .ok (.istore_n 2, 1) := by decide +kernel
theorem dX5_laws_47 : decode cX5_laws 47 = .ok (.iinc 3 1, 3) := by decide +kernel
theorem dX5_laws_50 : decode cX5_laws 50 = .ok (.goto (-31), 3) := by decide +kernel
theorem dX5_laws_53 : decode cX5_laws 53 = .ok (.aload_n 0, 1) := by decide +kernel
theorem dX5_laws_54 : decode cX5_laws 54 = .ok (.iload_n 1, 1) := by decide +kernel
theorem dX5_laws_55 : decode cX5_laws 55 = .ok (.putfield 161, 3) := by decide +kernel
theorem dX5_laws_58 : decode cX5_laws 58 = .ok (.iload_n 2, 1) := by decide +kernel
theorem dX5_laws_59 : decode cX5_laws 59 = .ok (.ireturn, 1) := by decide +kernel
theorem dX5_kinds_0 : decode cX5_kinds 0 = .ok (.aload_n 0, 1) := by decide +kernel
theorem dX5_kinds_1 : decode cX5_kinds 1 = .ok (.iload_n 1, 1) := by decide +kernel
theorem dX5_kinds_2 : decode cX5_kinds 2 = .ok (.invokevirtual 173, 3) := by decide +kernel
theorem dX5_kinds_5 : decode cX5_kinds 5 = .ok (.ifCond .eq 5, 3) := by decide +kernel
theorem dX5_kinds_8 : decode cX5_kinds 8 = .ok (.iconst (-1), 1) := by decide +kernel
theorem dX5_kinds_9 : decode cX5_kinds 9 = .ok (.ireturn, 1) := by decide +kernel
theorem dX5_kinds_10 : decode cX5_kinds 10 = .ok (.aload_n 0, 1) := by decide +kernel
theorem dX5_kinds_11 : decode cX5_kinds 11 = .ok (.getfield 16, 3) := by decide +kernel
theorem dX5_kinds_14 : decode cX5_kinds 14 = .ok (.iload_n 1, 1) := by decide +kernel
theorem dX5_kinds_15 : decode cX5_kinds 15 = .ok (.iaload, 1) := by decide +kernel
theorem dX5_kinds_16 : decode cX5_kinds 16 = .ok (.istore_n 2, 1) := by decide +kernel
theorem dX5_kinds_17 : decode cX5_kinds 17 = .ok (.iconst 0, 1) := by decide +kernel
theorem dX5_kinds_18 : decode cX5_kinds 18 = .ok (.istore_n 3, 1) := by decide +kernel
theorem dX5_kinds_19 : decode cX5_kinds 19 = .ok (.iconst 0, 1) := by decide +kernel
theorem dX5_kinds_20 : decode cX5_kinds 20 = .ok (.istore 4, 2) := by decide +kernel
theorem dX5_kinds_22 : decode cX5_kinds 22 = .ok (.iload 4, 2) := by decide +kernel
theorem dX5_kinds_24 : decode cX5_kinds 24 = .ok (.iconst 3, 1) := by decide +kernel
theorem dX5_kinds_25 : decode cX5_kinds 25 = .ok (.if_icmp .ge 35, 3) := by decide +kernel
theorem dX5_kinds_28 : decode cX5_kinds 28 = .ok (.aload_n 0, 1) := by decide +kernel
theorem dX5_kinds_29 : decode cX5_kinds 29 = .ok (.getfield 16, 3) := by decide +kernel
theorem dX5_kinds_32 : decode cX5_kinds 32 = .ok (.iload_n 1, 1) := by decide +kernel
theorem dX5_kinds_33 : decode cX5_kinds 33 = .ok (.iload 4, 2) := by decide +kernel
theorem dX5_kinds_35 : decode cX5_kinds 35 = .ok (.iastore, 1) := by decide +kernel
theorem dX5_kinds_36 : decode cX5_kinds 36 = .ok (.iload_n 3, 1) := by decide +kernel
theorem dX5_kinds_37 : decode cX5_kinds 37 = .ok (.aload_n 0, 1) := by decide +kernel
theorem dX5_kinds_38 : decode cX5_kinds 38 = .ok (.invokevirtual 223, 3) := by decide +kernel
theorem dX5_kinds_41 : decode cX5_kinds 41 = .ok (.ifCond .eq 10, 3) := by decide +kernel
theorem dX5_kinds_44 : decode cX5_kinds 44 = .ok (.iconst 1, 1) := by decide +kernel
theorem dX5_kinds_45 : decode cX5_kinds 45 = .ok (.iload 4, 2) := by decide +kernel
theorem dX5_kinds_47 : decode cX5_kinds 47 = .ok (.ishl, 1) := by decide +kernel
theorem dX5_kinds_48 : decode cX5_kinds 48 = .ok (.goto 4, 3) := by decide +kernel
theorem dX5_kinds_51 : decode cX5_kinds 51 = .ok (.iconst 0, 1) := by decide +kernel
theorem dX5_kinds_52 : decode cX5_kinds 52 = .ok (.ior, 1) := by decide +kernel
theorem dX5_kinds_53 : decode cX5_kinds 53 = .ok (.istore_n 3, 1) := by decide +kernel
theorem dX5_kinds_54 : decode cX5_kinds 54 = .ok (.iinc 4 1, 3) := by decide +kernel
theorem dX5_kinds_57 : decode cX5_kinds 57 = .ok (.goto (-35), 3) := by decide +kernel
theorem dX5_kinds_60 : decode cX5_kinds 60 = .ok (.aload_n 0, 1) := by decide +kernel
theorem dX5_kinds_61 : decode cX5_kinds 61 = .ok (.getfield 16, 3) := by decide +kernel
theorem dX5_kinds_64 : decode cX5_kinds 64 = .ok (.iload_n 1, 1) := by decide +kernel
theorem dX5_kinds_65 : decode cX5_kinds 65 = .ok (.iload_n 2, 1) := by decide +kernel
theorem dX5_kinds_66 : decode cX5_kinds 66 = .ok (.iastore, 1) := by decide +kernel
theorem dX5_kinds_67 : decode cX5_kinds 67 = .ok (.iload_n 3, 1) := by decide +kernel
theorem dX5_kinds_68 : decode cX5_kinds 68 = .ok (.ireturn, 1) := by decide +kernel
theorem dX5_odds_0 : decode cX5_odds 0 = .ok (.aload_n 0, 1) := by decide +kernel
theorem dX5_odds_1 : decode cX5_odds 1 = .ok (.iload_n 1, 1) := by decide +kernel
theorem dX5_odds_2 : decode cX5_odds 2 = .ok (.invokevirtual 170, 3) := by decide +kernel
theorem dX5_odds_5 : decode cX5_odds 5 = .ok (.ifCond .ne 25, 3) := by decide +kernel
theorem dX5_odds_8 : decode cX5_odds 8 = .ok (.iload_n 2, 1) := by decide +kernel
theorem dX5_odds_9 : decode cX5_odds 9 = .ok (.i2l, 1) := by decide +kernel
theorem dX5_odds_10 : decode cX5_odds 10 = .ok (.lconst 0, 1) := by decide +kernel
theorem dX5_odds_11 : decode cX5_odds 11 = .ok (.ldc2_w 221, 3) := by decide +kernel
theorem dX5_odds_14 : decode cX5_odds 14 = .ok (.invokestatic 91, 3) := by decide +kernel
theorem dX5_odds_17 : decode cX5_odds 17 = .ok (.ifCond .eq 13, 3) := by decide +kernel
theorem dX5_odds_20 : decode cX5_odds 20 = .ok (.iload_n 3, 1) := by decide +kernel
theorem dX5_odds_21 : decode cX5_odds 21 = .ok (.i2l, 1) := by decide +kernel
theorem dX5_odds_22 : decode cX5_odds 22 = .ok (.lconst 0, 1) := by decide +kernel
theorem dX5_odds_23 : decode cX5_odds 23 = .ok (.lconst 1, 1) := by decide +kernel
theorem dX5_odds_24 : decode cX5_odds 24 = .ok (.invokestatic 91, 3) := by decide +kernel
theorem dX5_odds_27 : decode cX5_odds 27 = .ok (.ifCond .ne 7, 3) := by decide +kernel
theorem dX5_odds_30 : decode cX5_odds 30 = .ok (.invokestatic 84, 3) := by decide +kernel
theorem dX5_odds_33 : decode cX5_odds 33 = .ok (.lreturn, 1) := by decide +kernel
theorem dX5_odds_34 : decode cX5_odds 34 = .ok (.aload_n 0, 1) := by decide +kernel
theorem dX5_odds_35 : decode cX5_odds 35 = .ok (.getfield 158, 3) := by decide +kernel
theorem dX5_odds_38 : decode cX5_odds 38 = .ok (.istore 4, 2) := by decide +kernel
theorem dX5_odds_40 : decode cX5_odds 40 = .ok (.lconst 0, 1) := by decide +kernel
theorem dX5_odds_41 : decode cX5_odds 41 = .ok (.lstore 5, 2) := by decide +kernel
theorem dX5_odds_43 : decode cX5_odds 43 = .ok (.iconst 0, 1) := by decide +kernel
theorem dX5_odds_44 : decode cX5_odds 44 = .ok (.istore 7, 2) := by decide +kernel
theorem dX5_odds_46 : decode cX5_odds 46 = .ok (.iload 7, 2) := by decide +kernel
theorem dX5_odds_48 : decode cX5_odds 48 = .ok (.aload_n 0, 1) := by decide +kernel
theorem dX5_odds_49 : decode cX5_odds 49 = .ok (.invokevirtual 154, 3) := by decide +kernel
theorem dX5_odds_52 : decode cX5_odds 52 = .ok (.if_icmp .gt 34, 3) := by decide +kernel
theorem dX5_odds_55 : decode cX5_odds 55 = .ok (.aload_n 0, 1) := by decide +kernel
theorem dX5_odds_56 : decode cX5_odds 56 = .ok (.iload 7, 2) := by decide +kernel
theorem dX5_odds_58 : decode cX5_odds 58 = .ok (.putfield 158, 3) := by decide +kernel
theorem dX5_odds_61 : decode cX5_odds 61 = .ok (.lload 5, 2) := by decide +kernel
theorem dX5_odds_63 : decode cX5_odds 63 = .ok (.aload_n 0, 1) := by decide +kernel
theorem dX5_odds_64 : decode cX5_odds 64 = .ok (.iload_n 1, 1) := by decide +kernel
theorem dX5_odds_65 : decode cX5_odds 65 = .ok (.invokevirtual 190, 3) := by decide +kernel
theorem dX5_odds_68 : decode cX5_odds 68 = .ok (.iload_n 2, 1) := by decide +kernel
theorem dX5_odds_69 : decode cX5_odds 69 = .ok (.if_icmp .lt 7, 3) := by decide +kernel
theorem dX5_odds_72 : decode cX5_odds 72 = .ok (.lconst 1, 1) := by decide +kernel
theorem dX5_odds_73 : decode cX5_odds 73 = .ok (.goto 4, 3) := by decide +kernel
theorem dX5_odds_76 : decode cX5_odds 76 = .ok (.lconst 0, 1) := by decide +kernel
theorem dX5_odds_77 : decode cX5_odds 77 = .ok (.ladd, 1) := by decide +kernel
theorem dX5_odds_78 : decode cX5_odds 78 = .ok (.lstore 5, 2) := by decide +kernel
theorem dX5_odds_80 : decode cX5_odds 80 = .ok (.iinc 7 1, 3) := by decide +kernel
theorem dX5_odds_83 : decode cX5_odds 83 = .ok (.goto (-37), 3) := by decide +kernel
theorem dX5_odds_86 : decode cX5_odds 86 = .ok (.aload_n 0, 1) := by decide +kernel
theorem dX5_odds_87 : decode cX5_odds 87 = .ok (.iload 4, 2) := by decide +kernel
theorem dX5_odds_89 : decode cX5_odds 89 = .ok (.putfield 158, 3) := by decide +kernel
theorem dX5_odds_92 : decode cX5_odds 92 = .ok (.lload 5, 2) := by decide +kernel
theorem dX5_odds_94 : decode cX5_odds 94 = .ok (.aload_n 0, 1) := by decide +kernel
theorem dX5_odds_95 : decode cX5_odds 95 = .ok (.invokevirtual 154, 3) := by decide +kernel
theorem dX5_odds_98 : decode cX5_odds 98 = .ok (.i2l, 1) := by decide +kernel
theorem dX5_odds_99 : decode cX5_odds 99 = .ok (.lconst 1, 1) := by decide +kernel
theorem dX5_odds_100 : decode cX5_odds 100 = .ok (.ladd, 1) := by decide +kernel
theorem dX5_odds_101 : decode cX5_odds 101 = .ok (.iload_n 3, 1) := by decide +kernel
theorem dX5_odds_102 : decode cX5_odds 102 = .ok (.invokestatic 200, 3) := by decide +kernel
theorem dX5_odds_105 : decode cX5_odds 105 = .ok (.lreturn, 1) := by decide +kernel
theorem dX5_noSheet_0 : decode cX5_noSheet 0 = .ok (.iload_n 0, 1) := by decide +kernel
theorem dX5_noSheet_1 : decode cX5_noSheet 1 = .ok (.i2l, 1) := by decide +kernel
theorem dX5_noSheet_2 : decode cX5_noSheet 2 = .ok (.lconst 0, 1) := by decide +kernel
theorem dX5_noSheet_3 : decode cX5_noSheet 3 = .ok (.ldc2_w 227, 3) := by decide +kernel
theorem dX5_noSheet_6 : decode cX5_noSheet 6 = .ok (.invokestatic 91, 3) := by decide +kernel
theorem dX5_noSheet_9 : decode cX5_noSheet 9 = .ok (.ifCond .ne 7, 3) := by decide +kernel
theorem dX5_noSheet_12 : decode cX5_noSheet 12 = .ok (.iconst 1, 1) := by decide +kernel
theorem dX5_noSheet_13 : decode cX5_noSheet 13 = .ok (.goto 4, 3) := by decide +kernel
theorem dX5_noSheet_16 : decode cX5_noSheet 16 = .ok (.iconst 0, 1) := by decide +kernel
theorem dX5_noSheet_17 : decode cX5_noSheet 17 = .ok (.ireturn, 1) := by decide +kernel
theorem dX5_sheet_0 : decode cX5_sheet 0 = .ok (.iload_n 1, 1) := by decide +kernel
theorem dX5_sheet_1 : decode cX5_sheet 1 = .ok (.invokestatic 137, 3) := by decide +kernel
theorem dX5_sheet_4 : decode cX5_sheet 4 = .ok (.ifCond .eq 9, 3) := by decide +kernel
theorem dX5_sheet_7 : decode cX5_sheet 7 = .ok (.aload_n 0, 1) := by decide +kernel
theorem dX5_sheet_8 : decode cX5_sheet 8 = .ok (.iconst (-1), 1) := by decide +kernel
theorem dX5_sheet_9 : decode cX5_sheet 9 = .ok (.invokevirtual 141, 3) := by decide +kernel
theorem dX5_sheet_12 : decode cX5_sheet 12 = .ok (.ireturn, 1) := by decide +kernel
theorem dX5_sheet_13 : decode cX5_sheet 13 = .ok (.iload_n 2, 1) := by decide +kernel
theorem dX5_sheet_14 : decode cX5_sheet 14 = .ok (.i2l, 1) := by decide +kernel
theorem dX5_sheet_15 : decode cX5_sheet 15 = .ok (.lconst 0, 1) := by decide +kernel
theorem dX5_sheet_16 : decode cX5_sheet 16 = .ok (.ldc2_w 98, 3) := by decide +kernel
theorem dX5_sheet_19 : decode cX5_sheet 19 = .ok (.invokestatic 91, 3) := by decide +kernel
theorem dX5_sheet_22 : decode cX5_sheet 22 = .ok (.ifCond .eq 9, 3) := by decide +kernel
theorem dX5_sheet_25 : decode cX5_sheet 25 = .ok (.iload_n 3, 1) := by decide +kernel
theorem dX5_sheet_26 : decode cX5_sheet 26 = .ok (.bipush 60, 2) := by decide +kernel
theorem dX5_sheet_28 : decode cX5_sheet 28 = .ok (.if_icmp .le 10, 3) := by decide +kernel
theorem dX5_sheet_31 : decode cX5_sheet 31 = .ok (.aload_n 0, 1) := by decide +kernel
theorem dX5_sheet_32 : decode cX5_sheet 32 = .ok (.bipush (-2), 2) := by decide +kernel
theorem dX5_sheet_34 : decode cX5_sheet 34 = .ok (.invokevirtual 141, 3) := by decide +kernel
theorem dX5_sheet_37 : decode cX5_sheet 37 = .ok (.ireturn, 1) := by decide +kernel
theorem dX5_sheet_38 : decode cX5_sheet 38 = .ok (.iload_n 3, 1) := by decide +kernel
theorem dX5_sheet_39 : decode cX5_sheet 39 = .ok (.ifCond .ge 9, 3) := by decide +kernel
theorem dX5_sheet_42 : decode cX5_sheet 42 = .ok (.aload_n 0, 1) := by decide +kernel
theorem dX5_sheet_43 : decode cX5_sheet 43 = .ok (.iconst 4, 1) := by decide +kernel
theorem dX5_sheet_44 : decode cX5_sheet 44 = .ok (.invokevirtual 129, 3) := by decide +kernel
theorem dX5_sheet_47 : decode cX5_sheet 47 = .ok (.ireturn, 1) := by decide +kernel
theorem dX5_sheet_48 : decode cX5_sheet 48 = .ok (.aload_n 0, 1) := by decide +kernel
theorem dX5_sheet_49 : decode cX5_sheet 49 = .ok (.getfield 61, 3) := by decide +kernel
theorem dX5_sheet_52 : decode cX5_sheet 52 = .ok (.iload_n 1, 1) := by decide +kernel
theorem dX5_sheet_53 : decode cX5_sheet 53 = .ok (.iload_n 3, 1) := by decide +kernel
theorem dX5_sheet_54 : decode cX5_sheet 54 = .ok (.iastore, 1) := by decide +kernel
theorem dX5_sheet_55 : decode cX5_sheet 55 = .ok (.aload_n 0, 1) := by decide +kernel
theorem dX5_sheet_56 : decode cX5_sheet 56 = .ok (.getfield 64, 3) := by decide +kernel
theorem dX5_sheet_59 : decode cX5_sheet 59 = .ok (.iload_n 1, 1) := by decide +kernel
theorem dX5_sheet_60 : decode cX5_sheet 60 = .ok (.iload_n 2, 1) := by decide +kernel
theorem dX5_sheet_61 : decode cX5_sheet 61 = .ok (.iastore, 1) := by decide +kernel
theorem dX5_sheet_62 : decode cX5_sheet 62 = .ok (.iconst 0, 1) := by decide +kernel
theorem dX5_sheet_63 : decode cX5_sheet 63 = .ok (.istore 4, 2) := by decide +kernel
theorem dX5_sheet_65 : decode cX5_sheet 65 = .ok (.iload 4, 2) := by decide +kernel
theorem dX5_sheet_67 : decode cX5_sheet 67 = .ok (.iload_n 3, 1) := by decide +kernel
theorem dX5_sheet_68 : decode cX5_sheet 68 = .ok (.if_icmp .ge 22, 3) := by decide +kernel
theorem dX5_sheet_71 : decode cX5_sheet 71 = .ok (.aload_n 0, 1) := by decide +kernel
theorem dX5_sheet_72 : decode cX5_sheet 72 = .ok (.getfield 67, 3) := by decide +kernel
theorem dX5_sheet_75 : decode cX5_sheet 75 = .ok (.bipush 60, 2) := by decide +kernel
theorem dX5_sheet_77 : decode cX5_sheet 77 = .ok (.iload_n 1, 1) := by decide +kernel
theorem dX5_sheet_78 : decode cX5_sheet 78 = .ok (.imul, 1) := by decide +kernel
theorem dX5_sheet_79 : decode cX5_sheet 79 = .ok (.iload 4, 2) := by decide +kernel
theorem dX5_sheet_81 : decode cX5_sheet 81 = .ok (.iadd, 1) := by decide +kernel
theorem dX5_sheet_82 : decode cX5_sheet 82 = .ok (.iconst 0, 1) := by decide +kernel
theorem dX5_sheet_83 : decode cX5_sheet 83 = .ok (.iastore, 1) := by decide +kernel
theorem dX5_sheet_84 : decode cX5_sheet 84 = .ok (.iinc 4 1, 3) := by decide +kernel
theorem dX5_sheet_87 : decode cX5_sheet 87 = .ok (.goto (-22), 3) := by decide +kernel
theorem dX5_sheet_90 : decode cX5_sheet 90 = .ok (.aload_n 0, 1) := by decide +kernel
theorem dX5_sheet_91 : decode cX5_sheet 91 = .ok (.iconst 1, 1) := by decide +kernel
theorem dX5_sheet_92 : decode cX5_sheet 92 = .ok (.invokevirtual 141, 3) := by decide +kernel
theorem dX5_sheet_95 : decode cX5_sheet 95 = .ok (.ireturn, 1) := by decide +kernel
theorem dX5_lose_0 : decode cX5_lose 0 = .ok (.iload_n 1, 1) := by decide +kernel
theorem dX5_lose_1 : decode cX5_lose 1 = .ok (.invokestatic 137, 3) := by decide +kernel
theorem dX5_lose_4 : decode cX5_lose 4 = .ok (.ifCond .eq 5, 3) := by decide +kernel
theorem dX5_lose_7 : decode cX5_lose 7 = .ok (.iconst (-1), 1) := by decide +kernel
theorem dX5_lose_8 : decode cX5_lose 8 = .ok (.ireturn, 1) := by decide +kernel
theorem dX5_lose_9 : decode cX5_lose 9 = .ok (.aload_n 0, 1) := by decide +kernel
theorem dX5_lose_10 : decode cX5_lose 10 = .ok (.getfield 61, 3) := by decide +kernel
theorem dX5_lose_13 : decode cX5_lose 13 = .ok (.iload_n 1, 1) := by decide +kernel
theorem dX5_lose_14 : decode cX5_lose 14 = .ok (.iaload, 1) := by decide +kernel
theorem dX5_lose_15 : decode cX5_lose 15 = .ok (.ifCond .ge 7, 3) := by decide +kernel
theorem dX5_lose_18 : decode cX5_lose 18 = .ok (.iconst 0, 1) := by decide +kernel
theorem dX5_lose_19 : decode cX5_lose 19 = .ok (.goto 4, 3) := by decide +kernel
theorem dX5_lose_22 : decode cX5_lose 22 = .ok (.iconst 1, 1) := by decide +kernel
theorem dX5_lose_23 : decode cX5_lose 23 = .ok (.istore_n 2, 1) := by decide +kernel
theorem dX5_lose_24 : decode cX5_lose 24 = .ok (.aload_n 0, 1) := by decide +kernel
theorem dX5_lose_25 : decode cX5_lose 25 = .ok (.getfield 61, 3) := by decide +kernel
theorem dX5_lose_28 : decode cX5_lose 28 = .ok (.iload_n 1, 1) := by decide +kernel
theorem dX5_lose_29 : decode cX5_lose 29 = .ok (.iconst (-1), 1) := by decide +kernel
theorem dX5_lose_30 : decode cX5_lose 30 = .ok (.iastore, 1) := by decide +kernel
theorem dX5_lose_31 : decode cX5_lose 31 = .ok (.iload_n 2, 1) := by decide +kernel
theorem dX5_lose_32 : decode cX5_lose 32 = .ok (.ireturn, 1) := by decide +kernel
theorem dX5_noCell_0 : decode cX5_noCell 0 = .ok (.aload_n 0, 1) := by decide +kernel
theorem dX5_noCell_1 : decode cX5_noCell 1 = .ok (.getfield 61, 3) := by decide +kernel
theorem dX5_noCell_4 : decode cX5_noCell 4 = .ok (.iload_n 1, 1) := by decide +kernel
theorem dX5_noCell_5 : decode cX5_noCell 5 = .ok (.iaload, 1) := by decide +kernel
theorem dX5_noCell_6 : decode cX5_noCell 6 = .ok (.ifCond .ge 7, 3) := by decide +kernel
theorem dX5_noCell_9 : decode cX5_noCell 9 = .ok (.iconst 1, 1) := by decide +kernel
theorem dX5_noCell_10 : decode cX5_noCell 10 = .ok (.goto 26, 3) := by decide +kernel
theorem dX5_noCell_13 : decode cX5_noCell 13 = .ok (.iload_n 2, 1) := by decide +kernel
theorem dX5_noCell_14 : decode cX5_noCell 14 = .ok (.i2l, 1) := by decide +kernel
theorem dX5_noCell_15 : decode cX5_noCell 15 = .ok (.lconst 0, 1) := by decide +kernel
theorem dX5_noCell_16 : decode cX5_noCell 16 = .ok (.aload_n 0, 1) := by decide +kernel
theorem dX5_noCell_17 : decode cX5_noCell 17 = .ok (.getfield 61, 3) := by decide +kernel
theorem dX5_noCell_20 : decode cX5_noCell 20 = .ok (.iload_n 1, 1) := by decide +kernel
theorem dX5_noCell_21 : decode cX5_noCell 21 = .ok (.iaload, 1) := by decide +kernel
theorem dX5_noCell_22 : decode cX5_noCell 22 = .ok (.i2l, 1) := by decide +kernel
theorem dX5_noCell_23 : decode cX5_noCell 23 = .ok (.lconst 1, 1) := by decide +kernel
theorem dX5_noCell_24 : decode cX5_noCell 24 = .ok (.lsub, 1) := by decide +kernel
theorem dX5_noCell_25 : decode cX5_noCell 25 = .ok (.invokestatic 91, 3) := by decide +kernel
theorem dX5_noCell_28 : decode cX5_noCell 28 = .ok (.ifCond .eq 7, 3) := by decide +kernel
theorem dX5_noCell_31 : decode cX5_noCell 31 = .ok (.iconst 0, 1) := by decide +kernel
theorem dX5_noCell_32 : decode cX5_noCell 32 = .ok (.goto 4, 3) := by decide +kernel
theorem dX5_noCell_35 : decode cX5_noCell 35 = .ok (.iconst 3, 1) := by decide +kernel
theorem dX5_noCell_36 : decode cX5_noCell 36 = .ok (.ireturn, 1) := by decide +kernel
theorem dX5_put_0 : decode cX5_put 0 = .ok (.iload_n 1, 1) := by decide +kernel
theorem dX5_put_1 : decode cX5_put 1 = .ok (.invokestatic 137, 3) := by decide +kernel
theorem dX5_put_4 : decode cX5_put 4 = .ok (.ifCond .eq 9, 3) := by decide +kernel
theorem dX5_put_7 : decode cX5_put 7 = .ok (.aload_n 0, 1) := by decide +kernel
theorem dX5_put_8 : decode cX5_put 8 = .ok (.iconst (-1), 1) := by decide +kernel
theorem dX5_put_9 : decode cX5_put 9 = .ok (.invokevirtual 141, 3) := by decide +kernel
theorem dX5_put_12 : decode cX5_put 12 = .ok (.ireturn, 1) := by decide +kernel
theorem dX5_put_13 : decode cX5_put 13 = .ok (.aload_n 0, 1) := by decide +kernel
theorem dX5_put_14 : decode cX5_put 14 = .ok (.iload_n 1, 1) := by decide +kernel
theorem dX5_put_15 : decode cX5_put 15 = .ok (.iload_n 2, 1) := by decide +kernel
theorem dX5_put_16 : decode cX5_put 16 = .ok (.invokevirtual 229, 3) := by decide +kernel
theorem dX5_put_19 : decode cX5_put 19 = .ok (.ifCond .le 14, 3) := by decide +kernel
theorem dX5_put_22 : decode cX5_put 22 = .ok (.aload_n 0, 1) := by decide +kernel
theorem dX5_put_23 : decode cX5_put 23 = .ok (.aload_n 0, 1) := by decide +kernel
theorem dX5_put_24 : decode cX5_put 24 = .ok (.iload_n 1, 1) := by decide +kernel
theorem dX5_put_25 : decode cX5_put 25 = .ok (.iload_n 2, 1) := by decide +kernel
theorem dX5_put_26 : decode cX5_put 26 = .ok (.invokevirtual 229, 3) := by decide +kernel
theorem dX5_put_29 : decode cX5_put 29 = .ok (.invokevirtual 129, 3) := by decide +kernel
theorem dX5_put_32 : decode cX5_put 32 = .ok (.ireturn, 1) := by decide +kernel
theorem dX5_put_33 : decode cX5_put 33 = .ok (.aload_n 0, 1) := by decide +kernel
theorem dX5_put_34 : decode cX5_put 34 = .ok (.getfield 67, 3) := by decide +kernel
theorem dX5_put_37 : decode cX5_put 37 = .ok (.bipush 60, 2) := by decide +kernel
theorem dX5_put_39 : decode cX5_put 39 = .ok (.iload_n 1, 1) := by decide +kernel
theorem dX5_put_40 : decode cX5_put 40 = .ok (.imul, 1) := by decide +kernel
theorem dX5_put_41 : decode cX5_put 41 = .ok (.iload_n 2, 1) := by decide +kernel
theorem dX5_put_42 : decode cX5_put 42 = .ok (.iadd, 1) := by decide +kernel
theorem dX5_put_43 : decode cX5_put 43 = .ok (.aload_n 0, 1) := by decide +kernel
theorem dX5_put_44 : decode cX5_put 44 = .ok (.getfield 64, 3) := by decide +kernel
theorem dX5_put_47 : decode cX5_put 47 = .ok (.iload_n 1, 1) := by decide +kernel
theorem dX5_put_48 : decode cX5_put 48 = .ok (.iaload, 1) := by decide +kernel
theorem dX5_put_49 : decode cX5_put 49 = .ok (.ifCond .ne 8, 3) := by decide +kernel
theorem dX5_put_52 : decode cX5_put 52 = .ok (.iload_n 3, 1) := by decide +kernel
theorem dX5_put_53 : decode cX5_put 53 = .ok (.i2b, 1) := by decide +kernel
theorem dX5_put_54 : decode cX5_put 54 = .ok (.goto 19, 3) := by decide +kernel
theorem dX5_put_57 : decode cX5_put 57 = .ok (.aload_n 0, 1) := by decide +kernel
theorem dX5_put_58 : decode cX5_put 58 = .ok (.getfield 64, 3) := by decide +kernel
theorem dX5_put_61 : decode cX5_put 61 = .ok (.iload_n 1, 1) := by decide +kernel
theorem dX5_put_62 : decode cX5_put 62 = .ok (.iaload, 1) := by decide +kernel
theorem dX5_put_63 : decode cX5_put 63 = .ok (.iconst 1, 1) := by decide +kernel
theorem dX5_put_64 : decode cX5_put 64 = .ok (.if_icmp .ne 8, 3) := by decide +kernel
theorem dX5_put_67 : decode cX5_put 67 = .ok (.iload_n 3, 1) := by decide +kernel
theorem dX5_put_68 : decode cX5_put 68 = .ok (.i2s, 1) := by decide +kernel
theorem dX5_put_69 : decode cX5_put 69 = .ok (.goto 4, 3) := by decide +kernel
theorem dX5_put_72 : decode cX5_put 72 = .ok (.iload_n 3, 1) := by decide +kernel
theorem dX5_put_73 : decode cX5_put 73 = .ok (.iastore, 1) := by decide +kernel
theorem dX5_put_74 : decode cX5_put 74 = .ok (.aload_n 0, 1) := by decide +kernel
theorem dX5_put_75 : decode cX5_put 75 = .ok (.iconst 1, 1) := by decide +kernel
theorem dX5_put_76 : decode cX5_put 76 = .ok (.invokevirtual 141, 3) := by decide +kernel
theorem dX5_put_79 : decode cX5_put 79 = .ok (.ireturn, 1) := by decide +kernel
theorem dX5_cell_0 : decode cX5_cell 0 = .ok (.aload_n 0, 1) := by decide +kernel
theorem dX5_cell_1 : decode cX5_cell 1 = .ok (.iconst 0, 1) := by decide +kernel
theorem dX5_cell_2 : decode cX5_cell 2 = .ok (.putfield 81, 3) := by decide +kernel
theorem dX5_cell_5 : decode cX5_cell 5 = .ok (.iload_n 1, 1) := by decide +kernel
theorem dX5_cell_6 : decode cX5_cell 6 = .ok (.invokestatic 137, 3) := by decide +kernel
theorem dX5_cell_9 : decode cX5_cell 9 = .ok (.ifCond .ne 15, 3) := by decide +kernel
theorem dX5_cell_12 : decode cX5_cell 12 = .ok (.iload_n 3, 1) := by decide +kernel
theorem dX5_cell_13 : decode cX5_cell 13 = .ok (.i2l, 1) := by decide +kernel
theorem dX5_cell_14 : decode cX5_cell 14 = .ok (.lconst 0, 1) := by decide +kernel
theorem dX5_cell_15 : decode cX5_cell 15 = .ok (.ldc2_w 98, 3) := by decide +kernel
theorem dX5_cell_18 : decode cX5_cell 18 = .ok (.invokestatic 91, 3) := by decide +kernel
theorem dX5_cell_21 : decode cX5_cell 21 = .ok (.ifCond .ne 7, 3) := by decide +kernel
theorem dX5_cell_24 : decode cX5_cell 24 = .ok (.invokestatic 84, 3) := by decide +kernel
theorem dX5_cell_27 : decode cX5_cell 27 = .ok (.lreturn, 1) := by decide +kernel
theorem dX5_cell_28 : decode cX5_cell 28 = .ok (.aload_n 0, 1) := by decide +kernel
theorem dX5_cell_29 : decode cX5_cell 29 = .ok (.getfield 61, 3) := by decide +kernel
theorem dX5_cell_32 : decode cX5_cell 32 = .ok (.iload_n 1, 1) := by decide +kernel
theorem dX5_cell_33 : decode cX5_cell 33 = .ok (.iaload, 1) := by decide +kernel
theorem dX5_cell_34 : decode cX5_cell 34 = .ok (.ifCond .lt 19, 3) := by decide +kernel
theorem dX5_cell_37 : decode cX5_cell 37 = .ok (.aload_n 0, 1) := by decide +kernel
theorem dX5_cell_38 : decode cX5_cell 38 = .ok (.getfield 64, 3) := by decide +kernel
theorem dX5_cell_41 : decode cX5_cell 41 = .ok (.iload_n 1, 1) := by decide +kernel
theorem dX5_cell_42 : decode cX5_cell 42 = .ok (.iaload, 1) := by decide +kernel
theorem dX5_cell_43 : decode cX5_cell 43 = .ok (.iload_n 3, 1) := by decide +kernel
theorem dX5_cell_44 : decode cX5_cell 44 = .ok (.if_icmp .eq 9, 3) := by decide +kernel
theorem dX5_cell_47 : decode cX5_cell 47 = .ok (.aload_n 0, 1) := by decide +kernel
theorem dX5_cell_48 : decode cX5_cell 48 = .ok (.iconst 2, 1) := by decide +kernel
theorem dX5_cell_49 : decode cX5_cell 49 = .ok (.invokevirtual 232, 3) := by decide +kernel
theorem dX5_cell_52 : decode cX5_cell 52 = .ok (.lreturn, 1) := by decide +kernel
theorem dX5_cell_53 : decode cX5_cell 53 = .ok (.aload_n 0, 1) := by decide +kernel
theorem dX5_cell_54 : decode cX5_cell 54 = .ok (.iload_n 1, 1) := by decide +kernel
theorem dX5_cell_55 : decode cX5_cell 55 = .ok (.iload_n 2, 1) := by decide +kernel
theorem dX5_cell_56 : decode cX5_cell 56 = .ok (.invokevirtual 229, 3) := by decide +kernel
theorem dX5_cell_59 : decode cX5_cell 59 = .ok (.ifCond .le 16, 3) := by decide +kernel
theorem dX5_cell_62 : decode cX5_cell 62 = .ok (.aload_n 0, 1) := by decide +kernel
theorem dX5_cell_63 : decode cX5_cell 63 = .ok (.aload_n 0, 1) := by decide +kernel
theorem dX5_cell_64 : decode cX5_cell 64 = .ok (.iload_n 1, 1) := by decide +kernel
theorem dX5_cell_65 : decode cX5_cell 65 = .ok (.iload_n 2, 1) := by decide +kernel
theorem dX5_cell_66 : decode cX5_cell 66 = .ok (.invokevirtual 229, 3) := by decide +kernel
theorem dX5_cell_69 : decode cX5_cell 69 = .ok (.invokevirtual 232, 3) := by decide +kernel
theorem dX5_cell_72 : decode cX5_cell 72 = .ok (.goto 15, 3) := by decide +kernel
theorem dX5_cell_75 : decode cX5_cell 75 = .ok (.aload_n 0, 1) := by decide +kernel
theorem dX5_cell_76 : decode cX5_cell 76 = .ok (.getfield 67, 3) := by decide +kernel
theorem dX5_cell_79 : decode cX5_cell 79 = .ok (.bipush 60, 2) := by decide +kernel
theorem dX5_cell_81 : decode cX5_cell 81 = .ok (.iload_n 1, 1) := by decide +kernel
theorem dX5_cell_82 : decode cX5_cell 82 = .ok (.imul, 1) := by decide +kernel
theorem dX5_cell_83 : decode cX5_cell 83 = .ok (.iload_n 2, 1) := by decide +kernel
theorem dX5_cell_84 : decode cX5_cell 84 = .ok (.iadd, 1) := by decide +kernel
theorem dX5_cell_85 : decode cX5_cell 85 = .ok (.iaload, 1) := by decide +kernel
theorem dX5_cell_86 : decode cX5_cell 86 = .ok (.i2l, 1) := by decide +kernel
theorem dX5_cell_87 : decode cX5_cell 87 = .ok (.lreturn, 1) := by decide +kernel
theorem dX5_isBeyond_0 : decode cX5_isBeyond 0 = .ok (.iload_n 0, 1) := by decide +kernel
theorem dX5_isBeyond_1 : decode cX5_isBeyond 1 = .ok (.ifCond .lt 19, 3) := by decide +kernel
theorem dX5_isBeyond_4 : decode cX5_isBeyond 4 = .ok (.lload_n 1, 1) := by decide +kernel
theorem dX5_isBeyond_5 : decode cX5_isBeyond 5 = .ok (.lconst 0, 1) := by decide +kernel
theorem dX5_isBeyond_6 : decode cX5_isBeyond 6 = .ok (.lcmp, 1) := by decide +kernel
theorem dX5_isBeyond_7 : decode cX5_isBeyond 7 = .ok (.ifCond .lt 13, 3) := by decide +kernel
theorem dX5_isBeyond_10 : decode cX5_isBeyond 10 = .ok (.iload_n 0, 1) := by decide +kernel
theorem dX5_isBeyond_11 : decode cX5_isBeyond 11 = .ok (.i2l, 1) := by decide +kernel
theorem dX5_isBeyond_12 : decode cX5_isBeyond 12 = .ok (.lload_n 1, 1) := by decide +kernel
theorem dX5_isBeyond_13 : decode cX5_isBeyond 13 = .ok (.ladd, 1) := by decide +kernel
theorem dX5_isBeyond_14 : decode cX5_isBeyond 14 = .ok (.iload_n 3, 1) := by decide +kernel
theorem dX5_isBeyond_15 : decode cX5_isBeyond 15 = .ok (.i2l, 1) := by decide +kernel
theorem dX5_isBeyond_16 : decode cX5_isBeyond 16 = .ok (.lcmp, 1) := by decide +kernel
theorem dX5_isBeyond_17 : decode cX5_isBeyond 17 = .ok (.ifCond .le 7, 3) := by decide +kernel
theorem dX5_isBeyond_20 : decode cX5_isBeyond 20 = .ok (.iconst 1, 1) := by decide +kernel
theorem dX5_isBeyond_21 : decode cX5_isBeyond 21 = .ok (.goto 4, 3) := by decide +kernel
theorem dX5_isBeyond_24 : decode cX5_isBeyond 24 = .ok (.iconst 0, 1) := by decide +kernel
theorem dX5_isBeyond_25 : decode cX5_isBeyond 25 = .ok (.ireturn, 1) := by decide +kernel
theorem dX5_copy_0 : decode cX5_copy 0 = .ok (.iload_n 1, 1) := by decide +kernel
theorem dX5_copy_1 : decode cX5_copy 1 = .ok (.invokestatic 137, 3) := by decide +kernel
theorem dX5_copy_4 : decode cX5_copy 4 = .ok (.ifCond .ne 10, 3) := by decide +kernel
theorem dX5_copy_7 : decode cX5_copy 7 = .ok (.iload_n 3, 1) := by decide +kernel
theorem dX5_copy_8 : decode cX5_copy 8 = .ok (.invokestatic 137, 3) := by decide +kernel
theorem dX5_copy_11 : decode cX5_copy 11 = .ok (.ifCond .eq 9, 3) := by decide +kernel
theorem dX5_copy_14 : decode cX5_copy 14 = .ok (.aload_n 0, 1) := by decide +kernel
theorem dX5_copy_15 : decode cX5_copy 15 = .ok (.iconst (-1), 1) := by decide +kernel
theorem dX5_copy_16 : decode cX5_copy 16 = .ok (.invokevirtual 141, 3) := by decide +kernel
theorem dX5_copy_19 : decode cX5_copy 19 = .ok (.ireturn, 1) := by decide +kernel
theorem dX5_copy_20 : decode cX5_copy 20 = .ok (.aload_n 0, 1) := by decide +kernel
theorem dX5_copy_21 : decode cX5_copy 21 = .ok (.getfield 61, 3) := by decide +kernel
theorem dX5_copy_24 : decode cX5_copy 24 = .ok (.iload_n 1, 1) := by decide +kernel
theorem dX5_copy_25 : decode cX5_copy 25 = .ok (.iaload, 1) := by decide +kernel
theorem dX5_copy_26 : decode cX5_copy 26 = .ok (.ifCond .lt 12, 3) := by decide +kernel
theorem dX5_copy_29 : decode cX5_copy 29 = .ok (.aload_n 0, 1) := by decide +kernel
theorem dX5_copy_30 : decode cX5_copy 30 = .ok (.getfield 61, 3) := by decide +kernel
theorem dX5_copy_33 : decode cX5_copy 33 = .ok (.iload_n 3, 1) := by decide +kernel
theorem dX5_copy_34 : decode cX5_copy 34 = .ok (.iaload, 1) := by decide +kernel
theorem dX5_copy_35 : decode cX5_copy 35 = .ok (.ifCond .ge 9, 3) := by decide +kernel
theorem dX5_copy_38 : decode cX5_copy 38 = .ok (.aload_n 0, 1) := by decide +kernel
theorem dX5_copy_39 : decode cX5_copy 39 = .ok (.iconst 1, 1) := by decide +kernel
theorem dX5_copy_40 : decode cX5_copy 40 = .ok (.invokevirtual 129, 3) := by decide +kernel
theorem dX5_copy_43 : decode cX5_copy 43 = .ok (.ireturn, 1) := by decide +kernel
theorem dX5_copy_44 : decode cX5_copy 44 = .ok (.aload_n 0, 1) := by decide +kernel
theorem dX5_copy_45 : decode cX5_copy 45 = .ok (.getfield 64, 3) := by decide +kernel
theorem dX5_copy_48 : decode cX5_copy 48 = .ok (.iload_n 1, 1) := by decide +kernel
theorem dX5_copy_49 : decode cX5_copy 49 = .ok (.iaload, 1) := by decide +kernel
theorem dX5_copy_50 : decode cX5_copy 50 = .ok (.aload_n 0, 1) := by decide +kernel
theorem dX5_copy_51 : decode cX5_copy 51 = .ok (.getfield 64, 3) := by decide +kernel
theorem dX5_copy_54 : decode cX5_copy 54 = .ok (.iload_n 3, 1) := by decide +kernel
theorem dX5_copy_55 : decode cX5_copy 55 = .ok (.iaload, 1) := by decide +kernel
theorem dX5_copy_56 : decode cX5_copy 56 = .ok (.if_icmp .eq 9, 3) := by decide +kernel
theorem dX5_copy_59 : decode cX5_copy 59 = .ok (.aload_n 0, 1) := by decide +kernel
theorem dX5_copy_60 : decode cX5_copy 60 = .ok (.iconst 2, 1) := by decide +kernel
theorem dX5_copy_61 : decode cX5_copy 61 = .ok (.invokevirtual 129, 3) := by decide +kernel
theorem dX5_copy_64 : decode cX5_copy 64 = .ok (.ireturn, 1) := by decide +kernel
theorem dX5_copy_65 : decode cX5_copy 65 = .ok (.iload_n 2, 1) := by decide +kernel
theorem dX5_copy_66 : decode cX5_copy 66 = .ok (.iload 5, 2) := by decide +kernel
theorem dX5_copy_68 : decode cX5_copy 68 = .ok (.i2l, 1) := by decide +kernel
theorem dX5_copy_69 : decode cX5_copy 69 = .ok (.aload_n 0, 1) := by decide +kernel
theorem dX5_copy_70 : decode cX5_copy 70 = .ok (.getfield 61, 3) := by decide +kernel
theorem dX5_copy_73 : decode cX5_copy 73 = .ok (.iload_n 1, 1) := by decide +kernel
theorem dX5_copy_74 : decode cX5_copy 74 = .ok (.iaload, 1) := by decide +kernel
theorem dX5_copy_75 : decode cX5_copy 75 = .ok (.invokestatic 133, 3) := by decide +kernel
theorem dX5_copy_78 : decode cX5_copy 78 = .ok (.ifCond .ne 20, 3) := by decide +kernel
theorem dX5_copy_81 : decode cX5_copy 81 = .ok (.iload 4, 2) := by decide +kernel
theorem dX5_copy_83 : decode cX5_copy 83 = .ok (.iload 5, 2) := by decide +kernel
theorem dX5_copy_85 : decode cX5_copy 85 = .ok (.i2l, 1) := by decide +kernel
theorem dX5_copy_86 : decode cX5_copy 86 = .ok (.aload_n 0, 1) := by decide +kernel
theorem dX5_copy_87 : decode cX5_copy 87 = .ok (.getfield 61, 3) := by decide +kernel
theorem dX5_copy_90 : decode cX5_copy 90 = .ok (.iload_n 3, 1) := by decide +kernel
theorem dX5_copy_91 : decode cX5_copy 91 = .ok (.iaload, 1) := by decide +kernel
theorem dX5_copy_92 : decode cX5_copy 92 = .ok (.invokestatic 133, 3) := by decide +kernel
theorem dX5_copy_95 : decode cX5_copy 95 = .ok (.ifCond .eq 9, 3) := by decide +kernel
theorem dX5_copy_98 : decode cX5_copy 98 = .ok (.aload_n 0, 1) := by decide +kernel
theorem dX5_copy_99 : decode cX5_copy 99 = .ok (.iconst 3, 1) := by decide +kernel
theorem dX5_copy_100 : decode cX5_copy 100 = .ok (.invokevirtual 129, 3) := by decide +kernel
theorem dX5_copy_103 : decode cX5_copy 103 = .ok (.ireturn, 1) := by decide +kernel
theorem dX5_copy_104 : decode cX5_copy 104 = .ok (.iconst 0, 1) := by decide +kernel
theorem dX5_copy_105 : decode cX5_copy 105 = .ok (.istore 6, 2) := by decide +kernel
theorem dX5_copy_107 : decode cX5_copy 107 = .ok (.iload 6, 2) := by decide +kernel
theorem dX5_copy_109 : decode cX5_copy 109 = .ok (.iload 5, 2) := by decide +kernel
theorem dX5_copy_111 : decode cX5_copy 111 = .ok (.if_icmp .ge 30, 3) := by decide +kernel
theorem dX5_copy_114 : decode cX5_copy 114 = .ok (.aload_n 0, 1) := by decide +kernel
theorem dX5_copy_115 : decode cX5_copy 115 = .ok (.getfield 70, 3) := by decide +kernel
theorem dX5_copy_118 : decode cX5_copy 118 = .ok (.iload 6, 2) := by decide +kernel
theorem dX5_copy_120 : decode cX5_copy 120 = .ok (.aload_n 0, 1) := by decide +kernel
theorem dX5_copy_121 : decode cX5_copy 121 = .ok (.getfield 67, 3) := by decide +kernel
theorem dX5_copy_124 : decode cX5_copy 124 = .ok (.bipush 60, 2) := by decide +kernel
theorem dX5_copy_126 : decode cX5_copy 126 = .ok (.iload_n 1, 1) := by decide +kernel
theorem dX5_copy_127 : decode cX5_copy 127 = .ok (.imul, 1) := by decide +kernel
theorem dX5_copy_128 : decode cX5_copy 128 = .ok (.iload_n 2, 1) := by decide +kernel
theorem dX5_copy_129 : decode cX5_copy 129 = .ok (.iadd, 1) := by decide +kernel
theorem dX5_copy_130 : decode cX5_copy 130 = .ok (.iload 6, 2) := by decide +kernel
theorem dX5_copy_132 : decode cX5_copy 132 = .ok (.iadd, 1) := by decide +kernel
theorem dX5_copy_133 : decode cX5_copy 133 = .ok (.iaload, 1) := by decide +kernel
theorem dX5_copy_134 : decode cX5_copy 134 = .ok (.iastore, 1) := by decide +kernel
theorem dX5_copy_135 : decode cX5_copy 135 = .ok (.iinc 6 1, 3) := by decide +kernel
theorem dX5_copy_138 : decode cX5_copy 138 = .ok (.goto (-31), 3) := by decide +kernel
theorem dX5_copy_141 : decode cX5_copy 141 = .ok (.iconst 0, 1) := by decide +kernel
theorem dX5_copy_142 : decode cX5_copy 142 = .ok (.istore 6, 2) := by decide +kernel
theorem dX5_copy_144 : decode cX5_copy 144 = .ok (.iload 6, 2) := by decide +kernel
theorem dX5_copy_146 : decode cX5_copy 146 = .ok (.iload 5, 2) := by decide +kernel
theorem dX5_copy_148 : decode cX5_copy 148 = .ok (.if_icmp .ge 31, 3) := by decide +kernel
theorem dX5_copy_151 : decode cX5_copy 151 = .ok (.aload_n 0, 1) := by decide +kernel
theorem dX5_copy_152 : decode cX5_copy 152 = .ok (.getfield 67, 3) := by decide +kernel
theorem dX5_copy_155 : decode cX5_copy 155 = .ok (.bipush 60, 2) := by decide +kernel
theorem dX5_copy_157 : decode cX5_copy 157 = .ok (.iload_n 3, 1) := by decide +kernel
theorem dX5_copy_158 : decode cX5_copy 158 = .ok (.imul, 1) := by decide +kernel
theorem dX5_copy_159 : decode cX5_copy 159 = .ok (.iload 4, 2) := by decide +kernel
theorem dX5_copy_161 : decode cX5_copy 161 = .ok (.iadd, 1) := by decide +kernel
theorem dX5_copy_162 : decode cX5_copy 162 = .ok (.iload 6, 2) := by decide +kernel
theorem dX5_copy_164 : decode cX5_copy 164 = .ok (.iadd, 1) := by decide +kernel
theorem dX5_copy_165 : decode cX5_copy 165 = .ok (.aload_n 0, 1) := by decide +kernel
theorem dX5_copy_166 : decode cX5_copy 166 = .ok (.getfield 70, 3) := by decide +kernel
theorem dX5_copy_169 : decode cX5_copy 169 = .ok (.iload 6, 2) := by decide +kernel
theorem dX5_copy_171 : decode cX5_copy 171 = .ok (.iaload, 1) := by decide +kernel
theorem dX5_copy_172 : decode cX5_copy 172 = .ok (.iastore, 1) := by decide +kernel
theorem dX5_copy_173 : decode cX5_copy 173 = .ok (.iinc 6 1, 3) := by decide +kernel
theorem dX5_copy_176 : decode cX5_copy 176 = .ok (.goto (-32), 3) := by decide +kernel
theorem dX5_copy_179 : decode cX5_copy 179 = .ok (.aload_n 0, 1) := by decide +kernel
theorem dX5_copy_180 : decode cX5_copy 180 = .ok (.iload 5, 2) := by decide +kernel
theorem dX5_copy_182 : decode cX5_copy 182 = .ok (.invokevirtual 141, 3) := by decide +kernel
theorem dX5_copy_185 : decode cX5_copy 185 = .ok (.ireturn, 1) := by decide +kernel
theorem dX5_traced_0 : decode cX5_traced 0 = .ok (.aload_n 0, 1) := by decide +kernel
theorem dX5_traced_1 : decode cX5_traced 1 = .ok (.bipush 31, 2) := by decide +kernel
theorem dX5_traced_3 : decode cX5_traced 3 = .ok (.aload_n 0, 1) := by decide +kernel
theorem dX5_traced_4 : decode cX5_traced 4 = .ok (.getfield 235, 3) := by decide +kernel
theorem dX5_traced_7 : decode cX5_traced 7 = .ok (.imul, 1) := by decide +kernel
theorem dX5_traced_8 : decode cX5_traced 8 = .ok (.iload_n 1, 1) := by decide +kernel
theorem dX5_traced_9 : decode cX5_traced 9 = .ok (.iadd, 1) := by decide +kernel
theorem dX5_traced_10 : decode cX5_traced 10 = .ok (.putfield 235, 3) := by decide +kernel
theorem dX5_traced_13 : decode cX5_traced 13 = .ok (.return_, 1) := by decide +kernel
theorem dX5_tell_0 : decode cX5_tell 0 = .ok (.aload_n 0, 1) := by decide +kernel
theorem dX5_tell_1 : decode cX5_tell 1 = .ok (.iload_n 1, 1) := by decide +kernel
theorem dX5_tell_2 : decode cX5_tell 2 = .ok (.invokevirtual 173, 3) := by decide +kernel
theorem dX5_tell_5 : decode cX5_tell 5 = .ok (.ifCond .eq 5, 3) := by decide +kernel
theorem dX5_tell_8 : decode cX5_tell 8 = .ok (.iconst (-1), 1) := by decide +kernel
theorem dX5_tell_9 : decode cX5_tell 9 = .ok (.ireturn, 1) := by decide +kernel
theorem dX5_tell_10 : decode cX5_tell 10 = .ok (.aload_n 0, 1) := by decide +kernel
theorem dX5_tell_11 : decode cX5_tell 11 = .ok (.getfield 16, 3) := by decide +kernel
theorem dX5_tell_14 : decode cX5_tell 14 = .ok (.iload_n 1, 1) := by decide +kernel
theorem dX5_tell_15 : decode cX5_tell 15 = .ok (.iaload, 1) := by decide +kernel
theorem dX5_tell_16 : decode cX5_tell 16 = .ok (.istore_n 2, 1) := by decide +kernel
theorem dX5_tell_17 : decode cX5_tell 17 = .ok (.iload_n 2, 1) := by decide +kernel
theorem dX5_tell_18 : decode cX5_tell 18 = .ok (.iconst 2, 1) := by decide +kernel
theorem dX5_tell_19 : decode cX5_tell 19 = .ok (.if_icmp .ne 8, 3) := by decide +kernel
theorem dX5_tell_22 : decode cX5_tell 22 = .ok (.aload_n 0, 1) := by decide +kernel
theorem dX5_tell_23 : decode cX5_tell 23 = .ok (.iconst 3, 1) := by decide +kernel
theorem dX5_tell_24 : decode cX5_tell 24 = .ok (.invokevirtual 238, 3) := by decide +kernel
theorem dX5_tell_27 : decode cX5_tell 27 = .ok (.iload_n 2, 1) := by decide +kernel
theorem dX5_tell_28 : decode cX5_tell 28 = .ok (.ifCond .le 8, 3) := by decide +kernel
theorem dX5_tell_31 : decode cX5_tell 31 = .ok (.aload_n 0, 1) := by decide +kernel
theorem dX5_tell_32 : decode cX5_tell 32 = .ok (.iconst 2, 1) := by decide +kernel
theorem dX5_tell_33 : decode cX5_tell 33 = .ok (.invokevirtual 238, 3) := by decide +kernel
theorem dX5_tell_36 : decode cX5_tell 36 = .ok (.aload_n 0, 1) := by decide +kernel
theorem dX5_tell_37 : decode cX5_tell 37 = .ok (.iconst 1, 1) := by decide +kernel
theorem dX5_tell_38 : decode cX5_tell 38 = .ok (.invokevirtual 238, 3) := by decide +kernel
theorem dX5_tell_41 : decode cX5_tell 41 = .ok (.iload_n 2, 1) := by decide +kernel
theorem dX5_tell_42 : decode cX5_tell 42 = .ok (.iconst 2, 1) := by decide +kernel
theorem dX5_tell_43 : decode cX5_tell 43 = .ok (.if_icmp .ne 8, 3) := by decide +kernel
theorem dX5_tell_46 : decode cX5_tell 46 = .ok (.aload_n 0, 1) := by decide +kernel
theorem dX5_tell_47 : decode cX5_tell 47 = .ok (.iconst 1, 1) := by decide +kernel
theorem dX5_tell_48 : decode cX5_tell 48 = .ok (.invokevirtual 238, 3) := by decide +kernel
theorem dX5_tell_51 : decode cX5_tell 51 = .ok (.aload_n 0, 1) := by decide +kernel
theorem dX5_tell_52 : decode cX5_tell 52 = .ok (.getfield 19, 3) := by decide +kernel
theorem dX5_tell_55 : decode cX5_tell 55 = .ok (.iload_n 1, 1) := by decide +kernel
theorem dX5_tell_56 : decode cX5_tell 56 = .ok (.iaload, 1) := by decide +kernel
theorem dX5_tell_57 : decode cX5_tell 57 = .ok (.istore_n 3, 1) := by decide +kernel
theorem dX5_tell_58 : decode cX5_tell 58 = .ok (.iload_n 2, 1) := by decide +kernel
theorem dX5_tell_59 : decode cX5_tell 59 = .ok (.ifCond .ne 7, 3) := by decide +kernel
theorem dX5_tell_62 : decode cX5_tell 62 = .ok (.iload_n 3, 1) := by decide +kernel
theorem dX5_tell_63 : decode cX5_tell 63 = .ok (.goto 21, 3) := by decide +kernel
theorem dX5_tell_66 : decode cX5_tell 66 = .ok (.iload_n 2, 1) := by decide +kernel
theorem dX5_tell_67 : decode cX5_tell 67 = .ok (.iconst 1, 1) := by decide +kernel
theorem dX5_tell_68 : decode cX5_tell 68 = .ok (.if_icmp .ne 10, 3) := by decide +kernel
theorem dX5_tell_71 : decode cX5_tell 71 = .ok (.iload_n 3, 1) := by decide +kernel
theorem dX5_tell_72 : decode cX5_tell 72 = .ok (.bipush 100, 2) := by decide +kernel
theorem dX5_tell_74 : decode cX5_tell 74 = .ok (.iadd, 1) := by decide +kernel
theorem dX5_tell_75 : decode cX5_tell 75 = .ok (.goto 9, 3) := by decide +kernel
theorem dX5_tell_78 : decode cX5_tell 78 = .ok (.iconst 2, 1) := by decide +kernel
theorem dX5_tell_79 : decode cX5_tell 79 = .ok (.iload_n 3, 1) := by decide +kernel
theorem dX5_tell_80 : decode cX5_tell 80 = .ok (.imul, 1) := by decide +kernel
theorem dX5_tell_81 : decode cX5_tell 81 = .ok (.bipush 100, 2) := by decide +kernel
theorem dX5_tell_83 : decode cX5_tell 83 = .ok (.iadd, 1) := by decide +kernel
theorem dX5_tell_84 : decode cX5_tell 84 = .ok (.ireturn, 1) := by decide +kernel
theorem dX5_hush_0 : decode cX5_hush 0 = .ok (.aload_n 0, 1) := by decide +kernel
theorem dX5_hush_1 : decode cX5_hush 1 = .ok (.iload_n 1, 1) := by decide +kernel
theorem dX5_hush_2 : decode cX5_hush 2 = .ok (.invokevirtual 173, 3) := by decide +kernel
theorem dX5_hush_5 : decode cX5_hush 5 = .ok (.ifCond .eq 5, 3) := by decide +kernel
theorem dX5_hush_8 : decode cX5_hush 8 = .ok (.iconst (-1), 1) := by decide +kernel
theorem dX5_hush_9 : decode cX5_hush 9 = .ok (.ireturn, 1) := by decide +kernel
theorem dX5_hush_10 : decode cX5_hush 10 = .ok (.aload_n 0, 1) := by decide +kernel
theorem dX5_hush_11 : decode cX5_hush 11 = .ok (.aload_n 0, 1) := by decide +kernel
theorem dX5_hush_12 : decode cX5_hush 12 = .ok (.getfield 16, 3) := by decide +kernel
theorem dX5_hush_15 : decode cX5_hush 15 = .ok (.iload_n 1, 1) := by decide +kernel
theorem dX5_hush_16 : decode cX5_hush 16 = .ok (.iaload, 1) := by decide +kernel
theorem dX5_hush_17 : decode cX5_hush 17 = .ok (.iconst 2, 1) := by decide +kernel
theorem dX5_hush_18 : decode cX5_hush 18 = .ok (.if_icmp .ne 7, 3) := by decide +kernel
theorem dX5_hush_21 : decode cX5_hush 21 = .ok (.iconst 5, 1) := by decide +kernel
theorem dX5_hush_22 : decode cX5_hush 22 = .ok (.goto 4, 3) := by decide +kernel
theorem dX5_hush_25 : decode cX5_hush 25 = .ok (.iconst 4, 1) := by decide +kernel
theorem dX5_hush_26 : decode cX5_hush 26 = .ok (.invokevirtual 238, 3) := by decide +kernel
theorem dX5_hush_29 : decode cX5_hush 29 = .ok (.aload_n 0, 1) := by decide +kernel
theorem dX5_hush_30 : decode cX5_hush 30 = .ok (.getfield 16, 3) := by decide +kernel
theorem dX5_hush_33 : decode cX5_hush 33 = .ok (.iload_n 1, 1) := by decide +kernel
theorem dX5_hush_34 : decode cX5_hush 34 = .ok (.iaload, 1) := by decide +kernel
theorem dX5_hush_35 : decode cX5_hush 35 = .ok (.iconst 2, 1) := by decide +kernel
theorem dX5_hush_36 : decode cX5_hush 36 = .ok (.if_icmp .ne 8, 3) := by decide +kernel
theorem dX5_hush_39 : decode cX5_hush 39 = .ok (.bipush 80, 2) := by decide +kernel
theorem dX5_hush_41 : decode cX5_hush 41 = .ok (.goto 4, 3) := by decide +kernel
theorem dX5_hush_44 : decode cX5_hush 44 = .ok (.iload_n 1, 1) := by decide +kernel
theorem dX5_hush_45 : decode cX5_hush 45 = .ok (.ireturn, 1) := by decide +kernel
theorem dX5_as_0 : decode cX5_as 0 = .ok (.aload_n 0, 1) := by decide +kernel
theorem dX5_as_1 : decode cX5_as 1 = .ok (.iload_n 1, 1) := by decide +kernel
theorem dX5_as_2 : decode cX5_as 2 = .ok (.invokevirtual 173, 3) := by decide +kernel
theorem dX5_as_5 : decode cX5_as 5 = .ok (.ifCond .eq 9, 3) := by decide +kernel
theorem dX5_as_8 : decode cX5_as 8 = .ok (.aload_n 0, 1) := by decide +kernel
theorem dX5_as_9 : decode cX5_as 9 = .ok (.iconst (-1), 1) := by decide +kernel
theorem dX5_as_10 : decode cX5_as 10 = .ok (.invokevirtual 141, 3) := by decide +kernel
theorem dX5_as_13 : decode cX5_as 13 = .ok (.ireturn, 1) := by decide +kernel
theorem dX5_as_14 : decode cX5_as 14 = .ok (.iload_n 2, 1) := by decide +kernel
theorem dX5_as_15 : decode cX5_as 15 = .ok (.i2l, 1) := by decide +kernel
theorem dX5_as_16 : decode cX5_as 16 = .ok (.lconst 0, 1) := by decide +kernel
theorem dX5_as_17 : decode cX5_as 17 = .ok (.ldc2_w 98, 3) := by decide +kernel
theorem dX5_as_20 : decode cX5_as 20 = .ok (.invokestatic 91, 3) := by decide +kernel
theorem dX5_as_23 : decode cX5_as 23 = .ok (.ifCond .ne 10, 3) := by decide +kernel
theorem dX5_as_26 : decode cX5_as 26 = .ok (.aload_n 0, 1) := by decide +kernel
theorem dX5_as_27 : decode cX5_as 27 = .ok (.bipush (-2), 2) := by decide +kernel
theorem dX5_as_29 : decode cX5_as 29 = .ok (.invokevirtual 141, 3) := by decide +kernel
theorem dX5_as_32 : decode cX5_as 32 = .ok (.ireturn, 1) := by decide +kernel
theorem dX5_as_33 : decode cX5_as 33 = .ok (.aload_n 0, 1) := by decide +kernel
theorem dX5_as_34 : decode cX5_as 34 = .ok (.getfield 16, 3) := by decide +kernel
theorem dX5_as_37 : decode cX5_as 37 = .ok (.iload_n 1, 1) := by decide +kernel
theorem dX5_as_38 : decode cX5_as 38 = .ok (.iaload, 1) := by decide +kernel
theorem dX5_as_39 : decode cX5_as 39 = .ok (.iload_n 2, 1) := by decide +kernel
theorem dX5_as_40 : decode cX5_as 40 = .ok (.if_icmp .lt 11, 3) := by decide +kernel
theorem dX5_as_43 : decode cX5_as 43 = .ok (.aload_n 0, 1) := by decide +kernel
theorem dX5_as_44 : decode cX5_as 44 = .ok (.iconst 1, 1) := by decide +kernel
theorem dX5_as_45 : decode cX5_as 45 = .ok (.invokevirtual 141, 3) := by decide +kernel
theorem dX5_as_48 : decode cX5_as 48 = .ok (.goto 8, 3) := by decide +kernel
theorem dX5_as_51 : decode cX5_as 51 = .ok (.aload_n 0, 1) := by decide +kernel
theorem dX5_as_52 : decode cX5_as 52 = .ok (.iconst 2, 1) := by decide +kernel
theorem dX5_as_53 : decode cX5_as 53 = .ok (.invokevirtual 129, 3) := by decide +kernel
theorem dX5_as_56 : decode cX5_as 56 = .ok (.ireturn, 1) := by decide +kernel
theorem dX5_trace_0 : decode cX5_trace 0 = .ok (.aload_n 0, 1) := by decide +kernel
theorem dX5_trace_1 : decode cX5_trace 1 = .ok (.getfield 235, 3) := by decide +kernel
theorem dX5_trace_4 : decode cX5_trace 4 = .ok (.ireturn, 1) := by decide +kernel
theorem dX5_fault_0 : decode cX5_fault 0 = .ok (.aload_n 0, 1) := by decide +kernel
theorem dX5_fault_1 : decode cX5_fault 1 = .ok (.getfield 81, 3) := by decide +kernel
theorem dX5_fault_4 : decode cX5_fault 4 = .ok (.ireturn, 1) := by decide +kernel
theorem dX5_many_0 : decode cX5_many 0 = .ok (.iload_n 1, 1) := by decide +kernel
theorem dX5_many_1 : decode cX5_many 1 = .ok (.tableswitch 60 0 4 #[35, 40, 45, 50, 55], 35) := by decide +kernel
theorem dX5_many_36 : decode cX5_many 36 = .ok (.aload_n 0, 1) := by decide +kernel
theorem dX5_many_37 : decode cX5_many 37 = .ok (.getfield 95, 3) := by decide +kernel
theorem dX5_many_40 : decode cX5_many 40 = .ok (.ireturn, 1) := by decide +kernel
theorem dX5_many_41 : decode cX5_many 41 = .ok (.aload_n 0, 1) := by decide +kernel
theorem dX5_many_42 : decode cX5_many 42 = .ok (.getfield 88, 3) := by decide +kernel
theorem dX5_many_45 : decode cX5_many 45 = .ok (.ireturn, 1) := by decide +kernel
theorem dX5_many_46 : decode cX5_many 46 = .ok (.aload_n 0, 1) := by decide +kernel
theorem dX5_many_47 : decode cX5_many 47 = .ok (.getfield 151, 3) := by decide +kernel
theorem dX5_many_50 : decode cX5_many 50 = .ok (.ireturn, 1) := by decide +kernel
theorem dX5_many_51 : decode cX5_many 51 = .ok (.aload_n 0, 1) := by decide +kernel
theorem dX5_many_52 : decode cX5_many 52 = .ok (.getfield 161, 3) := by decide +kernel
theorem dX5_many_55 : decode cX5_many 55 = .ok (.ireturn, 1) := by decide +kernel
theorem dX5_many_56 : decode cX5_many 56 = .ok (.aload_n 0, 1) := by decide +kernel
theorem dX5_many_57 : decode cX5_many 57 = .ok (.getfield 164, 3) := by decide +kernel
theorem dX5_many_60 : decode cX5_many 60 = .ok (.ireturn, 1) := by decide +kernel
theorem dX5_many_61 : decode cX5_many 61 = .ok (.bipush (-2), 2) := by decide +kernel
theorem dX5_many_63 : decode cX5_many 63 = .ok (.ireturn, 1) := by decide +kernel
end
section
theorem dL_law_0 : decode cL_law 0 = .ok (.new 7, 3) := by decide +kernel
theorem dL_law_3 : decode cL_law 3 = .ok (.dup, 1) := by decide +kernel
theorem dL_law_4 : decode cL_law 4 = .ok (.invokespecial 9, 3) := by decide +kernel
theorem dL_law_7 : decode cL_law 7 = .ok (.astore_n 1, 1) := by decide +kernel
theorem dL_law_8 : decode cL_law 8 = .ok (.new 10, 3) := by decide +kernel
theorem dL_law_11 : decode cL_law 11 = .ok (.dup, 1) := by decide +kernel
theorem dL_law_12 : decode cL_law 12 = .ok (.invokespecial 12, 3) := by decide +kernel
theorem dL_law_15 : decode cL_law 15 = .ok (.astore_n 2, 1) := by decide +kernel
theorem dL_law_16 : decode cL_law 16 = .ok (.iconst 0, 1) := by decide +kernel
theorem dL_law_17 : decode cL_law 17 = .ok (.istore_n 3, 1) := by decide +kernel
theorem dL_law_18 : decode cL_law 18 = .ok (.iload_n 3, 1) := by decide +kernel
theorem dL_law_19 : decode cL_law 19 = .ok (.aload_n 0, 1) := by decide +kernel
theorem dL_law_20 : decode cL_law 20 = .ok (.arraylength, 1) := by decide +kernel
theorem dL_law_21 : decode cL_law 21 = .ok (.bipush 6, 2) := by decide +kernel
theorem dL_law_23 : decode cL_law 23 = .ok (.isub, 1) := by decide +kernel
theorem dL_law_24 : decode cL_law 24 = .ok (.if_icmp .gt 1232, 3) := by decide +kernel
theorem dL_law_27 : decode cL_law 27 = .ok (.aload_n 0, 1) := by decide +kernel
theorem dL_law_28 : decode cL_law 28 = .ok (.iload_n 3, 1) := by decide +kernel
theorem dL_law_29 : decode cL_law 29 = .ok (.iaload, 1) := by decide +kernel
theorem dL_law_30 : decode cL_law 30 = .ok (.bipush 63, 2) := by decide +kernel
theorem dL_law_32 : decode cL_law 32 = .ok (.iand, 1) := by decide +kernel
theorem dL_law_33 : decode cL_law 33 = .ok (.tableswitch 1217 0 32 #[147, 200, 233, 266, 289, 312, 345, 394, 427, 450, 484, 548, 601, 624, 637, 701, 734, 757, 780, 793, 806, 829, 873, 916, 939, 982, 1026, 1089, 1112, 1135, 1168, 1181, 1194], 147) := by decide +kernel
theorem dL_law_180 : decode cL_law 180 = .ok (.aload_n 1, 1) := by decide +kernel
theorem dL_law_181 : decode cL_law 181 = .ok (.aload_n 0, 1) := by decide +kernel
theorem dL_law_182 : decode cL_law 182 = .ok (.iload_n 3, 1) := by decide +kernel
theorem dL_law_183 : decode cL_law 183 = .ok (.iconst 1, 1) := by decide +kernel
theorem dL_law_184 : decode cL_law 184 = .ok (.iadd, 1) := by decide +kernel
theorem dL_law_185 : decode cL_law 185 = .ok (.iaload, 1) := by decide +kernel
theorem dL_law_186 : decode cL_law 186 = .ok (.aload_n 0, 1) := by decide +kernel
theorem dL_law_187 : decode cL_law 187 = .ok (.iload_n 3, 1) := by decide +kernel
theorem dL_law_188 : decode cL_law 188 = .ok (.iconst 2, 1) := by decide +kernel
theorem dL_law_189 : decode cL_law 189 = .ok (.iadd, 1) := by decide +kernel
theorem dL_law_190 : decode cL_law 190 = .ok (.iaload, 1) := by decide +kernel
theorem dL_law_191 : decode cL_law 191 = .ok (.aload_n 0, 1) := by decide +kernel
theorem dL_law_192 : decode cL_law 192 = .ok (.iload_n 3, 1) := by decide +kernel
theorem dL_law_193 : decode cL_law 193 = .ok (.iconst 3, 1) := by decide +kernel
theorem dL_law_194 : decode cL_law 194 = .ok (.iadd, 1) := by decide +kernel
theorem dL_law_195 : decode cL_law 195 = .ok (.iaload, 1) := by decide +kernel
theorem dL_law_196 : decode cL_law 196 = .ok (.aload_n 0, 1) := by decide +kernel
theorem dL_law_197 : decode cL_law 197 = .ok (.iload_n 3, 1) := by decide +kernel
theorem dL_law_198 : decode cL_law 198 = .ok (.iconst 4, 1) := by decide +kernel
theorem dL_law_199 : decode cL_law 199 = .ok (.iadd, 1) := by decide +kernel
theorem dL_law_200 : decode cL_law 200 = .ok (.iaload, 1) := by decide +kernel
theorem dL_law_201 : decode cL_law 201 = .ok (.invokevirtual 13, 3) := by decide +kernel
theorem dL_law_204 : decode cL_law 204 = .ok (.aload_n 2, 1) := by decide +kernel
theorem dL_law_205 : decode cL_law 205 = .ok (.aload_n 0, 1) := by decide +kernel
theorem dL_law_206 : decode cL_law 206 = .ok (.iload_n 3, 1) := by decide +kernel
theorem dL_law_207 : decode cL_law 207 = .ok (.iconst 1, 1) := by decide +kernel
theorem dL_law_208 : decode cL_law 208 = .ok (.iadd, 1) := by decide +kernel
theorem dL_law_209 : decode cL_law 209 = .ok (.iaload, 1) := by decide +kernel
theorem dL_law_210 : decode cL_law 210 = .ok (.aload_n 0, 1) := by decide +kernel
theorem dL_law_211 : decode cL_law 211 = .ok (.iload_n 3, 1) := by decide +kernel
theorem dL_law_212 : decode cL_law 212 = .ok (.iconst 2, 1) := by decide +kernel
theorem dL_law_213 : decode cL_law 213 = .ok (.iadd, 1) := by decide +kernel
theorem dL_law_214 : decode cL_law 214 = .ok (.iaload, 1) := by decide +kernel
theorem dL_law_215 : decode cL_law 215 = .ok (.aload_n 0, 1) := by decide +kernel
theorem dL_law_216 : decode cL_law 216 = .ok (.iload_n 3, 1) := by decide +kernel
theorem dL_law_217 : decode cL_law 217 = .ok (.iconst 3, 1) := by decide +kernel
theorem dL_law_218 : decode cL_law 218 = .ok (.iadd, 1) := by decide +kernel
theorem dL_law_219 : decode cL_law 219 = .ok (.iaload, 1) := by decide +kernel
theorem dL_law_220 : decode cL_law 220 = .ok (.aload_n 0, 1) := by decide +kernel
theorem dL_law_221 : decode cL_law 221 = .ok (.iload_n 3, 1) := by decide +kernel
theorem dL_law_222 : decode cL_law 222 = .ok (.iconst 4, 1) := by decide +kernel
theorem dL_law_223 : decode cL_law 223 = .ok (.iadd, 1) := by decide +kernel
theorem dL_law_224 : decode cL_law 224 = .ok (.iaload, 1) := by decide +kernel
theorem dL_law_225 : decode cL_law 225 = .ok (.invokevirtual 17, 3) := by decide +kernel
theorem dL_law_228 : decode cL_law 228 = .ok (.if_icmp .eq 1022, 3) := by decide +kernel
theorem dL_law_231 : decode cL_law 231 = .ok (.iconst 0, 1) := by decide +kernel
theorem dL_law_232 : decode cL_law 232 = .ok (.ireturn, 1) := by decide +kernel
theorem dL_law_233 : decode cL_law 233 = .ok (.aload_n 1, 1) := by decide +kernel
theorem dL_law_234 : decode cL_law 234 = .ok (.aload_n 0, 1) := by decide +kernel
theorem dL_law_235 : decode cL_law 235 = .ok (.iload_n 3, 1) := by decide +kernel
theorem dL_law_236 : decode cL_law 236 = .ok (.iconst 1, 1) := by decide +kernel
theorem dL_law_237 : decode cL_law 237 = .ok (.iadd, 1) := by decide +kernel
theorem dL_law_238 : decode cL_law 238 = .ok (.iaload, 1) := by decide +kernel
theorem dL_law_239 : decode cL_law 239 = .ok (.aload_n 0, 1) := by decide +kernel
theorem dL_law_240 : decode cL_law 240 = .ok (.iload_n 3, 1) := by decide +kernel
theorem dL_law_241 : decode cL_law 241 = .ok (.iconst 2, 1) := by decide +kernel
theorem dL_law_242 : decode cL_law 242 = .ok (.iadd, 1) := by decide +kernel
theorem dL_law_243 : decode cL_law 243 = .ok (.iaload, 1) := by decide +kernel
theorem dL_law_244 : decode cL_law 244 = .ok (.invokevirtual 18, 3) := by decide +kernel
theorem dL_law_247 : decode cL_law 247 = .ok (.aload_n 2, 1) := by decide +kernel
theorem dL_law_248 : decode cL_law 248 = .ok (.aload_n 0, 1) := by decide +kernel
theorem dL_law_249 : decode cL_law 249 = .ok (.iload_n 3, 1) := by decide +kernel
theorem dL_law_250 : decode cL_law 250 = .ok (.iconst 1, 1) := by decide +kernel
theorem dL_law_251 : decode cL_law 251 = .ok (.iadd, 1) := by decide +kernel
theorem dL_law_252 : decode cL_law 252 = .ok (.iaload, 1) := by decide +kernel
theorem dL_law_253 : decode cL_law 253 = .ok (.aload_n 0, 1) := by decide +kernel
theorem dL_law_254 : decode cL_law 254 = .ok (.iload_n 3, 1) := by decide +kernel
theorem dL_law_255 : decode cL_law 255 = .ok (.iconst 2, 1) := by decide +kernel
theorem dL_law_256 : decode cL_law 256 = .ok (.iadd, 1) := by decide +kernel
theorem dL_law_257 : decode cL_law 257 = .ok (.iaload, 1) := by decide +kernel
theorem dL_law_258 : decode cL_law 258 = .ok (.invokevirtual 22, 3) := by decide +kernel
theorem dL_law_261 : decode cL_law 261 = .ok (.if_icmp .eq 989, 3) := by decide +kernel
theorem dL_law_264 : decode cL_law 264 = .ok (.iconst 0, 1) := by decide +kernel
theorem dL_law_265 : decode cL_law 265 = .ok (.ireturn, 1) := by decide +kernel
theorem dL_law_266 : decode cL_law 266 = .ok (.aload_n 1, 1) := by decide +kernel
theorem dL_law_267 : decode cL_law 267 = .ok (.aload_n 0, 1) := by decide +kernel
theorem dL_law_268 : decode cL_law 268 = .ok (.iload_n 3, 1) := by decide +kernel
theorem dL_law_269 : decode cL_law 269 = .ok (.iconst 1, 1) := by decide +kernel
theorem dL_law_270 : decode cL_law 270 = .ok (.iadd, 1) := by decide +kernel
theorem dL_law_271 : decode cL_law 271 = .ok (.iaload, 1) := by decide +kernel
theorem dL_law_272 : decode cL_law 272 = .ok (.aload_n 0, 1) := by decide +kernel
theorem dL_law_273 : decode cL_law 273 = .ok (.iload_n 3, 1) := by decide +kernel
theorem dL_law_274 : decode cL_law 274 = .ok (.iconst 2, 1) := by decide +kernel
theorem dL_law_275 : decode cL_law 275 = .ok (.iadd, 1) := by decide +kernel
theorem dL_law_276 : decode cL_law 276 = .ok (.iaload, 1) := by decide +kernel
theorem dL_law_277 : decode cL_law 277 = .ok (.invokevirtual 23, 3) := by decide +kernel
theorem dL_law_280 : decode cL_law 280 = .ok (.aload_n 2, 1) := by decide +kernel
theorem dL_law_281 : decode cL_law 281 = .ok (.aload_n 0, 1) := by decide +kernel
theorem dL_law_282 : decode cL_law 282 = .ok (.iload_n 3, 1) := by decide +kernel
theorem dL_law_283 : decode cL_law 283 = .ok (.iconst 1, 1) := by decide +kernel
theorem dL_law_284 : decode cL_law 284 = .ok (.iadd, 1) := by decide +kernel
theorem dL_law_285 : decode cL_law 285 = .ok (.iaload, 1) := by decide +kernel
theorem dL_law_286 : decode cL_law 286 = .ok (.aload_n 0, 1) := by decide +kernel
theorem dL_law_287 : decode cL_law 287 = .ok (.iload_n 3, 1) := by decide +kernel
theorem dL_law_288 : decode cL_law 288 = .ok (.iconst 2, 1) := by decide +kernel
theorem dL_law_289 : decode cL_law 289 = .ok (.iadd, 1) := by decide +kernel
theorem dL_law_290 : decode cL_law 290 = .ok (.iaload, 1) := by decide +kernel
theorem dL_law_291 : decode cL_law 291 = .ok (.invokevirtual 26, 3) := by decide +kernel
theorem dL_law_294 : decode cL_law 294 = .ok (.if_icmp .eq 956, 3) := by decide +kernel
theorem dL_law_297 : decode cL_law 297 = .ok (.iconst 0, 1) := by decide +kernel
theorem dL_law_298 : decode cL_law 298 = .ok (.ireturn, 1) := by decide +kernel
theorem dL_law_299 : decode cL_law 299 = .ok (.aload_n 1, 1) := by decide +kernel
theorem dL_law_300 : decode cL_law 300 = .ok (.aload_n 0, 1) := by decide +kernel
theorem dL_law_301 : decode cL_law 301 = .ok (.iload_n 3, 1) := by decide +kernel
theorem dL_law_302 : decode cL_law 302 = .ok (.iconst 1, 1) := by decide +kernel
theorem dL_law_303 : decode cL_law 303 = .ok (.iadd, 1) := by decide +kernel
theorem dL_law_304 : decode cL_law 304 = .ok (.iaload, 1) := by decide +kernel
theorem dL_law_305 : decode cL_law 305 = .ok (.invokevirtual 27, 3) := by decide +kernel
theorem dL_law_308 : decode cL_law 308 = .ok (.aload_n 2, 1) := by decide +kernel
theorem dL_law_309 : decode cL_law 309 = .ok (.aload_n 0, 1) := by decide +kernel
theorem dL_law_310 : decode cL_law 310 = .ok (.iload_n 3, 1) := by decide +kernel
theorem dL_law_311 : decode cL_law 311 = .ok (.iconst 1, 1) := by decide +kernel
theorem dL_law_312 : decode cL_law 312 = .ok (.iadd, 1) := by decide +kernel
theorem dL_law_313 : decode cL_law 313 = .ok (.iaload, 1) := by decide +kernel
theorem dL_law_314 : decode cL_law 314 = .ok (.invokevirtual 31, 3) := by decide +kernel
theorem dL_law_317 : decode cL_law 317 = .ok (.if_icmp .eq 933, 3) := by decide +kernel
theorem dL_law_320 : decode cL_law 320 = .ok (.iconst 0, 1) := by decide +kernel
theorem dL_law_321 : decode cL_law 321 = .ok (.ireturn, 1) := by decide +kernel
theorem dL_law_322 : decode cL_law 322 = .ok (.aload_n 1, 1) := by decide +kernel
theorem dL_law_323 : decode cL_law 323 = .ok (.aload_n 0, 1) := by decide +kernel
theorem dL_law_324 : decode cL_law 324 = .ok (.iload_n 3, 1) := by decide +kernel
theorem dL_law_325 : decode cL_law 325 = .ok (.iconst 1, 1) := by decide +kernel
theorem dL_law_326 : decode cL_law 326 = .ok (.iadd, 1) := by decide +kernel
theorem dL_law_327 : decode cL_law 327 = .ok (.iaload, 1) := by decide +kernel
theorem dL_law_328 : decode cL_law 328 = .ok (.invokevirtual 32, 3) := by decide +kernel
theorem dL_law_331 : decode cL_law 331 = .ok (.aload_n 2, 1) := by decide +kernel
theorem dL_law_332 : decode cL_law 332 = .ok (.aload_n 0, 1) := by decide +kernel
theorem dL_law_333 : decode cL_law 333 = .ok (.iload_n 3, 1) := by decide +kernel
theorem dL_law_334 : decode cL_law 334 = .ok (.iconst 1, 1) := by decide +kernel
theorem dL_law_335 : decode cL_law 335 = .ok (.iadd, 1) := by decide +kernel
theorem dL_law_336 : decode cL_law 336 = .ok (.iaload, 1) := by decide +kernel
theorem dL_law_337 : decode cL_law 337 = .ok (.invokevirtual 35, 3) := by decide +kernel
theorem dL_law_340 : decode cL_law 340 = .ok (.if_icmp .eq 910, 3) := by decide +kernel
theorem dL_law_343 : decode cL_law 343 = .ok (.iconst 0, 1) := by decide +kernel
theorem dL_law_344 : decode cL_law 344 = .ok (.ireturn, 1) := by decide +kernel
theorem dL_law_345 : decode cL_law 345 = .ok (.aload_n 1, 1) := by decide +kernel
theorem dL_law_346 : decode cL_law 346 = .ok (.aload_n 0, 1) := by decide +kernel
theorem dL_law_347 : decode cL_law 347 = .ok (.iload_n 3, 1) := by decide +kernel
theorem dL_law_348 : decode cL_law 348 = .ok (.iconst 1, 1) := by decide +kernel
theorem dL_law_349 : decode cL_law 349 = .ok (.iadd, 1) := by decide +kernel
theorem dL_law_350 : decode cL_law 350 = .ok (.iaload, 1) := by decide +kernel
theorem dL_law_351 : decode cL_law 351 = .ok (.aload_n 0, 1) := by decide +kernel
theorem dL_law_352 : decode cL_law 352 = .ok (.iload_n 3, 1) := by decide +kernel
theorem dL_law_353 : decode cL_law 353 = .ok (.iconst 2, 1) := by decide +kernel
theorem dL_law_354 : decode cL_law 354 = .ok (.iadd, 1) := by decide +kernel
theorem dL_law_355 : decode cL_law 355 = .ok (.iaload, 1) := by decide +kernel
theorem dL_law_356 : decode cL_law 356 = .ok (.invokevirtual 36, 3) := by decide +kernel
theorem dL_law_359 : decode cL_law 359 = .ok (.aload_n 2, 1) := by decide +kernel
theorem dL_law_360 : decode cL_law 360 = .ok (.aload_n 0, 1) := by decide +kernel
theorem dL_law_361 : decode cL_law 361 = .ok (.iload_n 3, 1) := by decide +kernel
theorem dL_law_362 : decode cL_law 362 = .ok (.iconst 1, 1) := by decide +kernel
theorem dL_law_363 : decode cL_law 363 = .ok (.iadd, 1) := by decide +kernel
theorem dL_law_364 : decode cL_law 364 = .ok (.iaload, 1) := by decide +kernel
theorem dL_law_365 : decode cL_law 365 = .ok (.aload_n 0, 1) := by decide +kernel
theorem dL_law_366 : decode cL_law 366 = .ok (.iload_n 3, 1) := by decide +kernel
theorem dL_law_367 : decode cL_law 367 = .ok (.iconst 2, 1) := by decide +kernel
theorem dL_law_368 : decode cL_law 368 = .ok (.iadd, 1) := by decide +kernel
theorem dL_law_369 : decode cL_law 369 = .ok (.iaload, 1) := by decide +kernel
theorem dL_law_370 : decode cL_law 370 = .ok (.invokevirtual 39, 3) := by decide +kernel
theorem dL_law_373 : decode cL_law 373 = .ok (.if_icmp .eq 877, 3) := by decide +kernel
theorem dL_law_376 : decode cL_law 376 = .ok (.iconst 0, 1) := by decide +kernel
theorem dL_law_377 : decode cL_law 377 = .ok (.ireturn, 1) := by decide +kernel
theorem dL_law_378 : decode cL_law 378 = .ok (.aload_n 1, 1) := by decide +kernel
theorem dL_law_379 : decode cL_law 379 = .ok (.aload_n 0, 1) := by decide +kernel
theorem dL_law_380 : decode cL_law 380 = .ok (.iload_n 3, 1) := by decide +kernel
theorem dL_law_381 : decode cL_law 381 = .ok (.iconst 1, 1) := by decide +kernel
theorem dL_law_382 : decode cL_law 382 = .ok (.iadd, 1) := by decide +kernel
theorem dL_law_383 : decode cL_law 383 = .ok (.iaload, 1) := by decide +kernel
theorem dL_law_384 : decode cL_law 384 = .ok (.aload_n 0, 1) := by decide +kernel
theorem dL_law_385 : decode cL_law 385 = .ok (.iload_n 3, 1) := by decide +kernel
theorem dL_law_386 : decode cL_law 386 = .ok (.iconst 2, 1) := by decide +kernel
theorem dL_law_387 : decode cL_law 387 = .ok (.iadd, 1) := by decide +kernel
theorem dL_law_388 : decode cL_law 388 = .ok (.iaload, 1) := by decide +kernel
theorem dL_law_389 : decode cL_law 389 = .ok (.ifCond .eq 7, 3) := by decide +kernel
theorem dL_law_392 : decode cL_law 392 = .ok (.iconst 1, 1) := by decide +kernel
theorem dL_law_393 : decode cL_law 393 = .ok (.goto 4, 3) := by decide +kernel
theorem dL_law_396 : decode cL_law 396 = .ok (.iconst 0, 1) := by decide +kernel
theorem dL_law_397 : decode cL_law 397 = .ok (.invokevirtual 40, 3) := by decide +kernel
theorem dL_law_400 : decode cL_law 400 = .ok (.aload_n 2, 1) := by decide +kernel
theorem dL_law_401 : decode cL_law 401 = .ok (.aload_n 0, 1) := by decide +kernel
theorem dL_law_402 : decode cL_law 402 = .ok (.iload_n 3, 1) := by decide +kernel
theorem dL_law_403 : decode cL_law 403 = .ok (.iconst 1, 1) := by decide +kernel
theorem dL_law_404 : decode cL_law 404 = .ok (.iadd, 1) := by decide +kernel
theorem dL_law_405 : decode cL_law 405 = .ok (.iaload, 1) := by decide +kernel
theorem dL_law_406 : decode cL_law 406 = .ok (.aload_n 0, 1) := by decide +kernel
theorem dL_law_407 : decode cL_law 407 = .ok (.iload_n 3, 1) := by decide +kernel
theorem dL_law_408 : decode cL_law 408 = .ok (.iconst 2, 1) := by decide +kernel
theorem dL_law_409 : decode cL_law 409 = .ok (.iadd, 1) := by decide +kernel
theorem dL_law_410 : decode cL_law 410 = .ok (.iaload, 1) := by decide +kernel
theorem dL_law_411 : decode cL_law 411 = .ok (.ifCond .eq 7, 3) := by decide +kernel
theorem dL_law_414 : decode cL_law 414 = .ok (.iconst 1, 1) := by decide +kernel
theorem dL_law_415 : decode cL_law 415 = .ok (.goto 4, 3) := by decide +kernel
theorem dL_law_418 : decode cL_law 418 = .ok (.iconst 0, 1) := by decide +kernel
theorem dL_law_419 : decode cL_law 419 = .ok (.invokevirtual 44, 3) := by decide +kernel
theorem dL_law_422 : decode cL_law 422 = .ok (.if_icmp .eq 828, 3) := by decide +kernel
theorem dL_law_425 : decode cL_law 425 = .ok (.iconst 0, 1) := by decide +kernel
theorem dL_law_426 : decode cL_law 426 = .ok (.ireturn, 1) := by decide +kernel
theorem dL_law_427 : decode cL_law 427 = .ok (.aload_n 1, 1) := by decide +kernel
theorem dL_law_428 : decode cL_law 428 = .ok (.aload_n 0, 1) := by decide +kernel
theorem dL_law_429 : decode cL_law 429 = .ok (.iload_n 3, 1) := by decide +kernel
theorem dL_law_430 : decode cL_law 430 = .ok (.iconst 1, 1) := by decide +kernel
theorem dL_law_431 : decode cL_law 431 = .ok (.iadd, 1) := by decide +kernel
theorem dL_law_432 : decode cL_law 432 = .ok (.iaload, 1) := by decide +kernel
theorem dL_law_433 : decode cL_law 433 = .ok (.aload_n 0, 1) := by decide +kernel
theorem dL_law_434 : decode cL_law 434 = .ok (.iload_n 3, 1) := by decide +kernel
theorem dL_law_435 : decode cL_law 435 = .ok (.iconst 2, 1) := by decide +kernel
theorem dL_law_436 : decode cL_law 436 = .ok (.iadd, 1) := by decide +kernel
theorem dL_law_437 : decode cL_law 437 = .ok (.iaload, 1) := by decide +kernel
theorem dL_law_438 : decode cL_law 438 = .ok (.invokevirtual 45, 3) := by decide +kernel
theorem dL_law_441 : decode cL_law 441 = .ok (.aload_n 2, 1) := by decide +kernel
theorem dL_law_442 : decode cL_law 442 = .ok (.aload_n 0, 1) := by decide +kernel
theorem dL_law_443 : decode cL_law 443 = .ok (.iload_n 3, 1) := by decide +kernel
theorem dL_law_444 : decode cL_law 444 = .ok (.iconst 1, 1) := by decide +kernel
theorem dL_law_445 : decode cL_law 445 = .ok (.iadd, 1) := by decide +kernel
theorem dL_law_446 : decode cL_law 446 = .ok (.iaload, 1) := by decide +kernel
theorem dL_law_447 : decode cL_law 447 = .ok (.aload_n 0, 1) := by decide +kernel
theorem dL_law_448 : decode cL_law 448 = .ok (.iload_n 3, 1) := by decide +kernel
theorem dL_law_449 : decode cL_law 449 = .ok (.iconst 2, 1) := by decide +kernel
theorem dL_law_450 : decode cL_law 450 = .ok (.iadd, 1) := by decide +kernel
theorem dL_law_451 : decode cL_law 451 = .ok (.iaload, 1) := by decide +kernel
theorem dL_law_452 : decode cL_law 452 = .ok (.invokevirtual 48, 3) := by decide +kernel
theorem dL_law_455 : decode cL_law 455 = .ok (.if_icmp .eq 795, 3) := by decide +kernel
theorem dL_law_458 : decode cL_law 458 = .ok (.iconst 0, 1) := by decide +kernel
theorem dL_law_459 : decode cL_law 459 = .ok (.ireturn, 1) := by decide +kernel
theorem dL_law_460 : decode cL_law 460 = .ok (.aload_n 1, 1) := by decide +kernel
theorem dL_law_461 : decode cL_law 461 = .ok (.aload_n 0, 1) := by decide +kernel
theorem dL_law_462 : decode cL_law 462 = .ok (.iload_n 3, 1) := by decide +kernel
theorem dL_law_463 : decode cL_law 463 = .ok (.iconst 1, 1) := by decide +kernel
theorem dL_law_464 : decode cL_law 464 = .ok (.iadd, 1) := by decide +kernel
theorem dL_law_465 : decode cL_law 465 = .ok (.iaload, 1) := by decide +kernel
theorem dL_law_466 : decode cL_law 466 = .ok (.invokevirtual 49, 3) := by decide +kernel
theorem dL_law_469 : decode cL_law 469 = .ok (.aload_n 2, 1) := by decide +kernel
theorem dL_law_470 : decode cL_law 470 = .ok (.aload_n 0, 1) := by decide +kernel
theorem dL_law_471 : decode cL_law 471 = .ok (.iload_n 3, 1) := by decide +kernel
theorem dL_law_472 : decode cL_law 472 = .ok (.iconst 1, 1) := by decide +kernel
theorem dL_law_473 : decode cL_law 473 = .ok (.iadd, 1) := by decide +kernel
theorem dL_law_474 : decode cL_law 474 = .ok (.iaload, 1) := by decide +kernel
theorem dL_law_475 : decode cL_law 475 = .ok (.invokevirtual 52, 3) := by decide +kernel
theorem dL_law_478 : decode cL_law 478 = .ok (.if_icmp .eq 772, 3) := by decide +kernel
theorem dL_law_481 : decode cL_law 481 = .ok (.iconst 0, 1) := by decide +kernel
theorem dL_law_482 : decode cL_law 482 = .ok (.ireturn, 1) := by decide +kernel
theorem dL_law_483 : decode cL_law 483 = .ok (.aload_n 1, 1) := by decide +kernel
theorem dL_law_484 : decode cL_law 484 = .ok (.aload_n 0, 1) := by decide +kernel
theorem dL_law_485 : decode cL_law 485 = .ok (.iload_n 3, 1) := by decide +kernel
theorem dL_law_486 : decode cL_law 486 = .ok (.iconst 1, 1) := by decide +kernel
theorem dL_law_487 : decode cL_law 487 = .ok (.iadd, 1) := by decide +kernel
theorem dL_law_488 : decode cL_law 488 = .ok (.iaload, 1) := by decide +kernel
theorem dL_law_489 : decode cL_law 489 = .ok (.aload_n 0, 1) := by decide +kernel
theorem dL_law_490 : decode cL_law 490 = .ok (.iload_n 3, 1) := by decide +kernel
theorem dL_law_491 : decode cL_law 491 = .ok (.iconst 2, 1) := by decide +kernel
theorem dL_law_492 : decode cL_law 492 = .ok (.iadd, 1) := by decide +kernel
theorem dL_law_493 : decode cL_law 493 = .ok (.iaload, 1) := by decide +kernel
theorem dL_law_494 : decode cL_law 494 = .ok (.invokevirtual 53, 3) := by decide +kernel
theorem dL_law_497 : decode cL_law 497 = .ok (.aload_n 2, 1) := by decide +kernel
theorem dL_law_498 : decode cL_law 498 = .ok (.aload_n 0, 1) := by decide +kernel
theorem dL_law_499 : decode cL_law 499 = .ok (.iload_n 3, 1) := by decide +kernel
theorem dL_law_500 : decode cL_law 500 = .ok (.iconst 1, 1) := by decide +kernel
theorem dL_law_501 : decode cL_law 501 = .ok (.iadd, 1) := by decide +kernel
theorem dL_law_502 : decode cL_law 502 = .ok (.iaload, 1) := by decide +kernel
theorem dL_law_503 : decode cL_law 503 = .ok (.aload_n 0, 1) := by decide +kernel
theorem dL_law_504 : decode cL_law 504 = .ok (.iload_n 3, 1) := by decide +kernel
theorem dL_law_505 : decode cL_law 505 = .ok (.iconst 2, 1) := by decide +kernel
theorem dL_law_506 : decode cL_law 506 = .ok (.iadd, 1) := by decide +kernel
theorem dL_law_507 : decode cL_law 507 = .ok (.iaload, 1) := by decide +kernel
theorem dL_law_508 : decode cL_law 508 = .ok (.invokevirtual 57, 3) := by decide +kernel
theorem dL_law_511 : decode cL_law 511 = .ok (.lcmp, 1) := by decide +kernel
theorem dL_law_512 : decode cL_law 512 = .ok (.ifCond .eq 738, 3) := by decide +kernel
theorem dL_law_515 : decode cL_law 515 = .ok (.iconst 0, 1) := by decide +kernel
theorem dL_law_516 : decode cL_law 516 = .ok (.ireturn, 1) := by decide +kernel
theorem dL_law_517 : decode cL_law 517 = .ok (.aload_n 1, 1) := by decide +kernel
theorem dL_law_518 : decode cL_law 518 = .ok (.aload_n 0, 1) := by decide +kernel
theorem dL_law_519 : decode cL_law 519 = .ok (.iload_n 3, 1) := by decide +kernel
theorem dL_law_520 : decode cL_law 520 = .ok (.iconst 1, 1) := by decide +kernel
theorem dL_law_521 : decode cL_law 521 = .ok (.iadd, 1) := by decide +kernel
theorem dL_law_522 : decode cL_law 522 = .ok (.iaload, 1) := by decide +kernel
theorem dL_law_523 : decode cL_law 523 = .ok (.aload_n 0, 1) := by decide +kernel
theorem dL_law_524 : decode cL_law 524 = .ok (.iload_n 3, 1) := by decide +kernel
theorem dL_law_525 : decode cL_law 525 = .ok (.iconst 2, 1) := by decide +kernel
theorem dL_law_526 : decode cL_law 526 = .ok (.iadd, 1) := by decide +kernel
theorem dL_law_527 : decode cL_law 527 = .ok (.iaload, 1) := by decide +kernel
theorem dL_law_528 : decode cL_law 528 = .ok (.aload_n 0, 1) := by decide +kernel
theorem dL_law_529 : decode cL_law 529 = .ok (.iload_n 3, 1) := by decide +kernel
theorem dL_law_530 : decode cL_law 530 = .ok (.iconst 3, 1) := by decide +kernel
theorem dL_law_531 : decode cL_law 531 = .ok (.iadd, 1) := by decide +kernel
theorem dL_law_532 : decode cL_law 532 = .ok (.iaload, 1) := by decide +kernel
theorem dL_law_533 : decode cL_law 533 = .ok (.aload_n 0, 1) := by decide +kernel
theorem dL_law_534 : decode cL_law 534 = .ok (.iload_n 3, 1) := by decide +kernel
theorem dL_law_535 : decode cL_law 535 = .ok (.iconst 4, 1) := by decide +kernel
theorem dL_law_536 : decode cL_law 536 = .ok (.iadd, 1) := by decide +kernel
theorem dL_law_537 : decode cL_law 537 = .ok (.iaload, 1) := by decide +kernel
theorem dL_law_538 : decode cL_law 538 = .ok (.aload_n 0, 1) := by decide +kernel
theorem dL_law_539 : decode cL_law 539 = .ok (.iload_n 3, 1) := by decide +kernel
theorem dL_law_540 : decode cL_law 540 = .ok (.iconst 5, 1) := by decide +kernel
theorem dL_law_541 : decode cL_law 541 = .ok (.iadd, 1) := by decide +kernel
theorem dL_law_542 : decode cL_law 542 = .ok (.iaload, 1) := by decide +kernel
theorem dL_law_543 : decode cL_law 543 = .ok (.invokevirtual 58, 3) := by decide +kernel
theorem dL_law_546 : decode cL_law 546 = .ok (.aload_n 2, 1) := by decide +kernel
theorem dL_law_547 : decode cL_law 547 = .ok (.aload_n 0, 1) := by decide +kernel
theorem dL_law_548 : decode cL_law 548 = .ok (.iload_n 3, 1) := by decide +kernel
theorem dL_law_549 : decode cL_law 549 = .ok (.iconst 1, 1) := by decide +kernel
theorem dL_law_550 : decode cL_law 550 = .ok (.iadd, 1) := by decide +kernel
theorem dL_law_551 : decode cL_law 551 = .ok (.iaload, 1) := by decide +kernel
theorem dL_law_552 : decode cL_law 552 = .ok (.aload_n 0, 1) := by decide +kernel
theorem dL_law_553 : decode cL_law 553 = .ok (.iload_n 3, 1) := by decide +kernel
theorem dL_law_554 : decode cL_law 554 = .ok (.iconst 2, 1) := by decide +kernel
theorem dL_law_555 : decode cL_law 555 = .ok (.iadd, 1) := by decide +kernel
theorem dL_law_556 : decode cL_law 556 = .ok (.iaload, 1) := by decide +kernel
theorem dL_law_557 : decode cL_law 557 = .ok (.aload_n 0, 1) := by decide +kernel
theorem dL_law_558 : decode cL_law 558 = .ok (.iload_n 3, 1) := by decide +kernel
theorem dL_law_559 : decode cL_law 559 = .ok (.iconst 3, 1) := by decide +kernel
theorem dL_law_560 : decode cL_law 560 = .ok (.iadd, 1) := by decide +kernel
theorem dL_law_561 : decode cL_law 561 = .ok (.iaload, 1) := by decide +kernel
theorem dL_law_562 : decode cL_law 562 = .ok (.aload_n 0, 1) := by decide +kernel
theorem dL_law_563 : decode cL_law 563 = .ok (.iload_n 3, 1) := by decide +kernel
theorem dL_law_564 : decode cL_law 564 = .ok (.iconst 4, 1) := by decide +kernel
theorem dL_law_565 : decode cL_law 565 = .ok (.iadd, 1) := by decide +kernel
theorem dL_law_566 : decode cL_law 566 = .ok (.iaload, 1) := by decide +kernel
theorem dL_law_567 : decode cL_law 567 = .ok (.aload_n 0, 1) := by decide +kernel
theorem dL_law_568 : decode cL_law 568 = .ok (.iload_n 3, 1) := by decide +kernel
theorem dL_law_569 : decode cL_law 569 = .ok (.iconst 5, 1) := by decide +kernel
theorem dL_law_570 : decode cL_law 570 = .ok (.iadd, 1) := by decide +kernel
theorem dL_law_571 : decode cL_law 571 = .ok (.iaload, 1) := by decide +kernel
theorem dL_law_572 : decode cL_law 572 = .ok (.invokevirtual 62, 3) := by decide +kernel
theorem dL_law_575 : decode cL_law 575 = .ok (.lcmp, 1) := by decide +kernel
theorem dL_law_576 : decode cL_law 576 = .ok (.ifCond .eq 674, 3) := by decide +kernel
theorem dL_law_579 : decode cL_law 579 = .ok (.iconst 0, 1) := by decide +kernel
theorem dL_law_580 : decode cL_law 580 = .ok (.ireturn, 1) := by decide +kernel
theorem dL_law_581 : decode cL_law 581 = .ok (.aload_n 1, 1) := by decide +kernel
theorem dL_law_582 : decode cL_law 582 = .ok (.aload_n 0, 1) := by decide +kernel
theorem dL_law_583 : decode cL_law 583 = .ok (.iload_n 3, 1) := by decide +kernel
theorem dL_law_584 : decode cL_law 584 = .ok (.iconst 1, 1) := by decide +kernel
theorem dL_law_585 : decode cL_law 585 = .ok (.iadd, 1) := by decide +kernel
theorem dL_law_586 : decode cL_law 586 = .ok (.iaload, 1) := by decide +kernel
theorem dL_law_587 : decode cL_law 587 = .ok (.aload_n 0, 1) := by decide +kernel
theorem dL_law_588 : decode cL_law 588 = .ok (.iload_n 3, 1) := by decide +kernel
theorem dL_law_589 : decode cL_law 589 = .ok (.iconst 2, 1) := by decide +kernel
theorem dL_law_590 : decode cL_law 590 = .ok (.iadd, 1) := by decide +kernel
theorem dL_law_591 : decode cL_law 591 = .ok (.iaload, 1) := by decide +kernel
theorem dL_law_592 : decode cL_law 592 = .ok (.aload_n 0, 1) := by decide +kernel
theorem dL_law_593 : decode cL_law 593 = .ok (.iload_n 3, 1) := by decide +kernel
theorem dL_law_594 : decode cL_law 594 = .ok (.iconst 3, 1) := by decide +kernel
theorem dL_law_595 : decode cL_law 595 = .ok (.iadd, 1) := by decide +kernel
theorem dL_law_596 : decode cL_law 596 = .ok (.iaload, 1) := by decide +kernel
theorem dL_law_597 : decode cL_law 597 = .ok (.aload_n 0, 1) := by decide +kernel
theorem dL_law_598 : decode cL_law 598 = .ok (.iload_n 3, 1) := by decide +kernel
theorem dL_law_599 : decode cL_law 599 = .ok (.iconst 4, 1) := by decide +kernel
theorem dL_law_600 : decode cL_law 600 = .ok (.iadd, 1) := by decide +kernel
theorem dL_law_601 : decode cL_law 601 = .ok (.iaload, 1) := by decide +kernel
theorem dL_law_602 : decode cL_law 602 = .ok (.invokevirtual 63, 3) := by decide +kernel
theorem dL_law_605 : decode cL_law 605 = .ok (.aload_n 2, 1) := by decide +kernel
theorem dL_law_606 : decode cL_law 606 = .ok (.aload_n 0, 1) := by decide +kernel
theorem dL_law_607 : decode cL_law 607 = .ok (.iload_n 3, 1) := by decide +kernel
theorem dL_law_608 : decode cL_law 608 = .ok (.iconst 1, 1) := by decide +kernel
theorem dL_law_609 : decode cL_law 609 = .ok (.iadd, 1) := by decide +kernel
theorem dL_law_610 : decode cL_law 610 = .ok (.iaload, 1) := by decide +kernel
theorem dL_law_611 : decode cL_law 611 = .ok (.aload_n 0, 1) := by decide +kernel
theorem dL_law_612 : decode cL_law 612 = .ok (.iload_n 3, 1) := by decide +kernel
theorem dL_law_613 : decode cL_law 613 = .ok (.iconst 2, 1) := by decide +kernel
theorem dL_law_614 : decode cL_law 614 = .ok (.iadd, 1) := by decide +kernel
theorem dL_law_615 : decode cL_law 615 = .ok (.iaload, 1) := by decide +kernel
theorem dL_law_616 : decode cL_law 616 = .ok (.aload_n 0, 1) := by decide +kernel
theorem dL_law_617 : decode cL_law 617 = .ok (.iload_n 3, 1) := by decide +kernel
theorem dL_law_618 : decode cL_law 618 = .ok (.iconst 3, 1) := by decide +kernel
theorem dL_law_619 : decode cL_law 619 = .ok (.iadd, 1) := by decide +kernel
theorem dL_law_620 : decode cL_law 620 = .ok (.iaload, 1) := by decide +kernel
theorem dL_law_621 : decode cL_law 621 = .ok (.aload_n 0, 1) := by decide +kernel
theorem dL_law_622 : decode cL_law 622 = .ok (.iload_n 3, 1) := by decide +kernel
theorem dL_law_623 : decode cL_law 623 = .ok (.iconst 4, 1) := by decide +kernel
theorem dL_law_624 : decode cL_law 624 = .ok (.iadd, 1) := by decide +kernel
theorem dL_law_625 : decode cL_law 625 = .ok (.iaload, 1) := by decide +kernel
theorem dL_law_626 : decode cL_law 626 = .ok (.invokevirtual 66, 3) := by decide +kernel
theorem dL_law_629 : decode cL_law 629 = .ok (.if_icmp .eq 621, 3) := by decide +kernel
theorem dL_law_632 : decode cL_law 632 = .ok (.iconst 0, 1) := by decide +kernel
theorem dL_law_633 : decode cL_law 633 = .ok (.ireturn, 1) := by decide +kernel
theorem dL_law_634 : decode cL_law 634 = .ok (.aload_n 1, 1) := by decide +kernel
theorem dL_law_635 : decode cL_law 635 = .ok (.aload_n 0, 1) := by decide +kernel
theorem dL_law_636 : decode cL_law 636 = .ok (.iload_n 3, 1) := by decide +kernel
theorem dL_law_637 : decode cL_law 637 = .ok (.iconst 1, 1) := by decide +kernel
theorem dL_law_638 : decode cL_law 638 = .ok (.iadd, 1) := by decide +kernel
theorem dL_law_639 : decode cL_law 639 = .ok (.iaload, 1) := by decide +kernel
theorem dL_law_640 : decode cL_law 640 = .ok (.invokevirtual 67, 3) := by decide +kernel
theorem dL_law_643 : decode cL_law 643 = .ok (.aload_n 2, 1) := by decide +kernel
theorem dL_law_644 : decode cL_law 644 = .ok (.aload_n 0, 1) := by decide +kernel
theorem dL_law_645 : decode cL_law 645 = .ok (.iload_n 3, 1) := by decide +kernel
theorem dL_law_646 : decode cL_law 646 = .ok (.iconst 1, 1) := by decide +kernel
theorem dL_law_647 : decode cL_law 647 = .ok (.iadd, 1) := by decide +kernel
theorem dL_law_648 : decode cL_law 648 = .ok (.iaload, 1) := by decide +kernel
theorem dL_law_649 : decode cL_law 649 = .ok (.invokevirtual 70, 3) := by decide +kernel
theorem dL_law_652 : decode cL_law 652 = .ok (.if_icmp .eq 598, 3) := by decide +kernel
theorem dL_law_655 : decode cL_law 655 = .ok (.iconst 0, 1) := by decide +kernel
theorem dL_law_656 : decode cL_law 656 = .ok (.ireturn, 1) := by decide +kernel
theorem dL_law_657 : decode cL_law 657 = .ok (.aload_n 1, 1) := by decide +kernel
theorem dL_law_658 : decode cL_law 658 = .ok (.invokevirtual 71, 3) := by decide +kernel
theorem dL_law_661 : decode cL_law 661 = .ok (.aload_n 2, 1) := by decide +kernel
theorem dL_law_662 : decode cL_law 662 = .ok (.invokevirtual 75, 3) := by decide +kernel
theorem dL_law_665 : decode cL_law 665 = .ok (.if_icmp .eq 585, 3) := by decide +kernel
theorem dL_law_668 : decode cL_law 668 = .ok (.iconst 0, 1) := by decide +kernel
theorem dL_law_669 : decode cL_law 669 = .ok (.ireturn, 1) := by decide +kernel
theorem dL_law_670 : decode cL_law 670 = .ok (.aload_n 1, 1) := by decide +kernel
theorem dL_law_671 : decode cL_law 671 = .ok (.aload_n 0, 1) := by decide +kernel
theorem dL_law_672 : decode cL_law 672 = .ok (.iload_n 3, 1) := by decide +kernel
theorem dL_law_673 : decode cL_law 673 = .ok (.iconst 1, 1) := by decide +kernel
theorem dL_law_674 : decode cL_law 674 = .ok (.iadd, 1) := by decide +kernel
theorem dL_law_675 : decode cL_law 675 = .ok (.iaload, 1) := by decide +kernel
theorem dL_law_676 : decode cL_law 676 = .ok (.aload_n 0, 1) := by decide +kernel
theorem dL_law_677 : decode cL_law 677 = .ok (.iload_n 3, 1) := by decide +kernel
theorem dL_law_678 : decode cL_law 678 = .ok (.iconst 2, 1) := by decide +kernel
theorem dL_law_679 : decode cL_law 679 = .ok (.iadd, 1) := by decide +kernel
theorem dL_law_680 : decode cL_law 680 = .ok (.iaload, 1) := by decide +kernel
theorem dL_law_681 : decode cL_law 681 = .ok (.aload_n 0, 1) := by decide +kernel
theorem dL_law_682 : decode cL_law 682 = .ok (.iload_n 3, 1) := by decide +kernel
theorem dL_law_683 : decode cL_law 683 = .ok (.iconst 3, 1) := by decide +kernel
theorem dL_law_684 : decode cL_law 684 = .ok (.iadd, 1) := by decide +kernel
theorem dL_law_685 : decode cL_law 685 = .ok (.iaload, 1) := by decide +kernel
theorem dL_law_686 : decode cL_law 686 = .ok (.aload_n 0, 1) := by decide +kernel
theorem dL_law_687 : decode cL_law 687 = .ok (.iload_n 3, 1) := by decide +kernel
theorem dL_law_688 : decode cL_law 688 = .ok (.iconst 4, 1) := by decide +kernel
theorem dL_law_689 : decode cL_law 689 = .ok (.iadd, 1) := by decide +kernel
theorem dL_law_690 : decode cL_law 690 = .ok (.iaload, 1) := by decide +kernel
theorem dL_law_691 : decode cL_law 691 = .ok (.aload_n 0, 1) := by decide +kernel
theorem dL_law_692 : decode cL_law 692 = .ok (.iload_n 3, 1) := by decide +kernel
theorem dL_law_693 : decode cL_law 693 = .ok (.iconst 5, 1) := by decide +kernel
theorem dL_law_694 : decode cL_law 694 = .ok (.iadd, 1) := by decide +kernel
theorem dL_law_695 : decode cL_law 695 = .ok (.iaload, 1) := by decide +kernel
theorem dL_law_696 : decode cL_law 696 = .ok (.invokevirtual 76, 3) := by decide +kernel
theorem dL_law_699 : decode cL_law 699 = .ok (.aload_n 2, 1) := by decide +kernel
theorem dL_law_700 : decode cL_law 700 = .ok (.aload_n 0, 1) := by decide +kernel
theorem dL_law_701 : decode cL_law 701 = .ok (.iload_n 3, 1) := by decide +kernel
theorem dL_law_702 : decode cL_law 702 = .ok (.iconst 1, 1) := by decide +kernel
theorem dL_law_703 : decode cL_law 703 = .ok (.iadd, 1) := by decide +kernel
theorem dL_law_704 : decode cL_law 704 = .ok (.iaload, 1) := by decide +kernel
theorem dL_law_705 : decode cL_law 705 = .ok (.aload_n 0, 1) := by decide +kernel
theorem dL_law_706 : decode cL_law 706 = .ok (.iload_n 3, 1) := by decide +kernel
theorem dL_law_707 : decode cL_law 707 = .ok (.iconst 2, 1) := by decide +kernel
theorem dL_law_708 : decode cL_law 708 = .ok (.iadd, 1) := by decide +kernel
theorem dL_law_709 : decode cL_law 709 = .ok (.iaload, 1) := by decide +kernel
theorem dL_law_710 : decode cL_law 710 = .ok (.aload_n 0, 1) := by decide +kernel
theorem dL_law_711 : decode cL_law 711 = .ok (.iload_n 3, 1) := by decide +kernel
theorem dL_law_712 : decode cL_law 712 = .ok (.iconst 3, 1) := by decide +kernel
theorem dL_law_713 : decode cL_law 713 = .ok (.iadd, 1) := by decide +kernel
theorem dL_law_714 : decode cL_law 714 = .ok (.iaload, 1) := by decide +kernel
theorem dL_law_715 : decode cL_law 715 = .ok (.aload_n 0, 1) := by decide +kernel
theorem dL_law_716 : decode cL_law 716 = .ok (.iload_n 3, 1) := by decide +kernel
theorem dL_law_717 : decode cL_law 717 = .ok (.iconst 4, 1) := by decide +kernel
theorem dL_law_718 : decode cL_law 718 = .ok (.iadd, 1) := by decide +kernel
theorem dL_law_719 : decode cL_law 719 = .ok (.iaload, 1) := by decide +kernel
theorem dL_law_720 : decode cL_law 720 = .ok (.aload_n 0, 1) := by decide +kernel
theorem dL_law_721 : decode cL_law 721 = .ok (.iload_n 3, 1) := by decide +kernel
theorem dL_law_722 : decode cL_law 722 = .ok (.iconst 5, 1) := by decide +kernel
theorem dL_law_723 : decode cL_law 723 = .ok (.iadd, 1) := by decide +kernel
theorem dL_law_724 : decode cL_law 724 = .ok (.iaload, 1) := by decide +kernel
theorem dL_law_725 : decode cL_law 725 = .ok (.invokevirtual 79, 3) := by decide +kernel
theorem dL_law_728 : decode cL_law 728 = .ok (.lcmp, 1) := by decide +kernel
theorem dL_law_729 : decode cL_law 729 = .ok (.ifCond .eq 521, 3) := by decide +kernel
theorem dL_law_732 : decode cL_law 732 = .ok (.iconst 0, 1) := by decide +kernel
theorem dL_law_733 : decode cL_law 733 = .ok (.ireturn, 1) := by decide +kernel
theorem dL_law_734 : decode cL_law 734 = .ok (.aload_n 1, 1) := by decide +kernel
theorem dL_law_735 : decode cL_law 735 = .ok (.aload_n 0, 1) := by decide +kernel
theorem dL_law_736 : decode cL_law 736 = .ok (.iload_n 3, 1) := by decide +kernel
theorem dL_law_737 : decode cL_law 737 = .ok (.iconst 1, 1) := by decide +kernel
theorem dL_law_738 : decode cL_law 738 = .ok (.iadd, 1) := by decide +kernel
theorem dL_law_739 : decode cL_law 739 = .ok (.iaload, 1) := by decide +kernel
theorem dL_law_740 : decode cL_law 740 = .ok (.aload_n 0, 1) := by decide +kernel
theorem dL_law_741 : decode cL_law 741 = .ok (.iload_n 3, 1) := by decide +kernel
theorem dL_law_742 : decode cL_law 742 = .ok (.iconst 2, 1) := by decide +kernel
theorem dL_law_743 : decode cL_law 743 = .ok (.iadd, 1) := by decide +kernel
theorem dL_law_744 : decode cL_law 744 = .ok (.iaload, 1) := by decide +kernel
theorem dL_law_745 : decode cL_law 745 = .ok (.invokevirtual 80, 3) := by decide +kernel
theorem dL_law_748 : decode cL_law 748 = .ok (.aload_n 2, 1) := by decide +kernel
theorem dL_law_749 : decode cL_law 749 = .ok (.aload_n 0, 1) := by decide +kernel
theorem dL_law_750 : decode cL_law 750 = .ok (.iload_n 3, 1) := by decide +kernel
theorem dL_law_751 : decode cL_law 751 = .ok (.iconst 1, 1) := by decide +kernel
theorem dL_law_752 : decode cL_law 752 = .ok (.iadd, 1) := by decide +kernel
theorem dL_law_753 : decode cL_law 753 = .ok (.iaload, 1) := by decide +kernel
theorem dL_law_754 : decode cL_law 754 = .ok (.aload_n 0, 1) := by decide +kernel
theorem dL_law_755 : decode cL_law 755 = .ok (.iload_n 3, 1) := by decide +kernel
theorem dL_law_756 : decode cL_law 756 = .ok (.iconst 2, 1) := by decide +kernel
theorem dL_law_757 : decode cL_law 757 = .ok (.iadd, 1) := by decide +kernel
theorem dL_law_758 : decode cL_law 758 = .ok (.iaload, 1) := by decide +kernel
theorem dL_law_759 : decode cL_law 759 = .ok (.invokevirtual 83, 3) := by decide +kernel
theorem dL_law_762 : decode cL_law 762 = .ok (.if_icmp .eq 488, 3) := by decide +kernel
theorem dL_law_765 : decode cL_law 765 = .ok (.iconst 0, 1) := by decide +kernel
theorem dL_law_766 : decode cL_law 766 = .ok (.ireturn, 1) := by decide +kernel
theorem dL_law_767 : decode cL_law 767 = .ok (.aload_n 1, 1) := by decide +kernel
theorem dL_law_768 : decode cL_law 768 = .ok (.aload_n 0, 1) := by decide +kernel
theorem dL_law_769 : decode cL_law 769 = .ok (.iload_n 3, 1) := by decide +kernel
theorem dL_law_770 : decode cL_law 770 = .ok (.iconst 1, 1) := by decide +kernel
theorem dL_law_771 : decode cL_law 771 = .ok (.iadd, 1) := by decide +kernel
theorem dL_law_772 : decode cL_law 772 = .ok (.iaload, 1) := by decide +kernel
theorem dL_law_773 : decode cL_law 773 = .ok (.invokevirtual 84, 3) := by decide +kernel
theorem dL_law_776 : decode cL_law 776 = .ok (.aload_n 2, 1) := by decide +kernel
theorem dL_law_777 : decode cL_law 777 = .ok (.aload_n 0, 1) := by decide +kernel
theorem dL_law_778 : decode cL_law 778 = .ok (.iload_n 3, 1) := by decide +kernel
theorem dL_law_779 : decode cL_law 779 = .ok (.iconst 1, 1) := by decide +kernel
theorem dL_law_780 : decode cL_law 780 = .ok (.iadd, 1) := by decide +kernel
theorem dL_law_781 : decode cL_law 781 = .ok (.iaload, 1) := by decide +kernel
theorem dL_law_782 : decode cL_law 782 = .ok (.invokevirtual 87, 3) := by decide +kernel
theorem dL_law_785 : decode cL_law 785 = .ok (.if_icmp .eq 465, 3) := by decide +kernel
theorem dL_law_788 : decode cL_law 788 = .ok (.iconst 0, 1) := by decide +kernel
theorem dL_law_789 : decode cL_law 789 = .ok (.ireturn, 1) := by decide +kernel
theorem dL_law_790 : decode cL_law 790 = .ok (.aload_n 1, 1) := by decide +kernel
theorem dL_law_791 : decode cL_law 791 = .ok (.aload_n 0, 1) := by decide +kernel
theorem dL_law_792 : decode cL_law 792 = .ok (.iload_n 3, 1) := by decide +kernel
theorem dL_law_793 : decode cL_law 793 = .ok (.iconst 1, 1) := by decide +kernel
theorem dL_law_794 : decode cL_law 794 = .ok (.iadd, 1) := by decide +kernel
theorem dL_law_795 : decode cL_law 795 = .ok (.iaload, 1) := by decide +kernel
theorem dL_law_796 : decode cL_law 796 = .ok (.invokevirtual 88, 3) := by decide +kernel
theorem dL_law_799 : decode cL_law 799 = .ok (.aload_n 2, 1) := by decide +kernel
theorem dL_law_800 : decode cL_law 800 = .ok (.aload_n 0, 1) := by decide +kernel
theorem dL_law_801 : decode cL_law 801 = .ok (.iload_n 3, 1) := by decide +kernel
theorem dL_law_802 : decode cL_law 802 = .ok (.iconst 1, 1) := by decide +kernel
theorem dL_law_803 : decode cL_law 803 = .ok (.iadd, 1) := by decide +kernel
theorem dL_law_804 : decode cL_law 804 = .ok (.iaload, 1) := by decide +kernel
theorem dL_law_805 : decode cL_law 805 = .ok (.invokevirtual 91, 3) := by decide +kernel
theorem dL_law_808 : decode cL_law 808 = .ok (.if_icmp .eq 442, 3) := by decide +kernel
theorem dL_law_811 : decode cL_law 811 = .ok (.iconst 0, 1) := by decide +kernel
theorem dL_law_812 : decode cL_law 812 = .ok (.ireturn, 1) := by decide +kernel
theorem dL_law_813 : decode cL_law 813 = .ok (.aload_n 1, 1) := by decide +kernel
theorem dL_law_814 : decode cL_law 814 = .ok (.invokevirtual 92, 3) := by decide +kernel
theorem dL_law_817 : decode cL_law 817 = .ok (.aload_n 2, 1) := by decide +kernel
theorem dL_law_818 : decode cL_law 818 = .ok (.invokevirtual 95, 3) := by decide +kernel
theorem dL_law_821 : decode cL_law 821 = .ok (.if_icmp .eq 429, 3) := by decide +kernel
theorem dL_law_824 : decode cL_law 824 = .ok (.iconst 0, 1) := by decide +kernel
theorem dL_law_825 : decode cL_law 825 = .ok (.ireturn, 1) := by decide +kernel
theorem dL_law_826 : decode cL_law 826 = .ok (.aload_n 1, 1) := by decide +kernel
theorem dL_law_827 : decode cL_law 827 = .ok (.invokevirtual 96, 3) := by decide +kernel
theorem dL_law_830 : decode cL_law 830 = .ok (.aload_n 2, 1) := by decide +kernel
theorem dL_law_831 : decode cL_law 831 = .ok (.invokevirtual 99, 3) := by decide +kernel
theorem dL_law_834 : decode cL_law 834 = .ok (.if_icmp .eq 416, 3) := by decide +kernel
theorem dL_law_837 : decode cL_law 837 = .ok (.iconst 0, 1) := by decide +kernel
theorem dL_law_838 : decode cL_law 838 = .ok (.ireturn, 1) := by decide +kernel
theorem dL_law_839 : decode cL_law 839 = .ok (.aload_n 1, 1) := by decide +kernel
theorem dL_law_840 : decode cL_law 840 = .ok (.aload_n 0, 1) := by decide +kernel
theorem dL_law_841 : decode cL_law 841 = .ok (.iload_n 3, 1) := by decide +kernel
theorem dL_law_842 : decode cL_law 842 = .ok (.iconst 1, 1) := by decide +kernel
theorem dL_law_843 : decode cL_law 843 = .ok (.iadd, 1) := by decide +kernel
theorem dL_law_844 : decode cL_law 844 = .ok (.iaload, 1) := by decide +kernel
theorem dL_law_845 : decode cL_law 845 = .ok (.invokevirtual 100, 3) := by decide +kernel
theorem dL_law_848 : decode cL_law 848 = .ok (.aload_n 2, 1) := by decide +kernel
theorem dL_law_849 : decode cL_law 849 = .ok (.aload_n 0, 1) := by decide +kernel
theorem dL_law_850 : decode cL_law 850 = .ok (.iload_n 3, 1) := by decide +kernel
theorem dL_law_851 : decode cL_law 851 = .ok (.iconst 1, 1) := by decide +kernel
theorem dL_law_852 : decode cL_law 852 = .ok (.iadd, 1) := by decide +kernel
theorem dL_law_853 : decode cL_law 853 = .ok (.iaload, 1) := by decide +kernel
theorem dL_law_854 : decode cL_law 854 = .ok (.invokevirtual 103, 3) := by decide +kernel
theorem dL_law_857 : decode cL_law 857 = .ok (.if_icmp .eq 393, 3) := by decide +kernel
theorem dL_law_860 : decode cL_law 860 = .ok (.iconst 0, 1) := by decide +kernel
theorem dL_law_861 : decode cL_law 861 = .ok (.ireturn, 1) := by decide +kernel
theorem dL_law_862 : decode cL_law 862 = .ok (.aload_n 1, 1) := by decide +kernel
theorem dL_law_863 : decode cL_law 863 = .ok (.aload_n 0, 1) := by decide +kernel
theorem dL_law_864 : decode cL_law 864 = .ok (.iload_n 3, 1) := by decide +kernel
theorem dL_law_865 : decode cL_law 865 = .ok (.iconst 1, 1) := by decide +kernel
theorem dL_law_866 : decode cL_law 866 = .ok (.iadd, 1) := by decide +kernel
theorem dL_law_867 : decode cL_law 867 = .ok (.iaload, 1) := by decide +kernel
theorem dL_law_868 : decode cL_law 868 = .ok (.aload_n 0, 1) := by decide +kernel
theorem dL_law_869 : decode cL_law 869 = .ok (.iload_n 3, 1) := by decide +kernel
theorem dL_law_870 : decode cL_law 870 = .ok (.iconst 2, 1) := by decide +kernel
theorem dL_law_871 : decode cL_law 871 = .ok (.iadd, 1) := by decide +kernel
theorem dL_law_872 : decode cL_law 872 = .ok (.iaload, 1) := by decide +kernel
theorem dL_law_873 : decode cL_law 873 = .ok (.aload_n 0, 1) := by decide +kernel
theorem dL_law_874 : decode cL_law 874 = .ok (.iload_n 3, 1) := by decide +kernel
theorem dL_law_875 : decode cL_law 875 = .ok (.iconst 3, 1) := by decide +kernel
theorem dL_law_876 : decode cL_law 876 = .ok (.iadd, 1) := by decide +kernel
theorem dL_law_877 : decode cL_law 877 = .ok (.iaload, 1) := by decide +kernel
theorem dL_law_878 : decode cL_law 878 = .ok (.invokevirtual 104, 3) := by decide +kernel
theorem dL_law_881 : decode cL_law 881 = .ok (.aload_n 2, 1) := by decide +kernel
theorem dL_law_882 : decode cL_law 882 = .ok (.aload_n 0, 1) := by decide +kernel
theorem dL_law_883 : decode cL_law 883 = .ok (.iload_n 3, 1) := by decide +kernel
theorem dL_law_884 : decode cL_law 884 = .ok (.iconst 1, 1) := by decide +kernel
theorem dL_law_885 : decode cL_law 885 = .ok (.iadd, 1) := by decide +kernel
theorem dL_law_886 : decode cL_law 886 = .ok (.iaload, 1) := by decide +kernel
theorem dL_law_887 : decode cL_law 887 = .ok (.aload_n 0, 1) := by decide +kernel
theorem dL_law_888 : decode cL_law 888 = .ok (.iload_n 3, 1) := by decide +kernel
theorem dL_law_889 : decode cL_law 889 = .ok (.iconst 2, 1) := by decide +kernel
theorem dL_law_890 : decode cL_law 890 = .ok (.iadd, 1) := by decide +kernel
theorem dL_law_891 : decode cL_law 891 = .ok (.iaload, 1) := by decide +kernel
theorem dL_law_892 : decode cL_law 892 = .ok (.aload_n 0, 1) := by decide +kernel
theorem dL_law_893 : decode cL_law 893 = .ok (.iload_n 3, 1) := by decide +kernel
theorem dL_law_894 : decode cL_law 894 = .ok (.iconst 3, 1) := by decide +kernel
theorem dL_law_895 : decode cL_law 895 = .ok (.iadd, 1) := by decide +kernel
theorem dL_law_896 : decode cL_law 896 = .ok (.iaload, 1) := by decide +kernel
theorem dL_law_897 : decode cL_law 897 = .ok (.invokevirtual 108, 3) := by decide +kernel
theorem dL_law_900 : decode cL_law 900 = .ok (.lcmp, 1) := by decide +kernel
theorem dL_law_901 : decode cL_law 901 = .ok (.ifCond .eq 349, 3) := by decide +kernel
theorem dL_law_904 : decode cL_law 904 = .ok (.iconst 0, 1) := by decide +kernel
theorem dL_law_905 : decode cL_law 905 = .ok (.ireturn, 1) := by decide +kernel
theorem dL_law_906 : decode cL_law 906 = .ok (.aload_n 1, 1) := by decide +kernel
theorem dL_law_907 : decode cL_law 907 = .ok (.aload_n 0, 1) := by decide +kernel
theorem dL_law_908 : decode cL_law 908 = .ok (.iload_n 3, 1) := by decide +kernel
theorem dL_law_909 : decode cL_law 909 = .ok (.iconst 1, 1) := by decide +kernel
theorem dL_law_910 : decode cL_law 910 = .ok (.iadd, 1) := by decide +kernel
theorem dL_law_911 : decode cL_law 911 = .ok (.iaload, 1) := by decide +kernel
theorem dL_law_912 : decode cL_law 912 = .ok (.aload_n 0, 1) := by decide +kernel
theorem dL_law_913 : decode cL_law 913 = .ok (.iload_n 3, 1) := by decide +kernel
theorem dL_law_914 : decode cL_law 914 = .ok (.iconst 2, 1) := by decide +kernel
theorem dL_law_915 : decode cL_law 915 = .ok (.iadd, 1) := by decide +kernel
theorem dL_law_916 : decode cL_law 916 = .ok (.iaload, 1) := by decide +kernel
theorem dL_law_917 : decode cL_law 917 = .ok (.aload_n 0, 1) := by decide +kernel
theorem dL_law_918 : decode cL_law 918 = .ok (.iload_n 3, 1) := by decide +kernel
theorem dL_law_919 : decode cL_law 919 = .ok (.iconst 3, 1) := by decide +kernel
theorem dL_law_920 : decode cL_law 920 = .ok (.iadd, 1) := by decide +kernel
theorem dL_law_921 : decode cL_law 921 = .ok (.iaload, 1) := by decide +kernel
theorem dL_law_922 : decode cL_law 922 = .ok (.invokevirtual 109, 3) := by decide +kernel
theorem dL_law_925 : decode cL_law 925 = .ok (.aload_n 2, 1) := by decide +kernel
theorem dL_law_926 : decode cL_law 926 = .ok (.aload_n 0, 1) := by decide +kernel
theorem dL_law_927 : decode cL_law 927 = .ok (.iload_n 3, 1) := by decide +kernel
theorem dL_law_928 : decode cL_law 928 = .ok (.iconst 1, 1) := by decide +kernel
theorem dL_law_929 : decode cL_law 929 = .ok (.iadd, 1) := by decide +kernel
theorem dL_law_930 : decode cL_law 930 = .ok (.iaload, 1) := by decide +kernel
theorem dL_law_931 : decode cL_law 931 = .ok (.aload_n 0, 1) := by decide +kernel
theorem dL_law_932 : decode cL_law 932 = .ok (.iload_n 3, 1) := by decide +kernel
theorem dL_law_933 : decode cL_law 933 = .ok (.iconst 2, 1) := by decide +kernel
theorem dL_law_934 : decode cL_law 934 = .ok (.iadd, 1) := by decide +kernel
theorem dL_law_935 : decode cL_law 935 = .ok (.iaload, 1) := by decide +kernel
theorem dL_law_936 : decode cL_law 936 = .ok (.aload_n 0, 1) := by decide +kernel
theorem dL_law_937 : decode cL_law 937 = .ok (.iload_n 3, 1) := by decide +kernel
theorem dL_law_938 : decode cL_law 938 = .ok (.iconst 3, 1) := by decide +kernel
theorem dL_law_939 : decode cL_law 939 = .ok (.iadd, 1) := by decide +kernel
theorem dL_law_940 : decode cL_law 940 = .ok (.iaload, 1) := by decide +kernel
theorem dL_law_941 : decode cL_law 941 = .ok (.invokevirtual 113, 3) := by decide +kernel
theorem dL_law_944 : decode cL_law 944 = .ok (.if_icmp .eq 306, 3) := by decide +kernel
theorem dL_law_947 : decode cL_law 947 = .ok (.iconst 0, 1) := by decide +kernel
theorem dL_law_948 : decode cL_law 948 = .ok (.ireturn, 1) := by decide +kernel
theorem dL_law_949 : decode cL_law 949 = .ok (.aload_n 1, 1) := by decide +kernel
theorem dL_law_950 : decode cL_law 950 = .ok (.aload_n 0, 1) := by decide +kernel
theorem dL_law_951 : decode cL_law 951 = .ok (.iload_n 3, 1) := by decide +kernel
theorem dL_law_952 : decode cL_law 952 = .ok (.iconst 1, 1) := by decide +kernel
theorem dL_law_953 : decode cL_law 953 = .ok (.iadd, 1) := by decide +kernel
theorem dL_law_954 : decode cL_law 954 = .ok (.iaload, 1) := by decide +kernel
theorem dL_law_955 : decode cL_law 955 = .ok (.invokevirtual 114, 3) := by decide +kernel
theorem dL_law_958 : decode cL_law 958 = .ok (.aload_n 2, 1) := by decide +kernel
theorem dL_law_959 : decode cL_law 959 = .ok (.aload_n 0, 1) := by decide +kernel
theorem dL_law_960 : decode cL_law 960 = .ok (.iload_n 3, 1) := by decide +kernel
theorem dL_law_961 : decode cL_law 961 = .ok (.iconst 1, 1) := by decide +kernel
theorem dL_law_962 : decode cL_law 962 = .ok (.iadd, 1) := by decide +kernel
theorem dL_law_963 : decode cL_law 963 = .ok (.iaload, 1) := by decide +kernel
theorem dL_law_964 : decode cL_law 964 = .ok (.invokevirtual 117, 3) := by decide +kernel
theorem dL_law_967 : decode cL_law 967 = .ok (.if_icmp .eq 283, 3) := by decide +kernel
theorem dL_law_970 : decode cL_law 970 = .ok (.iconst 0, 1) := by decide +kernel
theorem dL_law_971 : decode cL_law 971 = .ok (.ireturn, 1) := by decide +kernel
theorem dL_law_972 : decode cL_law 972 = .ok (.aload_n 1, 1) := by decide +kernel
theorem dL_law_973 : decode cL_law 973 = .ok (.aload_n 0, 1) := by decide +kernel
theorem dL_law_974 : decode cL_law 974 = .ok (.iload_n 3, 1) := by decide +kernel
theorem dL_law_975 : decode cL_law 975 = .ok (.iconst 1, 1) := by decide +kernel
theorem dL_law_976 : decode cL_law 976 = .ok (.iadd, 1) := by decide +kernel
theorem dL_law_977 : decode cL_law 977 = .ok (.iaload, 1) := by decide +kernel
theorem dL_law_978 : decode cL_law 978 = .ok (.aload_n 0, 1) := by decide +kernel
theorem dL_law_979 : decode cL_law 979 = .ok (.iload_n 3, 1) := by decide +kernel
theorem dL_law_980 : decode cL_law 980 = .ok (.iconst 2, 1) := by decide +kernel
theorem dL_law_981 : decode cL_law 981 = .ok (.iadd, 1) := by decide +kernel
theorem dL_law_982 : decode cL_law 982 = .ok (.iaload, 1) := by decide +kernel
theorem dL_law_983 : decode cL_law 983 = .ok (.aload_n 0, 1) := by decide +kernel
theorem dL_law_984 : decode cL_law 984 = .ok (.iload_n 3, 1) := by decide +kernel
theorem dL_law_985 : decode cL_law 985 = .ok (.iconst 3, 1) := by decide +kernel
theorem dL_law_986 : decode cL_law 986 = .ok (.iadd, 1) := by decide +kernel
theorem dL_law_987 : decode cL_law 987 = .ok (.iaload, 1) := by decide +kernel
theorem dL_law_988 : decode cL_law 988 = .ok (.invokevirtual 118, 3) := by decide +kernel
theorem dL_law_991 : decode cL_law 991 = .ok (.aload_n 2, 1) := by decide +kernel
theorem dL_law_992 : decode cL_law 992 = .ok (.aload_n 0, 1) := by decide +kernel
theorem dL_law_993 : decode cL_law 993 = .ok (.iload_n 3, 1) := by decide +kernel
theorem dL_law_994 : decode cL_law 994 = .ok (.iconst 1, 1) := by decide +kernel
theorem dL_law_995 : decode cL_law 995 = .ok (.iadd, 1) := by decide +kernel
theorem dL_law_996 : decode cL_law 996 = .ok (.iaload, 1) := by decide +kernel
theorem dL_law_997 : decode cL_law 997 = .ok (.aload_n 0, 1) := by decide +kernel
theorem dL_law_998 : decode cL_law 998 = .ok (.iload_n 3, 1) := by decide +kernel
theorem dL_law_999 : decode cL_law 999 = .ok (.iconst 2, 1) := by decide +kernel
theorem dL_law_1000 : decode cL_law 1000 = .ok (.iadd, 1) := by decide +kernel
theorem dL_law_1001 : decode cL_law 1001 = .ok (.iaload, 1) := by decide +kernel
theorem dL_law_1002 : decode cL_law 1002 = .ok (.aload_n 0, 1) := by decide +kernel
theorem dL_law_1003 : decode cL_law 1003 = .ok (.iload_n 3, 1) := by decide +kernel
theorem dL_law_1004 : decode cL_law 1004 = .ok (.iconst 3, 1) := by decide +kernel
theorem dL_law_1005 : decode cL_law 1005 = .ok (.iadd, 1) := by decide +kernel
theorem dL_law_1006 : decode cL_law 1006 = .ok (.iaload, 1) := by decide +kernel
theorem dL_law_1007 : decode cL_law 1007 = .ok (.invokevirtual 121, 3) := by decide +kernel
theorem dL_law_1010 : decode cL_law 1010 = .ok (.if_icmp .eq 240, 3) := by decide +kernel
theorem dL_law_1013 : decode cL_law 1013 = .ok (.iconst 0, 1) := by decide +kernel
theorem dL_law_1014 : decode cL_law 1014 = .ok (.ireturn, 1) := by decide +kernel
theorem dL_law_1015 : decode cL_law 1015 = .ok (.aload_n 1, 1) := by decide +kernel
theorem dL_law_1016 : decode cL_law 1016 = .ok (.aload_n 0, 1) := by decide +kernel
theorem dL_law_1017 : decode cL_law 1017 = .ok (.iload_n 3, 1) := by decide +kernel
theorem dL_law_1018 : decode cL_law 1018 = .ok (.iconst 1, 1) := by decide +kernel
theorem dL_law_1019 : decode cL_law 1019 = .ok (.iadd, 1) := by decide +kernel
theorem dL_law_1020 : decode cL_law 1020 = .ok (.iaload, 1) := by decide +kernel
theorem dL_law_1021 : decode cL_law 1021 = .ok (.aload_n 0, 1) := by decide +kernel
theorem dL_law_1022 : decode cL_law 1022 = .ok (.iload_n 3, 1) := by decide +kernel
theorem dL_law_1023 : decode cL_law 1023 = .ok (.iconst 2, 1) := by decide +kernel
theorem dL_law_1024 : decode cL_law 1024 = .ok (.iadd, 1) := by decide +kernel
theorem dL_law_1025 : decode cL_law 1025 = .ok (.iaload, 1) := by decide +kernel
theorem dL_law_1026 : decode cL_law 1026 = .ok (.aload_n 0, 1) := by decide +kernel
theorem dL_law_1027 : decode cL_law 1027 = .ok (.iload_n 3, 1) := by decide +kernel
theorem dL_law_1028 : decode cL_law 1028 = .ok (.iconst 3, 1) := by decide +kernel
theorem dL_law_1029 : decode cL_law 1029 = .ok (.iadd, 1) := by decide +kernel
theorem dL_law_1030 : decode cL_law 1030 = .ok (.iaload, 1) := by decide +kernel
theorem dL_law_1031 : decode cL_law 1031 = .ok (.invokevirtual 122, 3) := by decide +kernel
theorem dL_law_1034 : decode cL_law 1034 = .ok (.aload_n 2, 1) := by decide +kernel
theorem dL_law_1035 : decode cL_law 1035 = .ok (.aload_n 0, 1) := by decide +kernel
theorem dL_law_1036 : decode cL_law 1036 = .ok (.iload_n 3, 1) := by decide +kernel
theorem dL_law_1037 : decode cL_law 1037 = .ok (.iconst 1, 1) := by decide +kernel
theorem dL_law_1038 : decode cL_law 1038 = .ok (.iadd, 1) := by decide +kernel
theorem dL_law_1039 : decode cL_law 1039 = .ok (.iaload, 1) := by decide +kernel
theorem dL_law_1040 : decode cL_law 1040 = .ok (.aload_n 0, 1) := by decide +kernel
theorem dL_law_1041 : decode cL_law 1041 = .ok (.iload_n 3, 1) := by decide +kernel
theorem dL_law_1042 : decode cL_law 1042 = .ok (.iconst 2, 1) := by decide +kernel
theorem dL_law_1043 : decode cL_law 1043 = .ok (.iadd, 1) := by decide +kernel
theorem dL_law_1044 : decode cL_law 1044 = .ok (.iaload, 1) := by decide +kernel
theorem dL_law_1045 : decode cL_law 1045 = .ok (.aload_n 0, 1) := by decide +kernel
theorem dL_law_1046 : decode cL_law 1046 = .ok (.iload_n 3, 1) := by decide +kernel
theorem dL_law_1047 : decode cL_law 1047 = .ok (.iconst 3, 1) := by decide +kernel
theorem dL_law_1048 : decode cL_law 1048 = .ok (.iadd, 1) := by decide +kernel
theorem dL_law_1049 : decode cL_law 1049 = .ok (.iaload, 1) := by decide +kernel
theorem dL_law_1050 : decode cL_law 1050 = .ok (.invokevirtual 125, 3) := by decide +kernel
theorem dL_law_1053 : decode cL_law 1053 = .ok (.lcmp, 1) := by decide +kernel
theorem dL_law_1054 : decode cL_law 1054 = .ok (.ifCond .eq 196, 3) := by decide +kernel
theorem dL_law_1057 : decode cL_law 1057 = .ok (.iconst 0, 1) := by decide +kernel
theorem dL_law_1058 : decode cL_law 1058 = .ok (.ireturn, 1) := by decide +kernel
theorem dL_law_1059 : decode cL_law 1059 = .ok (.aload_n 1, 1) := by decide +kernel
theorem dL_law_1060 : decode cL_law 1060 = .ok (.aload_n 0, 1) := by decide +kernel
theorem dL_law_1061 : decode cL_law 1061 = .ok (.iload_n 3, 1) := by decide +kernel
theorem dL_law_1062 : decode cL_law 1062 = .ok (.iconst 1, 1) := by decide +kernel
theorem dL_law_1063 : decode cL_law 1063 = .ok (.iadd, 1) := by decide +kernel
theorem dL_law_1064 : decode cL_law 1064 = .ok (.iaload, 1) := by decide +kernel
theorem dL_law_1065 : decode cL_law 1065 = .ok (.aload_n 0, 1) := by decide +kernel
theorem dL_law_1066 : decode cL_law 1066 = .ok (.iload_n 3, 1) := by decide +kernel
theorem dL_law_1067 : decode cL_law 1067 = .ok (.iconst 2, 1) := by decide +kernel
theorem dL_law_1068 : decode cL_law 1068 = .ok (.iadd, 1) := by decide +kernel
theorem dL_law_1069 : decode cL_law 1069 = .ok (.iaload, 1) := by decide +kernel
theorem dL_law_1070 : decode cL_law 1070 = .ok (.aload_n 0, 1) := by decide +kernel
theorem dL_law_1071 : decode cL_law 1071 = .ok (.iload_n 3, 1) := by decide +kernel
theorem dL_law_1072 : decode cL_law 1072 = .ok (.iconst 3, 1) := by decide +kernel
theorem dL_law_1073 : decode cL_law 1073 = .ok (.iadd, 1) := by decide +kernel
theorem dL_law_1074 : decode cL_law 1074 = .ok (.iaload, 1) := by decide +kernel
theorem dL_law_1075 : decode cL_law 1075 = .ok (.aload_n 0, 1) := by decide +kernel
theorem dL_law_1076 : decode cL_law 1076 = .ok (.iload_n 3, 1) := by decide +kernel
theorem dL_law_1077 : decode cL_law 1077 = .ok (.iconst 4, 1) := by decide +kernel
theorem dL_law_1078 : decode cL_law 1078 = .ok (.iadd, 1) := by decide +kernel
theorem dL_law_1079 : decode cL_law 1079 = .ok (.iaload, 1) := by decide +kernel
theorem dL_law_1080 : decode cL_law 1080 = .ok (.aload_n 0, 1) := by decide +kernel
theorem dL_law_1081 : decode cL_law 1081 = .ok (.iload_n 3, 1) := by decide +kernel
theorem dL_law_1082 : decode cL_law 1082 = .ok (.iconst 5, 1) := by decide +kernel
theorem dL_law_1083 : decode cL_law 1083 = .ok (.iadd, 1) := by decide +kernel
theorem dL_law_1084 : decode cL_law 1084 = .ok (.iaload, 1) := by decide +kernel
theorem dL_law_1085 : decode cL_law 1085 = .ok (.invokevirtual 126, 3) := by decide +kernel
theorem dL_law_1088 : decode cL_law 1088 = .ok (.aload_n 2, 1) := by decide +kernel
theorem dL_law_1089 : decode cL_law 1089 = .ok (.aload_n 0, 1) := by decide +kernel
theorem dL_law_1090 : decode cL_law 1090 = .ok (.iload_n 3, 1) := by decide +kernel
theorem dL_law_1091 : decode cL_law 1091 = .ok (.iconst 1, 1) := by decide +kernel
theorem dL_law_1092 : decode cL_law 1092 = .ok (.iadd, 1) := by decide +kernel
theorem dL_law_1093 : decode cL_law 1093 = .ok (.iaload, 1) := by decide +kernel
theorem dL_law_1094 : decode cL_law 1094 = .ok (.aload_n 0, 1) := by decide +kernel
theorem dL_law_1095 : decode cL_law 1095 = .ok (.iload_n 3, 1) := by decide +kernel
theorem dL_law_1096 : decode cL_law 1096 = .ok (.iconst 2, 1) := by decide +kernel
theorem dL_law_1097 : decode cL_law 1097 = .ok (.iadd, 1) := by decide +kernel
theorem dL_law_1098 : decode cL_law 1098 = .ok (.iaload, 1) := by decide +kernel
theorem dL_law_1099 : decode cL_law 1099 = .ok (.aload_n 0, 1) := by decide +kernel
theorem dL_law_1100 : decode cL_law 1100 = .ok (.iload_n 3, 1) := by decide +kernel
theorem dL_law_1101 : decode cL_law 1101 = .ok (.iconst 3, 1) := by decide +kernel
theorem dL_law_1102 : decode cL_law 1102 = .ok (.iadd, 1) := by decide +kernel
theorem dL_law_1103 : decode cL_law 1103 = .ok (.iaload, 1) := by decide +kernel
theorem dL_law_1104 : decode cL_law 1104 = .ok (.aload_n 0, 1) := by decide +kernel
theorem dL_law_1105 : decode cL_law 1105 = .ok (.iload_n 3, 1) := by decide +kernel
theorem dL_law_1106 : decode cL_law 1106 = .ok (.iconst 4, 1) := by decide +kernel
theorem dL_law_1107 : decode cL_law 1107 = .ok (.iadd, 1) := by decide +kernel
theorem dL_law_1108 : decode cL_law 1108 = .ok (.iaload, 1) := by decide +kernel
theorem dL_law_1109 : decode cL_law 1109 = .ok (.aload_n 0, 1) := by decide +kernel
theorem dL_law_1110 : decode cL_law 1110 = .ok (.iload_n 3, 1) := by decide +kernel
theorem dL_law_1111 : decode cL_law 1111 = .ok (.iconst 5, 1) := by decide +kernel
theorem dL_law_1112 : decode cL_law 1112 = .ok (.iadd, 1) := by decide +kernel
theorem dL_law_1113 : decode cL_law 1113 = .ok (.iaload, 1) := by decide +kernel
theorem dL_law_1114 : decode cL_law 1114 = .ok (.invokevirtual 130, 3) := by decide +kernel
theorem dL_law_1117 : decode cL_law 1117 = .ok (.if_icmp .eq 133, 3) := by decide +kernel
theorem dL_law_1120 : decode cL_law 1120 = .ok (.iconst 0, 1) := by decide +kernel
theorem dL_law_1121 : decode cL_law 1121 = .ok (.ireturn, 1) := by decide +kernel
theorem dL_law_1122 : decode cL_law 1122 = .ok (.aload_n 1, 1) := by decide +kernel
theorem dL_law_1123 : decode cL_law 1123 = .ok (.aload_n 0, 1) := by decide +kernel
theorem dL_law_1124 : decode cL_law 1124 = .ok (.iload_n 3, 1) := by decide +kernel
theorem dL_law_1125 : decode cL_law 1125 = .ok (.iconst 1, 1) := by decide +kernel
theorem dL_law_1126 : decode cL_law 1126 = .ok (.iadd, 1) := by decide +kernel
theorem dL_law_1127 : decode cL_law 1127 = .ok (.iaload, 1) := by decide +kernel
theorem dL_law_1128 : decode cL_law 1128 = .ok (.invokevirtual 131, 3) := by decide +kernel
theorem dL_law_1131 : decode cL_law 1131 = .ok (.aload_n 2, 1) := by decide +kernel
theorem dL_law_1132 : decode cL_law 1132 = .ok (.aload_n 0, 1) := by decide +kernel
theorem dL_law_1133 : decode cL_law 1133 = .ok (.iload_n 3, 1) := by decide +kernel
theorem dL_law_1134 : decode cL_law 1134 = .ok (.iconst 1, 1) := by decide +kernel
theorem dL_law_1135 : decode cL_law 1135 = .ok (.iadd, 1) := by decide +kernel
theorem dL_law_1136 : decode cL_law 1136 = .ok (.iaload, 1) := by decide +kernel
theorem dL_law_1137 : decode cL_law 1137 = .ok (.invokevirtual 134, 3) := by decide +kernel
theorem dL_law_1140 : decode cL_law 1140 = .ok (.if_icmp .eq 110, 3) := by decide +kernel
theorem dL_law_1143 : decode cL_law 1143 = .ok (.iconst 0, 1) := by decide +kernel
theorem dL_law_1144 : decode cL_law 1144 = .ok (.ireturn, 1) := by decide +kernel
theorem dL_law_1145 : decode cL_law 1145 = .ok (.aload_n 1, 1) := by decide +kernel
theorem dL_law_1146 : decode cL_law 1146 = .ok (.aload_n 0, 1) := by decide +kernel
theorem dL_law_1147 : decode cL_law 1147 = .ok (.iload_n 3, 1) := by decide +kernel
theorem dL_law_1148 : decode cL_law 1148 = .ok (.iconst 1, 1) := by decide +kernel
theorem dL_law_1149 : decode cL_law 1149 = .ok (.iadd, 1) := by decide +kernel
theorem dL_law_1150 : decode cL_law 1150 = .ok (.iaload, 1) := by decide +kernel
theorem dL_law_1151 : decode cL_law 1151 = .ok (.invokevirtual 135, 3) := by decide +kernel
theorem dL_law_1154 : decode cL_law 1154 = .ok (.aload_n 2, 1) := by decide +kernel
theorem dL_law_1155 : decode cL_law 1155 = .ok (.aload_n 0, 1) := by decide +kernel
theorem dL_law_1156 : decode cL_law 1156 = .ok (.iload_n 3, 1) := by decide +kernel
theorem dL_law_1157 : decode cL_law 1157 = .ok (.iconst 1, 1) := by decide +kernel
theorem dL_law_1158 : decode cL_law 1158 = .ok (.iadd, 1) := by decide +kernel
theorem dL_law_1159 : decode cL_law 1159 = .ok (.iaload, 1) := by decide +kernel
theorem dL_law_1160 : decode cL_law 1160 = .ok (.invokevirtual 138, 3) := by decide +kernel
theorem dL_law_1163 : decode cL_law 1163 = .ok (.if_icmp .eq 87, 3) := by decide +kernel
theorem dL_law_1166 : decode cL_law 1166 = .ok (.iconst 0, 1) := by decide +kernel
theorem dL_law_1167 : decode cL_law 1167 = .ok (.ireturn, 1) := by decide +kernel
theorem dL_law_1168 : decode cL_law 1168 = .ok (.aload_n 1, 1) := by decide +kernel
theorem dL_law_1169 : decode cL_law 1169 = .ok (.aload_n 0, 1) := by decide +kernel
theorem dL_law_1170 : decode cL_law 1170 = .ok (.iload_n 3, 1) := by decide +kernel
theorem dL_law_1171 : decode cL_law 1171 = .ok (.iconst 1, 1) := by decide +kernel
theorem dL_law_1172 : decode cL_law 1172 = .ok (.iadd, 1) := by decide +kernel
theorem dL_law_1173 : decode cL_law 1173 = .ok (.iaload, 1) := by decide +kernel
theorem dL_law_1174 : decode cL_law 1174 = .ok (.aload_n 0, 1) := by decide +kernel
theorem dL_law_1175 : decode cL_law 1175 = .ok (.iload_n 3, 1) := by decide +kernel
theorem dL_law_1176 : decode cL_law 1176 = .ok (.iconst 2, 1) := by decide +kernel
theorem dL_law_1177 : decode cL_law 1177 = .ok (.iadd, 1) := by decide +kernel
theorem dL_law_1178 : decode cL_law 1178 = .ok (.iaload, 1) := by decide +kernel
theorem dL_law_1179 : decode cL_law 1179 = .ok (.invokevirtual 139, 3) := by decide +kernel
theorem dL_law_1182 : decode cL_law 1182 = .ok (.aload_n 2, 1) := by decide +kernel
theorem dL_law_1183 : decode cL_law 1183 = .ok (.aload_n 0, 1) := by decide +kernel
theorem dL_law_1184 : decode cL_law 1184 = .ok (.iload_n 3, 1) := by decide +kernel
theorem dL_law_1185 : decode cL_law 1185 = .ok (.iconst 1, 1) := by decide +kernel
theorem dL_law_1186 : decode cL_law 1186 = .ok (.iadd, 1) := by decide +kernel
theorem dL_law_1187 : decode cL_law 1187 = .ok (.iaload, 1) := by decide +kernel
theorem dL_law_1188 : decode cL_law 1188 = .ok (.aload_n 0, 1) := by decide +kernel
theorem dL_law_1189 : decode cL_law 1189 = .ok (.iload_n 3, 1) := by decide +kernel
theorem dL_law_1190 : decode cL_law 1190 = .ok (.iconst 2, 1) := by decide +kernel
theorem dL_law_1191 : decode cL_law 1191 = .ok (.iadd, 1) := by decide +kernel
theorem dL_law_1192 : decode cL_law 1192 = .ok (.iaload, 1) := by decide +kernel
theorem dL_law_1193 : decode cL_law 1193 = .ok (.invokevirtual 142, 3) := by decide +kernel
theorem dL_law_1196 : decode cL_law 1196 = .ok (.if_icmp .eq 54, 3) := by decide +kernel
theorem dL_law_1199 : decode cL_law 1199 = .ok (.iconst 0, 1) := by decide +kernel
theorem dL_law_1200 : decode cL_law 1200 = .ok (.ireturn, 1) := by decide +kernel
theorem dL_law_1201 : decode cL_law 1201 = .ok (.aload_n 1, 1) := by decide +kernel
theorem dL_law_1202 : decode cL_law 1202 = .ok (.invokevirtual 143, 3) := by decide +kernel
theorem dL_law_1205 : decode cL_law 1205 = .ok (.aload_n 2, 1) := by decide +kernel
theorem dL_law_1206 : decode cL_law 1206 = .ok (.invokevirtual 146, 3) := by decide +kernel
theorem dL_law_1209 : decode cL_law 1209 = .ok (.if_icmp .eq 41, 3) := by decide +kernel
theorem dL_law_1212 : decode cL_law 1212 = .ok (.iconst 0, 1) := by decide +kernel
theorem dL_law_1213 : decode cL_law 1213 = .ok (.ireturn, 1) := by decide +kernel
theorem dL_law_1214 : decode cL_law 1214 = .ok (.aload_n 1, 1) := by decide +kernel
theorem dL_law_1215 : decode cL_law 1215 = .ok (.invokevirtual 147, 3) := by decide +kernel
theorem dL_law_1218 : decode cL_law 1218 = .ok (.aload_n 2, 1) := by decide +kernel
theorem dL_law_1219 : decode cL_law 1219 = .ok (.invokevirtual 150, 3) := by decide +kernel
theorem dL_law_1222 : decode cL_law 1222 = .ok (.if_icmp .eq 28, 3) := by decide +kernel
theorem dL_law_1225 : decode cL_law 1225 = .ok (.iconst 0, 1) := by decide +kernel
theorem dL_law_1226 : decode cL_law 1226 = .ok (.ireturn, 1) := by decide +kernel
theorem dL_law_1227 : decode cL_law 1227 = .ok (.aload_n 1, 1) := by decide +kernel
theorem dL_law_1228 : decode cL_law 1228 = .ok (.aload_n 0, 1) := by decide +kernel
theorem dL_law_1229 : decode cL_law 1229 = .ok (.iload_n 3, 1) := by decide +kernel
theorem dL_law_1230 : decode cL_law 1230 = .ok (.iconst 1, 1) := by decide +kernel
theorem dL_law_1231 : decode cL_law 1231 = .ok (.iadd, 1) := by decide +kernel
theorem dL_law_1232 : decode cL_law 1232 = .ok (.iaload, 1) := by decide +kernel
theorem dL_law_1233 : decode cL_law 1233 = .ok (.invokevirtual 151, 3) := by decide +kernel
theorem dL_law_1236 : decode cL_law 1236 = .ok (.aload_n 2, 1) := by decide +kernel
theorem dL_law_1237 : decode cL_law 1237 = .ok (.aload_n 0, 1) := by decide +kernel
theorem dL_law_1238 : decode cL_law 1238 = .ok (.iload_n 3, 1) := by decide +kernel
theorem dL_law_1239 : decode cL_law 1239 = .ok (.iconst 1, 1) := by decide +kernel
theorem dL_law_1240 : decode cL_law 1240 = .ok (.iadd, 1) := by decide +kernel
theorem dL_law_1241 : decode cL_law 1241 = .ok (.iaload, 1) := by decide +kernel
theorem dL_law_1242 : decode cL_law 1242 = .ok (.invokevirtual 154, 3) := by decide +kernel
theorem dL_law_1245 : decode cL_law 1245 = .ok (.if_icmp .eq 5, 3) := by decide +kernel
theorem dL_law_1248 : decode cL_law 1248 = .ok (.iconst 0, 1) := by decide +kernel
theorem dL_law_1249 : decode cL_law 1249 = .ok (.ireturn, 1) := by decide +kernel
theorem dL_law_1250 : decode cL_law 1250 = .ok (.iinc 3 6, 3) := by decide +kernel
theorem dL_law_1253 : decode cL_law 1253 = .ok (.goto (-1235), 3) := by decide +kernel
theorem dL_law_1256 : decode cL_law 1256 = .ok (.iconst 1, 1) := by decide +kernel
theorem dL_law_1257 : decode cL_law 1257 = .ok (.ireturn, 1) := by decide +kernel
end
section
abbrev vwCl : List vw_C := [(RX0, TX0, 16), (RX1, TX1, 3), (RX2, TX2, 4), (RX3, TX3, 2), (RX4, TX4, 7), (RX5, TX5, 34)]
/-! the words: all that the tables say and that lasts, in one list -/
def gtbl : List Cond := lw_tbl.filter goodWord
theorem g_mem {w : Cond} (h : w ∈ lw_tbl) (hg : goodWord w = true) : w ∈ gtbl := List.mem_filter.mpr ⟨h, hg⟩
theorem g_tb {w : Cond} (i : Nat) (h : tables_1[i]? = some w) (hg : goodWord w = true) : w ∈ gtbl := g_mem (List.mem_append_right _ (List.mem_of_getElem? h)) hg
theorem g_sl {w : Cond} (i : Nat) (h : (k2_sels lw_privs)[i]? = some w) (hg : goodWord w = true) : w ∈ gtbl := g_mem (List.mem_append_left _ (List.mem_of_getElem? h)) hg
theorem g_good {w : Cond} (h : w ∈ gtbl) : (w.onTables && w.keeps) = true ∨ ∃ ty, w = .arrayClass ty := good_of_word (List.mem_filter.mp h).2
/-! nest mates' words -/
abbrev nestF_T : Type := String × Nat × String × String × String × String
def NNf (L : List nestF_T) (M : List (String × Nat × MethodName × String)) (U : State) : Prop :=
  (∀ q ∈ L, va_Nw (.fieldLinkNest q.1 q.2.1 q.2.2.1 q.2.2.2.1 q.2.2.2.2.1 q.2.2.2.2.2) U) ∧ (∀ q ∈ M, va_Nw (.methodLinkNest q.1 q.2.1 q.2.2.1 q.2.2.2) U)
theorem NNf.warm {L : List nestF_T} {M : List (String × Nat × MethodName × String)} {s U : State} (hW : s.WarmedH U.vm) (h : NNf L M s) : NNf L M U := ⟨fun q hq => va_Nw.warmF hW (h.1 q hq), fun q hq => va_Nw.warmM hW (h.2 q hq)⟩
theorem NNf.same {L : List nestF_T} {M : List (String × Nat × MethodName × String)} {s U : State} (hW : s.vm = U.vm) (h : NNf L M s) : NNf L M U := ⟨fun q hq => va_Nw.same rfl hW (h.1 q hq), fun q hq => va_Nw.same rfl hW (h.2 q hq)⟩
def nestF : List nestF_T := [(RX2, 71, "QuietDuty$Sheet", "cells", "[I", "QuietDuty"), (RX4, 222, "QuietDuty$Sheet", "cells", "[I", "QuietDuty"), (RX4, 228, "QuietDuty$Sheet", "lane", "I", "QuietDuty"), (RX4, 179, "QuietDuty$Border", "posts", "I", "QuietDuty"), (RX4, 79, "QuietDuty$Border", "rate", "[I", "QuietDuty"), (RX3, 45, "QuietDuty$Border", "rate", "[I", "QuietDuty"), (RX4, 83, "QuietDuty$Border", "ear", "[I", "QuietDuty"), (RX4, 72, "QuietDuty$Border", "silences", "I", "QuietDuty"), (RX3, 27, "QuietDuty$Border", "silences", "I", "QuietDuty"), (RX4, 89, "QuietDuty$Border", "kind", "[I", "QuietDuty"), (RX4, 92, "QuietDuty$Border", "minutes", "[I", "QuietDuty"), (RX4, 95, "QuietDuty$Border", "fineness", "[I", "QuietDuty"), (RX4, 104, "QuietDuty$Border", "carrier", "[I", "QuietDuty"), (RX4, 130, "QuietDuty$Border", "humming", "[I", "QuietDuty"), (RX4, 127, "QuietDuty$Border", "declared", "I", "QuietDuty"), (RX4, 124, "QuietDuty$Border", "dutiableKinds", "I", "QuietDuty"), (RX2, 37, "QuietDuty$Border", "freeMinutes", "I", "QuietDuty"), (RX4, 121, "QuietDuty$Border", "freeMinutes", "I", "QuietDuty"), (RX4, 188, "QuietDuty$Border", "leftOut", "I", "QuietDuty"), (RX4, 192, "QuietDuty$Border", "readings", "I", "QuietDuty"), (RX4, 195, "QuietDuty$Border", "readPost", "[I", "QuietDuty"), (RX4, 198, "QuietDuty$Border", "readDuty", "[I", "QuietDuty")]
def nestM : List (String × Nat × MethodName × String) := [(RX4, 17, yX1_init, "QuietDuty"), (RX4, 20, yX2_init, "QuietDuty"), (RX4, 27, yX3_init, "QuietDuty"), (RX4, 34, yX0_init, "QuietDuty")]
abbrev NN (U : State) : Prop := NNf nestF nestM U
/-! the context of a walk -/
abbrev CX : Type := Program × Launch × Env × Room × State × MethodId × Array Value × List Frame × Method × Code × va_G × (Nat → Prop)
abbrev xp (X : CX) : Program := X.1
abbrev xl (X : CX) : Launch := X.2.1
abbrev xe (X : CX) : Env := X.2.2.1
abbrev xR (X : CX) : Room := X.2.2.2.1
abbrev xs (X : CX) : State := X.2.2.2.2.1
abbrev xm (X : CX) : MethodId := X.2.2.2.2.2.1
abbrev xa (X : CX) : Array Value := X.2.2.2.2.2.2.1
abbrev xb (X : CX) : List Frame := X.2.2.2.2.2.2.2.1
abbrev xt (X : CX) : Method := X.2.2.2.2.2.2.2.2.1
abbrev xc (X : CX) : Code := X.2.2.2.2.2.2.2.2.2.1
abbrev xD (X : CX) : va_G := X.2.2.2.2.2.2.2.2.2.2.1
abbrev xA (X : CX) : Nat → Prop := X.2.2.2.2.2.2.2.2.2.2.2
/-- if the function F says 'some out', the machine comes from here to Qf out -/
def JR {Out : Type} (X : CX) (Qf : Out → State → Prop) (nL k n : Nat) (F : Option Out) (ws : va_W) (lv : List (Nat × Value)) (pc : Nat) (st : List Value) : Prop :=
  ∀ out, F = some out → ∀ (H : Heap) (locs : List Loc) (ls : Array Slot), va_P (xD X) vwCl ws H → va_D (xA X) ws → va_S (xA X) (xs X).heap H locs → lv_has ls nL lv → W (xp X) (xl X) (xe X) (xR X) (xs X) (xm X) (xa X) (xb X) (xt X) (xc X) H locs k n (Qf out) (F0 (xm X) pc ls st)
def Cx (X : CX) (own : String) (cc : ByteArray) (nL : Nat) (ret : Option FieldType) (rm : Room) (tys : List (ClassId × FieldType)) : Prop :=
  (xp X).tables.exec = Jvm.exec ∧ (xc X).code = cc ∧ (xc X).maxLocals = nL ∧ (xs X).vm.findClass own = some (xm X).cls ∧ (∀ w ∈ gtbl, w.before (xa X) (xs X) = true) ∧ va_K (xD X) vwCl tys (xs X) ∧ NN (xs X) ∧ (xt X).locks = false ∧ (xt X).sig.returnType = ret ∧ xR X = rm ∧ (∀ q, (xs X).heap.size ≤ q → (xA X) q)
def Po (D : va_G) (tys : List (ClassId × FieldType)) (A : Nat → Prop) (ws : va_W) (t : State) : Prop := va_P D vwCl ws t.heap ∧ va_K D vwCl tys t ∧ va_D A ws
def QO (D : va_G) (tys : List (ClassId × FieldType)) (A : Nat → Prop) (v : Option Value) (w : va_W) : Array Value → State → Outcome → State → Prop := fun _ st oc t => oc = .returned v ∧ Po D tys A w t ∧ va_F A st t
def QF {Out : Type} (X : CX) (tys : List (ClassId × FieldType)) (k n : Nat) (vv : Out → Option Value) (wd : Out → va_W) : Out → State → Prop := fun out => MQ (xb X) (QO (xD X) tys (xA X) (vv out) (wd out)) (xa X) (xs X) k n (xA X)
def Pr (D : va_G) (tys : List (ClassId × FieldType)) (ws : va_W) (sz : Nat) (U : State) : Prop := U.heap.size = sz ∧ va_P D vwCl ws U.heap ∧ va_K D vwCl tys U ∧ va_D (fun _ => True) ws ∧ NN U
/-- a method's contract by its function: if f says 'some out', it returns vv out and leaves the world wd out -/
def MX {Out : Type} (l : Launch) (D : va_G) (tys : List (ClassId × FieldType)) (y : MethodName) (cc : ByteArray) (nL : Nat) (ret : Option FieldType) (rm : Room) (As : List Value) (wc : va_W) (f : Option Out) (vv : Out → Option Value) (wd : Out → va_W) : Prop :=
  ∀ (sz : Nat) (out : Out), f = some out → Met l y (.code y cc nL ret :: gtbl) rm (va_Pc As (Pr D tys wc sz)) (QO D tys (va_A wc sz) (vv out) (wd out)) 0 0 (va_A wc sz)
theorem met_of {Out : Type} {l : Launch} {D : va_G} {tys : List (ClassId × FieldType)} {y : MethodName} {own : String} {cc : ByteArray} {nL : Nat} {ret : Option FieldType} {rm : Room} {As : List Value} {wc : va_W} {f : Option Out} {vv : Out → Option Value} {wd : Out → va_W}
    (hy : plainName y.cls = true) (ho : y.cls = own) (hlen : (lg_sl As).length ≤ nL) (body : ∀ X : CX, xl X = l → xD X = D → Cx X own cc nL ret rm tys → JR X (QF X tys 0 0 vv wd) nL 0 0 f wc (lv_args 0 As) 0 []) : MX l D tys y cc nL ret rm As wc f vv wd := by
  intro sz out hf
  refine Met.ofW (cc := cc) (maxL := nL) (ret := ret) hy rfl ?_
  intro p e s m args below meth c s₁ B hml hv
  obtain ⟨rfl, hsz, hP, hK, hD0, hN⟩ := hv
  have hts := atoms_spec (ws := .code y cc nL ret :: gtbl) B.pre
  have hown : s.vm.findClass y.cls = some m.cls := findClass_of_methodNamed B.named
  subst hsz
  have hD := hD0.self (sz := s.heap.size)
  have hl := lv_entry As (n := nL) hlen
  rw [lg_entry_eq]
  exact body (p, l, e, _, s, m, As.toArray, below, meth, c, D, va_A wc s.heap.size) rfl rfl ⟨B.exec, B.bytes, hml, ho ▸ hown, fun w h => hts w (List.mem_cons_of_mem _ h), hK, hN, B.notSynchronized, B.returns, rfl, fun q h => Or.inr h⟩ out hf s.heap [] _ hP hD va_S.rf hl
section RR
variable {Out : Type} {X : CX} {Qf : Out → State → Prop} {own : String} {cc : ByteArray} {nL k n : Nat} {ret : Option FieldType} {rm : Room} {tys : List (ClassId × FieldType)} {F F1 F2 : Option Out} {ws : va_W} {lv lv' : List (Nat × Value)} {pc tgt : Nat} {st : List Value}
theorem Cx.hts (C : Cx X own cc nL ret rm tys) {w : Cond} (h : w ∈ gtbl) : w.before (xa X) (xs X) = true := C.2.2.2.2.1 w h
theorem Cx.ow (C : Cx X own cc nL ret rm tys) : (xs X).vm.findClass own = some (xm X).cls := C.2.2.2.1
theorem Cx.hK (C : Cx X own cc nL ret rm tys) : va_K (xD X) vwCl tys (xs X) := C.2.2.2.2.2.1
theorem Cx.hN (C : Cx X own cc nL ret rm tys) : NN (xs X) := C.2.2.2.2.2.2.1
theorem Cx.lk (C : Cx X own cc nL ret rm tys) : (xt X).locks = false := C.2.2.2.2.2.2.2.1
theorem Cx.rt (C : Cx X own cc nL ret rm tys) : (xt X).sig.returnType = ret := C.2.2.2.2.2.2.2.2.1
theorem Cx.room (C : Cx X own cc nL ret rm tys) : xR X = rm := C.2.2.2.2.2.2.2.2.2.1
theorem Cx.hA (C : Cx X own cc nL ret rm tys) : ∀ q, (xs X).heap.size ≤ q → (xA X) q := C.2.2.2.2.2.2.2.2.2.2
theorem r_none : JR X Qf nL k n none ws lv pc st := fun _ h => by cases h
theorem r_F (hF : F = F1) (K : JR X Qf nL k n F1 ws lv pc st) : JR X Qf nL k n F ws lv pc st := hF ▸ K
theorem r_pc {pc' : Nat} (h : pc = pc') (K : JR X Qf nL k n F ws lv pc' st) : JR X Qf nL k n F ws lv pc st := h ▸ K
theorem r_sub (ks : List Nat) (h : lv_pick lv ks = lv') (K : JR X Qf nL k n F ws lv' pc st) : JR X Qf nL k n F ws lv pc st := fun o hF H locs ls hP hD hS hl => K o hF H locs ls hP hD hS (lv_sub hl ks h)
theorem r_iconst (C : Cx X own cc nL ret rm tys) {i : Int} {v : Int32} (hd : decode cc pc = .ok (.iconst i, 1)) (hv : Int32.ofInt i = v) (K : JR X Qf nL k n F ws lv (pc + 1) (.int v :: st)) : JR X Qf nL k n F ws lv pc st := fun o h H locs ls hP hD hS hl => lv_iconst C.1 C.2.1 hd hv (K o h H locs ls hP hD hS hl)
theorem r_bipush (C : Cx X own cc nL ret rm tys) {i : Int} {v : Int32} (hd : decode cc pc = .ok (.bipush i, 2)) (hv : (Int8.ofInt i).toInt32 = v) (K : JR X Qf nL k n F ws lv (pc + 2) (.int v :: st)) : JR X Qf nL k n F ws lv pc st := fun o h H locs ls hP hD hS hl => lv_bipush C.1 C.2.1 hd hv (K o h H locs ls hP hD hS hl)
theorem r_sipush (C : Cx X own cc nL ret rm tys) {i : Int} {v : Int32} (hd : decode cc pc = .ok (.sipush i, 3)) (hv : (Int16.ofInt i).toInt32 = v) (K : JR X Qf nL k n F ws lv (pc + 3) (.int v :: st)) : JR X Qf nL k n F ws lv pc st := fun o h H locs ls hP hD hS hl => lv_sipush C.1 C.2.1 hd hv (K o h H locs ls hP hD hS hl)
theorem r_lconst (C : Cx X own cc nL ret rm tys) {i : Fin 2} {v : Int64} (hd : decode cc pc = .ok (.lconst i, 1)) (hv : Int64.ofNat (i : Nat) = v) (K : JR X Qf nL k n F ws lv (pc + 1) (.long v :: st)) : JR X Qf nL k n F ws lv pc st := fun o h H locs ls hP hD hS hl => lv_lconst C.1 C.2.1 hd hv (K o h H locs ls hP hD hS hl)
theorem r_ldc (C : Cx X own cc nL ret rm tys) {i : Nat} {v : Int32} (hw : Cond.constant own i v ∈ gtbl) (hd : decode cc pc = .ok (.ldc i, 2)) (K : JR X Qf nL k n F ws lv (pc + 2) (.int v :: st)) : JR X Qf nL k n F ws lv pc st := fun o h H locs ls hP hD hS hl => lv_ldc C.1 C.2.1 C.ow (C.hts hw) hd (K o h H locs ls hP hD hS hl)
theorem r_ldc2 (C : Cx X own cc nL ret rm tys) {i : Nat} {v : Int64} (hw : Cond.constantLong own i v ∈ gtbl) (hd : decode cc pc = .ok (.ldc2_w i, 3)) (K : JR X Qf nL k n F ws lv (pc + 3) (.long v :: st)) : JR X Qf nL k n F ws lv pc st := fun o h H locs ls hP hD hS hl => lv_ldc2 C.1 C.2.1 C.ow (C.hts hw) hd (K o h H locs ls hP hD hS hl)
theorem r_iload_n (C : Cx X own cc nL ret rm tys) (q : Nat) {j : Fin 4} {i : Nat} {x : Int32} (hd : decode cc pc = .ok (.iload_n j, 1)) (hi : (j : Nat) = i) (hk : lv[q]? = some (i, .int x)) (K : JR X Qf nL k n F ws lv (pc + 1) (.int x :: st)) : JR X Qf nL k n F ws lv pc st := fun o h H locs ls hP hD hS hl => lv_iload_n C.1 C.2.1 hd hi (lv_at hl q hk) (K o h H locs ls hP hD hS hl)
theorem r_iload (C : Cx X own cc nL ret rm tys) (q : Nat) {i : Nat} {x : Int32} (hd : decode cc pc = .ok (.iload i, 2)) (hk : lv[q]? = some (i, .int x)) (K : JR X Qf nL k n F ws lv (pc + 2) (.int x :: st)) : JR X Qf nL k n F ws lv pc st := fun o h H locs ls hP hD hS hl => lv_iload C.1 C.2.1 hd (lv_at hl q hk) (K o h H locs ls hP hD hS hl)
theorem r_lload_n (C : Cx X own cc nL ret rm tys) (q : Nat) {j : Fin 4} {i : Nat} {x : Int64} (hd : decode cc pc = .ok (.lload_n j, 1)) (hi : (j : Nat) = i) (hk : lv[q]? = some (i, .long x)) (K : JR X Qf nL k n F ws lv (pc + 1) (.long x :: st)) : JR X Qf nL k n F ws lv pc st := fun o h H locs ls hP hD hS hl => lv_lload_n C.1 C.2.1 hd hi (lv_at hl q hk) (K o h H locs ls hP hD hS hl)
theorem r_lload (C : Cx X own cc nL ret rm tys) (q : Nat) {i : Nat} {x : Int64} (hd : decode cc pc = .ok (.lload i, 2)) (hk : lv[q]? = some (i, .long x)) (K : JR X Qf nL k n F ws lv (pc + 2) (.long x :: st)) : JR X Qf nL k n F ws lv pc st := fun o h H locs ls hP hD hS hl => lv_lload C.1 C.2.1 hd (lv_at hl q hk) (K o h H locs ls hP hD hS hl)
theorem r_aload_n (C : Cx X own cc nL ret rm tys) (q : Nat) {j : Fin 4} {i : Nat} {x : Nat} (hd : decode cc pc = .ok (.aload_n j, 1)) (hi : (j : Nat) = i) (hk : lv[q]? = some (i, .ref x)) (K : JR X Qf nL k n F ws lv (pc + 1) (.ref x :: st)) : JR X Qf nL k n F ws lv pc st := fun o h H locs ls hP hD hS hl => lv_aload_n C.1 C.2.1 hd hi (lv_at hl q hk) (K o h H locs ls hP hD hS hl)
theorem r_aload (C : Cx X own cc nL ret rm tys) (q : Nat) {i : Nat} {x : Nat} (hd : decode cc pc = .ok (.aload i, 2)) (hk : lv[q]? = some (i, .ref x)) (K : JR X Qf nL k n F ws lv (pc + 2) (.ref x :: st)) : JR X Qf nL k n F ws lv pc st := fun o h H locs ls hP hD hS hl => lv_aload C.1 C.2.1 hd (lv_at hl q hk) (K o h H locs ls hP hD hS hl)
theorem r_istore_n (C : Cx X own cc nL ret rm tys) {j : Fin 4} {i : Nat} {x : Int32} (hd : decode cc pc = .ok (.istore_n j, 1)) (hi : (j : Nat) = i) (hn : i < nL) (hl' : (i, Value.int x) :: lv.filter (fun q => !(q.1 == i) && !(q.1 + 1 == i && q.2.category == 2)) = lv') (K : JR X Qf nL k n F ws lv' (pc + 1) st) : JR X Qf nL k n F ws lv pc (.int x :: st) := fun o h H locs ls hP hD hS hl => lv_istore_n C.1 C.2.1 hd hi hl hn hl' (fun ls' hl2 => K o h H locs ls' hP hD hS hl2)
theorem r_istore (C : Cx X own cc nL ret rm tys) {i : Nat} {x : Int32} (hd : decode cc pc = .ok (.istore i, 2)) (hn : i < nL) (hl' : (i, Value.int x) :: lv.filter (fun q => !(q.1 == i) && !(q.1 + 1 == i && q.2.category == 2)) = lv') (K : JR X Qf nL k n F ws lv' (pc + 2) st) : JR X Qf nL k n F ws lv pc (.int x :: st) := fun o h H locs ls hP hD hS hl => lv_istore C.1 C.2.1 hd hl hn hl' (fun ls' hl2 => K o h H locs ls' hP hD hS hl2)
theorem r_lstore_n (C : Cx X own cc nL ret rm tys) {j : Fin 4} {i : Nat} {x : Int64} (hd : decode cc pc = .ok (.lstore_n j, 1)) (hi : (j : Nat) = i) (hn : i + 1 < nL) (hl' : (i, Value.long x) :: lv.filter (fun q => !(q.1 == i) && (!(q.1 == i + 1) && !(q.1 + 1 == i && q.2.category == 2))) = lv') (K : JR X Qf nL k n F ws lv' (pc + 1) st) : JR X Qf nL k n F ws lv pc (.long x :: st) := fun o h H locs ls hP hD hS hl => lv_lstore_n C.1 C.2.1 hd hi hl hn hl' (fun ls' hl2 => K o h H locs ls' hP hD hS hl2)
theorem r_lstore (C : Cx X own cc nL ret rm tys) {i : Nat} {x : Int64} (hd : decode cc pc = .ok (.lstore i, 2)) (hn : i + 1 < nL) (hl' : (i, Value.long x) :: lv.filter (fun q => !(q.1 == i) && (!(q.1 == i + 1) && !(q.1 + 1 == i && q.2.category == 2))) = lv') (K : JR X Qf nL k n F ws lv' (pc + 2) st) : JR X Qf nL k n F ws lv pc (.long x :: st) := fun o h H locs ls hP hD hS hl => lv_lstore C.1 C.2.1 hd hl hn hl' (fun ls' hl2 => K o h H locs ls' hP hD hS hl2)
theorem r_astore_n (C : Cx X own cc nL ret rm tys) {j : Fin 4} {i : Nat} {x : Nat} (hd : decode cc pc = .ok (.astore_n j, 1)) (hi : (j : Nat) = i) (hn : i < nL) (hl' : (i, Value.ref x) :: lv.filter (fun q => !(q.1 == i) && !(q.1 + 1 == i && q.2.category == 2)) = lv') (K : JR X Qf nL k n F ws lv' (pc + 1) st) : JR X Qf nL k n F ws lv pc (.ref x :: st) := fun o h H locs ls hP hD hS hl => lv_astore_n C.1 C.2.1 hd hi hl hn hl' (fun ls' hl2 => K o h H locs ls' hP hD hS hl2)
theorem r_astore (C : Cx X own cc nL ret rm tys) {i : Nat} {x : Nat} (hd : decode cc pc = .ok (.astore i, 2)) (hn : i < nL) (hl' : (i, Value.ref x) :: lv.filter (fun q => !(q.1 == i) && !(q.1 + 1 == i && q.2.category == 2)) = lv') (K : JR X Qf nL k n F ws lv' (pc + 2) st) : JR X Qf nL k n F ws lv pc (.ref x :: st) := fun o h H locs ls hP hD hS hl => lv_astore C.1 C.2.1 hd hl hn hl' (fun ls' hl2 => K o h H locs ls' hP hD hS hl2)
theorem r_iinc (C : Cx X own cc nL ret rm tys) (q : Nat) {i : Nat} {z : Int} {x d : Int32} (hd : decode cc pc = .ok (.iinc i z, 3)) (hk : lv[q]? = some (i, .int x)) (hz : Int32.ofInt z = d) (hn : i < nL) (hl' : (i, Value.int (x + d)) :: lv.filter (fun q => !(q.1 == i) && !(q.1 + 1 == i && q.2.category == 2)) = lv') (K : JR X Qf nL k n F ws lv' (pc + 3) st) : JR X Qf nL k n F ws lv pc st := fun o h H locs ls hP hD hS hl => lv_iinc C.1 C.2.1 hd hl hk (by rw [hz]) hn hl' (fun ls' hl2 => K o h H locs ls' hP hD hS hl2)
theorem r_dup (C : Cx X own cc nL ret rm tys) {va : Value} (hd : decode cc pc = .ok (.dup, 1)) (hc : va.category = 1) (K : JR X Qf nL k n F ws lv (pc + 1) (va :: va :: st)) : JR X Qf nL k n F ws lv pc (va :: st) := fun o h H locs ls hP hD hS hl => lv_dup C.1 C.2.1 hd hc (K o h H locs ls hP hD hS hl)
theorem r_iadd (C : Cx X own cc nL ret rm tys) {x y : Int32} (hd : decode cc pc = .ok (.iadd, 1)) (K : JR X Qf nL k n F ws lv (pc + 1) (.int (x + y) :: st)) : JR X Qf nL k n F ws lv pc (.int y :: .int x :: st) := fun o h H locs ls hP hD hS hl => lv_iadd C.1 C.2.1 hd (K o h H locs ls hP hD hS hl)
theorem r_isub (C : Cx X own cc nL ret rm tys) {x y : Int32} (hd : decode cc pc = .ok (.isub, 1)) (K : JR X Qf nL k n F ws lv (pc + 1) (.int (x - y) :: st)) : JR X Qf nL k n F ws lv pc (.int y :: .int x :: st) := fun o h H locs ls hP hD hS hl => lv_isub C.1 C.2.1 hd (K o h H locs ls hP hD hS hl)
theorem r_imul (C : Cx X own cc nL ret rm tys) {x y : Int32} (hd : decode cc pc = .ok (.imul, 1)) (K : JR X Qf nL k n F ws lv (pc + 1) (.int (x * y) :: st)) : JR X Qf nL k n F ws lv pc (.int y :: .int x :: st) := fun o h H locs ls hP hD hS hl => lv_imul C.1 C.2.1 hd (K o h H locs ls hP hD hS hl)
theorem r_iand (C : Cx X own cc nL ret rm tys) {x y : Int32} (hd : decode cc pc = .ok (.iand, 1)) (K : JR X Qf nL k n F ws lv (pc + 1) (.int (x &&& y) :: st)) : JR X Qf nL k n F ws lv pc (.int y :: .int x :: st) := fun o h H locs ls hP hD hS hl => lv_iand C.1 C.2.1 hd (K o h H locs ls hP hD hS hl)
theorem r_ior (C : Cx X own cc nL ret rm tys) {x y : Int32} (hd : decode cc pc = .ok (.ior, 1)) (K : JR X Qf nL k n F ws lv (pc + 1) (.int (x ||| y) :: st)) : JR X Qf nL k n F ws lv pc (.int y :: .int x :: st) := fun o h H locs ls hP hD hS hl => lv_ior C.1 C.2.1 hd (K o h H locs ls hP hD hS hl)
theorem r_ixor (C : Cx X own cc nL ret rm tys) {x y : Int32} (hd : decode cc pc = .ok (.ixor, 1)) (K : JR X Qf nL k n F ws lv (pc + 1) (.int (x ^^^ y) :: st)) : JR X Qf nL k n F ws lv pc (.int y :: .int x :: st) := fun o h H locs ls hP hD hS hl => lv_ixor C.1 C.2.1 hd (K o h H locs ls hP hD hS hl)
theorem r_ishl (C : Cx X own cc nL ret rm tys) {x y : Int32} (hd : decode cc pc = .ok (.ishl, 1)) (K : JR X Qf nL k n F ws lv (pc + 1) (.int (x <<< (y &&& 31)) :: st)) : JR X Qf nL k n F ws lv pc (.int y :: .int x :: st) := fun o h H locs ls hP hD hS hl => lv_ishl C.1 C.2.1 hd (K o h H locs ls hP hD hS hl)
theorem r_ishr (C : Cx X own cc nL ret rm tys) {x y : Int32} (hd : decode cc pc = .ok (.ishr, 1)) (K : JR X Qf nL k n F ws lv (pc + 1) (.int (x >>> (y &&& 31)) :: st)) : JR X Qf nL k n F ws lv pc (.int y :: .int x :: st) := fun o h H locs ls hP hD hS hl => lv_ishr C.1 C.2.1 hd (K o h H locs ls hP hD hS hl)
theorem r_idiv (C : Cx X own cc nL ret rm tys) {x y : Int32} (hd : decode cc pc = .ok (.idiv, 1)) (K : JR X Qf nL k n F ws lv (pc + 1) (.int (x / y) :: st)) : JR X Qf nL k n (if y = 0 then none else F) ws lv pc (.int y :: .int x :: st) := fun o h H locs ls hP hD hS hl => by
  by_cases hy : y = 0
  · rw [if_pos hy] at h; cases h
  · rw [if_neg hy] at h; exact lv_idiv C.1 C.2.1 hd hy (K o h H locs ls hP hD hS hl)
theorem r_irem (C : Cx X own cc nL ret rm tys) {x y : Int32} (hd : decode cc pc = .ok (.irem, 1)) (K : JR X Qf nL k n F ws lv (pc + 1) (.int (x - x / y * y) :: st)) : JR X Qf nL k n (if y = 0 then none else F) ws lv pc (.int y :: .int x :: st) := fun o h H locs ls hP hD hS hl => by
  by_cases hy : y = 0
  · rw [if_pos hy] at h; cases h
  · rw [if_neg hy] at h; exact lv_irem C.1 C.2.1 hd hy (K o h H locs ls hP hD hS hl)
theorem r_ladd (C : Cx X own cc nL ret rm tys) {x y : Int64} (hd : decode cc pc = .ok (.ladd, 1)) (K : JR X Qf nL k n F ws lv (pc + 1) (.long (x + y) :: st)) : JR X Qf nL k n F ws lv pc (.long y :: .long x :: st) := fun o h H locs ls hP hD hS hl => lv_ladd C.1 C.2.1 hd (K o h H locs ls hP hD hS hl)
theorem r_lsub (C : Cx X own cc nL ret rm tys) {x y : Int64} (hd : decode cc pc = .ok (.lsub, 1)) (K : JR X Qf nL k n F ws lv (pc + 1) (.long (x - y) :: st)) : JR X Qf nL k n F ws lv pc (.long y :: .long x :: st) := fun o h H locs ls hP hD hS hl => lv_lsub C.1 C.2.1 hd (K o h H locs ls hP hD hS hl)
theorem r_lmul (C : Cx X own cc nL ret rm tys) {x y : Int64} (hd : decode cc pc = .ok (.lmul, 1)) (K : JR X Qf nL k n F ws lv (pc + 1) (.long (x * y) :: st)) : JR X Qf nL k n F ws lv pc (.long y :: .long x :: st) := fun o h H locs ls hP hD hS hl => lv_lmul C.1 C.2.1 hd (K o h H locs ls hP hD hS hl)
theorem r_ldiv (C : Cx X own cc nL ret rm tys) {x y : Int64} (hd : decode cc pc = .ok (.ldiv, 1)) (K : JR X Qf nL k n F ws lv (pc + 1) (.long (x / y) :: st)) : JR X Qf nL k n (if y = 0 then none else F) ws lv pc (.long y :: .long x :: st) := fun o h H locs ls hP hD hS hl => by
  by_cases hy : y = 0
  · rw [if_pos hy] at h; cases h
  · rw [if_neg hy] at h; exact lv_ldiv C.1 C.2.1 hd hy (K o h H locs ls hP hD hS hl)
theorem r_lrem (C : Cx X own cc nL ret rm tys) {x y : Int64} (hd : decode cc pc = .ok (.lrem, 1)) (K : JR X Qf nL k n F ws lv (pc + 1) (.long (x - x / y * y) :: st)) : JR X Qf nL k n (if y = 0 then none else F) ws lv pc (.long y :: .long x :: st) := fun o h H locs ls hP hD hS hl => by
  by_cases hy : y = 0
  · rw [if_pos hy] at h; cases h
  · rw [if_neg hy] at h; exact lv_lrem C.1 C.2.1 hd hy (K o h H locs ls hP hD hS hl)
theorem r_lcmp (C : Cx X own cc nL ret rm tys) {x y : Int64} (hd : decode cc pc = .ok (.lcmp, 1)) (K : JR X Qf nL k n F ws lv (pc + 1) (.int (lg_cmp x y) :: st)) : JR X Qf nL k n F ws lv pc (.long y :: .long x :: st) := fun o h H locs ls hP hD hS hl => W.lcmp C.1 C.2.1 hd (K o h H locs ls hP hD hS hl)
theorem r_i2l (C : Cx X own cc nL ret rm tys) {x : Int32} (hd : decode cc pc = .ok (.i2l, 1)) (K : JR X Qf nL k n F ws lv (pc + 1) (.long x.toInt64 :: st)) : JR X Qf nL k n F ws lv pc (.int x :: st) := fun o h H locs ls hP hD hS hl => lv_i2l C.1 C.2.1 hd rfl (K o h H locs ls hP hD hS hl)
theorem r_i2b (C : Cx X own cc nL ret rm tys) {x : Int32} (hd : decode cc pc = .ok (.i2b, 1)) (K : JR X Qf nL k n F ws lv (pc + 1) (.int x.toInt8.toInt32 :: st)) : JR X Qf nL k n F ws lv pc (.int x :: st) := fun o h H locs ls hP hD hS hl => lv_i2b C.1 C.2.1 hd rfl (K o h H locs ls hP hD hS hl)
theorem r_i2s (C : Cx X own cc nL ret rm tys) {x : Int32} (hd : decode cc pc = .ok (.i2s, 1)) (K : JR X Qf nL k n F ws lv (pc + 1) (.int x.toInt16.toInt32 :: st)) : JR X Qf nL k n F ws lv pc (.int x :: st) := fun o h H locs ls hP hD hS hl => lv_i2s C.1 C.2.1 hd rfl (K o h H locs ls hP hD hS hl)
theorem r_goto (C : Cx X own cc nL ret rm tys) {off : Int} (hd : decode cc pc = .ok (.goto off, 3)) (ht : (pc : Int) + off = (tgt : Int)) (K : JR X Qf nL k n F ws lv tgt st) : JR X Qf nL k n F ws lv pc st := fun o h H locs ls hP hD hS hl => lv_goto C.1 C.2.1 hd ht (K o h H locs ls hP hD hS hl)
theorem r_ifnull (C : Cx X own cc nL ret rm tys) {x : Nat} {off : Int} (hd : decode cc pc = .ok (.ifnull off, 3)) (K : JR X Qf nL k n F ws lv (pc + 3) st) : JR X Qf nL k n F ws lv pc (.ref x :: st) := fun o h H locs ls hP hD hS hl => lv_ifnull C.1 C.2.1 hd (K o h H locs ls hP hD hS hl)
theorem r_if_eq (C : Cx X own cc nL ret rm tys) {x : Int32} {off : Int} (hd : decode cc pc = .ok (.ifCond .eq off, 3)) (ht : (pc : Int) + off = (tgt : Int)) (K1 : JR X Qf nL k n F1 ws lv tgt st) (K2 : JR X Qf nL k n F2 ws lv (pc + 3) st) : JR X Qf nL k n (if x = 0 then F1 else F2) ws lv pc (.int x :: st) := fun o h H locs ls hP hD hS hl => lv_if_eq C.1 C.2.1 hd ht (fun c => K1 o ((if_pos c).symm.trans h) H locs ls hP hD hS hl) (fun c => K2 o ((if_neg c).symm.trans h) H locs ls hP hD hS hl)
theorem r_icmp_eq (C : Cx X own cc nL ret rm tys) {x y : Int32} {off : Int} (hd : decode cc pc = .ok (.if_icmp .eq off, 3)) (ht : (pc : Int) + off = (tgt : Int)) (K1 : JR X Qf nL k n F1 ws lv tgt st) (K2 : JR X Qf nL k n F2 ws lv (pc + 3) st) : JR X Qf nL k n (if x = y then F1 else F2) ws lv pc (.int y :: .int x :: st) := fun o h H locs ls hP hD hS hl => lv_icmp_eq C.1 C.2.1 hd ht (fun c => K1 o ((if_pos c).symm.trans h) H locs ls hP hD hS hl) (fun c => K2 o ((if_neg c).symm.trans h) H locs ls hP hD hS hl)
theorem r_if_ne (C : Cx X own cc nL ret rm tys) {x : Int32} {off : Int} (hd : decode cc pc = .ok (.ifCond .ne off, 3)) (ht : (pc : Int) + off = (tgt : Int)) (K1 : JR X Qf nL k n F1 ws lv tgt st) (K2 : JR X Qf nL k n F2 ws lv (pc + 3) st) : JR X Qf nL k n (if x = 0 then F2 else F1) ws lv pc (.int x :: st) := fun o h H locs ls hP hD hS hl => lv_if_ne C.1 C.2.1 hd ht (fun c => K1 o ((if_neg c).symm.trans h) H locs ls hP hD hS hl) (fun c => K2 o ((if_pos c).symm.trans h) H locs ls hP hD hS hl)
theorem r_icmp_ne (C : Cx X own cc nL ret rm tys) {x y : Int32} {off : Int} (hd : decode cc pc = .ok (.if_icmp .ne off, 3)) (ht : (pc : Int) + off = (tgt : Int)) (K1 : JR X Qf nL k n F1 ws lv tgt st) (K2 : JR X Qf nL k n F2 ws lv (pc + 3) st) : JR X Qf nL k n (if x = y then F2 else F1) ws lv pc (.int y :: .int x :: st) := fun o h H locs ls hP hD hS hl => lv_icmp_ne C.1 C.2.1 hd ht (fun c => K1 o ((if_neg c).symm.trans h) H locs ls hP hD hS hl) (fun c => K2 o ((if_pos c).symm.trans h) H locs ls hP hD hS hl)
theorem r_if_lt (C : Cx X own cc nL ret rm tys) {x : Int32} {off : Int} (hd : decode cc pc = .ok (.ifCond .lt off, 3)) (ht : (pc : Int) + off = (tgt : Int)) (K1 : JR X Qf nL k n F1 ws lv tgt st) (K2 : JR X Qf nL k n F2 ws lv (pc + 3) st) : JR X Qf nL k n (if x < 0 then F1 else F2) ws lv pc (.int x :: st) := fun o h H locs ls hP hD hS hl => lv_if_lt C.1 C.2.1 hd ht (fun c => K1 o ((if_pos c).symm.trans h) H locs ls hP hD hS hl) (fun c => K2 o ((if_neg c).symm.trans h) H locs ls hP hD hS hl)
theorem r_icmp_lt (C : Cx X own cc nL ret rm tys) {x y : Int32} {off : Int} (hd : decode cc pc = .ok (.if_icmp .lt off, 3)) (ht : (pc : Int) + off = (tgt : Int)) (K1 : JR X Qf nL k n F1 ws lv tgt st) (K2 : JR X Qf nL k n F2 ws lv (pc + 3) st) : JR X Qf nL k n (if x < y then F1 else F2) ws lv pc (.int y :: .int x :: st) := fun o h H locs ls hP hD hS hl => lv_icmp_lt C.1 C.2.1 hd ht (fun c => K1 o ((if_pos c).symm.trans h) H locs ls hP hD hS hl) (fun c => K2 o ((if_neg c).symm.trans h) H locs ls hP hD hS hl)
theorem r_if_ge (C : Cx X own cc nL ret rm tys) {x : Int32} {off : Int} (hd : decode cc pc = .ok (.ifCond .ge off, 3)) (ht : (pc : Int) + off = (tgt : Int)) (K1 : JR X Qf nL k n F1 ws lv tgt st) (K2 : JR X Qf nL k n F2 ws lv (pc + 3) st) : JR X Qf nL k n (if 0 ≤ x then F1 else F2) ws lv pc (.int x :: st) := fun o h H locs ls hP hD hS hl => lv_if_ge C.1 C.2.1 hd ht (fun c => K1 o ((if_pos c).symm.trans h) H locs ls hP hD hS hl) (fun c => K2 o ((if_neg c).symm.trans h) H locs ls hP hD hS hl)
theorem r_icmp_ge (C : Cx X own cc nL ret rm tys) {x y : Int32} {off : Int} (hd : decode cc pc = .ok (.if_icmp .ge off, 3)) (ht : (pc : Int) + off = (tgt : Int)) (K1 : JR X Qf nL k n F1 ws lv tgt st) (K2 : JR X Qf nL k n F2 ws lv (pc + 3) st) : JR X Qf nL k n (if y ≤ x then F1 else F2) ws lv pc (.int y :: .int x :: st) := fun o h H locs ls hP hD hS hl => lv_icmp_ge C.1 C.2.1 hd ht (fun c => K1 o ((if_pos c).symm.trans h) H locs ls hP hD hS hl) (fun c => K2 o ((if_neg c).symm.trans h) H locs ls hP hD hS hl)
theorem r_if_gt (C : Cx X own cc nL ret rm tys) {x : Int32} {off : Int} (hd : decode cc pc = .ok (.ifCond .gt off, 3)) (ht : (pc : Int) + off = (tgt : Int)) (K1 : JR X Qf nL k n F1 ws lv tgt st) (K2 : JR X Qf nL k n F2 ws lv (pc + 3) st) : JR X Qf nL k n (if 0 < x then F1 else F2) ws lv pc (.int x :: st) := fun o h H locs ls hP hD hS hl => lv_if_gt C.1 C.2.1 hd ht (fun c => K1 o ((if_pos c).symm.trans h) H locs ls hP hD hS hl) (fun c => K2 o ((if_neg c).symm.trans h) H locs ls hP hD hS hl)
theorem r_icmp_gt (C : Cx X own cc nL ret rm tys) {x y : Int32} {off : Int} (hd : decode cc pc = .ok (.if_icmp .gt off, 3)) (ht : (pc : Int) + off = (tgt : Int)) (K1 : JR X Qf nL k n F1 ws lv tgt st) (K2 : JR X Qf nL k n F2 ws lv (pc + 3) st) : JR X Qf nL k n (if y < x then F1 else F2) ws lv pc (.int y :: .int x :: st) := fun o h H locs ls hP hD hS hl => lv_icmp_gt C.1 C.2.1 hd ht (fun c => K1 o ((if_pos c).symm.trans h) H locs ls hP hD hS hl) (fun c => K2 o ((if_neg c).symm.trans h) H locs ls hP hD hS hl)
theorem r_if_le (C : Cx X own cc nL ret rm tys) {x : Int32} {off : Int} (hd : decode cc pc = .ok (.ifCond .le off, 3)) (ht : (pc : Int) + off = (tgt : Int)) (K1 : JR X Qf nL k n F1 ws lv tgt st) (K2 : JR X Qf nL k n F2 ws lv (pc + 3) st) : JR X Qf nL k n (if x ≤ 0 then F1 else F2) ws lv pc (.int x :: st) := fun o h H locs ls hP hD hS hl => lv_if_le C.1 C.2.1 hd ht (fun c => K1 o ((if_pos c).symm.trans h) H locs ls hP hD hS hl) (fun c => K2 o ((if_neg c).symm.trans h) H locs ls hP hD hS hl)
theorem r_icmp_le (C : Cx X own cc nL ret rm tys) {x y : Int32} {off : Int} (hd : decode cc pc = .ok (.if_icmp .le off, 3)) (ht : (pc : Int) + off = (tgt : Int)) (K1 : JR X Qf nL k n F1 ws lv tgt st) (K2 : JR X Qf nL k n F2 ws lv (pc + 3) st) : JR X Qf nL k n (if x ≤ y then F1 else F2) ws lv pc (.int y :: .int x :: st) := fun o h H locs ls hP hD hS hl => lv_icmp_le C.1 C.2.1 hd ht (fun c => K1 o ((if_pos c).symm.trans h) H locs ls hP hD hS hl) (fun c => K2 o ((if_neg c).symm.trans h) H locs ls hP hD hS hl)
end RR
end
section
section RS
variable {Out : Type} {X : CX} {Qf : Out → State → Prop} {own : String} {cc : ByteArray} {nL k n : Nat} {ret : Option FieldType} {rm : Room} {tys : List (ClassId × FieldType)} {F F1 F2 : Option Out} {ws ws' : va_W} {lv lv' : List (Nat × Value)} {pc tgt : Nat} {st : List Value}
/-! fields -/
theorem r_get (C : Cx X own cc nL ret rm tys) {Cn : String} {T : u_T} {N ci idx : Nat} (hin : ∀ w ∈ u_ws Cn T N, w ∈ gtbl) (j : Nat) (hj : j < N) (hc : vwCl[ci]? = some (Cn, T, N)) (hl : Cond.fieldLink own idx (T j).1 (T j).2.1 (T j).2.2.1 ∈ gtbl) (q0 : Nat) {a : Nat} {fs : List Value} {v : Value} (he : ws[q0]? = some (a, .inr (ci, fs))) (hv : fs[j]? = some v) (hd : decode cc pc = .ok (.getfield idx, 3)) (K : JR X Qf nL k n F ws lv (pc + 3) (v :: st)) : JR X Qf nL k n F ws lv pc (.ref a :: st) :=
  fun o h H locs ls hP hD hS hl2 => va_get C.1 C.2.1 C.2.2.2.2.1 hin C.ow C.hK hP q0 he hc j hj (C.hts hl) (fun _ h => h) hv hd (K o h H locs ls hP hD hS hl2)
theorem r_getN (C : Cx X own cc nL ret rm tys) {Cn host : String} {T : u_T} {N ci idx : Nat} (hin : ∀ w ∈ u_ws Cn T N, w ∈ gtbl) (j : Nat) (hj : j < N) (hc : vwCl[ci]? = some (Cn, T, N)) (hl : (own, idx, (T j).1, (T j).2.1, (T j).2.2.1, host) ∈ nestF) (q0 : Nat) {a : Nat} {fs : List Value} {v : Value} (he : ws[q0]? = some (a, .inr (ci, fs))) (hv : fs[j]? = some v) (hd : decode cc pc = .ok (.getfield idx, 3)) (K : JR X Qf nL k n F ws lv (pc + 3) (v :: st)) : JR X Qf nL k n F ws lv pc (.ref a :: st) :=
  fun o h H locs ls hP hD hS hl2 => va_getN C.1 C.2.1 C.2.2.2.2.1 hin C.ow C.hK hP q0 he hc j hj (va_Nw.use rfl (C.hN.1 _ hl)) (fun _ h => h) hv hd (K o h H locs ls hP hD hS hl2)
theorem r_put (C : Cx X own cc nL ret rm tys) {Cn : String} {T : u_T} {N ci idx : Nat} (hin : ∀ w ∈ u_ws Cn T N, w ∈ gtbl) (ty0 : Nat → FieldType) (hty : ∀ k, k < N → parseFieldDescriptor (T k).2.2.1 = some (ty0 k)) (hnm : ∀ a, a < N → ∀ b, b < N → a ≠ b → (T a).2.1 ≠ (T b).2.1) (j : Nat) (hj : j < N) (hfin : (T j).2.2.2 = false) {ty : FieldType} (hpd : parseFieldDescriptor (T j).2.2.1 = some ty) (hc : vwCl[ci]? = some (Cn, T, N)) (hl : Cond.fieldLink own idx (T j).1 (T j).2.1 (T j).2.2.1 ∈ gtbl) (q0 : Nat) {a : Nat} {fs : List Value} {v : Value} (he : ws[q0]? = some (a, .inr (ci, fs))) (hn : narrow ty v = v) (hf : fits ty v = true) (hlen : j < fs.length) (hd : decode cc pc = .ok (.putfield idx, 3)) (hw : ws.set q0 (a, .inr (ci, fs.set j v)) = ws') (K : JR X Qf nL k n F ws' lv (pc + 3) st) : JR X Qf nL k n F ws lv pc (v :: .ref a :: st) :=
  fun o h H locs ls hP hD hS hl2 => va_put C.1 C.2.1 C.2.2.2.2.1 hin ty0 hty hnm C.ow C.hK hP hD hS q0 he hc j hj (C.hts hl) (fun _ h => h) hfin hpd hn hf hlen hd (fun H1 locs1 hP1 hD1 hS1 => K o h H1 locs1 ls (hw ▸ hP1) (hw ▸ hD1) hS1 hl2)
theorem r_putN (C : Cx X own cc nL ret rm tys) {Cn host : String} {T : u_T} {N ci idx : Nat} (hin : ∀ w ∈ u_ws Cn T N, w ∈ gtbl) (ty0 : Nat → FieldType) (hty : ∀ k, k < N → parseFieldDescriptor (T k).2.2.1 = some (ty0 k)) (hnm : ∀ a, a < N → ∀ b, b < N → a ≠ b → (T a).2.1 ≠ (T b).2.1) (j : Nat) (hj : j < N) (hfin : (T j).2.2.2 = false) {ty : FieldType} (hpd : parseFieldDescriptor (T j).2.2.1 = some ty) (hc : vwCl[ci]? = some (Cn, T, N)) (hl : (own, idx, (T j).1, (T j).2.1, (T j).2.2.1, host) ∈ nestF) (q0 : Nat) {a : Nat} {fs : List Value} {v : Value} (he : ws[q0]? = some (a, .inr (ci, fs))) (hn : narrow ty v = v) (hf : fits ty v = true) (hlen : j < fs.length) (hd : decode cc pc = .ok (.putfield idx, 3)) (hw : ws.set q0 (a, .inr (ci, fs.set j v)) = ws') (K : JR X Qf nL k n F ws' lv (pc + 3) st) : JR X Qf nL k n F ws lv pc (v :: .ref a :: st) :=
  fun o h H locs ls hP hD hS hl2 => va_putN C.1 C.2.1 C.2.2.2.2.1 hin ty0 hty hnm C.ow C.hK hP hD hS q0 he hc j hj (va_Nw.use rfl (C.hN.1 _ hl)) (fun _ h => h) hfin hpd hn hf hlen hd (fun H1 locs1 hP1 hD1 hS1 => K o h H1 locs1 ls (hw ▸ hP1) (hw ▸ hD1) hS1 hl2)
/-! arrays of ints, of references -/
def tyz (cI cS : ClassId) : List (ClassId × FieldType) := [(cI, .int), (cS, .object "QuietDuty$Sheet")]
theorem r_iald {cI cS : ClassId} (C : Cx X own cc nL ret rm (tyz cI cS)) (q0 : Nat) {a N : Nat} {f : Nat → Int32} {i : Int32} (ha : ws[q0]? = some (a, .inl (cI, N, .inl f))) (hd : decode cc pc = .ok (.iaload, 1)) (K : JR X Qf nL k n F ws lv (pc + 1) (.int (f i.toNatClampNeg) :: st)) : JR X Qf nL k n (if i < 0 ∨ N ≤ i.toNatClampNeg then none else F) ws lv pc (.int i :: .ref a :: st) :=
  fun o h H locs ls hP hD hS hl => by
  by_cases hi : i < 0 ∨ N ≤ i.toNatClampNeg
  · rw [if_pos hi] at h; cases h
  · rw [if_neg hi] at h; exact va_iald C.1 C.2.1 C.hK hP q0 0 ha rfl hi hd (K o h H locs ls hP hD hS hl)
theorem r_iast {cI cS : ClassId} (C : Cx X own cc nL ret rm (tyz cI cS)) (q0 : Nat) {a N : Nat} {f : Nat → Int32} {i x : Int32} (ha : ws[q0]? = some (a, .inl (cI, N, .inl f))) (hd : decode cc pc = .ok (.iastore, 1)) (hw : ws.set q0 (a, .inl (cI, N, .inl (upd f i.toNatClampNeg x))) = ws') (K : JR X Qf nL k n F ws' lv (pc + 1) st) : JR X Qf nL k n (if i < 0 ∨ N ≤ i.toNatClampNeg then none else F) ws lv pc (.int x :: .int i :: .ref a :: st) :=
  fun o h H locs ls hP hD hS hl => by
  by_cases hi : i < 0 ∨ N ≤ i.toNatClampNeg
  · rw [if_pos hi] at h; cases h
  · rw [if_neg hi] at h; exact va_iast C.1 C.2.1 C.hK hP hD hS q0 0 ha rfl hi hd (fun H1 locs1 hP1 hD1 hS1 => K o h H1 locs1 ls (hw ▸ hP1) (hw ▸ hD1) hS1 hl)
theorem r_alen {cI cS : ClassId} (C : Cx X own cc nL ret rm (tyz cI cS)) (q0 : Nat) {a N : Nat} {f : Nat → Int32} (ha : ws[q0]? = some (a, .inl (cI, N, .inl f))) (hd : decode cc pc = .ok (.arraylength, 1)) (K : JR X Qf nL k n F ws lv (pc + 1) (.int (Int32.ofNat N) :: st)) : JR X Qf nL k n F ws lv pc (.ref a :: st) :=
  fun o h H locs ls hP hD hS hl => va_alen C.1 C.2.1 C.hK hP q0 0 ha rfl rfl hd (K o h H locs ls hP hD hS hl)
theorem r_aald {cI cS : ClassId} (C : Cx X own cc nL ret rm (tyz cI cS)) (q0 : Nat) {a N : Nat} {f : Nat → Option Nat} {i : Int32} (ha : ws[q0]? = some (a, .inl (cS, N, .inr (.inr (.inr (.inr f)))))) (hd : decode cc pc = .ok (.aaload, 1)) (K : i.toNatClampNeg < N → JR X Qf nL k n F ws lv (pc + 1) (va_rf (f i.toNatClampNeg) :: st)) : JR X Qf nL k n (if i < 0 ∨ N ≤ i.toNatClampNeg then none else F) ws lv pc (.int i :: .ref a :: st) :=
  fun o h H locs ls hP hD hS hl => by
  by_cases hi : i < 0 ∨ N ≤ i.toNatClampNeg
  · rw [if_pos hi] at h; cases h
  · rw [if_neg hi] at h; exact va_aldq C.1 C.2.1 C.hK hP q0 1 ha rfl hi hd (K (Nat.lt_of_not_le (fun h => hi (Or.inr h))) o h H locs ls hP hD hS hl)
/-! Math.max -/
def okMax (own : String) (idx : Nat) : Prop := Cond.methodLink own idx Lib.Math.max.name ∈ gtbl ∧ Cond.static Lib.Math.max.name ∈ gtbl ∧ Cond.initialized "java/lang/Math" ∈ gtbl ∧ Cond.code Lib.Math.max.name Lib.Math.max.code 2 (some .int) ∈ gtbl
theorem r_max (C : Cx X own cc nL ret rm tys) {idx : Nat} (hw : okMax own idx) (hfr : 1 ≤ rm.frames) (hlo : (st.map fun v => v.category).sum + 13 ≤ rm.locals) (hkn : k ≤ rm.cells ∧ n ≤ rm.slots) {x y : Int32} (hd : decode cc pc = .ok (.invokestatic idx, 3)) (K : JR X Qf nL k n F ws lv (pc + 3) (.int (if x < y then y else x) :: st)) : JR X Qf nL k n F ws lv pc (.int y :: .int x :: st) :=
  fun o h H locs ls hP hD hS hl => va_mmax C.1 C.2.1 (C.2.2.1.trans hl.1.symm) C.ow (C.hts hw.1) (C.hts hw.2.1) (C.hts hw.2.2.1) (C.hts hw.2.2.2) (by rw [C.room]; exact hfr) (by rw [C.room]; exact hlo) (by rw [C.room]; exact hkn.1) (by rw [C.room]; exact hkn.2) hd (K o h H locs ls hP hD hS hl)
/-! ends -/
section ENDS
variable {vv : Out → Option Value} {wd : Out → va_W} {o : Out}
theorem r_iret (C : Cx X own cc nL (some .int) rm tys) {v : Int32} (hv : vv o = some (.int v)) (hw : wd o = ws) (hd : decode cc pc = .ok (.ireturn, 1)) : JR X (QF X tys k n vv wd) nL k n (some o) ws lv pc [.int v] := by
  intro out h H locs ls hP hD hS hl
  cases h
  exact W.iret C.1 C.2.1 C.rt (fun t ht hW => ⟨by rw [hv], ⟨by rw [ht, hw]; exact hP, va_K.moved hW.alike C.hK, by rw [hw]; exact hD⟩, hS.F ht⟩) hS.2.2 hd C.lk
theorem r_zret (C : Cx X own cc nL (some .boolean) rm tys) {v : Int32} (hn : narrow .boolean (.int v) = .int v) (hv : vv o = some (.int v)) (hw : wd o = ws) (hd : decode cc pc = .ok (.ireturn, 1)) : JR X (QF X tys k n vv wd) nL k n (some o) ws lv pc [.int v] := by
  intro out h H locs ls hP hD hS hl
  cases h
  exact W.zret C.1 C.2.1 C.rt hn (fun t ht hW => ⟨by rw [hv], ⟨by rw [ht, hw]; exact hP, va_K.moved hW.alike C.hK, by rw [hw]; exact hD⟩, hS.F ht⟩) hS.2.2 hd C.lk
theorem r_zretG (C : Cx X own cc nL (some .boolean) rm tys) {v : Int32} (hv : vv o = some (.int v)) (hw : wd o = ws) (hd : decode cc pc = .ok (.ireturn, 1)) : JR X (QF X tys k n vv wd) nL k n (if v = 0 ∨ v = 1 then some o else none) ws lv pc [.int v] := by
  by_cases h : v = 0 ∨ v = 1
  · rw [if_pos h]
    refine r_zret C ?_ hv hw hd
    rcases h with rfl | rfl <;> rfl
  · rw [if_neg h]; exact r_none
theorem r_lret (C : Cx X own cc nL (some .long) rm tys) {v : Int64} (hv : vv o = some (.long v)) (hw : wd o = ws) (hd : decode cc pc = .ok (.lreturn, 1)) : JR X (QF X tys k n vv wd) nL k n (some o) ws lv pc [.long v] := by
  intro out h H locs ls hP hD hS hl
  cases h
  exact W.lret C.1 C.2.1 C.rt (fun t ht hW => ⟨by rw [hv], ⟨by rw [ht, hw]; exact hP, va_K.moved hW.alike C.hK, by rw [hw]; exact hD⟩, hS.F ht⟩) hS.2.2 hd C.lk
theorem r_vret (C : Cx X own cc nL none rm tys) (hv : vv o = none) (hw : wd o = ws) (hd : decode cc pc = .ok (.return_, 1)) : JR X (QF X tys k n vv wd) nL k n (some o) ws lv pc [] := by
  intro out h H locs ls hP hD hS hl
  cases h
  exact W.vret C.1 C.2.1 C.rt (fun t ht hW => ⟨by rw [hv], ⟨by rw [ht, hw]; exact hP, va_K.moved hW.alike C.hK, by rw [hw]; exact hD⟩, hS.F ht⟩) hS.2.2 hd C.lk
end ENDS
/-! calls -/
def okD (y : MethodName) (nA : Nat) : Prop := y.cls ≠ "java/lang/invoke/MethodHandle" ∧ y.cls ≠ "java/lang/invoke/VarHandle" ∧ (parseMethodDescriptor y.desc).map (fun d => d.parameters.length) = some nA
def okV (own : String) (idx : Nat) (y : MethodName) (bytes : ByteArray) (maxL : Nat) (rt : Option FieldType) (nA : Nat) : Prop := Cond.methodLink own idx y ∈ gtbl ∧ Cond.instanceMethod y ∈ gtbl ∧ Cond.selects y.cls y y ∈ gtbl ∧ Cond.initialized y.cls ∈ gtbl ∧ Cond.code y bytes maxL rt ∈ gtbl ∧ okD y nA
def okS (own : String) (idx : Nat) (y : MethodName) (bytes : ByteArray) (maxL : Nat) (rt : Option FieldType) (nA : Nat) : Prop := Cond.methodLink own idx y ∈ gtbl ∧ Cond.static y ∈ gtbl ∧ Cond.initialized y.cls ∈ gtbl ∧ Cond.code y bytes maxL rt ∈ gtbl ∧ okD y nA
theorem g_all {y : MethodName} {bytes : ByteArray} {maxL : Nat} {rt : Option FieldType} (h : Cond.code y bytes maxL rt ∈ gtbl) : GoodIn gtbl (.code y bytes maxL rt :: gtbl) := fun w hw => by
  rcases List.mem_cons.mp hw with rfl | hw
  · exact ⟨h, g_good h⟩
  · exact ⟨hw, g_good hw⟩
theorem blind {As : List Value} {D : va_G} {wc : va_W} {sz : Nat} : FrameBlind (va_Pc As (Pr D tys wc sz)) := fun a U g mk q => by
  obtain ⟨q0, q1, qP, qK, qD, qN⟩ := q
  exact ⟨q0, q1, qP, va_K.moved (u := U) (U := U.calling g mk a) (Vm.Alike.refl U.vm) qK, qD, NNf.same (s := U) rfl qN⟩
theorem r_free (C : Cx X own cc nL ret rm tys) {H : Heap} {locs : List Loc} {wc : va_W} (hS : va_S (xA X) (xs X).heap H locs) (hc : ∀ (j : Nat) (q : Nat × va_E), wc[j]? = some q → (xA X) q.1) : ∀ q, va_A wc H.size q → (xA X) q := by
  rintro q (⟨j, e, hj⟩ | hq)
  · exact hc j _ hj
  · exact C.hA q (Nat.le_trans hS.1 hq)
theorem r_S {A A1 : Nat → Prop} {H0 H : Heap} {locs L : List Loc} {st₀ t : State} {T' : Heap} (hS : va_S A H0 H locs) (h0 : st₀.heap = H) (e1 : T' = t.heap) (hF : va_F A1 st₀ t) (hsub : ∀ q, A1 q → A q) (hL : ∀ q ∈ L, A1 q.base) : va_S A H0 T' (locs ++ L) := by
  subst e1
  subst h0
  refine ⟨Nat.le_trans hS.1 hF.1, fun q h1 h2 => ?_, fun q hq => ?_⟩
  · rw [hF.2 q (Nat.lt_of_lt_of_le h1 hS.1) (fun h => h2 (hsub q h))]
    exact hS.2.1 q h1 h2
  · rcases List.mem_append.mp hq with h | h
    · exact hS.2.2 q h
    · exact hsub _ (hL q h)
section CALLS
variable {Out' : Type} {f : Option Out'} {vv : Out' → Option Value} {wd : Out' → va_W} {G : Out' → Option Out} {y : MethodName} {bytes : ByteArray} {maxL idx nA b : Nat} {rt : Option FieldType} {rm' : Room} {As rest : List Value} {wc : va_W}
def rmOk (rm' : Room) (maxL : Nat) (rm : Room) : Bool := Nat.ble (rm'.frames + 1) rm.frames && Nat.ble (8 + (maxL + 11) + rm'.locals) rm.locals && Nat.beq rm'.cells 0 && Nat.beq rm'.slots 0
theorem rmOk_spec {rm' rm : Room} {maxL : Nat} (h : rmOk rm' maxL rm = true) : (rm'.frames + 1 ≤ rm.frames ∧ 8 + (maxL + 11) + rm'.locals ≤ rm.locals) ∧ rm'.cells = 0 ∧ rm'.slots = 0 := by
  unfold rmOk at h
  simp only [Bool.and_eq_true] at h
  exact ⟨⟨Nat.le_of_ble_eq_true h.1.1.1, Nat.le_of_ble_eq_true h.1.1.2⟩, Nat.eq_of_beq_eq_true h.1.2, Nat.eq_of_beq_eq_true h.2⟩
/-- a virtual call over a part wc of the world: what comes back, as it comes -/
theorem r_runV (C : Cx X own cc nL ret rm tys) (hM : MX (xl X) (xD X) tys y bytes maxL rt rm' (.ref b :: As) wc f vv wd) (hw : okV own idx y bytes maxL rt nA)
    {ci N : Nat} {T : u_T} {fs : List Value} (hcl : vwCl[ci]? = some (y.cls, T, N)) (hrc : wc[0]? = some (b, .inr (ci, fs)))
    (hrm : rmOk rm' maxL rm = true) (hkn : k ≤ rm.cells ∧ n ≤ rm.slots) (hst : st = As.reverse ++ .ref b :: rest) (hnA : As.length = nA) (hrest : (rest.map fun v => v.category).sum ≤ 8) (hd : decode cc pc = .ok (.invokevirtual idx, 3))
    {H : Heap} {locs : List Loc} {ls : Array Slot} {o : Out'} (ho : f = some o) (hP : va_P (xD X) vwCl wc H) (hDw : va_D (fun _ => True) wc) (hl : lv_has ls nL lv) :
    va_Run (xp X) (xl X) (xe X) (xR X) (xs X) (xm X) (xa X) (xb X) (xt X) (xc X) H locs k n 0 0 (F0 (xm X) pc ls st) rest (QO (xD X) tys (va_A wc H.size) (vv o) (wd o) (Value.ref b :: As).toArray) (va_A wc H.size) := by
  obtain ⟨hroom, hz1, hz2⟩ := rmOk_spec hrm
  obtain ⟨w1, w2, w3, w4, w5, w6⟩ := hw
  refine va_runV (bytes := bytes) (maxL := maxL) (ret := rt) (n := nA) (C := y.cls) ⟨C.1, C.2.1, C.2.2.1, C.ow, C.2.2.2.2.1⟩ (hM H.size o ho) (cwV nA C.2.2.2.2.1 ?_ rfl hz1 hz2 ⟨rfl, w6⟩ (by rw [C.room]; exact hroom)) ⟨blind, va_recv C.hK hP hcl hrc, fun U hU hW => ⟨rfl, by rw [hU], by rw [hU]; exact hP, va_K.moved hW.alike C.hK, hDw, C.hN.warm hW⟩⟩ rfl hnA hl.1 hst (lv_room hrest) hd (by rw [C.room]; exact hkn)
  intro w hw
  rcases List.mem_append.mp hw with h | h
  · have : w ∈ gtbl := by
      rcases List.mem_cons.mp h with rfl | h
      · exact w1
      rcases List.mem_cons.mp h with rfl | h
      · exact w2
      rcases List.mem_cons.mp h with rfl | h
      · exact w3
      rcases List.mem_cons.mp h with rfl | h
      · exact w4
      cases h
    exact ⟨this, g_good this⟩
  · exact g_all w5 w h
theorem r_runS (C : Cx X own cc nL ret rm tys) (hM : MX (xl X) (xD X) tys y bytes maxL rt rm' As wc f vv wd) (hw : okS own idx y bytes maxL rt nA)
    (hrm : rmOk rm' maxL rm = true) (hkn : k ≤ rm.cells ∧ n ≤ rm.slots) (hst : st = As.reverse ++ rest) (hnA : As.length = nA) (hrest : (rest.map fun v => v.category).sum ≤ 8) (hd : decode cc pc = .ok (.invokestatic idx, 3))
    {H : Heap} {locs : List Loc} {ls : Array Slot} {o : Out'} (ho : f = some o) (hP : va_P (xD X) vwCl wc H) (hDw : va_D (fun _ => True) wc) (hl : lv_has ls nL lv) :
    va_Run (xp X) (xl X) (xe X) (xR X) (xs X) (xm X) (xa X) (xb X) (xt X) (xc X) H locs k n 0 0 (F0 (xm X) pc ls st) rest (QO (xD X) tys (va_A wc H.size) (vv o) (wd o) As.toArray) (va_A wc H.size) := by
  obtain ⟨hroom, hz1, hz2⟩ := rmOk_spec hrm
  obtain ⟨w1, w2, w3, w4, w5⟩ := hw
  exact va_runS (bytes := bytes) (maxL := maxL) (ret := rt) (n := nA) ⟨C.1, C.2.1, C.2.2.1, C.ow, C.2.2.2.2.1⟩ (hM H.size o ho) ⟨callB_of nA C.2.2.2.2.1 (g_all w4) rfl hz1 hz2 (C.hts w3) (C.hts w1) w5 (by rw [C.room]; exact hroom), C.hts w2⟩ ⟨blind, fun U hU hW => ⟨rfl, by rw [hU], by rw [hU]; exact hP, va_K.moved hW.alike C.hK, hDw, C.hN.warm hW⟩⟩ rfl hnA hl.1 hst (lv_room hrest) hd (by rw [C.room]; exact hkn)
/-- behind a run over the whole world -/
theorem r_back0 (C : Cx X own cc nL ret rm tys) {H : Heap} {locs : List Loc} {ls : Array Slot} {o : Out'} {out : Out} {as : Array Value} (hrun : va_Run (xp X) (xl X) (xe X) (xR X) (xs X) (xm X) (xa X) (xb X) (xt X) (xc X) H locs k n 0 0 (F0 (xm X) pc ls st) rest (QO (xD X) tys (va_A ws H.size) (vv o) (wd o) as) (va_A ws H.size)) (hG : G o = some out) (hD : va_D (xA X) ws) (hS : va_S (xA X) (xs X).heap H locs) (hl : lv_has ls nL lv)
    (K : ∀ o, JR X Qf nL k n (G o) (wd o) lv (pc + 3) ((vv o).toList ++ rest)) : W (xp X) (xl X) (xe X) (xR X) (xs X) (xm X) (xa X) (xb X) (xt X) (xc X) H locs k n (Qf out) (F0 (xm X) pc ls st) := by
  intro T hT XX
  obtain ⟨v, st₀, t, T', L, h0, X', hL, e1, e2, ⟨hv, ⟨hP1, hK1, hD1⟩, hF⟩, goes⟩ := hrun T hT XX
  cases hv
  have hfree := r_free C hS (wc := ws) (fun j q hj => hD.2 j q hj)
  obtain ⟨t2, a1, b1⟩ := K o out hG T'.heap (locs ++ L) ls (by rw [e1]; exact hP1) (hD1.weaken (fun _ _ _ h => hfree _ h)) (r_S hS h0 e1 hF hfree hL) hl T' rfl X'
  exact ⟨t2, goes t2 a1, b1⟩
/-- a call over the whole world -/
theorem r_callV0 (C : Cx X own cc nL ret rm tys) (hM : MX (xl X) (xD X) tys y bytes maxL rt rm' (.ref b :: As) ws f vv wd) (hw : okV own idx y bytes maxL rt nA)
    {ci N : Nat} {T : u_T} {fs : List Value} (hcl : vwCl[ci]? = some (y.cls, T, N)) (hrc : ws[0]? = some (b, .inr (ci, fs)))
    (hrm : rmOk rm' maxL rm = true) (hkn : k ≤ rm.cells ∧ n ≤ rm.slots) (hst : st = As.reverse ++ .ref b :: rest) (hnA : As.length = nA) (hrest : (rest.map fun v => v.category).sum ≤ 8) (hd : decode cc pc = .ok (.invokevirtual idx, 3))
    (K : ∀ o, JR X Qf nL k n (G o) (wd o) lv (pc + 3) ((vv o).toList ++ rest)) : JR X Qf nL k n (f.bind G) ws lv pc st := by
  intro out h H locs ls hP hD hS hl
  obtain ⟨o, ho, hG⟩ := Option.bind_eq_some_iff.mp h
  exact r_back0 C (r_runV C hM hw hcl hrc hrm hkn hst hnA hrest hd ho hP (hD.weaken (fun _ _ _ _ => trivial)) hl) hG hD hS hl K
theorem r_callS0 (C : Cx X own cc nL ret rm tys) (hM : MX (xl X) (xD X) tys y bytes maxL rt rm' As ws f vv wd) (hw : okS own idx y bytes maxL rt nA)
    (hrm : rmOk rm' maxL rm = true) (hkn : k ≤ rm.cells ∧ n ≤ rm.slots) (hst : st = As.reverse ++ rest) (hnA : As.length = nA) (hrest : (rest.map fun v => v.category).sum ≤ 8) (hd : decode cc pc = .ok (.invokestatic idx, 3))
    (K : ∀ o, JR X Qf nL k n (G o) (wd o) lv (pc + 3) ((vv o).toList ++ rest)) : JR X Qf nL k n (f.bind G) ws lv pc st := by
  intro out h H locs ls hP hD hS hl
  obtain ⟨o, ho, hG⟩ := Option.bind_eq_some_iff.mp h
  exact r_back0 C (r_runS C hM hw hrm hkn hst hnA hrest hd ho hP (hD.weaken (fun _ _ _ _ => trivial)) hl) hG hD hS hl K
end CALLS
end RS
end
section
/-! calls over a part of the world: the part's places isC; what comes back is put at the same places -/
def va_sets : va_W → List Nat → va_W → va_W
  | ws, i :: is, e :: es => va_sets (ws.set i e) is es
  | ws, _, _ => ws
theorem va_sets_off : ∀ (is : List Nat) (es ws : va_W) (j : Nat), j ∉ is → (va_sets ws is es)[j]? = ws[j]? := by
  intro is
  induction is with
  | nil => intro es ws j _; cases es <;> rfl
  | cons i is ih =>
    intro es ws j hj
    cases es with
    | nil => rfl
    | cons e es =>
      show (va_sets (ws.set i e) is es)[j]? = _
      rw [ih es (ws.set i e) j (fun h => hj (List.mem_cons_of_mem _ h))]
      exact List.getElem?_set_ne (show i ≠ j from fun h => hj (by rw [← h]; exact List.mem_cons_self))
theorem va_sets_on : ∀ (is : List Nat) (es ws : va_W), es.length = is.length → is.Nodup → (∀ i ∈ is, i < ws.length) → ∀ (j : Nat) (i : Nat), is[j]? = some i → (va_sets ws is es)[i]? = es[j]? := by
  intro is
  induction is with
  | nil => intro es ws _ _ _ j i h; simp at h
  | cons i0 is ih =>
    intro es ws hlen hnd hlt j i h
    cases es with
    | nil => simp at hlen
    | cons e es =>
      show (va_sets (ws.set i0 e) is es)[i]? = _
      have hnd' := List.nodup_cons.mp hnd
      cases j with
      | zero =>
        simp at h
        subst h
        rw [va_sets_off is es _ i0 hnd'.1]
        simp [hlt i0 List.mem_cons_self]
      | succ j =>
        simp at h
        rw [ih es (ws.set i0 e) (by simpa using hlen) hnd'.2 (fun x hx => by simpa using hlt x (List.mem_cons_of_mem _ hx)) j i h]
        simp
theorem va_nd_nodup : ∀ {l : List Nat}, va_nd l = true → l.Nodup := by
  intro l
  induction l with
  | nil => intro _; exact List.nodup_nil
  | cons a l ih =>
    intro h
    simp only [va_nd, Bool.and_eq_true] at h
    refine List.nodup_cons.mpr ⟨?_, ih h.2⟩
    have h1 := h.1
    simpa using h1
theorem va_pl_len {is : List Nat} {ws wc : va_W} (hC : is.map (fun i => ws[i]?) = wc.map some) : wc.length = is.length := by
  have := congrArg List.length hC
  simpa using this.symm
theorem va_pl_at {is : List Nat} {ws wc : va_W} (hC : is.map (fun i => ws[i]?) = wc.map some) {j i : Nat} (h : is[j]? = some i) : ws[i]? = wc[j]? := by
  have h1 := congrArg (fun l => l[j]?) hC
  simp only [List.getElem?_map, h, Option.map_some] at h1
  cases hw : wc[j]? with
  | none => rw [hw] at h1; simp at h1
  | some q => rw [hw] at h1; simpa using h1
theorem va_pl_ex {is : List Nat} {ws wc : va_W} (hC : is.map (fun i => ws[i]?) = wc.map some) {j : Nat} {q : Nat × va_E} (h : wc[j]? = some q) : ∃ i, is[j]? = some i ∧ ws[i]? = some q := by
  have hlt : j < is.length := by rw [← va_pl_len hC]; exact (List.getElem?_eq_some_iff.mp h).1
  exact ⟨is[j], List.getElem?_eq_getElem hlt, by rw [va_pl_at hC (List.getElem?_eq_getElem hlt), h]⟩
section CUT
variable {ws wc w1 : va_W} {is : List Nat} {D : va_G} {A : Nat → Prop} {H H1 : Heap}
theorem cut_P (hC : is.map (fun i => ws[i]?) = wc.map some) (hnd : va_nd is = true) (hlen : w1.map Prod.fst = wc.map Prod.fst) (hP : va_P D vwCl ws H) (hD : va_D A ws) (hP1 : va_P D vwCl w1 H1) (hk : ∀ q : Nat, q < H.size → ¬ va_A wc H.size q → H1[q]? = H[q]?) : va_P D vwCl (va_sets ws is w1) H1 := by
  intro p q hq
  have hl1 : w1.length = is.length := by rw [← va_pl_len hC]; simpa using congrArg List.length hlen
  have hlt : ∀ i ∈ is, i < ws.length := by
    intro i hi
    obtain ⟨j, hj⟩ := List.getElem?_of_mem hi
    have e := va_pl_at hC hj
    have hjl : j < wc.length := by rw [va_pl_len hC]; exact (List.getElem?_eq_some_iff.mp hj).1
    rw [List.getElem?_eq_getElem hjl] at e
    exact (List.getElem?_eq_some_iff.mp e).1
  by_cases hp : p ∈ is
  · obtain ⟨j, hj⟩ := List.getElem?_of_mem hp
    rw [va_sets_on is w1 ws hl1 (va_nd_nodup hnd) hlt j p hj] at hq
    exact hP1 j q hq
  · rw [va_sets_off is w1 ws p hp] at hq
    refine (hP p q hq).kept (hk q.1 (hP p q hq).lt ?_)
    rintro (⟨j, e, hj⟩ | hge)
    · obtain ⟨i, hi, hw⟩ := va_pl_ex hC hj
      have := hD.1 i p _ _ hw hq rfl
      exact hp (this ▸ List.mem_of_getElem? hi)
    · exact absurd (hP p q hq).lt (Nat.not_lt.mpr hge)
theorem cut_adr (hC : is.map (fun i => ws[i]?) = wc.map some) (hnd : va_nd is = true) (hlen : w1.map Prod.fst = wc.map Prod.fst) {p : Nat} {q : Nat × va_E} (hq : (va_sets ws is w1)[p]? = some q) : ∃ q', ws[p]? = some q' ∧ q'.1 = q.1 := by
  have hl1 : w1.length = is.length := by rw [← va_pl_len hC]; simpa using congrArg List.length hlen
  have hlt : ∀ i ∈ is, i < ws.length := by
    intro i hi
    obtain ⟨j, hj⟩ := List.getElem?_of_mem hi
    have e := va_pl_at hC hj
    have hjl : j < wc.length := by rw [va_pl_len hC]; exact (List.getElem?_eq_some_iff.mp hj).1
    rw [List.getElem?_eq_getElem hjl] at e
    exact (List.getElem?_eq_some_iff.mp e).1
  by_cases hp : p ∈ is
  · obtain ⟨j, hj⟩ := List.getElem?_of_mem hp
    rw [va_sets_on is w1 ws hl1 (va_nd_nodup hnd) hlt j p hj] at hq
    have hjl : j < wc.length := by rw [va_pl_len hC]; exact (List.getElem?_eq_some_iff.mp hj).1
    refine ⟨wc[j], by rw [va_pl_at hC hj]; exact List.getElem?_eq_getElem hjl, ?_⟩
    have h2 := congrArg (fun l => l[j]?) hlen
    simp only [List.getElem?_map, hq, List.getElem?_eq_getElem hjl, Option.map_some] at h2
    exact (Option.some.inj h2).symm
  · rw [va_sets_off is w1 ws p hp] at hq
    exact ⟨q, hq, rfl⟩
theorem cut_D (hC : is.map (fun i => ws[i]?) = wc.map some) (hnd : va_nd is = true) (hlen : w1.map Prod.fst = wc.map Prod.fst) (hD : va_D A ws) : va_D A (va_sets ws is w1) := by
  refine ⟨fun i j p q hi hj hpq => ?_, fun i q hi => ?_⟩
  · obtain ⟨p', h1, e1⟩ := cut_adr hC hnd hlen hi
    obtain ⟨q', h2, e2⟩ := cut_adr hC hnd hlen hj
    exact hD.1 i j p' q' h1 h2 (by rw [e1, e2, hpq])
  · obtain ⟨q', h1, e1⟩ := cut_adr hC hnd hlen hi
    rw [← e1]
    exact hD.2 i q' h1
theorem cut_sub (hC : is.map (fun i => ws[i]?) = wc.map some) (hP : va_P D vwCl ws H) : va_P D vwCl wc H := fun j q hj => by
  obtain ⟨i, -, hw⟩ := va_pl_ex hC hj
  exact hP i q hw
theorem cut_Dsub (hC : is.map (fun i => ws[i]?) = wc.map some) (hnd : va_nd is = true) (hD : va_D A ws) : va_D A wc := by
  refine ⟨fun a b p q ha hb hpq => ?_, fun a q ha => ?_⟩
  · obtain ⟨i, hi, hw⟩ := va_pl_ex hC ha
    obtain ⟨j, hj, hv⟩ := va_pl_ex hC hb
    have e := hD.1 i j p q hw hv hpq
    subst e
    exact va_nd_inj _ hnd a b _ hi hj
  · obtain ⟨i, hi, hw⟩ := va_pl_ex hC ha
    exact hD.2 i q hw
end CUT
section RC
variable {Out : Type} {X : CX} {Qf : Out → State → Prop} {own : String} {cc : ByteArray} {nL k n : Nat} {ret : Option FieldType} {rm : Room} {tys : List (ClassId × FieldType)} {F F1 F2 : Option Out} {ws : va_W} {lv lv' : List (Nat × Value)} {pc tgt : Nat} {st : List Value}
variable {Out' : Type} {f : Option Out'} {vv : Out' → Option Value} {wd : Out' → va_W} {G : Out' → Option Out} {y : MethodName} {bytes : ByteArray} {maxL idx nA b : Nat} {rt : Option FieldType} {rm' : Room} {As rest : List Value} {wc : va_W}
theorem r_backC (C : Cx X own cc nL ret rm tys) {H : Heap} {locs : List Loc} {ls : Array Slot} {o : Out'} {out : Out} {as : Array Value} (isC : List Nat) (hC : isC.map (fun i => ws[i]?) = wc.map some) (hnd : va_nd isC = true) (ws' : Out' → va_W) (hB : ∀ o, va_sets ws isC (wd o) = ws' o) (hadr : ∀ o, (wd o).map Prod.fst = wc.map Prod.fst)
    (hrun : va_Run (xp X) (xl X) (xe X) (xR X) (xs X) (xm X) (xa X) (xb X) (xt X) (xc X) H locs k n 0 0 (F0 (xm X) pc ls st) rest (QO (xD X) tys (va_A wc H.size) (vv o) (wd o) as) (va_A wc H.size)) (hG : G o = some out) (hP : va_P (xD X) vwCl ws H) (hD : va_D (xA X) ws) (hS : va_S (xA X) (xs X).heap H locs) (hl : lv_has ls nL lv)
    (K : ∀ o, JR X Qf nL k n (G o) (ws' o) lv (pc + 3) ((vv o).toList ++ rest)) : W (xp X) (xl X) (xe X) (xR X) (xs X) (xm X) (xa X) (xb X) (xt X) (xc X) H locs k n (Qf out) (F0 (xm X) pc ls st) := by
  intro T hT XX
  obtain ⟨v, st₀, t, T', L, h0, X', hL, e1, e2, ⟨hv, ⟨hP1, hK1, hD1⟩, hF⟩, goes⟩ := hrun T hT XX
  cases hv
  have hfree := r_free C hS (wc := wc) (fun j q hj => (cut_Dsub hC hnd hD).2 j q hj)
  have hS2 := r_S (L := L) hS h0 e1 hF hfree hL
  rw [← e1] at hP1
  have hk : ∀ q : Nat, q < H.size → ¬ va_A wc H.size q → T'.heap[q]? = H[q]? := fun q h1 h2 => by
    rw [e1, hF.2 q (by rw [h0]; exact h1) h2, h0]
  obtain ⟨t2, a1, b1⟩ := K o out hG T'.heap (locs ++ L) ls (hB o ▸ cut_P hC hnd (hadr o) hP hD hP1 hk) (hB o ▸ cut_D hC hnd (hadr o) hD) hS2 hl T' rfl X'
  exact ⟨t2, goes t2 a1, b1⟩
theorem r_callV (C : Cx X own cc nL ret rm tys) (isC : List Nat) (ws' : Out' → va_W) (hM : MX (xl X) (xD X) tys y bytes maxL rt rm' (.ref b :: As) wc f vv wd) (hw : okV own idx y bytes maxL rt nA) (hC : isC.map (fun i => ws[i]?) = wc.map some) (hnd : va_nd isC = true) (hB : ∀ o, va_sets ws isC (wd o) = ws' o) (hadr : ∀ o, (wd o).map Prod.fst = wc.map Prod.fst)
    {ci N : Nat} {T : u_T} {fs : List Value} (hcl : vwCl[ci]? = some (y.cls, T, N)) (hrc : wc[0]? = some (b, .inr (ci, fs)))
    (hrm : rmOk rm' maxL rm = true) (hkn : k ≤ rm.cells ∧ n ≤ rm.slots) (hst : st = As.reverse ++ .ref b :: rest) (hnA : As.length = nA) (hrest : (rest.map fun v => v.category).sum ≤ 8) (hd : decode cc pc = .ok (.invokevirtual idx, 3))
    (K : ∀ o, JR X Qf nL k n (G o) (ws' o) lv (pc + 3) ((vv o).toList ++ rest)) : JR X Qf nL k n (f.bind G) ws lv pc st := by
  intro out h H locs ls hP hD hS hl
  obtain ⟨o, ho, hG⟩ := Option.bind_eq_some_iff.mp h
  exact r_backC C isC hC hnd ws' hB hadr (r_runV C hM hw hcl hrc hrm hkn hst hnA hrest hd ho (cut_sub hC hP) ((cut_Dsub hC hnd hD).weaken (fun _ _ _ _ => trivial)) hl) hG hP hD hS hl K
theorem r_callS (C : Cx X own cc nL ret rm tys) (isC : List Nat) (ws' : Out' → va_W) (hM : MX (xl X) (xD X) tys y bytes maxL rt rm' As wc f vv wd) (hw : okS own idx y bytes maxL rt nA) (hC : isC.map (fun i => ws[i]?) = wc.map some) (hnd : va_nd isC = true) (hB : ∀ o, va_sets ws isC (wd o) = ws' o) (hadr : ∀ o, (wd o).map Prod.fst = wc.map Prod.fst)
    (hrm : rmOk rm' maxL rm = true) (hkn : k ≤ rm.cells ∧ n ≤ rm.slots) (hst : st = As.reverse ++ rest) (hnA : As.length = nA) (hrest : (rest.map fun v => v.category).sum ≤ 8) (hd : decode cc pc = .ok (.invokestatic idx, 3))
    (K : ∀ o, JR X Qf nL k n (G o) (ws' o) lv (pc + 3) ((vv o).toList ++ rest)) : JR X Qf nL k n (f.bind G) ws lv pc st := by
  intro out h H locs ls hP hD hS hl
  obtain ⟨o, ho, hG⟩ := Option.bind_eq_some_iff.mp h
  exact r_backC C isC hC hnd ws' hB hadr (r_runS C hM hw hrm hkn hst hnA hrest hd ho (cut_sub hC hP) ((cut_Dsub hC hnd hD).weaken (fun _ _ _ _ => trivial)) hl) hG hP hD hS hl K
/-- a call that leaves its part as it was -/
theorem va_sets_self {is : List Nat} {ws wc : va_W} (hC : is.map (fun i => ws[i]?) = wc.map some) : va_sets ws is wc = ws := by
  induction is generalizing wc with
  | nil => cases wc <;> rfl
  | cons i is ih =>
    cases wc with
    | nil => rfl
    | cons e es =>
      simp only [List.map_cons, List.cons.injEq] at hC
      show va_sets (ws.set i e) is es = ws
      have e1 : ws.set i e = ws := by
        apply List.ext_getElem?
        intro j
        by_cases hj : i = j
        · subst hj
          have hlt := (List.getElem?_eq_some_iff.mp hC.1).1
          rw [hC.1, List.getElem?_set_self hlt]
        · exact List.getElem?_set_ne hj
      rw [e1]
      exact ih hC.2
theorem r_callVr (C : Cx X own cc nL ret rm tys) (isC : List Nat) (hM : MX (xl X) (xD X) tys y bytes maxL rt rm' (.ref b :: As) wc f vv (fun _ => wc)) (hw : okV own idx y bytes maxL rt nA) (hC : isC.map (fun i => ws[i]?) = wc.map some) (hnd : va_nd isC = true)
    {ci N : Nat} {T : u_T} {fs : List Value} (hcl : vwCl[ci]? = some (y.cls, T, N)) (hrc : wc[0]? = some (b, .inr (ci, fs)))
    (hrm : rmOk rm' maxL rm = true) (hkn : k ≤ rm.cells ∧ n ≤ rm.slots) (hst : st = As.reverse ++ .ref b :: rest) (hnA : As.length = nA) (hrest : (rest.map fun v => v.category).sum ≤ 8) (hd : decode cc pc = .ok (.invokevirtual idx, 3))
    (K : ∀ o, JR X Qf nL k n (G o) ws lv (pc + 3) ((vv o).toList ++ rest)) : JR X Qf nL k n (f.bind G) ws lv pc st :=
  r_callV C isC (fun _ => ws) hM hw hC hnd (fun _ => va_sets_self hC) (fun _ => rfl) hcl hrc hrm hkn hst hnA hrest hd K
theorem r_callSr (C : Cx X own cc nL ret rm tys) (hM : MX (xl X) (xD X) tys y bytes maxL rt rm' As [] f vv (fun _ => [])) (hw : okS own idx y bytes maxL rt nA)
    (hrm : rmOk rm' maxL rm = true) (hkn : k ≤ rm.cells ∧ n ≤ rm.slots) (hst : st = As.reverse ++ rest) (hnA : As.length = nA) (hrest : (rest.map fun v => v.category).sum ≤ 8) (hd : decode cc pc = .ok (.invokestatic idx, 3))
    (K : ∀ o, JR X Qf nL k n (G o) ws lv (pc + 3) ((vv o).toList ++ rest)) : JR X Qf nL k n (f.bind G) ws lv pc st :=
  r_callS C [] (fun _ => ws) hM hw rfl rfl (fun _ => rfl) (fun _ => rfl) hrm hkn hst hnA hrest hd K
end RC
end
section
theorem inG_of (ws : List Cond) (ps : List Nat) (hp : ws = ps.filterMap (fun i => tables_1[i]?)) (hg : ws.all goodWord = true) : ∀ w ∈ ws, w ∈ gtbl := fun w hw => by
  have h1 := List.all_eq_true.mp hg w hw
  rw [hp] at hw
  obtain ⟨i, -, hi⟩ := List.mem_filterMap.mp hw
  exact g_tb i hi h1
set_option maxRecDepth 20000 in
theorem inG_X0 : ∀ w ∈ u_ws RX0 TX0 16, w ∈ gtbl := inG_of _ [112, 114, 116, 118, 120, 122, 124, 126, 128, 130, 132, 134, 136, 138, 140, 142] (by decide +kernel) (by decide +kernel)
set_option maxRecDepth 20000 in
theorem inG_X1 : ∀ w ∈ u_ws RX1 TX1 3, w ∈ gtbl := inG_of _ [31, 33, 35] (by decide +kernel) (by decide +kernel)
set_option maxRecDepth 20000 in
theorem inG_X2 : ∀ w ∈ u_ws RX2 TX2 4, w ∈ gtbl := inG_of _ [49, 51, 53, 55] (by decide +kernel) (by decide +kernel)
set_option maxRecDepth 20000 in
theorem inG_X3 : ∀ w ∈ u_ws RX3 TX3 2, w ∈ gtbl := inG_of _ [66, 68] (by decide +kernel) (by decide +kernel)
set_option maxRecDepth 20000 in
theorem inG_X4 : ∀ w ∈ u_ws RX4 TX4 7, w ∈ gtbl := inG_of _ [152, 154, 156, 158, 160, 162, 164] (by decide +kernel) (by decide +kernel)
set_option maxRecDepth 20000 in
theorem inG_X5 : ∀ w ∈ u_ws RX5 TX5 34, w ∈ gtbl := inG_of _ [581, 583, 585, 587, 589, 591, 593, 595, 597, 599, 601, 603, 605, 607, 609, 611, 613, 615, 617, 619, 621, 623, 625, 627, 629, 631, 633, 635, 637, 639, 641, 643, 645, 647] (by decide +kernel) (by decide +kernel)
section FLD
variable {Out : Type} {X : CX} {Qf : Out → State → Prop} {cc : ByteArray} {nL k n : Nat} {ret : Option FieldType} {rm : Room} {tys : List (ClassId × FieldType)} {F : Option Out} {ws ws' : va_W} {lv : List (Nat × Value)} {pc : Nat} {st : List Value}
theorem kf_X1_9 : Cond.fieldLink RX1 9 (TX1 0).1 (TX1 0).2.1 (TX1 0).2.2.1 ∈ gtbl := g_tb 25 (by decide +kernel) (by decide +kernel)
theorem gf_X1_9 (C : Cx X RX1 cc nL ret rm tys) (q0 : Nat) {a : Nat} {fs : List Value} {v : Value} (he : ws[q0]? = some (a, .inr (1, fs))) (hv : fs[0]? = some v) (hd : decode cc pc = .ok (.getfield 9, 3)) (K : JR X Qf nL k n F ws lv (pc + 3) (v :: st)) : JR X Qf nL k n F ws lv pc (.ref a :: st) := r_get C inG_X1 0 (by decide) rfl kf_X1_9 q0 he hv hd K
theorem kf_X2_71 : (RX2, 71, (TX1 0).1, (TX1 0).2.1, (TX1 0).2.2.1, "QuietDuty") ∈ nestF := List.mem_of_getElem? (i := 0) rfl
theorem gf_X2_71 (C : Cx X RX2 cc nL ret rm tys) (q0 : Nat) {a : Nat} {fs : List Value} {v : Value} (he : ws[q0]? = some (a, .inr (1, fs))) (hv : fs[0]? = some v) (hd : decode cc pc = .ok (.getfield 71, 3)) (K : JR X Qf nL k n F ws lv (pc + 3) (v :: st)) : JR X Qf nL k n F ws lv pc (.ref a :: st) := r_getN C inG_X1 0 (by decide) rfl kf_X2_71 q0 he hv hd K
theorem kf_X4_222 : (RX4, 222, (TX1 0).1, (TX1 0).2.1, (TX1 0).2.2.1, "QuietDuty") ∈ nestF := List.mem_of_getElem? (i := 1) rfl
theorem gf_X4_222 (C : Cx X RX4 cc nL ret rm tys) (q0 : Nat) {a : Nat} {fs : List Value} {v : Value} (he : ws[q0]? = some (a, .inr (1, fs))) (hv : fs[0]? = some v) (hd : decode cc pc = .ok (.getfield 222, 3)) (K : JR X Qf nL k n F ws lv (pc + 3) (v :: st)) : JR X Qf nL k n F ws lv pc (.ref a :: st) := r_getN C inG_X1 0 (by decide) rfl kf_X4_222 q0 he hv hd K
theorem kf_X1_15 : Cond.fieldLink RX1 15 (TX1 1).1 (TX1 1).2.1 (TX1 1).2.2.1 ∈ gtbl := g_tb 28 (by decide +kernel) (by decide +kernel)
theorem gf_X1_15 (C : Cx X RX1 cc nL ret rm tys) (q0 : Nat) {a : Nat} {fs : List Value} {v : Value} (he : ws[q0]? = some (a, .inr (1, fs))) (hv : fs[1]? = some v) (hd : decode cc pc = .ok (.getfield 15, 3)) (K : JR X Qf nL k n F ws lv (pc + 3) (v :: st)) : JR X Qf nL k n F ws lv pc (.ref a :: st) := r_get C inG_X1 1 (by decide) rfl kf_X1_15 q0 he hv hd K
theorem pf_X1_15 (C : Cx X RX1 cc nL ret rm tys) (q0 : Nat) {a : Nat} {fs : List Value} {x : Int32} (he : ws[q0]? = some (a, .inr (1, fs))) (hlen : fs.length = 3) (hd : decode cc pc = .ok (.putfield 15, 3)) (hw : ws.set q0 (a, .inr (1, fs.set 1 (.int x))) = ws') (K : JR X Qf nL k n F ws' lv (pc + 3) st) : JR X Qf nL k n F ws lv pc (.int x :: .ref a :: st) := r_put (ty := .int) C inG_X1 tyX1 tyX1_ok nmX1 1 (by decide) rfl (by decide +kernel) rfl kf_X1_15 q0 he rfl rfl (by rw [hlen]; decide) hd hw K
theorem kf_X4_228 : (RX4, 228, (TX1 1).1, (TX1 1).2.1, (TX1 1).2.2.1, "QuietDuty") ∈ nestF := List.mem_of_getElem? (i := 2) rfl
theorem gf_X4_228 (C : Cx X RX4 cc nL ret rm tys) (q0 : Nat) {a : Nat} {fs : List Value} {v : Value} (he : ws[q0]? = some (a, .inr (1, fs))) (hv : fs[1]? = some v) (hd : decode cc pc = .ok (.getfield 228, 3)) (K : JR X Qf nL k n F ws lv (pc + 3) (v :: st)) : JR X Qf nL k n F ws lv pc (.ref a :: st) := r_getN C inG_X1 1 (by decide) rfl kf_X4_228 q0 he hv hd K
theorem pf_X4_228 (C : Cx X RX4 cc nL ret rm tys) (q0 : Nat) {a : Nat} {fs : List Value} {x : Int32} (he : ws[q0]? = some (a, .inr (1, fs))) (hlen : fs.length = 3) (hd : decode cc pc = .ok (.putfield 228, 3)) (hw : ws.set q0 (a, .inr (1, fs.set 1 (.int x))) = ws') (K : JR X Qf nL k n F ws' lv (pc + 3) st) : JR X Qf nL k n F ws lv pc (.int x :: .ref a :: st) := r_putN (ty := .int) C inG_X1 tyX1 tyX1_ok nmX1 1 (by decide) rfl (by decide +kernel) rfl kf_X4_228 q0 he rfl rfl (by rw [hlen]; decide) hd hw K
theorem kf_X1_25 : Cond.fieldLink RX1 25 (TX1 2).1 (TX1 2).2.1 (TX1 2).2.2.1 ∈ gtbl := g_tb 30 (by decide +kernel) (by decide +kernel)
theorem gf_X1_25 (C : Cx X RX1 cc nL ret rm tys) (q0 : Nat) {a : Nat} {fs : List Value} {v : Value} (he : ws[q0]? = some (a, .inr (1, fs))) (hv : fs[2]? = some v) (hd : decode cc pc = .ok (.getfield 25, 3)) (K : JR X Qf nL k n F ws lv (pc + 3) (v :: st)) : JR X Qf nL k n F ws lv pc (.ref a :: st) := r_get C inG_X1 2 (by decide) rfl kf_X1_25 q0 he hv hd K
theorem pf_X1_25 (C : Cx X RX1 cc nL ret rm tys) (q0 : Nat) {a : Nat} {fs : List Value} {x : Int32} (he : ws[q0]? = some (a, .inr (1, fs))) (hlen : fs.length = 3) (hd : decode cc pc = .ok (.putfield 25, 3)) (hw : ws.set q0 (a, .inr (1, fs.set 2 (.int x))) = ws') (K : JR X Qf nL k n F ws' lv (pc + 3) st) : JR X Qf nL k n F ws lv pc (.int x :: .ref a :: st) := r_put (ty := .int) C inG_X1 tyX1 tyX1_ok nmX1 2 (by decide) rfl (by decide +kernel) rfl kf_X1_25 q0 he rfl rfl (by rw [hlen]; decide) hd hw K
theorem kf_X2_9 : Cond.fieldLink RX2 9 (TX2 0).1 (TX2 0).2.1 (TX2 0).2.2.1 ∈ gtbl := g_tb 45 (by decide +kernel) (by decide +kernel)
theorem gf_X2_9 (C : Cx X RX2 cc nL ret rm tys) (q0 : Nat) {a : Nat} {fs : List Value} {v : Value} (he : ws[q0]? = some (a, .inr (2, fs))) (hv : fs[0]? = some v) (hd : decode cc pc = .ok (.getfield 9, 3)) (K : JR X Qf nL k n F ws lv (pc + 3) (v :: st)) : JR X Qf nL k n F ws lv pc (.ref a :: st) := r_get C inG_X2 0 (by decide) rfl kf_X2_9 q0 he hv hd K
theorem pf_X2_9 (C : Cx X RX2 cc nL ret rm tys) (q0 : Nat) {a : Nat} {fs : List Value} {x : Nat} (he : ws[q0]? = some (a, .inr (2, fs))) (hlen : fs.length = 4) (hd : decode cc pc = .ok (.putfield 9, 3)) (hw : ws.set q0 (a, .inr (2, fs.set 0 (.ref x))) = ws') (K : JR X Qf nL k n F ws' lv (pc + 3) st) : JR X Qf nL k n F ws lv pc (.ref x :: .ref a :: st) := r_put (ty := (.object "QuietDuty$Sheet")) C inG_X2 tyX2 tyX2_ok nmX2 0 (by decide) rfl (by decide +kernel) rfl kf_X2_9 q0 he rfl rfl (by rw [hlen]; decide) hd hw K
theorem kf_X2_15 : Cond.fieldLink RX2 15 (TX2 1).1 (TX2 1).2.1 (TX2 1).2.2.1 ∈ gtbl := g_tb 46 (by decide +kernel) (by decide +kernel)
theorem gf_X2_15 (C : Cx X RX2 cc nL ret rm tys) (q0 : Nat) {a : Nat} {fs : List Value} {v : Value} (he : ws[q0]? = some (a, .inr (2, fs))) (hv : fs[1]? = some v) (hd : decode cc pc = .ok (.getfield 15, 3)) (K : JR X Qf nL k n F ws lv (pc + 3) (v :: st)) : JR X Qf nL k n F ws lv pc (.ref a :: st) := r_get C inG_X2 1 (by decide) rfl kf_X2_15 q0 he hv hd K
theorem pf_X2_15 (C : Cx X RX2 cc nL ret rm tys) (q0 : Nat) {a : Nat} {fs : List Value} {x : Int32} (he : ws[q0]? = some (a, .inr (2, fs))) (hlen : fs.length = 4) (hd : decode cc pc = .ok (.putfield 15, 3)) (hw : ws.set q0 (a, .inr (2, fs.set 1 (.int x))) = ws') (K : JR X Qf nL k n F ws' lv (pc + 3) st) : JR X Qf nL k n F ws lv pc (.int x :: .ref a :: st) := r_put (ty := .int) C inG_X2 tyX2 tyX2_ok nmX2 1 (by decide) rfl (by decide +kernel) rfl kf_X2_15 q0 he rfl rfl (by rw [hlen]; decide) hd hw K
theorem kf_X2_19 : Cond.fieldLink RX2 19 (TX2 2).1 (TX2 2).2.1 (TX2 2).2.2.1 ∈ gtbl := g_tb 47 (by decide +kernel) (by decide +kernel)
theorem gf_X2_19 (C : Cx X RX2 cc nL ret rm tys) (q0 : Nat) {a : Nat} {fs : List Value} {v : Value} (he : ws[q0]? = some (a, .inr (2, fs))) (hv : fs[2]? = some v) (hd : decode cc pc = .ok (.getfield 19, 3)) (K : JR X Qf nL k n F ws lv (pc + 3) (v :: st)) : JR X Qf nL k n F ws lv pc (.ref a :: st) := r_get C inG_X2 2 (by decide) rfl kf_X2_19 q0 he hv hd K
theorem pf_X2_19 (C : Cx X RX2 cc nL ret rm tys) (q0 : Nat) {a : Nat} {fs : List Value} {x : Int32} (he : ws[q0]? = some (a, .inr (2, fs))) (hlen : fs.length = 4) (hd : decode cc pc = .ok (.putfield 19, 3)) (hw : ws.set q0 (a, .inr (2, fs.set 2 (.int x))) = ws') (K : JR X Qf nL k n F ws' lv (pc + 3) st) : JR X Qf nL k n F ws lv pc (.int x :: .ref a :: st) := r_put (ty := .int) C inG_X2 tyX2 tyX2_ok nmX2 2 (by decide) rfl (by decide +kernel) rfl kf_X2_19 q0 he rfl rfl (by rw [hlen]; decide) hd hw K
theorem kf_X2_22 : Cond.fieldLink RX2 22 (TX2 3).1 (TX2 3).2.1 (TX2 3).2.2.1 ∈ gtbl := g_tb 48 (by decide +kernel) (by decide +kernel)
theorem gf_X2_22 (C : Cx X RX2 cc nL ret rm tys) (q0 : Nat) {a : Nat} {fs : List Value} {v : Value} (he : ws[q0]? = some (a, .inr (2, fs))) (hv : fs[3]? = some v) (hd : decode cc pc = .ok (.getfield 22, 3)) (K : JR X Qf nL k n F ws lv (pc + 3) (v :: st)) : JR X Qf nL k n F ws lv pc (.ref a :: st) := r_get C inG_X2 3 (by decide) rfl kf_X2_22 q0 he hv hd K
theorem pf_X2_22 (C : Cx X RX2 cc nL ret rm tys) (q0 : Nat) {a : Nat} {fs : List Value} {x : Int32} (he : ws[q0]? = some (a, .inr (2, fs))) (hlen : fs.length = 4) (hd : decode cc pc = .ok (.putfield 22, 3)) (hw : ws.set q0 (a, .inr (2, fs.set 3 (.int x))) = ws') (K : JR X Qf nL k n F ws' lv (pc + 3) st) : JR X Qf nL k n F ws lv pc (.int x :: .ref a :: st) := r_put (ty := .int) C inG_X2 tyX2 tyX2_ok nmX2 3 (by decide) rfl (by decide +kernel) rfl kf_X2_22 q0 he rfl rfl (by rw [hlen]; decide) hd hw K
theorem kf_X3_9 : Cond.fieldLink RX3 9 (TX3 0).1 (TX3 0).2.1 (TX3 0).2.2.1 ∈ gtbl := g_tb 64 (by decide +kernel) (by decide +kernel)
theorem gf_X3_9 (C : Cx X RX3 cc nL ret rm tys) (q0 : Nat) {a : Nat} {fs : List Value} {v : Value} (he : ws[q0]? = some (a, .inr (3, fs))) (hv : fs[0]? = some v) (hd : decode cc pc = .ok (.getfield 9, 3)) (K : JR X Qf nL k n F ws lv (pc + 3) (v :: st)) : JR X Qf nL k n F ws lv pc (.ref a :: st) := r_get C inG_X3 0 (by decide) rfl kf_X3_9 q0 he hv hd K
theorem kf_X3_15 : Cond.fieldLink RX3 15 (TX3 1).1 (TX3 1).2.1 (TX3 1).2.2.1 ∈ gtbl := g_tb 65 (by decide +kernel) (by decide +kernel)
theorem gf_X3_15 (C : Cx X RX3 cc nL ret rm tys) (q0 : Nat) {a : Nat} {fs : List Value} {v : Value} (he : ws[q0]? = some (a, .inr (3, fs))) (hv : fs[1]? = some v) (hd : decode cc pc = .ok (.getfield 15, 3)) (K : JR X Qf nL k n F ws lv (pc + 3) (v :: st)) : JR X Qf nL k n F ws lv pc (.ref a :: st) := r_get C inG_X3 1 (by decide) rfl kf_X3_15 q0 he hv hd K
theorem pf_X3_15 (C : Cx X RX3 cc nL ret rm tys) (q0 : Nat) {a : Nat} {fs : List Value} {x : Int32} (he : ws[q0]? = some (a, .inr (3, fs))) (hlen : fs.length = 2) (hd : decode cc pc = .ok (.putfield 15, 3)) (hw : ws.set q0 (a, .inr (3, fs.set 1 (.int x))) = ws') (K : JR X Qf nL k n F ws' lv (pc + 3) st) : JR X Qf nL k n F ws lv pc (.int x :: .ref a :: st) := r_put (ty := .int) C inG_X3 tyX3 tyX3_ok nmX3 1 (by decide) rfl (by decide +kernel) rfl kf_X3_15 q0 he rfl rfl (by rw [hlen]; decide) hd hw K
theorem kf_X0_43 : Cond.fieldLink RX0 43 (TX0 0).1 (TX0 0).2.1 (TX0 0).2.2.1 ∈ gtbl := g_tb 77 (by decide +kernel) (by decide +kernel)
theorem gf_X0_43 (C : Cx X RX0 cc nL ret rm tys) (q0 : Nat) {a : Nat} {fs : List Value} {v : Value} (he : ws[q0]? = some (a, .inr (0, fs))) (hv : fs[0]? = some v) (hd : decode cc pc = .ok (.getfield 43, 3)) (K : JR X Qf nL k n F ws lv (pc + 3) (v :: st)) : JR X Qf nL k n F ws lv pc (.ref a :: st) := r_get C inG_X0 0 (by decide) rfl kf_X0_43 q0 he hv hd K
theorem pf_X0_43 (C : Cx X RX0 cc nL ret rm tys) (q0 : Nat) {a : Nat} {fs : List Value} {x : Int32} (he : ws[q0]? = some (a, .inr (0, fs))) (hlen : fs.length = 16) (hd : decode cc pc = .ok (.putfield 43, 3)) (hw : ws.set q0 (a, .inr (0, fs.set 0 (.int x))) = ws') (K : JR X Qf nL k n F ws' lv (pc + 3) st) : JR X Qf nL k n F ws lv pc (.int x :: .ref a :: st) := r_put (ty := .int) C inG_X0 tyX0 tyX0_ok nmX0 0 (by decide) rfl (by decide +kernel) rfl kf_X0_43 q0 he rfl rfl (by rw [hlen]; decide) hd hw K
theorem kf_X4_179 : (RX4, 179, (TX0 0).1, (TX0 0).2.1, (TX0 0).2.2.1, "QuietDuty") ∈ nestF := List.mem_of_getElem? (i := 3) rfl
theorem gf_X4_179 (C : Cx X RX4 cc nL ret rm tys) (q0 : Nat) {a : Nat} {fs : List Value} {v : Value} (he : ws[q0]? = some (a, .inr (0, fs))) (hv : fs[0]? = some v) (hd : decode cc pc = .ok (.getfield 179, 3)) (K : JR X Qf nL k n F ws lv (pc + 3) (v :: st)) : JR X Qf nL k n F ws lv pc (.ref a :: st) := r_getN C inG_X0 0 (by decide) rfl kf_X4_179 q0 he hv hd K
theorem pf_X4_179 (C : Cx X RX4 cc nL ret rm tys) (q0 : Nat) {a : Nat} {fs : List Value} {x : Int32} (he : ws[q0]? = some (a, .inr (0, fs))) (hlen : fs.length = 16) (hd : decode cc pc = .ok (.putfield 179, 3)) (hw : ws.set q0 (a, .inr (0, fs.set 0 (.int x))) = ws') (K : JR X Qf nL k n F ws' lv (pc + 3) st) : JR X Qf nL k n F ws lv pc (.int x :: .ref a :: st) := r_putN (ty := .int) C inG_X0 tyX0 tyX0_ok nmX0 0 (by decide) rfl (by decide +kernel) rfl kf_X4_179 q0 he rfl rfl (by rw [hlen]; decide) hd hw K
theorem kf_X0_9 : Cond.fieldLink RX0 9 (TX0 1).1 (TX0 1).2.1 (TX0 1).2.2.1 ∈ gtbl := g_tb 79 (by decide +kernel) (by decide +kernel)
theorem gf_X0_9 (C : Cx X RX0 cc nL ret rm tys) (q0 : Nat) {a : Nat} {fs : List Value} {v : Value} (he : ws[q0]? = some (a, .inr (0, fs))) (hv : fs[1]? = some v) (hd : decode cc pc = .ok (.getfield 9, 3)) (K : JR X Qf nL k n F ws lv (pc + 3) (v :: st)) : JR X Qf nL k n F ws lv pc (.ref a :: st) := r_get C inG_X0 1 (by decide) rfl kf_X0_9 q0 he hv hd K
theorem kf_X4_79 : (RX4, 79, (TX0 1).1, (TX0 1).2.1, (TX0 1).2.2.1, "QuietDuty") ∈ nestF := List.mem_of_getElem? (i := 4) rfl
theorem gf_X4_79 (C : Cx X RX4 cc nL ret rm tys) (q0 : Nat) {a : Nat} {fs : List Value} {v : Value} (he : ws[q0]? = some (a, .inr (0, fs))) (hv : fs[1]? = some v) (hd : decode cc pc = .ok (.getfield 79, 3)) (K : JR X Qf nL k n F ws lv (pc + 3) (v :: st)) : JR X Qf nL k n F ws lv pc (.ref a :: st) := r_getN C inG_X0 1 (by decide) rfl kf_X4_79 q0 he hv hd K
theorem kf_X3_45 : (RX3, 45, (TX0 1).1, (TX0 1).2.1, (TX0 1).2.2.1, "QuietDuty") ∈ nestF := List.mem_of_getElem? (i := 5) rfl
theorem gf_X3_45 (C : Cx X RX3 cc nL ret rm tys) (q0 : Nat) {a : Nat} {fs : List Value} {v : Value} (he : ws[q0]? = some (a, .inr (0, fs))) (hv : fs[1]? = some v) (hd : decode cc pc = .ok (.getfield 45, 3)) (K : JR X Qf nL k n F ws lv (pc + 3) (v :: st)) : JR X Qf nL k n F ws lv pc (.ref a :: st) := r_getN C inG_X0 1 (by decide) rfl kf_X3_45 q0 he hv hd K
theorem kf_X0_15 : Cond.fieldLink RX0 15 (TX0 2).1 (TX0 2).2.1 (TX0 2).2.2.1 ∈ gtbl := g_tb 82 (by decide +kernel) (by decide +kernel)
theorem gf_X0_15 (C : Cx X RX0 cc nL ret rm tys) (q0 : Nat) {a : Nat} {fs : List Value} {v : Value} (he : ws[q0]? = some (a, .inr (0, fs))) (hv : fs[2]? = some v) (hd : decode cc pc = .ok (.getfield 15, 3)) (K : JR X Qf nL k n F ws lv (pc + 3) (v :: st)) : JR X Qf nL k n F ws lv pc (.ref a :: st) := r_get C inG_X0 2 (by decide) rfl kf_X0_15 q0 he hv hd K
theorem kf_X4_83 : (RX4, 83, (TX0 2).1, (TX0 2).2.1, (TX0 2).2.2.1, "QuietDuty") ∈ nestF := List.mem_of_getElem? (i := 6) rfl
theorem gf_X4_83 (C : Cx X RX4 cc nL ret rm tys) (q0 : Nat) {a : Nat} {fs : List Value} {v : Value} (he : ws[q0]? = some (a, .inr (0, fs))) (hv : fs[2]? = some v) (hd : decode cc pc = .ok (.getfield 83, 3)) (K : JR X Qf nL k n F ws lv (pc + 3) (v :: st)) : JR X Qf nL k n F ws lv pc (.ref a :: st) := r_getN C inG_X0 2 (by decide) rfl kf_X4_83 q0 he hv hd K
theorem kf_X0_46 : Cond.fieldLink RX0 46 (TX0 3).1 (TX0 3).2.1 (TX0 3).2.2.1 ∈ gtbl := g_tb 84 (by decide +kernel) (by decide +kernel)
theorem gf_X0_46 (C : Cx X RX0 cc nL ret rm tys) (q0 : Nat) {a : Nat} {fs : List Value} {v : Value} (he : ws[q0]? = some (a, .inr (0, fs))) (hv : fs[3]? = some v) (hd : decode cc pc = .ok (.getfield 46, 3)) (K : JR X Qf nL k n F ws lv (pc + 3) (v :: st)) : JR X Qf nL k n F ws lv pc (.ref a :: st) := r_get C inG_X0 3 (by decide) rfl kf_X0_46 q0 he hv hd K
theorem pf_X0_46 (C : Cx X RX0 cc nL ret rm tys) (q0 : Nat) {a : Nat} {fs : List Value} {x : Int32} (he : ws[q0]? = some (a, .inr (0, fs))) (hlen : fs.length = 16) (hd : decode cc pc = .ok (.putfield 46, 3)) (hw : ws.set q0 (a, .inr (0, fs.set 3 (.int x))) = ws') (K : JR X Qf nL k n F ws' lv (pc + 3) st) : JR X Qf nL k n F ws lv pc (.int x :: .ref a :: st) := r_put (ty := .int) C inG_X0 tyX0 tyX0_ok nmX0 3 (by decide) rfl (by decide +kernel) rfl kf_X0_46 q0 he rfl rfl (by rw [hlen]; decide) hd hw K
theorem kf_X4_72 : (RX4, 72, (TX0 3).1, (TX0 3).2.1, (TX0 3).2.2.1, "QuietDuty") ∈ nestF := List.mem_of_getElem? (i := 7) rfl
theorem gf_X4_72 (C : Cx X RX4 cc nL ret rm tys) (q0 : Nat) {a : Nat} {fs : List Value} {v : Value} (he : ws[q0]? = some (a, .inr (0, fs))) (hv : fs[3]? = some v) (hd : decode cc pc = .ok (.getfield 72, 3)) (K : JR X Qf nL k n F ws lv (pc + 3) (v :: st)) : JR X Qf nL k n F ws lv pc (.ref a :: st) := r_getN C inG_X0 3 (by decide) rfl kf_X4_72 q0 he hv hd K
theorem pf_X4_72 (C : Cx X RX4 cc nL ret rm tys) (q0 : Nat) {a : Nat} {fs : List Value} {x : Int32} (he : ws[q0]? = some (a, .inr (0, fs))) (hlen : fs.length = 16) (hd : decode cc pc = .ok (.putfield 72, 3)) (hw : ws.set q0 (a, .inr (0, fs.set 3 (.int x))) = ws') (K : JR X Qf nL k n F ws' lv (pc + 3) st) : JR X Qf nL k n F ws lv pc (.int x :: .ref a :: st) := r_putN (ty := .int) C inG_X0 tyX0 tyX0_ok nmX0 3 (by decide) rfl (by decide +kernel) rfl kf_X4_72 q0 he rfl rfl (by rw [hlen]; decide) hd hw K
theorem kf_X3_27 : (RX3, 27, (TX0 3).1, (TX0 3).2.1, (TX0 3).2.2.1, "QuietDuty") ∈ nestF := List.mem_of_getElem? (i := 8) rfl
theorem gf_X3_27 (C : Cx X RX3 cc nL ret rm tys) (q0 : Nat) {a : Nat} {fs : List Value} {v : Value} (he : ws[q0]? = some (a, .inr (0, fs))) (hv : fs[3]? = some v) (hd : decode cc pc = .ok (.getfield 27, 3)) (K : JR X Qf nL k n F ws lv (pc + 3) (v :: st)) : JR X Qf nL k n F ws lv pc (.ref a :: st) := r_getN C inG_X0 3 (by decide) rfl kf_X3_27 q0 he hv hd K
theorem pf_X3_27 (C : Cx X RX3 cc nL ret rm tys) (q0 : Nat) {a : Nat} {fs : List Value} {x : Int32} (he : ws[q0]? = some (a, .inr (0, fs))) (hlen : fs.length = 16) (hd : decode cc pc = .ok (.putfield 27, 3)) (hw : ws.set q0 (a, .inr (0, fs.set 3 (.int x))) = ws') (K : JR X Qf nL k n F ws' lv (pc + 3) st) : JR X Qf nL k n F ws lv pc (.int x :: .ref a :: st) := r_putN (ty := .int) C inG_X0 tyX0 tyX0_ok nmX0 3 (by decide) rfl (by decide +kernel) rfl kf_X3_27 q0 he rfl rfl (by rw [hlen]; decide) hd hw K
theorem kf_X0_18 : Cond.fieldLink RX0 18 (TX0 4).1 (TX0 4).2.1 (TX0 4).2.2.1 ∈ gtbl := g_tb 87 (by decide +kernel) (by decide +kernel)
theorem gf_X0_18 (C : Cx X RX0 cc nL ret rm tys) (q0 : Nat) {a : Nat} {fs : List Value} {v : Value} (he : ws[q0]? = some (a, .inr (0, fs))) (hv : fs[4]? = some v) (hd : decode cc pc = .ok (.getfield 18, 3)) (K : JR X Qf nL k n F ws lv (pc + 3) (v :: st)) : JR X Qf nL k n F ws lv pc (.ref a :: st) := r_get C inG_X0 4 (by decide) rfl kf_X0_18 q0 he hv hd K
theorem kf_X4_89 : (RX4, 89, (TX0 4).1, (TX0 4).2.1, (TX0 4).2.2.1, "QuietDuty") ∈ nestF := List.mem_of_getElem? (i := 9) rfl
theorem gf_X4_89 (C : Cx X RX4 cc nL ret rm tys) (q0 : Nat) {a : Nat} {fs : List Value} {v : Value} (he : ws[q0]? = some (a, .inr (0, fs))) (hv : fs[4]? = some v) (hd : decode cc pc = .ok (.getfield 89, 3)) (K : JR X Qf nL k n F ws lv (pc + 3) (v :: st)) : JR X Qf nL k n F ws lv pc (.ref a :: st) := r_getN C inG_X0 4 (by decide) rfl kf_X4_89 q0 he hv hd K
theorem kf_X0_21 : Cond.fieldLink RX0 21 (TX0 5).1 (TX0 5).2.1 (TX0 5).2.2.1 ∈ gtbl := g_tb 89 (by decide +kernel) (by decide +kernel)
theorem gf_X0_21 (C : Cx X RX0 cc nL ret rm tys) (q0 : Nat) {a : Nat} {fs : List Value} {v : Value} (he : ws[q0]? = some (a, .inr (0, fs))) (hv : fs[5]? = some v) (hd : decode cc pc = .ok (.getfield 21, 3)) (K : JR X Qf nL k n F ws lv (pc + 3) (v :: st)) : JR X Qf nL k n F ws lv pc (.ref a :: st) := r_get C inG_X0 5 (by decide) rfl kf_X0_21 q0 he hv hd K
theorem kf_X4_92 : (RX4, 92, (TX0 5).1, (TX0 5).2.1, (TX0 5).2.2.1, "QuietDuty") ∈ nestF := List.mem_of_getElem? (i := 10) rfl
theorem gf_X4_92 (C : Cx X RX4 cc nL ret rm tys) (q0 : Nat) {a : Nat} {fs : List Value} {v : Value} (he : ws[q0]? = some (a, .inr (0, fs))) (hv : fs[5]? = some v) (hd : decode cc pc = .ok (.getfield 92, 3)) (K : JR X Qf nL k n F ws lv (pc + 3) (v :: st)) : JR X Qf nL k n F ws lv pc (.ref a :: st) := r_getN C inG_X0 5 (by decide) rfl kf_X4_92 q0 he hv hd K
theorem kf_X0_24 : Cond.fieldLink RX0 24 (TX0 6).1 (TX0 6).2.1 (TX0 6).2.2.1 ∈ gtbl := g_tb 91 (by decide +kernel) (by decide +kernel)
theorem gf_X0_24 (C : Cx X RX0 cc nL ret rm tys) (q0 : Nat) {a : Nat} {fs : List Value} {v : Value} (he : ws[q0]? = some (a, .inr (0, fs))) (hv : fs[6]? = some v) (hd : decode cc pc = .ok (.getfield 24, 3)) (K : JR X Qf nL k n F ws lv (pc + 3) (v :: st)) : JR X Qf nL k n F ws lv pc (.ref a :: st) := r_get C inG_X0 6 (by decide) rfl kf_X0_24 q0 he hv hd K
theorem kf_X4_95 : (RX4, 95, (TX0 6).1, (TX0 6).2.1, (TX0 6).2.2.1, "QuietDuty") ∈ nestF := List.mem_of_getElem? (i := 11) rfl
theorem gf_X4_95 (C : Cx X RX4 cc nL ret rm tys) (q0 : Nat) {a : Nat} {fs : List Value} {v : Value} (he : ws[q0]? = some (a, .inr (0, fs))) (hv : fs[6]? = some v) (hd : decode cc pc = .ok (.getfield 95, 3)) (K : JR X Qf nL k n F ws lv (pc + 3) (v :: st)) : JR X Qf nL k n F ws lv pc (.ref a :: st) := r_getN C inG_X0 6 (by decide) rfl kf_X4_95 q0 he hv hd K
theorem kf_X0_27 : Cond.fieldLink RX0 27 (TX0 7).1 (TX0 7).2.1 (TX0 7).2.2.1 ∈ gtbl := g_tb 93 (by decide +kernel) (by decide +kernel)
theorem gf_X0_27 (C : Cx X RX0 cc nL ret rm tys) (q0 : Nat) {a : Nat} {fs : List Value} {v : Value} (he : ws[q0]? = some (a, .inr (0, fs))) (hv : fs[7]? = some v) (hd : decode cc pc = .ok (.getfield 27, 3)) (K : JR X Qf nL k n F ws lv (pc + 3) (v :: st)) : JR X Qf nL k n F ws lv pc (.ref a :: st) := r_get C inG_X0 7 (by decide) rfl kf_X0_27 q0 he hv hd K
theorem kf_X4_104 : (RX4, 104, (TX0 7).1, (TX0 7).2.1, (TX0 7).2.2.1, "QuietDuty") ∈ nestF := List.mem_of_getElem? (i := 12) rfl
theorem gf_X4_104 (C : Cx X RX4 cc nL ret rm tys) (q0 : Nat) {a : Nat} {fs : List Value} {v : Value} (he : ws[q0]? = some (a, .inr (0, fs))) (hv : fs[7]? = some v) (hd : decode cc pc = .ok (.getfield 104, 3)) (K : JR X Qf nL k n F ws lv (pc + 3) (v :: st)) : JR X Qf nL k n F ws lv pc (.ref a :: st) := r_getN C inG_X0 7 (by decide) rfl kf_X4_104 q0 he hv hd K
theorem kf_X0_30 : Cond.fieldLink RX0 30 (TX0 8).1 (TX0 8).2.1 (TX0 8).2.2.1 ∈ gtbl := g_tb 95 (by decide +kernel) (by decide +kernel)
theorem gf_X0_30 (C : Cx X RX0 cc nL ret rm tys) (q0 : Nat) {a : Nat} {fs : List Value} {v : Value} (he : ws[q0]? = some (a, .inr (0, fs))) (hv : fs[8]? = some v) (hd : decode cc pc = .ok (.getfield 30, 3)) (K : JR X Qf nL k n F ws lv (pc + 3) (v :: st)) : JR X Qf nL k n F ws lv pc (.ref a :: st) := r_get C inG_X0 8 (by decide) rfl kf_X0_30 q0 he hv hd K
theorem kf_X4_130 : (RX4, 130, (TX0 8).1, (TX0 8).2.1, (TX0 8).2.2.1, "QuietDuty") ∈ nestF := List.mem_of_getElem? (i := 13) rfl
theorem gf_X4_130 (C : Cx X RX4 cc nL ret rm tys) (q0 : Nat) {a : Nat} {fs : List Value} {v : Value} (he : ws[q0]? = some (a, .inr (0, fs))) (hv : fs[8]? = some v) (hd : decode cc pc = .ok (.getfield 130, 3)) (K : JR X Qf nL k n F ws lv (pc + 3) (v :: st)) : JR X Qf nL k n F ws lv pc (.ref a :: st) := r_getN C inG_X0 8 (by decide) rfl kf_X4_130 q0 he hv hd K
theorem kf_X0_49 : Cond.fieldLink RX0 49 (TX0 9).1 (TX0 9).2.1 (TX0 9).2.2.1 ∈ gtbl := g_tb 97 (by decide +kernel) (by decide +kernel)
theorem gf_X0_49 (C : Cx X RX0 cc nL ret rm tys) (q0 : Nat) {a : Nat} {fs : List Value} {v : Value} (he : ws[q0]? = some (a, .inr (0, fs))) (hv : fs[9]? = some v) (hd : decode cc pc = .ok (.getfield 49, 3)) (K : JR X Qf nL k n F ws lv (pc + 3) (v :: st)) : JR X Qf nL k n F ws lv pc (.ref a :: st) := r_get C inG_X0 9 (by decide) rfl kf_X0_49 q0 he hv hd K
theorem pf_X0_49 (C : Cx X RX0 cc nL ret rm tys) (q0 : Nat) {a : Nat} {fs : List Value} {x : Int32} (he : ws[q0]? = some (a, .inr (0, fs))) (hlen : fs.length = 16) (hd : decode cc pc = .ok (.putfield 49, 3)) (hw : ws.set q0 (a, .inr (0, fs.set 9 (.int x))) = ws') (K : JR X Qf nL k n F ws' lv (pc + 3) st) : JR X Qf nL k n F ws lv pc (.int x :: .ref a :: st) := r_put (ty := .int) C inG_X0 tyX0 tyX0_ok nmX0 9 (by decide) rfl (by decide +kernel) rfl kf_X0_49 q0 he rfl rfl (by rw [hlen]; decide) hd hw K
theorem kf_X4_127 : (RX4, 127, (TX0 9).1, (TX0 9).2.1, (TX0 9).2.2.1, "QuietDuty") ∈ nestF := List.mem_of_getElem? (i := 14) rfl
theorem gf_X4_127 (C : Cx X RX4 cc nL ret rm tys) (q0 : Nat) {a : Nat} {fs : List Value} {v : Value} (he : ws[q0]? = some (a, .inr (0, fs))) (hv : fs[9]? = some v) (hd : decode cc pc = .ok (.getfield 127, 3)) (K : JR X Qf nL k n F ws lv (pc + 3) (v :: st)) : JR X Qf nL k n F ws lv pc (.ref a :: st) := r_getN C inG_X0 9 (by decide) rfl kf_X4_127 q0 he hv hd K
theorem pf_X4_127 (C : Cx X RX4 cc nL ret rm tys) (q0 : Nat) {a : Nat} {fs : List Value} {x : Int32} (he : ws[q0]? = some (a, .inr (0, fs))) (hlen : fs.length = 16) (hd : decode cc pc = .ok (.putfield 127, 3)) (hw : ws.set q0 (a, .inr (0, fs.set 9 (.int x))) = ws') (K : JR X Qf nL k n F ws' lv (pc + 3) st) : JR X Qf nL k n F ws lv pc (.int x :: .ref a :: st) := r_putN (ty := .int) C inG_X0 tyX0 tyX0_ok nmX0 9 (by decide) rfl (by decide +kernel) rfl kf_X4_127 q0 he rfl rfl (by rw [hlen]; decide) hd hw K
theorem kf_X0_52 : Cond.fieldLink RX0 52 (TX0 10).1 (TX0 10).2.1 (TX0 10).2.2.1 ∈ gtbl := g_tb 99 (by decide +kernel) (by decide +kernel)
theorem gf_X0_52 (C : Cx X RX0 cc nL ret rm tys) (q0 : Nat) {a : Nat} {fs : List Value} {v : Value} (he : ws[q0]? = some (a, .inr (0, fs))) (hv : fs[10]? = some v) (hd : decode cc pc = .ok (.getfield 52, 3)) (K : JR X Qf nL k n F ws lv (pc + 3) (v :: st)) : JR X Qf nL k n F ws lv pc (.ref a :: st) := r_get C inG_X0 10 (by decide) rfl kf_X0_52 q0 he hv hd K
theorem pf_X0_52 (C : Cx X RX0 cc nL ret rm tys) (q0 : Nat) {a : Nat} {fs : List Value} {x : Int32} (he : ws[q0]? = some (a, .inr (0, fs))) (hlen : fs.length = 16) (hd : decode cc pc = .ok (.putfield 52, 3)) (hw : ws.set q0 (a, .inr (0, fs.set 10 (.int x))) = ws') (K : JR X Qf nL k n F ws' lv (pc + 3) st) : JR X Qf nL k n F ws lv pc (.int x :: .ref a :: st) := r_put (ty := .int) C inG_X0 tyX0 tyX0_ok nmX0 10 (by decide) rfl (by decide +kernel) rfl kf_X0_52 q0 he rfl rfl (by rw [hlen]; decide) hd hw K
theorem kf_X4_124 : (RX4, 124, (TX0 10).1, (TX0 10).2.1, (TX0 10).2.2.1, "QuietDuty") ∈ nestF := List.mem_of_getElem? (i := 15) rfl
theorem gf_X4_124 (C : Cx X RX4 cc nL ret rm tys) (q0 : Nat) {a : Nat} {fs : List Value} {v : Value} (he : ws[q0]? = some (a, .inr (0, fs))) (hv : fs[10]? = some v) (hd : decode cc pc = .ok (.getfield 124, 3)) (K : JR X Qf nL k n F ws lv (pc + 3) (v :: st)) : JR X Qf nL k n F ws lv pc (.ref a :: st) := r_getN C inG_X0 10 (by decide) rfl kf_X4_124 q0 he hv hd K
theorem pf_X4_124 (C : Cx X RX4 cc nL ret rm tys) (q0 : Nat) {a : Nat} {fs : List Value} {x : Int32} (he : ws[q0]? = some (a, .inr (0, fs))) (hlen : fs.length = 16) (hd : decode cc pc = .ok (.putfield 124, 3)) (hw : ws.set q0 (a, .inr (0, fs.set 10 (.int x))) = ws') (K : JR X Qf nL k n F ws' lv (pc + 3) st) : JR X Qf nL k n F ws lv pc (.int x :: .ref a :: st) := r_putN (ty := .int) C inG_X0 tyX0 tyX0_ok nmX0 10 (by decide) rfl (by decide +kernel) rfl kf_X4_124 q0 he rfl rfl (by rw [hlen]; decide) hd hw K
theorem kf_X0_55 : Cond.fieldLink RX0 55 (TX0 11).1 (TX0 11).2.1 (TX0 11).2.2.1 ∈ gtbl := g_tb 101 (by decide +kernel) (by decide +kernel)
theorem gf_X0_55 (C : Cx X RX0 cc nL ret rm tys) (q0 : Nat) {a : Nat} {fs : List Value} {v : Value} (he : ws[q0]? = some (a, .inr (0, fs))) (hv : fs[11]? = some v) (hd : decode cc pc = .ok (.getfield 55, 3)) (K : JR X Qf nL k n F ws lv (pc + 3) (v :: st)) : JR X Qf nL k n F ws lv pc (.ref a :: st) := r_get C inG_X0 11 (by decide) rfl kf_X0_55 q0 he hv hd K
theorem pf_X0_55 (C : Cx X RX0 cc nL ret rm tys) (q0 : Nat) {a : Nat} {fs : List Value} {x : Int32} (he : ws[q0]? = some (a, .inr (0, fs))) (hlen : fs.length = 16) (hd : decode cc pc = .ok (.putfield 55, 3)) (hw : ws.set q0 (a, .inr (0, fs.set 11 (.int x))) = ws') (K : JR X Qf nL k n F ws' lv (pc + 3) st) : JR X Qf nL k n F ws lv pc (.int x :: .ref a :: st) := r_put (ty := .int) C inG_X0 tyX0 tyX0_ok nmX0 11 (by decide) rfl (by decide +kernel) rfl kf_X0_55 q0 he rfl rfl (by rw [hlen]; decide) hd hw K
theorem kf_X2_37 : (RX2, 37, (TX0 11).1, (TX0 11).2.1, (TX0 11).2.2.1, "QuietDuty") ∈ nestF := List.mem_of_getElem? (i := 16) rfl
theorem gf_X2_37 (C : Cx X RX2 cc nL ret rm tys) (q0 : Nat) {a : Nat} {fs : List Value} {v : Value} (he : ws[q0]? = some (a, .inr (0, fs))) (hv : fs[11]? = some v) (hd : decode cc pc = .ok (.getfield 37, 3)) (K : JR X Qf nL k n F ws lv (pc + 3) (v :: st)) : JR X Qf nL k n F ws lv pc (.ref a :: st) := r_getN C inG_X0 11 (by decide) rfl kf_X2_37 q0 he hv hd K
theorem pf_X2_37 (C : Cx X RX2 cc nL ret rm tys) (q0 : Nat) {a : Nat} {fs : List Value} {x : Int32} (he : ws[q0]? = some (a, .inr (0, fs))) (hlen : fs.length = 16) (hd : decode cc pc = .ok (.putfield 37, 3)) (hw : ws.set q0 (a, .inr (0, fs.set 11 (.int x))) = ws') (K : JR X Qf nL k n F ws' lv (pc + 3) st) : JR X Qf nL k n F ws lv pc (.int x :: .ref a :: st) := r_putN (ty := .int) C inG_X0 tyX0 tyX0_ok nmX0 11 (by decide) rfl (by decide +kernel) rfl kf_X2_37 q0 he rfl rfl (by rw [hlen]; decide) hd hw K
theorem kf_X4_121 : (RX4, 121, (TX0 11).1, (TX0 11).2.1, (TX0 11).2.2.1, "QuietDuty") ∈ nestF := List.mem_of_getElem? (i := 17) rfl
theorem gf_X4_121 (C : Cx X RX4 cc nL ret rm tys) (q0 : Nat) {a : Nat} {fs : List Value} {v : Value} (he : ws[q0]? = some (a, .inr (0, fs))) (hv : fs[11]? = some v) (hd : decode cc pc = .ok (.getfield 121, 3)) (K : JR X Qf nL k n F ws lv (pc + 3) (v :: st)) : JR X Qf nL k n F ws lv pc (.ref a :: st) := r_getN C inG_X0 11 (by decide) rfl kf_X4_121 q0 he hv hd K
theorem pf_X4_121 (C : Cx X RX4 cc nL ret rm tys) (q0 : Nat) {a : Nat} {fs : List Value} {x : Int32} (he : ws[q0]? = some (a, .inr (0, fs))) (hlen : fs.length = 16) (hd : decode cc pc = .ok (.putfield 121, 3)) (hw : ws.set q0 (a, .inr (0, fs.set 11 (.int x))) = ws') (K : JR X Qf nL k n F ws' lv (pc + 3) st) : JR X Qf nL k n F ws lv pc (.int x :: .ref a :: st) := r_putN (ty := .int) C inG_X0 tyX0 tyX0_ok nmX0 11 (by decide) rfl (by decide +kernel) rfl kf_X4_121 q0 he rfl rfl (by rw [hlen]; decide) hd hw K
theorem kf_X0_33 : Cond.fieldLink RX0 33 (TX0 12).1 (TX0 12).2.1 (TX0 12).2.2.1 ∈ gtbl := g_tb 104 (by decide +kernel) (by decide +kernel)
theorem gf_X0_33 (C : Cx X RX0 cc nL ret rm tys) (q0 : Nat) {a : Nat} {fs : List Value} {v : Value} (he : ws[q0]? = some (a, .inr (0, fs))) (hv : fs[12]? = some v) (hd : decode cc pc = .ok (.getfield 33, 3)) (K : JR X Qf nL k n F ws lv (pc + 3) (v :: st)) : JR X Qf nL k n F ws lv pc (.ref a :: st) := r_get C inG_X0 12 (by decide) rfl kf_X0_33 q0 he hv hd K
theorem pf_X0_33 (C : Cx X RX0 cc nL ret rm tys) (q0 : Nat) {a : Nat} {fs : List Value} {x : Int32} (he : ws[q0]? = some (a, .inr (0, fs))) (hlen : fs.length = 16) (hd : decode cc pc = .ok (.putfield 33, 3)) (hw : ws.set q0 (a, .inr (0, fs.set 12 (.int x))) = ws') (K : JR X Qf nL k n F ws' lv (pc + 3) st) : JR X Qf nL k n F ws lv pc (.int x :: .ref a :: st) := r_put (ty := .int) C inG_X0 tyX0 tyX0_ok nmX0 12 (by decide) rfl (by decide +kernel) rfl kf_X0_33 q0 he rfl rfl (by rw [hlen]; decide) hd hw K
theorem kf_X4_188 : (RX4, 188, (TX0 12).1, (TX0 12).2.1, (TX0 12).2.2.1, "QuietDuty") ∈ nestF := List.mem_of_getElem? (i := 18) rfl
theorem gf_X4_188 (C : Cx X RX4 cc nL ret rm tys) (q0 : Nat) {a : Nat} {fs : List Value} {v : Value} (he : ws[q0]? = some (a, .inr (0, fs))) (hv : fs[12]? = some v) (hd : decode cc pc = .ok (.getfield 188, 3)) (K : JR X Qf nL k n F ws lv (pc + 3) (v :: st)) : JR X Qf nL k n F ws lv pc (.ref a :: st) := r_getN C inG_X0 12 (by decide) rfl kf_X4_188 q0 he hv hd K
theorem pf_X4_188 (C : Cx X RX4 cc nL ret rm tys) (q0 : Nat) {a : Nat} {fs : List Value} {x : Int32} (he : ws[q0]? = some (a, .inr (0, fs))) (hlen : fs.length = 16) (hd : decode cc pc = .ok (.putfield 188, 3)) (hw : ws.set q0 (a, .inr (0, fs.set 12 (.int x))) = ws') (K : JR X Qf nL k n F ws' lv (pc + 3) st) : JR X Qf nL k n F ws lv pc (.int x :: .ref a :: st) := r_putN (ty := .int) C inG_X0 tyX0 tyX0_ok nmX0 12 (by decide) rfl (by decide +kernel) rfl kf_X4_188 q0 he rfl rfl (by rw [hlen]; decide) hd hw K
theorem kf_X0_58 : Cond.fieldLink RX0 58 (TX0 13).1 (TX0 13).2.1 (TX0 13).2.2.1 ∈ gtbl := g_tb 106 (by decide +kernel) (by decide +kernel)
theorem gf_X0_58 (C : Cx X RX0 cc nL ret rm tys) (q0 : Nat) {a : Nat} {fs : List Value} {v : Value} (he : ws[q0]? = some (a, .inr (0, fs))) (hv : fs[13]? = some v) (hd : decode cc pc = .ok (.getfield 58, 3)) (K : JR X Qf nL k n F ws lv (pc + 3) (v :: st)) : JR X Qf nL k n F ws lv pc (.ref a :: st) := r_get C inG_X0 13 (by decide) rfl kf_X0_58 q0 he hv hd K
theorem pf_X0_58 (C : Cx X RX0 cc nL ret rm tys) (q0 : Nat) {a : Nat} {fs : List Value} {x : Int32} (he : ws[q0]? = some (a, .inr (0, fs))) (hlen : fs.length = 16) (hd : decode cc pc = .ok (.putfield 58, 3)) (hw : ws.set q0 (a, .inr (0, fs.set 13 (.int x))) = ws') (K : JR X Qf nL k n F ws' lv (pc + 3) st) : JR X Qf nL k n F ws lv pc (.int x :: .ref a :: st) := r_put (ty := .int) C inG_X0 tyX0 tyX0_ok nmX0 13 (by decide) rfl (by decide +kernel) rfl kf_X0_58 q0 he rfl rfl (by rw [hlen]; decide) hd hw K
theorem kf_X4_192 : (RX4, 192, (TX0 13).1, (TX0 13).2.1, (TX0 13).2.2.1, "QuietDuty") ∈ nestF := List.mem_of_getElem? (i := 19) rfl
theorem gf_X4_192 (C : Cx X RX4 cc nL ret rm tys) (q0 : Nat) {a : Nat} {fs : List Value} {v : Value} (he : ws[q0]? = some (a, .inr (0, fs))) (hv : fs[13]? = some v) (hd : decode cc pc = .ok (.getfield 192, 3)) (K : JR X Qf nL k n F ws lv (pc + 3) (v :: st)) : JR X Qf nL k n F ws lv pc (.ref a :: st) := r_getN C inG_X0 13 (by decide) rfl kf_X4_192 q0 he hv hd K
theorem pf_X4_192 (C : Cx X RX4 cc nL ret rm tys) (q0 : Nat) {a : Nat} {fs : List Value} {x : Int32} (he : ws[q0]? = some (a, .inr (0, fs))) (hlen : fs.length = 16) (hd : decode cc pc = .ok (.putfield 192, 3)) (hw : ws.set q0 (a, .inr (0, fs.set 13 (.int x))) = ws') (K : JR X Qf nL k n F ws' lv (pc + 3) st) : JR X Qf nL k n F ws lv pc (.int x :: .ref a :: st) := r_putN (ty := .int) C inG_X0 tyX0 tyX0_ok nmX0 13 (by decide) rfl (by decide +kernel) rfl kf_X4_192 q0 he rfl rfl (by rw [hlen]; decide) hd hw K
theorem kf_X0_37 : Cond.fieldLink RX0 37 (TX0 14).1 (TX0 14).2.1 (TX0 14).2.2.1 ∈ gtbl := g_tb 108 (by decide +kernel) (by decide +kernel)
theorem gf_X0_37 (C : Cx X RX0 cc nL ret rm tys) (q0 : Nat) {a : Nat} {fs : List Value} {v : Value} (he : ws[q0]? = some (a, .inr (0, fs))) (hv : fs[14]? = some v) (hd : decode cc pc = .ok (.getfield 37, 3)) (K : JR X Qf nL k n F ws lv (pc + 3) (v :: st)) : JR X Qf nL k n F ws lv pc (.ref a :: st) := r_get C inG_X0 14 (by decide) rfl kf_X0_37 q0 he hv hd K
theorem kf_X4_195 : (RX4, 195, (TX0 14).1, (TX0 14).2.1, (TX0 14).2.2.1, "QuietDuty") ∈ nestF := List.mem_of_getElem? (i := 20) rfl
theorem gf_X4_195 (C : Cx X RX4 cc nL ret rm tys) (q0 : Nat) {a : Nat} {fs : List Value} {v : Value} (he : ws[q0]? = some (a, .inr (0, fs))) (hv : fs[14]? = some v) (hd : decode cc pc = .ok (.getfield 195, 3)) (K : JR X Qf nL k n F ws lv (pc + 3) (v :: st)) : JR X Qf nL k n F ws lv pc (.ref a :: st) := r_getN C inG_X0 14 (by decide) rfl kf_X4_195 q0 he hv hd K
theorem kf_X0_40 : Cond.fieldLink RX0 40 (TX0 15).1 (TX0 15).2.1 (TX0 15).2.2.1 ∈ gtbl := g_tb 110 (by decide +kernel) (by decide +kernel)
theorem gf_X0_40 (C : Cx X RX0 cc nL ret rm tys) (q0 : Nat) {a : Nat} {fs : List Value} {v : Value} (he : ws[q0]? = some (a, .inr (0, fs))) (hv : fs[15]? = some v) (hd : decode cc pc = .ok (.getfield 40, 3)) (K : JR X Qf nL k n F ws lv (pc + 3) (v :: st)) : JR X Qf nL k n F ws lv pc (.ref a :: st) := r_get C inG_X0 15 (by decide) rfl kf_X0_40 q0 he hv hd K
theorem kf_X4_198 : (RX4, 198, (TX0 15).1, (TX0 15).2.1, (TX0 15).2.2.1, "QuietDuty") ∈ nestF := List.mem_of_getElem? (i := 21) rfl
theorem gf_X4_198 (C : Cx X RX4 cc nL ret rm tys) (q0 : Nat) {a : Nat} {fs : List Value} {v : Value} (he : ws[q0]? = some (a, .inr (0, fs))) (hv : fs[15]? = some v) (hd : decode cc pc = .ok (.getfield 198, 3)) (K : JR X Qf nL k n F ws lv (pc + 3) (v :: st)) : JR X Qf nL k n F ws lv pc (.ref a :: st) := r_getN C inG_X0 15 (by decide) rfl kf_X4_198 q0 he hv hd K
theorem kf_X4_13 : Cond.fieldLink RX4 13 (TX4 0).1 (TX4 0).2.1 (TX4 0).2.2.1 ∈ gtbl := g_tb 145 (by decide +kernel) (by decide +kernel)
theorem gf_X4_13 (C : Cx X RX4 cc nL ret rm tys) (q0 : Nat) {a : Nat} {fs : List Value} {v : Value} (he : ws[q0]? = some (a, .inr (4, fs))) (hv : fs[0]? = some v) (hd : decode cc pc = .ok (.getfield 13, 3)) (K : JR X Qf nL k n F ws lv (pc + 3) (v :: st)) : JR X Qf nL k n F ws lv pc (.ref a :: st) := r_get C inG_X4 0 (by decide) rfl kf_X4_13 q0 he hv hd K
theorem kf_X4_21 : Cond.fieldLink RX4 21 (TX4 1).1 (TX4 1).2.1 (TX4 1).2.2.1 ∈ gtbl := g_tb 146 (by decide +kernel) (by decide +kernel)
theorem gf_X4_21 (C : Cx X RX4 cc nL ret rm tys) (q0 : Nat) {a : Nat} {fs : List Value} {v : Value} (he : ws[q0]? = some (a, .inr (4, fs))) (hv : fs[1]? = some v) (hd : decode cc pc = .ok (.getfield 21, 3)) (K : JR X Qf nL k n F ws lv (pc + 3) (v :: st)) : JR X Qf nL k n F ws lv pc (.ref a :: st) := r_get C inG_X4 1 (by decide) rfl kf_X4_21 q0 he hv hd K
theorem kf_X4_28 : Cond.fieldLink RX4 28 (TX4 2).1 (TX4 2).2.1 (TX4 2).2.2.1 ∈ gtbl := g_tb 147 (by decide +kernel) (by decide +kernel)
theorem gf_X4_28 (C : Cx X RX4 cc nL ret rm tys) (q0 : Nat) {a : Nat} {fs : List Value} {v : Value} (he : ws[q0]? = some (a, .inr (4, fs))) (hv : fs[2]? = some v) (hd : decode cc pc = .ok (.getfield 28, 3)) (K : JR X Qf nL k n F ws lv (pc + 3) (v :: st)) : JR X Qf nL k n F ws lv pc (.ref a :: st) := r_get C inG_X4 2 (by decide) rfl kf_X4_28 q0 he hv hd K
theorem kf_X4_35 : Cond.fieldLink RX4 35 (TX4 3).1 (TX4 3).2.1 (TX4 3).2.2.1 ∈ gtbl := g_tb 148 (by decide +kernel) (by decide +kernel)
theorem gf_X4_35 (C : Cx X RX4 cc nL ret rm tys) (q0 : Nat) {a : Nat} {fs : List Value} {v : Value} (he : ws[q0]? = some (a, .inr (4, fs))) (hv : fs[3]? = some v) (hd : decode cc pc = .ok (.getfield 35, 3)) (K : JR X Qf nL k n F ws lv (pc + 3) (v :: st)) : JR X Qf nL k n F ws lv pc (.ref a :: st) := r_get C inG_X4 3 (by decide) rfl kf_X4_35 q0 he hv hd K
theorem pf_X4_35 (C : Cx X RX4 cc nL ret rm tys) (q0 : Nat) {a : Nat} {fs : List Value} {x : Nat} (he : ws[q0]? = some (a, .inr (4, fs))) (hlen : fs.length = 7) (hd : decode cc pc = .ok (.putfield 35, 3)) (hw : ws.set q0 (a, .inr (4, fs.set 3 (.ref x))) = ws') (K : JR X Qf nL k n F ws' lv (pc + 3) st) : JR X Qf nL k n F ws lv pc (.ref x :: .ref a :: st) := r_put (ty := (.object "QuietDuty$Border")) C inG_X4 tyX4 tyX4_ok nmX4 3 (by decide) rfl (by decide +kernel) rfl kf_X4_35 q0 he rfl rfl (by rw [hlen]; decide) hd hw K
theorem kf_X4_39 : Cond.fieldLink RX4 39 (TX4 4).1 (TX4 4).2.1 (TX4 4).2.2.1 ∈ gtbl := g_tb 149 (by decide +kernel) (by decide +kernel)
theorem gf_X4_39 (C : Cx X RX4 cc nL ret rm tys) (q0 : Nat) {a : Nat} {fs : List Value} {v : Value} (he : ws[q0]? = some (a, .inr (4, fs))) (hv : fs[4]? = some v) (hd : decode cc pc = .ok (.getfield 39, 3)) (K : JR X Qf nL k n F ws lv (pc + 3) (v :: st)) : JR X Qf nL k n F ws lv pc (.ref a :: st) := r_get C inG_X4 4 (by decide) rfl kf_X4_39 q0 he hv hd K
theorem pf_X4_39 (C : Cx X RX4 cc nL ret rm tys) (q0 : Nat) {a : Nat} {fs : List Value} {x : Nat} (he : ws[q0]? = some (a, .inr (4, fs))) (hlen : fs.length = 7) (hd : decode cc pc = .ok (.putfield 39, 3)) (hw : ws.set q0 (a, .inr (4, fs.set 4 (.ref x))) = ws') (K : JR X Qf nL k n F ws' lv (pc + 3) st) : JR X Qf nL k n F ws lv pc (.ref x :: .ref a :: st) := r_put (ty := (.object "QuietDuty$Border")) C inG_X4 tyX4 tyX4_ok nmX4 4 (by decide) rfl (by decide +kernel) rfl kf_X4_39 q0 he rfl rfl (by rw [hlen]; decide) hd hw K
theorem kf_X4_249 : Cond.fieldLink RX4 249 (TX4 5).1 (TX4 5).2.1 (TX4 5).2.2.1 ∈ gtbl := g_tb 150 (by decide +kernel) (by decide +kernel)
theorem gf_X4_249 (C : Cx X RX4 cc nL ret rm tys) (q0 : Nat) {a : Nat} {fs : List Value} {v : Value} (he : ws[q0]? = some (a, .inr (4, fs))) (hv : fs[5]? = some v) (hd : decode cc pc = .ok (.getfield 249, 3)) (K : JR X Qf nL k n F ws lv (pc + 3) (v :: st)) : JR X Qf nL k n F ws lv pc (.ref a :: st) := r_get C inG_X4 5 (by decide) rfl kf_X4_249 q0 he hv hd K
theorem pf_X4_249 (C : Cx X RX4 cc nL ret rm tys) (q0 : Nat) {a : Nat} {fs : List Value} {x : Int32} (he : ws[q0]? = some (a, .inr (4, fs))) (hlen : fs.length = 7) (hd : decode cc pc = .ok (.putfield 249, 3)) (hw : ws.set q0 (a, .inr (4, fs.set 5 (.int x))) = ws') (K : JR X Qf nL k n F ws' lv (pc + 3) st) : JR X Qf nL k n F ws lv pc (.int x :: .ref a :: st) := r_put (ty := .int) C inG_X4 tyX4 tyX4_ok nmX4 5 (by decide) rfl (by decide +kernel) rfl kf_X4_249 q0 he rfl rfl (by rw [hlen]; decide) hd hw K
theorem kf_X4_60 : Cond.fieldLink RX4 60 (TX4 6).1 (TX4 6).2.1 (TX4 6).2.2.1 ∈ gtbl := g_tb 151 (by decide +kernel) (by decide +kernel)
theorem gf_X4_60 (C : Cx X RX4 cc nL ret rm tys) (q0 : Nat) {a : Nat} {fs : List Value} {v : Value} (he : ws[q0]? = some (a, .inr (4, fs))) (hv : fs[6]? = some v) (hd : decode cc pc = .ok (.getfield 60, 3)) (K : JR X Qf nL k n F ws lv (pc + 3) (v :: st)) : JR X Qf nL k n F ws lv pc (.ref a :: st) := r_get C inG_X4 6 (by decide) rfl kf_X4_60 q0 he hv hd K
theorem pf_X4_60 (C : Cx X RX4 cc nL ret rm tys) (q0 : Nat) {a : Nat} {fs : List Value} {x : Int32} (he : ws[q0]? = some (a, .inr (4, fs))) (hlen : fs.length = 7) (hd : decode cc pc = .ok (.putfield 60, 3)) (hw : ws.set q0 (a, .inr (4, fs.set 6 (.int x))) = ws') (K : JR X Qf nL k n F ws' lv (pc + 3) st) : JR X Qf nL k n F ws lv pc (.int x :: .ref a :: st) := r_put (ty := .int) C inG_X4 tyX4 tyX4_ok nmX4 6 (by decide) rfl (by decide +kernel) rfl kf_X4_60 q0 he rfl rfl (by rw [hlen]; decide) hd hw K
theorem kf_X5_81 : Cond.fieldLink RX5 81 (TX5 0).1 (TX5 0).2.1 (TX5 0).2.2.1 ∈ gtbl := g_tb 547 (by decide +kernel) (by decide +kernel)
theorem gf_X5_81 (C : Cx X RX5 cc nL ret rm tys) (q0 : Nat) {a : Nat} {fs : List Value} {v : Value} (he : ws[q0]? = some (a, .inr (5, fs))) (hv : fs[0]? = some v) (hd : decode cc pc = .ok (.getfield 81, 3)) (K : JR X Qf nL k n F ws lv (pc + 3) (v :: st)) : JR X Qf nL k n F ws lv pc (.ref a :: st) := r_get C inG_X5 0 (by decide) rfl kf_X5_81 q0 he hv hd K
theorem pf_X5_81 (C : Cx X RX5 cc nL ret rm tys) (q0 : Nat) {a : Nat} {fs : List Value} {x : Int32} (he : ws[q0]? = some (a, .inr (5, fs))) (hlen : fs.length = 34) (hd : decode cc pc = .ok (.putfield 81, 3)) (hw : ws.set q0 (a, .inr (5, fs.set 0 (.int x))) = ws') (K : JR X Qf nL k n F ws' lv (pc + 3) st) : JR X Qf nL k n F ws lv pc (.int x :: .ref a :: st) := r_put (ty := .int) C inG_X5 tyX5 tyX5_ok nmX5 0 (by decide) rfl (by decide +kernel) rfl kf_X5_81 q0 he rfl rfl (by rw [hlen]; decide) hd hw K
theorem kf_X5_88 : Cond.fieldLink RX5 88 (TX5 1).1 (TX5 1).2.1 (TX5 1).2.2.1 ∈ gtbl := g_tb 548 (by decide +kernel) (by decide +kernel)
theorem gf_X5_88 (C : Cx X RX5 cc nL ret rm tys) (q0 : Nat) {a : Nat} {fs : List Value} {v : Value} (he : ws[q0]? = some (a, .inr (5, fs))) (hv : fs[1]? = some v) (hd : decode cc pc = .ok (.getfield 88, 3)) (K : JR X Qf nL k n F ws lv (pc + 3) (v :: st)) : JR X Qf nL k n F ws lv pc (.ref a :: st) := r_get C inG_X5 1 (by decide) rfl kf_X5_88 q0 he hv hd K
theorem pf_X5_88 (C : Cx X RX5 cc nL ret rm tys) (q0 : Nat) {a : Nat} {fs : List Value} {x : Int32} (he : ws[q0]? = some (a, .inr (5, fs))) (hlen : fs.length = 34) (hd : decode cc pc = .ok (.putfield 88, 3)) (hw : ws.set q0 (a, .inr (5, fs.set 1 (.int x))) = ws') (K : JR X Qf nL k n F ws' lv (pc + 3) st) : JR X Qf nL k n F ws lv pc (.int x :: .ref a :: st) := r_put (ty := .int) C inG_X5 tyX5 tyX5_ok nmX5 1 (by decide) rfl (by decide +kernel) rfl kf_X5_88 q0 he rfl rfl (by rw [hlen]; decide) hd hw K
theorem kf_X5_7 : Cond.fieldLink RX5 7 (TX5 2).1 (TX5 2).2.1 (TX5 2).2.2.1 ∈ gtbl := g_tb 549 (by decide +kernel) (by decide +kernel)
theorem gf_X5_7 (C : Cx X RX5 cc nL ret rm tys) (q0 : Nat) {a : Nat} {fs : List Value} {v : Value} (he : ws[q0]? = some (a, .inr (5, fs))) (hv : fs[2]? = some v) (hd : decode cc pc = .ok (.getfield 7, 3)) (K : JR X Qf nL k n F ws lv (pc + 3) (v :: st)) : JR X Qf nL k n F ws lv pc (.ref a :: st) := r_get C inG_X5 2 (by decide) rfl kf_X5_7 q0 he hv hd K
theorem kf_X5_13 : Cond.fieldLink RX5 13 (TX5 3).1 (TX5 3).2.1 (TX5 3).2.2.1 ∈ gtbl := g_tb 550 (by decide +kernel) (by decide +kernel)
theorem gf_X5_13 (C : Cx X RX5 cc nL ret rm tys) (q0 : Nat) {a : Nat} {fs : List Value} {v : Value} (he : ws[q0]? = some (a, .inr (5, fs))) (hv : fs[3]? = some v) (hd : decode cc pc = .ok (.getfield 13, 3)) (K : JR X Qf nL k n F ws lv (pc + 3) (v :: st)) : JR X Qf nL k n F ws lv pc (.ref a :: st) := r_get C inG_X5 3 (by decide) rfl kf_X5_13 q0 he hv hd K
theorem kf_X5_95 : Cond.fieldLink RX5 95 (TX5 4).1 (TX5 4).2.1 (TX5 4).2.2.1 ∈ gtbl := g_tb 551 (by decide +kernel) (by decide +kernel)
theorem gf_X5_95 (C : Cx X RX5 cc nL ret rm tys) (q0 : Nat) {a : Nat} {fs : List Value} {v : Value} (he : ws[q0]? = some (a, .inr (5, fs))) (hv : fs[4]? = some v) (hd : decode cc pc = .ok (.getfield 95, 3)) (K : JR X Qf nL k n F ws lv (pc + 3) (v :: st)) : JR X Qf nL k n F ws lv pc (.ref a :: st) := r_get C inG_X5 4 (by decide) rfl kf_X5_95 q0 he hv hd K
theorem pf_X5_95 (C : Cx X RX5 cc nL ret rm tys) (q0 : Nat) {a : Nat} {fs : List Value} {x : Int32} (he : ws[q0]? = some (a, .inr (5, fs))) (hlen : fs.length = 34) (hd : decode cc pc = .ok (.putfield 95, 3)) (hw : ws.set q0 (a, .inr (5, fs.set 4 (.int x))) = ws') (K : JR X Qf nL k n F ws' lv (pc + 3) st) : JR X Qf nL k n F ws lv pc (.int x :: .ref a :: st) := r_put (ty := .int) C inG_X5 tyX5 tyX5_ok nmX5 4 (by decide) rfl (by decide +kernel) rfl kf_X5_95 q0 he rfl rfl (by rw [hlen]; decide) hd hw K
theorem kf_X5_16 : Cond.fieldLink RX5 16 (TX5 5).1 (TX5 5).2.1 (TX5 5).2.2.1 ∈ gtbl := g_tb 552 (by decide +kernel) (by decide +kernel)
theorem gf_X5_16 (C : Cx X RX5 cc nL ret rm tys) (q0 : Nat) {a : Nat} {fs : List Value} {v : Value} (he : ws[q0]? = some (a, .inr (5, fs))) (hv : fs[5]? = some v) (hd : decode cc pc = .ok (.getfield 16, 3)) (K : JR X Qf nL k n F ws lv (pc + 3) (v :: st)) : JR X Qf nL k n F ws lv pc (.ref a :: st) := r_get C inG_X5 5 (by decide) rfl kf_X5_16 q0 he hv hd K
theorem kf_X5_19 : Cond.fieldLink RX5 19 (TX5 6).1 (TX5 6).2.1 (TX5 6).2.2.1 ∈ gtbl := g_tb 553 (by decide +kernel) (by decide +kernel)
theorem gf_X5_19 (C : Cx X RX5 cc nL ret rm tys) (q0 : Nat) {a : Nat} {fs : List Value} {v : Value} (he : ws[q0]? = some (a, .inr (5, fs))) (hv : fs[6]? = some v) (hd : decode cc pc = .ok (.getfield 19, 3)) (K : JR X Qf nL k n F ws lv (pc + 3) (v :: st)) : JR X Qf nL k n F ws lv pc (.ref a :: st) := r_get C inG_X5 6 (by decide) rfl kf_X5_19 q0 he hv hd K
theorem kf_X5_22 : Cond.fieldLink RX5 22 (TX5 7).1 (TX5 7).2.1 (TX5 7).2.2.1 ∈ gtbl := g_tb 554 (by decide +kernel) (by decide +kernel)
theorem gf_X5_22 (C : Cx X RX5 cc nL ret rm tys) (q0 : Nat) {a : Nat} {fs : List Value} {v : Value} (he : ws[q0]? = some (a, .inr (5, fs))) (hv : fs[7]? = some v) (hd : decode cc pc = .ok (.getfield 22, 3)) (K : JR X Qf nL k n F ws lv (pc + 3) (v :: st)) : JR X Qf nL k n F ws lv pc (.ref a :: st) := r_get C inG_X5 7 (by decide) rfl kf_X5_22 q0 he hv hd K
theorem kf_X5_25 : Cond.fieldLink RX5 25 (TX5 8).1 (TX5 8).2.1 (TX5 8).2.2.1 ∈ gtbl := g_tb 555 (by decide +kernel) (by decide +kernel)
theorem gf_X5_25 (C : Cx X RX5 cc nL ret rm tys) (q0 : Nat) {a : Nat} {fs : List Value} {v : Value} (he : ws[q0]? = some (a, .inr (5, fs))) (hv : fs[8]? = some v) (hd : decode cc pc = .ok (.getfield 25, 3)) (K : JR X Qf nL k n F ws lv (pc + 3) (v :: st)) : JR X Qf nL k n F ws lv pc (.ref a :: st) := r_get C inG_X5 8 (by decide) rfl kf_X5_25 q0 he hv hd K
theorem kf_X5_28 : Cond.fieldLink RX5 28 (TX5 9).1 (TX5 9).2.1 (TX5 9).2.2.1 ∈ gtbl := g_tb 556 (by decide +kernel) (by decide +kernel)
theorem gf_X5_28 (C : Cx X RX5 cc nL ret rm tys) (q0 : Nat) {a : Nat} {fs : List Value} {v : Value} (he : ws[q0]? = some (a, .inr (5, fs))) (hv : fs[9]? = some v) (hd : decode cc pc = .ok (.getfield 28, 3)) (K : JR X Qf nL k n F ws lv (pc + 3) (v :: st)) : JR X Qf nL k n F ws lv pc (.ref a :: st) := r_get C inG_X5 9 (by decide) rfl kf_X5_28 q0 he hv hd K
theorem kf_X5_158 : Cond.fieldLink RX5 158 (TX5 10).1 (TX5 10).2.1 (TX5 10).2.2.1 ∈ gtbl := g_tb 557 (by decide +kernel) (by decide +kernel)
theorem gf_X5_158 (C : Cx X RX5 cc nL ret rm tys) (q0 : Nat) {a : Nat} {fs : List Value} {v : Value} (he : ws[q0]? = some (a, .inr (5, fs))) (hv : fs[10]? = some v) (hd : decode cc pc = .ok (.getfield 158, 3)) (K : JR X Qf nL k n F ws lv (pc + 3) (v :: st)) : JR X Qf nL k n F ws lv pc (.ref a :: st) := r_get C inG_X5 10 (by decide) rfl kf_X5_158 q0 he hv hd K
theorem pf_X5_158 (C : Cx X RX5 cc nL ret rm tys) (q0 : Nat) {a : Nat} {fs : List Value} {x : Int32} (he : ws[q0]? = some (a, .inr (5, fs))) (hlen : fs.length = 34) (hd : decode cc pc = .ok (.putfield 158, 3)) (hw : ws.set q0 (a, .inr (5, fs.set 10 (.int x))) = ws') (K : JR X Qf nL k n F ws' lv (pc + 3) st) : JR X Qf nL k n F ws lv pc (.int x :: .ref a :: st) := r_put (ty := .int) C inG_X5 tyX5 tyX5_ok nmX5 10 (by decide) rfl (by decide +kernel) rfl kf_X5_158 q0 he rfl rfl (by rw [hlen]; decide) hd hw K
theorem kf_X5_151 : Cond.fieldLink RX5 151 (TX5 11).1 (TX5 11).2.1 (TX5 11).2.2.1 ∈ gtbl := g_tb 558 (by decide +kernel) (by decide +kernel)
theorem gf_X5_151 (C : Cx X RX5 cc nL ret rm tys) (q0 : Nat) {a : Nat} {fs : List Value} {v : Value} (he : ws[q0]? = some (a, .inr (5, fs))) (hv : fs[11]? = some v) (hd : decode cc pc = .ok (.getfield 151, 3)) (K : JR X Qf nL k n F ws lv (pc + 3) (v :: st)) : JR X Qf nL k n F ws lv pc (.ref a :: st) := r_get C inG_X5 11 (by decide) rfl kf_X5_151 q0 he hv hd K
theorem pf_X5_151 (C : Cx X RX5 cc nL ret rm tys) (q0 : Nat) {a : Nat} {fs : List Value} {x : Int32} (he : ws[q0]? = some (a, .inr (5, fs))) (hlen : fs.length = 34) (hd : decode cc pc = .ok (.putfield 151, 3)) (hw : ws.set q0 (a, .inr (5, fs.set 11 (.int x))) = ws') (K : JR X Qf nL k n F ws' lv (pc + 3) st) : JR X Qf nL k n F ws lv pc (.int x :: .ref a :: st) := r_put (ty := .int) C inG_X5 tyX5 tyX5_ok nmX5 11 (by decide) rfl (by decide +kernel) rfl kf_X5_151 q0 he rfl rfl (by rw [hlen]; decide) hd hw K
theorem kf_X5_161 : Cond.fieldLink RX5 161 (TX5 12).1 (TX5 12).2.1 (TX5 12).2.2.1 ∈ gtbl := g_tb 559 (by decide +kernel) (by decide +kernel)
theorem gf_X5_161 (C : Cx X RX5 cc nL ret rm tys) (q0 : Nat) {a : Nat} {fs : List Value} {v : Value} (he : ws[q0]? = some (a, .inr (5, fs))) (hv : fs[12]? = some v) (hd : decode cc pc = .ok (.getfield 161, 3)) (K : JR X Qf nL k n F ws lv (pc + 3) (v :: st)) : JR X Qf nL k n F ws lv pc (.ref a :: st) := r_get C inG_X5 12 (by decide) rfl kf_X5_161 q0 he hv hd K
theorem pf_X5_161 (C : Cx X RX5 cc nL ret rm tys) (q0 : Nat) {a : Nat} {fs : List Value} {x : Int32} (he : ws[q0]? = some (a, .inr (5, fs))) (hlen : fs.length = 34) (hd : decode cc pc = .ok (.putfield 161, 3)) (hw : ws.set q0 (a, .inr (5, fs.set 12 (.int x))) = ws') (K : JR X Qf nL k n F ws' lv (pc + 3) st) : JR X Qf nL k n F ws lv pc (.int x :: .ref a :: st) := r_put (ty := .int) C inG_X5 tyX5 tyX5_ok nmX5 12 (by decide) rfl (by decide +kernel) rfl kf_X5_161 q0 he rfl rfl (by rw [hlen]; decide) hd hw K
theorem kf_X5_73 : Cond.fieldLink RX5 73 (TX5 13).1 (TX5 13).2.1 (TX5 13).2.2.1 ∈ gtbl := g_tb 560 (by decide +kernel) (by decide +kernel)
theorem gf_X5_73 (C : Cx X RX5 cc nL ret rm tys) (q0 : Nat) {a : Nat} {fs : List Value} {v : Value} (he : ws[q0]? = some (a, .inr (5, fs))) (hv : fs[13]? = some v) (hd : decode cc pc = .ok (.getfield 73, 3)) (K : JR X Qf nL k n F ws lv (pc + 3) (v :: st)) : JR X Qf nL k n F ws lv pc (.ref a :: st) := r_get C inG_X5 13 (by decide) rfl kf_X5_73 q0 he hv hd K
theorem pf_X5_73 (C : Cx X RX5 cc nL ret rm tys) (q0 : Nat) {a : Nat} {fs : List Value} {x : Int32} (he : ws[q0]? = some (a, .inr (5, fs))) (hlen : fs.length = 34) (hd : decode cc pc = .ok (.putfield 73, 3)) (hw : ws.set q0 (a, .inr (5, fs.set 13 (.int x))) = ws') (K : JR X Qf nL k n F ws' lv (pc + 3) st) : JR X Qf nL k n F ws lv pc (.int x :: .ref a :: st) := r_put (ty := .int) C inG_X5 tyX5 tyX5_ok nmX5 13 (by decide) rfl (by decide +kernel) rfl kf_X5_73 q0 he rfl rfl (by rw [hlen]; decide) hd hw K
theorem kf_X5_100 : Cond.fieldLink RX5 100 (TX5 14).1 (TX5 14).2.1 (TX5 14).2.2.1 ∈ gtbl := g_tb 561 (by decide +kernel) (by decide +kernel)
theorem gf_X5_100 (C : Cx X RX5 cc nL ret rm tys) (q0 : Nat) {a : Nat} {fs : List Value} {v : Value} (he : ws[q0]? = some (a, .inr (5, fs))) (hv : fs[14]? = some v) (hd : decode cc pc = .ok (.getfield 100, 3)) (K : JR X Qf nL k n F ws lv (pc + 3) (v :: st)) : JR X Qf nL k n F ws lv pc (.ref a :: st) := r_get C inG_X5 14 (by decide) rfl kf_X5_100 q0 he hv hd K
theorem pf_X5_100 (C : Cx X RX5 cc nL ret rm tys) (q0 : Nat) {a : Nat} {fs : List Value} {x : Int32} (he : ws[q0]? = some (a, .inr (5, fs))) (hlen : fs.length = 34) (hd : decode cc pc = .ok (.putfield 100, 3)) (hw : ws.set q0 (a, .inr (5, fs.set 14 (.int x))) = ws') (K : JR X Qf nL k n F ws' lv (pc + 3) st) : JR X Qf nL k n F ws lv pc (.int x :: .ref a :: st) := r_put (ty := .int) C inG_X5 tyX5 tyX5_ok nmX5 14 (by decide) rfl (by decide +kernel) rfl kf_X5_100 q0 he rfl rfl (by rw [hlen]; decide) hd hw K
theorem kf_X5_119 : Cond.fieldLink RX5 119 (TX5 15).1 (TX5 15).2.1 (TX5 15).2.2.1 ∈ gtbl := g_tb 562 (by decide +kernel) (by decide +kernel)
theorem gf_X5_119 (C : Cx X RX5 cc nL ret rm tys) (q0 : Nat) {a : Nat} {fs : List Value} {v : Value} (he : ws[q0]? = some (a, .inr (5, fs))) (hv : fs[15]? = some v) (hd : decode cc pc = .ok (.getfield 119, 3)) (K : JR X Qf nL k n F ws lv (pc + 3) (v :: st)) : JR X Qf nL k n F ws lv pc (.ref a :: st) := r_get C inG_X5 15 (by decide) rfl kf_X5_119 q0 he hv hd K
theorem pf_X5_119 (C : Cx X RX5 cc nL ret rm tys) (q0 : Nat) {a : Nat} {fs : List Value} {x : Int32} (he : ws[q0]? = some (a, .inr (5, fs))) (hlen : fs.length = 34) (hd : decode cc pc = .ok (.putfield 119, 3)) (hw : ws.set q0 (a, .inr (5, fs.set 15 (.int x))) = ws') (K : JR X Qf nL k n F ws' lv (pc + 3) st) : JR X Qf nL k n F ws lv pc (.int x :: .ref a :: st) := r_put (ty := .int) C inG_X5 tyX5 tyX5_ok nmX5 15 (by decide) rfl (by decide +kernel) rfl kf_X5_119 q0 he rfl rfl (by rw [hlen]; decide) hd hw K
theorem kf_X5_109 : Cond.fieldLink RX5 109 (TX5 16).1 (TX5 16).2.1 (TX5 16).2.2.1 ∈ gtbl := g_tb 563 (by decide +kernel) (by decide +kernel)
theorem gf_X5_109 (C : Cx X RX5 cc nL ret rm tys) (q0 : Nat) {a : Nat} {fs : List Value} {v : Value} (he : ws[q0]? = some (a, .inr (5, fs))) (hv : fs[16]? = some v) (hd : decode cc pc = .ok (.getfield 109, 3)) (K : JR X Qf nL k n F ws lv (pc + 3) (v :: st)) : JR X Qf nL k n F ws lv pc (.ref a :: st) := r_get C inG_X5 16 (by decide) rfl kf_X5_109 q0 he hv hd K
theorem pf_X5_109 (C : Cx X RX5 cc nL ret rm tys) (q0 : Nat) {a : Nat} {fs : List Value} {x : Int32} (he : ws[q0]? = some (a, .inr (5, fs))) (hlen : fs.length = 34) (hd : decode cc pc = .ok (.putfield 109, 3)) (hw : ws.set q0 (a, .inr (5, fs.set 16 (.int x))) = ws') (K : JR X Qf nL k n F ws' lv (pc + 3) st) : JR X Qf nL k n F ws lv pc (.int x :: .ref a :: st) := r_put (ty := .int) C inG_X5 tyX5 tyX5_ok nmX5 16 (by decide) rfl (by decide +kernel) rfl kf_X5_109 q0 he rfl rfl (by rw [hlen]; decide) hd hw K
theorem kf_X5_116 : Cond.fieldLink RX5 116 (TX5 17).1 (TX5 17).2.1 (TX5 17).2.2.1 ∈ gtbl := g_tb 564 (by decide +kernel) (by decide +kernel)
theorem gf_X5_116 (C : Cx X RX5 cc nL ret rm tys) (q0 : Nat) {a : Nat} {fs : List Value} {v : Value} (he : ws[q0]? = some (a, .inr (5, fs))) (hv : fs[17]? = some v) (hd : decode cc pc = .ok (.getfield 116, 3)) (K : JR X Qf nL k n F ws lv (pc + 3) (v :: st)) : JR X Qf nL k n F ws lv pc (.ref a :: st) := r_get C inG_X5 17 (by decide) rfl kf_X5_116 q0 he hv hd K
theorem pf_X5_116 (C : Cx X RX5 cc nL ret rm tys) (q0 : Nat) {a : Nat} {fs : List Value} {x : Int32} (he : ws[q0]? = some (a, .inr (5, fs))) (hlen : fs.length = 34) (hd : decode cc pc = .ok (.putfield 116, 3)) (hw : ws.set q0 (a, .inr (5, fs.set 17 (.int x))) = ws') (K : JR X Qf nL k n F ws' lv (pc + 3) st) : JR X Qf nL k n F ws lv pc (.int x :: .ref a :: st) := r_put (ty := .int) C inG_X5 tyX5 tyX5_ok nmX5 17 (by decide) rfl (by decide +kernel) rfl kf_X5_116 q0 he rfl rfl (by rw [hlen]; decide) hd hw K
theorem kf_X5_31 : Cond.fieldLink RX5 31 (TX5 18).1 (TX5 18).2.1 (TX5 18).2.2.1 ∈ gtbl := g_tb 565 (by decide +kernel) (by decide +kernel)
theorem gf_X5_31 (C : Cx X RX5 cc nL ret rm tys) (q0 : Nat) {a : Nat} {fs : List Value} {v : Value} (he : ws[q0]? = some (a, .inr (5, fs))) (hv : fs[18]? = some v) (hd : decode cc pc = .ok (.getfield 31, 3)) (K : JR X Qf nL k n F ws lv (pc + 3) (v :: st)) : JR X Qf nL k n F ws lv pc (.ref a :: st) := r_get C inG_X5 18 (by decide) rfl kf_X5_31 q0 he hv hd K
theorem kf_X5_34 : Cond.fieldLink RX5 34 (TX5 19).1 (TX5 19).2.1 (TX5 19).2.2.1 ∈ gtbl := g_tb 566 (by decide +kernel) (by decide +kernel)
theorem gf_X5_34 (C : Cx X RX5 cc nL ret rm tys) (q0 : Nat) {a : Nat} {fs : List Value} {v : Value} (he : ws[q0]? = some (a, .inr (5, fs))) (hv : fs[19]? = some v) (hd : decode cc pc = .ok (.getfield 34, 3)) (K : JR X Qf nL k n F ws lv (pc + 3) (v :: st)) : JR X Qf nL k n F ws lv pc (.ref a :: st) := r_get C inG_X5 19 (by decide) rfl kf_X5_34 q0 he hv hd K
theorem kf_X5_37 : Cond.fieldLink RX5 37 (TX5 20).1 (TX5 20).2.1 (TX5 20).2.2.1 ∈ gtbl := g_tb 567 (by decide +kernel) (by decide +kernel)
theorem gf_X5_37 (C : Cx X RX5 cc nL ret rm tys) (q0 : Nat) {a : Nat} {fs : List Value} {v : Value} (he : ws[q0]? = some (a, .inr (5, fs))) (hv : fs[20]? = some v) (hd : decode cc pc = .ok (.getfield 37, 3)) (K : JR X Qf nL k n F ws lv (pc + 3) (v :: st)) : JR X Qf nL k n F ws lv pc (.ref a :: st) := r_get C inG_X5 20 (by decide) rfl kf_X5_37 q0 he hv hd K
theorem kf_X5_40 : Cond.fieldLink RX5 40 (TX5 21).1 (TX5 21).2.1 (TX5 21).2.2.1 ∈ gtbl := g_tb 568 (by decide +kernel) (by decide +kernel)
theorem gf_X5_40 (C : Cx X RX5 cc nL ret rm tys) (q0 : Nat) {a : Nat} {fs : List Value} {v : Value} (he : ws[q0]? = some (a, .inr (5, fs))) (hv : fs[21]? = some v) (hd : decode cc pc = .ok (.getfield 40, 3)) (K : JR X Qf nL k n F ws lv (pc + 3) (v :: st)) : JR X Qf nL k n F ws lv pc (.ref a :: st) := r_get C inG_X5 21 (by decide) rfl kf_X5_40 q0 he hv hd K
theorem kf_X5_43 : Cond.fieldLink RX5 43 (TX5 22).1 (TX5 22).2.1 (TX5 22).2.2.1 ∈ gtbl := g_tb 569 (by decide +kernel) (by decide +kernel)
theorem gf_X5_43 (C : Cx X RX5 cc nL ret rm tys) (q0 : Nat) {a : Nat} {fs : List Value} {v : Value} (he : ws[q0]? = some (a, .inr (5, fs))) (hv : fs[22]? = some v) (hd : decode cc pc = .ok (.getfield 43, 3)) (K : JR X Qf nL k n F ws lv (pc + 3) (v :: st)) : JR X Qf nL k n F ws lv pc (.ref a :: st) := r_get C inG_X5 22 (by decide) rfl kf_X5_43 q0 he hv hd K
theorem kf_X5_46 : Cond.fieldLink RX5 46 (TX5 23).1 (TX5 23).2.1 (TX5 23).2.2.1 ∈ gtbl := g_tb 570 (by decide +kernel) (by decide +kernel)
theorem gf_X5_46 (C : Cx X RX5 cc nL ret rm tys) (q0 : Nat) {a : Nat} {fs : List Value} {v : Value} (he : ws[q0]? = some (a, .inr (5, fs))) (hv : fs[23]? = some v) (hd : decode cc pc = .ok (.getfield 46, 3)) (K : JR X Qf nL k n F ws lv (pc + 3) (v :: st)) : JR X Qf nL k n F ws lv pc (.ref a :: st) := r_get C inG_X5 23 (by decide) rfl kf_X5_46 q0 he hv hd K
theorem kf_X5_49 : Cond.fieldLink RX5 49 (TX5 24).1 (TX5 24).2.1 (TX5 24).2.2.1 ∈ gtbl := g_tb 571 (by decide +kernel) (by decide +kernel)
theorem gf_X5_49 (C : Cx X RX5 cc nL ret rm tys) (q0 : Nat) {a : Nat} {fs : List Value} {v : Value} (he : ws[q0]? = some (a, .inr (5, fs))) (hv : fs[24]? = some v) (hd : decode cc pc = .ok (.getfield 49, 3)) (K : JR X Qf nL k n F ws lv (pc + 3) (v :: st)) : JR X Qf nL k n F ws lv pc (.ref a :: st) := r_get C inG_X5 24 (by decide) rfl kf_X5_49 q0 he hv hd K
theorem kf_X5_52 : Cond.fieldLink RX5 52 (TX5 25).1 (TX5 25).2.1 (TX5 25).2.2.1 ∈ gtbl := g_tb 572 (by decide +kernel) (by decide +kernel)
theorem gf_X5_52 (C : Cx X RX5 cc nL ret rm tys) (q0 : Nat) {a : Nat} {fs : List Value} {v : Value} (he : ws[q0]? = some (a, .inr (5, fs))) (hv : fs[25]? = some v) (hd : decode cc pc = .ok (.getfield 52, 3)) (K : JR X Qf nL k n F ws lv (pc + 3) (v :: st)) : JR X Qf nL k n F ws lv pc (.ref a :: st) := r_get C inG_X5 25 (by decide) rfl kf_X5_52 q0 he hv hd K
theorem kf_X5_164 : Cond.fieldLink RX5 164 (TX5 26).1 (TX5 26).2.1 (TX5 26).2.2.1 ∈ gtbl := g_tb 573 (by decide +kernel) (by decide +kernel)
theorem gf_X5_164 (C : Cx X RX5 cc nL ret rm tys) (q0 : Nat) {a : Nat} {fs : List Value} {v : Value} (he : ws[q0]? = some (a, .inr (5, fs))) (hv : fs[26]? = some v) (hd : decode cc pc = .ok (.getfield 164, 3)) (K : JR X Qf nL k n F ws lv (pc + 3) (v :: st)) : JR X Qf nL k n F ws lv pc (.ref a :: st) := r_get C inG_X5 26 (by decide) rfl kf_X5_164 q0 he hv hd K
theorem pf_X5_164 (C : Cx X RX5 cc nL ret rm tys) (q0 : Nat) {a : Nat} {fs : List Value} {x : Int32} (he : ws[q0]? = some (a, .inr (5, fs))) (hlen : fs.length = 34) (hd : decode cc pc = .ok (.putfield 164, 3)) (hw : ws.set q0 (a, .inr (5, fs.set 26 (.int x))) = ws') (K : JR X Qf nL k n F ws' lv (pc + 3) st) : JR X Qf nL k n F ws lv pc (.int x :: .ref a :: st) := r_put (ty := .int) C inG_X5 tyX5 tyX5_ok nmX5 26 (by decide) rfl (by decide +kernel) rfl kf_X5_164 q0 he rfl rfl (by rw [hlen]; decide) hd hw K
theorem kf_X5_55 : Cond.fieldLink RX5 55 (TX5 27).1 (TX5 27).2.1 (TX5 27).2.2.1 ∈ gtbl := g_tb 574 (by decide +kernel) (by decide +kernel)
theorem gf_X5_55 (C : Cx X RX5 cc nL ret rm tys) (q0 : Nat) {a : Nat} {fs : List Value} {v : Value} (he : ws[q0]? = some (a, .inr (5, fs))) (hv : fs[27]? = some v) (hd : decode cc pc = .ok (.getfield 55, 3)) (K : JR X Qf nL k n F ws lv (pc + 3) (v :: st)) : JR X Qf nL k n F ws lv pc (.ref a :: st) := r_get C inG_X5 27 (by decide) rfl kf_X5_55 q0 he hv hd K
theorem kf_X5_58 : Cond.fieldLink RX5 58 (TX5 28).1 (TX5 28).2.1 (TX5 28).2.2.1 ∈ gtbl := g_tb 575 (by decide +kernel) (by decide +kernel)
theorem gf_X5_58 (C : Cx X RX5 cc nL ret rm tys) (q0 : Nat) {a : Nat} {fs : List Value} {v : Value} (he : ws[q0]? = some (a, .inr (5, fs))) (hv : fs[28]? = some v) (hd : decode cc pc = .ok (.getfield 58, 3)) (K : JR X Qf nL k n F ws lv (pc + 3) (v :: st)) : JR X Qf nL k n F ws lv pc (.ref a :: st) := r_get C inG_X5 28 (by decide) rfl kf_X5_58 q0 he hv hd K
theorem kf_X5_61 : Cond.fieldLink RX5 61 (TX5 29).1 (TX5 29).2.1 (TX5 29).2.2.1 ∈ gtbl := g_tb 576 (by decide +kernel) (by decide +kernel)
theorem gf_X5_61 (C : Cx X RX5 cc nL ret rm tys) (q0 : Nat) {a : Nat} {fs : List Value} {v : Value} (he : ws[q0]? = some (a, .inr (5, fs))) (hv : fs[29]? = some v) (hd : decode cc pc = .ok (.getfield 61, 3)) (K : JR X Qf nL k n F ws lv (pc + 3) (v :: st)) : JR X Qf nL k n F ws lv pc (.ref a :: st) := r_get C inG_X5 29 (by decide) rfl kf_X5_61 q0 he hv hd K
theorem kf_X5_64 : Cond.fieldLink RX5 64 (TX5 30).1 (TX5 30).2.1 (TX5 30).2.2.1 ∈ gtbl := g_tb 577 (by decide +kernel) (by decide +kernel)
theorem gf_X5_64 (C : Cx X RX5 cc nL ret rm tys) (q0 : Nat) {a : Nat} {fs : List Value} {v : Value} (he : ws[q0]? = some (a, .inr (5, fs))) (hv : fs[30]? = some v) (hd : decode cc pc = .ok (.getfield 64, 3)) (K : JR X Qf nL k n F ws lv (pc + 3) (v :: st)) : JR X Qf nL k n F ws lv pc (.ref a :: st) := r_get C inG_X5 30 (by decide) rfl kf_X5_64 q0 he hv hd K
theorem kf_X5_67 : Cond.fieldLink RX5 67 (TX5 31).1 (TX5 31).2.1 (TX5 31).2.2.1 ∈ gtbl := g_tb 578 (by decide +kernel) (by decide +kernel)
theorem gf_X5_67 (C : Cx X RX5 cc nL ret rm tys) (q0 : Nat) {a : Nat} {fs : List Value} {v : Value} (he : ws[q0]? = some (a, .inr (5, fs))) (hv : fs[31]? = some v) (hd : decode cc pc = .ok (.getfield 67, 3)) (K : JR X Qf nL k n F ws lv (pc + 3) (v :: st)) : JR X Qf nL k n F ws lv pc (.ref a :: st) := r_get C inG_X5 31 (by decide) rfl kf_X5_67 q0 he hv hd K
theorem kf_X5_70 : Cond.fieldLink RX5 70 (TX5 32).1 (TX5 32).2.1 (TX5 32).2.2.1 ∈ gtbl := g_tb 579 (by decide +kernel) (by decide +kernel)
theorem gf_X5_70 (C : Cx X RX5 cc nL ret rm tys) (q0 : Nat) {a : Nat} {fs : List Value} {v : Value} (he : ws[q0]? = some (a, .inr (5, fs))) (hv : fs[32]? = some v) (hd : decode cc pc = .ok (.getfield 70, 3)) (K : JR X Qf nL k n F ws lv (pc + 3) (v :: st)) : JR X Qf nL k n F ws lv pc (.ref a :: st) := r_get C inG_X5 32 (by decide) rfl kf_X5_70 q0 he hv hd K
theorem kf_X5_235 : Cond.fieldLink RX5 235 (TX5 33).1 (TX5 33).2.1 (TX5 33).2.2.1 ∈ gtbl := g_tb 580 (by decide +kernel) (by decide +kernel)
theorem gf_X5_235 (C : Cx X RX5 cc nL ret rm tys) (q0 : Nat) {a : Nat} {fs : List Value} {v : Value} (he : ws[q0]? = some (a, .inr (5, fs))) (hv : fs[33]? = some v) (hd : decode cc pc = .ok (.getfield 235, 3)) (K : JR X Qf nL k n F ws lv (pc + 3) (v :: st)) : JR X Qf nL k n F ws lv pc (.ref a :: st) := r_get C inG_X5 33 (by decide) rfl kf_X5_235 q0 he hv hd K
theorem pf_X5_235 (C : Cx X RX5 cc nL ret rm tys) (q0 : Nat) {a : Nat} {fs : List Value} {x : Int32} (he : ws[q0]? = some (a, .inr (5, fs))) (hlen : fs.length = 34) (hd : decode cc pc = .ok (.putfield 235, 3)) (hw : ws.set q0 (a, .inr (5, fs.set 33 (.int x))) = ws') (K : JR X Qf nL k n F ws' lv (pc + 3) st) : JR X Qf nL k n F ws lv pc (.int x :: .ref a :: st) := r_put (ty := .int) C inG_X5 tyX5 tyX5_ok nmX5 33 (by decide) rfl (by decide +kernel) rfl kf_X5_235 q0 he rfl rfl (by rw [hlen]; decide) hd hw K
end FLD
theorem kz_L : Cond.initialized "QuietDutyLaw" ∈ gtbl := (g_tb 0 (by decide +kernel) (by decide +kernel))
theorem kz_X4 : Cond.initialized "QuietDuty" ∈ gtbl := (g_tb 1 (by decide +kernel) (by decide +kernel))
theorem kz_X1 : Cond.initialized "QuietDuty$Sheet" ∈ gtbl := (g_tb 2 (by decide +kernel) (by decide +kernel))
theorem kz_X2 : Cond.initialized "QuietDuty$TextReader" ∈ gtbl := (g_tb 3 (by decide +kernel) (by decide +kernel))
theorem kz_X3 : Cond.initialized "QuietDuty$Way" ∈ gtbl := (g_tb 4 (by decide +kernel) (by decide +kernel))
theorem kz_X0 : Cond.initialized "QuietDuty$Border" ∈ gtbl := (g_tb 5 (by decide +kernel) (by decide +kernel))
theorem kz_X5 : Cond.initialized "QuietDutyModel" ∈ gtbl := (g_tb 6 (by decide +kernel) (by decide +kernel))
theorem kz_J7 : Cond.initialized "java/util/Arrays" ∈ gtbl := (g_tb 7 (by decide +kernel) (by decide +kernel))
theorem kz_J9 : Cond.initialized "java/lang/Math" ∈ gtbl := (g_tb 8 (by decide +kernel) (by decide +kernel))
theorem kz_J10 : Cond.initialized "java/lang/System" ∈ gtbl := (g_tb 9 (by decide +kernel) (by decide +kernel))
theorem kc_X4_init : Cond.code yX4_init cX4_init 2 none ∈ gtbl := (g_tb 14 (by decide +kernel) (by decide +kernel))
theorem ki_X4_init : Cond.instanceMethod yX4_init ∈ gtbl := (g_tb 13 (by decide +kernel) (by decide +kernel))
theorem kl_L_9 : Cond.methodLink RL 9 yX4_init ∈ gtbl := (g_tb 12 (by decide +kernel) (by decide +kernel))
theorem kc_X4_frontier : Cond.code yX4_frontier cX4_frontier 9 (some .int) ∈ gtbl := (g_tb 170 (by decide +kernel) (by decide +kernel))
theorem ki_X4_frontier : Cond.instanceMethod yX4_frontier ∈ gtbl := (g_tb 168 (by decide +kernel) (by decide +kernel))
theorem ks_X4_frontier : Cond.selects yX4_frontier.cls yX4_frontier yX4_frontier ∈ gtbl := (g_tb 169 (by decide +kernel) (by decide +kernel))
theorem mv_L_13 : okV RL 13 yX4_frontier cX4_frontier 9 (some .int) 4 := ⟨(g_tb 167 (by decide +kernel) (by decide +kernel)), ki_X4_frontier, ks_X4_frontier, kz_X4, kc_X4_frontier, ⟨by decide +kernel, by decide +kernel, by decide +kernel⟩⟩
theorem kc_X4_refusalOfRow : Cond.code yX4_refusalOfRow cX4_refusalOfRow 2 (some .int) ∈ gtbl := (g_tb 173 (by decide +kernel) (by decide +kernel))
theorem kt_X4_refusalOfRow : Cond.static yX4_refusalOfRow ∈ gtbl := (g_tb 172 (by decide +kernel) (by decide +kernel))
theorem ms_X4_42 : okS RX4 42 yX4_refusalOfRow cX4_refusalOfRow 2 (some .int) 2 := ⟨(g_tb 171 (by decide +kernel) (by decide +kernel)), kt_X4_refusalOfRow, kz_X4, kc_X4_refusalOfRow, ⟨by decide +kernel, by decide +kernel, by decide +kernel⟩⟩
theorem kc_X4_isSheet : Cond.code yX4_isSheet cX4_isSheet 1 (some .boolean) ∈ gtbl := (g_tb 176 (by decide +kernel) (by decide +kernel))
theorem kt_X4_isSheet : Cond.static yX4_isSheet ∈ gtbl := (g_tb 175 (by decide +kernel) (by decide +kernel))
theorem ms_X4_210 : okS RX4 210 yX4_isSheet cX4_isSheet 1 (some .boolean) 1 := ⟨(g_tb 174 (by decide +kernel) (by decide +kernel)), kt_X4_isSheet, kz_X4, kc_X4_isSheet, ⟨by decide +kernel, by decide +kernel, by decide +kernel⟩⟩
theorem kc_X4_isWithin : Cond.code yX4_isWithin cX4_isWithin 3 (some .boolean) ∈ gtbl := (g_tb 179 (by decide +kernel) (by decide +kernel))
theorem kt_X4_isWithin : Cond.static yX4_isWithin ∈ gtbl := (g_tb 178 (by decide +kernel) (by decide +kernel))
theorem ms_X4_113 : okS RX4 113 yX4_isWithin cX4_isWithin 3 (some .boolean) 3 := ⟨(g_tb 177 (by decide +kernel) (by decide +kernel)), kt_X4_isWithin, kz_X4, kc_X4_isWithin, ⟨by decide +kernel, by decide +kernel, by decide +kernel⟩⟩
theorem kc_X4_refused : Cond.code yX4_refused cX4_refused 2 (some .int) ∈ gtbl := (g_tb 183 (by decide +kernel) (by decide +kernel))
theorem ki_X4_refused : Cond.instanceMethod yX4_refused ∈ gtbl := (g_tb 182 (by decide +kernel) (by decide +kernel))
theorem ks_X4_refused : Cond.selects yX4_refused.cls yX4_refused yX4_refused ∈ gtbl := g_sl 0 (by decide +kernel) (by decide +kernel)
theorem mv_X4_46 : okV RX4 46 yX4_refused cX4_refused 2 (some .int) 1 := ⟨(g_tb 180 (by decide +kernel) (by decide +kernel)), ki_X4_refused, ks_X4_refused, kz_X4, kc_X4_refused, ⟨by decide +kernel, by decide +kernel, by decide +kernel⟩⟩
theorem kc_X1_faultAs : Cond.code yX1_faultAs cX1_faultAs 2 (some .int) ∈ gtbl := (g_tb 187 (by decide +kernel) (by decide +kernel))
theorem ki_X1_faultAs : Cond.instanceMethod yX1_faultAs ∈ gtbl := (g_tb 185 (by decide +kernel) (by decide +kernel))
theorem ks_X1_faultAs : Cond.selects yX1_faultAs.cls yX1_faultAs yX1_faultAs ∈ gtbl := (g_tb 186 (by decide +kernel) (by decide +kernel))
theorem mv_X4_50 : okV RX4 50 yX1_faultAs cX1_faultAs 2 (some .int) 1 := ⟨(g_tb 184 (by decide +kernel) (by decide +kernel)), ki_X1_faultAs, ks_X1_faultAs, kz_X1, kc_X1_faultAs, ⟨by decide +kernel, by decide +kernel, by decide +kernel⟩⟩
theorem kc_X1_hasRow : Cond.code yX1_hasRow cX1_hasRow 1 (some .boolean) ∈ gtbl := (g_tb 191 (by decide +kernel) (by decide +kernel))
theorem ki_X1_hasRow : Cond.instanceMethod yX1_hasRow ∈ gtbl := (g_tb 189 (by decide +kernel) (by decide +kernel))
theorem ks_X1_hasRow : Cond.selects yX1_hasRow.cls yX1_hasRow yX1_hasRow ∈ gtbl := (g_tb 190 (by decide +kernel) (by decide +kernel))
theorem mv_X1_28 : okV RX1 28 yX1_hasRow cX1_hasRow 1 (some .boolean) 0 := ⟨(g_tb 188 (by decide +kernel) (by decide +kernel)), ki_X1_hasRow, ks_X1_hasRow, kz_X1, kc_X1_hasRow, ⟨by decide +kernel, by decide +kernel, by decide +kernel⟩⟩
theorem kc_X1_hasCells : Cond.code yX1_hasCells cX1_hasCells 3 (some .boolean) ∈ gtbl := (g_tb 195 (by decide +kernel) (by decide +kernel))
theorem ki_X1_hasCells : Cond.instanceMethod yX1_hasCells ∈ gtbl := (g_tb 193 (by decide +kernel) (by decide +kernel))
theorem ks_X1_hasCells : Cond.selects yX1_hasCells.cls yX1_hasCells yX1_hasCells ∈ gtbl := (g_tb 194 (by decide +kernel) (by decide +kernel))
theorem mv_X4_53 : okV RX4 53 yX1_hasCells cX1_hasCells 3 (some .boolean) 2 := ⟨(g_tb 192 (by decide +kernel) (by decide +kernel)), ki_X1_hasCells, ks_X1_hasCells, kz_X1, kc_X1_hasCells, ⟨by decide +kernel, by decide +kernel, by decide +kernel⟩⟩
theorem kc_X4_faulted : Cond.code yX4_faulted cX4_faulted 2 (some .int) ∈ gtbl := (g_tb 199 (by decide +kernel) (by decide +kernel))
theorem ki_X4_faulted : Cond.instanceMethod yX4_faulted ∈ gtbl := (g_tb 198 (by decide +kernel) (by decide +kernel))
theorem ks_X4_faulted : Cond.selects yX4_faulted.cls yX4_faulted yX4_faulted ∈ gtbl := g_sl 1 (by decide +kernel) (by decide +kernel)
theorem mv_X4_57 : okV RX4 57 yX4_faulted cX4_faulted 2 (some .int) 1 := ⟨(g_tb 196 (by decide +kernel) (by decide +kernel)), ki_X4_faulted, ks_X4_faulted, kz_X4, kc_X4_faulted, ⟨by decide +kernel, by decide +kernel, by decide +kernel⟩⟩
theorem kc_X2_readInto : Cond.code yX2_readInto cX2_readInto 5 (some .boolean) ∈ gtbl := (g_tb 203 (by decide +kernel) (by decide +kernel))
theorem ki_X2_readInto : Cond.instanceMethod yX2_readInto ∈ gtbl := (g_tb 201 (by decide +kernel) (by decide +kernel))
theorem ks_X2_readInto : Cond.selects yX2_readInto.cls yX2_readInto yX2_readInto ∈ gtbl := (g_tb 202 (by decide +kernel) (by decide +kernel))
theorem mv_X4_64 : okV RX4 64 yX2_readInto cX2_readInto 5 (some .boolean) 4 := ⟨(g_tb 200 (by decide +kernel) (by decide +kernel)), ki_X2_readInto, ks_X2_readInto, kz_X2, kc_X2_readInto, ⟨by decide +kernel, by decide +kernel, by decide +kernel⟩⟩
theorem kc_X0_begin : Cond.code yX0_begin cX0_begin 1 none ∈ gtbl := (g_tb 207 (by decide +kernel) (by decide +kernel))
theorem ki_X0_begin : Cond.instanceMethod yX0_begin ∈ gtbl := (g_tb 205 (by decide +kernel) (by decide +kernel))
theorem ks_X0_begin : Cond.selects yX0_begin.cls yX0_begin yX0_begin ∈ gtbl := (g_tb 206 (by decide +kernel) (by decide +kernel))
theorem mv_X2_25 : okV RX2 25 yX0_begin cX0_begin 1 none 0 := ⟨(g_tb 204 (by decide +kernel) (by decide +kernel)), ki_X0_begin, ks_X0_begin, kz_X0, kc_X0_begin, ⟨by decide +kernel, by decide +kernel, by decide +kernel⟩⟩
theorem kc_J7_fill_53178 : Cond.code yJ7_fill_53178 cJ7_fill_53178 4 none ∈ gtbl := (g_tb 210 (by decide +kernel) (by decide +kernel))
theorem kt_J7_fill_53178 : Cond.static yJ7_fill_53178 ∈ gtbl := (g_tb 209 (by decide +kernel) (by decide +kernel))
theorem ms_X0_61 : okS RX0 61 yJ7_fill_53178 cJ7_fill_53178 4 none 2 := ⟨(g_tb 208 (by decide +kernel) (by decide +kernel)), kt_J7_fill_53178, kz_J7, kc_J7_fill_53178, ⟨by decide +kernel, by decide +kernel, by decide +kernel⟩⟩
theorem kc_X2_takes : Cond.code yX2_takes cX2_takes 4 (some .boolean) ∈ gtbl := (g_tb 214 (by decide +kernel) (by decide +kernel))
theorem ki_X2_takes : Cond.instanceMethod yX2_takes ∈ gtbl := (g_tb 213 (by decide +kernel) (by decide +kernel))
theorem ks_X2_takes : Cond.selects yX2_takes.cls yX2_takes yX2_takes ∈ gtbl := g_sl 2 (by decide +kernel) (by decide +kernel)
theorem mv_X2_29 : okV RX2 29 yX2_takes cX2_takes 4 (some .boolean) 2 := ⟨(g_tb 211 (by decide +kernel) (by decide +kernel)), ki_X2_takes, ks_X2_takes, kz_X2, kc_X2_takes, ⟨by decide +kernel, by decide +kernel, by decide +kernel⟩⟩
theorem kc_X2_code : Cond.code yX2_code cX2_code 1 (some .int) ∈ gtbl := (g_tb 218 (by decide +kernel) (by decide +kernel))
theorem ki_X2_code : Cond.instanceMethod yX2_code ∈ gtbl := (g_tb 217 (by decide +kernel) (by decide +kernel))
theorem ks_X2_code : Cond.selects yX2_code.cls yX2_code yX2_code ∈ gtbl := g_sl 3 (by decide +kernel) (by decide +kernel)
theorem mv_X2_47 : okV RX2 47 yX2_code cX2_code 1 (some .int) 0 := ⟨(g_tb 215 (by decide +kernel) (by decide +kernel)), ki_X2_code, ks_X2_code, kz_X2, kc_X2_code, ⟨by decide +kernel, by decide +kernel, by decide +kernel⟩⟩
theorem kc_X2_codeAt : Cond.code yX2_codeAt cX2_codeAt 2 (some .int) ∈ gtbl := (g_tb 222 (by decide +kernel) (by decide +kernel))
theorem ki_X2_codeAt : Cond.instanceMethod yX2_codeAt ∈ gtbl := (g_tb 221 (by decide +kernel) (by decide +kernel))
theorem ks_X2_codeAt : Cond.selects yX2_codeAt.cls yX2_codeAt yX2_codeAt ∈ gtbl := g_sl 4 (by decide +kernel) (by decide +kernel)
theorem mv_X2_62 : okV RX2 62 yX2_codeAt cX2_codeAt 2 (some .int) 1 := ⟨(g_tb 219 (by decide +kernel) (by decide +kernel)), ki_X2_codeAt, ks_X2_codeAt, kz_X2, kc_X2_codeAt, ⟨by decide +kernel, by decide +kernel, by decide +kernel⟩⟩
theorem kc_X1_hasCell : Cond.code yX1_hasCell cX1_hasCell 2 (some .boolean) ∈ gtbl := (g_tb 226 (by decide +kernel) (by decide +kernel))
theorem ki_X1_hasCell : Cond.instanceMethod yX1_hasCell ∈ gtbl := (g_tb 224 (by decide +kernel) (by decide +kernel))
theorem ks_X1_hasCell : Cond.selects yX1_hasCell.cls yX1_hasCell yX1_hasCell ∈ gtbl := (g_tb 225 (by decide +kernel) (by decide +kernel))
theorem mv_X2_65 : okV RX2 65 yX1_hasCell cX1_hasCell 2 (some .boolean) 1 := ⟨(g_tb 223 (by decide +kernel) (by decide +kernel)), ki_X1_hasCell, ks_X1_hasCell, kz_X1, kc_X1_hasCell, ⟨by decide +kernel, by decide +kernel, by decide +kernel⟩⟩
theorem kc_X2_digitBefore : Cond.code yX2_digitBefore cX2_digitBefore 2 (some .int) ∈ gtbl := (g_tb 230 (by decide +kernel) (by decide +kernel))
theorem ki_X2_digitBefore : Cond.instanceMethod yX2_digitBefore ∈ gtbl := (g_tb 229 (by decide +kernel) (by decide +kernel))
theorem ks_X2_digitBefore : Cond.selects yX2_digitBefore.cls yX2_digitBefore yX2_digitBefore ∈ gtbl := g_sl 5 (by decide +kernel) (by decide +kernel)
theorem mv_X2_33 : okV RX2 33 yX2_digitBefore cX2_digitBefore 2 (some .int) 1 := ⟨(g_tb 227 (by decide +kernel) (by decide +kernel)), ki_X2_digitBefore, ks_X2_digitBefore, kz_X2, kc_X2_digitBefore, ⟨by decide +kernel, by decide +kernel, by decide +kernel⟩⟩
theorem kc_X2_readPosts : Cond.code yX2_readPosts cX2_readPosts 3 (some .boolean) ∈ gtbl := (g_tb 234 (by decide +kernel) (by decide +kernel))
theorem ki_X2_readPosts : Cond.instanceMethod yX2_readPosts ∈ gtbl := (g_tb 233 (by decide +kernel) (by decide +kernel))
theorem ks_X2_readPosts : Cond.selects yX2_readPosts.cls yX2_readPosts yX2_readPosts ∈ gtbl := g_sl 6 (by decide +kernel) (by decide +kernel)
theorem mv_X2_40 : okV RX2 40 yX2_readPosts cX2_readPosts 3 (some .boolean) 1 := ⟨(g_tb 231 (by decide +kernel) (by decide +kernel)), ki_X2_readPosts, ks_X2_readPosts, kz_X2, kc_X2_readPosts, ⟨by decide +kernel, by decide +kernel, by decide +kernel⟩⟩
theorem kc_X0_addPost : Cond.code yX0_addPost cX0_addPost 3 none ∈ gtbl := (g_tb 238 (by decide +kernel) (by decide +kernel))
theorem ki_X0_addPost : Cond.instanceMethod yX0_addPost ∈ gtbl := (g_tb 236 (by decide +kernel) (by decide +kernel))
theorem ks_X0_addPost : Cond.selects yX0_addPost.cls yX0_addPost yX0_addPost ∈ gtbl := (g_tb 237 (by decide +kernel) (by decide +kernel))
theorem mv_X2_51 : okV RX2 51 yX0_addPost cX0_addPost 3 none 2 := ⟨(g_tb 235 (by decide +kernel) (by decide +kernel)), ki_X0_addPost, ks_X0_addPost, kz_X0, kc_X0_addPost, ⟨by decide +kernel, by decide +kernel, by decide +kernel⟩⟩
theorem kc_X2_readSilences : Cond.code yX2_readSilences cX2_readSilences 4 (some .boolean) ∈ gtbl := (g_tb 242 (by decide +kernel) (by decide +kernel))
theorem ki_X2_readSilences : Cond.instanceMethod yX2_readSilences ∈ gtbl := (g_tb 241 (by decide +kernel) (by decide +kernel))
theorem ks_X2_readSilences : Cond.selects yX2_readSilences.cls yX2_readSilences yX2_readSilences ∈ gtbl := g_sl 7 (by decide +kernel) (by decide +kernel)
theorem mv_X2_44 : okV RX2 44 yX2_readSilences cX2_readSilences 4 (some .boolean) 1 := ⟨(g_tb 239 (by decide +kernel) (by decide +kernel)), ki_X2_readSilences, ks_X2_readSilences, kz_X2, kc_X2_readSilences, ⟨by decide +kernel, by decide +kernel, by decide +kernel⟩⟩
theorem kc_X2_kindOf : Cond.code yX2_kindOf cX2_kindOf 1 (some .int) ∈ gtbl := (g_tb 245 (by decide +kernel) (by decide +kernel))
theorem kt_X2_kindOf : Cond.static yX2_kindOf ∈ gtbl := (g_tb 244 (by decide +kernel) (by decide +kernel))
theorem ms_X2_55 : okS RX2 55 yX2_kindOf cX2_kindOf 1 (some .int) 1 := ⟨(g_tb 243 (by decide +kernel) (by decide +kernel)), kt_X2_kindOf, kz_X2, kc_X2_kindOf, ⟨by decide +kernel, by decide +kernel, by decide +kernel⟩⟩
theorem kc_X0_addSilence : Cond.code yX0_addSilence cX0_addSilence 4 none ∈ gtbl := (g_tb 249 (by decide +kernel) (by decide +kernel))
theorem ki_X0_addSilence : Cond.instanceMethod yX0_addSilence ∈ gtbl := (g_tb 247 (by decide +kernel) (by decide +kernel))
theorem ks_X0_addSilence : Cond.selects yX0_addSilence.cls yX0_addSilence yX0_addSilence ∈ gtbl := (g_tb 248 (by decide +kernel) (by decide +kernel))
theorem mv_X2_58 : okV RX2 58 yX0_addSilence cX0_addSilence 4 none 3 := ⟨(g_tb 246 (by decide +kernel) (by decide +kernel)), ki_X0_addSilence, ks_X0_addSilence, kz_X0, kc_X0_addSilence, ⟨by decide +kernel, by decide +kernel, by decide +kernel⟩⟩
theorem kc_X2_place : Cond.code yX2_place cX2_place 1 (some .int) ∈ gtbl := (g_tb 253 (by decide +kernel) (by decide +kernel))
theorem ki_X2_place : Cond.instanceMethod yX2_place ∈ gtbl := (g_tb 251 (by decide +kernel) (by decide +kernel))
theorem ks_X2_place : Cond.selects yX2_place.cls yX2_place yX2_place ∈ gtbl := (g_tb 252 (by decide +kernel) (by decide +kernel))
theorem mv_X4_68 : okV RX4 68 yX2_place cX2_place 1 (some .int) 0 := ⟨(g_tb 250 (by decide +kernel) (by decide +kernel)), ki_X2_place, ks_X2_place, kz_X2, kc_X2_place, ⟨by decide +kernel, by decide +kernel, by decide +kernel⟩⟩
theorem kc_X4_ofPost : Cond.code yX4_ofPost cX4_ofPost 3 (some .int) ∈ gtbl := (g_tb 257 (by decide +kernel) (by decide +kernel))
theorem ki_X4_ofPost : Cond.instanceMethod yX4_ofPost ∈ gtbl := (g_tb 255 (by decide +kernel) (by decide +kernel))
theorem ks_X4_ofPost : Cond.selects yX4_ofPost.cls yX4_ofPost yX4_ofPost ∈ gtbl := (g_tb 256 (by decide +kernel) (by decide +kernel))
theorem mv_L_18 : okV RL 18 yX4_ofPost cX4_ofPost 3 (some .int) 2 := ⟨(g_tb 254 (by decide +kernel) (by decide +kernel)), ki_X4_ofPost, ks_X4_ofPost, kz_X4, kc_X4_ofPost, ⟨by decide +kernel, by decide +kernel, by decide +kernel⟩⟩
theorem kc_X0_hasPost : Cond.code yX0_hasPost cX0_hasPost 2 (some .boolean) ∈ gtbl := (g_tb 261 (by decide +kernel) (by decide +kernel))
theorem ki_X0_hasPost : Cond.instanceMethod yX0_hasPost ∈ gtbl := (g_tb 259 (by decide +kernel) (by decide +kernel))
theorem ks_X0_hasPost : Cond.selects yX0_hasPost.cls yX0_hasPost yX0_hasPost ∈ gtbl := (g_tb 260 (by decide +kernel) (by decide +kernel))
theorem mv_X4_75 : okV RX4 75 yX0_hasPost cX0_hasPost 2 (some .boolean) 1 := ⟨(g_tb 258 (by decide +kernel) (by decide +kernel)), ki_X0_hasPost, ks_X0_hasPost, kz_X0, kc_X0_hasPost, ⟨by decide +kernel, by decide +kernel, by decide +kernel⟩⟩
theorem kc_X4_ofSilence : Cond.code yX4_ofSilence cX4_ofSilence 3 (some .int) ∈ gtbl := (g_tb 265 (by decide +kernel) (by decide +kernel))
theorem ki_X4_ofSilence : Cond.instanceMethod yX4_ofSilence ∈ gtbl := (g_tb 263 (by decide +kernel) (by decide +kernel))
theorem ks_X4_ofSilence : Cond.selects yX4_ofSilence.cls yX4_ofSilence yX4_ofSilence ∈ gtbl := (g_tb 264 (by decide +kernel) (by decide +kernel))
theorem mv_L_23 : okV RL 23 yX4_ofSilence cX4_ofSilence 3 (some .int) 2 := ⟨(g_tb 262 (by decide +kernel) (by decide +kernel)), ki_X4_ofSilence, ks_X4_ofSilence, kz_X4, kc_X4_ofSilence, ⟨by decide +kernel, by decide +kernel, by decide +kernel⟩⟩
theorem kc_X0_hasSilence : Cond.code yX0_hasSilence cX0_hasSilence 2 (some .boolean) ∈ gtbl := (g_tb 269 (by decide +kernel) (by decide +kernel))
theorem ki_X0_hasSilence : Cond.instanceMethod yX0_hasSilence ∈ gtbl := (g_tb 267 (by decide +kernel) (by decide +kernel))
theorem ks_X0_hasSilence : Cond.selects yX0_hasSilence.cls yX0_hasSilence yX0_hasSilence ∈ gtbl := (g_tb 268 (by decide +kernel) (by decide +kernel))
theorem mv_X4_86 : okV RX4 86 yX0_hasSilence cX0_hasSilence 2 (some .boolean) 1 := ⟨(g_tb 266 (by decide +kernel) (by decide +kernel)), ki_X0_hasSilence, ks_X0_hasSilence, kz_X0, kc_X0_hasSilence, ⟨by decide +kernel, by decide +kernel, by decide +kernel⟩⟩
theorem kc_X0_gradeOf : Cond.code yX0_gradeOf cX0_gradeOf 2 (some .int) ∈ gtbl := (g_tb 273 (by decide +kernel) (by decide +kernel))
theorem ki_X0_gradeOf : Cond.instanceMethod yX0_gradeOf ∈ gtbl := (g_tb 271 (by decide +kernel) (by decide +kernel))
theorem ks_X0_gradeOf : Cond.selects yX0_gradeOf.cls yX0_gradeOf yX0_gradeOf ∈ gtbl := (g_tb 272 (by decide +kernel) (by decide +kernel))
theorem mv_X4_98 : okV RX4 98 yX0_gradeOf cX0_gradeOf 2 (some .int) 1 := ⟨(g_tb 270 (by decide +kernel) (by decide +kernel)), ki_X0_gradeOf, ks_X0_gradeOf, kz_X0, kc_X0_gradeOf, ⟨by decide +kernel, by decide +kernel, by decide +kernel⟩⟩
theorem kc_X0_weightOf : Cond.code yX0_weightOf cX0_weightOf 2 (some .int) ∈ gtbl := (g_tb 277 (by decide +kernel) (by decide +kernel))
theorem ki_X0_weightOf : Cond.instanceMethod yX0_weightOf ∈ gtbl := (g_tb 275 (by decide +kernel) (by decide +kernel))
theorem ks_X0_weightOf : Cond.selects yX0_weightOf.cls yX0_weightOf yX0_weightOf ∈ gtbl := (g_tb 276 (by decide +kernel) (by decide +kernel))
theorem mv_X4_101 : okV RX4 101 yX0_weightOf cX0_weightOf 2 (some .int) 1 := ⟨(g_tb 274 (by decide +kernel) (by decide +kernel)), ki_X0_weightOf, ks_X0_weightOf, kz_X0, kc_X0_weightOf, ⟨by decide +kernel, by decide +kernel, by decide +kernel⟩⟩
theorem mv_X0_67 : okV RX0 67 yX0_gradeOf cX0_gradeOf 2 (some .int) 1 := ⟨(g_tb 278 (by decide +kernel) (by decide +kernel)), ki_X0_gradeOf, ks_X0_gradeOf, kz_X0, kc_X0_gradeOf, ⟨by decide +kernel, by decide +kernel, by decide +kernel⟩⟩
theorem kc_X0_isDeclared : Cond.code yX0_isDeclared cX0_isDeclared 2 (some .boolean) ∈ gtbl := (g_tb 282 (by decide +kernel) (by decide +kernel))
theorem ki_X0_isDeclared : Cond.instanceMethod yX0_isDeclared ∈ gtbl := (g_tb 280 (by decide +kernel) (by decide +kernel))
theorem ks_X0_isDeclared : Cond.selects yX0_isDeclared.cls yX0_isDeclared yX0_isDeclared ∈ gtbl := (g_tb 281 (by decide +kernel) (by decide +kernel))
theorem mv_X4_107 : okV RX4 107 yX0_isDeclared cX0_isDeclared 2 (some .boolean) 1 := ⟨(g_tb 279 (by decide +kernel) (by decide +kernel)), ki_X0_isDeclared, ks_X0_isDeclared, kz_X0, kc_X0_isDeclared, ⟨by decide +kernel, by decide +kernel, by decide +kernel⟩⟩
theorem kc_X0_isDutiable : Cond.code yX0_isDutiable cX0_isDutiable 2 (some .boolean) ∈ gtbl := (g_tb 286 (by decide +kernel) (by decide +kernel))
theorem ki_X0_isDutiable : Cond.instanceMethod yX0_isDutiable ∈ gtbl := (g_tb 284 (by decide +kernel) (by decide +kernel))
theorem ks_X0_isDutiable : Cond.selects yX0_isDutiable.cls yX0_isDutiable yX0_isDutiable ∈ gtbl := (g_tb 285 (by decide +kernel) (by decide +kernel))
theorem mv_X4_110 : okV RX4 110 yX0_isDutiable cX0_isDutiable 2 (some .boolean) 1 := ⟨(g_tb 283 (by decide +kernel) (by decide +kernel)), ki_X0_isDutiable, ks_X0_isDutiable, kz_X0, kc_X0_isDutiable, ⟨by decide +kernel, by decide +kernel, by decide +kernel⟩⟩
theorem kc_X4_free : Cond.code yX4_free cX4_free 3 (some .int) ∈ gtbl := (g_tb 290 (by decide +kernel) (by decide +kernel))
theorem ki_X4_free : Cond.instanceMethod yX4_free ∈ gtbl := (g_tb 288 (by decide +kernel) (by decide +kernel))
theorem ks_X4_free : Cond.selects yX4_free.cls yX4_free yX4_free ∈ gtbl := (g_tb 289 (by decide +kernel) (by decide +kernel))
theorem mv_L_27 : okV RL 27 yX4_free cX4_free 3 (some .int) 1 := ⟨(g_tb 287 (by decide +kernel) (by decide +kernel)), ki_X4_free, ks_X4_free, kz_X4, kc_X4_free, ⟨by decide +kernel, by decide +kernel, by decide +kernel⟩⟩
theorem kc_X0_isMissing : Cond.code yX0_isMissing cX0_isMissing 1 (some .boolean) ∈ gtbl := (g_tb 294 (by decide +kernel) (by decide +kernel))
theorem ki_X0_isMissing : Cond.instanceMethod yX0_isMissing ∈ gtbl := (g_tb 292 (by decide +kernel) (by decide +kernel))
theorem ks_X0_isMissing : Cond.selects yX0_isMissing.cls yX0_isMissing yX0_isMissing ∈ gtbl := (g_tb 293 (by decide +kernel) (by decide +kernel))
theorem mv_X4_117 : okV RX4 117 yX0_isMissing cX0_isMissing 1 (some .boolean) 0 := ⟨(g_tb 291 (by decide +kernel) (by decide +kernel)), ki_X0_isMissing, ks_X0_isMissing, kz_X0, kc_X0_isMissing, ⟨by decide +kernel, by decide +kernel, by decide +kernel⟩⟩
theorem kc_X4_law : Cond.code yX4_law cX4_law 3 (some .int) ∈ gtbl := (g_tb 298 (by decide +kernel) (by decide +kernel))
theorem ki_X4_law : Cond.instanceMethod yX4_law ∈ gtbl := (g_tb 296 (by decide +kernel) (by decide +kernel))
theorem ks_X4_law : Cond.selects yX4_law.cls yX4_law yX4_law ∈ gtbl := (g_tb 297 (by decide +kernel) (by decide +kernel))
theorem mv_L_32 : okV RL 32 yX4_law cX4_law 3 (some .int) 1 := ⟨(g_tb 295 (by decide +kernel) (by decide +kernel)), ki_X4_law, ks_X4_law, kz_X4, kc_X4_law, ⟨by decide +kernel, by decide +kernel, by decide +kernel⟩⟩
theorem kc_X4_carry : Cond.code yX4_carry cX4_carry 4 (some .int) ∈ gtbl := (g_tb 302 (by decide +kernel) (by decide +kernel))
theorem ki_X4_carry : Cond.instanceMethod yX4_carry ∈ gtbl := (g_tb 300 (by decide +kernel) (by decide +kernel))
theorem ks_X4_carry : Cond.selects yX4_carry.cls yX4_carry yX4_carry ∈ gtbl := (g_tb 301 (by decide +kernel) (by decide +kernel))
theorem mv_L_36 : okV RL 36 yX4_carry cX4_carry 4 (some .int) 2 := ⟨(g_tb 299 (by decide +kernel) (by decide +kernel)), ki_X4_carry, ks_X4_carry, kz_X4, kc_X4_carry, ⟨by decide +kernel, by decide +kernel, by decide +kernel⟩⟩
theorem kc_X4_declare : Cond.code yX4_declare cX4_declare 3 (some .int) ∈ gtbl := (g_tb 306 (by decide +kernel) (by decide +kernel))
theorem ki_X4_declare : Cond.instanceMethod yX4_declare ∈ gtbl := (g_tb 304 (by decide +kernel) (by decide +kernel))
theorem ks_X4_declare : Cond.selects yX4_declare.cls yX4_declare yX4_declare ∈ gtbl := (g_tb 305 (by decide +kernel) (by decide +kernel))
theorem mv_L_40 : okV RL 40 yX4_declare cX4_declare 3 (some .int) 2 := ⟨(g_tb 303 (by decide +kernel) (by decide +kernel)), ki_X4_declare, ks_X4_declare, kz_X4, kc_X4_declare, ⟨by decide +kernel, by decide +kernel, by decide +kernel⟩⟩
theorem kc_X4_hum : Cond.code yX4_hum cX4_hum 4 (some .int) ∈ gtbl := (g_tb 310 (by decide +kernel) (by decide +kernel))
theorem ki_X4_hum : Cond.instanceMethod yX4_hum ∈ gtbl := (g_tb 308 (by decide +kernel) (by decide +kernel))
theorem ks_X4_hum : Cond.selects yX4_hum.cls yX4_hum yX4_hum ∈ gtbl := (g_tb 309 (by decide +kernel) (by decide +kernel))
theorem mv_L_45 : okV RL 45 yX4_hum cX4_hum 4 (some .int) 2 := ⟨(g_tb 307 (by decide +kernel) (by decide +kernel)), ki_X4_hum, ks_X4_hum, kz_X4, kc_X4_hum, ⟨by decide +kernel, by decide +kernel, by decide +kernel⟩⟩
theorem kc_X4_duty : Cond.code yX4_duty cX4_duty 2 (some .int) ∈ gtbl := (g_tb 314 (by decide +kernel) (by decide +kernel))
theorem ki_X4_duty : Cond.instanceMethod yX4_duty ∈ gtbl := (g_tb 312 (by decide +kernel) (by decide +kernel))
theorem ks_X4_duty : Cond.selects yX4_duty.cls yX4_duty yX4_duty ∈ gtbl := (g_tb 313 (by decide +kernel) (by decide +kernel))
theorem mv_L_49 : okV RL 49 yX4_duty cX4_duty 2 (some .int) 1 := ⟨(g_tb 311 (by decide +kernel) (by decide +kernel)), ki_X4_duty, ks_X4_duty, kz_X4, kc_X4_duty, ⟨by decide +kernel, by decide +kernel, by decide +kernel⟩⟩
theorem kc_X0_dutyAt : Cond.code yX0_dutyAt cX0_dutyAt 2 (some .int) ∈ gtbl := (g_tb 318 (by decide +kernel) (by decide +kernel))
theorem ki_X0_dutyAt : Cond.instanceMethod yX0_dutyAt ∈ gtbl := (g_tb 316 (by decide +kernel) (by decide +kernel))
theorem ks_X0_dutyAt : Cond.selects yX0_dutyAt.cls yX0_dutyAt yX0_dutyAt ∈ gtbl := (g_tb 317 (by decide +kernel) (by decide +kernel))
theorem mv_X4_133 : okV RX4 133 yX0_dutyAt cX0_dutyAt 2 (some .int) 1 := ⟨(g_tb 315 (by decide +kernel) (by decide +kernel)), ki_X0_dutyAt, ks_X0_dutyAt, kz_X0, kc_X0_dutyAt, ⟨by decide +kernel, by decide +kernel, by decide +kernel⟩⟩
theorem kc_X0_dutyByRate : Cond.code yX0_dutyByRate cX0_dutyByRate 4 (some .int) ∈ gtbl := (g_tb 322 (by decide +kernel) (by decide +kernel))
theorem ki_X0_dutyByRate : Cond.instanceMethod yX0_dutyByRate ∈ gtbl := (g_tb 321 (by decide +kernel) (by decide +kernel))
theorem ks_X0_dutyByRate : Cond.selects yX0_dutyByRate.cls yX0_dutyByRate yX0_dutyByRate ∈ gtbl := g_sl 8 (by decide +kernel) (by decide +kernel)
theorem mv_X0_71 : okV RX0 71 yX0_dutyByRate cX0_dutyByRate 4 (some .int) 1 := ⟨(g_tb 319 (by decide +kernel) (by decide +kernel)), ki_X0_dutyByRate, ks_X0_dutyByRate, kz_X0, kc_X0_dutyByRate, ⟨by decide +kernel, by decide +kernel, by decide +kernel⟩⟩
theorem kc_X0_minutesByGrade : Cond.code yX0_minutesByGrade cX0_minutesByGrade 5 (some .int) ∈ gtbl := (g_tb 326 (by decide +kernel) (by decide +kernel))
theorem ki_X0_minutesByGrade : Cond.instanceMethod yX0_minutesByGrade ∈ gtbl := (g_tb 325 (by decide +kernel) (by decide +kernel))
theorem ks_X0_minutesByGrade : Cond.selects yX0_minutesByGrade.cls yX0_minutesByGrade yX0_minutesByGrade ∈ gtbl := g_sl 9 (by decide +kernel) (by decide +kernel)
theorem mv_X0_74 : okV RX0 74 yX0_minutesByGrade cX0_minutesByGrade 5 (some .int) 1 := ⟨(g_tb 323 (by decide +kernel) (by decide +kernel)), ki_X0_minutesByGrade, ks_X0_minutesByGrade, kz_X0, kc_X0_minutesByGrade, ⟨by decide +kernel, by decide +kernel, by decide +kernel⟩⟩
theorem mv_X0_77 : okV RX0 77 yX0_isDeclared cX0_isDeclared 2 (some .boolean) 1 := ⟨(g_tb 327 (by decide +kernel) (by decide +kernel)), ki_X0_isDeclared, ks_X0_isDeclared, kz_X0, kc_X0_isDeclared, ⟨by decide +kernel, by decide +kernel, by decide +kernel⟩⟩
theorem mv_X0_81 : okV RX0 81 yX0_isDutiable cX0_isDutiable 2 (some .boolean) 1 := ⟨(g_tb 328 (by decide +kernel) (by decide +kernel)), ki_X0_isDutiable, ks_X0_isDutiable, kz_X0, kc_X0_isDutiable, ⟨by decide +kernel, by decide +kernel, by decide +kernel⟩⟩
theorem mx_X0_84 : okMax RX0 84 := ⟨(g_tb 329 (by decide +kernel) (by decide +kernel)), (g_tb 330 (by decide +kernel) (by decide +kernel)), kz_J9, (g_tb 331 (by decide +kernel) (by decide +kernel))⟩
theorem kc_X4_clear : Cond.code yX4_clear cX4_clear 8 (some .long) ∈ gtbl := (g_tb 335 (by decide +kernel) (by decide +kernel))
theorem ki_X4_clear : Cond.instanceMethod yX4_clear ∈ gtbl := (g_tb 333 (by decide +kernel) (by decide +kernel))
theorem ks_X4_clear : Cond.selects yX4_clear.cls yX4_clear yX4_clear ∈ gtbl := (g_tb 334 (by decide +kernel) (by decide +kernel))
theorem mv_L_53 : okV RL 53 yX4_clear cX4_clear 8 (some .long) 2 := ⟨(g_tb 332 (by decide +kernel) (by decide +kernel)), ki_X4_clear, ks_X4_clear, kz_X4, kc_X4_clear, ⟨by decide +kernel, by decide +kernel, by decide +kernel⟩⟩
theorem kc_X0_tenthsHeard : Cond.code yX0_tenthsHeard cX0_tenthsHeard 3 (some .int) ∈ gtbl := (g_tb 340 (by decide +kernel) (by decide +kernel))
theorem ki_X0_tenthsHeard : Cond.instanceMethod yX0_tenthsHeard ∈ gtbl := (g_tb 338 (by decide +kernel) (by decide +kernel))
theorem ks_X0_tenthsHeard : Cond.selects yX0_tenthsHeard.cls yX0_tenthsHeard yX0_tenthsHeard ∈ gtbl := (g_tb 339 (by decide +kernel) (by decide +kernel))
theorem mv_X4_138 : okV RX4 138 yX0_tenthsHeard cX0_tenthsHeard 3 (some .int) 2 := ⟨(g_tb 337 (by decide +kernel) (by decide +kernel)), ki_X0_tenthsHeard, ks_X0_tenthsHeard, kz_X0, kc_X0_tenthsHeard, ⟨by decide +kernel, by decide +kernel, by decide +kernel⟩⟩
theorem kc_X4_leastTerms : Cond.code yX4_leastTerms cX4_leastTerms 9 (some .long) ∈ gtbl := (g_tb 344 (by decide +kernel) (by decide +kernel))
theorem kt_X4_leastTerms : Cond.static yX4_leastTerms ∈ gtbl := (g_tb 343 (by decide +kernel) (by decide +kernel))
theorem ms_X4_143 : okS RX4 143 yX4_leastTerms cX4_leastTerms 9 (some .long) 3 := ⟨(g_tb 342 (by decide +kernel) (by decide +kernel)), kt_X4_leastTerms, kz_X4, kc_X4_leastTerms, ⟨by decide +kernel, by decide +kernel, by decide +kernel⟩⟩
theorem kc_X4_commonDivisor : Cond.code yX4_commonDivisor cX4_commonDivisor 11 (some .long) ∈ gtbl := (g_tb 347 (by decide +kernel) (by decide +kernel))
theorem kt_X4_commonDivisor : Cond.static yX4_commonDivisor ∈ gtbl := (g_tb 346 (by decide +kernel) (by decide +kernel))
theorem ms_X4_258 : okS RX4 258 yX4_commonDivisor cX4_commonDivisor 11 (some .long) 2 := ⟨(g_tb 345 (by decide +kernel) (by decide +kernel)), kt_X4_commonDivisor, kz_X4, kc_X4_commonDivisor, ⟨by decide +kernel, by decide +kernel, by decide +kernel⟩⟩
theorem kc_X4_cost : Cond.code yX4_cost cX4_cost 6 (some .long) ∈ gtbl := (g_tb 351 (by decide +kernel) (by decide +kernel))
theorem ki_X4_cost : Cond.instanceMethod yX4_cost ∈ gtbl := (g_tb 349 (by decide +kernel) (by decide +kernel))
theorem ks_X4_cost : Cond.selects yX4_cost.cls yX4_cost yX4_cost ∈ gtbl := (g_tb 350 (by decide +kernel) (by decide +kernel))
theorem mv_L_58 : okV RL 58 yX4_cost cX4_cost 6 (some .long) 5 := ⟨(g_tb 348 (by decide +kernel) (by decide +kernel)), ki_X4_cost, ks_X4_cost, kz_X4, kc_X4_cost, ⟨by decide +kernel, by decide +kernel, by decide +kernel⟩⟩
theorem kc_X4_lostUnfaulted : Cond.code yX4_lostUnfaulted cX4_lostUnfaulted 1 (some .long) ∈ gtbl := (g_tb 355 (by decide +kernel) (by decide +kernel))
theorem ki_X4_lostUnfaulted : Cond.instanceMethod yX4_lostUnfaulted ∈ gtbl := (g_tb 354 (by decide +kernel) (by decide +kernel))
theorem ks_X4_lostUnfaulted : Cond.selects yX4_lostUnfaulted.cls yX4_lostUnfaulted yX4_lostUnfaulted ∈ gtbl := g_sl 10 (by decide +kernel) (by decide +kernel)
theorem mv_X4_147 : okV RX4 147 yX4_lostUnfaulted cX4_lostUnfaulted 1 (some .long) 0 := ⟨(g_tb 352 (by decide +kernel) (by decide +kernel)), ki_X4_lostUnfaulted, ks_X4_lostUnfaulted, kz_X4, kc_X4_lostUnfaulted, ⟨by decide +kernel, by decide +kernel, by decide +kernel⟩⟩
theorem kc_X4_takeWay : Cond.code yX4_takeWay cX4_takeWay 9 (some .int) ∈ gtbl := (g_tb 359 (by decide +kernel) (by decide +kernel))
theorem ki_X4_takeWay : Cond.instanceMethod yX4_takeWay ∈ gtbl := (g_tb 358 (by decide +kernel) (by decide +kernel))
theorem ks_X4_takeWay : Cond.selects yX4_takeWay.cls yX4_takeWay yX4_takeWay ∈ gtbl := g_sl 11 (by decide +kernel) (by decide +kernel)
theorem mv_X4_151 : okV RX4 151 yX4_takeWay cX4_takeWay 9 (some .int) 4 := ⟨(g_tb 356 (by decide +kernel) (by decide +kernel)), ki_X4_takeWay, ks_X4_takeWay, kz_X4, kc_X4_takeWay, ⟨by decide +kernel, by decide +kernel, by decide +kernel⟩⟩
theorem kc_X3_begin : Cond.code yX3_begin cX3_begin 1 none ∈ gtbl := (g_tb 363 (by decide +kernel) (by decide +kernel))
theorem ki_X3_begin : Cond.instanceMethod yX3_begin ∈ gtbl := (g_tb 361 (by decide +kernel) (by decide +kernel))
theorem ks_X3_begin : Cond.selects yX3_begin.cls yX3_begin yX3_begin ∈ gtbl := (g_tb 362 (by decide +kernel) (by decide +kernel))
theorem mv_X4_182 : okV RX4 182 yX3_begin cX3_begin 1 none 0 := ⟨(g_tb 360 (by decide +kernel) (by decide +kernel)), ki_X3_begin, ks_X3_begin, kz_X3, kc_X3_begin, ⟨by decide +kernel, by decide +kernel, by decide +kernel⟩⟩
theorem kc_X3_goOn : Cond.code yX3_goOn cX3_goOn 2 none ∈ gtbl := (g_tb 367 (by decide +kernel) (by decide +kernel))
theorem ki_X3_goOn : Cond.instanceMethod yX3_goOn ∈ gtbl := (g_tb 365 (by decide +kernel) (by decide +kernel))
theorem ks_X3_goOn : Cond.selects yX3_goOn.cls yX3_goOn yX3_goOn ∈ gtbl := (g_tb 366 (by decide +kernel) (by decide +kernel))
theorem mv_X4_185 : okV RX4 185 yX3_goOn cX3_goOn 2 none 1 := ⟨(g_tb 364 (by decide +kernel) (by decide +kernel)), ki_X3_goOn, ks_X3_goOn, kz_X3, kc_X3_goOn, ⟨by decide +kernel, by decide +kernel, by decide +kernel⟩⟩
theorem kc_X3_costIn : Cond.code yX3_costIn cX3_costIn 5 (some .long) ∈ gtbl := (g_tb 371 (by decide +kernel) (by decide +kernel))
theorem ki_X3_costIn : Cond.instanceMethod yX3_costIn ∈ gtbl := (g_tb 369 (by decide +kernel) (by decide +kernel))
theorem ks_X3_costIn : Cond.selects yX3_costIn.cls yX3_costIn yX3_costIn ∈ gtbl := (g_tb 370 (by decide +kernel) (by decide +kernel))
theorem mv_X4_155 : okV RX4 155 yX3_costIn cX3_costIn 5 (some .long) 1 := ⟨(g_tb 368 (by decide +kernel) (by decide +kernel)), ki_X3_costIn, ks_X3_costIn, kz_X3, kc_X3_costIn, ⟨by decide +kernel, by decide +kernel, by decide +kernel⟩⟩
theorem mv_X3_19 : okV RX3 19 yX0_dutyAt cX0_dutyAt 2 (some .int) 1 := ⟨(g_tb 372 (by decide +kernel) (by decide +kernel)), ki_X0_dutyAt, ks_X0_dutyAt, kz_X0, kc_X0_dutyAt, ⟨by decide +kernel, by decide +kernel, by decide +kernel⟩⟩
theorem kc_X3_meanTaken : Cond.code yX3_meanTaken cX3_meanTaken 11 (some .long) ∈ gtbl := (g_tb 377 (by decide +kernel) (by decide +kernel))
theorem ki_X3_meanTaken : Cond.instanceMethod yX3_meanTaken ∈ gtbl := (g_tb 376 (by decide +kernel) (by decide +kernel))
theorem ks_X3_meanTaken : Cond.selects yX3_meanTaken.cls yX3_meanTaken yX3_meanTaken ∈ gtbl := g_sl 12 (by decide +kernel) (by decide +kernel)
theorem mv_X3_30 : okV RX3 30 yX3_meanTaken cX3_meanTaken 11 (some .long) 2 := ⟨(g_tb 374 (by decide +kernel) (by decide +kernel)), ki_X3_meanTaken, ks_X3_meanTaken, kz_X3, kc_X3_meanTaken, ⟨by decide +kernel, by decide +kernel, by decide +kernel⟩⟩
theorem mv_X3_36 : okV RX3 36 yX0_tenthsHeard cX0_tenthsHeard 3 (some .int) 2 := ⟨(g_tb 379 (by decide +kernel) (by decide +kernel)), ki_X0_tenthsHeard, ks_X0_tenthsHeard, kz_X0, kc_X0_tenthsHeard, ⟨by decide +kernel, by decide +kernel, by decide +kernel⟩⟩
theorem mv_X3_42 : okV RX3 42 yX0_weightOf cX0_weightOf 2 (some .int) 1 := ⟨(g_tb 381 (by decide +kernel) (by decide +kernel)), ki_X0_weightOf, ks_X0_weightOf, kz_X0, kc_X0_weightOf, ⟨by decide +kernel, by decide +kernel, by decide +kernel⟩⟩
theorem kc_X4_say : Cond.code yX4_say cX4_say 6 (some .int) ∈ gtbl := (g_tb 386 (by decide +kernel) (by decide +kernel))
theorem ki_X4_say : Cond.instanceMethod yX4_say ∈ gtbl := (g_tb 384 (by decide +kernel) (by decide +kernel))
theorem ks_X4_say : Cond.selects yX4_say.cls yX4_say yX4_say ∈ gtbl := (g_tb 385 (by decide +kernel) (by decide +kernel))
theorem mv_L_63 : okV RL 63 yX4_say cX4_say 6 (some .int) 4 := ⟨(g_tb 383 (by decide +kernel) (by decide +kernel)), ki_X4_say, ks_X4_say, kz_X4, kc_X4_say, ⟨by decide +kernel, by decide +kernel, by decide +kernel⟩⟩
theorem kc_X4_cheapestDeclared : Cond.code yX4_cheapestDeclared cX4_cheapestDeclared 9 (some .int) ∈ gtbl := (g_tb 390 (by decide +kernel) (by decide +kernel))
theorem ki_X4_cheapestDeclared : Cond.instanceMethod yX4_cheapestDeclared ∈ gtbl := (g_tb 389 (by decide +kernel) (by decide +kernel))
theorem ks_X4_cheapestDeclared : Cond.selects yX4_cheapestDeclared.cls yX4_cheapestDeclared yX4_cheapestDeclared ∈ gtbl := g_sl 13 (by decide +kernel) (by decide +kernel)
theorem mv_X4_161 : okV RX4 161 yX4_cheapestDeclared cX4_cheapestDeclared 9 (some .int) 0 := ⟨(g_tb 387 (by decide +kernel) (by decide +kernel)), ki_X4_cheapestDeclared, ks_X4_cheapestDeclared, kz_X4, kc_X4_cheapestDeclared, ⟨by decide +kernel, by decide +kernel, by decide +kernel⟩⟩
theorem kc_X0_allSilences : Cond.code yX0_allSilences cX0_allSilences 1 (some .int) ∈ gtbl := (g_tb 395 (by decide +kernel) (by decide +kernel))
theorem ki_X0_allSilences : Cond.instanceMethod yX0_allSilences ∈ gtbl := (g_tb 393 (by decide +kernel) (by decide +kernel))
theorem ks_X0_allSilences : Cond.selects yX0_allSilences.cls yX0_allSilences yX0_allSilences ∈ gtbl := (g_tb 394 (by decide +kernel) (by decide +kernel))
theorem mv_X4_201 : okV RX4 201 yX0_allSilences cX0_allSilences 1 (some .int) 0 := ⟨(g_tb 392 (by decide +kernel) (by decide +kernel)), ki_X0_allSilences, ks_X0_allSilences, kz_X0, kc_X0_allSilences, ⟨by decide +kernel, by decide +kernel, by decide +kernel⟩⟩
theorem kc_X4_pack : Cond.code yX4_pack cX4_pack 4 (some .int) ∈ gtbl := (g_tb 399 (by decide +kernel) (by decide +kernel))
theorem ki_X4_pack : Cond.instanceMethod yX4_pack ∈ gtbl := (g_tb 397 (by decide +kernel) (by decide +kernel))
theorem ks_X4_pack : Cond.selects yX4_pack.cls yX4_pack yX4_pack ∈ gtbl := (g_tb 398 (by decide +kernel) (by decide +kernel))
theorem mv_L_67 : okV RL 67 yX4_pack cX4_pack 4 (some .int) 1 := ⟨(g_tb 396 (by decide +kernel) (by decide +kernel)), ki_X4_pack, ks_X4_pack, kz_X4, kc_X4_pack, ⟨by decide +kernel, by decide +kernel, by decide +kernel⟩⟩
theorem kc_X0_carrierRow : Cond.code yX0_carrierRow cX0_carrierRow 3 (some .int) ∈ gtbl := (g_tb 403 (by decide +kernel) (by decide +kernel))
theorem ki_X0_carrierRow : Cond.instanceMethod yX0_carrierRow ∈ gtbl := (g_tb 401 (by decide +kernel) (by decide +kernel))
theorem ks_X0_carrierRow : Cond.selects yX0_carrierRow.cls yX0_carrierRow yX0_carrierRow ∈ gtbl := (g_tb 402 (by decide +kernel) (by decide +kernel))
theorem mv_X4_164 : okV RX4 164 yX0_carrierRow cX0_carrierRow 3 (some .int) 0 := ⟨(g_tb 400 (by decide +kernel) (by decide +kernel)), ki_X0_carrierRow, ks_X0_carrierRow, kz_X0, kc_X0_carrierRow, ⟨by decide +kernel, by decide +kernel, by decide +kernel⟩⟩
theorem kc_X4_cheapestCarrierRow : Cond.code yX4_cheapestCarrierRow cX4_cheapestCarrierRow 7 (some .int) ∈ gtbl := (g_tb 407 (by decide +kernel) (by decide +kernel))
theorem ki_X4_cheapestCarrierRow : Cond.instanceMethod yX4_cheapestCarrierRow ∈ gtbl := (g_tb 406 (by decide +kernel) (by decide +kernel))
theorem ks_X4_cheapestCarrierRow : Cond.selects yX4_cheapestCarrierRow.cls yX4_cheapestCarrierRow yX4_cheapestCarrierRow ∈ gtbl := g_sl 14 (by decide +kernel) (by decide +kernel)
theorem mv_X4_167 : okV RX4 167 yX4_cheapestCarrierRow cX4_cheapestCarrierRow 7 (some .int) 0 := ⟨(g_tb 404 (by decide +kernel) (by decide +kernel)), ki_X4_cheapestCarrierRow, ks_X4_cheapestCarrierRow, kz_X4, kc_X4_cheapestCarrierRow, ⟨by decide +kernel, by decide +kernel, by decide +kernel⟩⟩
theorem kc_X0_carrierRows : Cond.code yX0_carrierRows cX0_carrierRows 3 (some .int) ∈ gtbl := (g_tb 412 (by decide +kernel) (by decide +kernel))
theorem ki_X0_carrierRows : Cond.instanceMethod yX0_carrierRows ∈ gtbl := (g_tb 410 (by decide +kernel) (by decide +kernel))
theorem ks_X0_carrierRows : Cond.selects yX0_carrierRows.cls yX0_carrierRows yX0_carrierRows ∈ gtbl := (g_tb 411 (by decide +kernel) (by decide +kernel))
theorem mv_X4_255 : okV RX4 255 yX0_carrierRows cX0_carrierRows 3 (some .int) 0 := ⟨(g_tb 409 (by decide +kernel) (by decide +kernel)), ki_X0_carrierRows, ks_X0_carrierRows, kz_X0, kc_X0_carrierRows, ⟨by decide +kernel, by decide +kernel, by decide +kernel⟩⟩
theorem kc_X0_setCarrierRow : Cond.code yX0_setCarrierRow cX0_setCarrierRow 4 none ∈ gtbl := (g_tb 416 (by decide +kernel) (by decide +kernel))
theorem ki_X0_setCarrierRow : Cond.instanceMethod yX0_setCarrierRow ∈ gtbl := (g_tb 414 (by decide +kernel) (by decide +kernel))
theorem ks_X0_setCarrierRow : Cond.selects yX0_setCarrierRow.cls yX0_setCarrierRow yX0_setCarrierRow ∈ gtbl := (g_tb 415 (by decide +kernel) (by decide +kernel))
theorem mv_X4_170 : okV RX4 170 yX0_setCarrierRow cX0_setCarrierRow 4 none 1 := ⟨(g_tb 413 (by decide +kernel) (by decide +kernel)), ki_X0_setCarrierRow, ks_X0_setCarrierRow, kz_X0, kc_X0_setCarrierRow, ⟨by decide +kernel, by decide +kernel, by decide +kernel⟩⟩
theorem kc_X0_dutyAtAll : Cond.code yX0_dutyAtAll cX0_dutyAtAll 3 (some .int) ∈ gtbl := (g_tb 420 (by decide +kernel) (by decide +kernel))
theorem ki_X0_dutyAtAll : Cond.instanceMethod yX0_dutyAtAll ∈ gtbl := (g_tb 418 (by decide +kernel) (by decide +kernel))
theorem ks_X0_dutyAtAll : Cond.selects yX0_dutyAtAll.cls yX0_dutyAtAll yX0_dutyAtAll ∈ gtbl := (g_tb 419 (by decide +kernel) (by decide +kernel))
theorem mv_X4_174 : okV RX4 174 yX0_dutyAtAll cX0_dutyAtAll 3 (some .int) 0 := ⟨(g_tb 417 (by decide +kernel) (by decide +kernel)), ki_X0_dutyAtAll, ks_X0_dutyAtAll, kz_X0, kc_X0_dutyAtAll, ⟨by decide +kernel, by decide +kernel, by decide +kernel⟩⟩
theorem kc_X4_road : Cond.code yX4_road cX4_road 7 (some .int) ∈ gtbl := (g_tb 424 (by decide +kernel) (by decide +kernel))
theorem ki_X4_road : Cond.instanceMethod yX4_road ∈ gtbl := (g_tb 422 (by decide +kernel) (by decide +kernel))
theorem ks_X4_road : Cond.selects yX4_road.cls yX4_road yX4_road ∈ gtbl := (g_tb 423 (by decide +kernel) (by decide +kernel))
theorem mv_L_71 : okV RL 71 yX4_road cX4_road 7 (some .int) 0 := ⟨(g_tb 421 (by decide +kernel) (by decide +kernel)), ki_X4_road, ks_X4_road, kz_X4, kc_X4_road, ⟨by decide +kernel, by decide +kernel, by decide +kernel⟩⟩
theorem kc_X4_worth : Cond.code yX4_worth cX4_worth 10 (some .long) ∈ gtbl := (g_tb 428 (by decide +kernel) (by decide +kernel))
theorem ki_X4_worth : Cond.instanceMethod yX4_worth ∈ gtbl := (g_tb 426 (by decide +kernel) (by decide +kernel))
theorem ks_X4_worth : Cond.selects yX4_worth.cls yX4_worth yX4_worth ∈ gtbl := (g_tb 427 (by decide +kernel) (by decide +kernel))
theorem mv_L_76 : okV RL 76 yX4_worth cX4_worth 10 (some .long) 5 := ⟨(g_tb 425 (by decide +kernel) (by decide +kernel)), ki_X4_worth, ks_X4_worth, kz_X4, kc_X4_worth, ⟨by decide +kernel, by decide +kernel, by decide +kernel⟩⟩
theorem kc_X4_reading : Cond.code yX4_reading cX4_reading 4 (some .int) ∈ gtbl := (g_tb 432 (by decide +kernel) (by decide +kernel))
theorem ki_X4_reading : Cond.instanceMethod yX4_reading ∈ gtbl := (g_tb 430 (by decide +kernel) (by decide +kernel))
theorem ks_X4_reading : Cond.selects yX4_reading.cls yX4_reading yX4_reading ∈ gtbl := (g_tb 431 (by decide +kernel) (by decide +kernel))
theorem mv_L_80 : okV RL 80 yX4_reading cX4_reading 4 (some .int) 2 := ⟨(g_tb 429 (by decide +kernel) (by decide +kernel)), ki_X4_reading, ks_X4_reading, kz_X4, kc_X4_reading, ⟨by decide +kernel, by decide +kernel, by decide +kernel⟩⟩
theorem kc_X4_back : Cond.code yX4_back cX4_back 2 (some .int) ∈ gtbl := (g_tb 437 (by decide +kernel) (by decide +kernel))
theorem ki_X4_back : Cond.instanceMethod yX4_back ∈ gtbl := (g_tb 435 (by decide +kernel) (by decide +kernel))
theorem ks_X4_back : Cond.selects yX4_back.cls yX4_back yX4_back ∈ gtbl := (g_tb 436 (by decide +kernel) (by decide +kernel))
theorem mv_L_84 : okV RL 84 yX4_back cX4_back 2 (some .int) 1 := ⟨(g_tb 434 (by decide +kernel) (by decide +kernel)), ki_X4_back, ks_X4_back, kz_X4, kc_X4_back, ⟨by decide +kernel, by decide +kernel, by decide +kernel⟩⟩
theorem kc_X4_said : Cond.code yX4_said cX4_said 6 (some .int) ∈ gtbl := (g_tb 441 (by decide +kernel) (by decide +kernel))
theorem ki_X4_said : Cond.instanceMethod yX4_said ∈ gtbl := (g_tb 439 (by decide +kernel) (by decide +kernel))
theorem ks_X4_said : Cond.selects yX4_said.cls yX4_said yX4_said ∈ gtbl := (g_tb 440 (by decide +kernel) (by decide +kernel))
theorem mv_L_88 : okV RL 88 yX4_said cX4_said 6 (some .int) 1 := ⟨(g_tb 438 (by decide +kernel) (by decide +kernel)), ki_X4_said, ks_X4_said, kz_X4, kc_X4_said, ⟨by decide +kernel, by decide +kernel, by decide +kernel⟩⟩
theorem kc_X0_readingsAreSo : Cond.code yX0_readingsAreSo cX0_readingsAreSo 2 (some .boolean) ∈ gtbl := (g_tb 445 (by decide +kernel) (by decide +kernel))
theorem ki_X0_readingsAreSo : Cond.instanceMethod yX0_readingsAreSo ∈ gtbl := (g_tb 443 (by decide +kernel) (by decide +kernel))
theorem ks_X0_readingsAreSo : Cond.selects yX0_readingsAreSo.cls yX0_readingsAreSo yX0_readingsAreSo ∈ gtbl := (g_tb 444 (by decide +kernel) (by decide +kernel))
theorem mv_X4_204 : okV RX4 204 yX0_readingsAreSo cX0_readingsAreSo 2 (some .boolean) 0 := ⟨(g_tb 442 (by decide +kernel) (by decide +kernel)), ki_X0_readingsAreSo, ks_X0_readingsAreSo, kz_X0, kc_X0_readingsAreSo, ⟨by decide +kernel, by decide +kernel, by decide +kernel⟩⟩
theorem mv_X0_90 : okV RX0 90 yX0_dutyAt cX0_dutyAt 2 (some .int) 1 := ⟨(g_tb 446 (by decide +kernel) (by decide +kernel)), ki_X0_dutyAt, ks_X0_dutyAt, kz_X0, kc_X0_dutyAt, ⟨by decide +kernel, by decide +kernel, by decide +kernel⟩⟩
theorem kc_X4_frees : Cond.code yX4_frees cX4_frees 4 (some .int) ∈ gtbl := (g_tb 450 (by decide +kernel) (by decide +kernel))
theorem ki_X4_frees : Cond.instanceMethod yX4_frees ∈ gtbl := (g_tb 448 (by decide +kernel) (by decide +kernel))
theorem ks_X4_frees : Cond.selects yX4_frees.cls yX4_frees yX4_frees ∈ gtbl := (g_tb 449 (by decide +kernel) (by decide +kernel))
theorem mv_L_92 : okV RL 92 yX4_frees cX4_frees 4 (some .int) 0 := ⟨(g_tb 447 (by decide +kernel) (by decide +kernel)), ki_X4_frees, ks_X4_frees, kz_X4, kc_X4_frees, ⟨by decide +kernel, by decide +kernel, by decide +kernel⟩⟩
theorem kc_X4_laws : Cond.code yX4_laws cX4_laws 4 (some .int) ∈ gtbl := (g_tb 454 (by decide +kernel) (by decide +kernel))
theorem ki_X4_laws : Cond.instanceMethod yX4_laws ∈ gtbl := (g_tb 452 (by decide +kernel) (by decide +kernel))
theorem ks_X4_laws : Cond.selects yX4_laws.cls yX4_laws yX4_laws ∈ gtbl := (g_tb 453 (by decide +kernel) (by decide +kernel))
theorem mv_L_96 : okV RL 96 yX4_laws cX4_laws 4 (some .int) 0 := ⟨(g_tb 451 (by decide +kernel) (by decide +kernel)), ki_X4_laws, ks_X4_laws, kz_X4, kc_X4_laws, ⟨by decide +kernel, by decide +kernel, by decide +kernel⟩⟩
theorem kc_X4_kinds : Cond.code yX4_kinds cX4_kinds 5 (some .int) ∈ gtbl := (g_tb 458 (by decide +kernel) (by decide +kernel))
theorem ki_X4_kinds : Cond.instanceMethod yX4_kinds ∈ gtbl := (g_tb 456 (by decide +kernel) (by decide +kernel))
theorem ks_X4_kinds : Cond.selects yX4_kinds.cls yX4_kinds yX4_kinds ∈ gtbl := (g_tb 457 (by decide +kernel) (by decide +kernel))
theorem mv_L_100 : okV RL 100 yX4_kinds cX4_kinds 5 (some .int) 1 := ⟨(g_tb 455 (by decide +kernel) (by decide +kernel)), ki_X4_kinds, ks_X4_kinds, kz_X4, kc_X4_kinds, ⟨by decide +kernel, by decide +kernel, by decide +kernel⟩⟩
theorem kc_X4_odds : Cond.code yX4_odds cX4_odds 8 (some .long) ∈ gtbl := (g_tb 462 (by decide +kernel) (by decide +kernel))
theorem ki_X4_odds : Cond.instanceMethod yX4_odds ∈ gtbl := (g_tb 460 (by decide +kernel) (by decide +kernel))
theorem ks_X4_odds : Cond.selects yX4_odds.cls yX4_odds yX4_odds ∈ gtbl := (g_tb 461 (by decide +kernel) (by decide +kernel))
theorem mv_L_104 : okV RL 104 yX4_odds cX4_odds 8 (some .long) 3 := ⟨(g_tb 459 (by decide +kernel) (by decide +kernel)), ki_X4_odds, ks_X4_odds, kz_X4, kc_X4_odds, ⟨by decide +kernel, by decide +kernel, by decide +kernel⟩⟩
theorem kc_X4_sheet : Cond.code yX4_sheet cX4_sheet 5 (some .int) ∈ gtbl := (g_tb 466 (by decide +kernel) (by decide +kernel))
theorem ki_X4_sheet : Cond.instanceMethod yX4_sheet ∈ gtbl := (g_tb 464 (by decide +kernel) (by decide +kernel))
theorem ks_X4_sheet : Cond.selects yX4_sheet.cls yX4_sheet yX4_sheet ∈ gtbl := (g_tb 465 (by decide +kernel) (by decide +kernel))
theorem mv_L_109 : okV RL 109 yX4_sheet cX4_sheet 5 (some .int) 3 := ⟨(g_tb 463 (by decide +kernel) (by decide +kernel)), ki_X4_sheet, ks_X4_sheet, kz_X4, kc_X4_sheet, ⟨by decide +kernel, by decide +kernel, by decide +kernel⟩⟩
theorem kc_X1_begin : Cond.code yX1_begin cX1_begin 3 none ∈ gtbl := (g_tb 470 (by decide +kernel) (by decide +kernel))
theorem ki_X1_begin : Cond.instanceMethod yX1_begin ∈ gtbl := (g_tb 468 (by decide +kernel) (by decide +kernel))
theorem ks_X1_begin : Cond.selects yX1_begin.cls yX1_begin yX1_begin ∈ gtbl := (g_tb 469 (by decide +kernel) (by decide +kernel))
theorem mv_X4_207 : okV RX4 207 yX1_begin cX1_begin 3 none 2 := ⟨(g_tb 467 (by decide +kernel) (by decide +kernel)), ki_X1_begin, ks_X1_begin, kz_X1, kc_X1_begin, ⟨by decide +kernel, by decide +kernel, by decide +kernel⟩⟩
theorem ms_X1_19 : okS RX1 19 yJ7_fill_53178 cJ7_fill_53178 4 none 2 := ⟨(g_tb 471 (by decide +kernel) (by decide +kernel)), kt_J7_fill_53178, kz_J7, kc_J7_fill_53178, ⟨by decide +kernel, by decide +kernel, by decide +kernel⟩⟩
theorem kc_X4_lose : Cond.code yX4_lose cX4_lose 2 (some .int) ∈ gtbl := (g_tb 475 (by decide +kernel) (by decide +kernel))
theorem ki_X4_lose : Cond.instanceMethod yX4_lose ∈ gtbl := (g_tb 473 (by decide +kernel) (by decide +kernel))
theorem ks_X4_lose : Cond.selects yX4_lose.cls yX4_lose yX4_lose ∈ gtbl := (g_tb 474 (by decide +kernel) (by decide +kernel))
theorem mv_L_114 : okV RL 114 yX4_lose cX4_lose 2 (some .int) 1 := ⟨(g_tb 472 (by decide +kernel) (by decide +kernel)), ki_X4_lose, ks_X4_lose, kz_X4, kc_X4_lose, ⟨by decide +kernel, by decide +kernel, by decide +kernel⟩⟩
theorem mv_X4_213 : okV RX4 213 yX1_hasRow cX1_hasRow 1 (some .boolean) 0 := ⟨(g_tb 476 (by decide +kernel) (by decide +kernel)), ki_X1_hasRow, ks_X1_hasRow, kz_X1, kc_X1_hasRow, ⟨by decide +kernel, by decide +kernel, by decide +kernel⟩⟩
theorem kc_X1_drop : Cond.code yX1_drop cX1_drop 1 none ∈ gtbl := (g_tb 480 (by decide +kernel) (by decide +kernel))
theorem ki_X1_drop : Cond.instanceMethod yX1_drop ∈ gtbl := (g_tb 478 (by decide +kernel) (by decide +kernel))
theorem ks_X1_drop : Cond.selects yX1_drop.cls yX1_drop yX1_drop ∈ gtbl := (g_tb 479 (by decide +kernel) (by decide +kernel))
theorem mv_X4_216 : okV RX4 216 yX1_drop cX1_drop 1 none 0 := ⟨(g_tb 477 (by decide +kernel) (by decide +kernel)), ki_X1_drop, ks_X1_drop, kz_X1, kc_X1_drop, ⟨by decide +kernel, by decide +kernel, by decide +kernel⟩⟩
theorem kc_X4_put : Cond.code yX4_put cX4_put 5 (some .int) ∈ gtbl := (g_tb 484 (by decide +kernel) (by decide +kernel))
theorem ki_X4_put : Cond.instanceMethod yX4_put ∈ gtbl := (g_tb 482 (by decide +kernel) (by decide +kernel))
theorem ks_X4_put : Cond.selects yX4_put.cls yX4_put yX4_put ∈ gtbl := (g_tb 483 (by decide +kernel) (by decide +kernel))
theorem mv_L_118 : okV RL 118 yX4_put cX4_put 5 (some .int) 3 := ⟨(g_tb 481 (by decide +kernel) (by decide +kernel)), ki_X4_put, ks_X4_put, kz_X4, kc_X4_put, ⟨by decide +kernel, by decide +kernel, by decide +kernel⟩⟩
theorem mv_X4_219 : okV RX4 219 yX1_hasCell cX1_hasCell 2 (some .boolean) 1 := ⟨(g_tb 485 (by decide +kernel) (by decide +kernel)), ki_X1_hasCell, ks_X1_hasCell, kz_X1, kc_X1_hasCell, ⟨by decide +kernel, by decide +kernel, by decide +kernel⟩⟩
theorem kc_X1_cut : Cond.code yX1_cut cX1_cut 2 (some .int) ∈ gtbl := (g_tb 489 (by decide +kernel) (by decide +kernel))
theorem ki_X1_cut : Cond.instanceMethod yX1_cut ∈ gtbl := (g_tb 487 (by decide +kernel) (by decide +kernel))
theorem ks_X1_cut : Cond.selects yX1_cut.cls yX1_cut yX1_cut ∈ gtbl := (g_tb 488 (by decide +kernel) (by decide +kernel))
theorem mv_X4_225 : okV RX4 225 yX1_cut cX1_cut 2 (some .int) 1 := ⟨(g_tb 486 (by decide +kernel) (by decide +kernel)), ki_X1_cut, ks_X1_cut, kz_X1, kc_X1_cut, ⟨by decide +kernel, by decide +kernel, by decide +kernel⟩⟩
theorem kc_X4_cell : Cond.code yX4_cell cX4_cell 6 (some .long) ∈ gtbl := (g_tb 493 (by decide +kernel) (by decide +kernel))
theorem ki_X4_cell : Cond.instanceMethod yX4_cell ∈ gtbl := (g_tb 491 (by decide +kernel) (by decide +kernel))
theorem ks_X4_cell : Cond.selects yX4_cell.cls yX4_cell yX4_cell ∈ gtbl := (g_tb 492 (by decide +kernel) (by decide +kernel))
theorem mv_L_122 : okV RL 122 yX4_cell cX4_cell 6 (some .long) 3 := ⟨(g_tb 490 (by decide +kernel) (by decide +kernel)), ki_X4_cell, ks_X4_cell, kz_X4, kc_X4_cell, ⟨by decide +kernel, by decide +kernel, by decide +kernel⟩⟩
theorem kc_X4_copy : Cond.code yX4_copy cX4_copy 8 (some .int) ∈ gtbl := (g_tb 497 (by decide +kernel) (by decide +kernel))
theorem ki_X4_copy : Cond.instanceMethod yX4_copy ∈ gtbl := (g_tb 495 (by decide +kernel) (by decide +kernel))
theorem ks_X4_copy : Cond.selects yX4_copy.cls yX4_copy yX4_copy ∈ gtbl := (g_tb 496 (by decide +kernel) (by decide +kernel))
theorem mv_L_126 : okV RL 126 yX4_copy cX4_copy 8 (some .int) 5 := ⟨(g_tb 494 (by decide +kernel) (by decide +kernel)), ki_X4_copy, ks_X4_copy, kz_X4, kc_X4_copy, ⟨by decide +kernel, by decide +kernel, by decide +kernel⟩⟩
theorem kc_X4_tell : Cond.code yX4_tell cX4_tell 3 (some .int) ∈ gtbl := (g_tb 504 (by decide +kernel) (by decide +kernel))
theorem ki_X4_tell : Cond.instanceMethod yX4_tell ∈ gtbl := (g_tb 502 (by decide +kernel) (by decide +kernel))
theorem ks_X4_tell : Cond.selects yX4_tell.cls yX4_tell yX4_tell ∈ gtbl := (g_tb 503 (by decide +kernel) (by decide +kernel))
theorem mv_L_131 : okV RL 131 yX4_tell cX4_tell 3 (some .int) 1 := ⟨(g_tb 501 (by decide +kernel) (by decide +kernel)), ki_X4_tell, ks_X4_tell, kz_X4, kc_X4_tell, ⟨by decide +kernel, by decide +kernel, by decide +kernel⟩⟩
theorem kc_X4_heldTells : Cond.code yX4_heldTells cX4_heldTells 3 (some .int) ∈ gtbl := (g_tb 508 (by decide +kernel) (by decide +kernel))
theorem ki_X4_heldTells : Cond.instanceMethod yX4_heldTells ∈ gtbl := (g_tb 507 (by decide +kernel) (by decide +kernel))
theorem ks_X4_heldTells : Cond.selects yX4_heldTells.cls yX4_heldTells yX4_heldTells ∈ gtbl := g_sl 15 (by decide +kernel) (by decide +kernel)
theorem mv_X4_237 : okV RX4 237 yX4_heldTells cX4_heldTells 3 (some .int) 1 := ⟨(g_tb 505 (by decide +kernel) (by decide +kernel)), ki_X4_heldTells, ks_X4_heldTells, kz_X4, kc_X4_heldTells, ⟨by decide +kernel, by decide +kernel, by decide +kernel⟩⟩
theorem kc_X4_leave : Cond.code yX4_leave cX4_leave 2 none ∈ gtbl := (g_tb 512 (by decide +kernel) (by decide +kernel))
theorem ki_X4_leave : Cond.instanceMethod yX4_leave ∈ gtbl := (g_tb 511 (by decide +kernel) (by decide +kernel))
theorem ks_X4_leave : Cond.selects yX4_leave.cls yX4_leave yX4_leave ∈ gtbl := g_sl 16 (by decide +kernel) (by decide +kernel)
theorem mv_X4_246 : okV RX4 246 yX4_leave cX4_leave 2 none 1 := ⟨(g_tb 509 (by decide +kernel) (by decide +kernel)), ki_X4_leave, ks_X4_leave, kz_X4, kc_X4_leave, ⟨by decide +kernel, by decide +kernel, by decide +kernel⟩⟩
theorem kc_X4_keptTells : Cond.code yX4_keptTells cX4_keptTells 2 (some .int) ∈ gtbl := (g_tb 516 (by decide +kernel) (by decide +kernel))
theorem ki_X4_keptTells : Cond.instanceMethod yX4_keptTells ∈ gtbl := (g_tb 515 (by decide +kernel) (by decide +kernel))
theorem ks_X4_keptTells : Cond.selects yX4_keptTells.cls yX4_keptTells yX4_keptTells ∈ gtbl := g_sl 17 (by decide +kernel) (by decide +kernel)
theorem mv_X4_240 : okV RX4 240 yX4_keptTells cX4_keptTells 2 (some .int) 1 := ⟨(g_tb 513 (by decide +kernel) (by decide +kernel)), ki_X4_keptTells, ks_X4_keptTells, kz_X4, kc_X4_keptTells, ⟨by decide +kernel, by decide +kernel, by decide +kernel⟩⟩
theorem kc_X4_silenceTells : Cond.code yX4_silenceTells cX4_silenceTells 2 (some .int) ∈ gtbl := (g_tb 520 (by decide +kernel) (by decide +kernel))
theorem ki_X4_silenceTells : Cond.instanceMethod yX4_silenceTells ∈ gtbl := (g_tb 519 (by decide +kernel) (by decide +kernel))
theorem ks_X4_silenceTells : Cond.selects yX4_silenceTells.cls yX4_silenceTells yX4_silenceTells ∈ gtbl := g_sl 18 (by decide +kernel) (by decide +kernel)
theorem mv_X4_243 : okV RX4 243 yX4_silenceTells cX4_silenceTells 2 (some .int) 1 := ⟨(g_tb 517 (by decide +kernel) (by decide +kernel)), ki_X4_silenceTells, ks_X4_silenceTells, kz_X4, kc_X4_silenceTells, ⟨by decide +kernel, by decide +kernel, by decide +kernel⟩⟩
theorem kc_X4_hush : Cond.code yX4_hush cX4_hush 2 (some .int) ∈ gtbl := (g_tb 524 (by decide +kernel) (by decide +kernel))
theorem ki_X4_hush : Cond.instanceMethod yX4_hush ∈ gtbl := (g_tb 522 (by decide +kernel) (by decide +kernel))
theorem ks_X4_hush : Cond.selects yX4_hush.cls yX4_hush yX4_hush ∈ gtbl := (g_tb 523 (by decide +kernel) (by decide +kernel))
theorem mv_L_135 : okV RL 135 yX4_hush cX4_hush 2 (some .int) 1 := ⟨(g_tb 521 (by decide +kernel) (by decide +kernel)), ki_X4_hush, ks_X4_hush, kz_X4, kc_X4_hush, ⟨by decide +kernel, by decide +kernel, by decide +kernel⟩⟩
theorem kc_X4_as : Cond.code yX4_as cX4_as 3 (some .int) ∈ gtbl := (g_tb 528 (by decide +kernel) (by decide +kernel))
theorem ki_X4_as : Cond.instanceMethod yX4_as ∈ gtbl := (g_tb 526 (by decide +kernel) (by decide +kernel))
theorem ks_X4_as : Cond.selects yX4_as.cls yX4_as yX4_as ∈ gtbl := (g_tb 527 (by decide +kernel) (by decide +kernel))
theorem mv_L_139 : okV RL 139 yX4_as cX4_as 3 (some .int) 2 := ⟨(g_tb 525 (by decide +kernel) (by decide +kernel)), ki_X4_as, ks_X4_as, kz_X4, kc_X4_as, ⟨by decide +kernel, by decide +kernel, by decide +kernel⟩⟩
theorem kc_X4_trace : Cond.code yX4_trace cX4_trace 1 (some .int) ∈ gtbl := (g_tb 532 (by decide +kernel) (by decide +kernel))
theorem ki_X4_trace : Cond.instanceMethod yX4_trace ∈ gtbl := (g_tb 530 (by decide +kernel) (by decide +kernel))
theorem ks_X4_trace : Cond.selects yX4_trace.cls yX4_trace yX4_trace ∈ gtbl := (g_tb 531 (by decide +kernel) (by decide +kernel))
theorem mv_L_143 : okV RL 143 yX4_trace cX4_trace 1 (some .int) 0 := ⟨(g_tb 529 (by decide +kernel) (by decide +kernel)), ki_X4_trace, ks_X4_trace, kz_X4, kc_X4_trace, ⟨by decide +kernel, by decide +kernel, by decide +kernel⟩⟩
theorem kc_X4_fault : Cond.code yX4_fault cX4_fault 1 (some .int) ∈ gtbl := (g_tb 536 (by decide +kernel) (by decide +kernel))
theorem ki_X4_fault : Cond.instanceMethod yX4_fault ∈ gtbl := (g_tb 534 (by decide +kernel) (by decide +kernel))
theorem ks_X4_fault : Cond.selects yX4_fault.cls yX4_fault yX4_fault ∈ gtbl := (g_tb 535 (by decide +kernel) (by decide +kernel))
theorem mv_L_147 : okV RL 147 yX4_fault cX4_fault 1 (some .int) 0 := ⟨(g_tb 533 (by decide +kernel) (by decide +kernel)), ki_X4_fault, ks_X4_fault, kz_X4, kc_X4_fault, ⟨by decide +kernel, by decide +kernel, by decide +kernel⟩⟩
theorem kc_X4_many : Cond.code yX4_many cX4_many 2 (some .int) ∈ gtbl := (g_tb 540 (by decide +kernel) (by decide +kernel))
theorem ki_X4_many : Cond.instanceMethod yX4_many ∈ gtbl := (g_tb 538 (by decide +kernel) (by decide +kernel))
theorem ks_X4_many : Cond.selects yX4_many.cls yX4_many yX4_many ∈ gtbl := (g_tb 539 (by decide +kernel) (by decide +kernel))
theorem mv_L_151 : okV RL 151 yX4_many cX4_many 2 (some .int) 1 := ⟨(g_tb 537 (by decide +kernel) (by decide +kernel)), ki_X4_many, ks_X4_many, kz_X4, kc_X4_many, ⟨by decide +kernel, by decide +kernel, by decide +kernel⟩⟩
theorem kc_X5_init : Cond.code yX5_init cX5_init 2 none ∈ gtbl := (g_tb 545 (by decide +kernel) (by decide +kernel))
theorem ki_X5_init : Cond.instanceMethod yX5_init ∈ gtbl := (g_tb 544 (by decide +kernel) (by decide +kernel))
theorem kl_L_12 : Cond.methodLink RL 12 yX5_init ∈ gtbl := (g_tb 543 (by decide +kernel) (by decide +kernel))
theorem kc_X5_frontier : Cond.code yX5_frontier cX5_frontier 7 (some .int) ∈ gtbl := (g_tb 653 (by decide +kernel) (by decide +kernel))
theorem ki_X5_frontier : Cond.instanceMethod yX5_frontier ∈ gtbl := (g_tb 651 (by decide +kernel) (by decide +kernel))
theorem ks_X5_frontier : Cond.selects yX5_frontier.cls yX5_frontier yX5_frontier ∈ gtbl := (g_tb 652 (by decide +kernel) (by decide +kernel))
theorem mv_L_17 : okV RL 17 yX5_frontier cX5_frontier 7 (some .int) 4 := ⟨(g_tb 650 (by decide +kernel) (by decide +kernel)), ki_X5_frontier, ks_X5_frontier, kz_X5, kc_X5_frontier, ⟨by decide +kernel, by decide +kernel, by decide +kernel⟩⟩
theorem kc_X5_noSheet : Cond.code yX5_noSheet cX5_noSheet 1 (some .boolean) ∈ gtbl := (g_tb 656 (by decide +kernel) (by decide +kernel))
theorem kt_X5_noSheet : Cond.static yX5_noSheet ∈ gtbl := (g_tb 655 (by decide +kernel) (by decide +kernel))
theorem ms_X5_137 : okS RX5 137 yX5_noSheet cX5_noSheet 1 (some .boolean) 1 := ⟨(g_tb 654 (by decide +kernel) (by decide +kernel)), kt_X5_noSheet, kz_X5, kc_X5_noSheet, ⟨by decide +kernel, by decide +kernel, by decide +kernel⟩⟩
theorem kc_X5_in : Cond.code yX5_in cX5_in 6 (some .boolean) ∈ gtbl := (g_tb 660 (by decide +kernel) (by decide +kernel))
theorem kt_X5_in : Cond.static yX5_in ∈ gtbl := (g_tb 659 (by decide +kernel) (by decide +kernel))
theorem ms_X5_91 : okS RX5 91 yX5_in cX5_in 6 (some .boolean) 3 := ⟨(g_tb 658 (by decide +kernel) (by decide +kernel)), kt_X5_in, kz_X5, kc_X5_in, ⟨by decide +kernel, by decide +kernel, by decide +kernel⟩⟩
theorem kc_X5_refused : Cond.code yX5_refused cX5_refused 2 (some .int) ∈ gtbl := (g_tb 664 (by decide +kernel) (by decide +kernel))
theorem ki_X5_refused : Cond.instanceMethod yX5_refused ∈ gtbl := (g_tb 663 (by decide +kernel) (by decide +kernel))
theorem ks_X5_refused : Cond.selects yX5_refused.cls yX5_refused yX5_refused ∈ gtbl := g_sl 19 (by decide +kernel) (by decide +kernel)
theorem mv_X5_141 : okV RX5 141 yX5_refused cX5_refused 2 (some .int) 1 := ⟨(g_tb 661 (by decide +kernel) (by decide +kernel)), ki_X5_refused, ks_X5_refused, kz_X5, kc_X5_refused, ⟨by decide +kernel, by decide +kernel, by decide +kernel⟩⟩
theorem kc_X5_cellsBarred : Cond.code yX5_cellsBarred cX5_cellsBarred 6 (some .int) ∈ gtbl := (g_tb 669 (by decide +kernel) (by decide +kernel))
theorem ki_X5_cellsBarred : Cond.instanceMethod yX5_cellsBarred ∈ gtbl := (g_tb 668 (by decide +kernel) (by decide +kernel))
theorem ks_X5_cellsBarred : Cond.selects yX5_cellsBarred.cls yX5_cellsBarred yX5_cellsBarred ∈ gtbl := g_sl 20 (by decide +kernel) (by decide +kernel)
theorem mv_X5_144 : okV RX5 144 yX5_cellsBarred cX5_cellsBarred 6 (some .int) 4 := ⟨(g_tb 666 (by decide +kernel) (by decide +kernel)), ki_X5_cellsBarred, ks_X5_cellsBarred, kz_X5, kc_X5_cellsBarred, ⟨by decide +kernel, by decide +kernel, by decide +kernel⟩⟩
theorem kc_X5_failed : Cond.code yX5_failed cX5_failed 2 (some .int) ∈ gtbl := (g_tb 673 (by decide +kernel) (by decide +kernel))
theorem ki_X5_failed : Cond.instanceMethod yX5_failed ∈ gtbl := (g_tb 672 (by decide +kernel) (by decide +kernel))
theorem ks_X5_failed : Cond.selects yX5_failed.cls yX5_failed yX5_failed ∈ gtbl := g_sl 21 (by decide +kernel) (by decide +kernel)
theorem mv_X5_129 : okV RX5 129 yX5_failed cX5_failed 2 (some .int) 1 := ⟨(g_tb 670 (by decide +kernel) (by decide +kernel)), ki_X5_failed, ks_X5_failed, kz_X5, kc_X5_failed, ⟨by decide +kernel, by decide +kernel, by decide +kernel⟩⟩
theorem kc_X5_isBeyond : Cond.code yX5_isBeyond cX5_isBeyond 4 (some .boolean) ∈ gtbl := (g_tb 676 (by decide +kernel) (by decide +kernel))
theorem kt_X5_isBeyond : Cond.static yX5_isBeyond ∈ gtbl := (g_tb 675 (by decide +kernel) (by decide +kernel))
theorem ms_X5_133 : okS RX5 133 yX5_isBeyond cX5_isBeyond 4 (some .boolean) 3 := ⟨(g_tb 674 (by decide +kernel) (by decide +kernel)), kt_X5_isBeyond, kz_X5, kc_X5_isBeyond, ⟨by decide +kernel, by decide +kernel, by decide +kernel⟩⟩
theorem kc_X5_readsFrontier : Cond.code yX5_readsFrontier cX5_readsFrontier 4 (some .boolean) ∈ gtbl := (g_tb 680 (by decide +kernel) (by decide +kernel))
theorem ki_X5_readsFrontier : Cond.instanceMethod yX5_readsFrontier ∈ gtbl := (g_tb 679 (by decide +kernel) (by decide +kernel))
theorem ks_X5_readsFrontier : Cond.selects yX5_readsFrontier.cls yX5_readsFrontier yX5_readsFrontier ∈ gtbl := g_sl 22 (by decide +kernel) (by decide +kernel)
theorem mv_X5_148 : okV RX5 148 yX5_readsFrontier cX5_readsFrontier 4 (some .boolean) 2 := ⟨(g_tb 677 (by decide +kernel) (by decide +kernel)), ki_X5_readsFrontier, ks_X5_readsFrontier, kz_X5, kc_X5_readsFrontier, ⟨by decide +kernel, by decide +kernel, by decide +kernel⟩⟩
theorem kc_X5_codeAt : Cond.code yX5_codeAt cX5_codeAt 3 (some .int) ∈ gtbl := (g_tb 684 (by decide +kernel) (by decide +kernel))
theorem ki_X5_codeAt : Cond.instanceMethod yX5_codeAt ∈ gtbl := (g_tb 683 (by decide +kernel) (by decide +kernel))
theorem ks_X5_codeAt : Cond.selects yX5_codeAt.cls yX5_codeAt yX5_codeAt ∈ gtbl := g_sl 23 (by decide +kernel) (by decide +kernel)
theorem mv_X5_103 : okV RX5 103 yX5_codeAt cX5_codeAt 3 (some .int) 2 := ⟨(g_tb 681 (by decide +kernel) (by decide +kernel)), ki_X5_codeAt, ks_X5_codeAt, kz_X5, kc_X5_codeAt, ⟨by decide +kernel, by decide +kernel, by decide +kernel⟩⟩
theorem kc_X5_figure : Cond.code yX5_figure cX5_figure 6 (some .int) ∈ gtbl := (g_tb 688 (by decide +kernel) (by decide +kernel))
theorem ki_X5_figure : Cond.instanceMethod yX5_figure ∈ gtbl := (g_tb 687 (by decide +kernel) (by decide +kernel))
theorem ks_X5_figure : Cond.selects yX5_figure.cls yX5_figure yX5_figure ∈ gtbl := g_sl 24 (by decide +kernel) (by decide +kernel)
theorem mv_X5_112 : okV RX5 112 yX5_figure cX5_figure 6 (some .int) 3 := ⟨(g_tb 685 (by decide +kernel) (by decide +kernel)), ki_X5_figure, ks_X5_figure, kz_X5, kc_X5_figure, ⟨by decide +kernel, by decide +kernel, by decide +kernel⟩⟩
theorem kc_X5_readsPost : Cond.code yX5_readsPost cX5_readsPost 5 (some .boolean) ∈ gtbl := (g_tb 693 (by decide +kernel) (by decide +kernel))
theorem ki_X5_readsPost : Cond.instanceMethod yX5_readsPost ∈ gtbl := (g_tb 692 (by decide +kernel) (by decide +kernel))
theorem ks_X5_readsPost : Cond.selects yX5_readsPost.cls yX5_readsPost yX5_readsPost ∈ gtbl := g_sl 25 (by decide +kernel) (by decide +kernel)
theorem mv_X5_122 : okV RX5 122 yX5_readsPost cX5_readsPost 5 (some .boolean) 2 := ⟨(g_tb 690 (by decide +kernel) (by decide +kernel)), ki_X5_readsPost, ks_X5_readsPost, kz_X5, kc_X5_readsPost, ⟨by decide +kernel, by decide +kernel, by decide +kernel⟩⟩
theorem kc_X5_readsSilence : Cond.code yX5_readsSilence cX5_readsSilence 6 (some .boolean) ∈ gtbl := (g_tb 697 (by decide +kernel) (by decide +kernel))
theorem ki_X5_readsSilence : Cond.instanceMethod yX5_readsSilence ∈ gtbl := (g_tb 696 (by decide +kernel) (by decide +kernel))
theorem ks_X5_readsSilence : Cond.selects yX5_readsSilence.cls yX5_readsSilence yX5_readsSilence ∈ gtbl := g_sl 26 (by decide +kernel) (by decide +kernel)
theorem mv_X5_126 : okV RX5 126 yX5_readsSilence cX5_readsSilence 6 (some .boolean) 2 := ⟨(g_tb 694 (by decide +kernel) (by decide +kernel)), ki_X5_readsSilence, ks_X5_readsSilence, kz_X5, kc_X5_readsSilence, ⟨by decide +kernel, by decide +kernel, by decide +kernel⟩⟩
theorem kc_X5_all : Cond.code yX5_all cX5_all 1 (some .int) ∈ gtbl := (g_tb 701 (by decide +kernel) (by decide +kernel))
theorem ki_X5_all : Cond.instanceMethod yX5_all ∈ gtbl := (g_tb 700 (by decide +kernel) (by decide +kernel))
theorem ks_X5_all : Cond.selects yX5_all.cls yX5_all yX5_all ∈ gtbl := g_sl 27 (by decide +kernel) (by decide +kernel)
theorem mv_X5_154 : okV RX5 154 yX5_all cX5_all 1 (some .int) 0 := ⟨(g_tb 698 (by decide +kernel) (by decide +kernel)), ki_X5_all, ks_X5_all, kz_X5, kc_X5_all, ⟨by decide +kernel, by decide +kernel, by decide +kernel⟩⟩
theorem kc_X5_ofPost : Cond.code yX5_ofPost cX5_ofPost 3 (some .int) ∈ gtbl := (g_tb 705 (by decide +kernel) (by decide +kernel))
theorem ki_X5_ofPost : Cond.instanceMethod yX5_ofPost ∈ gtbl := (g_tb 703 (by decide +kernel) (by decide +kernel))
theorem ks_X5_ofPost : Cond.selects yX5_ofPost.cls yX5_ofPost yX5_ofPost ∈ gtbl := (g_tb 704 (by decide +kernel) (by decide +kernel))
theorem mv_L_22 : okV RL 22 yX5_ofPost cX5_ofPost 3 (some .int) 2 := ⟨(g_tb 702 (by decide +kernel) (by decide +kernel)), ki_X5_ofPost, ks_X5_ofPost, kz_X5, kc_X5_ofPost, ⟨by decide +kernel, by decide +kernel, by decide +kernel⟩⟩
theorem kc_X5_noPost : Cond.code yX5_noPost cX5_noPost 2 (some .boolean) ∈ gtbl := (g_tb 709 (by decide +kernel) (by decide +kernel))
theorem ki_X5_noPost : Cond.instanceMethod yX5_noPost ∈ gtbl := (g_tb 708 (by decide +kernel) (by decide +kernel))
theorem ks_X5_noPost : Cond.selects yX5_noPost.cls yX5_noPost yX5_noPost ∈ gtbl := g_sl 28 (by decide +kernel) (by decide +kernel)
theorem mv_X5_170 : okV RX5 170 yX5_noPost cX5_noPost 2 (some .boolean) 1 := ⟨(g_tb 706 (by decide +kernel) (by decide +kernel)), ki_X5_noPost, ks_X5_noPost, kz_X5, kc_X5_noPost, ⟨by decide +kernel, by decide +kernel, by decide +kernel⟩⟩
theorem kc_X5_ofSilence : Cond.code yX5_ofSilence cX5_ofSilence 3 (some .int) ∈ gtbl := (g_tb 713 (by decide +kernel) (by decide +kernel))
theorem ki_X5_ofSilence : Cond.instanceMethod yX5_ofSilence ∈ gtbl := (g_tb 711 (by decide +kernel) (by decide +kernel))
theorem ks_X5_ofSilence : Cond.selects yX5_ofSilence.cls yX5_ofSilence yX5_ofSilence ∈ gtbl := (g_tb 712 (by decide +kernel) (by decide +kernel))
theorem mv_L_26 : okV RL 26 yX5_ofSilence cX5_ofSilence 3 (some .int) 2 := ⟨(g_tb 710 (by decide +kernel) (by decide +kernel)), ki_X5_ofSilence, ks_X5_ofSilence, kz_X5, kc_X5_ofSilence, ⟨by decide +kernel, by decide +kernel, by decide +kernel⟩⟩
theorem kc_X5_noSilence : Cond.code yX5_noSilence cX5_noSilence 2 (some .boolean) ∈ gtbl := (g_tb 717 (by decide +kernel) (by decide +kernel))
theorem ki_X5_noSilence : Cond.instanceMethod yX5_noSilence ∈ gtbl := (g_tb 716 (by decide +kernel) (by decide +kernel))
theorem ks_X5_noSilence : Cond.selects yX5_noSilence.cls yX5_noSilence yX5_noSilence ∈ gtbl := g_sl 29 (by decide +kernel) (by decide +kernel)
theorem mv_X5_173 : okV RX5 173 yX5_noSilence cX5_noSilence 2 (some .boolean) 1 := ⟨(g_tb 714 (by decide +kernel) (by decide +kernel)), ki_X5_noSilence, ks_X5_noSilence, kz_X5, kc_X5_noSilence, ⟨by decide +kernel, by decide +kernel, by decide +kernel⟩⟩
theorem kc_X5_gradeOf : Cond.code yX5_gradeOf cX5_gradeOf 3 (some .int) ∈ gtbl := (g_tb 721 (by decide +kernel) (by decide +kernel))
theorem ki_X5_gradeOf : Cond.instanceMethod yX5_gradeOf ∈ gtbl := (g_tb 720 (by decide +kernel) (by decide +kernel))
theorem ks_X5_gradeOf : Cond.selects yX5_gradeOf.cls yX5_gradeOf yX5_gradeOf ∈ gtbl := g_sl 30 (by decide +kernel) (by decide +kernel)
theorem mv_X5_176 : okV RX5 176 yX5_gradeOf cX5_gradeOf 3 (some .int) 1 := ⟨(g_tb 718 (by decide +kernel) (by decide +kernel)), ki_X5_gradeOf, ks_X5_gradeOf, kz_X5, kc_X5_gradeOf, ⟨by decide +kernel, by decide +kernel, by decide +kernel⟩⟩
theorem kc_X5_isIn : Cond.code yX5_isIn cX5_isIn 2 (some .boolean) ∈ gtbl := (g_tb 724 (by decide +kernel) (by decide +kernel))
theorem kt_X5_isIn : Cond.static yX5_isIn ∈ gtbl := (g_tb 723 (by decide +kernel) (by decide +kernel))
theorem ms_X5_167 : okS RX5 167 yX5_isIn cX5_isIn 2 (some .boolean) 2 := ⟨(g_tb 722 (by decide +kernel) (by decide +kernel)), kt_X5_isIn, kz_X5, kc_X5_isIn, ⟨by decide +kernel, by decide +kernel, by decide +kernel⟩⟩
theorem kc_X5_isDutiable : Cond.code yX5_isDutiable cX5_isDutiable 2 (some .boolean) ∈ gtbl := (g_tb 728 (by decide +kernel) (by decide +kernel))
theorem ki_X5_isDutiable : Cond.instanceMethod yX5_isDutiable ∈ gtbl := (g_tb 727 (by decide +kernel) (by decide +kernel))
theorem ks_X5_isDutiable : Cond.selects yX5_isDutiable.cls yX5_isDutiable yX5_isDutiable ∈ gtbl := g_sl 31 (by decide +kernel) (by decide +kernel)
theorem mv_X5_179 : okV RX5 179 yX5_isDutiable cX5_isDutiable 2 (some .boolean) 1 := ⟨(g_tb 725 (by decide +kernel) (by decide +kernel)), ki_X5_isDutiable, ks_X5_isDutiable, kz_X5, kc_X5_isDutiable, ⟨by decide +kernel, by decide +kernel, by decide +kernel⟩⟩
theorem kc_X5_free : Cond.code yX5_free cX5_free 3 (some .int) ∈ gtbl := (g_tb 732 (by decide +kernel) (by decide +kernel))
theorem ki_X5_free : Cond.instanceMethod yX5_free ∈ gtbl := (g_tb 730 (by decide +kernel) (by decide +kernel))
theorem ks_X5_free : Cond.selects yX5_free.cls yX5_free yX5_free ∈ gtbl := (g_tb 731 (by decide +kernel) (by decide +kernel))
theorem mv_L_31 : okV RL 31 yX5_free cX5_free 3 (some .int) 1 := ⟨(g_tb 729 (by decide +kernel) (by decide +kernel)), ki_X5_free, ks_X5_free, kz_X5, kc_X5_free, ⟨by decide +kernel, by decide +kernel, by decide +kernel⟩⟩
theorem kc_X5_law : Cond.code yX5_law cX5_law 3 (some .int) ∈ gtbl := (g_tb 736 (by decide +kernel) (by decide +kernel))
theorem ki_X5_law : Cond.instanceMethod yX5_law ∈ gtbl := (g_tb 734 (by decide +kernel) (by decide +kernel))
theorem ks_X5_law : Cond.selects yX5_law.cls yX5_law yX5_law ∈ gtbl := (g_tb 735 (by decide +kernel) (by decide +kernel))
theorem mv_L_35 : okV RL 35 yX5_law cX5_law 3 (some .int) 1 := ⟨(g_tb 733 (by decide +kernel) (by decide +kernel)), ki_X5_law, ks_X5_law, kz_X5, kc_X5_law, ⟨by decide +kernel, by decide +kernel, by decide +kernel⟩⟩
theorem kc_X5_carry : Cond.code yX5_carry cX5_carry 4 (some .int) ∈ gtbl := (g_tb 741 (by decide +kernel) (by decide +kernel))
theorem ki_X5_carry : Cond.instanceMethod yX5_carry ∈ gtbl := (g_tb 739 (by decide +kernel) (by decide +kernel))
theorem ks_X5_carry : Cond.selects yX5_carry.cls yX5_carry yX5_carry ∈ gtbl := (g_tb 740 (by decide +kernel) (by decide +kernel))
theorem mv_L_39 : okV RL 39 yX5_carry cX5_carry 4 (some .int) 2 := ⟨(g_tb 738 (by decide +kernel) (by decide +kernel)), ki_X5_carry, ks_X5_carry, kz_X5, kc_X5_carry, ⟨by decide +kernel, by decide +kernel, by decide +kernel⟩⟩
theorem kc_X5_noCarrier : Cond.code yX5_noCarrier cX5_noCarrier 1 (some .boolean) ∈ gtbl := (g_tb 744 (by decide +kernel) (by decide +kernel))
theorem kt_X5_noCarrier : Cond.static yX5_noCarrier ∈ gtbl := (g_tb 743 (by decide +kernel) (by decide +kernel))
theorem ms_X5_184 : okS RX5 184 yX5_noCarrier cX5_noCarrier 1 (some .boolean) 1 := ⟨(g_tb 742 (by decide +kernel) (by decide +kernel)), kt_X5_noCarrier, kz_X5, kc_X5_noCarrier, ⟨by decide +kernel, by decide +kernel, by decide +kernel⟩⟩
theorem kc_X5_declare : Cond.code yX5_declare cX5_declare 4 (some .int) ∈ gtbl := (g_tb 748 (by decide +kernel) (by decide +kernel))
theorem ki_X5_declare : Cond.instanceMethod yX5_declare ∈ gtbl := (g_tb 746 (by decide +kernel) (by decide +kernel))
theorem ks_X5_declare : Cond.selects yX5_declare.cls yX5_declare yX5_declare ∈ gtbl := (g_tb 747 (by decide +kernel) (by decide +kernel))
theorem mv_L_44 : okV RL 44 yX5_declare cX5_declare 4 (some .int) 2 := ⟨(g_tb 745 (by decide +kernel) (by decide +kernel)), ki_X5_declare, ks_X5_declare, kz_X5, kc_X5_declare, ⟨by decide +kernel, by decide +kernel, by decide +kernel⟩⟩
theorem kc_X5_hum : Cond.code yX5_hum cX5_hum 4 (some .int) ∈ gtbl := (g_tb 752 (by decide +kernel) (by decide +kernel))
theorem ki_X5_hum : Cond.instanceMethod yX5_hum ∈ gtbl := (g_tb 750 (by decide +kernel) (by decide +kernel))
theorem ks_X5_hum : Cond.selects yX5_hum.cls yX5_hum yX5_hum ∈ gtbl := (g_tb 751 (by decide +kernel) (by decide +kernel))
theorem mv_L_48 : okV RL 48 yX5_hum cX5_hum 4 (some .int) 2 := ⟨(g_tb 749 (by decide +kernel) (by decide +kernel)), ki_X5_hum, ks_X5_hum, kz_X5, kc_X5_hum, ⟨by decide +kernel, by decide +kernel, by decide +kernel⟩⟩
theorem kc_X5_duty : Cond.code yX5_duty cX5_duty 2 (some .int) ∈ gtbl := (g_tb 756 (by decide +kernel) (by decide +kernel))
theorem ki_X5_duty : Cond.instanceMethod yX5_duty ∈ gtbl := (g_tb 754 (by decide +kernel) (by decide +kernel))
theorem ks_X5_duty : Cond.selects yX5_duty.cls yX5_duty yX5_duty ∈ gtbl := (g_tb 755 (by decide +kernel) (by decide +kernel))
theorem mv_L_52 : okV RL 52 yX5_duty cX5_duty 2 (some .int) 1 := ⟨(g_tb 753 (by decide +kernel) (by decide +kernel)), ki_X5_duty, ks_X5_duty, kz_X5, kc_X5_duty, ⟨by decide +kernel, by decide +kernel, by decide +kernel⟩⟩
theorem kc_X5_dutyAt : Cond.code yX5_dutyAt cX5_dutyAt 4 (some .int) ∈ gtbl := (g_tb 760 (by decide +kernel) (by decide +kernel))
theorem ki_X5_dutyAt : Cond.instanceMethod yX5_dutyAt ∈ gtbl := (g_tb 759 (by decide +kernel) (by decide +kernel))
theorem ks_X5_dutyAt : Cond.selects yX5_dutyAt.cls yX5_dutyAt yX5_dutyAt ∈ gtbl := g_sl 32 (by decide +kernel) (by decide +kernel)
theorem mv_X5_190 : okV RX5 190 yX5_dutyAt cX5_dutyAt 4 (some .int) 1 := ⟨(g_tb 757 (by decide +kernel) (by decide +kernel)), ki_X5_dutyAt, ks_X5_dutyAt, kz_X5, kc_X5_dutyAt, ⟨by decide +kernel, by decide +kernel, by decide +kernel⟩⟩
theorem kc_X5_dutyOf : Cond.code yX5_dutyOf cX5_dutyOf 6 (some .int) ∈ gtbl := (g_tb 764 (by decide +kernel) (by decide +kernel))
theorem ki_X5_dutyOf : Cond.instanceMethod yX5_dutyOf ∈ gtbl := (g_tb 763 (by decide +kernel) (by decide +kernel))
theorem ks_X5_dutyOf : Cond.selects yX5_dutyOf.cls yX5_dutyOf yX5_dutyOf ∈ gtbl := g_sl 33 (by decide +kernel) (by decide +kernel)
theorem mv_X5_187 : okV RX5 187 yX5_dutyOf cX5_dutyOf 6 (some .int) 2 := ⟨(g_tb 761 (by decide +kernel) (by decide +kernel)), ki_X5_dutyOf, ks_X5_dutyOf, kz_X5, kc_X5_dutyOf, ⟨by decide +kernel, by decide +kernel, by decide +kernel⟩⟩
theorem kc_X5_clear : Cond.code yX5_clear cX5_clear 6 (some .long) ∈ gtbl := (g_tb 768 (by decide +kernel) (by decide +kernel))
theorem ki_X5_clear : Cond.instanceMethod yX5_clear ∈ gtbl := (g_tb 766 (by decide +kernel) (by decide +kernel))
theorem ks_X5_clear : Cond.selects yX5_clear.cls yX5_clear yX5_clear ∈ gtbl := (g_tb 767 (by decide +kernel) (by decide +kernel))
theorem mv_L_57 : okV RL 57 yX5_clear cX5_clear 6 (some .long) 2 := ⟨(g_tb 765 (by decide +kernel) (by decide +kernel)), ki_X5_clear, ks_X5_clear, kz_X5, kc_X5_clear, ⟨by decide +kernel, by decide +kernel, by decide +kernel⟩⟩
theorem kc_X5_lost : Cond.code yX5_lost cX5_lost 0 (some .long) ∈ gtbl := (g_tb 771 (by decide +kernel) (by decide +kernel))
theorem kt_X5_lost : Cond.static yX5_lost ∈ gtbl := (g_tb 770 (by decide +kernel) (by decide +kernel))
theorem ms_X5_84 : okS RX5 84 yX5_lost cX5_lost 0 (some .long) 0 := ⟨(g_tb 769 (by decide +kernel) (by decide +kernel)), kt_X5_lost, kz_X5, kc_X5_lost, ⟨by decide +kernel, by decide +kernel, by decide +kernel⟩⟩
theorem kc_X5_heardAt : Cond.code yX5_heardAt cX5_heardAt 4 (some .int) ∈ gtbl := (g_tb 777 (by decide +kernel) (by decide +kernel))
theorem ki_X5_heardAt : Cond.instanceMethod yX5_heardAt ∈ gtbl := (g_tb 776 (by decide +kernel) (by decide +kernel))
theorem ks_X5_heardAt : Cond.selects yX5_heardAt.cls yX5_heardAt yX5_heardAt ∈ gtbl := g_sl 34 (by decide +kernel) (by decide +kernel)
theorem mv_X5_193 : okV RX5 193 yX5_heardAt cX5_heardAt 4 (some .int) 2 := ⟨(g_tb 774 (by decide +kernel) (by decide +kernel)), ki_X5_heardAt, ks_X5_heardAt, kz_X5, kc_X5_heardAt, ⟨by decide +kernel, by decide +kernel, by decide +kernel⟩⟩
theorem kc_X5_tens : Cond.code yX5_tens cX5_tens 4 (some .long) ∈ gtbl := (g_tb 780 (by decide +kernel) (by decide +kernel))
theorem kt_X5_tens : Cond.static yX5_tens ∈ gtbl := (g_tb 779 (by decide +kernel) (by decide +kernel))
theorem ms_X5_196 : okS RX5 196 yX5_tens cX5_tens 4 (some .long) 1 := ⟨(g_tb 778 (by decide +kernel) (by decide +kernel)), kt_X5_tens, kz_X5, kc_X5_tens, ⟨by decide +kernel, by decide +kernel, by decide +kernel⟩⟩
theorem kc_X5_told : Cond.code yX5_told cX5_told 11 (some .long) ∈ gtbl := (g_tb 783 (by decide +kernel) (by decide +kernel))
theorem kt_X5_told : Cond.static yX5_told ∈ gtbl := (g_tb 782 (by decide +kernel) (by decide +kernel))
theorem ms_X5_200 : okS RX5 200 yX5_told cX5_told 11 (some .long) 3 := ⟨(g_tb 781 (by decide +kernel) (by decide +kernel)), kt_X5_told, kz_X5, kc_X5_told, ⟨by decide +kernel, by decide +kernel, by decide +kernel⟩⟩
theorem kc_X5_cost : Cond.code yX5_cost cX5_cost 6 (some .long) ∈ gtbl := (g_tb 787 (by decide +kernel) (by decide +kernel))
theorem ki_X5_cost : Cond.instanceMethod yX5_cost ∈ gtbl := (g_tb 785 (by decide +kernel) (by decide +kernel))
theorem ks_X5_cost : Cond.selects yX5_cost.cls yX5_cost yX5_cost ∈ gtbl := (g_tb 786 (by decide +kernel) (by decide +kernel))
theorem mv_L_62 : okV RL 62 yX5_cost cX5_cost 6 (some .long) 5 := ⟨(g_tb 784 (by decide +kernel) (by decide +kernel)), ki_X5_cost, ks_X5_cost, kz_X5, kc_X5_cost, ⟨by decide +kernel, by decide +kernel, by decide +kernel⟩⟩
theorem kc_X5_refusedLong : Cond.code yX5_refusedLong cX5_refusedLong 1 (some .long) ∈ gtbl := (g_tb 792 (by decide +kernel) (by decide +kernel))
theorem ki_X5_refusedLong : Cond.instanceMethod yX5_refusedLong ∈ gtbl := (g_tb 791 (by decide +kernel) (by decide +kernel))
theorem ks_X5_refusedLong : Cond.selects yX5_refusedLong.cls yX5_refusedLong yX5_refusedLong ∈ gtbl := g_sl 35 (by decide +kernel) (by decide +kernel)
theorem mv_X5_206 : okV RX5 206 yX5_refusedLong cX5_refusedLong 1 (some .long) 0 := ⟨(g_tb 789 (by decide +kernel) (by decide +kernel)), ki_X5_refusedLong, ks_X5_refusedLong, kz_X5, kc_X5_refusedLong, ⟨by decide +kernel, by decide +kernel, by decide +kernel⟩⟩
theorem kc_X5_wayBarred : Cond.code yX5_wayBarred cX5_wayBarred 7 (some .int) ∈ gtbl := (g_tb 796 (by decide +kernel) (by decide +kernel))
theorem ki_X5_wayBarred : Cond.instanceMethod yX5_wayBarred ∈ gtbl := (g_tb 795 (by decide +kernel) (by decide +kernel))
theorem ks_X5_wayBarred : Cond.selects yX5_wayBarred.cls yX5_wayBarred yX5_wayBarred ∈ gtbl := g_sl 36 (by decide +kernel) (by decide +kernel)
theorem mv_X5_209 : okV RX5 209 yX5_wayBarred cX5_wayBarred 7 (some .int) 4 := ⟨(g_tb 793 (by decide +kernel) (by decide +kernel)), ki_X5_wayBarred, ks_X5_wayBarred, kz_X5, kc_X5_wayBarred, ⟨by decide +kernel, by decide +kernel, by decide +kernel⟩⟩
theorem kc_X5_costNow : Cond.code yX5_costNow cX5_costNow 9 (some .long) ∈ gtbl := (g_tb 800 (by decide +kernel) (by decide +kernel))
theorem ki_X5_costNow : Cond.instanceMethod yX5_costNow ∈ gtbl := (g_tb 799 (by decide +kernel) (by decide +kernel))
theorem ks_X5_costNow : Cond.selects yX5_costNow.cls yX5_costNow yX5_costNow ∈ gtbl := g_sl 37 (by decide +kernel) (by decide +kernel)
theorem mv_X5_213 : okV RX5 213 yX5_costNow cX5_costNow 9 (some .long) 1 := ⟨(g_tb 797 (by decide +kernel) (by decide +kernel)), ki_X5_costNow, ks_X5_costNow, kz_X5, kc_X5_costNow, ⟨by decide +kernel, by decide +kernel, by decide +kernel⟩⟩
theorem kc_X5_say : Cond.code yX5_say cX5_say 13 (some .int) ∈ gtbl := (g_tb 804 (by decide +kernel) (by decide +kernel))
theorem ki_X5_say : Cond.instanceMethod yX5_say ∈ gtbl := (g_tb 802 (by decide +kernel) (by decide +kernel))
theorem ks_X5_say : Cond.selects yX5_say.cls yX5_say yX5_say ∈ gtbl := (g_tb 803 (by decide +kernel) (by decide +kernel))
theorem mv_L_66 : okV RL 66 yX5_say cX5_say 13 (some .int) 4 := ⟨(g_tb 801 (by decide +kernel) (by decide +kernel)), ki_X5_say, ks_X5_say, kz_X5, kc_X5_say, ⟨by decide +kernel, by decide +kernel, by decide +kernel⟩⟩
theorem kc_X5_pack : Cond.code yX5_pack cX5_pack 8 (some .int) ∈ gtbl := (g_tb 808 (by decide +kernel) (by decide +kernel))
theorem ki_X5_pack : Cond.instanceMethod yX5_pack ∈ gtbl := (g_tb 806 (by decide +kernel) (by decide +kernel))
theorem ks_X5_pack : Cond.selects yX5_pack.cls yX5_pack yX5_pack ∈ gtbl := (g_tb 807 (by decide +kernel) (by decide +kernel))
theorem mv_L_70 : okV RL 70 yX5_pack cX5_pack 8 (some .int) 1 := ⟨(g_tb 805 (by decide +kernel) (by decide +kernel)), ki_X5_pack, ks_X5_pack, kz_X5, kc_X5_pack, ⟨by decide +kernel, by decide +kernel, by decide +kernel⟩⟩
theorem kc_X5_dutyEverywhere : Cond.code yX5_dutyEverywhere cX5_dutyEverywhere 3 (some .int) ∈ gtbl := (g_tb 812 (by decide +kernel) (by decide +kernel))
theorem ki_X5_dutyEverywhere : Cond.instanceMethod yX5_dutyEverywhere ∈ gtbl := (g_tb 811 (by decide +kernel) (by decide +kernel))
theorem ks_X5_dutyEverywhere : Cond.selects yX5_dutyEverywhere.cls yX5_dutyEverywhere yX5_dutyEverywhere ∈ gtbl := g_sl 38 (by decide +kernel) (by decide +kernel)
theorem mv_X5_216 : okV RX5 216 yX5_dutyEverywhere cX5_dutyEverywhere 3 (some .int) 0 := ⟨(g_tb 809 (by decide +kernel) (by decide +kernel)), ki_X5_dutyEverywhere, ks_X5_dutyEverywhere, kz_X5, kc_X5_dutyEverywhere, ⟨by decide +kernel, by decide +kernel, by decide +kernel⟩⟩
theorem kc_X5_road : Cond.code yX5_road cX5_road 7 (some .int) ∈ gtbl := (g_tb 816 (by decide +kernel) (by decide +kernel))
theorem ki_X5_road : Cond.instanceMethod yX5_road ∈ gtbl := (g_tb 814 (by decide +kernel) (by decide +kernel))
theorem ks_X5_road : Cond.selects yX5_road.cls yX5_road yX5_road ∈ gtbl := (g_tb 815 (by decide +kernel) (by decide +kernel))
theorem mv_L_75 : okV RL 75 yX5_road cX5_road 7 (some .int) 0 := ⟨(g_tb 813 (by decide +kernel) (by decide +kernel)), ki_X5_road, ks_X5_road, kz_X5, kc_X5_road, ⟨by decide +kernel, by decide +kernel, by decide +kernel⟩⟩
theorem kc_X5_worth : Cond.code yX5_worth cX5_worth 10 (some .long) ∈ gtbl := (g_tb 821 (by decide +kernel) (by decide +kernel))
theorem ki_X5_worth : Cond.instanceMethod yX5_worth ∈ gtbl := (g_tb 819 (by decide +kernel) (by decide +kernel))
theorem ks_X5_worth : Cond.selects yX5_worth.cls yX5_worth yX5_worth ∈ gtbl := (g_tb 820 (by decide +kernel) (by decide +kernel))
theorem mv_L_79 : okV RL 79 yX5_worth cX5_worth 10 (some .long) 5 := ⟨(g_tb 818 (by decide +kernel) (by decide +kernel)), ki_X5_worth, ks_X5_worth, kz_X5, kc_X5_worth, ⟨by decide +kernel, by decide +kernel, by decide +kernel⟩⟩
theorem kc_X5_reading : Cond.code yX5_reading cX5_reading 3 (some .int) ∈ gtbl := (g_tb 825 (by decide +kernel) (by decide +kernel))
theorem ki_X5_reading : Cond.instanceMethod yX5_reading ∈ gtbl := (g_tb 823 (by decide +kernel) (by decide +kernel))
theorem ks_X5_reading : Cond.selects yX5_reading.cls yX5_reading yX5_reading ∈ gtbl := (g_tb 824 (by decide +kernel) (by decide +kernel))
theorem mv_L_83 : okV RL 83 yX5_reading cX5_reading 3 (some .int) 2 := ⟨(g_tb 822 (by decide +kernel) (by decide +kernel)), ki_X5_reading, ks_X5_reading, kz_X5, kc_X5_reading, ⟨by decide +kernel, by decide +kernel, by decide +kernel⟩⟩
theorem kc_X5_back : Cond.code yX5_back cX5_back 2 (some .int) ∈ gtbl := (g_tb 830 (by decide +kernel) (by decide +kernel))
theorem ki_X5_back : Cond.instanceMethod yX5_back ∈ gtbl := (g_tb 828 (by decide +kernel) (by decide +kernel))
theorem ks_X5_back : Cond.selects yX5_back.cls yX5_back yX5_back ∈ gtbl := (g_tb 829 (by decide +kernel) (by decide +kernel))
theorem mv_L_87 : okV RL 87 yX5_back cX5_back 2 (some .int) 1 := ⟨(g_tb 827 (by decide +kernel) (by decide +kernel)), ki_X5_back, ks_X5_back, kz_X5, kc_X5_back, ⟨by decide +kernel, by decide +kernel, by decide +kernel⟩⟩
theorem kc_X5_said : Cond.code yX5_said cX5_said 6 (some .int) ∈ gtbl := (g_tb 834 (by decide +kernel) (by decide +kernel))
theorem ki_X5_said : Cond.instanceMethod yX5_said ∈ gtbl := (g_tb 832 (by decide +kernel) (by decide +kernel))
theorem ks_X5_said : Cond.selects yX5_said.cls yX5_said yX5_said ∈ gtbl := (g_tb 833 (by decide +kernel) (by decide +kernel))
theorem mv_L_91 : okV RL 91 yX5_said cX5_said 6 (some .int) 1 := ⟨(g_tb 831 (by decide +kernel) (by decide +kernel)), ki_X5_said, ks_X5_said, kz_X5, kc_X5_said, ⟨by decide +kernel, by decide +kernel, by decide +kernel⟩⟩
theorem kc_X5_areSo : Cond.code yX5_areSo cX5_areSo 3 (some .boolean) ∈ gtbl := (g_tb 838 (by decide +kernel) (by decide +kernel))
theorem ki_X5_areSo : Cond.instanceMethod yX5_areSo ∈ gtbl := (g_tb 837 (by decide +kernel) (by decide +kernel))
theorem ks_X5_areSo : Cond.selects yX5_areSo.cls yX5_areSo yX5_areSo ∈ gtbl := g_sl 39 (by decide +kernel) (by decide +kernel)
theorem mv_X5_223 : okV RX5 223 yX5_areSo cX5_areSo 3 (some .boolean) 0 := ⟨(g_tb 835 (by decide +kernel) (by decide +kernel)), ki_X5_areSo, ks_X5_areSo, kz_X5, kc_X5_areSo, ⟨by decide +kernel, by decide +kernel, by decide +kernel⟩⟩
theorem kc_X5_frees : Cond.code yX5_frees cX5_frees 4 (some .int) ∈ gtbl := (g_tb 842 (by decide +kernel) (by decide +kernel))
theorem ki_X5_frees : Cond.instanceMethod yX5_frees ∈ gtbl := (g_tb 840 (by decide +kernel) (by decide +kernel))
theorem ks_X5_frees : Cond.selects yX5_frees.cls yX5_frees yX5_frees ∈ gtbl := (g_tb 841 (by decide +kernel) (by decide +kernel))
theorem mv_L_95 : okV RL 95 yX5_frees cX5_frees 4 (some .int) 0 := ⟨(g_tb 839 (by decide +kernel) (by decide +kernel)), ki_X5_frees, ks_X5_frees, kz_X5, kc_X5_frees, ⟨by decide +kernel, by decide +kernel, by decide +kernel⟩⟩
theorem kc_X5_laws : Cond.code yX5_laws cX5_laws 4 (some .int) ∈ gtbl := (g_tb 846 (by decide +kernel) (by decide +kernel))
theorem ki_X5_laws : Cond.instanceMethod yX5_laws ∈ gtbl := (g_tb 844 (by decide +kernel) (by decide +kernel))
theorem ks_X5_laws : Cond.selects yX5_laws.cls yX5_laws yX5_laws ∈ gtbl := (g_tb 845 (by decide +kernel) (by decide +kernel))
theorem mv_L_99 : okV RL 99 yX5_laws cX5_laws 4 (some .int) 0 := ⟨(g_tb 843 (by decide +kernel) (by decide +kernel)), ki_X5_laws, ks_X5_laws, kz_X5, kc_X5_laws, ⟨by decide +kernel, by decide +kernel, by decide +kernel⟩⟩
theorem kc_X5_kinds : Cond.code yX5_kinds cX5_kinds 5 (some .int) ∈ gtbl := (g_tb 850 (by decide +kernel) (by decide +kernel))
theorem ki_X5_kinds : Cond.instanceMethod yX5_kinds ∈ gtbl := (g_tb 848 (by decide +kernel) (by decide +kernel))
theorem ks_X5_kinds : Cond.selects yX5_kinds.cls yX5_kinds yX5_kinds ∈ gtbl := (g_tb 849 (by decide +kernel) (by decide +kernel))
theorem mv_L_103 : okV RL 103 yX5_kinds cX5_kinds 5 (some .int) 1 := ⟨(g_tb 847 (by decide +kernel) (by decide +kernel)), ki_X5_kinds, ks_X5_kinds, kz_X5, kc_X5_kinds, ⟨by decide +kernel, by decide +kernel, by decide +kernel⟩⟩
theorem kc_X5_odds : Cond.code yX5_odds cX5_odds 8 (some .long) ∈ gtbl := (g_tb 854 (by decide +kernel) (by decide +kernel))
theorem ki_X5_odds : Cond.instanceMethod yX5_odds ∈ gtbl := (g_tb 852 (by decide +kernel) (by decide +kernel))
theorem ks_X5_odds : Cond.selects yX5_odds.cls yX5_odds yX5_odds ∈ gtbl := (g_tb 853 (by decide +kernel) (by decide +kernel))
theorem mv_L_108 : okV RL 108 yX5_odds cX5_odds 8 (some .long) 3 := ⟨(g_tb 851 (by decide +kernel) (by decide +kernel)), ki_X5_odds, ks_X5_odds, kz_X5, kc_X5_odds, ⟨by decide +kernel, by decide +kernel, by decide +kernel⟩⟩
theorem kc_X5_sheet : Cond.code yX5_sheet cX5_sheet 5 (some .int) ∈ gtbl := (g_tb 858 (by decide +kernel) (by decide +kernel))
theorem ki_X5_sheet : Cond.instanceMethod yX5_sheet ∈ gtbl := (g_tb 856 (by decide +kernel) (by decide +kernel))
theorem ks_X5_sheet : Cond.selects yX5_sheet.cls yX5_sheet yX5_sheet ∈ gtbl := (g_tb 857 (by decide +kernel) (by decide +kernel))
theorem mv_L_113 : okV RL 113 yX5_sheet cX5_sheet 5 (some .int) 3 := ⟨(g_tb 855 (by decide +kernel) (by decide +kernel)), ki_X5_sheet, ks_X5_sheet, kz_X5, kc_X5_sheet, ⟨by decide +kernel, by decide +kernel, by decide +kernel⟩⟩
theorem kc_X5_lose : Cond.code yX5_lose cX5_lose 3 (some .int) ∈ gtbl := (g_tb 862 (by decide +kernel) (by decide +kernel))
theorem ki_X5_lose : Cond.instanceMethod yX5_lose ∈ gtbl := (g_tb 860 (by decide +kernel) (by decide +kernel))
theorem ks_X5_lose : Cond.selects yX5_lose.cls yX5_lose yX5_lose ∈ gtbl := (g_tb 861 (by decide +kernel) (by decide +kernel))
theorem mv_L_117 : okV RL 117 yX5_lose cX5_lose 3 (some .int) 1 := ⟨(g_tb 859 (by decide +kernel) (by decide +kernel)), ki_X5_lose, ks_X5_lose, kz_X5, kc_X5_lose, ⟨by decide +kernel, by decide +kernel, by decide +kernel⟩⟩
theorem kc_X5_put : Cond.code yX5_put cX5_put 4 (some .int) ∈ gtbl := (g_tb 866 (by decide +kernel) (by decide +kernel))
theorem ki_X5_put : Cond.instanceMethod yX5_put ∈ gtbl := (g_tb 864 (by decide +kernel) (by decide +kernel))
theorem ks_X5_put : Cond.selects yX5_put.cls yX5_put yX5_put ∈ gtbl := (g_tb 865 (by decide +kernel) (by decide +kernel))
theorem mv_L_121 : okV RL 121 yX5_put cX5_put 4 (some .int) 3 := ⟨(g_tb 863 (by decide +kernel) (by decide +kernel)), ki_X5_put, ks_X5_put, kz_X5, kc_X5_put, ⟨by decide +kernel, by decide +kernel, by decide +kernel⟩⟩
theorem kc_X5_noCell : Cond.code yX5_noCell cX5_noCell 3 (some .int) ∈ gtbl := (g_tb 870 (by decide +kernel) (by decide +kernel))
theorem ki_X5_noCell : Cond.instanceMethod yX5_noCell ∈ gtbl := (g_tb 869 (by decide +kernel) (by decide +kernel))
theorem ks_X5_noCell : Cond.selects yX5_noCell.cls yX5_noCell yX5_noCell ∈ gtbl := g_sl 40 (by decide +kernel) (by decide +kernel)
theorem mv_X5_229 : okV RX5 229 yX5_noCell cX5_noCell 3 (some .int) 2 := ⟨(g_tb 867 (by decide +kernel) (by decide +kernel)), ki_X5_noCell, ks_X5_noCell, kz_X5, kc_X5_noCell, ⟨by decide +kernel, by decide +kernel, by decide +kernel⟩⟩
theorem kc_X5_cell : Cond.code yX5_cell cX5_cell 4 (some .long) ∈ gtbl := (g_tb 874 (by decide +kernel) (by decide +kernel))
theorem ki_X5_cell : Cond.instanceMethod yX5_cell ∈ gtbl := (g_tb 872 (by decide +kernel) (by decide +kernel))
theorem ks_X5_cell : Cond.selects yX5_cell.cls yX5_cell yX5_cell ∈ gtbl := (g_tb 873 (by decide +kernel) (by decide +kernel))
theorem mv_L_125 : okV RL 125 yX5_cell cX5_cell 4 (some .long) 3 := ⟨(g_tb 871 (by decide +kernel) (by decide +kernel)), ki_X5_cell, ks_X5_cell, kz_X5, kc_X5_cell, ⟨by decide +kernel, by decide +kernel, by decide +kernel⟩⟩
theorem kc_X5_failedLong : Cond.code yX5_failedLong cX5_failedLong 2 (some .long) ∈ gtbl := (g_tb 878 (by decide +kernel) (by decide +kernel))
theorem ki_X5_failedLong : Cond.instanceMethod yX5_failedLong ∈ gtbl := (g_tb 877 (by decide +kernel) (by decide +kernel))
theorem ks_X5_failedLong : Cond.selects yX5_failedLong.cls yX5_failedLong yX5_failedLong ∈ gtbl := g_sl 41 (by decide +kernel) (by decide +kernel)
theorem mv_X5_232 : okV RX5 232 yX5_failedLong cX5_failedLong 2 (some .long) 1 := ⟨(g_tb 875 (by decide +kernel) (by decide +kernel)), ki_X5_failedLong, ks_X5_failedLong, kz_X5, kc_X5_failedLong, ⟨by decide +kernel, by decide +kernel, by decide +kernel⟩⟩
theorem kc_X5_copy : Cond.code yX5_copy cX5_copy 7 (some .int) ∈ gtbl := (g_tb 882 (by decide +kernel) (by decide +kernel))
theorem ki_X5_copy : Cond.instanceMethod yX5_copy ∈ gtbl := (g_tb 880 (by decide +kernel) (by decide +kernel))
theorem ks_X5_copy : Cond.selects yX5_copy.cls yX5_copy yX5_copy ∈ gtbl := (g_tb 881 (by decide +kernel) (by decide +kernel))
theorem mv_L_130 : okV RL 130 yX5_copy cX5_copy 7 (some .int) 5 := ⟨(g_tb 879 (by decide +kernel) (by decide +kernel)), ki_X5_copy, ks_X5_copy, kz_X5, kc_X5_copy, ⟨by decide +kernel, by decide +kernel, by decide +kernel⟩⟩
theorem kc_X5_tell : Cond.code yX5_tell cX5_tell 4 (some .int) ∈ gtbl := (g_tb 886 (by decide +kernel) (by decide +kernel))
theorem ki_X5_tell : Cond.instanceMethod yX5_tell ∈ gtbl := (g_tb 884 (by decide +kernel) (by decide +kernel))
theorem ks_X5_tell : Cond.selects yX5_tell.cls yX5_tell yX5_tell ∈ gtbl := (g_tb 885 (by decide +kernel) (by decide +kernel))
theorem mv_L_134 : okV RL 134 yX5_tell cX5_tell 4 (some .int) 1 := ⟨(g_tb 883 (by decide +kernel) (by decide +kernel)), ki_X5_tell, ks_X5_tell, kz_X5, kc_X5_tell, ⟨by decide +kernel, by decide +kernel, by decide +kernel⟩⟩
theorem kc_X5_traced : Cond.code yX5_traced cX5_traced 2 none ∈ gtbl := (g_tb 890 (by decide +kernel) (by decide +kernel))
theorem ki_X5_traced : Cond.instanceMethod yX5_traced ∈ gtbl := (g_tb 889 (by decide +kernel) (by decide +kernel))
theorem ks_X5_traced : Cond.selects yX5_traced.cls yX5_traced yX5_traced ∈ gtbl := g_sl 42 (by decide +kernel) (by decide +kernel)
theorem mv_X5_238 : okV RX5 238 yX5_traced cX5_traced 2 none 1 := ⟨(g_tb 887 (by decide +kernel) (by decide +kernel)), ki_X5_traced, ks_X5_traced, kz_X5, kc_X5_traced, ⟨by decide +kernel, by decide +kernel, by decide +kernel⟩⟩
theorem kc_X5_hush : Cond.code yX5_hush cX5_hush 2 (some .int) ∈ gtbl := (g_tb 894 (by decide +kernel) (by decide +kernel))
theorem ki_X5_hush : Cond.instanceMethod yX5_hush ∈ gtbl := (g_tb 892 (by decide +kernel) (by decide +kernel))
theorem ks_X5_hush : Cond.selects yX5_hush.cls yX5_hush yX5_hush ∈ gtbl := (g_tb 893 (by decide +kernel) (by decide +kernel))
theorem mv_L_138 : okV RL 138 yX5_hush cX5_hush 2 (some .int) 1 := ⟨(g_tb 891 (by decide +kernel) (by decide +kernel)), ki_X5_hush, ks_X5_hush, kz_X5, kc_X5_hush, ⟨by decide +kernel, by decide +kernel, by decide +kernel⟩⟩
theorem kc_X5_as : Cond.code yX5_as cX5_as 3 (some .int) ∈ gtbl := (g_tb 898 (by decide +kernel) (by decide +kernel))
theorem ki_X5_as : Cond.instanceMethod yX5_as ∈ gtbl := (g_tb 896 (by decide +kernel) (by decide +kernel))
theorem ks_X5_as : Cond.selects yX5_as.cls yX5_as yX5_as ∈ gtbl := (g_tb 897 (by decide +kernel) (by decide +kernel))
theorem mv_L_142 : okV RL 142 yX5_as cX5_as 3 (some .int) 2 := ⟨(g_tb 895 (by decide +kernel) (by decide +kernel)), ki_X5_as, ks_X5_as, kz_X5, kc_X5_as, ⟨by decide +kernel, by decide +kernel, by decide +kernel⟩⟩
theorem kc_X5_trace : Cond.code yX5_trace cX5_trace 1 (some .int) ∈ gtbl := (g_tb 902 (by decide +kernel) (by decide +kernel))
theorem ki_X5_trace : Cond.instanceMethod yX5_trace ∈ gtbl := (g_tb 900 (by decide +kernel) (by decide +kernel))
theorem ks_X5_trace : Cond.selects yX5_trace.cls yX5_trace yX5_trace ∈ gtbl := (g_tb 901 (by decide +kernel) (by decide +kernel))
theorem mv_L_146 : okV RL 146 yX5_trace cX5_trace 1 (some .int) 0 := ⟨(g_tb 899 (by decide +kernel) (by decide +kernel)), ki_X5_trace, ks_X5_trace, kz_X5, kc_X5_trace, ⟨by decide +kernel, by decide +kernel, by decide +kernel⟩⟩
theorem kc_X5_fault : Cond.code yX5_fault cX5_fault 1 (some .int) ∈ gtbl := (g_tb 906 (by decide +kernel) (by decide +kernel))
theorem ki_X5_fault : Cond.instanceMethod yX5_fault ∈ gtbl := (g_tb 904 (by decide +kernel) (by decide +kernel))
theorem ks_X5_fault : Cond.selects yX5_fault.cls yX5_fault yX5_fault ∈ gtbl := (g_tb 905 (by decide +kernel) (by decide +kernel))
theorem mv_L_150 : okV RL 150 yX5_fault cX5_fault 1 (some .int) 0 := ⟨(g_tb 903 (by decide +kernel) (by decide +kernel)), ki_X5_fault, ks_X5_fault, kz_X5, kc_X5_fault, ⟨by decide +kernel, by decide +kernel, by decide +kernel⟩⟩
theorem kc_X5_many : Cond.code yX5_many cX5_many 2 (some .int) ∈ gtbl := (g_tb 910 (by decide +kernel) (by decide +kernel))
theorem ki_X5_many : Cond.instanceMethod yX5_many ∈ gtbl := (g_tb 908 (by decide +kernel) (by decide +kernel))
theorem ks_X5_many : Cond.selects yX5_many.cls yX5_many yX5_many ∈ gtbl := (g_tb 909 (by decide +kernel) (by decide +kernel))
theorem mv_L_154 : okV RL 154 yX5_many cX5_many 2 (some .int) 1 := ⟨(g_tb 907 (by decide +kernel) (by decide +kernel)), ki_X5_many, ks_X5_many, kz_X5, kc_X5_many, ⟨by decide +kernel, by decide +kernel, by decide +kernel⟩⟩
theorem kk_X4_136 : Cond.constantLong RX4 136 (-9223372036854775808) ∈ gtbl := (g_tb 336 (by decide +kernel) (by decide +kernel))
theorem kk_X4_141 : Cond.constantLong RX4 141 (10) ∈ gtbl := (g_tb 341 (by decide +kernel) (by decide +kernel))
theorem kk_X3_25 : Cond.constantLong RX3 25 (100000000) ∈ gtbl := (g_tb 373 (by decide +kernel) (by decide +kernel))
theorem kk_X3_34 : Cond.constantLong RX3 34 (10) ∈ gtbl := (g_tb 378 (by decide +kernel) (by decide +kernel))
theorem kk_X3_40 : Cond.constantLong RX3 40 (2) ∈ gtbl := (g_tb 380 (by decide +kernel) (by decide +kernel))
theorem kk_X4_159 : Cond.constantLong RX4 159 (100000000) ∈ gtbl := (g_tb 382 (by decide +kernel) (by decide +kernel))
theorem kk_X4_177 : Cond.constantLong RX4 177 (9223372036854775807) ∈ gtbl := (g_tb 391 (by decide +kernel) (by decide +kernel))
theorem kk_X4_254 : Cond.constant RX4 254 (2147483647) ∈ gtbl := (g_tb 408 (by decide +kernel) (by decide +kernel))
theorem kk_X4_191 : Cond.constant RX4 191 (99999) ∈ gtbl := (g_tb 433 (by decide +kernel) (by decide +kernel))
theorem kk_X5_227 : Cond.constantLong RX5 227 (3) ∈ gtbl := (g_tb 657 (by decide +kernel) (by decide +kernel))
theorem kk_X5_98 : Cond.constantLong RX5 98 (2) ∈ gtbl := (g_tb 665 (by decide +kernel) (by decide +kernel))
theorem kk_X5_107 : Cond.constantLong RX5 107 (9) ∈ gtbl := (g_tb 689 (by decide +kernel) (by decide +kernel))
theorem kk_X5_182 : Cond.constantLong RX5 182 (7) ∈ gtbl := (g_tb 737 (by decide +kernel) (by decide +kernel))
theorem kk_X5_77 : Cond.constantLong RX5 77 (-9223372036854775808) ∈ gtbl := (g_tb 772 (by decide +kernel) (by decide +kernel))
theorem kk_X5_79 : Cond.constantLong RX5 79 (10) ∈ gtbl := (g_tb 773 (by decide +kernel) (by decide +kernel))
theorem kk_X5_204 : Cond.constantLong RX5 204 (8) ∈ gtbl := (g_tb 788 (by decide +kernel) (by decide +kernel))
theorem kk_X5_219 : Cond.constantLong RX5 219 (-1) ∈ gtbl := (g_tb 817 (by decide +kernel) (by decide +kernel))
theorem kk_X5_221 : Cond.constantLong RX5 221 (99999) ∈ gtbl := (g_tb 826 (by decide +kernel) (by decide +kernel))
end
