section
-- ===== PART A: goes FIRST, ahead of the names: the tables' words, and 'selects' of the private methods out of them =====
/-- a private method of a class that the tables say can be made, by its rows of tables_1 -/
def lw_okq (q : MethodName × Nat) : Prop := (q.1.cls ≠ "java/lang/invoke/MethodHandle" ∧ q.1.cls ≠ "java/lang/invoke/VarHandle") ∧ Cond.instantiable q.1.cls q.2 ∈ tables_1 ∧ Cond.privateMethod q.1 ∈ tables_1 ∧ Cond.instanceMethod q.1 ∈ tables_1
theorem lw_p0 : lw_okq (⟨"MissingNote$Tape", "take", "(I)Z"⟩, 3) := ⟨⟨by decide +kernel, by decide +kernel⟩, List.mem_of_getElem? (i := 24) (by decide +kernel), List.mem_of_getElem? (i := 296) (by decide +kernel), List.mem_of_getElem? (i := 297) (by decide +kernel)⟩
theorem lw_p1 : lw_okq (⟨"MissingNote$Tape", "peek", "()I"⟩, 3) := ⟨⟨by decide +kernel, by decide +kernel⟩, List.mem_of_getElem? (i := 24) (by decide +kernel), List.mem_of_getElem? (i := 300) (by decide +kernel), List.mem_of_getElem? (i := 301) (by decide +kernel)⟩
theorem lw_p2 : lw_okq (⟨"MissingNote$Tape", "readShapes", "(LMissingNote$Valley;)Z"⟩, 3) := ⟨⟨by decide +kernel, by decide +kernel⟩, List.mem_of_getElem? (i := 24) (by decide +kernel), List.mem_of_getElem? (i := 304) (by decide +kernel), List.mem_of_getElem? (i := 305) (by decide +kernel)⟩
theorem lw_p3 : lw_okq (⟨"MissingNote$Tape", "readShape", "(LMissingNote$Valley;I)Z"⟩, 3) := ⟨⟨by decide +kernel, by decide +kernel⟩, List.mem_of_getElem? (i := 24) (by decide +kernel), List.mem_of_getElem? (i := 308) (by decide +kernel), List.mem_of_getElem? (i := 309) (by decide +kernel)⟩
theorem lw_p4 : lw_okq (⟨"MissingNote$Tape", "peekPitch", "()I"⟩, 3) := ⟨⟨by decide +kernel, by decide +kernel⟩, List.mem_of_getElem? (i := 24) (by decide +kernel), List.mem_of_getElem? (i := 312) (by decide +kernel), List.mem_of_getElem? (i := 313) (by decide +kernel)⟩
theorem lw_p5 : lw_okq (⟨"MissingNote$Tape", "takeRising", "(I)I"⟩, 3) := ⟨⟨by decide +kernel, by decide +kernel⟩, List.mem_of_getElem? (i := 24) (by decide +kernel), List.mem_of_getElem? (i := 316) (by decide +kernel), List.mem_of_getElem? (i := 317) (by decide +kernel)⟩
theorem lw_p6 : lw_okq (⟨"MissingNote$Tape", "readFields", "(LMissingNote$Valley;)Z"⟩, 3) := ⟨⟨by decide +kernel, by decide +kernel⟩, List.mem_of_getElem? (i := 24) (by decide +kernel), List.mem_of_getElem? (i := 326) (by decide +kernel), List.mem_of_getElem? (i := 327) (by decide +kernel)⟩
theorem lw_p7 : lw_okq (⟨"MissingNote$Tape", "readSingers", "(LMissingNote$Valley;)Z"⟩, 3) := ⟨⟨by decide +kernel, by decide +kernel⟩, List.mem_of_getElem? (i := 24) (by decide +kernel), List.mem_of_getElem? (i := 330) (by decide +kernel), List.mem_of_getElem? (i := 331) (by decide +kernel)⟩
theorem lw_p8 : lw_okq (⟨"MissingNote$Tape", "readKind", "(LMissingNote$Valley;I)Z"⟩, 3) := ⟨⟨by decide +kernel, by decide +kernel⟩, List.mem_of_getElem? (i := 24) (by decide +kernel), List.mem_of_getElem? (i := 334) (by decide +kernel), List.mem_of_getElem? (i := 335) (by decide +kernel)⟩
theorem lw_p9 : lw_okq (⟨"MissingNote$Tape", "readRange", "(LMissingNote$Valley;I)Z"⟩, 3) := ⟨⟨by decide +kernel, by decide +kernel⟩, List.mem_of_getElem? (i := 24) (by decide +kernel), List.mem_of_getElem? (i := 338) (by decide +kernel), List.mem_of_getElem? (i := 339) (by decide +kernel)⟩
theorem lw_p10 : lw_okq (⟨"MissingNote$Tape", "readPlace", "(LMissingNote$Valley;I)Z"⟩, 3) := ⟨⟨by decide +kernel, by decide +kernel⟩, List.mem_of_getElem? (i := 24) (by decide +kernel), List.mem_of_getElem? (i := 342) (by decide +kernel), List.mem_of_getElem? (i := 343) (by decide +kernel)⟩
theorem lw_p11 : lw_okq (⟨"MissingNote", "begin", "(LMissingNote$Valley;)V"⟩, 10) := ⟨⟨by decide +kernel, by decide +kernel⟩, List.mem_of_getElem? (i := 16) (by decide +kernel), List.mem_of_getElem? (i := 347) (by decide +kernel), List.mem_of_getElem? (i := 348) (by decide +kernel)⟩
theorem lw_p12 : lw_okq (⟨"MissingNote$Chords", "learnShape", "(II)V"⟩, 2) := ⟨⟨by decide +kernel, by decide +kernel⟩, List.mem_of_getElem? (i := 141) (by decide +kernel), List.mem_of_getElem? (i := 364) (by decide +kernel), List.mem_of_getElem? (i := 365) (by decide +kernel)⟩
theorem lw_p13 : lw_okq (⟨"MissingNote$Chords", "claimParts", "(I)V"⟩, 2) := ⟨⟨by decide +kernel, by decide +kernel⟩, List.mem_of_getElem? (i := 141) (by decide +kernel), List.mem_of_getElem? (i := 368) (by decide +kernel), List.mem_of_getElem? (i := 369) (by decide +kernel)⟩
theorem lw_p14 : lw_okq (⟨"MissingNote", "isField", "(I)Z"⟩, 10) := ⟨⟨by decide +kernel, by decide +kernel⟩, List.mem_of_getElem? (i := 16) (by decide +kernel), List.mem_of_getElem? (i := 384) (by decide +kernel), List.mem_of_getElem? (i := 385) (by decide +kernel)⟩
theorem lw_p15 : lw_okq (⟨"MissingNote", "tellChord", "(II)I"⟩, 10) := ⟨⟨by decide +kernel, by decide +kernel⟩, List.mem_of_getElem? (i := 16) (by decide +kernel), List.mem_of_getElem? (i := 392) (by decide +kernel), List.mem_of_getElem? (i := 393) (by decide +kernel)⟩
def lw_privs_1 : List (MethodName × Nat) := [(⟨"MissingNote$Tape", "take", "(I)Z"⟩, 3), (⟨"MissingNote$Tape", "peek", "()I"⟩, 3), (⟨"MissingNote$Tape", "readShapes", "(LMissingNote$Valley;)Z"⟩, 3), (⟨"MissingNote$Tape", "readShape", "(LMissingNote$Valley;I)Z"⟩, 3), (⟨"MissingNote$Tape", "peekPitch", "()I"⟩, 3), (⟨"MissingNote$Tape", "takeRising", "(I)I"⟩, 3), (⟨"MissingNote$Tape", "readFields", "(LMissingNote$Valley;)Z"⟩, 3), (⟨"MissingNote$Tape", "readSingers", "(LMissingNote$Valley;)Z"⟩, 3), (⟨"MissingNote$Tape", "readKind", "(LMissingNote$Valley;I)Z"⟩, 3), (⟨"MissingNote$Tape", "readRange", "(LMissingNote$Valley;I)Z"⟩, 3), (⟨"MissingNote$Tape", "readPlace", "(LMissingNote$Valley;I)Z"⟩, 3), (⟨"MissingNote", "begin", "(LMissingNote$Valley;)V"⟩, 10), (⟨"MissingNote$Chords", "learnShape", "(II)V"⟩, 2), (⟨"MissingNote$Chords", "claimParts", "(I)V"⟩, 2), (⟨"MissingNote", "isField", "(I)Z"⟩, 10), (⟨"MissingNote", "tellChord", "(II)I"⟩, 10)]
theorem lw_r1 : ∀ q ∈ lw_privs_1, lw_okq q := List.forall_mem_cons.mpr ⟨lw_p0, List.forall_mem_cons.mpr ⟨lw_p1, List.forall_mem_cons.mpr ⟨lw_p2, List.forall_mem_cons.mpr ⟨lw_p3, List.forall_mem_cons.mpr ⟨lw_p4, List.forall_mem_cons.mpr ⟨lw_p5, List.forall_mem_cons.mpr ⟨lw_p6, List.forall_mem_cons.mpr ⟨lw_p7, List.forall_mem_cons.mpr ⟨lw_p8, List.forall_mem_cons.mpr ⟨lw_p9, List.forall_mem_cons.mpr ⟨lw_p10, List.forall_mem_cons.mpr ⟨lw_p11, List.forall_mem_cons.mpr ⟨lw_p12, List.forall_mem_cons.mpr ⟨lw_p13, List.forall_mem_cons.mpr ⟨lw_p14, List.forall_mem_cons.mpr ⟨lw_p15, fun _ h => absurd h List.not_mem_nil⟩⟩⟩⟩⟩⟩⟩⟩⟩⟩⟩⟩⟩⟩⟩⟩
theorem lw_p16 : lw_okq (⟨"MissingNote", "isSinger", "(I)Z"⟩, 10) := ⟨⟨by decide +kernel, by decide +kernel⟩, List.mem_of_getElem? (i := 16) (by decide +kernel), List.mem_of_getElem? (i := 416) (by decide +kernel), List.mem_of_getElem? (i := 417) (by decide +kernel)⟩
theorem lw_p17 : lw_okq (⟨"MissingNote$Stations", "weigh", "(LMissingNote$Valley;LMissingNote$Choir;)V"⟩, 6) := ⟨⟨by decide +kernel, by decide +kernel⟩, List.mem_of_getElem? (i := 168) (by decide +kernel), List.mem_of_getElem? (i := 561) (by decide +kernel), List.mem_of_getElem? (i := 562) (by decide +kernel)⟩
theorem lw_p18 : lw_okq (⟨"MissingNote$Stations", "worthOfAll", "()I"⟩, 6) := ⟨⟨by decide +kernel, by decide +kernel⟩, List.mem_of_getElem? (i := 168) (by decide +kernel), List.mem_of_getElem? (i := 574) (by decide +kernel), List.mem_of_getElem? (i := 575) (by decide +kernel)⟩
theorem lw_p19 : lw_okq (⟨"MissingNote$Stations", "turn", "(I)V"⟩, 6) := ⟨⟨by decide +kernel, by decide +kernel⟩, List.mem_of_getElem? (i := 168) (by decide +kernel), List.mem_of_getElem? (i := 579) (by decide +kernel), List.mem_of_getElem? (i := 580) (by decide +kernel)⟩
theorem lw_p20 : lw_okq (⟨"MissingNote", "refusal", "(IIII)I"⟩, 10) := ⟨⟨by decide +kernel, by decide +kernel⟩, List.mem_of_getElem? (i := 16) (by decide +kernel), List.mem_of_getElem? (i := 654) (by decide +kernel), List.mem_of_getElem? (i := 655) (by decide +kernel)⟩
theorem lw_p21 : lw_okq (⟨"MissingNote$Ear", "agrees", "(LMissingNote$Valley;LMissingNote$Choir;II)Z"⟩, 5) := ⟨⟨by decide +kernel, by decide +kernel⟩, List.mem_of_getElem? (i := 193) (by decide +kernel), List.mem_of_getElem? (i := 689) (by decide +kernel), List.mem_of_getElem? (i := 690) (by decide +kernel)⟩
theorem lw_p22 : lw_okq (⟨"MissingNote$Ear", "sort", "(LMissingNote$Valley;LMissingNote$Choir;I)V"⟩, 5) := ⟨⟨by decide +kernel, by decide +kernel⟩, List.mem_of_getElem? (i := 193) (by decide +kernel), List.mem_of_getElem? (i := 698) (by decide +kernel), List.mem_of_getElem? (i := 699) (by decide +kernel)⟩
theorem lw_p23 : lw_okq (⟨"MissingNote", "agrees", "(IILMissingNote$Sheet;II)Z"⟩, 10) := ⟨⟨by decide +kernel, by decide +kernel⟩, List.mem_of_getElem? (i := 16) (by decide +kernel), List.mem_of_getElem? (i := 712) (by decide +kernel), List.mem_of_getElem? (i := 713) (by decide +kernel)⟩
theorem lw_p24 : lw_okq (⟨"MissingNote", "fieldsWithChord", "(Z)I"⟩, 10) := ⟨⟨by decide +kernel, by decide +kernel⟩, List.mem_of_getElem? (i := 16) (by decide +kernel), List.mem_of_getElem? (i := 721) (by decide +kernel), List.mem_of_getElem? (i := 722) (by decide +kernel)⟩
theorem lw_p25 : lw_okq (⟨"MissingNoteModel", "isRead", "()Z"⟩, 19) := ⟨⟨by decide +kernel, by decide +kernel⟩, List.mem_of_getElem? (i := 725) (by decide +kernel), List.mem_of_getElem? (i := 801) (by decide +kernel), List.mem_of_getElem? (i := 802) (by decide +kernel)⟩
theorem lw_p26 : lw_okq (⟨"MissingNoteModel", "isSign", "(I)Z"⟩, 19) := ⟨⟨by decide +kernel, by decide +kernel⟩, List.mem_of_getElem? (i := 725) (by decide +kernel), List.mem_of_getElem? (i := 805) (by decide +kernel), List.mem_of_getElem? (i := 806) (by decide +kernel)⟩
theorem lw_p27 : lw_okq (⟨"MissingNoteModel", "peek", "()I"⟩, 19) := ⟨⟨by decide +kernel, by decide +kernel⟩, List.mem_of_getElem? (i := 725) (by decide +kernel), List.mem_of_getElem? (i := 809) (by decide +kernel), List.mem_of_getElem? (i := 810) (by decide +kernel)⟩
theorem lw_p28 : lw_okq (⟨"MissingNoteModel", "isShape", "()Z"⟩, 19) := ⟨⟨by decide +kernel, by decide +kernel⟩, List.mem_of_getElem? (i := 725) (by decide +kernel), List.mem_of_getElem? (i := 813) (by decide +kernel), List.mem_of_getElem? (i := 814) (by decide +kernel)⟩
theorem lw_p29 : lw_okq (⟨"MissingNoteModel", "pitchThere", "()I"⟩, 19) := ⟨⟨by decide +kernel, by decide +kernel⟩, List.mem_of_getElem? (i := 725) (by decide +kernel), List.mem_of_getElem? (i := 817) (by decide +kernel), List.mem_of_getElem? (i := 818) (by decide +kernel)⟩
theorem lw_p30 : lw_okq (⟨"MissingNoteModel", "pitches", "(I)I"⟩, 19) := ⟨⟨by decide +kernel, by decide +kernel⟩, List.mem_of_getElem? (i := 725) (by decide +kernel), List.mem_of_getElem? (i := 821) (by decide +kernel), List.mem_of_getElem? (i := 822) (by decide +kernel)⟩
theorem lw_p31 : lw_okq (⟨"MissingNoteModel", "isFieldItem", "()Z"⟩, 19) := ⟨⟨by decide +kernel, by decide +kernel⟩, List.mem_of_getElem? (i := 725) (by decide +kernel), List.mem_of_getElem? (i := 828) (by decide +kernel), List.mem_of_getElem? (i := 829) (by decide +kernel)⟩
def lw_privs_2 : List (MethodName × Nat) := [(⟨"MissingNote", "isSinger", "(I)Z"⟩, 10), (⟨"MissingNote$Stations", "weigh", "(LMissingNote$Valley;LMissingNote$Choir;)V"⟩, 6), (⟨"MissingNote$Stations", "worthOfAll", "()I"⟩, 6), (⟨"MissingNote$Stations", "turn", "(I)V"⟩, 6), (⟨"MissingNote", "refusal", "(IIII)I"⟩, 10), (⟨"MissingNote$Ear", "agrees", "(LMissingNote$Valley;LMissingNote$Choir;II)Z"⟩, 5), (⟨"MissingNote$Ear", "sort", "(LMissingNote$Valley;LMissingNote$Choir;I)V"⟩, 5), (⟨"MissingNote", "agrees", "(IILMissingNote$Sheet;II)Z"⟩, 10), (⟨"MissingNote", "fieldsWithChord", "(Z)I"⟩, 10), (⟨"MissingNoteModel", "isRead", "()Z"⟩, 19), (⟨"MissingNoteModel", "isSign", "(I)Z"⟩, 19), (⟨"MissingNoteModel", "peek", "()I"⟩, 19), (⟨"MissingNoteModel", "isShape", "()Z"⟩, 19), (⟨"MissingNoteModel", "pitchThere", "()I"⟩, 19), (⟨"MissingNoteModel", "pitches", "(I)I"⟩, 19), (⟨"MissingNoteModel", "isFieldItem", "()Z"⟩, 19)]
theorem lw_r2 : ∀ q ∈ lw_privs_2, lw_okq q := List.forall_mem_cons.mpr ⟨lw_p16, List.forall_mem_cons.mpr ⟨lw_p17, List.forall_mem_cons.mpr ⟨lw_p18, List.forall_mem_cons.mpr ⟨lw_p19, List.forall_mem_cons.mpr ⟨lw_p20, List.forall_mem_cons.mpr ⟨lw_p21, List.forall_mem_cons.mpr ⟨lw_p22, List.forall_mem_cons.mpr ⟨lw_p23, List.forall_mem_cons.mpr ⟨lw_p24, List.forall_mem_cons.mpr ⟨lw_p25, List.forall_mem_cons.mpr ⟨lw_p26, List.forall_mem_cons.mpr ⟨lw_p27, List.forall_mem_cons.mpr ⟨lw_p28, List.forall_mem_cons.mpr ⟨lw_p29, List.forall_mem_cons.mpr ⟨lw_p30, List.forall_mem_cons.mpr ⟨lw_p31, fun _ h => absurd h List.not_mem_nil⟩⟩⟩⟩⟩⟩⟩⟩⟩⟩⟩⟩⟩⟩⟩⟩
theorem lw_p32 : lw_okq (⟨"MissingNoteModel", "isSinger", "()Z"⟩, 19) := ⟨⟨by decide +kernel, by decide +kernel⟩, List.mem_of_getElem? (i := 725) (by decide +kernel), List.mem_of_getElem? (i := 832) (by decide +kernel), List.mem_of_getElem? (i := 833) (by decide +kernel)⟩
theorem lw_p33 : lw_okq (⟨"MissingNoteModel", "isThere", "()Z"⟩, 19) := ⟨⟨by decide +kernel, by decide +kernel⟩, List.mem_of_getElem? (i := 725) (by decide +kernel), List.mem_of_getElem? (i := 850) (by decide +kernel), List.mem_of_getElem? (i := 851) (by decide +kernel)⟩
theorem lw_p34 : lw_okq (⟨"MissingNoteModel", "isField", "(I)Z"⟩, 19) := ⟨⟨by decide +kernel, by decide +kernel⟩, List.mem_of_getElem? (i := 725) (by decide +kernel), List.mem_of_getElem? (i := 867) (by decide +kernel), List.mem_of_getElem? (i := 868) (by decide +kernel)⟩
theorem lw_p35 : lw_okq (⟨"MissingNoteModel", "isOne", "(I)Z"⟩, 19) := ⟨⟨by decide +kernel, by decide +kernel⟩, List.mem_of_getElem? (i := 725) (by decide +kernel), List.mem_of_getElem? (i := 879) (by decide +kernel), List.mem_of_getElem? (i := 880) (by decide +kernel)⟩
theorem lw_p36 : lw_okq (⟨"MissingNoteModel", "note", "()V"⟩, 19) := ⟨⟨by decide +kernel, by decide +kernel⟩, List.mem_of_getElem? (i := 725) (by decide +kernel), List.mem_of_getElem? (i := 891) (by decide +kernel), List.mem_of_getElem? (i := 892) (by decide +kernel)⟩
theorem lw_p37 : lw_okq (⟨"MissingNoteModel", "hourIn", "([I)I"⟩, 19) := ⟨⟨by decide +kernel, by decide +kernel⟩, List.mem_of_getElem? (i := 725) (by decide +kernel), List.mem_of_getElem? (i := 895) (by decide +kernel), List.mem_of_getElem? (i := 896) (by decide +kernel)⟩
theorem lw_p38 : lw_okq (⟨"MissingNoteModel", "singAll", "([I)I"⟩, 19) := ⟨⟨by decide +kernel, by decide +kernel⟩, List.mem_of_getElem? (i := 725) (by decide +kernel), List.mem_of_getElem? (i := 899) (by decide +kernel), List.mem_of_getElem? (i := 900) (by decide +kernel)⟩
theorem lw_p39 : lw_okq (⟨"MissingNoteModel", "hush", "()V"⟩, 19) := ⟨⟨by decide +kernel, by decide +kernel⟩, List.mem_of_getElem? (i := 725) (by decide +kernel), List.mem_of_getElem? (i := 903) (by decide +kernel), List.mem_of_getElem? (i := 904) (by decide +kernel)⟩
theorem lw_p40 : lw_okq (⟨"MissingNoteModel", "singIn", "([III)I"⟩, 19) := ⟨⟨by decide +kernel, by decide +kernel⟩, List.mem_of_getElem? (i := 725) (by decide +kernel), List.mem_of_getElem? (i := 907) (by decide +kernel), List.mem_of_getElem? (i := 908) (by decide +kernel)⟩
theorem lw_p41 : lw_okq (⟨"MissingNoteModel", "begin", "()V"⟩, 19) := ⟨⟨by decide +kernel, by decide +kernel⟩, List.mem_of_getElem? (i := 725) (by decide +kernel), List.mem_of_getElem? (i := 960) (by decide +kernel), List.mem_of_getElem? (i := 961) (by decide +kernel)⟩
theorem lw_p42 : lw_okq (⟨"MissingNoteModel", "layStands", "()V"⟩, 19) := ⟨⟨by decide +kernel, by decide +kernel⟩, List.mem_of_getElem? (i := 725) (by decide +kernel), List.mem_of_getElem? (i := 975) (by decide +kernel), List.mem_of_getElem? (i := 976) (by decide +kernel)⟩
theorem lw_p43 : lw_okq (⟨"MissingNoteModel", "badRow", "(IIII)I"⟩, 19) := ⟨⟨by decide +kernel, by decide +kernel⟩, List.mem_of_getElem? (i := 725) (by decide +kernel), List.mem_of_getElem? (i := 1021) (by decide +kernel), List.mem_of_getElem? (i := 1022) (by decide +kernel)⟩
theorem lw_p44 : lw_okq (⟨"MissingNoteModel", "areBelow", "(IIII)Z"⟩, 19) := ⟨⟨by decide +kernel, by decide +kernel⟩, List.mem_of_getElem? (i := 725) (by decide +kernel), List.mem_of_getElem? (i := 1043) (by decide +kernel), List.mem_of_getElem? (i := 1044) (by decide +kernel)⟩
theorem lw_p45 : lw_okq (⟨"MissingNoteModel", "layFits", "(II)I"⟩, 19) := ⟨⟨by decide +kernel, by decide +kernel⟩, List.mem_of_getElem? (i := 725) (by decide +kernel), List.mem_of_getElem? (i := 1047) (by decide +kernel), List.mem_of_getElem? (i := 1048) (by decide +kernel)⟩
theorem lw_p46 : lw_okq (⟨"MissingNoteModel", "aloneSings", "(IIII)I"⟩, 19) := ⟨⟨by decide +kernel, by decide +kernel⟩, List.mem_of_getElem? (i := 725) (by decide +kernel), List.mem_of_getElem? (i := 1051) (by decide +kernel), List.mem_of_getElem? (i := 1052) (by decide +kernel)⟩
theorem lw_p47 : lw_okq (⟨"MissingNoteModel", "leastFit", "()I"⟩, 19) := ⟨⟨by decide +kernel, by decide +kernel⟩, List.mem_of_getElem? (i := 725) (by decide +kernel), List.mem_of_getElem? (i := 1055) (by decide +kernel), List.mem_of_getElem? (i := 1056) (by decide +kernel)⟩
def lw_privs_3 : List (MethodName × Nat) := [(⟨"MissingNoteModel", "isSinger", "()Z"⟩, 19), (⟨"MissingNoteModel", "isThere", "()Z"⟩, 19), (⟨"MissingNoteModel", "isField", "(I)Z"⟩, 19), (⟨"MissingNoteModel", "isOne", "(I)Z"⟩, 19), (⟨"MissingNoteModel", "note", "()V"⟩, 19), (⟨"MissingNoteModel", "hourIn", "([I)I"⟩, 19), (⟨"MissingNoteModel", "singAll", "([I)I"⟩, 19), (⟨"MissingNoteModel", "hush", "()V"⟩, 19), (⟨"MissingNoteModel", "singIn", "([III)I"⟩, 19), (⟨"MissingNoteModel", "begin", "()V"⟩, 19), (⟨"MissingNoteModel", "layStands", "()V"⟩, 19), (⟨"MissingNoteModel", "badRow", "(IIII)I"⟩, 19), (⟨"MissingNoteModel", "areBelow", "(IIII)Z"⟩, 19), (⟨"MissingNoteModel", "layFits", "(II)I"⟩, 19), (⟨"MissingNoteModel", "aloneSings", "(IIII)I"⟩, 19), (⟨"MissingNoteModel", "leastFit", "()I"⟩, 19)]
theorem lw_r3 : ∀ q ∈ lw_privs_3, lw_okq q := List.forall_mem_cons.mpr ⟨lw_p32, List.forall_mem_cons.mpr ⟨lw_p33, List.forall_mem_cons.mpr ⟨lw_p34, List.forall_mem_cons.mpr ⟨lw_p35, List.forall_mem_cons.mpr ⟨lw_p36, List.forall_mem_cons.mpr ⟨lw_p37, List.forall_mem_cons.mpr ⟨lw_p38, List.forall_mem_cons.mpr ⟨lw_p39, List.forall_mem_cons.mpr ⟨lw_p40, List.forall_mem_cons.mpr ⟨lw_p41, List.forall_mem_cons.mpr ⟨lw_p42, List.forall_mem_cons.mpr ⟨lw_p43, List.forall_mem_cons.mpr ⟨lw_p44, List.forall_mem_cons.mpr ⟨lw_p45, List.forall_mem_cons.mpr ⟨lw_p46, List.forall_mem_cons.mpr ⟨lw_p47, fun _ h => absurd h List.not_mem_nil⟩⟩⟩⟩⟩⟩⟩⟩⟩⟩⟩⟩⟩⟩⟩⟩
theorem lw_p48 : lw_okq (⟨"MissingNoteModel", "bestHeard", "()I"⟩, 19) := ⟨⟨by decide +kernel, by decide +kernel⟩, List.mem_of_getElem? (i := 725) (by decide +kernel), List.mem_of_getElem? (i := 1059) (by decide +kernel), List.mem_of_getElem? (i := 1060) (by decide +kernel)⟩
theorem lw_p49 : lw_okq (⟨"MissingNoteModel", "fieldsWith", "(Z)I"⟩, 19) := ⟨⟨by decide +kernel, by decide +kernel⟩, List.mem_of_getElem? (i := 725) (by decide +kernel), List.mem_of_getElem? (i := 1071) (by decide +kernel), List.mem_of_getElem? (i := 1072) (by decide +kernel)⟩
def lw_privs_4 : List (MethodName × Nat) := [(⟨"MissingNoteModel", "bestHeard", "()I"⟩, 19), (⟨"MissingNoteModel", "fieldsWith", "(Z)I"⟩, 19)]
theorem lw_r4 : ∀ q ∈ lw_privs_4, lw_okq q := List.forall_mem_cons.mpr ⟨lw_p48, List.forall_mem_cons.mpr ⟨lw_p49, fun _ h => absurd h List.not_mem_nil⟩⟩
def lw_privs : List (MethodName × Nat) := lw_privs_1 ++ (lw_privs_2 ++ (lw_privs_3 ++ (lw_privs_4)))
def lw_tbl : List Cond := k2_sels lw_privs ++ tables_1
theorem lw_privs_ok : ∀ q ∈ lw_privs, lw_okq q := by
  show ∀ q ∈ lw_privs_1 ++ (lw_privs_2 ++ (lw_privs_3 ++ (lw_privs_4))), lw_okq q
  exact List.forall_mem_append.mpr ⟨lw_r1, List.forall_mem_append.mpr ⟨lw_r2, List.forall_mem_append.mpr ⟨lw_r3, lw_r4⟩⟩⟩
-- ===== end of PART A; then your names; then what follows =====
end
section
def RX0 : String := "MissingNote$Acts"
def TX0 : u_T := fun k => match k with
  | 0 => ("MissingNote$Acts", "size", "I", false)
  | 1 => ("MissingNote$Acts", "next", "I", false)
  | 2 => ("MissingNote$Acts", "act", "[I", true)
  | 3 => ("MissingNote$Acts", "of", "[I", true)
  | _ => ("MissingNote$Acts", "was", "[I", true)
def tyX0 : Nat → FieldType := fun k => match k with
  | 0 => .int
  | 1 => .int
  | 2 => .array .int
  | 3 => .array .int
  | _ => .array .int
theorem nmX0 : ∀ a, a < 5 → ∀ b, b < 5 → a ≠ b → (TX0 a).2.1 ≠ (TX0 b).2.1 := by decide +kernel
theorem tyX0_ok : ∀ k, k < 5 → parseFieldDescriptor (TX0 k).2.2.1 = some (tyX0 k) := by decide +kernel
abbrev cX0_init : ByteArray := prog_2_method_1_code
def yX0_init : MethodName := ⟨RX0, "<init>", "()V"⟩
abbrev cX0_forget : ByteArray := prog_2_method_2_code
def yX0_forget : MethodName := ⟨RX0, "forget", "()V"⟩
abbrev cX0_keep : ByteArray := prog_2_method_3_code
def yX0_keep : MethodName := ⟨RX0, "keep", "(III)V"⟩
abbrev cX0_takeBack : ByteArray := prog_2_method_4_code
def yX0_takeBack : MethodName := ⟨RX0, "takeBack", "(LMissingNote$Valley;)V"⟩
def RX1 : String := "MissingNote$Choir"
def TX1 : u_T := fun k => match k with
  | 0 => ("MissingNote$Choir", "song", "[I", true)
  | _ => ("MissingNote$Choir", "chords", "LMissingNote$Chords;", true)
def tyX1 : Nat → FieldType := fun k => match k with
  | 0 => .array .int
  | _ => .object "MissingNote$Chords"
theorem nmX1 : ∀ a, a < 2 → ∀ b, b < 2 → a ≠ b → (TX1 a).2.1 ≠ (TX1 b).2.1 := by decide +kernel
theorem tyX1_ok : ∀ k, k < 2 → parseFieldDescriptor (TX1 k).2.2.1 = some (tyX1 k) := by decide +kernel
abbrev cX1_init : ByteArray := prog_3_method_1_code
def yX1_init : MethodName := ⟨RX1, "<init>", "(LMissingNote$Chords;)V"⟩
abbrev cX1_sing : ByteArray := prog_3_method_2_code
def yX1_sing : MethodName := ⟨RX1, "sing", "(LMissingNote$Valley;II)Z"⟩
abbrev cX1_singAll : ByteArray := prog_3_method_3_code
def yX1_singAll : MethodName := ⟨RX1, "singAll", "(LMissingNote$Valley;)I"⟩
abbrev cX1_passHour : ByteArray := prog_3_method_4_code
def yX1_passHour : MethodName := ⟨RX1, "passHour", "(LMissingNote$Valley;)I"⟩
abbrev cX1_effortOf : ByteArray := prog_3_method_5_code
def yX1_effortOf : MethodName := ⟨RX1, "effortOf", "(LMissingNote$Valley;I)I"⟩
abbrev cX1_alone : ByteArray := prog_3_method_6_code
def yX1_alone : MethodName := ⟨RX1, "alone", "(III)I"⟩
abbrev cX1_choose : ByteArray := prog_3_method_7_code
def yX1_choose : MethodName := ⟨RX1, "choose", "(III)I"⟩
abbrev cX1_firstOf : ByteArray := prog_3_method_8_code
def yX1_firstOf : MethodName := ⟨RX1, "firstOf", "(IIII)I"⟩
abbrev cX1_above : ByteArray := prog_3_method_9_code
def yX1_above : MethodName := ⟨RX1, "above", "(II)I"⟩
abbrev cX1_least : ByteArray := prog_3_method_10_code
def yX1_least : MethodName := ⟨RX1, "least", "(I)I"⟩
abbrev cX1_greatest : ByteArray := prog_3_method_11_code
def yX1_greatest : MethodName := ⟨RX1, "greatest", "(I)I"⟩
def RX2 : String := "MissingNote$Chords"
def TX2 : u_T := fun k => match k with
  | 0 => ("MissingNote$Chords", "notes", "[I", true)
  | _ => ("MissingNote$Chords", "best", "[I", true)
def tyX2 : Nat → FieldType := fun k => match k with
  | 0 => .array .int
  | _ => .array .int
theorem nmX2 : ∀ a, a < 2 → ∀ b, b < 2 → a ≠ b → (TX2 a).2.1 ≠ (TX2 b).2.1 := by decide +kernel
theorem tyX2_ok : ∀ k, k < 2 → parseFieldDescriptor (TX2 k).2.2.1 = some (tyX2 k) := by decide +kernel
abbrev cX2_init : ByteArray := prog_4_method_1_code
def yX2_init : MethodName := ⟨RX2, "<init>", "()V"⟩
abbrev cX2_learn : ByteArray := prog_4_method_2_code
def yX2_learn : MethodName := ⟨RX2, "learn", "(LMissingNote$Valley;)V"⟩
abbrev cX2_learnShape : ByteArray := prog_4_method_3_code
def yX2_learnShape : MethodName := ⟨RX2, "learnShape", "(II)V"⟩
abbrev cX2_claimParts : ByteArray := prog_4_method_4_code
def yX2_claimParts : MethodName := ⟨RX2, "claimParts", "(I)V"⟩
abbrev cX2_isThere : ByteArray := prog_4_method_5_code
def yX2_isThere : MethodName := ⟨RX2, "isThere", "(I)Z"⟩
abbrev cX2_shapeOf : ByteArray := prog_4_method_6_code
def yX2_shapeOf : MethodName := ⟨RX2, "shapeOf", "(I)I"⟩
abbrev cX2_rootOf : ByteArray := prog_4_method_7_code
def yX2_rootOf : MethodName := ⟨RX2, "rootOf", "(I)I"⟩
abbrev cX2_missingOf : ByteArray := prog_4_method_8_code
def yX2_missingOf : MethodName := ⟨RX2, "missingOf", "(I)I"⟩
def RX3 : String := "MissingNote$Ear"
def TX3 : u_T := fun k => match k with
  | 0 => ("MissingNote$Ear", "found", "I", false)
  | 1 => ("MissingNote$Ear", "least", "I", false)
  | 2 => ("MissingNote$Ear", "who", "[I", true)
  | 3 => ("MissingNote$Ear", "sang", "[I", true)
  | _ => ("MissingNote$Ear", "parts", "[I", true)
def tyX3 : Nat → FieldType := fun k => match k with
  | 0 => .int
  | 1 => .int
  | 2 => .array .int
  | 3 => .array .int
  | _ => .array .int
theorem nmX3 : ∀ a, a < 5 → ∀ b, b < 5 → a ≠ b → (TX3 a).2.1 ≠ (TX3 b).2.1 := by decide +kernel
theorem tyX3_ok : ∀ k, k < 5 → parseFieldDescriptor (TX3 k).2.2.1 = some (tyX3 k) := by decide +kernel
abbrev cX3_init : ByteArray := prog_5_method_1_code
def yX3_init : MethodName := ⟨RX3, "<init>", "()V"⟩
abbrev cX3_listen : ByteArray := prog_5_method_2_code
def yX3_listen : MethodName := ⟨RX3, "listen", "(LMissingNote$Valley;LMissingNote$Choir;LMissingNote$Sheet;II)V"⟩
abbrev cX3_bestToHear : ByteArray := prog_5_method_3_code
def yX3_bestToHear : MethodName := ⟨RX3, "bestToHear", "(I)I"⟩
abbrev cX3_agrees : ByteArray := prog_5_method_4_code
def yX3_agrees : MethodName := ⟨RX3, "agrees", "(LMissingNote$Valley;LMissingNote$Choir;II)Z"⟩
abbrev cX3_sort : ByteArray := prog_5_method_5_code
def yX3_sort : MethodName := ⟨RX3, "sort", "(LMissingNote$Valley;LMissingNote$Choir;I)V"⟩
def RX4 : String := "MissingNote$Sheet"
def TX4 : u_T := fun k => match k with
  | 0 => ("MissingNote$Sheet", "lane", "I", false)
  | 1 => ("MissingNote$Sheet", "size", "I", false)
  | _ => ("MissingNote$Sheet", "items", "[J", true)
def tyX4 : Nat → FieldType := fun k => match k with
  | 0 => .int
  | 1 => .int
  | _ => .array .long
theorem nmX4 : ∀ a, a < 3 → ∀ b, b < 3 → a ≠ b → (TX4 a).2.1 ≠ (TX4 b).2.1 := by decide +kernel
theorem tyX4_ok : ∀ k, k < 3 → parseFieldDescriptor (TX4 k).2.2.1 = some (tyX4 k) := by decide +kernel
abbrev cX4_init : ByteArray := prog_6_method_1_code
def yX4_init : MethodName := ⟨RX4, "<init>", "()V"⟩
abbrev cX4_isThere : ByteArray := prog_6_method_2_code
def yX4_isThere : MethodName := ⟨RX4, "isThere", "()Z"⟩
abbrev cX4_begin : ByteArray := prog_6_method_3_code
def yX4_begin : MethodName := ⟨RX4, "begin", "(II)V"⟩
abbrev cX4_end : ByteArray := prog_6_method_4_code
def yX4_end : MethodName := ⟨RX4, "end", "()V"⟩
abbrev cX4_holds : ByteArray := prog_6_method_5_code
def yX4_holds : MethodName := ⟨RX4, "holds", "(II)Z"⟩
abbrev cX4_holdsPairs : ByteArray := prog_6_method_6_code
def yX4_holdsPairs : MethodName := ⟨RX4, "holdsPairs", "(III)Z"⟩
abbrev cX4_put : ByteArray := prog_6_method_7_code
def yX4_put : MethodName := ⟨RX4, "put", "(IJ)V"⟩
def RX5 : String := "MissingNote$Stations"
def TX5 : u_T := fun k => match k with
  | 0 => ("MissingNote$Stations", "worth", "[I", true)
  | 1 => ("MissingNote$Stations", "at", "[I", true)
  | 2 => ("MissingNote$Stations", "crowd", "[I", true)
  | 3 => ("MissingNote$Stations", "bestAt", "[I", true)
  | 4 => ("MissingNote$Stations", "bestWorth", "I", false)
  | _ => ("MissingNote$Stations", "home", "I", false)
def tyX5 : Nat → FieldType := fun k => match k with
  | 0 => .array .int
  | 1 => .array .int
  | 2 => .array .int
  | 3 => .array .int
  | 4 => .int
  | _ => .int
theorem nmX5 : ∀ a, a < 6 → ∀ b, b < 6 → a ≠ b → (TX5 a).2.1 ≠ (TX5 b).2.1 := by decide +kernel
theorem tyX5_ok : ∀ k, k < 6 → parseFieldDescriptor (TX5 k).2.2.1 = some (tyX5 k) := by decide +kernel
abbrev cX5_init : ByteArray := prog_7_method_1_code
def yX5_init : MethodName := ⟨RX5, "<init>", "()V"⟩
abbrev cX5_find : ByteArray := prog_7_method_2_code
def yX5_find : MethodName := ⟨RX5, "find", "(LMissingNote$Valley;LMissingNote$Choir;)V"⟩
abbrev cX5_fullFields : ByteArray := prog_7_method_3_code
def yX5_fullFields : MethodName := ⟨RX5, "fullFields", "()I"⟩
abbrev cX5_bestPlace : ByteArray := prog_7_method_4_code
def yX5_bestPlace : MethodName := ⟨RX5, "bestPlace", "(I)I"⟩
abbrev cX5_weigh : ByteArray := prog_7_method_5_code
def yX5_weigh : MethodName := ⟨RX5, "weigh", "(LMissingNote$Valley;LMissingNote$Choir;)V"⟩
abbrev cX5_worthOfAll : ByteArray := prog_7_method_6_code
def yX5_worthOfAll : MethodName := ⟨RX5, "worthOfAll", "()I"⟩
abbrev cX5_turn : ByteArray := prog_7_method_7_code
def yX5_turn : MethodName := ⟨RX5, "turn", "(I)V"⟩
def RX6 : String := "MissingNote$Tape"
def TX6 : u_T := fun k => match k with
  | 0 => ("MissingNote$Tape", "bytes", "[I", true)
  | 1 => ("MissingNote$Tape", "size", "I", false)
  | _ => ("MissingNote$Tape", "place", "I", false)
def tyX6 : Nat → FieldType := fun k => match k with
  | 0 => .array .int
  | 1 => .int
  | _ => .int
theorem nmX6 : ∀ a, a < 3 → ∀ b, b < 3 → a ≠ b → (TX6 a).2.1 ≠ (TX6 b).2.1 := by decide +kernel
theorem tyX6_ok : ∀ k, k < 3 → parseFieldDescriptor (TX6 k).2.2.1 = some (tyX6 k) := by decide +kernel
abbrev cX6_init : ByteArray := prog_8_method_1_code
def yX6_init : MethodName := ⟨RX6, "<init>", "()V"⟩
abbrev cX6_put : ByteArray := prog_8_method_2_code
def yX6_put : MethodName := ⟨RX6, "put", "(I)I"⟩
abbrev cX6_readValley : ByteArray := prog_8_method_3_code
def yX6_readValley : MethodName := ⟨RX6, "readValley", "(LMissingNote$Valley;)Z"⟩
abbrev cX6_peek : ByteArray := prog_8_method_4_code
def yX6_peek : MethodName := ⟨RX6, "peek", "()I"⟩
abbrev cX6_take : ByteArray := prog_8_method_5_code
def yX6_take : MethodName := ⟨RX6, "take", "(I)Z"⟩
abbrev cX6_peekPitch : ByteArray := prog_8_method_6_code
def yX6_peekPitch : MethodName := ⟨RX6, "peekPitch", "()I"⟩
abbrev cX6_takeRising : ByteArray := prog_8_method_7_code
def yX6_takeRising : MethodName := ⟨RX6, "takeRising", "(I)I"⟩
abbrev cX6_readShapes : ByteArray := prog_8_method_8_code
def yX6_readShapes : MethodName := ⟨RX6, "readShapes", "(LMissingNote$Valley;)Z"⟩
abbrev cX6_readShape : ByteArray := prog_8_method_9_code
def yX6_readShape : MethodName := ⟨RX6, "readShape", "(LMissingNote$Valley;I)Z"⟩
abbrev cX6_readFields : ByteArray := prog_8_method_10_code
def yX6_readFields : MethodName := ⟨RX6, "readFields", "(LMissingNote$Valley;)Z"⟩
abbrev cX6_readSingers : ByteArray := prog_8_method_11_code
def yX6_readSingers : MethodName := ⟨RX6, "readSingers", "(LMissingNote$Valley;)Z"⟩
abbrev cX6_readKind : ByteArray := prog_8_method_12_code
def yX6_readKind : MethodName := ⟨RX6, "readKind", "(LMissingNote$Valley;I)Z"⟩
abbrev cX6_readRange : ByteArray := prog_8_method_13_code
def yX6_readRange : MethodName := ⟨RX6, "readRange", "(LMissingNote$Valley;I)Z"⟩
abbrev cX6_readPlace : ByteArray := prog_8_method_14_code
def yX6_readPlace : MethodName := ⟨RX6, "readPlace", "(LMissingNote$Valley;I)Z"⟩
def RX7 : String := "MissingNote$Valley"
def TX7 : u_T := fun k => match k with
  | 0 => ("MissingNote$Valley", "shapeCount", "I", false)
  | 1 => ("MissingNote$Valley", "fieldCount", "I", false)
  | 2 => ("MissingNote$Valley", "singerCount", "I", false)
  | 3 => ("MissingNote$Valley", "hour", "I", false)
  | 4 => ("MissingNote$Valley", "shapes", "[I", true)
  | 5 => ("MissingNote$Valley", "sounds", "[I", true)
  | 6 => ("MissingNote$Valley", "kind", "[I", true)
  | 7 => ("MissingNote$Valley", "low", "[I", true)
  | 8 => ("MissingNote$Valley", "high", "[I", true)
  | 9 => ("MissingNote$Valley", "place", "[I", true)
  | _ => ("MissingNote$Valley", "tired", "[I", true)
def tyX7 : Nat → FieldType := fun k => match k with
  | 0 => .int
  | 1 => .int
  | 2 => .int
  | 3 => .int
  | 4 => .array .int
  | 5 => .array .int
  | 6 => .array .int
  | 7 => .array .int
  | 8 => .array .int
  | 9 => .array .int
  | _ => .array .int
theorem nmX7 : ∀ a, a < 11 → ∀ b, b < 11 → a ≠ b → (TX7 a).2.1 ≠ (TX7 b).2.1 := by decide +kernel
theorem tyX7_ok : ∀ k, k < 11 → parseFieldDescriptor (TX7 k).2.2.1 = some (tyX7 k) := by decide +kernel
abbrev cX7_init : ByteArray := prog_9_method_1_code
def yX7_init : MethodName := ⟨RX7, "<init>", "()V"⟩
abbrev cX7_isThere : ByteArray := prog_9_method_2_code
def yX7_isThere : MethodName := ⟨RX7, "isThere", "()Z"⟩
abbrev cX7_clear : ByteArray := prog_9_method_3_code
def yX7_clear : MethodName := ⟨RX7, "clear", "()V"⟩
abbrev cX7_become : ByteArray := prog_9_method_4_code
def yX7_become : MethodName := ⟨RX7, "become", "(LMissingNote$Valley;)V"⟩
abbrev cX7_turnPitch : ByteArray := prog_9_method_5_code
def yX7_turnPitch : MethodName := ⟨RX7, "turnPitch", "(II)V"⟩
abbrev cX7_disturb : ByteArray := prog_9_method_6_code
def yX7_disturb : MethodName := ⟨RX7, "disturb", "(J)V"⟩
abbrev cX7_range : ByteArray := prog_9_method_7_code
def yX7_range : MethodName := ⟨RX7, "range", "(I)I"⟩
abbrev cX7_standing : ByteArray := prog_9_method_8_code
def yX7_standing : MethodName := ⟨RX7, "standing", "(I)I"⟩
abbrev cX7_rested : ByteArray := prog_9_method_9_code
def yX7_rested : MethodName := ⟨RX7, "rested", "()I"⟩
abbrev cX7_tiredInAll : ByteArray := prog_9_method_10_code
def yX7_tiredInAll : MethodName := ⟨RX7, "tiredInAll", "()I"⟩
abbrev cX7_packTired : ByteArray := prog_9_method_11_code
def yX7_packTired : MethodName := ⟨RX7, "packTired", "()I"⟩
abbrev cX7_unpackTired : ByteArray := prog_9_method_12_code
def yX7_unpackTired : MethodName := ⟨RX7, "unpackTired", "(I)V"⟩
def RX8 : String := "MissingNote"
def TX8 : u_T := fun k => match k with
  | 0 => ("MissingNote", "tape", "LMissingNote$Tape;", true)
  | 1 => ("MissingNote", "now", "LMissingNote$Valley;", true)
  | 2 => ("MissingNote", "draft", "LMissingNote$Valley;", true)
  | 3 => ("MissingNote", "images", "[LMissingNote$Valley;", true)
  | 4 => ("MissingNote", "acts", "LMissingNote$Acts;", true)
  | 5 => ("MissingNote", "chords", "LMissingNote$Chords;", true)
  | 6 => ("MissingNote", "choir", "LMissingNote$Choir;", true)
  | 7 => ("MissingNote", "stations", "LMissingNote$Stations;", true)
  | 8 => ("MissingNote", "ear", "LMissingNote$Ear;", true)
  | _ => ("MissingNote", "sheets", "[LMissingNote$Sheet;", true)
def tyX8 : Nat → FieldType := fun k => match k with
  | 0 => .object "MissingNote$Tape"
  | 1 => .object "MissingNote$Valley"
  | 2 => .object "MissingNote$Valley"
  | 3 => .array (.object "MissingNote$Valley")
  | 4 => .object "MissingNote$Acts"
  | 5 => .object "MissingNote$Chords"
  | 6 => .object "MissingNote$Choir"
  | 7 => .object "MissingNote$Stations"
  | 8 => .object "MissingNote$Ear"
  | _ => .array (.object "MissingNote$Sheet")
theorem nmX8 : ∀ a, a < 10 → ∀ b, b < 10 → a ≠ b → (TX8 a).2.1 ≠ (TX8 b).2.1 := by decide +kernel
theorem tyX8_ok : ∀ k, k < 10 → parseFieldDescriptor (TX8 k).2.2.1 = some (tyX8 k) := by decide +kernel
abbrev cX8_init : ByteArray := prog_1_method_1_code
def yX8_init : MethodName := ⟨RX8, "<init>", "()V"⟩
abbrev cX8_feed : ByteArray := prog_1_method_2_code
def yX8_feed : MethodName := ⟨RX8, "feed", "(I)I"⟩
abbrev cX8_valley : ByteArray := prog_1_method_3_code
def yX8_valley : MethodName := ⟨RX8, "valley", "()I"⟩
abbrev cX8_shape : ByteArray := prog_1_method_4_code
def yX8_shape : MethodName := ⟨RX8, "shape", "(I)I"⟩
abbrev cX8_field : ByteArray := prog_1_method_5_code
def yX8_field : MethodName := ⟨RX8, "field", "(II)I"⟩
abbrev cX8_singer : ByteArray := prog_1_method_6_code
def yX8_singer : MethodName := ⟨RX8, "singer", "(II)I"⟩
abbrev cX8_as : ByteArray := prog_1_method_7_code
def yX8_as : MethodName := ⟨RX8, "as", "(II)I"⟩
abbrev cX8_chord : ByteArray := prog_1_method_8_code
def yX8_chord : MethodName := ⟨RX8, "chord", "(II)I"⟩
abbrev cX8_hour : ByteArray := prog_1_method_9_code
def yX8_hour : MethodName := ⟨RX8, "hour", "()I"⟩
abbrev cX8_send : ByteArray := prog_1_method_10_code
def yX8_send : MethodName := ⟨RX8, "send", "(II)I"⟩
abbrev cX8_sound : ByteArray := prog_1_method_11_code
def yX8_sound : MethodName := ⟨RX8, "sound", "(II)I"⟩
abbrev cX8_undo : ByteArray := prog_1_method_12_code
def yX8_undo : MethodName := ⟨RX8, "undo", "()I"⟩
abbrev cX8_image : ByteArray := prog_1_method_13_code
def yX8_image : MethodName := ⟨RX8, "image", "(I)I"⟩
abbrev cX8_restore : ByteArray := prog_1_method_14_code
def yX8_restore : MethodName := ⟨RX8, "restore", "(I)I"⟩
abbrev cX8_sings : ByteArray := prog_1_method_15_code
def yX8_sings : MethodName := ⟨RX8, "sings", "(I)I"⟩
abbrev cX8_ahead : ByteArray := prog_1_method_16_code
def yX8_ahead : MethodName := ⟨RX8, "ahead", "(II)I"⟩
abbrev cX8_fills : ByteArray := prog_1_method_17_code
def yX8_fills : MethodName := ⟨RX8, "fills", "(I)I"⟩
abbrev cX8_stands : ByteArray := prog_1_method_18_code
def yX8_stands : MethodName := ⟨RX8, "stands", "(I)I"⟩
abbrev cX8_howls : ByteArray := prog_1_method_19_code
def yX8_howls : MethodName := ⟨RX8, "howls", "(I)I"⟩
abbrev cX8_back : ByteArray := prog_1_method_20_code
def yX8_back : MethodName := ⟨RX8, "back", "(I)I"⟩
abbrev cX8_wind : ByteArray := prog_1_method_21_code
def yX8_wind : MethodName := ⟨RX8, "wind", "(III)I"⟩
abbrev cX8_decades : ByteArray := prog_1_method_22_code
def yX8_decades : MethodName := ⟨RX8, "decades", "(III)I"⟩
abbrev cX8_sheet : ByteArray := prog_1_method_23_code
def yX8_sheet : MethodName := ⟨RX8, "sheet", "(III)I"⟩
abbrev cX8_drop : ByteArray := prog_1_method_24_code
def yX8_drop : MethodName := ⟨RX8, "drop", "(I)I"⟩
abbrev cX8_item : ByteArray := prog_1_method_25_code
def yX8_item : MethodName := ⟨RX8, "item", "(IIIJ)J"⟩
abbrev cX8_copy : ByteArray := prog_1_method_26_code
def yX8_copy : MethodName := ⟨RX8, "copy", "(IIIII)I"⟩
abbrev cX8_log : ByteArray := prog_1_method_27_code
def yX8_log : MethodName := ⟨RX8, "log", "(III)I"⟩
abbrev cX8_sounded : ByteArray := prog_1_method_28_code
def yX8_sounded : MethodName := ⟨RX8, "sounded", "(IIIII)I"⟩
abbrev cX8_kinds : ByteArray := prog_1_method_29_code
def yX8_kinds : MethodName := ⟨RX8, "kinds", "(IIIII)I"⟩
abbrev cX8_count : ByteArray := prog_1_method_30_code
def yX8_count : MethodName := ⟨RX8, "count", "(I)I"⟩
abbrev cX8_within : ByteArray := prog_1_method_31_code
def yX8_within : MethodName := ⟨RX8, "within", "(II)Z"⟩
abbrev cX8_has : ByteArray := prog_1_method_32_code
def yX8_has : MethodName := ⟨RX8, "has", "(II)Z"⟩
abbrev cX8_isField : ByteArray := prog_1_method_33_code
def yX8_isField : MethodName := ⟨RX8, "isField", "(I)Z"⟩
abbrev cX8_isSinger : ByteArray := prog_1_method_34_code
def yX8_isSinger : MethodName := ⟨RX8, "isSinger", "(I)Z"⟩
abbrev cX8_tellPlace : ByteArray := prog_1_method_35_code
def yX8_tellPlace : MethodName := ⟨RX8, "tellPlace", "(I)I"⟩
abbrev cX8_tellChord : ByteArray := prog_1_method_36_code
def yX8_tellChord : MethodName := ⟨RX8, "tellChord", "(II)I"⟩
abbrev cX8_begin : ByteArray := prog_1_method_37_code
def yX8_begin : MethodName := ⟨RX8, "begin", "(LMissingNote$Valley;)V"⟩
abbrev cX8_fieldsWithChord : ByteArray := prog_1_method_38_code
def yX8_fieldsWithChord : MethodName := ⟨RX8, "fieldsWithChord", "(Z)I"⟩
abbrev cX8_power : ByteArray := prog_1_method_39_code
def yX8_power : MethodName := ⟨RX8, "power", "(II)I"⟩
abbrev cX8_sharedDivisor : ByteArray := prog_1_method_40_code
def yX8_sharedDivisor : MethodName := ⟨RX8, "sharedDivisor", "(II)I"⟩
abbrev cX8_refusal : ByteArray := prog_1_method_41_code
def yX8_refusal : MethodName := ⟨RX8, "refusal", "(IIII)I"⟩
abbrev cX8_agrees : ByteArray := prog_1_method_42_code
def yX8_agrees : MethodName := ⟨RX8, "agrees", "(IILMissingNote$Sheet;II)Z"⟩
def RX9 : String := "MissingNoteModel"
def TX9 : u_T := fun k => match k with
  | 0 => ("MissingNoteModel", "lane", "[I", true)
  | 1 => ("MissingNoteModel", "size", "[I", true)
  | 2 => ("MissingNoteModel", "item", "[J", true)
  | 3 => ("MissingNoteModel", "letters", "I", false)
  | 4 => ("MissingNoteModel", "tape", "[I", true)
  | 5 => ("MissingNoteModel", "position", "I", false)
  | 6 => ("MissingNoteModel", "now", "[I", true)
  | 7 => ("MissingNoteModel", "read", "[I", true)
  | 8 => ("MissingNoteModel", "tried", "[I", true)
  | 9 => ("MissingNoteModel", "image", "[I", true)
  | 10 => ("MissingNoteModel", "isKept", "[Z", true)
  | 11 => ("MissingNoteModel", "actOf", "[I", true)
  | 12 => ("MissingNoteModel", "acts", "I", false)
  | 13 => ("MissingNoteModel", "sung", "[I", true)
  | 14 => ("MissingNoteModel", "best", "[I", true)
  | 15 => ("MissingNoteModel", "bestFull", "I", false)
  | 16 => ("MissingNoteModel", "bestTired", "I", false)
  | 17 => ("MissingNoteModel", "often", "[I", true)
  | _ => ("MissingNoteModel", "fits", "[Z", true)
def tyX9 : Nat → FieldType := fun k => match k with
  | 0 => .array .int
  | 1 => .array .int
  | 2 => .array .long
  | 3 => .int
  | 4 => .array .int
  | 5 => .int
  | 6 => .array .int
  | 7 => .array .int
  | 8 => .array .int
  | 9 => .array .int
  | 10 => .array .boolean
  | 11 => .array .int
  | 12 => .int
  | 13 => .array .int
  | 14 => .array .int
  | 15 => .int
  | 16 => .int
  | 17 => .array .int
  | _ => .array .boolean
theorem nmX9 : ∀ a, a < 19 → ∀ b, b < 19 → a ≠ b → (TX9 a).2.1 ≠ (TX9 b).2.1 := by decide +kernel
theorem tyX9_ok : ∀ k, k < 19 → parseFieldDescriptor (TX9 k).2.2.1 = some (tyX9 k) := by decide +kernel
abbrev cX9_init : ByteArray := prog_11_method_1_code
def yX9_init : MethodName := ⟨RX9, "<init>", "()V"⟩
abbrev cX9_in : ByteArray := prog_11_method_2_code
def yX9_in : MethodName := ⟨RX9, "in", "(III)Z"⟩
abbrev cX9_has : ByteArray := prog_11_method_3_code
def yX9_has : MethodName := ⟨RX9, "has", "(II)Z"⟩
abbrev cX9_bits : ByteArray := prog_11_method_4_code
def yX9_bits : MethodName := ⟨RX9, "bits", "(I)I"⟩
abbrev cX9_bring : ByteArray := prog_11_method_5_code
def yX9_bring : MethodName := ⟨RX9, "bring", "([II[III)V"⟩
abbrev cX9_isThere : ByteArray := prog_11_method_6_code
def yX9_isThere : MethodName := ⟨RX9, "isThere", "()Z"⟩
abbrev cX9_isField : ByteArray := prog_11_method_7_code
def yX9_isField : MethodName := ⟨RX9, "isField", "(I)Z"⟩
abbrev cX9_isOne : ByteArray := prog_11_method_8_code
def yX9_isOne : MethodName := ⟨RX9, "isOne", "(I)Z"⟩
abbrev cX9_feed : ByteArray := prog_11_method_9_code
def yX9_feed : MethodName := ⟨RX9, "feed", "(I)I"⟩
abbrev cX9_peek : ByteArray := prog_11_method_10_code
def yX9_peek : MethodName := ⟨RX9, "peek", "()I"⟩
abbrev cX9_isSign : ByteArray := prog_11_method_11_code
def yX9_isSign : MethodName := ⟨RX9, "isSign", "(I)Z"⟩
abbrev cX9_kindBy : ByteArray := prog_11_method_12_code
def yX9_kindBy : MethodName := ⟨RX9, "kindBy", "(I)I"⟩
abbrev cX9_pitchThere : ByteArray := prog_11_method_13_code
def yX9_pitchThere : MethodName := ⟨RX9, "pitchThere", "()I"⟩
abbrev cX9_pitches : ByteArray := prog_11_method_14_code
def yX9_pitches : MethodName := ⟨RX9, "pitches", "(I)I"⟩
abbrev cX9_isShape : ByteArray := prog_11_method_15_code
def yX9_isShape : MethodName := ⟨RX9, "isShape", "()Z"⟩
abbrev cX9_isFieldItem : ByteArray := prog_11_method_16_code
def yX9_isFieldItem : MethodName := ⟨RX9, "isFieldItem", "()Z"⟩
abbrev cX9_isSinger : ByteArray := prog_11_method_17_code
def yX9_isSinger : MethodName := ⟨RX9, "isSinger", "()Z"⟩
abbrev cX9_isRead : ByteArray := prog_11_method_18_code
def yX9_isRead : MethodName := ⟨RX9, "isRead", "()Z"⟩
abbrev cX9_valley : ByteArray := prog_11_method_19_code
def yX9_valley : MethodName := ⟨RX9, "valley", "()I"⟩
abbrev cX9_shape : ByteArray := prog_11_method_20_code
def yX9_shape : MethodName := ⟨RX9, "shape", "(I)I"⟩
abbrev cX9_chordOn : ByteArray := prog_11_method_21_code
def yX9_chordOn : MethodName := ⟨RX9, "chordOn", "(II)I"⟩
abbrev cX9_chordBy : ByteArray := prog_11_method_22_code
def yX9_chordBy : MethodName := ⟨RX9, "chordBy", "([II)I"⟩
abbrev cX9_missingBy : ByteArray := prog_11_method_23_code
def yX9_missingBy : MethodName := ⟨RX9, "missingBy", "([III)I"⟩
abbrev cX9_whoAt : ByteArray := prog_11_method_24_code
def yX9_whoAt : MethodName := ⟨RX9, "whoAt", "([II)I"⟩
abbrev cX9_chord : ByteArray := prog_11_method_25_code
def yX9_chord : MethodName := ⟨RX9, "chord", "(II)I"⟩
abbrev cX9_field : ByteArray := prog_11_method_26_code
def yX9_field : MethodName := ⟨RX9, "field", "(II)I"⟩
abbrev cX9_singer : ByteArray := prog_11_method_27_code
def yX9_singer : MethodName := ⟨RX9, "singer", "(II)I"⟩
abbrev cX9_as : ByteArray := prog_11_method_28_code
def yX9_as : MethodName := ⟨RX9, "as", "(II)I"⟩
abbrev cX9_lowest : ByteArray := prog_11_method_29_code
def yX9_lowest : MethodName := ⟨RX9, "lowest", "(I)I"⟩
abbrev cX9_highest : ByteArray := prog_11_method_30_code
def yX9_highest : MethodName := ⟨RX9, "highest", "(I)I"⟩
abbrev cX9_singsOf : ByteArray := prog_11_method_31_code
def yX9_singsOf : MethodName := ⟨RX9, "singsOf", "(III)I"⟩
abbrev cX9_rangeOf : ByteArray := prog_11_method_32_code
def yX9_rangeOf : MethodName := ⟨RX9, "rangeOf", "([II)I"⟩
abbrev cX9_singIn : ByteArray := prog_11_method_33_code
def yX9_singIn : MethodName := ⟨RX9, "singIn", "([III)I"⟩
abbrev cX9_hush : ByteArray := prog_11_method_34_code
def yX9_hush : MethodName := ⟨RX9, "hush", "()V"⟩
abbrev cX9_singAll : ByteArray := prog_11_method_35_code
def yX9_singAll : MethodName := ⟨RX9, "singAll", "([I)I"⟩
abbrev cX9_tires : ByteArray := prog_11_method_36_code
def yX9_tires : MethodName := ⟨RX9, "tires", "(I)I"⟩
abbrev cX9_hourIn : ByteArray := prog_11_method_37_code
def yX9_hourIn : MethodName := ⟨RX9, "hourIn", "([I)I"⟩
abbrev cX9_note : ByteArray := prog_11_method_38_code
def yX9_note : MethodName := ⟨RX9, "note", "()V"⟩
abbrev cX9_hour : ByteArray := prog_11_method_39_code
def yX9_hour : MethodName := ⟨RX9, "hour", "()I"⟩
abbrev cX9_send : ByteArray := prog_11_method_40_code
def yX9_send : MethodName := ⟨RX9, "send", "(II)I"⟩
abbrev cX9_turn : ByteArray := prog_11_method_41_code
def yX9_turn : MethodName := ⟨RX9, "turn", "([III)V"⟩
abbrev cX9_sound : ByteArray := prog_11_method_42_code
def yX9_sound : MethodName := ⟨RX9, "sound", "(II)I"⟩
abbrev cX9_undo : ByteArray := prog_11_method_43_code
def yX9_undo : MethodName := ⟨RX9, "undo", "()I"⟩
abbrev cX9_image : ByteArray := prog_11_method_44_code
def yX9_image : MethodName := ⟨RX9, "image", "(I)I"⟩
abbrev cX9_restore : ByteArray := prog_11_method_45_code
def yX9_restore : MethodName := ⟨RX9, "restore", "(I)I"⟩
abbrev cX9_begin : ByteArray := prog_11_method_46_code
def yX9_begin : MethodName := ⟨RX9, "begin", "()V"⟩
abbrev cX9_sings : ByteArray := prog_11_method_47_code
def yX9_sings : MethodName := ⟨RX9, "sings", "(I)I"⟩
abbrev cX9_tiredOf : ByteArray := prog_11_method_48_code
def yX9_tiredOf : MethodName := ⟨RX9, "tiredOf", "([I)I"⟩
abbrev cX9_ahead : ByteArray := prog_11_method_49_code
def yX9_ahead : MethodName := ⟨RX9, "ahead", "(II)I"⟩
abbrev cX9_fills : ByteArray := prog_11_method_50_code
def yX9_fills : MethodName := ⟨RX9, "fills", "(I)I"⟩
abbrev cX9_layStands : ByteArray := prog_11_method_51_code
def yX9_layStands : MethodName := ⟨RX9, "layStands", "()V"⟩
abbrev cX9_stands : ByteArray := prog_11_method_52_code
def yX9_stands : MethodName := ⟨RX9, "stands", "(I)I"⟩
abbrev cX9_howls : ByteArray := prog_11_method_53_code
def yX9_howls : MethodName := ⟨RX9, "howls", "(I)I"⟩
abbrev cX9_back : ByteArray := prog_11_method_54_code
def yX9_back : MethodName := ⟨RX9, "back", "(I)I"⟩
abbrev cX9_part : ByteArray := prog_11_method_55_code
def yX9_part : MethodName := ⟨RX9, "part", "(III)I"⟩
abbrev cX9_wind : ByteArray := prog_11_method_56_code
def yX9_wind : MethodName := ⟨RX9, "wind", "(III)I"⟩
abbrev cX9_decades : ByteArray := prog_11_method_57_code
def yX9_decades : MethodName := ⟨RX9, "decades", "(III)I"⟩
abbrev cX9_isSheet : ByteArray := prog_11_method_58_code
def yX9_isSheet : MethodName := ⟨RX9, "isSheet", "(I)Z"⟩
abbrev cX9_isPart : ByteArray := prog_11_method_59_code
def yX9_isPart : MethodName := ⟨RX9, "isPart", "(III)Z"⟩
abbrev cX9_badRow : ByteArray := prog_11_method_60_code
def yX9_badRow : MethodName := ⟨RX9, "badRow", "(IIII)I"⟩
abbrev cX9_sheet : ByteArray := prog_11_method_61_code
def yX9_sheet : MethodName := ⟨RX9, "sheet", "(III)I"⟩
abbrev cX9_drop : ByteArray := prog_11_method_62_code
def yX9_drop : MethodName := ⟨RX9, "drop", "(I)I"⟩
abbrev cX9_item : ByteArray := prog_11_method_63_code
def yX9_item : MethodName := ⟨RX9, "item", "(IIIJ)J"⟩
abbrev cX9_copy : ByteArray := prog_11_method_64_code
def yX9_copy : MethodName := ⟨RX9, "copy", "(IIIII)I"⟩
abbrev cX9_cutTo : ByteArray := prog_11_method_65_code
def yX9_cutTo : MethodName := ⟨RX9, "cutTo", "(IJ)J"⟩
abbrev cX9_log : ByteArray := prog_11_method_66_code
def yX9_log : MethodName := ⟨RX9, "log", "(III)I"⟩
abbrev cX9_areBelow : ByteArray := prog_11_method_67_code
def yX9_areBelow : MethodName := ⟨RX9, "areBelow", "(IIII)Z"⟩
abbrev cX9_aloneSings : ByteArray := prog_11_method_68_code
def yX9_aloneSings : MethodName := ⟨RX9, "aloneSings", "(IIII)I"⟩
abbrev cX9_layFits : ByteArray := prog_11_method_69_code
def yX9_layFits : MethodName := ⟨RX9, "layFits", "(II)I"⟩
abbrev cX9_leastFit : ByteArray := prog_11_method_70_code
def yX9_leastFit : MethodName := ⟨RX9, "leastFit", "()I"⟩
abbrev cX9_bestHeard : ByteArray := prog_11_method_71_code
def yX9_bestHeard : MethodName := ⟨RX9, "bestHeard", "()I"⟩
abbrev cX9_sounded : ByteArray := prog_11_method_72_code
def yX9_sounded : MethodName := ⟨RX9, "sounded", "(IIIII)I"⟩
abbrev cX9_kinds : ByteArray := prog_11_method_73_code
def yX9_kinds : MethodName := ⟨RX9, "kinds", "(IIIII)I"⟩
abbrev cX9_fieldsWith : ByteArray := prog_11_method_74_code
def yX9_fieldsWith : MethodName := ⟨RX9, "fieldsWith", "(Z)I"⟩
abbrev cX9_count : ByteArray := prog_11_method_75_code
def yX9_count : MethodName := ⟨RX9, "count", "(I)I"⟩
def RJ6 : String := "java/lang/Integer"
def TJ6 : u_T := fun k => match k with
  | _ => ("", "", "", false)
def tyJ6 : Nat → FieldType := fun k => match k with
  | _ => .int
theorem nmJ6 : ∀ a, a < 0 → ∀ b, b < 0 → a ≠ b → (TJ6 a).2.1 ≠ (TJ6 b).2.1 := by decide +kernel
theorem tyJ6_ok : ∀ k, k < 0 → parseFieldDescriptor (TJ6 k).2.2.1 = some (tyJ6 k) := by decide +kernel
abbrev cJ6_bitCount_0f7a4 : ByteArray := prog_12_method_49_code
def yJ6_bitCount_0f7a4 : MethodName := ⟨RJ6, "bitCount", "(I)I"⟩
def RJ9 : String := "java/lang/Math"
def TJ9 : u_T := fun k => match k with
  | _ => ("", "", "", false)
def tyJ9 : Nat → FieldType := fun k => match k with
  | _ => .int
theorem nmJ9 : ∀ a, a < 0 → ∀ b, b < 0 → a ≠ b → (TJ9 a).2.1 ≠ (TJ9 b).2.1 := by decide +kernel
theorem tyJ9_ok : ∀ k, k < 0 → parseFieldDescriptor (TJ9 k).2.2.1 = some (tyJ9 k) := by decide +kernel
abbrev cJ9_max_7cf53 : ByteArray := prog_13_method_65_code
def yJ9_max_7cf53 : MethodName := ⟨RJ9, "max", "(II)I"⟩
abbrev cJ9_min_7cf53 : ByteArray := prog_13_method_69_code
def yJ9_min_7cf53 : MethodName := ⟨RJ9, "min", "(II)I"⟩
def RJ10 : String := "java/lang/System"
def TJ10 : u_T := fun k => match k with
  | _ => ("", "", "", false)
def tyJ10 : Nat → FieldType := fun k => match k with
  | _ => .int
theorem nmJ10 : ∀ a, a < 0 → ∀ b, b < 0 → a ≠ b → (TJ10 a).2.1 ≠ (TJ10 b).2.1 := by decide +kernel
theorem tyJ10_ok : ∀ k, k < 0 → parseFieldDescriptor (TJ10 k).2.2.1 = some (tyJ10 k) := by decide +kernel
def RJ7 : String := "java/util/Arrays"
def TJ7 : u_T := fun k => match k with
  | _ => ("", "", "", false)
def tyJ7 : Nat → FieldType := fun k => match k with
  | _ => .int
theorem nmJ7 : ∀ a, a < 0 → ∀ b, b < 0 → a ≠ b → (TJ7 a).2.1 ≠ (TJ7 b).2.1 := by decide +kernel
theorem tyJ7_ok : ∀ k, k < 0 → parseFieldDescriptor (TJ7 k).2.2.1 = some (tyJ7 k) := by decide +kernel
abbrev cJ7_fill_d0a16 : ByteArray := prog_15_method_101_code
def yJ7_fill_d0a16 : MethodName := ⟨RJ7, "fill", "([JJ)V"⟩
abbrev cJ7_fill_53178 : ByteArray := prog_15_method_103_code
def yJ7_fill_53178 : MethodName := ⟨RJ7, "fill", "([II)V"⟩
def RL : String := "MissingNoteLaw"
abbrev cL_law : ByteArray := code
def yL_law : MethodName := ⟨RL, "law", "([I)Z"⟩
abbrev vwCl : List vw_C := [(RX0, TX0, 5), (RX1, TX1, 2), (RX2, TX2, 2), (RX3, TX3, 5), (RX4, TX4, 3), (RX5, TX5, 6), (RX6, TX6, 3), (RX7, TX7, 11), (RX8, TX8, 10), (RX9, TX9, 19)]
end
section
/-! what the landed class has of its own: private members that a nest mate uses, static rows -/
def k_nwM : List (String × Nat × MethodName × String) := [(RX6, 98, yX8_within, RX8), (RX1, 38, yX8_has, RX8), (RX5, 49, yX8_power, RX8)]
def k_nwF : List (String × Nat × String × String × String × String) := [(RX1, 79, RX8, "EFFORT", "[I", RX8)]
def k_tIS : Nat → Int32 := fun i => ([1, 3, 7, 11, 17, 49] : List Int32).getD i 0
def k_tEF : Nat → Int32 := fun i => ([0, 2, 3, 2, 1, 0] : List Int32).getD i 0
def k_sts : List (Nat × String × String × String × Nat × (Nat → Int32)) := [(1000, RX8, "IS", "[I", 6, k_tIS), (1001, RX8, "EFFORT", "[I", 6, k_tEF)]
def k_ty (cA : Nat → ClassId) : List (ClassId × FieldType) := [(cA 1, .int), (cA 2, .long), (cA 3, .boolean), (cA 4, .object RX7), (cA 5, .object RX4)]
end
section
/-! THE JUDGEMENT: a method's frame over a fixed world of cells (no cell is made), in words that hide the machine.
kS: what the cells hold; kH: the world's shape; kM: a method. -/
abbrev kS : Type := (Nat → Nat → Int32) × (Nat → Nat → Int64)
abbrev kH : Type := List (Nat × Nat × List (Option Nat))
abbrev kM : Type := MethodName × ByteArray × Nat × Option FieldType × Nat × Nat
def k_ws : List Cond := lw_tbl.filter goodWord
def k_rm (j : kM) : Room := { frames := j.2.2.2.2.1, cells := 0, slots := 0, locals := j.2.2.2.2.2 }
def k_cv (ad : Nat → Nat) (v : Value) : Value := match v with
  | .ref k => .ref (ad k)
  | v => v
theorem k_cv_cat (ad : Nat → Nat) (v : Value) : (k_cv ad v).category = v.category := by cases v <;> rfl
def k_fv (ad : Nat → Nat) (h : Nat → Int32) (i : Nat) (o : Option Nat) : Value := match o with
  | none => .int (h i)
  | some q => .ref (ad q)
def k_cel (cA : Nat → ClassId) (ad : Nat → Nat) (σ : kS) (k : Nat) (c : Nat × Nat × List (Option Nat)) : va_E := match c.1 with
  | 0 => .inr (c.2.1, c.2.2.mapIdx (k_fv ad (σ.1 k)))
  | 1 => .inl (cA 1, c.2.1, .inl (σ.1 k))
  | 2 => .inl (cA 2, c.2.1, .inr (.inl (σ.2 k)))
  | 3 => .inl (cA 3, c.2.1, .inl (σ.1 k))
  | n => .inl (cA n, c.2.1, .inr (.inr (.inr (.inr fun i => (c.2.2.getD i none).map ad))))
def k_wd (S : kH) (cA : Nat → ClassId) (ad : Nat → Nat) (σ : kS) : va_W := S.mapIdx fun k c => (ad k, k_cel cA ad σ k c)
def k_A (ad : Nat → Nat) (n sz : Nat) : Nat → Prop := fun q => (∃ k, k < n ∧ q = ad k) ∨ sz ≤ q
def k_nw (U : State) : Prop := (∀ q ∈ k_nwM, va_Nw (.methodLinkNest q.1 q.2.1 q.2.2.1 q.2.2.2) U) ∧ ∀ q ∈ k_nwF, va_Nw (.fieldLinkNest q.1 q.2.1 q.2.2.1 q.2.2.2.1 q.2.2.2.2.1 q.2.2.2.2.2) U
def k_st (A : Nat → Prop) (ad : Nat → Nat) (U : State) (H : Heap) : Prop := ∀ q ∈ k_sts, va_Z q.2.1 q.2.2.1 q.2.2.2.1 (.ref (ad q.1)) A U H ∧ va_T .int (ad q.1) q.2.2.2.2.1 (fun i => .int (q.2.2.2.2.2 i)) A U H
def k_lh (ad : Nat → Nat) (ls : Array Slot) (nL : Nat) (lv : List (Option Value)) : Prop := ls.size = nL ∧ lv_wf ls ∧ ∀ (i : Nat) (v : Value), lv[i]? = some (some v) → ls[i]? = some (.val (k_cv ad v))
/-- the machine around a frame of j -/
def k_ev (S : kH) (j : kM) (p : Program) (s : State) (m : MethodId) (args : Array Value) (meth : Method) (c : Code) (D : va_G) (cA : Nat → ClassId) (ad : Nat → Nat) : Prop :=
  p.tables.exec = Jvm.exec ∧ c.code = j.2.1 ∧ c.maxLocals = j.2.2.1 ∧ meth.sig.returnType = j.2.2.2.1 ∧ meth.locks = false ∧ s.vm.findClass j.1.cls = some m.cls ∧ (∀ w ∈ Cond.code j.1 j.2.1 j.2.2.1 j.2.2.2.1 :: k_ws, w.before args s = true) ∧ va_K D vwCl (k_ty cA) s ∧ k_nw s ∧ k_st (k_A ad S.length s.heap.size) ad s s.heap
def k_Q (S : kH) (D : va_G) (cA : Nat → ClassId) (ad : Nat → Nat) (r : Option Value) (τ : kS) : Array Value → State → Outcome → State → Prop := fun _ st oc t =>
  (oc = .returned (r.map (k_cv ad)) ∧ va_P D vwCl (k_wd S cA ad τ) t.heap) ∧ va_F (k_A ad S.length st.heap.size) st t
def k_G (S : kH) (D : va_G) (cA : Nat → ClassId) (ad : Nat → Nat) (sz : Nat) (σ : kS) (U : State) : Prop :=
  va_P D vwCl (k_wd S cA ad σ) U.heap ∧ va_K D vwCl (k_ty cA) U ∧ va_D (k_A ad S.length sz) (k_wd S cA ad σ) ∧ k_nw U ∧ k_st (k_A ad S.length sz) ad U U.heap
def Ex (S : kH) (j : kM) (pc : Nat) (lv : List (Option Value)) (st : List Value) (σ : kS) (r : Option Value) (τ : kS) : Prop :=
  ∀ (p : Program) (l : Launch) (e : Env) (s : State) (m : MethodId) (args : Array Value) (below : List Frame) (meth : Method) (c : Code) (D : va_G) (cA : Nat → ClassId) (ad : Nat → Nat) (H : Heap) (locs : List Loc) (ls : Array Slot),
    k_ev S j p s m args meth c D cA ad → va_P D vwCl (k_wd S cA ad σ) H → va_D (k_A ad S.length s.heap.size) (k_wd S cA ad σ) → va_S (k_A ad S.length s.heap.size) s.heap H locs → k_lh ad ls j.2.2.1 lv →
    W p l e (k_rm j) s m args below meth c H locs 0 0 (MQ below (k_Q S D cA ad r τ) args s 0 0 (k_A ad S.length s.heap.size)) (F0 m pc ls (st.map (k_cv ad)))
def Run (S : kH) (j : kM) (av : List Value) (σ : kS) (r : Option Value) (τ : kS) : Prop :=
  ∀ (l : Launch) (D : va_G) (cA : Nat → ClassId) (ad : Nat → Nat) (sz : Nat), Met l j.1 (Cond.code j.1 j.2.1 j.2.2.1 j.2.2.2.1 :: k_ws) (k_rm j) (va_Pc (av.map (k_cv ad)) (fun U => U.heap.size = sz ∧ k_G S D cA ad sz σ U)) (k_Q S D cA ad r τ) 0 0 (k_A ad S.length sz)
/-! the world's cells -/
def k_is (S : kH) (k t n : Nat) : Bool := match S[k]? with
  | some c => c.1 == t && c.2.1 == n
  | none => false
def k_fd (S : kH) (k i : Nat) : Option (Option Nat) := match S[k]? with
  | some c => c.2.2[i]?
  | none => none
def k_si (σ : kS) (k i : Nat) (v : Int32) : kS := (fun a b => if a = k then (if b = i then v else σ.1 a b) else σ.1 a b, σ.2)
def k_sl (σ : kS) (k i : Nat) (v : Int64) : kS := (σ.1, fun a b => if a = k then (if b = i then v else σ.2 a b) else σ.2 a b)
def k_cp (σ : kS) (a0 a1 sp dp n : Nat) : kS := (fun a b => if a = a1 then va_cpy (σ.1 a0) (σ.1 a1) sp dp n b else σ.1 a b, σ.2)
def k_cl (σ : kS) (a0 a1 sp dp n : Nat) : kS := (σ.1, fun a b => if a = a1 then va_cpy (σ.2 a0) (σ.2 a1) sp dp n b else σ.2 a b)
theorem k_is_spec {S : kH} {k t n : Nat} (h : k_is S k t n = true) : ∃ fs, S[k]? = some (t, n, fs) := by
  unfold k_is at h
  cases hc : S[k]? with
  | none => rw [hc] at h; cases h
  | some c =>
    rw [hc] at h
    obtain ⟨a, b, fs⟩ := c
    simp only [Bool.and_eq_true, beq_iff_eq] at h
    exact ⟨fs, by rw [← h.1, ← h.2]⟩
theorem k_wd_at {S : kH} {cA : Nat → ClassId} {ad : Nat → Nat} {σ : kS} {k : Nat} {c : Nat × Nat × List (Option Nat)} (h : S[k]? = some c) : (k_wd S cA ad σ)[k]? = some (ad k, k_cel cA ad σ k c) := by
  simp [k_wd, List.getElem?_mapIdx, h]
theorem k_wd_lt {S : kH} {cA : Nat → ClassId} {ad : Nat → Nat} {σ : kS} {k : Nat} {q : Nat × va_E} (h : (k_wd S cA ad σ)[k]? = some q) : k < S.length ∧ q.1 = ad k := by
  simp only [k_wd, List.getElem?_mapIdx, Option.map_eq_some_iff] at h
  obtain ⟨c, h1, h2⟩ := h
  exact ⟨(List.getElem?_eq_some_iff.mp h1).1, by rw [← h2]⟩
theorem k_wd_set {S : kH} {cA : Nat → ClassId} {ad : Nat → Nat} {σ τ : kS} {k : Nat} {c : Nat × Nat × List (Option Nat)} (h : S[k]? = some c) (ho : ∀ a, a ≠ k → ∀ d, k_cel cA ad τ a d = k_cel cA ad σ a d) : (k_wd S cA ad σ).set k (ad k, k_cel cA ad τ k c) = k_wd S cA ad τ := by
  apply List.ext_getElem?
  intro i
  by_cases hi : i = k
  · subst hi
    have hl : i < S.length := (List.getElem?_eq_some_iff.mp h).1
    rw [List.getElem?_set_self (by simpa [k_wd] using hl), k_wd_at h]
  · rw [List.getElem?_set_ne (Ne.symm hi)]
    simp only [k_wd, List.getElem?_mapIdx]
    cases hc : S[i]? with
    | none => rfl
    | some d => simp [ho i hi d]
theorem k_cel_other {cA : Nat → ClassId} {ad : Nat → Nat} {σ τ : kS} {a : Nat} (h1 : τ.1 a = σ.1 a) (h2 : τ.2 a = σ.2 a) (d : Nat × Nat × List (Option Nat)) : k_cel cA ad τ a d = k_cel cA ad σ a d := by
  unfold k_cel
  rw [h1, h2]
theorem k_si_o {σ : kS} {k i a : Nat} {v : Int32} (h : a ≠ k) : (k_si σ k i v).1 a = σ.1 a := by
  funext b; simp [k_si, h]
theorem k_si_s {σ : kS} {k i : Nat} {v : Int32} : (k_si σ k i v).1 k = upd (σ.1 k) i v := by
  funext b; simp [k_si, upd]
theorem k_sl_o {σ : kS} {k i a : Nat} {v : Int64} (h : a ≠ k) : (k_sl σ k i v).2 a = σ.2 a := by
  funext b; simp [k_sl, h]
theorem k_sl_s {σ : kS} {k i : Nat} {v : Int64} : (k_sl σ k i v).2 k = vp_updL (σ.2 k) i v := by
  funext b; simp [k_sl, vp_updL]
theorem k_cp_o {σ : kS} {a0 a1 sp dp n a : Nat} (h : a ≠ a1) : (k_cp σ a0 a1 sp dp n).1 a = σ.1 a := by
  funext b; simp [k_cp, h]
theorem k_cp_s {σ : kS} {a0 a1 sp dp n : Nat} : (k_cp σ a0 a1 sp dp n).1 a1 = va_cpy (σ.1 a0) (σ.1 a1) sp dp n := by
  funext b; simp [k_cp]
theorem k_cl_o {σ : kS} {a0 a1 sp dp n a : Nat} (h : a ≠ a1) : (k_cl σ a0 a1 sp dp n).2 a = σ.2 a := by
  funext b; simp [k_cl, h]
theorem k_cl_s {σ : kS} {a0 a1 sp dp n : Nat} : (k_cl σ a0 a1 sp dp n).2 a1 = va_cpy (σ.2 a0) (σ.2 a1) sp dp n := by
  funext b; simp [k_cl]
theorem k_fv_set {ad : Nat → Nat} {h h' : Nat → Int32} {fs : List (Option Nat)} {i : Nat} {v : Int32} (hf : fs[i]? = some none) (hh : h' = upd h i v) : (fs.mapIdx (k_fv ad h)).set i (.int v) = fs.mapIdx (k_fv ad h') := by
  apply List.ext_getElem?
  intro a
  by_cases ha : a = i
  · subst ha
    have hl : a < fs.length := (List.getElem?_eq_some_iff.mp hf).1
    rw [List.getElem?_set_self (by simpa using hl), List.getElem?_mapIdx, hf, hh]
    simp [k_fv, upd]
  · rw [List.getElem?_set_ne (Ne.symm ha), List.getElem?_mapIdx, List.getElem?_mapIdx]
    cases fs[a]? with
    | none => rfl
    | some o => cases o <;> simp [k_fv, hh, upd, ha]
theorem k_DA {S : kH} {cA : Nat → ClassId} {ad : Nat → Nat} {σ τ : kS} {A B : Nat → Prop} (h : va_D A (k_wd S cA ad σ)) (hB : ∀ k, k < S.length → B (ad k)) : va_D B (k_wd S cA ad τ) := by
  refine ⟨fun i j p q hi hj hpq => ?_, fun k q hk => ?_⟩
  · obtain ⟨h1, h2⟩ := k_wd_lt hi
    obtain ⟨h3, h4⟩ := k_wd_lt hj
    have e1 : S[i]? = some S[i] := List.getElem?_eq_getElem h1
    have e2 : S[j]? = some S[j] := List.getElem?_eq_getElem h3
    exact h.1 i j _ _ (k_wd_at (σ := σ) e1) (k_wd_at (σ := σ) e2) (by rw [← h2, ← h4]; exact hpq)
  · obtain ⟨h1, h2⟩ := k_wd_lt hk
    rw [h2]
    exact hB k h1
/-! the locals -/
def k_ok1 (lv : List (Option Value)) (i : Nat) : Bool := match i with
  | 0 => true
  | k + 1 => match lv[k]? with
    | some (some v) => v.category == 1
    | _ => true
def k_ll (ad : Nat → Nat) (lv : List (Option Value)) : List (Nat × Value) := (List.range lv.length).filterMap fun i => match lv[i]? with
  | some (some v) => some (i, k_cv ad v)
  | _ => none
theorem k_ll_mem {ad : Nat → Nat} {lv : List (Option Value)} {i : Nat} {v : Value} (h : lv[i]? = some (some v)) : (i, k_cv ad v) ∈ k_ll ad lv := by
  refine List.mem_filterMap.mpr ⟨i, List.mem_range.mpr (List.getElem?_eq_some_iff.mp h).1, ?_⟩
  rw [h]
theorem k_ll_has {ad : Nat → Nat} {ls : Array Slot} {nL : Nat} {lv : List (Option Value)} (h : k_lh ad ls nL lv) : lv_has ls nL (k_ll ad lv) := by
  refine ⟨h.1, h.2.1, fun q hq => ?_⟩
  obtain ⟨i, -, hi⟩ := List.mem_filterMap.mp hq
  cases hc : lv[i]? with
  | none => rw [hc] at hi; cases hi
  | some o =>
    cases o with
    | none => rw [hc] at hi; cases hi
    | some v =>
      rw [hc] at hi
      cases hi
      exact h.2.2 i v hc
theorem k_lh_set1 {ad : Nat → Nat} {ls : Array Slot} {nL i : Nat} {lv : List (Option Value)} {v : Value} (h : lv_has ls nL ((i, k_cv ad v) :: (k_ll ad lv).filter (fun q => !(q.1 == i) && !(q.1 + 1 == i && q.2.category == 2)))) (ok : k_ok1 lv i = true) : k_lh ad ls nL (lv.set i (some v)) := by
  refine ⟨h.1, h.2.1, fun k w hk => ?_⟩
  by_cases hi : k = i
  · subst hi
    have hl : k < (lv.set k (some v)).length := (List.getElem?_eq_some_iff.mp hk).1
    rw [List.getElem?_set_self (by simpa using hl)] at hk
    cases hk
    exact h.2.2 (k, k_cv ad v) List.mem_cons_self
  · rw [List.getElem?_set_ne (Ne.symm hi)] at hk
    refine h.2.2 (k, k_cv ad w) (List.mem_cons_of_mem _ (List.mem_filter.mpr ⟨k_ll_mem hk, ?_⟩))
    simp only [Bool.and_eq_true, Bool.not_eq_true', beq_eq_false_iff_ne, ne_eq, Bool.and_eq_false_iff]
    refine ⟨hi, ?_⟩
    by_cases hk1 : k + 1 = i
    · refine Or.inr ?_
      subst hk1
      simp only [k_ok1, hk, beq_iff_eq] at ok
      rw [k_cv_cat, ok]
      decide
    · exact Or.inl hk1
theorem k_lh_set2 {ad : Nat → Nat} {ls : Array Slot} {nL i : Nat} {lv : List (Option Value)} {v : Value} (h : lv_has ls nL ((i, k_cv ad v) :: (k_ll ad lv).filter (fun q => !(q.1 == i) && (!(q.1 == i + 1) && !(q.1 + 1 == i && q.2.category == 2))))) (ok : k_ok1 lv i = true) : k_lh ad ls nL ((lv.set i (some v)).set (i + 1) none) := by
  refine ⟨h.1, h.2.1, fun k w hk => ?_⟩
  by_cases hi1 : k = i + 1
  · subst hi1
    have hl := (List.getElem?_eq_some_iff.mp hk).1
    rw [List.getElem?_set_self (by simpa using hl)] at hk
    cases hk
  · rw [List.getElem?_set_ne (Ne.symm hi1)] at hk
    by_cases hi : k = i
    · subst hi
      have hl : k < (lv.set k (some v)).length := (List.getElem?_eq_some_iff.mp hk).1
      rw [List.getElem?_set_self (by simpa using hl)] at hk
      cases hk
      exact h.2.2 (k, k_cv ad v) List.mem_cons_self
    · rw [List.getElem?_set_ne (Ne.symm hi)] at hk
      refine h.2.2 (k, k_cv ad w) (List.mem_cons_of_mem _ (List.mem_filter.mpr ⟨k_ll_mem hk, ?_⟩))
      simp only [Bool.and_eq_true, Bool.not_eq_true', beq_eq_false_iff_ne, ne_eq, Bool.and_eq_false_iff]
      refine ⟨hi, hi1, ?_⟩
      by_cases hk1 : k + 1 = i
      · refine Or.inr ?_
        subst hk1
        simp only [k_ok1, hk, beq_iff_eq] at ok
        rw [k_cv_cat, ok]
        decide
      · exact Or.inl hk1
end
