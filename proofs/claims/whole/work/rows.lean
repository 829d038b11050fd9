section
-- ===== PART A: goes FIRST, ahead of the names: the tables' words, and 'selects' of the private methods out of them =====
/-- a private method of a class that the tables say can be made, by its rows of tables_1 -/
def lw_okq (q : MethodName × Nat) : Prop := (q.1.cls ≠ "java/lang/invoke/MethodHandle" ∧ q.1.cls ≠ "java/lang/invoke/VarHandle") ∧ Cond.instantiable q.1.cls q.2 ∈ tables_1 ∧ Cond.privateMethod q.1 ∈ tables_1 ∧ Cond.instanceMethod q.1 ∈ tables_1
theorem lw_p0 : lw_okq (⟨"MissingNote$Tape", "take", "(I)Z"⟩, 3) := ⟨⟨by decide +kernel, by decide +kernel⟩, List.mem_of_getElem? (i := 24) (by decide +kernel), List.mem_of_getElem? (i := 296) (by decide +kernel), List.mem_of_getElem? (i := 297) (by decide +kernel)⟩
theorem lw_p1 : lw_okq (⟨"MissingNote$Tape", "peek", "()I"⟩, 3) := ⟨⟨by decide +kernel, by decide +kernel⟩, List.mem_of_getElem? (i := 24) (by decide +kernel), List.mem_of_getElem? (i := 300) (by decide +kernel), List.mem_of_getElem? (i := 301) (by decide +kernel)⟩
theorem lw_p2 : lw_okq (⟨"MissingNote$Tape", "readShapes", "(LMissingNote$Valley;)Z"⟩, 3) := ⟨⟨by decide +kernel, by decide +kernel⟩, List.mem_of_getElem? (i := 24) (by decide +kernel), List.mem_of_getElem? (i := 304) (by decide +kernel), List.mem_of_getElem? (i := 305) (by decide +kernel)⟩
theorem lw_p3 : lw_okq (⟨"MissingNote$Tape", "readShape", "(LMissingNote$Valley;I)Z"⟩, 3) := ⟨⟨by decide +kernel, by decide +kernel⟩, List.mem_of_getElem? (i := 24) (by decide +kernel), List.mem_of_getElem? (i := 308) (by decide +kernel), List.mem_of_getElem? (i := 309) (by decide +kernel)⟩
theorem lw_p4 : lw_okq (⟨"MissingNote$Tape", "peekPitch", "()I"⟩, 3) := ⟨⟨by decide +kernel, by decide +kernel⟩, List.mem_of_getElem? (i := 24) (by decide +kernel), List.mem_of_getElem? (i := 312) (by decide +kernel), List.mem_of_getElem? (i := 313) (by decide +kernel)⟩
theorem lw_p5 : lw_okq (⟨"MissingNote$Tape", "takeRising", "(I)I"⟩, 3) := ⟨⟨by decide +kernel, by decide +kernel⟩, List.mem_of_getElem? (i := 24) (by decide +kernel), List.mem_of_getElem? (i := 316) (by decide +kernel), List.mem_of_getElem? (i := 317) (by decide +kernel)⟩
theorem lw_p6 : lw_okq (⟨"MissingNote$Tape", "readFields", "(LMissingNote$Valley;)Z"⟩, 3) := ⟨⟨by decide +kernel, by decide +kernel⟩, List.mem_of_getElem? (i := 24) (by decide +kernel), List.mem_of_getElem? (i := 326) (by decide +kernel), List.mem_of_getElem? (i := 327) (by decide +kernel)⟩
theorem lw_p7 : lw_okq (⟨"MissingNote$Tape", "readSingers", "(LMissingNote$Valley;)Z"⟩, 3) := ⟨⟨by decide +kernel, by decide +kernel⟩, List.mem_of_getElem? (i := 24) (by decide +kernel), List.mem_of_getElem? (i := 330) (by decide +kernel), List.mem_of_getElem? (i := 331) (by decide +kernel)⟩
theorem lw_p8 : lw_okq (⟨"MissingNote$Tape", "readKind", "(LMissingNote$Valley;I)Z"⟩, 3) := ⟨⟨by decide +kernel, by decide +kernel⟩, List.mem_of_getElem? (i := 24) (by decide +kernel), List.mem_of_getElem? (i := 334) (by decide +kernel), List.mem_of_getElem? (i := 335) (by decide +kernel)⟩
theorem lw_p9 : lw_okq (⟨"MissingNote$Tape", "readRange", "(LMissingNote$Valley;I)Z"⟩, 3) := ⟨⟨by decide +kernel, by decide +kernel⟩, List.mem_of_getElem? (i := 24) (by decide +kernel), List.mem_of_getElem? (i := 338) (by decide +kernel), List.mem_of_getElem? (i := 339) (by decide +kernel)⟩
theorem lw_p10 : lw_okq (⟨"MissingNote$Tape", "readPlace", "(LMissingNote$Valley;I)Z"⟩, 3) := ⟨⟨by decide +kernel, by decide +kernel⟩, List.mem_of_getElem? (i := 24) (by decide +kernel), List.mem_of_getElem? (i := 342) (by decide +kernel), List.mem_of_getElem? (i := 343) (by decide +kernel)⟩
theorem lw_p11 : lw_okq (⟨"MissingNote", "begin", "(LMissingNote$Valley;)V"⟩, 10) := ⟨⟨by decide +kernel, by decide +kernel⟩, List.mem_of_getElem? (i := 16) (by decide +kernel), List.mem_of_getElem? (i := 347) (by decide +kernel), List.mem_of_getElem? (i := 348) (by decide +kernel)⟩
theorem lw_p12 : lw_okq (⟨"MissingNote$Chords", "learnShape", "(II)V"⟩, 2) := ⟨⟨by decide +kernel, by decide +kernel⟩, List.mem_of_getElem? (i := 141) (by decide +kernel), List.mem_of_getElem? (i := 364) (by decide +kernel), List.mem_of_getElem? (i := 365) (by decide +kernel)⟩
theorem lw_p13 : lw_okq (⟨"MissingNote$Chords", "claimParts", "(I)V"⟩, 2) := ⟨⟨by decide +kernel, by decide +kernel⟩, List.mem_of_getElem? (i := 141) (by decide +kernel), List.mem_of_getElem? (i := 368) (by decide +kernel), List.mem_of_getElem? (i := 369) (by decide +kernel)⟩
theorem lw_p14 : lw_okq (⟨"MissingNote", "isField", "(I)Z"⟩, 10) := ⟨⟨by decide +kernel, by decide +kernel⟩, List.mem_of_getElem? (i := 16) (by decide +kernel), List.mem_of_getElem? (i := 384) (by decide +kernel), List.mem_of_getElem? (i := 385) (by decide +kernel)⟩
theorem lw_p15 : lw_okq (⟨"MissingNote", "tellChord", "(II)I"⟩, 10) := ⟨⟨by decide +kernel, by decide +kernel⟩, List.mem_of_getElem? (i := 16) (by decide +kernel), List.mem_of_getElem? (i := 392) (by decide +kernel), List.mem_of_getElem? (i := 393) (by decide +kernel)⟩
def lw_privs_1 : List (MethodName × Nat) := [(⟨"MissingNote$Tape", "take", "(I)Z"⟩, 3), (⟨"MissingNote$Tape", "peek", "()I"⟩, 3), (⟨"MissingNote$Tape", "readShapes", "(LMissingNote$Valley;)Z"⟩, 3), (⟨"MissingNote$Tape", "readShape", "(LMissingNote$Valley;I)Z"⟩, 3), (⟨"MissingNote$Tape", "peekPitch", "()I"⟩, 3), (⟨"MissingNote$Tape", "takeRising", "(I)I"⟩, 3), (⟨"MissingNote$Tape", "readFields", "(LMissingNote$Valley;)Z"⟩, 3), (⟨"MissingNote$Tape", "readSingers", "(LMissingNote$Valley;)Z"⟩, 3), (⟨"MissingNote$Tape", "readKind", "(LMissingNote$Valley;I)Z"⟩, 3), (⟨"MissingNote$Tape", "readRange", "(LMissingNote$Valley;I)Z"⟩, 3), (⟨"MissingNote$Tape", "readPlace", "(LMissingNote$Valley;I)Z"⟩, 3), (⟨"MissingNote", "begin", "(LMissingNote$Valley;)V"⟩, 10), (⟨"MissingNote$Chords", "learnShape", "(II)V"⟩, 2), (⟨"MissingNote$Chords", "claimParts", "(I)V"⟩, 2), (⟨"MissingNote", "isField", "(I)Z"⟩, 10), (⟨"MissingNote", "tellChord", "(II)I"⟩, 10)]
theorem lw_r1 : ∀ q ∈ lw_privs_1, lw_okq q := List.forall_mem_cons.mpr ⟨lw_p0, List.forall_mem_cons.mpr ⟨lw_p1, List.forall_mem_cons.mpr ⟨lw_p2, List.forall_mem_cons.mpr ⟨lw_p3, List.forall_mem_cons.mpr ⟨lw_p4, List.forall_mem_cons.mpr ⟨lw_p5, List.forall_mem_cons.mpr ⟨lw_p6, List.forall_mem_cons.mpr ⟨lw_p7, List.forall_mem_cons.mpr ⟨lw_p8, List.forall_mem_cons.mpr ⟨lw_p9, List.forall_mem_cons.mpr ⟨lw_p10, List.forall_mem_cons.mpr ⟨lw_p11, List.forall_mem_cons.mpr ⟨lw_p12, List.forall_mem_cons.mpr ⟨lw_p13, List.forall_mem_cons.mpr ⟨lw_p14, List.forall_mem_cons.mpr ⟨lw_p15, fun _ h => absurd h List.not_mem_nil⟩⟩⟩⟩⟩⟩⟩⟩⟩⟩⟩⟩⟩⟩⟩⟩
theorem lw_p16 : lw_okq (⟨"MissingNote", "isSinger", "(I)Z"⟩, 10) := ⟨⟨by decide +kernel, by decide +kernel⟩, List.mem_of_getElem? (i := 16) (by decide +kernel), List.mem_of_getElem? (i := 416) (by decide +kernel), List.mem_of_getElem? (i := 417) (by decide +kernel)⟩
theorem lw_p17 : lw_okq (⟨"MissingNote$Stations", "weigh", "(LMissingNote$Valley;LMissingNote$Choir;)V"⟩, 6) := ⟨⟨by decide +kernel, by decide +kernel⟩, List.mem_of_getElem? (i := 168) (by decide +kernel), List.mem_of_getElem? (i := 561) (by decide +kernel), List.mem_of_getElem? (i := 562) (by decide +kernel)⟩
theorem lw_p18 : lw_okq (⟨"MissingNote$Stations", "worthOfAll", "()I"⟩, 6) := ⟨⟨by decide +kernel, by decide +kernel⟩, List.mem_of_getElem? (i := 168) (by decide +kernel), List.mem_of_getElem? (i := 574) (by decide +kernel), List.mem_of_getElem? (i := 575) (by decide +kernel)⟩
theorem lw_p19 : lw_okq (⟨"MissingNote$Stations", "turn", "(I)V"⟩, 6) := ⟨⟨by decide +kernel, by decide +kernel⟩, List.mem_of_getElem? (i := 168) (by decide +kernel), List.mem_of_getElem? (i := 579) (by decide +kernel), List.mem_of_getElem? (i := 580) (by decide +kernel)⟩
theorem lw_p20 : lw_okq (⟨"MissingNote", "refusal", "(IIII)I"⟩, 10) := ⟨⟨by decide +kernel, by decide +kernel⟩, List.mem_of_getElem? (i := 16) (by decide +kernel), List.mem_of_getElem? (i := 654) (by decide +kernel), List.mem_of_getElem? (i := 655) (by decide +kernel)⟩
theorem lw_p21 : lw_okq (⟨"MissingNote$Ear", "agrees", "(LMissingNote$Valley;LMissingNote$Choir;II)Z"⟩, 5) := ⟨⟨by decide +kernel, by decide +kernel⟩, List.mem_of_getElem? (i := 193) (by decide +kernel), List.mem_of_getElem? (i := 689) (by decide +kernel), List.mem_of_getElem? (i := 690) (by decide +kernel)⟩
theorem lw_p22 : lw_okq (⟨"MissingNote$Ear", "sort", "(LMissingNote$Valley;LMissingNote$Choir;I)V"⟩, 5) := ⟨⟨by decide +kernel, by decide +kernel⟩, List.mem_of_getElem? (i := 193) (by decide +kernel), List.mem_of_getElem? (i := 698) (by decide +kernel), List.mem_of_getElem? (i := 699) (by decide +kernel)⟩
theorem lw_p23 : lw_okq (⟨"MissingNote", "agrees", "(IILMissingNote$Sheet;II)Z"⟩, 10) := ⟨⟨by decide +kernel, by decide +kernel⟩, List.mem_of_getElem? (i := 16) (by decide +kernel), List.mem_of_getElem? (i := 712) (by decide +kernel), List.mem_of_getElem? (i := 713) (by decide +kernel)⟩
theorem lw_p24 : lw_okq (⟨"MissingNote", "fieldsWithChord", "(Z)I"⟩, 10) := ⟨⟨by decide +kernel, by decide +kernel⟩, List.mem_of_getElem? (i := 16) (by decide +kernel), List.mem_of_getElem? (i := 721) (by decide +kernel), List.mem_of_getElem? (i := 722) (by decide +kernel)⟩
theorem lw_p25 : lw_okq (⟨"MissingNoteModel", "isRead", "()Z"⟩, 19) := ⟨⟨by decide +kernel, by decide +kernel⟩, List.mem_of_getElem? (i := 725) (by decide +kernel), List.mem_of_getElem? (i := 801) (by decide +kernel), List.mem_of_getElem? (i := 802) (by decide +kernel)⟩
theorem lw_p26 : lw_okq (⟨"MissingNoteModel", "isSign", "(I)Z"⟩, 19) := ⟨⟨by decide +kernel, by decide +kernel⟩, List.mem_of_getElem? (i := 725) (by decide +kernel), List.mem_of_getElem? (i := 805) (by decide +kernel), List.mem_of_getElem? (i := 806) (by decide +kernel)⟩
theorem lw_p27 : lw_okq (⟨"MissingNoteModel", "peek", "()I"⟩, 19) := ⟨⟨by decide +kernel, by decide +kernel⟩, List.mem_of_getElem? (i := 725) (by decide +kernel), List.mem_of_getElem? (i := 809) (by decide +kernel), List.mem_of_getElem? (i := 810) (by decide +kernel)⟩
theorem lw_p28 : lw_okq (⟨"MissingNoteModel", "isShape", "()Z"⟩, 19) := ⟨⟨by decide +kernel, by decide +kernel⟩, List.mem_of_getElem? (i := 725) (by decide +kernel), List.mem_of_getElem? (i := 813) (by decide +kernel), List.mem_of_getElem? (i := 814) (by decide +kernel)⟩
theorem lw_p29 : lw_okq (⟨"MissingNoteModel", "pitchThere", "()I"⟩, 19) := ⟨⟨by decide +kernel, by decide +kernel⟩, List.mem_of_getElem? (i := 725) (by decide +kernel), List.mem_of_getElem? (i := 817) (by decide +kernel), List.mem_of_getElem? (i := 818) (by decide +kernel)⟩
theorem lw_p30 : lw_okq (⟨"MissingNoteModel", "pitches", "(I)I"⟩, 19) := ⟨⟨by decide +kernel, by decide +kernel⟩, List.mem_of_getElem? (i := 725) (by decide +kernel), List.mem_of_getElem? (i := 821) (by decide +kernel), List.mem_of_getElem? (i := 822) (by decide +kernel)⟩
theorem lw_p31 : lw_okq (⟨"MissingNoteModel", "isFieldItem", "()Z"⟩, 19) := ⟨⟨by decide +kernel, by decide +kernel⟩, List.mem_of_getElem? (i := 725) (by decide +kernel), List.mem_of_getElem? (i := 828) (by decide +kernel), List.mem_of_getElem? (i := 829) (by decide +kernel)⟩
def lw_privs_2 : List (MethodName × Nat) := [(⟨"MissingNote", "isSinger", "(I)Z"⟩, 10), (⟨"MissingNote$Stations", "weigh", "(LMissingNote$Valley;LMissingNote$Choir;)V"⟩, 6), (⟨"MissingNote$Stations", "worthOfAll", "()I"⟩, 6), (⟨"MissingNote$Stations", "turn", "(I)V"⟩, 6), (⟨"MissingNote", "refusal", "(IIII)I"⟩, 10), (⟨"MissingNote$Ear", "agrees", "(LMissingNote$Valley;LMissingNote$Choir;II)Z"⟩, 5), (⟨"MissingNote$Ear", "sort", "(LMissingNote$Valley;LMissingNote$Choir;I)V"⟩, 5), (⟨"MissingNote", "agrees", "(IILMissingNote$Sheet;II)Z"⟩, 10), (⟨"MissingNote", "fieldsWithChord", "(Z)I"⟩, 10), (⟨"MissingNoteModel", "isRead", "()Z"⟩, 19), (⟨"MissingNoteModel", "isSign", "(I)Z"⟩, 19), (⟨"MissingNoteModel", "peek", "()I"⟩, 19), (⟨"MissingNoteModel", "isShape", "()Z"⟩, 19), (⟨"MissingNoteModel", "pitchThere", "()I"⟩, 19), (⟨"MissingNoteModel", "pitches", "(I)I"⟩, 19), (⟨"MissingNoteModel", "isFieldItem", "()Z"⟩, 19)]
theorem lw_r2 : ∀ q ∈ lw_privs_2, lw_okq q := List.forall_mem_cons.mpr ⟨lw_p16, List.forall_mem_cons.mpr ⟨lw_p17, List.forall_mem_cons.mpr ⟨lw_p18, List.forall_mem_cons.mpr ⟨lw_p19, List.forall_mem_cons.mpr ⟨lw_p20, List.forall_mem_cons.mpr ⟨lw_p21, List.forall_mem_cons.mpr ⟨lw_p22, List.forall_mem_cons.mpr ⟨lw_p23, List.forall_mem_cons.mpr ⟨lw_p24, List.forall_mem_cons.mpr ⟨lw_p25, List.forall_mem_cons.mpr ⟨lw_p26, List.forall_mem_cons.mpr ⟨lw_p27, List.forall_mem_cons.mpr ⟨lw_p28, List.forall_mem_cons.mpr ⟨lw_p29, List.forall_mem_cons.mpr ⟨lw_p30, List.forall_mem_cons.mpr ⟨lw_p31, fun _ h => absurd h List.not_mem_nil⟩⟩⟩⟩⟩⟩⟩⟩⟩⟩⟩⟩⟩⟩⟩⟩
theorem lw_p32 : lw_okq (⟨"MissingNoteModel", "isSinger", "()Z"⟩, 19) := ⟨⟨by decide +kernel, by decide +kernel⟩, List.mem_of_getElem? (i := 725) (by decide +kernel), List.mem_of_getElem? (i := 832) (by decide +kernel), List.mem_of_getElem? (i := 833) (by decide +kernel)⟩
theorem lw_p33 : lw_okq (⟨"MissingNoteModel", "isThere", "()Z"⟩, 19) := ⟨⟨by decide +kernel, by decide +kernel⟩, List.mem_of_getElem? (i := 725) (by decide +kernel), List.mem_of_getElem? (i := 850) (by decide +kernel), List.mem_of_getElem? (i := 851) (by decide +kernel)⟩
theorem lw_p34 : lw_okq (⟨"MissingNoteModel", "isField", "(I)Z"⟩, 19) := ⟨⟨by decide +kernel, by decide +kernel⟩, List.mem_of_getElem? (i := 725) (by decide +kernel), List.mem_of_getElem? (i := 867) (by decide +kernel), List.mem_of_getElem? (i := 868) (by decide +kernel)⟩
theorem lw_p35 : lw_okq (⟨"MissingNoteModel", "isOne", "(I)Z"⟩, 19) := ⟨⟨by decide +kernel, by decide +kernel⟩, List.mem_of_getElem? (i := 725) (by decide +kernel), List.mem_of_getElem? (i := 879) (by decide +kernel), List.mem_of_getElem? (i := 880) (by decide +kernel)⟩
theorem lw_p36 : lw_okq (⟨"MissingNoteModel", "note", "()V"⟩, 19) := ⟨⟨by decide +kernel, by decide +kernel⟩, List.mem_of_getElem? (i := 725) (by decide +kernel), List.mem_of_getElem? (i := 891) (by decide +kernel), List.mem_of_getElem? (i := 892) (by decide +kernel)⟩
theorem lw_p37 : lw_okq (⟨"MissingNoteModel", "hourIn", "([I)I"⟩, 19) := ⟨⟨by decide +kernel, by decide +kernel⟩, List.mem_of_getElem? (i := 725) (by decide +kernel), List.mem_of_getElem? (i := 895) (by decide +kernel), List.mem_of_getElem? (i := 896) (by decide +kernel)⟩
theorem lw_p38 : lw_okq (⟨"MissingNoteModel", "singAll", "([I)I"⟩, 19) := ⟨⟨by decide +kernel, by decide +kernel⟩, List.mem_of_getElem? (i := 725) (by decide +kernel), List.mem_of_getElem? (i := 899) (by decide +kernel), List.mem_of_getElem? (i := 900) (by decide +kernel)⟩
theorem lw_p39 : lw_okq (⟨"MissingNoteModel", "hush", "()V"⟩, 19) := ⟨⟨by decide +kernel, by decide +kernel⟩, List.mem_of_getElem? (i := 725) (by decide +kernel), List.mem_of_getElem? (i := 903) (by decide +kernel), List.mem_of_getElem? (i := 904) (by decide +kernel)⟩
theorem lw_p40 : lw_okq (⟨"MissingNoteModel", "singIn", "([III)I"⟩, 19) := ⟨⟨by decide +kernel, by decide +kernel⟩, List.mem_of_getElem? (i := 725) (by decide +kernel), List.mem_of_getElem? (i := 907) (by decide +kernel), List.mem_of_getElem? (i := 908) (by decide +kernel)⟩
theorem lw_p41 : lw_okq (⟨"MissingNoteModel", "begin", "()V"⟩, 19) := ⟨⟨by decide +kernel, by decide +kernel⟩, List.mem_of_getElem? (i := 725) (by decide +kernel), List.mem_of_getElem? (i := 960) (by decide +kernel), List.mem_of_getElem? (i := 961) (by decide +kernel)⟩
theorem lw_p42 : lw_okq (⟨"MissingNoteModel", "layStands", "()V"⟩, 19) := ⟨⟨by decide +kernel, by decide +kernel⟩, List.mem_of_getElem? (i := 725) (by decide +kernel), List.mem_of_getElem? (i := 975) (by decide +kernel), List.mem_of_getElem? (i := 976) (by decide +kernel)⟩
theorem lw_p43 : lw_okq (⟨"MissingNoteModel", "badRow", "(IIII)I"⟩, 19) := ⟨⟨by decide +kernel, by decide +kernel⟩, List.mem_of_getElem? (i := 725) (by decide +kernel), List.mem_of_getElem? (i := 1021) (by decide +kernel), List.mem_of_getElem? (i := 1022) (by decide +kernel)⟩
theorem lw_p44 : lw_okq (⟨"MissingNoteModel", "areBelow", "(IIII)Z"⟩, 19) := ⟨⟨by decide +kernel, by decide +kernel⟩, List.mem_of_getElem? (i := 725) (by decide +kernel), List.mem_of_getElem? (i := 1043) (by decide +kernel), List.mem_of_getElem? (i := 1044) (by decide +kernel)⟩
theorem lw_p45 : lw_okq (⟨"MissingNoteModel", "layFits", "(II)I"⟩, 19) := ⟨⟨by decide +kernel, by decide +kernel⟩, List.mem_of_getElem? (i := 725) (by decide +kernel), List.mem_of_getElem? (i := 1047) (by decide +kernel), List.mem_of_getElem? (i := 1048) (by decide +kernel)⟩
theorem lw_p46 : lw_okq (⟨"MissingNoteModel", "aloneSings", "(IIII)I"⟩, 19) := ⟨⟨by decide +kernel, by decide +kernel⟩, List.mem_of_getElem? (i := 725) (by decide +kernel), List.mem_of_getElem? (i := 1051) (by decide +kernel), List.mem_of_getElem? (i := 1052) (by decide +kernel)⟩
theorem lw_p47 : lw_okq (⟨"MissingNoteModel", "leastFit", "()I"⟩, 19) := ⟨⟨by decide +kernel, by decide +kernel⟩, List.mem_of_getElem? (i := 725) (by decide +kernel), List.mem_of_getElem? (i := 1055) (by decide +kernel), List.mem_of_getElem? (i := 1056) (by decide +kernel)⟩
def lw_privs_3 : List (MethodName × Nat) := [(⟨"MissingNoteModel", "isSinger", "()Z"⟩, 19), (⟨"MissingNoteModel", "isThere", "()Z"⟩, 19), (⟨"MissingNoteModel", "isField", "(I)Z"⟩, 19), (⟨"MissingNoteModel", "isOne", "(I)Z"⟩, 19), (⟨"MissingNoteModel", "note", "()V"⟩, 19), (⟨"MissingNoteModel", "hourIn", "([I)I"⟩, 19), (⟨"MissingNoteModel", "singAll", "([I)I"⟩, 19), (⟨"MissingNoteModel", "hush", "()V"⟩, 19), (⟨"MissingNoteModel", "singIn", "([III)I"⟩, 19), (⟨"MissingNoteModel", "begin", "()V"⟩, 19), (⟨"MissingNoteModel", "layStands", "()V"⟩, 19), (⟨"MissingNoteModel", "badRow", "(IIII)I"⟩, 19), (⟨"MissingNoteModel", "areBelow", "(IIII)Z"⟩, 19), (⟨"MissingNoteModel", "layFits", "(II)I"⟩, 19), (⟨"MissingNoteModel", "aloneSings", "(IIII)I"⟩, 19), (⟨"MissingNoteModel", "leastFit", "()I"⟩, 19)]
theorem lw_r3 : ∀ q ∈ lw_privs_3, lw_okq q := List.forall_mem_cons.mpr ⟨lw_p32, List.forall_mem_cons.mpr ⟨lw_p33, List.forall_mem_cons.mpr ⟨lw_p34, List.forall_mem_cons.mpr ⟨lw_p35, List.forall_mem_cons.mpr ⟨lw_p36, List.forall_mem_cons.mpr ⟨lw_p37, List.forall_mem_cons.mpr ⟨lw_p38, List.forall_mem_cons.mpr ⟨lw_p39, List.forall_mem_cons.mpr ⟨lw_p40, List.forall_mem_cons.mpr ⟨lw_p41, List.forall_mem_cons.mpr ⟨lw_p42, List.forall_mem_cons.mpr ⟨lw_p43, List.forall_mem_cons.mpr ⟨lw_p44, List.forall_mem_cons.mpr ⟨lw_p45, List.forall_mem_cons.mpr ⟨lw_p46, List.forall_mem_cons.mpr ⟨lw_p47, fun _ h => absurd h List.not_mem_nil⟩⟩⟩⟩⟩⟩⟩⟩⟩⟩⟩⟩⟩⟩⟩⟩
theorem lw_p48 : lw_okq (⟨"MissingNoteModel", "bestHeard", "()I"⟩, 19) := ⟨⟨by decide +kernel, by decide +kernel⟩, List.mem_of_getElem? (i := 725) (by decide +kernel), List.mem_of_getElem? (i := 1059) (by decide +kernel), List.mem_of_getElem? (i := 1060) (by decide +kernel)⟩
theorem lw_p49 : lw_okq (⟨"MissingNoteModel", "fieldsWith", "(Z)I"⟩, 19) := ⟨⟨by decide +kernel, by decide +kernel⟩, List.mem_of_getElem? (i := 725) (by decide +kernel), List.mem_of_getElem? (i := 1071) (by decide +kernel), List.mem_of_getElem? (i := 1072) (by decide +kernel)⟩
def lw_privs_4 : List (MethodName × Nat) := [(⟨"MissingNoteModel", "bestHeard", "()I"⟩, 19), (⟨"MissingNoteModel", "fieldsWith", "(Z)I"⟩, 19)]
theorem lw_r4 : ∀ q ∈ lw_privs_4, lw_okq q := List.forall_mem_cons.mpr ⟨lw_p48, List.forall_mem_cons.mpr ⟨lw_p49, fun _ h => absurd h List.not_mem_nil⟩⟩
def lw_privs : List (MethodName × Nat) := lw_privs_1 ++ (lw_privs_2 ++ (lw_privs_3 ++ (lw_privs_4)))
def lw_tbl : List Cond := k2_sels lw_privs ++ tables_1
theorem lw_privs_ok : ∀ q ∈ lw_privs, lw_okq q := by
  show ∀ q ∈ lw_privs_1 ++ (lw_privs_2 ++ (lw_privs_3 ++ (lw_privs_4))), lw_okq q
  exact List.forall_mem_append.mpr ⟨lw_r1, List.forall_mem_append.mpr ⟨lw_r2, List.forall_mem_append.mpr ⟨lw_r3, lw_r4⟩⟩⟩
-- ===== end of PART A; then your names; then what follows =====
end
section
def RX0 : String := "MissingNote$Acts"
def TX0 : u_T := fun k => match k with
  | 0 => ("MissingNote$Acts", "size", "I", false)
  | 1 => ("MissingNote$Acts", "next", "I", false)
  | 2 => ("MissingNote$Acts", "act", "[I", true)
  | 3 => ("MissingNote$Acts", "of", "[I", true)
  | _ => ("MissingNote$Acts", "was", "[I", true)
def tyX0 : Nat → FieldType := fun k => match k with
  | 0 => .int
  | 1 => .int
  | 2 => .array .int
  | 3 => .array .int
  | _ => .array .int
theorem nmX0 : ∀ a, a < 5 → ∀ b, b < 5 → a ≠ b → (TX0 a).2.1 ≠ (TX0 b).2.1 := by decide +kernel
theorem tyX0_ok : ∀ k, k < 5 → parseFieldDescriptor (TX0 k).2.2.1 = some (tyX0 k) := by decide +kernel
abbrev cX0_init : ByteArray := prog_2_method_1_code
def yX0_init : MethodName := ⟨RX0, "<init>", "()V"⟩
abbrev cX0_forget : ByteArray := prog_2_method_2_code
def yX0_forget : MethodName := ⟨RX0, "forget", "()V"⟩
abbrev cX0_keep : ByteArray := prog_2_method_3_code
def yX0_keep : MethodName := ⟨RX0, "keep", "(III)V"⟩
abbrev cX0_takeBack : ByteArray := prog_2_method_4_code
def yX0_takeBack : MethodName := ⟨RX0, "takeBack", "(LMissingNote$Valley;)V"⟩
def RX1 : String := "MissingNote$Choir"
def TX1 : u_T := fun k => match k with
  | 0 => ("MissingNote$Choir", "song", "[I", true)
  | _ => ("MissingNote$Choir", "chords", "LMissingNote$Chords;", true)
def tyX1 : Nat → FieldType := fun k => match k with
  | 0 => .array .int
  | _ => .object "MissingNote$Chords"
theorem nmX1 : ∀ a, a < 2 → ∀ b, b < 2 → a ≠ b → (TX1 a).2.1 ≠ (TX1 b).2.1 := by decide +kernel
theorem tyX1_ok : ∀ k, k < 2 → parseFieldDescriptor (TX1 k).2.2.1 = some (tyX1 k) := by decide +kernel
abbrev cX1_init : ByteArray := prog_3_method_1_code
def yX1_init : MethodName := ⟨RX1, "<init>", "(LMissingNote$Chords;)V"⟩
abbrev cX1_sing : ByteArray := prog_3_method_2_code
def yX1_sing : MethodName := ⟨RX1, "sing", "(LMissingNote$Valley;II)Z"⟩
abbrev cX1_singAll : ByteArray := prog_3_method_3_code
def yX1_singAll : MethodName := ⟨RX1, "singAll", "(LMissingNote$Valley;)I"⟩
abbrev cX1_passHour : ByteArray := prog_3_method_4_code
def yX1_passHour : MethodName := ⟨RX1, "passHour", "(LMissingNote$Valley;)I"⟩
abbrev cX1_effortOf : ByteArray := prog_3_method_5_code
def yX1_effortOf : MethodName := ⟨RX1, "effortOf", "(LMissingNote$Valley;I)I"⟩
abbrev cX1_alone : ByteArray := prog_3_method_6_code
def yX1_alone : MethodName := ⟨RX1, "alone", "(III)I"⟩
abbrev cX1_choose : ByteArray := prog_3_method_7_code
def yX1_choose : MethodName := ⟨RX1, "choose", "(III)I"⟩
abbrev cX1_firstOf : ByteArray := prog_3_method_8_code
def yX1_firstOf : MethodName := ⟨RX1, "firstOf", "(IIII)I"⟩
abbrev cX1_above : ByteArray := prog_3_method_9_code
def yX1_above : MethodName := ⟨RX1, "above", "(II)I"⟩
abbrev cX1_least : ByteArray := prog_3_method_10_code
def yX1_least : MethodName := ⟨RX1, "least", "(I)I"⟩
abbrev cX1_greatest : ByteArray := prog_3_method_11_code
def yX1_greatest : MethodName := ⟨RX1, "greatest", "(I)I"⟩
def RX2 : String := "MissingNote$Chords"
def TX2 : u_T := fun k => match k with
  | 0 => ("MissingNote$Chords", "notes", "[I", true)
  | _ => ("MissingNote$Chords", "best", "[I", true)
def tyX2 : Nat → FieldType := fun k => match k with
  | 0 => .array .int
  | _ => .array .int
theorem nmX2 : ∀ a, a < 2 → ∀ b, b < 2 → a ≠ b → (TX2 a).2.1 ≠ (TX2 b).2.1 := by decide +kernel
theorem tyX2_ok : ∀ k, k < 2 → parseFieldDescriptor (TX2 k).2.2.1 = some (tyX2 k) := by decide +kernel
abbrev cX2_init : ByteArray := prog_4_method_1_code
def yX2_init : MethodName := ⟨RX2, "<init>", "()V"⟩
abbrev cX2_learn : ByteArray := prog_4_method_2_code
def yX2_learn : MethodName := ⟨RX2, "learn", "(LMissingNote$Valley;)V"⟩
abbrev cX2_learnShape : ByteArray := prog_4_method_3_code
def yX2_learnShape : MethodName := ⟨RX2, "learnShape", "(II)V"⟩
abbrev cX2_claimParts : ByteArray := prog_4_method_4_code
def yX2_claimParts : MethodName := ⟨RX2, "claimParts", "(I)V"⟩
abbrev cX2_isThere : ByteArray := prog_4_method_5_code
def yX2_isThere : MethodName := ⟨RX2, "isThere", "(I)Z"⟩
abbrev cX2_shapeOf : ByteArray := prog_4_method_6_code
def yX2_shapeOf : MethodName := ⟨RX2, "shapeOf", "(I)I"⟩
abbrev cX2_rootOf : ByteArray := prog_4_method_7_code
def yX2_rootOf : MethodName := ⟨RX2, "rootOf", "(I)I"⟩
abbrev cX2_missingOf : ByteArray := prog_4_method_8_code
def yX2_missingOf : MethodName := ⟨RX2, "missingOf", "(I)I"⟩
def RX3 : String := "MissingNote$Ear"
def TX3 : u_T := fun k => match k with
  | 0 => ("MissingNote$Ear", "found", "I", false)
  | 1 => ("MissingNote$Ear", "least", "I", false)
  | 2 => ("MissingNote$Ear", "who", "[I", true)
  | 3 => ("MissingNote$Ear", "sang", "[I", true)
  | _ => ("MissingNote$Ear", "parts", "[I", true)
def tyX3 : Nat → FieldType := fun k => match k with
  | 0 => .int
  | 1 => .int
  | 2 => .array .int
  | 3 => .array .int
  | _ => .array .int
theorem nmX3 : ∀ a, a < 5 → ∀ b, b < 5 → a ≠ b → (TX3 a).2.1 ≠ (TX3 b).2.1 := by decide +kernel
theorem tyX3_ok : ∀ k, k < 5 → parseFieldDescriptor (TX3 k).2.2.1 = some (tyX3 k) := by decide +kernel
abbrev cX3_init : ByteArray := prog_5_method_1_code
def yX3_init : MethodName := ⟨RX3, "<init>", "()V"⟩
abbrev cX3_listen : ByteArray := prog_5_method_2_code
def yX3_listen : MethodName := ⟨RX3, "listen", "(LMissingNote$Valley;LMissingNote$Choir;LMissingNote$Sheet;II)V"⟩
abbrev cX3_bestToHear : ByteArray := prog_5_method_3_code
def yX3_bestToHear : MethodName := ⟨RX3, "bestToHear", "(I)I"⟩
abbrev cX3_agrees : ByteArray := prog_5_method_4_code
def yX3_agrees : MethodName := ⟨RX3, "agrees", "(LMissingNote$Valley;LMissingNote$Choir;II)Z"⟩
abbrev cX3_sort : ByteArray := prog_5_method_5_code
def yX3_sort : MethodName := ⟨RX3, "sort", "(LMissingNote$Valley;LMissingNote$Choir;I)V"⟩
def RX4 : String := "MissingNote$Sheet"
def TX4 : u_T := fun k => match k with
  | 0 => ("MissingNote$Sheet", "lane", "I", false)
  | 1 => ("MissingNote$Sheet", "size", "I", false)
  | _ => ("MissingNote$Sheet", "items", "[J", true)
def tyX4 : Nat → FieldType := fun k => match k with
  | 0 => .int
  | 1 => .int
  | _ => .array .long
theorem nmX4 : ∀ a, a < 3 → ∀ b, b < 3 → a ≠ b → (TX4 a).2.1 ≠ (TX4 b).2.1 := by decide +kernel
theorem tyX4_ok : ∀ k, k < 3 → parseFieldDescriptor (TX4 k).2.2.1 = some (tyX4 k) := by decide +kernel
abbrev cX4_init : ByteArray := prog_6_method_1_code
def yX4_init : MethodName := ⟨RX4, "<init>", "()V"⟩
abbrev cX4_isThere : ByteArray := prog_6_method_2_code
def yX4_isThere : MethodName := ⟨RX4, "isThere", "()Z"⟩
abbrev cX4_begin : ByteArray := prog_6_method_3_code
def yX4_begin : MethodName := ⟨RX4, "begin", "(II)V"⟩
abbrev cX4_end : ByteArray := prog_6_method_4_code
def yX4_end : MethodName := ⟨RX4, "end", "()V"⟩
abbrev cX4_holds : ByteArray := prog_6_method_5_code
def yX4_holds : MethodName := ⟨RX4, "holds", "(II)Z"⟩
abbrev cX4_holdsPairs : ByteArray := prog_6_method_6_code
def yX4_holdsPairs : MethodName := ⟨RX4, "holdsPairs", "(III)Z"⟩
abbrev cX4_put : ByteArray := prog_6_method_7_code
def yX4_put : MethodName := ⟨RX4, "put", "(IJ)V"⟩
def RX5 : String := "MissingNote$Stations"
def TX5 : u_T := fun k => match k with
  | 0 => ("MissingNote$Stations", "worth", "[I", true)
  | 1 => ("MissingNote$Stations", "at", "[I", true)
  | 2 => ("MissingNote$Stations", "crowd", "[I", true)
  | 3 => ("MissingNote$Stations", "bestAt", "[I", true)
  | 4 => ("MissingNote$Stations", "bestWorth", "I", false)
  | _ => ("MissingNote$Stations", "home", "I", false)
def tyX5 : Nat → FieldType := fun k => match k with
  | 0 => .array .int
  | 1 => .array .int
  | 2 => .array .int
  | 3 => .array .int
  | 4 => .int
  | _ => .int
theorem nmX5 : ∀ a, a < 6 → ∀ b, b < 6 → a ≠ b → (TX5 a).2.1 ≠ (TX5 b).2.1 := by decide +kernel
theorem tyX5_ok : ∀ k, k < 6 → parseFieldDescriptor (TX5 k).2.2.1 = some (tyX5 k) := by decide +kernel
abbrev cX5_init : ByteArray := prog_7_method_1_code
def yX5_init : MethodName := ⟨RX5, "<init>", "()V"⟩
abbrev cX5_find : ByteArray := prog_7_method_2_code
def yX5_find : MethodName := ⟨RX5, "find", "(LMissingNote$Valley;LMissingNote$Choir;)V"⟩
abbrev cX5_fullFields : ByteArray := prog_7_method_3_code
def yX5_fullFields : MethodName := ⟨RX5, "fullFields", "()I"⟩
abbrev cX5_bestPlace : ByteArray := prog_7_method_4_code
def yX5_bestPlace : MethodName := ⟨RX5, "bestPlace", "(I)I"⟩
abbrev cX5_weigh : ByteArray := prog_7_method_5_code
def yX5_weigh : MethodName := ⟨RX5, "weigh", "(LMissingNote$Valley;LMissingNote$Choir;)V"⟩
abbrev cX5_worthOfAll : ByteArray := prog_7_method_6_code
def yX5_worthOfAll : MethodName := ⟨RX5, "worthOfAll", "()I"⟩
abbrev cX5_turn : ByteArray := prog_7_method_7_code
def yX5_turn : MethodName := ⟨RX5, "turn", "(I)V"⟩
def RX6 : String := "MissingNote$Tape"
def TX6 : u_T := fun k => match k with
  | 0 => ("MissingNote$Tape", "bytes", "[I", true)
  | 1 => ("MissingNote$Tape", "size", "I", false)
  | _ => ("MissingNote$Tape", "place", "I", false)
def tyX6 : Nat → FieldType := fun k => match k with
  | 0 => .array .int
  | 1 => .int
  | _ => .int
theorem nmX6 : ∀ a, a < 3 → ∀ b, b < 3 → a ≠ b → (TX6 a).2.1 ≠ (TX6 b).2.1 := by decide +kernel
theorem tyX6_ok : ∀ k, k < 3 → parseFieldDescriptor (TX6 k).2.2.1 = some (tyX6 k) := by decide +kernel
abbrev cX6_init : ByteArray := prog_8_method_1_code
def yX6_init : MethodName := ⟨RX6, "<init>", "()V"⟩
abbrev cX6_put : ByteArray := prog_8_method_2_code
def yX6_put : MethodName := ⟨RX6, "put", "(I)I"⟩
abbrev cX6_readValley : ByteArray := prog_8_method_3_code
def yX6_readValley : MethodName := ⟨RX6, "readValley", "(LMissingNote$Valley;)Z"⟩
abbrev cX6_peek : ByteArray := prog_8_method_4_code
def yX6_peek : MethodName := ⟨RX6, "peek", "()I"⟩
abbrev cX6_take : ByteArray := prog_8_method_5_code
def yX6_take : MethodName := ⟨RX6, "take", "(I)Z"⟩
abbrev cX6_peekPitch : ByteArray := prog_8_method_6_code
def yX6_peekPitch : MethodName := ⟨RX6, "peekPitch", "()I"⟩
abbrev cX6_takeRising : ByteArray := prog_8_method_7_code
def yX6_takeRising : MethodName := ⟨RX6, "takeRising", "(I)I"⟩
abbrev cX6_readShapes : ByteArray := prog_8_method_8_code
def yX6_readShapes : MethodName := ⟨RX6, "readShapes", "(LMissingNote$Valley;)Z"⟩
abbrev cX6_readShape : ByteArray := prog_8_method_9_code
def yX6_readShape : MethodName := ⟨RX6, "readShape", "(LMissingNote$Valley;I)Z"⟩
abbrev cX6_readFields : ByteArray := prog_8_method_10_code
def yX6_readFields : MethodName := ⟨RX6, "readFields", "(LMissingNote$Valley;)Z"⟩
abbrev cX6_readSingers : ByteArray := prog_8_method_11_code
def yX6_readSingers : MethodName := ⟨RX6, "readSingers", "(LMissingNote$Valley;)Z"⟩
abbrev cX6_readKind : ByteArray := prog_8_method_12_code
def yX6_readKind : MethodName := ⟨RX6, "readKind", "(LMissingNote$Valley;I)Z"⟩
abbrev cX6_readRange : ByteArray := prog_8_method_13_code
def yX6_readRange : MethodName := ⟨RX6, "readRange", "(LMissingNote$Valley;I)Z"⟩
abbrev cX6_readPlace : ByteArray := prog_8_method_14_code
def yX6_readPlace : MethodName := ⟨RX6, "readPlace", "(LMissingNote$Valley;I)Z"⟩
def RX7 : String := "MissingNote$Valley"
def TX7 : u_T := fun k => match k with
  | 0 => ("MissingNote$Valley", "shapeCount", "I", false)
  | 1 => ("MissingNote$Valley", "fieldCount", "I", false)
  | 2 => ("MissingNote$Valley", "singerCount", "I", false)
  | 3 => ("MissingNote$Valley", "hour", "I", false)
  | 4 => ("MissingNote$Valley", "shapes", "[I", true)
  | 5 => ("MissingNote$Valley", "sounds", "[I", true)
  | 6 => ("MissingNote$Valley", "kind", "[I", true)
  | 7 => ("MissingNote$Valley", "low", "[I", true)
  | 8 => ("MissingNote$Valley", "high", "[I", true)
  | 9 => ("MissingNote$Valley", "place", "[I", true)
  | _ => ("MissingNote$Valley", "tired", "[I", true)
def tyX7 : Nat → FieldType := fun k => match k with
  | 0 => .int
  | 1 => .int
  | 2 => .int
  | 3 => .int
  | 4 => .array .int
  | 5 => .array .int
  | 6 => .array .int
  | 7 => .array .int
  | 8 => .array .int
  | 9 => .array .int
  | _ => .array .int
theorem nmX7 : ∀ a, a < 11 → ∀ b, b < 11 → a ≠ b → (TX7 a).2.1 ≠ (TX7 b).2.1 := by decide +kernel
theorem tyX7_ok : ∀ k, k < 11 → parseFieldDescriptor (TX7 k).2.2.1 = some (tyX7 k) := by decide +kernel
abbrev cX7_init : ByteArray := prog_9_method_1_code
def yX7_init : MethodName := ⟨RX7, "<init>", "()V"⟩
abbrev cX7_isThere : ByteArray := prog_9_method_2_code
def yX7_isThere : MethodName := ⟨RX7, "isThere", "()Z"⟩
abbrev cX7_clear : ByteArray := prog_9_method_3_code
def yX7_clear : MethodName := ⟨RX7, "clear", "()V"⟩
abbrev cX7_become : ByteArray := prog_9_method_4_code
def yX7_become : MethodName := ⟨RX7, "become", "(LMissingNote$Valley;)V"⟩
abbrev cX7_turnPitch : ByteArray := prog_9_method_5_code
def yX7_turnPitch : MethodName := ⟨RX7, "turnPitch", "(II)V"⟩
abbrev cX7_disturb : ByteArray := prog_9_method_6_code
def yX7_disturb : MethodName := ⟨RX7, "disturb", "(J)V"⟩
abbrev cX7_range : ByteArray := prog_9_method_7_code
def yX7_range : MethodName := ⟨RX7, "range", "(I)I"⟩
abbrev cX7_standing : ByteArray := prog_9_method_8_code
def yX7_standing : MethodName := ⟨RX7, "standing", "(I)I"⟩
abbrev cX7_rested : ByteArray := prog_9_method_9_code
def yX7_rested : MethodName := ⟨RX7, "rested", "()I"⟩
abbrev cX7_tiredInAll : ByteArray := prog_9_method_10_code
def yX7_tiredInAll : MethodName := ⟨RX7, "tiredInAll", "()I"⟩
abbrev cX7_packTired : ByteArray := prog_9_method_11_code
def yX7_packTired : MethodName := ⟨RX7, "packTired", "()I"⟩
abbrev cX7_unpackTired : ByteArray := prog_9_method_12_code
def yX7_unpackTired : MethodName := ⟨RX7, "unpackTired", "(I)V"⟩
def RX8 : String := "MissingNote"
def TX8 : u_T := fun k => match k with
  | 0 => ("MissingNote", "tape", "LMissingNote$Tape;", true)
  | 1 => ("MissingNote", "now", "LMissingNote$Valley;", true)
  | 2 => ("MissingNote", "draft", "LMissingNote$Valley;", true)
  | 3 => ("MissingNote", "images", "[LMissingNote$Valley;", true)
  | 4 => ("MissingNote", "acts", "LMissingNote$Acts;", true)
  | 5 => ("MissingNote", "chords", "LMissingNote$Chords;", true)
  | 6 => ("MissingNote", "choir", "LMissingNote$Choir;", true)
  | 7 => ("MissingNote", "stations", "LMissingNote$Stations;", true)
  | 8 => ("MissingNote", "ear", "LMissingNote$Ear;", true)
  | _ => ("MissingNote", "sheets", "[LMissingNote$Sheet;", true)
def tyX8 : Nat → FieldType := fun k => match k with
  | 0 => .object "MissingNote$Tape"
  | 1 => .object "MissingNote$Valley"
  | 2 => .object "MissingNote$Valley"
  | 3 => .array (.object "MissingNote$Valley")
  | 4 => .object "MissingNote$Acts"
  | 5 => .object "MissingNote$Chords"
  | 6 => .object "MissingNote$Choir"
  | 7 => .object "MissingNote$Stations"
  | 8 => .object "MissingNote$Ear"
  | _ => .array (.object "MissingNote$Sheet")
theorem nmX8 : ∀ a, a < 10 → ∀ b, b < 10 → a ≠ b → (TX8 a).2.1 ≠ (TX8 b).2.1 := by decide +kernel
theorem tyX8_ok : ∀ k, k < 10 → parseFieldDescriptor (TX8 k).2.2.1 = some (tyX8 k) := by decide +kernel
abbrev cX8_init : ByteArray := prog_1_method_1_code
def yX8_init : MethodName := ⟨RX8, "<init>", "()V"⟩
abbrev cX8_feed : ByteArray := prog_1_method_2_code
def yX8_feed : MethodName := ⟨RX8, "feed", "(I)I"⟩
abbrev cX8_valley : ByteArray := prog_1_method_3_code
def yX8_valley : MethodName := ⟨RX8, "valley", "()I"⟩
abbrev cX8_shape : ByteArray := prog_1_method_4_code
def yX8_shape : MethodName := ⟨RX8, "shape", "(I)I"⟩
abbrev cX8_field : ByteArray := prog_1_method_5_code
def yX8_field : MethodName := ⟨RX8, "field", "(II)I"⟩
abbrev cX8_singer : ByteArray := prog_1_method_6_code
def yX8_singer : MethodName := ⟨RX8, "singer", "(II)I"⟩
abbrev cX8_as : ByteArray := prog_1_method_7_code
def yX8_as : MethodName := ⟨RX8, "as", "(II)I"⟩
abbrev cX8_chord : ByteArray := prog_1_method_8_code
def yX8_chord : MethodName := ⟨RX8, "chord", "(II)I"⟩
abbrev cX8_hour : ByteArray := prog_1_method_9_code
def yX8_hour : MethodName := ⟨RX8, "hour", "()I"⟩
abbrev cX8_send : ByteArray := prog_1_method_10_code
def yX8_send : MethodName := ⟨RX8, "send", "(II)I"⟩
abbrev cX8_sound : ByteArray := prog_1_method_11_code
def yX8_sound : MethodName := ⟨RX8, "sound", "(II)I"⟩
abbrev cX8_undo : ByteArray := prog_1_method_12_code
def yX8_undo : MethodName := ⟨RX8, "undo", "()I"⟩
abbrev cX8_image : ByteArray := prog_1_method_13_code
def yX8_image : MethodName := ⟨RX8, "image", "(I)I"⟩
abbrev cX8_restore : ByteArray := prog_1_method_14_code
def yX8_restore : MethodName := ⟨RX8, "restore", "(I)I"⟩
abbrev cX8_sings : ByteArray := prog_1_method_15_code
def yX8_sings : MethodName := ⟨RX8, "sings", "(I)I"⟩
abbrev cX8_ahead : ByteArray := prog_1_method_16_code
def yX8_ahead : MethodName := ⟨RX8, "ahead", "(II)I"⟩
abbrev cX8_fills : ByteArray := prog_1_method_17_code
def yX8_fills : MethodName := ⟨RX8, "fills", "(I)I"⟩
abbrev cX8_stands : ByteArray := prog_1_method_18_code
def yX8_stands : MethodName := ⟨RX8, "stands", "(I)I"⟩
abbrev cX8_howls : ByteArray := prog_1_method_19_code
def yX8_howls : MethodName := ⟨RX8, "howls", "(I)I"⟩
abbrev cX8_back : ByteArray := prog_1_method_20_code
def yX8_back : MethodName := ⟨RX8, "back", "(I)I"⟩
abbrev cX8_wind : ByteArray := prog_1_method_21_code
def yX8_wind : MethodName := ⟨RX8, "wind", "(III)I"⟩
abbrev cX8_decades : ByteArray := prog_1_method_22_code
def yX8_decades : MethodName := ⟨RX8, "decades", "(III)I"⟩
abbrev cX8_sheet : ByteArray := prog_1_method_23_code
def yX8_sheet : MethodName := ⟨RX8, "sheet", "(III)I"⟩
abbrev cX8_drop : ByteArray := prog_1_method_24_code
def yX8_drop : MethodName := ⟨RX8, "drop", "(I)I"⟩
abbrev cX8_item : ByteArray := prog_1_method_25_code
def yX8_item : MethodName := ⟨RX8, "item", "(IIIJ)J"⟩
abbrev cX8_copy : ByteArray := prog_1_method_26_code
def yX8_copy : MethodName := ⟨RX8, "copy", "(IIIII)I"⟩
abbrev cX8_log : ByteArray := prog_1_method_27_code
def yX8_log : MethodName := ⟨RX8, "log", "(III)I"⟩
abbrev cX8_sounded : ByteArray := prog_1_method_28_code
def yX8_sounded : MethodName := ⟨RX8, "sounded", "(IIIII)I"⟩
abbrev cX8_kinds : ByteArray := prog_1_method_29_code
def yX8_kinds : MethodName := ⟨RX8, "kinds", "(IIIII)I"⟩
abbrev cX8_count : ByteArray := prog_1_method_30_code
def yX8_count : MethodName := ⟨RX8, "count", "(I)I"⟩
abbrev cX8_within : ByteArray := prog_1_method_31_code
def yX8_within : MethodName := ⟨RX8, "within", "(II)Z"⟩
abbrev cX8_has : ByteArray := prog_1_method_32_code
def yX8_has : MethodName := ⟨RX8, "has", "(II)Z"⟩
abbrev cX8_isField : ByteArray := prog_1_method_33_code
def yX8_isField : MethodName := ⟨RX8, "isField", "(I)Z"⟩
abbrev cX8_isSinger : ByteArray := prog_1_method_34_code
def yX8_isSinger : MethodName := ⟨RX8, "isSinger", "(I)Z"⟩
abbrev cX8_tellPlace : ByteArray := prog_1_method_35_code
def yX8_tellPlace : MethodName := ⟨RX8, "tellPlace", "(I)I"⟩
abbrev cX8_tellChord : ByteArray := prog_1_method_36_code
def yX8_tellChord : MethodName := ⟨RX8, "tellChord", "(II)I"⟩
abbrev cX8_begin : ByteArray := prog_1_method_37_code
def yX8_begin : MethodName := ⟨RX8, "begin", "(LMissingNote$Valley;)V"⟩
abbrev cX8_fieldsWithChord : ByteArray := prog_1_method_38_code
def yX8_fieldsWithChord : MethodName := ⟨RX8, "fieldsWithChord", "(Z)I"⟩
abbrev cX8_power : ByteArray := prog_1_method_39_code
def yX8_power : MethodName := ⟨RX8, "power", "(II)I"⟩
abbrev cX8_sharedDivisor : ByteArray := prog_1_method_40_code
def yX8_sharedDivisor : MethodName := ⟨RX8, "sharedDivisor", "(II)I"⟩
abbrev cX8_refusal : ByteArray := prog_1_method_41_code
def yX8_refusal : MethodName := ⟨RX8, "refusal", "(IIII)I"⟩
abbrev cX8_agrees : ByteArray := prog_1_method_42_code
def yX8_agrees : MethodName := ⟨RX8, "agrees", "(IILMissingNote$Sheet;II)Z"⟩
def RX9 : String := "MissingNoteModel"
def TX9 : u_T := fun k => match k with
  | 0 => ("MissingNoteModel", "lane", "[I", true)
  | 1 => ("MissingNoteModel", "size", "[I", true)
  | 2 => ("MissingNoteModel", "item", "[J", true)
  | 3 => ("MissingNoteModel", "letters", "I", false)
  | 4 => ("MissingNoteModel", "tape", "[I", true)
  | 5 => ("MissingNoteModel", "position", "I", false)
  | 6 => ("MissingNoteModel", "now", "[I", true)
  | 7 => ("MissingNoteModel", "read", "[I", true)
  | 8 => ("MissingNoteModel", "tried", "[I", true)
  | 9 => ("MissingNoteModel", "image", "[I", true)
  | 10 => ("MissingNoteModel", "isKept", "[Z", true)
  | 11 => ("MissingNoteModel", "actOf", "[I", true)
  | 12 => ("MissingNoteModel", "acts", "I", false)
  | 13 => ("MissingNoteModel", "sung", "[I", true)
  | 14 => ("MissingNoteModel", "best", "[I", true)
  | 15 => ("MissingNoteModel", "bestFull", "I", false)
  | 16 => ("MissingNoteModel", "bestTired", "I", false)
  | 17 => ("MissingNoteModel", "often", "[I", true)
  | _ => ("MissingNoteModel", "fits", "[Z", true)
def tyX9 : Nat → FieldType := fun k => match k with
  | 0 => .array .int
  | 1 => .array .int
  | 2 => .array .long
  | 3 => .int
  | 4 => .array .int
  | 5 => .int
  | 6 => .array .int
  | 7 => .array .int
  | 8 => .array .int
  | 9 => .array .int
  | 10 => .array .boolean
  | 11 => .array .int
  | 12 => .int
  | 13 => .array .int
  | 14 => .array .int
  | 15 => .int
  | 16 => .int
  | 17 => .array .int
  | _ => .array .boolean
theorem nmX9 : ∀ a, a < 19 → ∀ b, b < 19 → a ≠ b → (TX9 a).2.1 ≠ (TX9 b).2.1 := by decide +kernel
theorem tyX9_ok : ∀ k, k < 19 → parseFieldDescriptor (TX9 k).2.2.1 = some (tyX9 k) := by decide +kernel
abbrev cX9_init : ByteArray := prog_11_method_1_code
def yX9_init : MethodName := ⟨RX9, "<init>", "()V"⟩
abbrev cX9_in : ByteArray := prog_11_method_2_code
def yX9_in : MethodName := ⟨RX9, "in", "(III)Z"⟩
abbrev cX9_has : ByteArray := prog_11_method_3_code
def yX9_has : MethodName := ⟨RX9, "has", "(II)Z"⟩
abbrev cX9_bits : ByteArray := prog_11_method_4_code
def yX9_bits : MethodName := ⟨RX9, "bits", "(I)I"⟩
abbrev cX9_bring : ByteArray := prog_11_method_5_code
def yX9_bring : MethodName := ⟨RX9, "bring", "([II[III)V"⟩
abbrev cX9_isThere : ByteArray := prog_11_method_6_code
def yX9_isThere : MethodName := ⟨RX9, "isThere", "()Z"⟩
abbrev cX9_isField : ByteArray := prog_11_method_7_code
def yX9_isField : MethodName := ⟨RX9, "isField", "(I)Z"⟩
abbrev cX9_isOne : ByteArray := prog_11_method_8_code
def yX9_isOne : MethodName := ⟨RX9, "isOne", "(I)Z"⟩
abbrev cX9_feed : ByteArray := prog_11_method_9_code
def yX9_feed : MethodName := ⟨RX9, "feed", "(I)I"⟩
abbrev cX9_peek : ByteArray := prog_11_method_10_code
def yX9_peek : MethodName := ⟨RX9, "peek", "()I"⟩
abbrev cX9_isSign : ByteArray := prog_11_method_11_code
def yX9_isSign : MethodName := ⟨RX9, "isSign", "(I)Z"⟩
abbrev cX9_kindBy : ByteArray := prog_11_method_12_code
def yX9_kindBy : MethodName := ⟨RX9, "kindBy", "(I)I"⟩
abbrev cX9_pitchThere : ByteArray := prog_11_method_13_code
def yX9_pitchThere : MethodName := ⟨RX9, "pitchThere", "()I"⟩
abbrev cX9_pitches : ByteArray := prog_11_method_14_code
def yX9_pitches : MethodName := ⟨RX9, "pitches", "(I)I"⟩
abbrev cX9_isShape : ByteArray := prog_11_method_15_code
def yX9_isShape : MethodName := ⟨RX9, "isShape", "()Z"⟩
abbrev cX9_isFieldItem : ByteArray := prog_11_method_16_code
def yX9_isFieldItem : MethodName := ⟨RX9, "isFieldItem", "()Z"⟩
abbrev cX9_isSinger : ByteArray := prog_11_method_17_code
def yX9_isSinger : MethodName := ⟨RX9, "isSinger", "()Z"⟩
abbrev cX9_isRead : ByteArray := prog_11_method_18_code
def yX9_isRead : MethodName := ⟨RX9, "isRead", "()Z"⟩
abbrev cX9_valley : ByteArray := prog_11_method_19_code
def yX9_valley : MethodName := ⟨RX9, "valley", "()I"⟩
abbrev cX9_shape : ByteArray := prog_11_method_20_code
def yX9_shape : MethodName := ⟨RX9, "shape", "(I)I"⟩
abbrev cX9_chordOn : ByteArray := prog_11_method_21_code
def yX9_chordOn : MethodName := ⟨RX9, "chordOn", "(II)I"⟩
abbrev cX9_chordBy : ByteArray := prog_11_method_22_code
def yX9_chordBy : MethodName := ⟨RX9, "chordBy", "([II)I"⟩
abbrev cX9_missingBy : ByteArray := prog_11_method_23_code
def yX9_missingBy : MethodName := ⟨RX9, "missingBy", "([III)I"⟩
abbrev cX9_whoAt : ByteArray := prog_11_method_24_code
def yX9_whoAt : MethodName := ⟨RX9, "whoAt", "([II)I"⟩
abbrev cX9_chord : ByteArray := prog_11_method_25_code
def yX9_chord : MethodName := ⟨RX9, "chord", "(II)I"⟩
abbrev cX9_field : ByteArray := prog_11_method_26_code
def yX9_field : MethodName := ⟨RX9, "field", "(II)I"⟩
abbrev cX9_singer : ByteArray := prog_11_method_27_code
def yX9_singer : MethodName := ⟨RX9, "singer", "(II)I"⟩
abbrev cX9_as : ByteArray := prog_11_method_28_code
def yX9_as : MethodName := ⟨RX9, "as", "(II)I"⟩
abbrev cX9_lowest : ByteArray := prog_11_method_29_code
def yX9_lowest : MethodName := ⟨RX9, "lowest", "(I)I"⟩
abbrev cX9_highest : ByteArray := prog_11_method_30_code
def yX9_highest : MethodName := ⟨RX9, "highest", "(I)I"⟩
abbrev cX9_singsOf : ByteArray := prog_11_method_31_code
def yX9_singsOf : MethodName := ⟨RX9, "singsOf", "(III)I"⟩
abbrev cX9_rangeOf : ByteArray := prog_11_method_32_code
def yX9_rangeOf : MethodName := ⟨RX9, "rangeOf", "([II)I"⟩
abbrev cX9_singIn : ByteArray := prog_11_method_33_code
def yX9_singIn : MethodName := ⟨RX9, "singIn", "([III)I"⟩
abbrev cX9_hush : ByteArray := prog_11_method_34_code
def yX9_hush : MethodName := ⟨RX9, "hush", "()V"⟩
abbrev cX9_singAll : ByteArray := prog_11_method_35_code
def yX9_singAll : MethodName := ⟨RX9, "singAll", "([I)I"⟩
abbrev cX9_tires : ByteArray := prog_11_method_36_code
def yX9_tires : MethodName := ⟨RX9, "tires", "(I)I"⟩
abbrev cX9_hourIn : ByteArray := prog_11_method_37_code
def yX9_hourIn : MethodName := ⟨RX9, "hourIn", "([I)I"⟩
abbrev cX9_note : ByteArray := prog_11_method_38_code
def yX9_note : MethodName := ⟨RX9, "note", "()V"⟩
abbrev cX9_hour : ByteArray := prog_11_method_39_code
def yX9_hour : MethodName := ⟨RX9, "hour", "()I"⟩
abbrev cX9_send : ByteArray := prog_11_method_40_code
def yX9_send : MethodName := ⟨RX9, "send", "(II)I"⟩
abbrev cX9_turn : ByteArray := prog_11_method_41_code
def yX9_turn : MethodName := ⟨RX9, "turn", "([III)V"⟩
abbrev cX9_sound : ByteArray := prog_11_method_42_code
def yX9_sound : MethodName := ⟨RX9, "sound", "(II)I"⟩
abbrev cX9_undo : ByteArray := prog_11_method_43_code
def yX9_undo : MethodName := ⟨RX9, "undo", "()I"⟩
abbrev cX9_image : ByteArray := prog_11_method_44_code
def yX9_image : MethodName := ⟨RX9, "image", "(I)I"⟩
abbrev cX9_restore : ByteArray := prog_11_method_45_code
def yX9_restore : MethodName := ⟨RX9, "restore", "(I)I"⟩
abbrev cX9_begin : ByteArray := prog_11_method_46_code
def yX9_begin : MethodName := ⟨RX9, "begin", "()V"⟩
abbrev cX9_sings : ByteArray := prog_11_method_47_code
def yX9_sings : MethodName := ⟨RX9, "sings", "(I)I"⟩
abbrev cX9_tiredOf : ByteArray := prog_11_method_48_code
def yX9_tiredOf : MethodName := ⟨RX9, "tiredOf", "([I)I"⟩
abbrev cX9_ahead : ByteArray := prog_11_method_49_code
def yX9_ahead : MethodName := ⟨RX9, "ahead", "(II)I"⟩
abbrev cX9_fills : ByteArray := prog_11_method_50_code
def yX9_fills : MethodName := ⟨RX9, "fills", "(I)I"⟩
abbrev cX9_layStands : ByteArray := prog_11_method_51_code
def yX9_layStands : MethodName := ⟨RX9, "layStands", "()V"⟩
abbrev cX9_stands : ByteArray := prog_11_method_52_code
def yX9_stands : MethodName := ⟨RX9, "stands", "(I)I"⟩
abbrev cX9_howls : ByteArray := prog_11_method_53_code
def yX9_howls : MethodName := ⟨RX9, "howls", "(I)I"⟩
abbrev cX9_back : ByteArray := prog_11_method_54_code
def yX9_back : MethodName := ⟨RX9, "back", "(I)I"⟩
abbrev cX9_part : ByteArray := prog_11_method_55_code
def yX9_part : MethodName := ⟨RX9, "part", "(III)I"⟩
abbrev cX9_wind : ByteArray := prog_11_method_56_code
def yX9_wind : MethodName := ⟨RX9, "wind", "(III)I"⟩
abbrev cX9_decades : ByteArray := prog_11_method_57_code
def yX9_decades : MethodName := ⟨RX9, "decades", "(III)I"⟩
abbrev cX9_isSheet : ByteArray := prog_11_method_58_code
def yX9_isSheet : MethodName := ⟨RX9, "isSheet", "(I)Z"⟩
abbrev cX9_isPart : ByteArray := prog_11_method_59_code
def yX9_isPart : MethodName := ⟨RX9, "isPart", "(III)Z"⟩
abbrev cX9_badRow : ByteArray := prog_11_method_60_code
def yX9_badRow : MethodName := ⟨RX9, "badRow", "(IIII)I"⟩
abbrev cX9_sheet : ByteArray := prog_11_method_61_code
def yX9_sheet : MethodName := ⟨RX9, "sheet", "(III)I"⟩
abbrev cX9_drop : ByteArray := prog_11_method_62_code
def yX9_drop : MethodName := ⟨RX9, "drop", "(I)I"⟩
abbrev cX9_item : ByteArray := prog_11_method_63_code
def yX9_item : MethodName := ⟨RX9, "item", "(IIIJ)J"⟩
abbrev cX9_copy : ByteArray := prog_11_method_64_code
def yX9_copy : MethodName := ⟨RX9, "copy", "(IIIII)I"⟩
abbrev cX9_cutTo : ByteArray := prog_11_method_65_code
def yX9_cutTo : MethodName := ⟨RX9, "cutTo", "(IJ)J"⟩
abbrev cX9_log : ByteArray := prog_11_method_66_code
def yX9_log : MethodName := ⟨RX9, "log", "(III)I"⟩
abbrev cX9_areBelow : ByteArray := prog_11_method_67_code
def yX9_areBelow : MethodName := ⟨RX9, "areBelow", "(IIII)Z"⟩
abbrev cX9_aloneSings : ByteArray := prog_11_method_68_code
def yX9_aloneSings : MethodName := ⟨RX9, "aloneSings", "(IIII)I"⟩
abbrev cX9_layFits : ByteArray := prog_11_method_69_code
def yX9_layFits : MethodName := ⟨RX9, "layFits", "(II)I"⟩
abbrev cX9_leastFit : ByteArray := prog_11_method_70_code
def yX9_leastFit : MethodName := ⟨RX9, "leastFit", "()I"⟩
abbrev cX9_bestHeard : ByteArray := prog_11_method_71_code
def yX9_bestHeard : MethodName := ⟨RX9, "bestHeard", "()I"⟩
abbrev cX9_sounded : ByteArray := prog_11_method_72_code
def yX9_sounded : MethodName := ⟨RX9, "sounded", "(IIIII)I"⟩
abbrev cX9_kinds : ByteArray := prog_11_method_73_code
def yX9_kinds : MethodName := ⟨RX9, "kinds", "(IIIII)I"⟩
abbrev cX9_fieldsWith : ByteArray := prog_11_method_74_code
def yX9_fieldsWith : MethodName := ⟨RX9, "fieldsWith", "(Z)I"⟩
abbrev cX9_count : ByteArray := prog_11_method_75_code
def yX9_count : MethodName := ⟨RX9, "count", "(I)I"⟩
def RJ6 : String := "java/lang/Integer"
def TJ6 : u_T := fun k => match k with
  | _ => ("", "", "", false)
def tyJ6 : Nat → FieldType := fun k => match k with
  | _ => .int
theorem nmJ6 : ∀ a, a < 0 → ∀ b, b < 0 → a ≠ b → (TJ6 a).2.1 ≠ (TJ6 b).2.1 := by decide +kernel
theorem tyJ6_ok : ∀ k, k < 0 → parseFieldDescriptor (TJ6 k).2.2.1 = some (tyJ6 k) := by decide +kernel
abbrev cJ6_bitCount_0f7a4 : ByteArray := prog_12_method_49_code
def yJ6_bitCount_0f7a4 : MethodName := ⟨RJ6, "bitCount", "(I)I"⟩
def RJ9 : String := "java/lang/Math"
def TJ9 : u_T := fun k => match k with
  | _ => ("", "", "", false)
def tyJ9 : Nat → FieldType := fun k => match k with
  | _ => .int
theorem nmJ9 : ∀ a, a < 0 → ∀ b, b < 0 → a ≠ b → (TJ9 a).2.1 ≠ (TJ9 b).2.1 := by decide +kernel
theorem tyJ9_ok : ∀ k, k < 0 → parseFieldDescriptor (TJ9 k).2.2.1 = some (tyJ9 k) := by decide +kernel
abbrev cJ9_max_7cf53 : ByteArray := prog_13_method_65_code
def yJ9_max_7cf53 : MethodName := ⟨RJ9, "max", "(II)I"⟩
abbrev cJ9_min_7cf53 : ByteArray := prog_13_method_69_code
def yJ9_min_7cf53 : MethodName := ⟨RJ9, "min", "(II)I"⟩
def RJ10 : String := "java/lang/System"
def TJ10 : u_T := fun k => match k with
  | _ => ("", "", "", false)
def tyJ10 : Nat → FieldType := fun k => match k with
  | _ => .int
theorem nmJ10 : ∀ a, a < 0 → ∀ b, b < 0 → a ≠ b → (TJ10 a).2.1 ≠ (TJ10 b).2.1 := by decide +kernel
theorem tyJ10_ok : ∀ k, k < 0 → parseFieldDescriptor (TJ10 k).2.2.1 = some (tyJ10 k) := by decide +kernel
def RJ7 : String := "java/util/Arrays"
def TJ7 : u_T := fun k => match k with
  | _ => ("", "", "", false)
def tyJ7 : Nat → FieldType := fun k => match k with
  | _ => .int
theorem nmJ7 : ∀ a, a < 0 → ∀ b, b < 0 → a ≠ b → (TJ7 a).2.1 ≠ (TJ7 b).2.1 := by decide +kernel
theorem tyJ7_ok : ∀ k, k < 0 → parseFieldDescriptor (TJ7 k).2.2.1 = some (tyJ7 k) := by decide +kernel
abbrev cJ7_fill_d0a16 : ByteArray := prog_15_method_101_code
def yJ7_fill_d0a16 : MethodName := ⟨RJ7, "fill", "([JJ)V"⟩
abbrev cJ7_fill_53178 : ByteArray := prog_15_method_103_code
def yJ7_fill_53178 : MethodName := ⟨RJ7, "fill", "([II)V"⟩
def RL : String := "MissingNoteLaw"
abbrev cL_law : ByteArray := code
def yL_law : MethodName := ⟨RL, "law", "([I)Z"⟩
abbrev vwCl : List vw_C := [(RX0, TX0, 5), (RX1, TX1, 2), (RX2, TX2, 2), (RX3, TX3, 5), (RX4, TX4, 3), (RX5, TX5, 6), (RX6, TX6, 3), (RX7, TX7, 11), (RX8, TX8, 10), (RX9, TX9, 19)]
end
section
/-! what the landed class has of its own: private members that a nest mate uses, static rows -/
def k_nwM : List (String × Nat × MethodName × String) := [(RX6, 98, yX8_within, RX8), (RX1, 38, yX8_has, RX8), (RX5, 49, yX8_power, RX8)]
def k_nwF : List (String × Nat × String × String × String × String) := [(RX1, 79, RX8, "EFFORT", "[I", RX8)]
def k_tIS : Nat → Int32 := fun i => ([1, 3, 7, 11, 17, 49] : List Int32).getD i 0
def k_tEF : Nat → Int32 := fun i => ([0, 2, 3, 2, 1, 0] : List Int32).getD i 0
def k_sts : List (Nat × String × String × String × Nat × (Nat → Int32)) := [(1000, RX8, "IS", "[I", 6, k_tIS), (1001, RX8, "EFFORT", "[I", 6, k_tEF)]
def k_ty (cA : Nat → ClassId) : List (ClassId × FieldType) := [(cA 1, .int), (cA 2, .long), (cA 3, .boolean), (cA 4, .object RX7), (cA 5, .object RX4)]
end
section
/-! THE JUDGEMENT: a method's frame over a fixed world of cells (no cell is made), in words that hide the machine.
kS: what the cells hold; kH: the world's shape; kM: a method. -/
abbrev kS : Type := (Nat → Nat → Int32) × (Nat → Nat → Int64)
abbrev kH : Type := List (Nat × Nat × List (Option Nat))
abbrev kM : Type := MethodName × ByteArray × Nat × Option FieldType × Nat × Nat
def k_ws : List Cond := lw_tbl.filter goodWord
def k_rm (j : kM) : Room := { frames := j.2.2.2.2.1, cells := 0, slots := 0, locals := j.2.2.2.2.2 }
def k_cv (ad : Nat → Nat) (v : Value) : Value := match v with
  | .ref k => .ref (ad k)
  | v => v
theorem k_cv_cat (ad : Nat → Nat) (v : Value) : (k_cv ad v).category = v.category := by cases v <;> rfl
def k_fv (ad : Nat → Nat) (h : Nat → Int32) (i : Nat) (o : Option Nat) : Value := match o with
  | none => .int (h i)
  | some q => .ref (ad q)
def k_cel (cA : Nat → ClassId) (ad : Nat → Nat) (σ : kS) (k : Nat) (c : Nat × Nat × List (Option Nat)) : va_E := match c.1 with
  | 0 => .inr (c.2.1, c.2.2.mapIdx (k_fv ad (σ.1 k)))
  | 1 => .inl (cA 1, c.2.1, .inl (σ.1 k))
  | 2 => .inl (cA 2, c.2.1, .inr (.inl (σ.2 k)))
  | 3 => .inl (cA 3, c.2.1, .inl (σ.1 k))
  | n => .inl (cA n, c.2.1, .inr (.inr (.inr (.inr fun i => (c.2.2.getD i none).map ad))))
def k_wd (S : kH) (cA : Nat → ClassId) (ad : Nat → Nat) (σ : kS) : va_W := S.mapIdx fun k c => (ad k, k_cel cA ad σ k c)
def k_A (ad : Nat → Nat) (n sz : Nat) : Nat → Prop := fun q => (∃ k, k < n ∧ q = ad k) ∨ sz ≤ q
def k_nw (U : State) : Prop := (∀ q ∈ k_nwM, va_Nw (.methodLinkNest q.1 q.2.1 q.2.2.1 q.2.2.2) U) ∧ ∀ q ∈ k_nwF, va_Nw (.fieldLinkNest q.1 q.2.1 q.2.2.1 q.2.2.2.1 q.2.2.2.2.1 q.2.2.2.2.2) U
def k_st (A : Nat → Prop) (ad : Nat → Nat) (U : State) (H : Heap) : Prop := ∀ q ∈ k_sts, va_Z q.2.1 q.2.2.1 q.2.2.2.1 (.ref (ad q.1)) A U H ∧ va_T .int (ad q.1) q.2.2.2.2.1 (fun i => .int (q.2.2.2.2.2 i)) A U H
def k_lh (ad : Nat → Nat) (ls : Array Slot) (nL : Nat) (lv : List (Option Value)) : Prop := ls.size = nL ∧ lv_wf ls ∧ ∀ (i : Nat) (v : Value), lv[i]? = some (some v) → ls[i]? = some (.val (k_cv ad v))
/-- the machine around a frame of j -/
def k_ev (S : kH) (j : kM) (p : Program) (s : State) (m : MethodId) (args : Array Value) (meth : Method) (c : Code) (D : va_G) (cA : Nat → ClassId) (ad : Nat → Nat) : Prop :=
  p.tables.exec = Jvm.exec ∧ c.code = j.2.1 ∧ c.maxLocals = j.2.2.1 ∧ meth.sig.returnType = j.2.2.2.1 ∧ meth.locks = false ∧ s.vm.findClass j.1.cls = some m.cls ∧ (∀ w ∈ Cond.code j.1 j.2.1 j.2.2.1 j.2.2.2.1 :: k_ws, w.before args s = true) ∧ va_K D vwCl (k_ty cA) s ∧ k_nw s ∧ k_st (k_A ad S.length s.heap.size) ad s s.heap
def k_Q (S : kH) (D : va_G) (cA : Nat → ClassId) (ad : Nat → Nat) (r : Option Value) (τ : kS) : Array Value → State → Outcome → State → Prop := fun _ st oc t =>
  (oc = .returned (r.map (k_cv ad)) ∧ va_P D vwCl (k_wd S cA ad τ) t.heap) ∧ va_F (k_A ad S.length st.heap.size) st t
def k_G (S : kH) (D : va_G) (cA : Nat → ClassId) (ad : Nat → Nat) (sz : Nat) (σ : kS) (U : State) : Prop :=
  va_P D vwCl (k_wd S cA ad σ) U.heap ∧ va_K D vwCl (k_ty cA) U ∧ va_D (k_A ad S.length sz) (k_wd S cA ad σ) ∧ k_nw U ∧ k_st (k_A ad S.length sz) ad U U.heap
def Ex (S : kH) (j : kM) (pc : Nat) (lv : List (Option Value)) (st : List Value) (σ : kS) (r : Option Value) (τ : kS) : Prop :=
  ∀ (p : Program) (l : Launch) (e : Env) (s : State) (m : MethodId) (args : Array Value) (below : List Frame) (meth : Method) (c : Code) (D : va_G) (cA : Nat → ClassId) (ad : Nat → Nat) (H : Heap) (locs : List Loc) (ls : Array Slot),
    k_ev S j p s m args meth c D cA ad → va_P D vwCl (k_wd S cA ad σ) H → va_D (k_A ad S.length s.heap.size) (k_wd S cA ad σ) → va_S (k_A ad S.length s.heap.size) s.heap H locs → k_lh ad ls j.2.2.1 lv →
    W p l e (k_rm j) s m args below meth c H locs 0 0 (MQ below (k_Q S D cA ad r τ) args s 0 0 (k_A ad S.length s.heap.size)) (F0 m pc ls (st.map (k_cv ad)))
def Run (S : kH) (j : kM) (av : List Value) (σ : kS) (r : Option Value) (τ : kS) : Prop :=
  ∀ (l : Launch) (D : va_G) (cA : Nat → ClassId) (ad : Nat → Nat) (sz : Nat), Met l j.1 (Cond.code j.1 j.2.1 j.2.2.1 j.2.2.2.1 :: k_ws) (k_rm j) (va_Pc (av.map (k_cv ad)) (fun U => U.heap.size = sz ∧ k_G S D cA ad sz σ U)) (k_Q S D cA ad r τ) 0 0 (k_A ad S.length sz)
/-! the world's cells -/
def k_is (S : kH) (k t n : Nat) : Bool := match S[k]? with
  | some c => c.1 == t && c.2.1 == n
  | none => false
def k_fd (S : kH) (k i : Nat) : Option (Option Nat) := match S[k]? with
  | some c => c.2.2[i]?
  | none => none
def k_si (σ : kS) (k i : Nat) (v : Int32) : kS := (fun a b => if a = k then (if b = i then v else σ.1 a b) else σ.1 a b, σ.2)
def k_sl (σ : kS) (k i : Nat) (v : Int64) : kS := (σ.1, fun a b => if a = k then (if b = i then v else σ.2 a b) else σ.2 a b)
def k_cp (σ : kS) (a0 a1 sp dp n : Nat) : kS := (fun a b => if a = a1 then va_cpy (σ.1 a0) (σ.1 a1) sp dp n b else σ.1 a b, σ.2)
def k_cl (σ : kS) (a0 a1 sp dp n : Nat) : kS := (σ.1, fun a b => if a = a1 then va_cpy (σ.2 a0) (σ.2 a1) sp dp n b else σ.2 a b)
theorem k_is_spec {S : kH} {k t n : Nat} (h : k_is S k t n = true) : ∃ fs, S[k]? = some (t, n, fs) := by
  unfold k_is at h
  cases hc : S[k]? with
  | none => rw [hc] at h; cases h
  | some c =>
    rw [hc] at h
    obtain ⟨a, b, fs⟩ := c
    simp only [Bool.and_eq_true, beq_iff_eq] at h
    exact ⟨fs, by rw [← h.1, ← h.2]⟩
theorem k_wd_at {S : kH} {cA : Nat → ClassId} {ad : Nat → Nat} {σ : kS} {k : Nat} {c : Nat × Nat × List (Option Nat)} (h : S[k]? = some c) : (k_wd S cA ad σ)[k]? = some (ad k, k_cel cA ad σ k c) := by
  simp [k_wd, List.getElem?_mapIdx, h]
theorem k_wd_lt {S : kH} {cA : Nat → ClassId} {ad : Nat → Nat} {σ : kS} {k : Nat} {q : Nat × va_E} (h : (k_wd S cA ad σ)[k]? = some q) : k < S.length ∧ q.1 = ad k := by
  simp only [k_wd, List.getElem?_mapIdx, Option.map_eq_some_iff] at h
  obtain ⟨c, h1, h2⟩ := h
  exact ⟨(List.getElem?_eq_some_iff.mp h1).1, by rw [← h2]⟩
theorem k_wd_set {S : kH} {cA : Nat → ClassId} {ad : Nat → Nat} {σ τ : kS} {k : Nat} {c : Nat × Nat × List (Option Nat)} (h : S[k]? = some c) (ho : ∀ a, a ≠ k → ∀ d, k_cel cA ad τ a d = k_cel cA ad σ a d) : (k_wd S cA ad σ).set k (ad k, k_cel cA ad τ k c) = k_wd S cA ad τ := by
  apply List.ext_getElem?
  intro i
  by_cases hi : i = k
  · subst hi
    have hl : i < S.length := (List.getElem?_eq_some_iff.mp h).1
    rw [List.getElem?_set_self (by simpa [k_wd] using hl), k_wd_at h]
  · rw [List.getElem?_set_ne (Ne.symm hi)]
    simp only [k_wd, List.getElem?_mapIdx]
    cases hc : S[i]? with
    | none => rfl
    | some d => simp [ho i hi d]
theorem k_cel_other {cA : Nat → ClassId} {ad : Nat → Nat} {σ τ : kS} {a : Nat} (h1 : τ.1 a = σ.1 a) (h2 : τ.2 a = σ.2 a) (d : Nat × Nat × List (Option Nat)) : k_cel cA ad τ a d = k_cel cA ad σ a d := by
  unfold k_cel
  rw [h1, h2]
theorem k_si_o {σ : kS} {k i a : Nat} {v : Int32} (h : a ≠ k) : (k_si σ k i v).1 a = σ.1 a := by
  funext b; simp [k_si, h]
theorem k_si_s {σ : kS} {k i : Nat} {v : Int32} : (k_si σ k i v).1 k = upd (σ.1 k) i v := by
  funext b; simp [k_si, upd]
theorem k_sl_o {σ : kS} {k i a : Nat} {v : Int64} (h : a ≠ k) : (k_sl σ k i v).2 a = σ.2 a := by
  funext b; simp [k_sl, h]
theorem k_sl_s {σ : kS} {k i : Nat} {v : Int64} : (k_sl σ k i v).2 k = vp_updL (σ.2 k) i v := by
  funext b; simp [k_sl, vp_updL]
theorem k_cp_o {σ : kS} {a0 a1 sp dp n a : Nat} (h : a ≠ a1) : (k_cp σ a0 a1 sp dp n).1 a = σ.1 a := by
  funext b; simp [k_cp, h]
theorem k_cp_s {σ : kS} {a0 a1 sp dp n : Nat} : (k_cp σ a0 a1 sp dp n).1 a1 = va_cpy (σ.1 a0) (σ.1 a1) sp dp n := by
  funext b; simp [k_cp]
theorem k_cl_o {σ : kS} {a0 a1 sp dp n a : Nat} (h : a ≠ a1) : (k_cl σ a0 a1 sp dp n).2 a = σ.2 a := by
  funext b; simp [k_cl, h]
theorem k_cl_s {σ : kS} {a0 a1 sp dp n : Nat} : (k_cl σ a0 a1 sp dp n).2 a1 = va_cpy (σ.2 a0) (σ.2 a1) sp dp n := by
  funext b; simp [k_cl]
theorem k_fv_set {ad : Nat → Nat} {h h' : Nat → Int32} {fs : List (Option Nat)} {i : Nat} {v : Int32} (hf : fs[i]? = some none) (hh : h' = upd h i v) : (fs.mapIdx (k_fv ad h)).set i (.int v) = fs.mapIdx (k_fv ad h') := by
  apply List.ext_getElem?
  intro a
  by_cases ha : a = i
  · subst ha
    have hl : a < fs.length := (List.getElem?_eq_some_iff.mp hf).1
    rw [List.getElem?_set_self (by simpa using hl), List.getElem?_mapIdx, hf, hh]
    simp [k_fv, upd]
  · rw [List.getElem?_set_ne (Ne.symm ha), List.getElem?_mapIdx, List.getElem?_mapIdx]
    cases fs[a]? with
    | none => rfl
    | some o => cases o <;> simp [k_fv, hh, upd, ha]
theorem k_DA {S : kH} {cA : Nat → ClassId} {ad : Nat → Nat} {σ τ : kS} {A B : Nat → Prop} (h : va_D A (k_wd S cA ad σ)) (hB : ∀ k, k < S.length → B (ad k)) : va_D B (k_wd S cA ad τ) := by
  refine ⟨fun i j p q hi hj hpq => ?_, fun k q hk => ?_⟩
  · obtain ⟨h1, h2⟩ := k_wd_lt hi
    obtain ⟨h3, h4⟩ := k_wd_lt hj
    have e1 : S[i]? = some S[i] := List.getElem?_eq_getElem h1
    have e2 : S[j]? = some S[j] := List.getElem?_eq_getElem h3
    exact h.1 i j _ _ (k_wd_at (σ := σ) e1) (k_wd_at (σ := σ) e2) (by rw [← h2, ← h4]; exact hpq)
  · obtain ⟨h1, h2⟩ := k_wd_lt hk
    rw [h2]
    exact hB k h1
/-! the locals -/
def k_ok1 (lv : List (Option Value)) (i : Nat) : Bool := match i with
  | 0 => true
  | k + 1 => match lv[k]? with
    | some (some v) => v.category == 1
    | _ => true
def k_ll (ad : Nat → Nat) (lv : List (Option Value)) : List (Nat × Value) := (List.range lv.length).filterMap fun i => match lv[i]? with
  | some (some v) => some (i, k_cv ad v)
  | _ => none
theorem k_ll_mem {ad : Nat → Nat} {lv : List (Option Value)} {i : Nat} {v : Value} (h : lv[i]? = some (some v)) : (i, k_cv ad v) ∈ k_ll ad lv := by
  refine List.mem_filterMap.mpr ⟨i, List.mem_range.mpr (List.getElem?_eq_some_iff.mp h).1, ?_⟩
  rw [h]
theorem k_ll_has {ad : Nat → Nat} {ls : Array Slot} {nL : Nat} {lv : List (Option Value)} (h : k_lh ad ls nL lv) : lv_has ls nL (k_ll ad lv) := by
  refine ⟨h.1, h.2.1, fun q hq => ?_⟩
  obtain ⟨i, -, hi⟩ := List.mem_filterMap.mp hq
  cases hc : lv[i]? with
  | none => rw [hc] at hi; cases hi
  | some o =>
    cases o with
    | none => rw [hc] at hi; cases hi
    | some v =>
      rw [hc] at hi
      cases hi
      exact h.2.2 i v hc
theorem k_lh_set1 {ad : Nat → Nat} {ls : Array Slot} {nL i : Nat} {lv : List (Option Value)} {v : Value} (h : lv_has ls nL ((i, k_cv ad v) :: (k_ll ad lv).filter (fun q => !(q.1 == i) && !(q.1 + 1 == i && q.2.category == 2)))) (ok : k_ok1 lv i = true) : k_lh ad ls nL (lv.set i (some v)) := by
  refine ⟨h.1, h.2.1, fun k w hk => ?_⟩
  by_cases hi : k = i
  · subst hi
    have hl : k < (lv.set k (some v)).length := (List.getElem?_eq_some_iff.mp hk).1
    rw [List.getElem?_set_self (by simpa using hl)] at hk
    cases hk
    exact h.2.2 (k, k_cv ad v) List.mem_cons_self
  · rw [List.getElem?_set_ne (Ne.symm hi)] at hk
    refine h.2.2 (k, k_cv ad w) (List.mem_cons_of_mem _ (List.mem_filter.mpr ⟨k_ll_mem hk, ?_⟩))
    simp only [Bool.and_eq_true, Bool.not_eq_true', beq_eq_false_iff_ne, ne_eq, Bool.and_eq_false_iff]
    refine ⟨hi, ?_⟩
    by_cases hk1 : k + 1 = i
    · refine Or.inr ?_
      subst hk1
      simp only [k_ok1, hk, beq_iff_eq] at ok
      rw [k_cv_cat, ok]
      decide
    · exact Or.inl hk1
theorem k_lh_set2 {ad : Nat → Nat} {ls : Array Slot} {nL i : Nat} {lv : List (Option Value)} {v : Value} (h : lv_has ls nL ((i, k_cv ad v) :: (k_ll ad lv).filter (fun q => !(q.1 == i) && (!(q.1 == i + 1) && !(q.1 + 1 == i && q.2.category == 2))))) (ok : k_ok1 lv i = true) : k_lh ad ls nL ((lv.set i (some v)).set (i + 1) none) := by
  refine ⟨h.1, h.2.1, fun k w hk => ?_⟩
  by_cases hi1 : k = i + 1
  · subst hi1
    have hl := (List.getElem?_eq_some_iff.mp hk).1
    rw [List.getElem?_set_self (by simpa using hl)] at hk
    cases hk
  · rw [List.getElem?_set_ne (Ne.symm hi1)] at hk
    by_cases hi : k = i
    · subst hi
      have hl : k < (lv.set k (some v)).length := (List.getElem?_eq_some_iff.mp hk).1
      rw [List.getElem?_set_self (by simpa using hl)] at hk
      cases hk
      exact h.2.2 (k, k_cv ad v) List.mem_cons_self
    · rw [List.getElem?_set_ne (Ne.symm hi)] at hk
      refine h.2.2 (k, k_cv ad w) (List.mem_cons_of_mem _ (List.mem_filter.mpr ⟨k_ll_mem hk, ?_⟩))
      simp only [Bool.and_eq_true, Bool.not_eq_true', beq_eq_false_iff_ne, ne_eq, Bool.and_eq_false_iff]
      refine ⟨hi, hi1, ?_⟩
      by_cases hk1 : k + 1 = i
      · refine Or.inr ?_
        subst hk1
        simp only [k_ok1, hk, beq_iff_eq] at ok
        rw [k_cv_cat, ok]
        decide
      · exact Or.inl hk1
end
section
/-! rules, an instruction each -/
theorem x_iadd {S : kH} {j : kM} {pc : Nat} {lv : List (Option Value)} {st : List Value} {σ : kS} {r : Option Value} {τ : kS} {x y : Int32} (d : decode j.2.1 pc = .ok (.iadd, 1)) (k : Ex S j (pc + 1) lv (.int (x + y) :: st) σ r τ) : Ex S j pc lv (.int y :: .int x :: st) σ r τ := by
  intro p l e s m args below meth c D cA ad H locs ls E hP hD hS hl
  exact lv_iadd E.1 E.2.1 d (k p l e s m args below meth c D cA ad H locs ls E hP hD hS hl)
theorem x_isub {S : kH} {j : kM} {pc : Nat} {lv : List (Option Value)} {st : List Value} {σ : kS} {r : Option Value} {τ : kS} {x y : Int32} (d : decode j.2.1 pc = .ok (.isub, 1)) (k : Ex S j (pc + 1) lv (.int (x - y) :: st) σ r τ) : Ex S j pc lv (.int y :: .int x :: st) σ r τ := by
  intro p l e s m args below meth c D cA ad H locs ls E hP hD hS hl
  exact lv_isub E.1 E.2.1 d (k p l e s m args below meth c D cA ad H locs ls E hP hD hS hl)
theorem x_imul {S : kH} {j : kM} {pc : Nat} {lv : List (Option Value)} {st : List Value} {σ : kS} {r : Option Value} {τ : kS} {x y : Int32} (d : decode j.2.1 pc = .ok (.imul, 1)) (k : Ex S j (pc + 1) lv (.int (x * y) :: st) σ r τ) : Ex S j pc lv (.int y :: .int x :: st) σ r τ := by
  intro p l e s m args below meth c D cA ad H locs ls E hP hD hS hl
  exact lv_imul E.1 E.2.1 d (k p l e s m args below meth c D cA ad H locs ls E hP hD hS hl)
theorem x_iand {S : kH} {j : kM} {pc : Nat} {lv : List (Option Value)} {st : List Value} {σ : kS} {r : Option Value} {τ : kS} {x y : Int32} (d : decode j.2.1 pc = .ok (.iand, 1)) (k : Ex S j (pc + 1) lv (.int (x &&& y) :: st) σ r τ) : Ex S j pc lv (.int y :: .int x :: st) σ r τ := by
  intro p l e s m args below meth c D cA ad H locs ls E hP hD hS hl
  exact lv_iand E.1 E.2.1 d (k p l e s m args below meth c D cA ad H locs ls E hP hD hS hl)
theorem x_ior {S : kH} {j : kM} {pc : Nat} {lv : List (Option Value)} {st : List Value} {σ : kS} {r : Option Value} {τ : kS} {x y : Int32} (d : decode j.2.1 pc = .ok (.ior, 1)) (k : Ex S j (pc + 1) lv (.int (x ||| y) :: st) σ r τ) : Ex S j pc lv (.int y :: .int x :: st) σ r τ := by
  intro p l e s m args below meth c D cA ad H locs ls E hP hD hS hl
  exact lv_ior E.1 E.2.1 d (k p l e s m args below meth c D cA ad H locs ls E hP hD hS hl)
theorem x_ixor {S : kH} {j : kM} {pc : Nat} {lv : List (Option Value)} {st : List Value} {σ : kS} {r : Option Value} {τ : kS} {x y : Int32} (d : decode j.2.1 pc = .ok (.ixor, 1)) (k : Ex S j (pc + 1) lv (.int (x ^^^ y) :: st) σ r τ) : Ex S j pc lv (.int y :: .int x :: st) σ r τ := by
  intro p l e s m args below meth c D cA ad H locs ls E hP hD hS hl
  exact lv_ixor E.1 E.2.1 d (k p l e s m args below meth c D cA ad H locs ls E hP hD hS hl)
theorem x_ishl {S : kH} {j : kM} {pc : Nat} {lv : List (Option Value)} {st : List Value} {σ : kS} {r : Option Value} {τ : kS} {x y : Int32} (d : decode j.2.1 pc = .ok (.ishl, 1)) (k : Ex S j (pc + 1) lv (.int (x <<< (y &&& 31)) :: st) σ r τ) : Ex S j pc lv (.int y :: .int x :: st) σ r τ := by
  intro p l e s m args below meth c D cA ad H locs ls E hP hD hS hl
  exact lv_ishl E.1 E.2.1 d (k p l e s m args below meth c D cA ad H locs ls E hP hD hS hl)
theorem x_ishr {S : kH} {j : kM} {pc : Nat} {lv : List (Option Value)} {st : List Value} {σ : kS} {r : Option Value} {τ : kS} {x y : Int32} (d : decode j.2.1 pc = .ok (.ishr, 1)) (k : Ex S j (pc + 1) lv (.int (x >>> (y &&& 31)) :: st) σ r τ) : Ex S j pc lv (.int y :: .int x :: st) σ r τ := by
  intro p l e s m args below meth c D cA ad H locs ls E hP hD hS hl
  exact lv_ishr E.1 E.2.1 d (k p l e s m args below meth c D cA ad H locs ls E hP hD hS hl)
theorem x_iushr {S : kH} {j : kM} {pc : Nat} {lv : List (Option Value)} {st : List Value} {σ : kS} {r : Option Value} {τ : kS} {x y : Int32} (d : decode j.2.1 pc = .ok (.iushr, 1)) (k : Ex S j (pc + 1) lv (.int ((x.toUInt32 >>> (y.toUInt32 &&& Int32.toUInt32 31)).toInt32) :: st) σ r τ) : Ex S j pc lv (.int y :: .int x :: st) σ r τ := by
  intro p l e s m args below meth c D cA ad H locs ls E hP hD hS hl
  exact lv_iushr E.1 E.2.1 d rfl (k p l e s m args below meth c D cA ad H locs ls E hP hD hS hl)
theorem x_idiv {S : kH} {j : kM} {pc : Nat} {lv : List (Option Value)} {st : List Value} {σ : kS} {r : Option Value} {τ : kS} {x y : Int32} (d : decode j.2.1 pc = .ok (.idiv, 1)) (hne : ¬ y = 0) (k : Ex S j (pc + 1) lv (.int (x / y) :: st) σ r τ) : Ex S j pc lv (.int y :: .int x :: st) σ r τ := by
  intro p l e s m args below meth c D cA ad H locs ls E hP hD hS hl
  exact lv_idiv E.1 E.2.1 d hne (k p l e s m args below meth c D cA ad H locs ls E hP hD hS hl)
theorem x_irem {S : kH} {j : kM} {pc : Nat} {lv : List (Option Value)} {st : List Value} {σ : kS} {r : Option Value} {τ : kS} {x y : Int32} (d : decode j.2.1 pc = .ok (.irem, 1)) (hne : ¬ y = 0) (k : Ex S j (pc + 1) lv (.int (x - x / y * y) :: st) σ r τ) : Ex S j pc lv (.int y :: .int x :: st) σ r τ := by
  intro p l e s m args below meth c D cA ad H locs ls E hP hD hS hl
  exact lv_irem E.1 E.2.1 d hne (k p l e s m args below meth c D cA ad H locs ls E hP hD hS hl)
theorem x_ladd {S : kH} {j : kM} {pc : Nat} {lv : List (Option Value)} {st : List Value} {σ : kS} {r : Option Value} {τ : kS} {x y : Int64} (d : decode j.2.1 pc = .ok (.ladd, 1)) (k : Ex S j (pc + 1) lv (.long (x + y) :: st) σ r τ) : Ex S j pc lv (.long y :: .long x :: st) σ r τ := by
  intro p l e s m args below meth c D cA ad H locs ls E hP hD hS hl
  exact lv_ladd E.1 E.2.1 d (k p l e s m args below meth c D cA ad H locs ls E hP hD hS hl)
theorem x_lsub {S : kH} {j : kM} {pc : Nat} {lv : List (Option Value)} {st : List Value} {σ : kS} {r : Option Value} {τ : kS} {x y : Int64} (d : decode j.2.1 pc = .ok (.lsub, 1)) (k : Ex S j (pc + 1) lv (.long (x - y) :: st) σ r τ) : Ex S j pc lv (.long y :: .long x :: st) σ r τ := by
  intro p l e s m args below meth c D cA ad H locs ls E hP hD hS hl
  exact lv_lsub E.1 E.2.1 d (k p l e s m args below meth c D cA ad H locs ls E hP hD hS hl)
theorem x_lmul {S : kH} {j : kM} {pc : Nat} {lv : List (Option Value)} {st : List Value} {σ : kS} {r : Option Value} {τ : kS} {x y : Int64} (d : decode j.2.1 pc = .ok (.lmul, 1)) (k : Ex S j (pc + 1) lv (.long (x * y) :: st) σ r τ) : Ex S j pc lv (.long y :: .long x :: st) σ r τ := by
  intro p l e s m args below meth c D cA ad H locs ls E hP hD hS hl
  exact lv_lmul E.1 E.2.1 d (k p l e s m args below meth c D cA ad H locs ls E hP hD hS hl)
theorem x_land {S : kH} {j : kM} {pc : Nat} {lv : List (Option Value)} {st : List Value} {σ : kS} {r : Option Value} {τ : kS} {x y : Int64} (d : decode j.2.1 pc = .ok (.land, 1)) (k : Ex S j (pc + 1) lv (.long (x &&& y) :: st) σ r τ) : Ex S j pc lv (.long y :: .long x :: st) σ r τ := by
  intro p l e s m args below meth c D cA ad H locs ls E hP hD hS hl
  exact lv_land E.1 E.2.1 d (k p l e s m args below meth c D cA ad H locs ls E hP hD hS hl)
theorem x_lor {S : kH} {j : kM} {pc : Nat} {lv : List (Option Value)} {st : List Value} {σ : kS} {r : Option Value} {τ : kS} {x y : Int64} (d : decode j.2.1 pc = .ok (.lor, 1)) (k : Ex S j (pc + 1) lv (.long (x ||| y) :: st) σ r τ) : Ex S j pc lv (.long y :: .long x :: st) σ r τ := by
  intro p l e s m args below meth c D cA ad H locs ls E hP hD hS hl
  exact lv_lor E.1 E.2.1 d (k p l e s m args below meth c D cA ad H locs ls E hP hD hS hl)
theorem x_ldiv {S : kH} {j : kM} {pc : Nat} {lv : List (Option Value)} {st : List Value} {σ : kS} {r : Option Value} {τ : kS} {x y : Int64} (d : decode j.2.1 pc = .ok (.ldiv, 1)) (hne : ¬ y = 0) (k : Ex S j (pc + 1) lv (.long (x / y) :: st) σ r τ) : Ex S j pc lv (.long y :: .long x :: st) σ r τ := by
  intro p l e s m args below meth c D cA ad H locs ls E hP hD hS hl
  exact lv_ldiv E.1 E.2.1 d hne (k p l e s m args below meth c D cA ad H locs ls E hP hD hS hl)
theorem x_lrem {S : kH} {j : kM} {pc : Nat} {lv : List (Option Value)} {st : List Value} {σ : kS} {r : Option Value} {τ : kS} {x y : Int64} (d : decode j.2.1 pc = .ok (.lrem, 1)) (hne : ¬ y = 0) (k : Ex S j (pc + 1) lv (.long (x - x / y * y) :: st) σ r τ) : Ex S j pc lv (.long y :: .long x :: st) σ r τ := by
  intro p l e s m args below meth c D cA ad H locs ls E hP hD hS hl
  exact lv_lrem E.1 E.2.1 d hne (k p l e s m args below meth c D cA ad H locs ls E hP hD hS hl)
theorem x_ineg {S : kH} {j : kM} {pc : Nat} {lv : List (Option Value)} {st : List Value} {σ : kS} {r : Option Value} {τ : kS} {x : Int32} (d : decode j.2.1 pc = .ok (.ineg, 1)) (k : Ex S j (pc + 1) lv (.int (-x) :: st) σ r τ) : Ex S j pc lv (.int x :: st) σ r τ := by
  intro p l e s m args below meth c D cA ad H locs ls E hP hD hS hl
  exact lv_ineg E.1 E.2.1 d (k p l e s m args below meth c D cA ad H locs ls E hP hD hS hl)
theorem x_i2l {S : kH} {j : kM} {pc : Nat} {lv : List (Option Value)} {st : List Value} {σ : kS} {r : Option Value} {τ : kS} {x : Int32} (d : decode j.2.1 pc = .ok (.i2l, 1)) (k : Ex S j (pc + 1) lv (.long x.toInt64 :: st) σ r τ) : Ex S j pc lv (.int x :: st) σ r τ := by
  intro p l e s m args below meth c D cA ad H locs ls E hP hD hS hl
  exact lv_i2l E.1 E.2.1 d rfl (k p l e s m args below meth c D cA ad H locs ls E hP hD hS hl)
theorem x_l2i {S : kH} {j : kM} {pc : Nat} {lv : List (Option Value)} {st : List Value} {σ : kS} {r : Option Value} {τ : kS} {x : Int64} (d : decode j.2.1 pc = .ok (.l2i, 1)) (k : Ex S j (pc + 1) lv (.int x.toInt32 :: st) σ r τ) : Ex S j pc lv (.long x :: st) σ r τ := by
  intro p l e s m args below meth c D cA ad H locs ls E hP hD hS hl
  exact lv_l2i E.1 E.2.1 d rfl (k p l e s m args below meth c D cA ad H locs ls E hP hD hS hl)
theorem x_i2b {S : kH} {j : kM} {pc : Nat} {lv : List (Option Value)} {st : List Value} {σ : kS} {r : Option Value} {τ : kS} {x : Int32} (d : decode j.2.1 pc = .ok (.i2b, 1)) (k : Ex S j (pc + 1) lv (.int x.toInt8.toInt32 :: st) σ r τ) : Ex S j pc lv (.int x :: st) σ r τ := by
  intro p l e s m args below meth c D cA ad H locs ls E hP hD hS hl
  exact lv_i2b E.1 E.2.1 d rfl (k p l e s m args below meth c D cA ad H locs ls E hP hD hS hl)
theorem x_i2s {S : kH} {j : kM} {pc : Nat} {lv : List (Option Value)} {st : List Value} {σ : kS} {r : Option Value} {τ : kS} {x : Int32} (d : decode j.2.1 pc = .ok (.i2s, 1)) (k : Ex S j (pc + 1) lv (.int x.toInt16.toInt32 :: st) σ r τ) : Ex S j pc lv (.int x :: st) σ r τ := by
  intro p l e s m args below meth c D cA ad H locs ls E hP hD hS hl
  exact lv_i2s E.1 E.2.1 d rfl (k p l e s m args below meth c D cA ad H locs ls E hP hD hS hl)
theorem x_lcmp {S : kH} {j : kM} {pc : Nat} {lv : List (Option Value)} {st : List Value} {σ : kS} {r : Option Value} {τ : kS} {x y : Int64} (d : decode j.2.1 pc = .ok (.lcmp, 1)) (k : Ex S j (pc + 1) lv (.int (lg_cmp x y) :: st) σ r τ) : Ex S j pc lv (.long y :: .long x :: st) σ r τ := by
  intro p l e s m args below meth c D cA ad H locs ls E hP hD hS hl
  exact W.lcmp E.1 E.2.1 d (k p l e s m args below meth c D cA ad H locs ls E hP hD hS hl)
theorem x_iconst {S : kH} {j : kM} {pc : Nat} {lv : List (Option Value)} {st : List Value} {σ : kS} {r : Option Value} {τ : kS} {n : Int} (v : Int32) (d : decode j.2.1 pc = .ok (.iconst n, 1)) (hv : Int32.ofInt n = v) (k : Ex S j (pc + 1) lv (.int v :: st) σ r τ) : Ex S j pc lv (st) σ r τ := by
  intro p l e s m args below meth c D cA ad H locs ls E hP hD hS hl
  exact lv_iconst E.1 E.2.1 d hv (k p l e s m args below meth c D cA ad H locs ls E hP hD hS hl)
theorem x_bipush {S : kH} {j : kM} {pc : Nat} {lv : List (Option Value)} {st : List Value} {σ : kS} {r : Option Value} {τ : kS} {n : Int} (v : Int32) (d : decode j.2.1 pc = .ok (.bipush n, 2)) (hv : (Int8.ofInt n).toInt32 = v) (k : Ex S j (pc + 2) lv (.int v :: st) σ r τ) : Ex S j pc lv (st) σ r τ := by
  intro p l e s m args below meth c D cA ad H locs ls E hP hD hS hl
  exact lv_bipush E.1 E.2.1 d hv (k p l e s m args below meth c D cA ad H locs ls E hP hD hS hl)
theorem x_sipush {S : kH} {j : kM} {pc : Nat} {lv : List (Option Value)} {st : List Value} {σ : kS} {r : Option Value} {τ : kS} {n : Int} (v : Int32) (d : decode j.2.1 pc = .ok (.sipush n, 3)) (hv : (Int16.ofInt n).toInt32 = v) (k : Ex S j (pc + 3) lv (.int v :: st) σ r τ) : Ex S j pc lv (st) σ r τ := by
  intro p l e s m args below meth c D cA ad H locs ls E hP hD hS hl
  exact lv_sipush E.1 E.2.1 d hv (k p l e s m args below meth c D cA ad H locs ls E hP hD hS hl)
theorem x_lconst {S : kH} {j : kM} {pc : Nat} {lv : List (Option Value)} {st : List Value} {σ : kS} {r : Option Value} {τ : kS} {n : Fin 2} (v : Int64) (d : decode j.2.1 pc = .ok (.lconst n, 1)) (hv : Int64.ofNat (n : Nat) = v) (k : Ex S j (pc + 1) lv (.long v :: st) σ r τ) : Ex S j pc lv (st) σ r τ := by
  intro p l e s m args below meth c D cA ad H locs ls E hP hD hS hl
  exact lv_lconst E.1 E.2.1 d hv (k p l e s m args below meth c D cA ad H locs ls E hP hD hS hl)
theorem x_iload_n {S : kH} {j : kM} {pc : Nat} {lv : List (Option Value)} {st : List Value} {σ : kS} {r : Option Value} {τ : kS} {n : Fin 4} (i : Nat) {x : Int32} (d : decode j.2.1 pc = .ok (.iload_n n, 1)) (hi : (n : Nat) = i) (hv : lv[i]? = some (some (.int x))) (k : Ex S j (pc + 1) lv (.int x :: st) σ r τ) : Ex S j pc lv (st) σ r τ := by
  intro p l e s m args below meth c D cA ad H locs ls E hP hD hS hl
  exact lv_iload_n E.1 E.2.1 d hi (hl.2.2 i _ hv) (k p l e s m args below meth c D cA ad H locs ls E hP hD hS hl)
theorem x_iload {S : kH} {j : kM} {pc : Nat} {lv : List (Option Value)} {st : List Value} {σ : kS} {r : Option Value} {τ : kS} {i : Nat} {x : Int32} (d : decode j.2.1 pc = .ok (.iload i, 2)) (hv : lv[i]? = some (some (.int x))) (k : Ex S j (pc + 2) lv (.int x :: st) σ r τ) : Ex S j pc lv (st) σ r τ := by
  intro p l e s m args below meth c D cA ad H locs ls E hP hD hS hl
  exact lv_iload E.1 E.2.1 d (hl.2.2 i _ hv) (k p l e s m args below meth c D cA ad H locs ls E hP hD hS hl)
theorem x_lload_n {S : kH} {j : kM} {pc : Nat} {lv : List (Option Value)} {st : List Value} {σ : kS} {r : Option Value} {τ : kS} {n : Fin 4} (i : Nat) {x : Int64} (d : decode j.2.1 pc = .ok (.lload_n n, 1)) (hi : (n : Nat) = i) (hv : lv[i]? = some (some (.long x))) (k : Ex S j (pc + 1) lv (.long x :: st) σ r τ) : Ex S j pc lv (st) σ r τ := by
  intro p l e s m args below meth c D cA ad H locs ls E hP hD hS hl
  exact lv_lload_n E.1 E.2.1 d hi (hl.2.2 i _ hv) (k p l e s m args below meth c D cA ad H locs ls E hP hD hS hl)
theorem x_lload {S : kH} {j : kM} {pc : Nat} {lv : List (Option Value)} {st : List Value} {σ : kS} {r : Option Value} {τ : kS} {i : Nat} {x : Int64} (d : decode j.2.1 pc = .ok (.lload i, 2)) (hv : lv[i]? = some (some (.long x))) (k : Ex S j (pc + 2) lv (.long x :: st) σ r τ) : Ex S j pc lv (st) σ r τ := by
  intro p l e s m args below meth c D cA ad H locs ls E hP hD hS hl
  exact lv_lload E.1 E.2.1 d (hl.2.2 i _ hv) (k p l e s m args below meth c D cA ad H locs ls E hP hD hS hl)
theorem x_aload_n {S : kH} {j : kM} {pc : Nat} {lv : List (Option Value)} {st : List Value} {σ : kS} {r : Option Value} {τ : kS} {n : Fin 4} (i : Nat) {x : Nat} (d : decode j.2.1 pc = .ok (.aload_n n, 1)) (hi : (n : Nat) = i) (hv : lv[i]? = some (some (.ref x))) (k : Ex S j (pc + 1) lv (.ref x :: st) σ r τ) : Ex S j pc lv (st) σ r τ := by
  intro p l e s m args below meth c D cA ad H locs ls E hP hD hS hl
  exact lv_aload_n E.1 E.2.1 d hi (hl.2.2 i _ hv) (k p l e s m args below meth c D cA ad H locs ls E hP hD hS hl)
theorem x_aload {S : kH} {j : kM} {pc : Nat} {lv : List (Option Value)} {st : List Value} {σ : kS} {r : Option Value} {τ : kS} {i : Nat} {x : Nat} (d : decode j.2.1 pc = .ok (.aload i, 2)) (hv : lv[i]? = some (some (.ref x))) (k : Ex S j (pc + 2) lv (.ref x :: st) σ r τ) : Ex S j pc lv (st) σ r τ := by
  intro p l e s m args below meth c D cA ad H locs ls E hP hD hS hl
  exact lv_aload E.1 E.2.1 d (hl.2.2 i _ hv) (k p l e s m args below meth c D cA ad H locs ls E hP hD hS hl)
theorem x_istore_n {S : kH} {j : kM} {pc : Nat} {lv : List (Option Value)} {st : List Value} {σ : kS} {r : Option Value} {τ : kS} {n : Fin 4} (i : Nat) {x : Int32} (d : decode j.2.1 pc = .ok (.istore_n n, 1)) (hi : (n : Nat) = i) (hn : i < j.2.2.1) (ok : k_ok1 lv i = true) (k : Ex S j (pc + 1) (lv.set i (some (.int x))) st σ r τ) : Ex S j pc lv (.int x :: st) σ r τ := by
  intro p l e s m args below meth c D cA ad H locs ls E hP hD hS hl
  exact lv_istore_n E.1 E.2.1 d hi (k_ll_has hl) hn rfl (fun ls2 h2 => k p l e s m args below meth c D cA ad H locs ls2 E hP hD hS (k_lh_set1 (v := .int x) h2 ok))
theorem x_istore {S : kH} {j : kM} {pc : Nat} {lv : List (Option Value)} {st : List Value} {σ : kS} {r : Option Value} {τ : kS} {i : Nat} {x : Int32} (d : decode j.2.1 pc = .ok (.istore i, 2)) (hn : i < j.2.2.1) (ok : k_ok1 lv i = true) (k : Ex S j (pc + 2) (lv.set i (some (.int x))) st σ r τ) : Ex S j pc lv (.int x :: st) σ r τ := by
  intro p l e s m args below meth c D cA ad H locs ls E hP hD hS hl
  exact lv_istore E.1 E.2.1 d (k_ll_has hl) hn rfl (fun ls2 h2 => k p l e s m args below meth c D cA ad H locs ls2 E hP hD hS (k_lh_set1 (v := .int x) h2 ok))
theorem x_astore_n {S : kH} {j : kM} {pc : Nat} {lv : List (Option Value)} {st : List Value} {σ : kS} {r : Option Value} {τ : kS} {n : Fin 4} (i : Nat) {x : Nat} (d : decode j.2.1 pc = .ok (.astore_n n, 1)) (hi : (n : Nat) = i) (hn : i < j.2.2.1) (ok : k_ok1 lv i = true) (k : Ex S j (pc + 1) (lv.set i (some (.ref x))) st σ r τ) : Ex S j pc lv (.ref x :: st) σ r τ := by
  intro p l e s m args below meth c D cA ad H locs ls E hP hD hS hl
  exact lv_astore_n E.1 E.2.1 d hi (k_ll_has hl) hn rfl (fun ls2 h2 => k p l e s m args below meth c D cA ad H locs ls2 E hP hD hS (k_lh_set1 (v := .ref x) h2 ok))
theorem x_astore {S : kH} {j : kM} {pc : Nat} {lv : List (Option Value)} {st : List Value} {σ : kS} {r : Option Value} {τ : kS} {i : Nat} {x : Nat} (d : decode j.2.1 pc = .ok (.astore i, 2)) (hn : i < j.2.2.1) (ok : k_ok1 lv i = true) (k : Ex S j (pc + 2) (lv.set i (some (.ref x))) st σ r τ) : Ex S j pc lv (.ref x :: st) σ r τ := by
  intro p l e s m args below meth c D cA ad H locs ls E hP hD hS hl
  exact lv_astore E.1 E.2.1 d (k_ll_has hl) hn rfl (fun ls2 h2 => k p l e s m args below meth c D cA ad H locs ls2 E hP hD hS (k_lh_set1 (v := .ref x) h2 ok))
theorem x_lstore_n {S : kH} {j : kM} {pc : Nat} {lv : List (Option Value)} {st : List Value} {σ : kS} {r : Option Value} {τ : kS} {n : Fin 4} (i : Nat) {x : Int64} (d : decode j.2.1 pc = .ok (.lstore_n n, 1)) (hi : (n : Nat) = i) (hn : i + 1 < j.2.2.1) (ok : k_ok1 lv i = true) (k : Ex S j (pc + 1) ((lv.set i (some (.long x))).set (i + 1) none) st σ r τ) : Ex S j pc lv (.long x :: st) σ r τ := by
  intro p l e s m args below meth c D cA ad H locs ls E hP hD hS hl
  exact lv_lstore_n E.1 E.2.1 d hi (k_ll_has hl) hn rfl (fun ls2 h2 => k p l e s m args below meth c D cA ad H locs ls2 E hP hD hS (k_lh_set2 (v := .long x) h2 ok))
theorem x_lstore {S : kH} {j : kM} {pc : Nat} {lv : List (Option Value)} {st : List Value} {σ : kS} {r : Option Value} {τ : kS} {i : Nat} {x : Int64} (d : decode j.2.1 pc = .ok (.lstore i, 2)) (hn : i + 1 < j.2.2.1) (ok : k_ok1 lv i = true) (k : Ex S j (pc + 2) ((lv.set i (some (.long x))).set (i + 1) none) st σ r τ) : Ex S j pc lv (.long x :: st) σ r τ := by
  intro p l e s m args below meth c D cA ad H locs ls E hP hD hS hl
  exact lv_lstore E.1 E.2.1 d (k_ll_has hl) hn rfl (fun ls2 h2 => k p l e s m args below meth c D cA ad H locs ls2 E hP hD hS (k_lh_set2 (v := .long x) h2 ok))
theorem x_iinc {S : kH} {j : kM} {pc : Nat} {lv : List (Option Value)} {st : List Value} {σ : kS} {r : Option Value} {τ : kS} {i : Nat} {n : Int} {x : Int32} (v : Int32) (d : decode j.2.1 pc = .ok (.iinc i n, 3)) (hn : i < j.2.2.1) (ok : k_ok1 lv i = true) (hx : lv[i]? = some (some (.int x))) (hv : Int32.ofInt n = v) (k : Ex S j (pc + 3) (lv.set i (some (.int (x + v)))) st σ r τ) : Ex S j pc lv st σ r τ := by
  intro p l e s m args below meth c D cA ad H locs ls E hP hD hS hl
  obtain ⟨q, hq⟩ := List.getElem?_of_mem (k_ll_mem (ad := ad) hx)
  exact lv_iinc E.1 E.2.1 d (k_ll_has hl) (k := q) hq (by rw [hv]) hn rfl (fun ls2 h2 => k p l e s m args below meth c D cA ad H locs ls2 E hP hD hS (k_lh_set1 (v := .int (x + v)) h2 ok))
theorem x_dup {S : kH} {j : kM} {pc : Nat} {lv : List (Option Value)} {st : List Value} {σ : kS} {r : Option Value} {τ : kS} {v : Value} (d : decode j.2.1 pc = .ok (.dup, 1)) (hc : v.category = 1) (k : Ex S j (pc + 1) lv (v :: v :: st) σ r τ) : Ex S j pc lv (v :: st) σ r τ := by
  intro p l e s m args below meth c D cA ad H locs ls E hP hD hS hl
  exact lv_dup E.1 E.2.1 d (by rw [k_cv_cat]; exact hc) (k p l e s m args below meth c D cA ad H locs ls E hP hD hS hl)
theorem x_pop {S : kH} {j : kM} {pc : Nat} {lv : List (Option Value)} {st : List Value} {σ : kS} {r : Option Value} {τ : kS} {v : Value} (d : decode j.2.1 pc = .ok (.pop, 1)) (hc : v.category = 1) (k : Ex S j (pc + 1) lv st σ r τ) : Ex S j pc lv (v :: st) σ r τ := by
  intro p l e s m args below meth c D cA ad H locs ls E hP hD hS hl
  exact lv_pop E.1 E.2.1 d (by rw [k_cv_cat]; exact hc) (k p l e s m args below meth c D cA ad H locs ls E hP hD hS hl)
theorem x_dup2 {S : kH} {j : kM} {pc : Nat} {lv : List (Option Value)} {st : List Value} {σ : kS} {r : Option Value} {τ : kS} {v w : Value} (d : decode j.2.1 pc = .ok (.dup2, 1)) (hc : v.category = 1) (hd : w.category = 1) (k : Ex S j (pc + 1) lv (v :: w :: v :: w :: st) σ r τ) : Ex S j pc lv (v :: w :: st) σ r τ := by
  intro p l e s m args below meth c D cA ad H locs ls E hP hD hS hl
  exact lv_dup2_11 E.1 E.2.1 d (by rw [k_cv_cat]; exact hc) (by rw [k_cv_cat]; exact hd) (k p l e s m args below meth c D cA ad H locs ls E hP hD hS hl)
theorem x_if_eq {S : kH} {j : kM} {pc : Nat} {lv : List (Option Value)} {st : List Value} {σ : kS} {r : Option Value} {τ : kS} {x : Int32} {off : Int} (t : Nat) (d : decode j.2.1 pc = .ok (.ifCond .eq off, 3)) (ht : (pc : Int) + off = (t : Int)) (kt : x = 0 → Ex S j t lv st σ r τ) (kf : ¬ x = 0 → Ex S j (pc + 3) lv st σ r τ) : Ex S j pc lv (.int x :: st) σ r τ := by
  intro p l e s m args below meth c D cA ad H locs ls E hP hD hS hl
  exact lv_if_eq E.1 E.2.1 d ht (fun h => kt h p l e s m args below meth c D cA ad H locs ls E hP hD hS hl) (fun h => kf h p l e s m args below meth c D cA ad H locs ls E hP hD hS hl)
theorem x_icmp_eq {S : kH} {j : kM} {pc : Nat} {lv : List (Option Value)} {st : List Value} {σ : kS} {r : Option Value} {τ : kS} {x y : Int32} {off : Int} (t : Nat) (d : decode j.2.1 pc = .ok (.if_icmp .eq off, 3)) (ht : (pc : Int) + off = (t : Int)) (kt : x = y → Ex S j t lv st σ r τ) (kf : ¬ x = y → Ex S j (pc + 3) lv st σ r τ) : Ex S j pc lv (.int y :: .int x :: st) σ r τ := by
  intro p l e s m args below meth c D cA ad H locs ls E hP hD hS hl
  exact lv_icmp_eq E.1 E.2.1 d ht (fun h => kt h p l e s m args below meth c D cA ad H locs ls E hP hD hS hl) (fun h => kf h p l e s m args below meth c D cA ad H locs ls E hP hD hS hl)
theorem x_if_ne {S : kH} {j : kM} {pc : Nat} {lv : List (Option Value)} {st : List Value} {σ : kS} {r : Option Value} {τ : kS} {x : Int32} {off : Int} (t : Nat) (d : decode j.2.1 pc = .ok (.ifCond .ne off, 3)) (ht : (pc : Int) + off = (t : Int)) (kt : ¬ x = 0 → Ex S j t lv st σ r τ) (kf : x = 0 → Ex S j (pc + 3) lv st σ r τ) : Ex S j pc lv (.int x :: st) σ r τ := by
  intro p l e s m args below meth c D cA ad H locs ls E hP hD hS hl
  exact lv_if_ne E.1 E.2.1 d ht (fun h => kt h p l e s m args below meth c D cA ad H locs ls E hP hD hS hl) (fun h => kf h p l e s m args below meth c D cA ad H locs ls E hP hD hS hl)
theorem x_icmp_ne {S : kH} {j : kM} {pc : Nat} {lv : List (Option Value)} {st : List Value} {σ : kS} {r : Option Value} {τ : kS} {x y : Int32} {off : Int} (t : Nat) (d : decode j.2.1 pc = .ok (.if_icmp .ne off, 3)) (ht : (pc : Int) + off = (t : Int)) (kt : ¬ x = y → Ex S j t lv st σ r τ) (kf : x = y → Ex S j (pc + 3) lv st σ r τ) : Ex S j pc lv (.int y :: .int x :: st) σ r τ := by
  intro p l e s m args below meth c D cA ad H locs ls E hP hD hS hl
  exact lv_icmp_ne E.1 E.2.1 d ht (fun h => kt h p l e s m args below meth c D cA ad H locs ls E hP hD hS hl) (fun h => kf h p l e s m args below meth c D cA ad H locs ls E hP hD hS hl)
theorem x_if_lt {S : kH} {j : kM} {pc : Nat} {lv : List (Option Value)} {st : List Value} {σ : kS} {r : Option Value} {τ : kS} {x : Int32} {off : Int} (t : Nat) (d : decode j.2.1 pc = .ok (.ifCond .lt off, 3)) (ht : (pc : Int) + off = (t : Int)) (kt : x < 0 → Ex S j t lv st σ r τ) (kf : ¬ x < 0 → Ex S j (pc + 3) lv st σ r τ) : Ex S j pc lv (.int x :: st) σ r τ := by
  intro p l e s m args below meth c D cA ad H locs ls E hP hD hS hl
  exact lv_if_lt E.1 E.2.1 d ht (fun h => kt h p l e s m args below meth c D cA ad H locs ls E hP hD hS hl) (fun h => kf h p l e s m args below meth c D cA ad H locs ls E hP hD hS hl)
theorem x_icmp_lt {S : kH} {j : kM} {pc : Nat} {lv : List (Option Value)} {st : List Value} {σ : kS} {r : Option Value} {τ : kS} {x y : Int32} {off : Int} (t : Nat) (d : decode j.2.1 pc = .ok (.if_icmp .lt off, 3)) (ht : (pc : Int) + off = (t : Int)) (kt : x < y → Ex S j t lv st σ r τ) (kf : ¬ x < y → Ex S j (pc + 3) lv st σ r τ) : Ex S j pc lv (.int y :: .int x :: st) σ r τ := by
  intro p l e s m args below meth c D cA ad H locs ls E hP hD hS hl
  exact lv_icmp_lt E.1 E.2.1 d ht (fun h => kt h p l e s m args below meth c D cA ad H locs ls E hP hD hS hl) (fun h => kf h p l e s m args below meth c D cA ad H locs ls E hP hD hS hl)
theorem x_if_ge {S : kH} {j : kM} {pc : Nat} {lv : List (Option Value)} {st : List Value} {σ : kS} {r : Option Value} {τ : kS} {x : Int32} {off : Int} (t : Nat) (d : decode j.2.1 pc = .ok (.ifCond .ge off, 3)) (ht : (pc : Int) + off = (t : Int)) (kt : 0 ≤ x → Ex S j t lv st σ r τ) (kf : ¬ 0 ≤ x → Ex S j (pc + 3) lv st σ r τ) : Ex S j pc lv (.int x :: st) σ r τ := by
  intro p l e s m args below meth c D cA ad H locs ls E hP hD hS hl
  exact lv_if_ge E.1 E.2.1 d ht (fun h => kt h p l e s m args below meth c D cA ad H locs ls E hP hD hS hl) (fun h => kf h p l e s m args below meth c D cA ad H locs ls E hP hD hS hl)
theorem x_icmp_ge {S : kH} {j : kM} {pc : Nat} {lv : List (Option Value)} {st : List Value} {σ : kS} {r : Option Value} {τ : kS} {x y : Int32} {off : Int} (t : Nat) (d : decode j.2.1 pc = .ok (.if_icmp .ge off, 3)) (ht : (pc : Int) + off = (t : Int)) (kt : y ≤ x → Ex S j t lv st σ r τ) (kf : ¬ y ≤ x → Ex S j (pc + 3) lv st σ r τ) : Ex S j pc lv (.int y :: .int x :: st) σ r τ := by
  intro p l e s m args below meth c D cA ad H locs ls E hP hD hS hl
  exact lv_icmp_ge E.1 E.2.1 d ht (fun h => kt h p l e s m args below meth c D cA ad H locs ls E hP hD hS hl) (fun h => kf h p l e s m args below meth c D cA ad H locs ls E hP hD hS hl)
theorem x_if_gt {S : kH} {j : kM} {pc : Nat} {lv : List (Option Value)} {st : List Value} {σ : kS} {r : Option Value} {τ : kS} {x : Int32} {off : Int} (t : Nat) (d : decode j.2.1 pc = .ok (.ifCond .gt off, 3)) (ht : (pc : Int) + off = (t : Int)) (kt : 0 < x → Ex S j t lv st σ r τ) (kf : ¬ 0 < x → Ex S j (pc + 3) lv st σ r τ) : Ex S j pc lv (.int x :: st) σ r τ := by
  intro p l e s m args below meth c D cA ad H locs ls E hP hD hS hl
  exact lv_if_gt E.1 E.2.1 d ht (fun h => kt h p l e s m args below meth c D cA ad H locs ls E hP hD hS hl) (fun h => kf h p l e s m args below meth c D cA ad H locs ls E hP hD hS hl)
theorem x_icmp_gt {S : kH} {j : kM} {pc : Nat} {lv : List (Option Value)} {st : List Value} {σ : kS} {r : Option Value} {τ : kS} {x y : Int32} {off : Int} (t : Nat) (d : decode j.2.1 pc = .ok (.if_icmp .gt off, 3)) (ht : (pc : Int) + off = (t : Int)) (kt : y < x → Ex S j t lv st σ r τ) (kf : ¬ y < x → Ex S j (pc + 3) lv st σ r τ) : Ex S j pc lv (.int y :: .int x :: st) σ r τ := by
  intro p l e s m args below meth c D cA ad H locs ls E hP hD hS hl
  exact lv_icmp_gt E.1 E.2.1 d ht (fun h => kt h p l e s m args below meth c D cA ad H locs ls E hP hD hS hl) (fun h => kf h p l e s m args below meth c D cA ad H locs ls E hP hD hS hl)
theorem x_if_le {S : kH} {j : kM} {pc : Nat} {lv : List (Option Value)} {st : List Value} {σ : kS} {r : Option Value} {τ : kS} {x : Int32} {off : Int} (t : Nat) (d : decode j.2.1 pc = .ok (.ifCond .le off, 3)) (ht : (pc : Int) + off = (t : Int)) (kt : x ≤ 0 → Ex S j t lv st σ r τ) (kf : ¬ x ≤ 0 → Ex S j (pc + 3) lv st σ r τ) : Ex S j pc lv (.int x :: st) σ r τ := by
  intro p l e s m args below meth c D cA ad H locs ls E hP hD hS hl
  exact lv_if_le E.1 E.2.1 d ht (fun h => kt h p l e s m args below meth c D cA ad H locs ls E hP hD hS hl) (fun h => kf h p l e s m args below meth c D cA ad H locs ls E hP hD hS hl)
theorem x_icmp_le {S : kH} {j : kM} {pc : Nat} {lv : List (Option Value)} {st : List Value} {σ : kS} {r : Option Value} {τ : kS} {x y : Int32} {off : Int} (t : Nat) (d : decode j.2.1 pc = .ok (.if_icmp .le off, 3)) (ht : (pc : Int) + off = (t : Int)) (kt : x ≤ y → Ex S j t lv st σ r τ) (kf : ¬ x ≤ y → Ex S j (pc + 3) lv st σ r τ) : Ex S j pc lv (.int y :: .int x :: st) σ r τ := by
  intro p l e s m args below meth c D cA ad H locs ls E hP hD hS hl
  exact lv_icmp_le E.1 E.2.1 d ht (fun h => kt h p l e s m args below meth c D cA ad H locs ls E hP hD hS hl) (fun h => kf h p l e s m args below meth c D cA ad H locs ls E hP hD hS hl)
theorem x_goto {S : kH} {j : kM} {pc : Nat} {lv : List (Option Value)} {st : List Value} {σ : kS} {r : Option Value} {τ : kS} {off : Int} (t : Nat) (d : decode j.2.1 pc = .ok (.goto off, 3)) (ht : (pc : Int) + off = (t : Int)) (k : Ex S j t lv st σ r τ) : Ex S j pc lv st σ r τ := by
  intro p l e s m args below meth c D cA ad H locs ls E hP hD hS hl
  exact lv_goto E.1 E.2.1 d ht (k p l e s m args below meth c D cA ad H locs ls E hP hD hS hl)
/-- fewer locals are known -/
theorem x_fewer {S : kH} {j : kM} {pc : Nat} {lv : List (Option Value)} {st : List Value} {σ : kS} {r : Option Value} {τ : kS} (lv' : List (Option Value)) (h : ∀ (i : Nat) (v : Value), lv'[i]? = some (some v) → lv[i]? = some (some v)) (k : Ex S j pc lv' st σ r τ) : Ex S j pc lv st σ r τ := by
  intro p l e s m args below meth c D cA ad H locs ls E hP hD hS hl
  exact k p l e s m args below meth c D cA ad H locs ls E hP hD hS ⟨hl.1, hl.2.1, fun i v hv => hl.2.2 i v (h i v hv)⟩
theorem x_eq {S : kH} {j : kM} {pc : Nat} {lv : List (Option Value)} {st : List Value} {σ : kS} {r : Option Value} {τ : kS} {lv' : List (Option Value)} {st' : List Value} {σ' : kS} (k : Ex S j pc lv' st' σ' r τ) (h1 : lv = lv') (h2 : st = st') (h3 : σ = σ') : Ex S j pc lv st σ r τ := by
  subst h1; subst h2; subst h3; exact k
/-! ends -/
theorem k_end {S : kH} {D : va_G} {cA : Nat → ClassId} {ad : Nat → Nat} {σ : kS} {r : Option Value} {args : Array Value} {s : State} {H : Heap} {locs : List Loc} {o : Outcome} (ho : o = .returned (r.map (k_cv ad))) (hP : va_P D vwCl (k_wd S cA ad σ) H) (hS : va_S (k_A ad S.length s.heap.size) s.heap H locs) (t : State) (ht : t.heap = H) : k_Q S D cA ad r σ args s o t :=
  ⟨⟨ho, by rw [ht]; exact hP⟩, hS.F ht⟩
theorem x_ireturn {S : kH} {j : kM} {pc : Nat} {lv : List (Option Value)} {σ : kS} {x : Int32} (d : decode j.2.1 pc = .ok (.ireturn, 1)) (hr : j.2.2.2.1 = some .int) : Ex S j pc lv [.int x] σ (some (.int x)) σ := by
  intro p l e s m args below meth c D cA ad H locs ls E hP hD hS hl
  exact W.iret E.1 E.2.1 (E.2.2.2.1.trans hr) (fun t ht _ => k_end rfl hP hS t ht) hS.2.2 d E.2.2.2.2.1
theorem x_zreturn {S : kH} {j : kM} {pc : Nat} {lv : List (Option Value)} {σ : kS} {x : Int32} (d : decode j.2.1 pc = .ok (.ireturn, 1)) (hr : j.2.2.2.1 = some .boolean) (hx : narrow .boolean (.int x) = .int x) : Ex S j pc lv [.int x] σ (some (.int x)) σ := by
  intro p l e s m args below meth c D cA ad H locs ls E hP hD hS hl
  exact W.zret E.1 E.2.1 (E.2.2.2.1.trans hr) hx (fun t ht _ => k_end rfl hP hS t ht) hS.2.2 d E.2.2.2.2.1
theorem x_lreturn {S : kH} {j : kM} {pc : Nat} {lv : List (Option Value)} {σ : kS} {x : Int64} (d : decode j.2.1 pc = .ok (.lreturn, 1)) (hr : j.2.2.2.1 = some .long) : Ex S j pc lv [.long x] σ (some (.long x)) σ := by
  intro p l e s m args below meth c D cA ad H locs ls E hP hD hS hl
  exact W.lret E.1 E.2.1 (E.2.2.2.1.trans hr) (fun t ht _ => k_end rfl hP hS t ht) hS.2.2 d E.2.2.2.2.1
theorem x_return {S : kH} {j : kM} {pc : Nat} {lv : List (Option Value)} {σ : kS} (d : decode j.2.1 pc = .ok (.return_, 1)) (hr : j.2.2.2.1 = none) : Ex S j pc lv [] σ none σ := by
  intro p l e s m args below meth c D cA ad H locs ls E hP hD hS hl
  exact W.vret E.1 E.2.1 (E.2.2.2.1.trans hr) (fun t ht _ => k_end rfl hP hS t ht) hS.2.2 d E.2.2.2.2.1
/-! constants of a pool -/
theorem x_ldc {S : kH} {j : kM} {pc : Nat} {lv : List (Option Value)} {st : List Value} {σ : kS} {r : Option Value} {τ : kS} {i : Nat} {v : Int32} (d : decode j.2.1 pc = .ok (.ldc i, 2)) (hw : Cond.constant j.1.cls i v ∈ k_ws) (k : Ex S j (pc + 2) lv (.int v :: st) σ r τ) : Ex S j pc lv st σ r τ := by
  intro p l e s m args below meth c D cA ad H locs ls E hP hD hS hl
  exact lv_ldc E.1 E.2.1 E.2.2.2.2.2.1 (E.2.2.2.2.2.2.1 _ (List.mem_cons_of_mem _ hw)) d (k p l e s m args below meth c D cA ad H locs ls E hP hD hS hl)
theorem x_ldc_w {S : kH} {j : kM} {pc : Nat} {lv : List (Option Value)} {st : List Value} {σ : kS} {r : Option Value} {τ : kS} {i : Nat} {v : Int32} (d : decode j.2.1 pc = .ok (.ldc_w i, 3)) (hw : Cond.constant j.1.cls i v ∈ k_ws) (k : Ex S j (pc + 3) lv (.int v :: st) σ r τ) : Ex S j pc lv st σ r τ := by
  intro p l e s m args below meth c D cA ad H locs ls E hP hD hS hl
  exact lv_ldcw E.1 E.2.1 E.2.2.2.2.2.1 (E.2.2.2.2.2.2.1 _ (List.mem_cons_of_mem _ hw)) d (k p l e s m args below meth c D cA ad H locs ls E hP hD hS hl)
theorem x_ldc2 {S : kH} {j : kM} {pc : Nat} {lv : List (Option Value)} {st : List Value} {σ : kS} {r : Option Value} {τ : kS} {i : Nat} {v : Int64} (d : decode j.2.1 pc = .ok (.ldc2_w i, 3)) (hw : Cond.constantLong j.1.cls i v ∈ k_ws) (k : Ex S j (pc + 3) lv (.long v :: st) σ r τ) : Ex S j pc lv st σ r τ := by
  intro p l e s m args below meth c D cA ad H locs ls E hP hD hS hl
  exact lv_ldc2 E.1 E.2.1 E.2.2.2.2.2.1 (E.2.2.2.2.2.2.1 _ (List.mem_cons_of_mem _ hw)) d (k p l e s m args below meth c D cA ad H locs ls E hP hD hS hl)
/-! switches -/
def k_tb (pc : Nat) (x : Int32) (P : Nat → Prop) : Int → List Int → Prop
  | _, [] => True
  | lo, o :: os => (x.toInt = lo → P ((pc : Int) + o).toNat) ∧ k_tb pc x P (lo + 1) os
theorem k_tb_at {pc : Nat} {x : Int32} {P : Nat → Prop} : ∀ (os : List Int) (lo : Int) (i : Nat) (o : Int), k_tb pc x P lo os → os[i]? = some o → x.toInt = lo + i → P ((pc : Int) + o).toNat := by
  intro os
  induction os with
  | nil => intro lo i o _ h; simp at h
  | cons a os ih =>
    intro lo i o h hi hx
    cases i with
    | zero =>
      simp at hi
      subst hi
      exact h.1 (by simpa using hx)
    | succ i =>
      simp at hi
      exact ih (lo + 1) i o h.2 hi (by rw [hx]; push_cast; omega)
theorem x_table {S : kH} {j : kM} {pc : Nat} {lv : List (Option Value)} {st : List Value} {σ : kS} {r : Option Value} {τ : kS} {x : Int32} {dflt lo hi : Int} {offs : Array Int} {len : Nat} (td : Nat) (d : decode j.2.1 pc = .ok (.tableswitch dflt lo hi offs, len)) (hsz : (offs.size : Int) = hi - lo + 1) (hpos : (offs.toList.all fun o => decide (0 ≤ (pc : Int) + o)) = true) (ht : (pc : Int) + dflt = (td : Int))
    (ki : k_tb pc x (fun t => Ex S j t lv st σ r τ) lo offs.toList) (ko : (x.toInt < lo ∨ hi < x.toInt) → Ex S j td lv st σ r τ) : Ex S j pc lv (.int x :: st) σ r τ := by
  intro p l e s m args below meth c D cA ad H locs ls E hP hD hS hl
  by_cases h : x.toInt < lo ∨ hi < x.toInt
  · exact lv_tableOut E.1 E.2.1 d h ht (ko h p l e s m args below meth c D cA ad H locs ls E hP hD hS hl)
  · have hb : (x.toInt - lo).toNat < offs.size := by omega
    have ho : offs[(x.toInt - lo).toNat]? = some offs[(x.toInt - lo).toNat] := Array.getElem?_eq_getElem hb
    have hm : offs[(x.toInt - lo).toNat] ∈ offs.toList := by simp
    have hp := of_decide_eq_true (List.all_eq_true.mp hpos _ hm)
    refine lv_tableIn E.1 E.2.1 d (fun q => h (Or.inl q)) (fun q => h (Or.inr q)) ho (tgt := ((pc : Int) + offs[(x.toInt - lo).toNat]).toNat) (by omega) ?_
    exact k_tb_at offs.toList lo (x.toInt - lo).toNat _ ki (by rw [Array.getElem?_toList]; exact ho) (by omega) p l e s m args below meth c D cA ad H locs ls E hP hD hS hl
def k_lk (pc : Nat) (x : Int32) (P : Nat → Prop) (dflt : Int) : List (Int × Int) → Prop
  | [] => P ((pc : Int) + dflt).toNat
  | q :: qs => (x.toInt = q.1 → P ((pc : Int) + q.2).toNat) ∧ (¬ x.toInt = q.1 → k_lk pc x P dflt qs)
theorem k_lk_at {pc : Nat} {x : Int32} {P : Nat → Prop} {dflt : Int} : ∀ (qs : List (Int × Int)), k_lk pc x P dflt qs → P ((pc : Int) + Op.lookupswitch.offset qs dflt x.toInt).toNat := by
  intro qs
  induction qs with
  | nil => intro h; exact h
  | cons q qs ih =>
    intro h
    obtain ⟨a, o⟩ := q
    rw [Op.lookupswitch.offset_cons]
    by_cases hx : x.toInt = a
    · rw [if_pos hx.symm]; exact h.1 hx
    · rw [if_neg (fun z => hx z.symm)]; exact ih (h.2 hx)
theorem k_lk_pos {pc : Nat} {x dflt : Int} : ∀ (qs : List (Int × Int)), (qs.all fun o => decide (0 ≤ (pc : Int) + o.2)) = true → 0 ≤ (pc : Int) + dflt → 0 ≤ (pc : Int) + Op.lookupswitch.offset qs dflt x := by
  intro qs
  induction qs with
  | nil => intro _ h; exact h
  | cons q qs ih =>
    intro h h2
    obtain ⟨a, o⟩ := q
    simp only [List.all_cons, Bool.and_eq_true, decide_eq_true_eq] at h
    rw [Op.lookupswitch.offset_cons]
    split
    · exact h.1
    · exact ih h.2 h2
theorem x_lookup {S : kH} {j : kM} {pc : Nat} {lv : List (Option Value)} {st : List Value} {σ : kS} {r : Option Value} {τ : kS} {x : Int32} {dflt : Int} {ps : Array (Int × Int)} {len : Nat} (d : decode j.2.1 pc = .ok (.lookupswitch dflt ps, len)) (hp : (ps.toList.zip (ps.toList.drop 1)).all (fun (a, next) => a.1 < next.1) = true) (hpos : (ps.toList.all fun o => decide (0 ≤ (pc : Int) + o.2)) = true) (h0 : 0 ≤ (pc : Int) + dflt)
    (ki : k_lk pc x (fun t => Ex S j t lv st σ r τ) dflt ps.toList) : Ex S j pc lv (.int x :: st) σ r τ := by
  intro p l e s m args below meth c D cA ad H locs ls E hP hD hS hl
  have h1 := k_lk_pos (x := x.toInt) ps.toList hpos h0
  exact lv_lookup E.1 E.2.1 d hp rfl (tgt := ((pc : Int) + Op.lookupswitch.offset ps.toList dflt x.toInt).toNat) (by omega) (k_lk_at ps.toList ki p l e s m args below meth c D cA ad H locs ls E hP hD hS hl)
end
section
/-! rules over the cells -/
/-- own's pool entry idx names field k of class ci -/
def k_fl (own : String) (idx ci k : Nat) : Prop := ∃ (C : String) (T : u_T) (N : Nat), vwCl[ci]? = some (C, T, N) ∧ k < N ∧ (∀ w ∈ u_ws C T N, w ∈ k_ws) ∧ Cond.fieldLink own idx C (T k).2.1 (T k).2.2.1 ∈ k_ws ∧ (T k).1 = C
/-- and it is an int that may be written -/
def k_fp (own : String) (idx ci k : Nat) : Prop := ∃ (C : String) (T : u_T) (N : Nat) (ty0 : Nat → FieldType), vwCl[ci]? = some (C, T, N) ∧ k < N ∧ (∀ w ∈ u_ws C T N, w ∈ k_ws) ∧ Cond.fieldLink own idx C (T k).2.1 (T k).2.2.1 ∈ k_ws ∧ (T k).1 = C ∧ (∀ k, k < N → parseFieldDescriptor (T k).2.2.1 = some (ty0 k)) ∧ (∀ a, a < N → ∀ b, b < N → a ≠ b → (T a).2.1 ≠ (T b).2.1) ∧ (T k).2.2.2 = false ∧ parseFieldDescriptor (T k).2.2.1 = some .int
theorem k_fd_spec {S : kH} {a ci i : Nat} {o : Option Nat} (h1 : k_is S a 0 ci = true) (h2 : k_fd S a i = some o) : ∃ fs, S[a]? = some (0, ci, fs) ∧ fs[i]? = some o := by
  obtain ⟨fs, h⟩ := k_is_spec h1
  refine ⟨fs, h, ?_⟩
  simpa [k_fd, h] using h2
theorem x_getI {S : kH} {j : kM} {pc : Nat} {lv : List (Option Value)} {st : List Value} {σ : kS} {r : Option Value} {τ : kS} {idx ci i a : Nat} (d : decode j.2.1 pc = .ok (.getfield idx, 3)) (hf : k_fl j.1.cls idx ci i) (h1 : k_is S a 0 ci = true) (h2 : k_fd S a i = some none) (k : Ex S j (pc + 3) lv (.int (σ.1 a i) :: st) σ r τ) : Ex S j pc lv (.ref a :: st) σ r τ := by
  intro p l e s m args below meth c D cA ad H locs ls E hP hD hS hl
  obtain ⟨fs, h3, h4⟩ := k_fd_spec h1 h2
  obtain ⟨C, T, N, hc, hk, hin, hw, hT⟩ := hf
  exact va_get (D := D) (ci := ci) (v := .int (σ.1 a i)) (C := C) (T := T) (N := N) E.1 E.2.1 E.2.2.2.2.2.2.1 (fun w h => List.mem_cons_of_mem _ (hin w h)) E.2.2.2.2.2.1 E.2.2.2.2.2.2.2.1 hP a (k_wd_at h3) hc i hk (E.2.2.2.2.2.2.1 _ (List.mem_cons_of_mem _ hw)) (fun x hx => by rw [hT] at hx; exact hx) (by rw [List.getElem?_mapIdx, h4]; rfl) d (k p l e s m args below meth c D cA ad H locs ls E hP hD hS hl)
theorem x_getR {S : kH} {j : kM} {pc : Nat} {lv : List (Option Value)} {st : List Value} {σ : kS} {r : Option Value} {τ : kS} {idx ci i a q : Nat} (d : decode j.2.1 pc = .ok (.getfield idx, 3)) (hf : k_fl j.1.cls idx ci i) (h1 : k_is S a 0 ci = true) (h2 : k_fd S a i = some (some q)) (k : Ex S j (pc + 3) lv (.ref q :: st) σ r τ) : Ex S j pc lv (.ref a :: st) σ r τ := by
  intro p l e s m args below meth c D cA ad H locs ls E hP hD hS hl
  obtain ⟨fs, h3, h4⟩ := k_fd_spec h1 h2
  obtain ⟨C, T, N, hc, hk, hin, hw, hT⟩ := hf
  exact va_get (D := D) (ci := ci) (v := .ref (ad q)) (C := C) (T := T) (N := N) E.1 E.2.1 E.2.2.2.2.2.2.1 (fun w h => List.mem_cons_of_mem _ (hin w h)) E.2.2.2.2.2.1 E.2.2.2.2.2.2.2.1 hP a (k_wd_at h3) hc i hk (E.2.2.2.2.2.2.1 _ (List.mem_cons_of_mem _ hw)) (fun x hx => by rw [hT] at hx; exact hx) (by rw [List.getElem?_mapIdx, h4]; rfl) d (k p l e s m args below meth c D cA ad H locs ls E hP hD hS hl)
theorem x_putI {S : kH} {j : kM} {pc : Nat} {lv : List (Option Value)} {st : List Value} {σ : kS} {r : Option Value} {τ : kS} {idx ci i a : Nat} {v : Int32} (d : decode j.2.1 pc = .ok (.putfield idx, 3)) (hf : k_fp j.1.cls idx ci i) (h1 : k_is S a 0 ci = true) (h2 : k_fd S a i = some none) (k : Ex S j (pc + 3) lv st (k_si σ a i v) r τ) : Ex S j pc lv (.int v :: .ref a :: st) σ r τ := by
  intro p l e s m args below meth c D cA ad H locs ls E hP hD hS hl
  obtain ⟨fs, h3, h4⟩ := k_fd_spec h1 h2
  obtain ⟨C, T, N, ty0, hc, hk, hin, hw, hT, hty, hnm, hfin, hd⟩ := hf
  have hil : i < fs.length := (List.getElem?_eq_some_iff.mp h4).1
  have e1 : (k_wd S cA ad σ).set a (ad a, .inr (ci, (fs.mapIdx (k_fv ad (σ.1 a))).set i (.int v))) = k_wd S cA ad (k_si σ a i v) := by
    rw [k_fv_set (h' := (k_si σ a i v).1 a) h4 k_si_s]
    exact k_wd_set (τ := k_si σ a i v) h3 (fun b hb dd => k_cel_other (k_si_o hb) rfl dd)
  refine va_put (D := D) (ci := ci) (v := .int v) (ty := .int) (C := C) (T := T) (N := N) E.1 E.2.1 E.2.2.2.2.2.2.1 (fun w h => List.mem_cons_of_mem _ (hin w h)) ty0 hty hnm E.2.2.2.2.2.1 E.2.2.2.2.2.2.2.1 hP hD hS a (k_wd_at h3) hc i hk (E.2.2.2.2.2.2.1 _ (List.mem_cons_of_mem _ hw)) (fun x hx => by rw [hT] at hx; exact hx) hfin hd rfl rfl (by simpa using hil) d (fun H1 locs1 hP1 hD1 hS1 => ?_)
  rw [e1] at hP1 hD1
  exact k p l e s m args below meth c D cA ad H1 locs1 ls E hP1 hD1 hS1 hl
theorem x_iaload {S : kH} {j : kM} {pc : Nat} {lv : List (Option Value)} {st : List Value} {σ : kS} {r : Option Value} {τ : kS} {a n : Nat} {i : Int32} (d : decode j.2.1 pc = .ok (.iaload, 1)) (h1 : k_is S a 1 n = true) (hi : vp_in i n) (k : Ex S j (pc + 1) lv (.int (σ.1 a i.toNatClampNeg) :: st) σ r τ) : Ex S j pc lv (.int i :: .ref a :: st) σ r τ := by
  intro p l e s m args below meth c D cA ad H locs ls E hP hD hS hl
  obtain ⟨fs, h3⟩ := k_is_spec h1
  exact va_iald (n := n) (f := σ.1 a) E.1 E.2.1 E.2.2.2.2.2.2.2.1 hP a 0 (k_wd_at h3) rfl hi d (k p l e s m args below meth c D cA ad H locs ls E hP hD hS hl)
theorem x_laload {S : kH} {j : kM} {pc : Nat} {lv : List (Option Value)} {st : List Value} {σ : kS} {r : Option Value} {τ : kS} {a n : Nat} {i : Int32} (d : decode j.2.1 pc = .ok (.laload, 1)) (h1 : k_is S a 2 n = true) (hi : vp_in i n) (k : Ex S j (pc + 1) lv (.long (σ.2 a i.toNatClampNeg) :: st) σ r τ) : Ex S j pc lv (.int i :: .ref a :: st) σ r τ := by
  intro p l e s m args below meth c D cA ad H locs ls E hP hD hS hl
  obtain ⟨fs, h3⟩ := k_is_spec h1
  exact va_lald (n := n) (f := σ.2 a) E.1 E.2.1 E.2.2.2.2.2.2.2.1 hP a 1 (k_wd_at h3) rfl hi d (k p l e s m args below meth c D cA ad H locs ls E hP hD hS hl)
theorem x_baload {S : kH} {j : kM} {pc : Nat} {lv : List (Option Value)} {st : List Value} {σ : kS} {r : Option Value} {τ : kS} {a n : Nat} {i : Int32} (d : decode j.2.1 pc = .ok (.baload, 1)) (h1 : k_is S a 3 n = true) (hi : vp_in i n) (k : Ex S j (pc + 1) lv (.int (σ.1 a i.toNatClampNeg) :: st) σ r τ) : Ex S j pc lv (.int i :: .ref a :: st) σ r τ := by
  intro p l e s m args below meth c D cA ad H locs ls E hP hD hS hl
  obtain ⟨fs, h3⟩ := k_is_spec h1
  exact va_zald (n := n) (f := σ.1 a) E.1 E.2.1 E.2.2.2.2.2.2.2.1 hP a 2 (k_wd_at h3) rfl hi d (k p l e s m args below meth c D cA ad H locs ls E hP hD hS hl)
theorem x_iastore {S : kH} {j : kM} {pc : Nat} {lv : List (Option Value)} {st : List Value} {σ : kS} {r : Option Value} {τ : kS} {a n : Nat} {i v : Int32} (d : decode j.2.1 pc = .ok (.iastore, 1)) (h1 : k_is S a 1 n = true) (hi : vp_in i n) (k : Ex S j (pc + 1) lv st (k_si σ a i.toNatClampNeg v) r τ) : Ex S j pc lv (.int v :: .int i :: .ref a :: st) σ r τ := by
  intro p l e s m args below meth c D cA ad H locs ls E hP hD hS hl
  obtain ⟨fs, h3⟩ := k_is_spec h1
  have e1 : (k_wd S cA ad σ).set a (ad a, .inl (cA 1, n, .inl (upd (σ.1 a) i.toNatClampNeg v))) = k_wd S cA ad (k_si σ a i.toNatClampNeg v) := by
    rw [← k_si_s]
    exact k_wd_set (τ := k_si σ a i.toNatClampNeg v) h3 (fun b hb dd => k_cel_other (k_si_o hb) rfl dd)
  refine va_iast (n := n) (f := σ.1 a) (x := v) E.1 E.2.1 E.2.2.2.2.2.2.2.1 hP hD hS a 0 (k_wd_at h3) rfl hi d (fun H1 locs1 hP1 hD1 hS1 => ?_)
  rw [e1] at hP1 hD1
  exact k p l e s m args below meth c D cA ad H1 locs1 ls E hP1 hD1 hS1 hl
theorem x_bastore {S : kH} {j : kM} {pc : Nat} {lv : List (Option Value)} {st : List Value} {σ : kS} {r : Option Value} {τ : kS} {a n : Nat} {i v : Int32} (d : decode j.2.1 pc = .ok (.bastore, 1)) (h1 : k_is S a 3 n = true) (hi : vp_in i n) (k : Ex S j (pc + 1) lv st (k_si σ a i.toNatClampNeg (vp_nar .boolean v)) r τ) : Ex S j pc lv (.int v :: .int i :: .ref a :: st) σ r τ := by
  intro p l e s m args below meth c D cA ad H locs ls E hP hD hS hl
  obtain ⟨fs, h3⟩ := k_is_spec h1
  have e1 : (k_wd S cA ad σ).set a (ad a, .inl (cA 3, n, .inl (upd (σ.1 a) i.toNatClampNeg (vp_nar .boolean v)))) = k_wd S cA ad (k_si σ a i.toNatClampNeg (vp_nar .boolean v)) := by
    rw [← k_si_s]
    exact k_wd_set (τ := k_si σ a i.toNatClampNeg (vp_nar .boolean v)) h3 (fun b hb dd => k_cel_other (k_si_o hb) rfl dd)
  refine va_zast (n := n) (f := σ.1 a) (x := v) E.1 E.2.1 E.2.2.2.2.2.2.2.1 hP hD hS a 2 (k_wd_at h3) rfl hi d (fun H1 locs1 hP1 hD1 hS1 => ?_)
  rw [e1] at hP1 hD1
  exact k p l e s m args below meth c D cA ad H1 locs1 ls E hP1 hD1 hS1 hl
theorem x_lastore {S : kH} {j : kM} {pc : Nat} {lv : List (Option Value)} {st : List Value} {σ : kS} {r : Option Value} {τ : kS} {a n : Nat} {i : Int32} {v : Int64} (d : decode j.2.1 pc = .ok (.lastore, 1)) (h1 : k_is S a 2 n = true) (hi : vp_in i n) (k : Ex S j (pc + 1) lv st (k_sl σ a i.toNatClampNeg v) r τ) : Ex S j pc lv (.long v :: .int i :: .ref a :: st) σ r τ := by
  intro p l e s m args below meth c D cA ad H locs ls E hP hD hS hl
  obtain ⟨fs, h3⟩ := k_is_spec h1
  have e1 : (k_wd S cA ad σ).set a (ad a, .inl (cA 2, n, .inr (.inl (vp_updL (σ.2 a) i.toNatClampNeg v)))) = k_wd S cA ad (k_sl σ a i.toNatClampNeg v) := by
    rw [← k_sl_s]
    exact k_wd_set (τ := k_sl σ a i.toNatClampNeg v) h3 (fun b hb dd => k_cel_other (τ := k_sl σ a i.toNatClampNeg v) (σ := σ) rfl (k_sl_o hb) dd)
  refine va_last (n := n) (f := σ.2 a) (x := v) E.1 E.2.1 E.2.2.2.2.2.2.2.1 hP hD hS a 1 (k_wd_at h3) rfl hi d (fun H1 locs1 hP1 hD1 hS1 => ?_)
  rw [e1] at hP1 hD1
  exact k p l e s m args below meth c D cA ad H1 locs1 ls E hP1 hD1 hS1 hl
/-- a row of references (Valley: 4, Sheet: 5) -/
theorem x_aaload4 {S : kH} {j : kM} {pc : Nat} {lv : List (Option Value)} {st : List Value} {σ : kS} {r : Option Value} {τ : kS} {a n q : Nat} {i : Int32} (d : decode j.2.1 pc = .ok (.aaload, 1)) (h1 : k_is S a 4 n = true) (hi : vp_in i n) (h2 : k_fd S a i.toNatClampNeg = some (some q)) (k : Ex S j (pc + 1) lv (.ref q :: st) σ r τ) : Ex S j pc lv (.int i :: .ref a :: st) σ r τ := by
  intro p l e s m args below meth c D cA ad H locs ls E hP hD hS hl
  obtain ⟨fs, h3⟩ := k_is_spec h1
  have h4 : fs[i.toNatClampNeg]? = some (some q) := by simpa [k_fd, h3] using h2
  refine va_aldq (n := n) (f := fun i => (fs.getD i none).map ad) (C := RX7) E.1 E.2.1 E.2.2.2.2.2.2.2.1 hP a 3 (k_wd_at h3) rfl hi d ?_
  have e1 : va_rf ((fs.getD i.toNatClampNeg none).map ad) = .ref (ad q) := by rw [List.getD_eq_getElem?_getD, h4]; rfl
  rw [e1]
  exact k p l e s m args below meth c D cA ad H locs ls E hP hD hS hl
theorem x_aaload5 {S : kH} {j : kM} {pc : Nat} {lv : List (Option Value)} {st : List Value} {σ : kS} {r : Option Value} {τ : kS} {a n q : Nat} {i : Int32} (d : decode j.2.1 pc = .ok (.aaload, 1)) (h1 : k_is S a 5 n = true) (hi : vp_in i n) (h2 : k_fd S a i.toNatClampNeg = some (some q)) (k : Ex S j (pc + 1) lv (.ref q :: st) σ r τ) : Ex S j pc lv (.int i :: .ref a :: st) σ r τ := by
  intro p l e s m args below meth c D cA ad H locs ls E hP hD hS hl
  obtain ⟨fs, h3⟩ := k_is_spec h1
  have h4 : fs[i.toNatClampNeg]? = some (some q) := by simpa [k_fd, h3] using h2
  refine va_aldq (n := n) (f := fun i => (fs.getD i none).map ad) (C := RX4) E.1 E.2.1 E.2.2.2.2.2.2.2.1 hP a 4 (k_wd_at h3) rfl hi d ?_
  have e1 : va_rf ((fs.getD i.toNatClampNeg none).map ad) = .ref (ad q) := by rw [List.getD_eq_getElem?_getD, h4]; rfl
  rw [e1]
  exact k p l e s m args below meth c D cA ad H locs ls E hP hD hS hl
theorem x_ilen {S : kH} {j : kM} {pc : Nat} {lv : List (Option Value)} {st : List Value} {σ : kS} {r : Option Value} {τ : kS} {a n : Nat} (d : decode j.2.1 pc = .ok (.arraylength, 1)) (h1 : k_is S a 1 n = true) (k : Ex S j (pc + 1) lv (.int (nI n) :: st) σ r τ) : Ex S j pc lv (.ref a :: st) σ r τ := by
  intro p l e s m args below meth c D cA ad H locs ls E hP hD hS hl
  obtain ⟨fs, h3⟩ := k_is_spec h1
  exact va_alen (x := (n, .inl (σ.1 a))) E.1 E.2.1 E.2.2.2.2.2.2.2.1 hP a 0 (k_wd_at h3) rfl rfl d (k p l e s m args below meth c D cA ad H locs ls E hP hD hS hl)
theorem x_llen {S : kH} {j : kM} {pc : Nat} {lv : List (Option Value)} {st : List Value} {σ : kS} {r : Option Value} {τ : kS} {a n : Nat} (d : decode j.2.1 pc = .ok (.arraylength, 1)) (h1 : k_is S a 2 n = true) (k : Ex S j (pc + 1) lv (.int (nI n) :: st) σ r τ) : Ex S j pc lv (.ref a :: st) σ r τ := by
  intro p l e s m args below meth c D cA ad H locs ls E hP hD hS hl
  obtain ⟨fs, h3⟩ := k_is_spec h1
  exact va_alen (x := (n, .inr (.inl (σ.2 a)))) E.1 E.2.1 E.2.2.2.2.2.2.2.1 hP a 1 (k_wd_at h3) rfl rfl d (k p l e s m args below meth c D cA ad H locs ls E hP hD hS hl)
/-! static rows that nobody writes -/
theorem x_getS {S : kH} {j : kM} {pc : Nat} {lv : List (Option Value)} {st : List Value} {σ : kS} {r : Option Value} {τ : kS} {idx id N : Nat} {C n ds : String} {f : Nat → Int32} (d : decode j.2.1 pc = .ok (.getstatic idx, 3)) (hq : (id, C, n, ds, N, f) ∈ k_sts) (hw : Cond.fieldLink j.1.cls idx C n ds ∈ k_ws) (k : Ex S j (pc + 3) lv (.ref id :: st) σ r τ) : Ex S j pc lv st σ r τ := by
  intro p l e s m args below meth c D cA ad H locs ls E hP hD hS hl
  exact va_gets E.1 E.2.1 (E.2.2.2.2.2.2.2.2.2 _ hq).1 hS E.2.2.2.2.2.1 (E.2.2.2.2.2.2.1 _ (List.mem_cons_of_mem _ hw)) (fun x hx => hx) d (k p l e s m args below meth c D cA ad H locs ls E hP hD hS hl)
theorem x_getSN {S : kH} {j : kM} {pc : Nat} {lv : List (Option Value)} {st : List Value} {σ : kS} {r : Option Value} {τ : kS} {idx id N : Nat} {C n ds host : String} {f : Nat → Int32} (d : decode j.2.1 pc = .ok (.getstatic idx, 3)) (hq : (id, C, n, ds, N, f) ∈ k_sts) (hw : (j.1.cls, idx, C, n, ds, host) ∈ k_nwF) (k : Ex S j (pc + 3) lv (.ref id :: st) σ r τ) : Ex S j pc lv st σ r τ := by
  intro p l e s m args below meth c D cA ad H locs ls E hP hD hS hl
  exact va_getsN E.1 E.2.1 (E.2.2.2.2.2.2.2.2.2 _ hq).1 hS E.2.2.2.2.2.1 (va_Nw.use rfl (E.2.2.2.2.2.2.2.2.1.2 _ hw)) (fun x hx => hx) d (k p l e s m args below meth c D cA ad H locs ls E hP hD hS hl)
theorem x_ialoadS {S : kH} {j : kM} {pc : Nat} {lv : List (Option Value)} {st : List Value} {σ : kS} {r : Option Value} {τ : kS} {id N : Nat} {C n ds : String} {f : Nat → Int32} {i : Int32} (d : decode j.2.1 pc = .ok (.iaload, 1)) (hq : (id, C, n, ds, N, f) ∈ k_sts) (hi : vp_in i N) (k : Ex S j (pc + 1) lv (.int (f i.toNatClampNeg) :: st) σ r τ) : Ex S j pc lv (.int i :: .ref id :: st) σ r τ := by
  intro p l e s m args below meth c D cA ad H locs ls E hP hD hS hl
  exact va_ti E.1 E.2.1 (E.2.2.2.2.2.2.2.2.2 _ hq).2 hS hi rfl d (k p l e s m args below meth c D cA ad H locs ls E hP hD hS hl)
/-! System.arraycopy -/
def k_ac (own : String) (idx : Nat) : Prop := Cond.methodLink own idx arraycopyName ∈ k_ws ∧ Cond.native arraycopyName ∈ k_ws ∧ Cond.static arraycopyName ∈ k_ws ∧ Cond.initialized "java/lang/System" ∈ k_ws
def k_cat (st : List Value) : Nat := (st.map fun v => v.category).sum
theorem k_cat_cv (ad : Nat → Nat) (st : List Value) : ((st.map (k_cv ad)).map fun v => v.category).sum = k_cat st := by
  unfold k_cat
  rw [List.map_map]
  congr 1
  exact List.map_congr_left (fun v _ => k_cv_cat ad v)
theorem x_copyi {S : kH} {j : kM} {pc : Nat} {lv : List (Option Value)} {st : List Value} {σ : kS} {r : Option Value} {τ : kS} {idx a0 a1 n0 n1 : Nat} {sp dp n : Int32} (d : decode j.2.1 pc = .ok (.invokestatic idx, 3)) (hw : k_ac j.1.cls idx) (h0 : k_is S a0 1 n0 = true) (h1 : k_is S a1 1 n1 = true)
    (h2 : ¬ sp < 0 ∧ ¬ dp < 0 ∧ ¬ n < 0 ∧ sp.toNatClampNeg + n.toNatClampNeg ≤ n0 ∧ dp.toNatClampNeg + n.toNatClampNeg ≤ n1) (hR : 1 ≤ j.2.2.2.2.1 ∧ k_cat st + (nativeFrameWords "java/lang/System" "arraycopy" 5 + 11) ≤ j.2.2.2.2.2)
    (k : Ex S j (pc + 3) lv st (k_cp σ a0 a1 sp.toNatClampNeg dp.toNatClampNeg n.toNatClampNeg) r τ) : Ex S j pc lv (.int n :: .int dp :: .ref a1 :: .int sp :: .ref a0 :: st) σ r τ := by
  intro p l e s m args below meth c D cA ad H locs ls E hP hD hS hl
  obtain ⟨fs0, h3⟩ := k_is_spec h0
  obtain ⟨fs1, h4⟩ := k_is_spec h1
  have wd := fun w h => E.2.2.2.2.2.2.1 w (List.mem_cons_of_mem _ h)
  have e1 : (k_wd S cA ad σ).set a1 (ad a1, .inl (cA 1, n1, .inl (va_cpy (σ.1 a0) (σ.1 a1) sp.toNatClampNeg dp.toNatClampNeg n.toNatClampNeg))) = k_wd S cA ad (k_cp σ a0 a1 sp.toNatClampNeg dp.toNatClampNeg n.toNatClampNeg) := by
    rw [← k_cp_s]
    exact k_wd_set (τ := k_cp σ a0 a1 _ _ _) h4 (fun b hb dd => k_cel_other (k_cp_o hb) rfl dd)
  refine va_copyi (ty := .int) E.1 E.2.1 (E.2.2.1.trans hl.1.symm) E.2.2.2.2.2.1 (wd _ hw.1) (wd _ hw.2.1) (wd _ hw.2.2.1) (wd _ hw.2.2.2) E.2.2.2.2.2.2.2.1 hP hD hS a0 a1 0 0 (k_wd_at h3) (k_wd_at h4) rfl rfl rfl h2.1 h2.2.1 h2.2.2.1 h2.2.2.2.1 h2.2.2.2.2 (fun _ _ => rfl) hR.1 (by rw [k_cat_cv]; exact hR.2) d (fun H1 locs1 hP1 hD1 hS1 => ?_)
  rw [e1] at hP1 hD1
  exact k p l e s m args below meth c D cA ad H1 locs1 ls E hP1 hD1 hS1 hl
theorem x_copyl {S : kH} {j : kM} {pc : Nat} {lv : List (Option Value)} {st : List Value} {σ : kS} {r : Option Value} {τ : kS} {idx a0 a1 n0 n1 : Nat} {sp dp n : Int32} (d : decode j.2.1 pc = .ok (.invokestatic idx, 3)) (hw : k_ac j.1.cls idx) (h0 : k_is S a0 2 n0 = true) (h1 : k_is S a1 2 n1 = true)
    (h2 : ¬ sp < 0 ∧ ¬ dp < 0 ∧ ¬ n < 0 ∧ sp.toNatClampNeg + n.toNatClampNeg ≤ n0 ∧ dp.toNatClampNeg + n.toNatClampNeg ≤ n1) (hR : 1 ≤ j.2.2.2.2.1 ∧ k_cat st + (nativeFrameWords "java/lang/System" "arraycopy" 5 + 11) ≤ j.2.2.2.2.2)
    (k : Ex S j (pc + 3) lv st (k_cl σ a0 a1 sp.toNatClampNeg dp.toNatClampNeg n.toNatClampNeg) r τ) : Ex S j pc lv (.int n :: .int dp :: .ref a1 :: .int sp :: .ref a0 :: st) σ r τ := by
  intro p l e s m args below meth c D cA ad H locs ls E hP hD hS hl
  obtain ⟨fs0, h3⟩ := k_is_spec h0
  obtain ⟨fs1, h4⟩ := k_is_spec h1
  have wd := fun w h => E.2.2.2.2.2.2.1 w (List.mem_cons_of_mem _ h)
  have e1 : (k_wd S cA ad σ).set a1 (ad a1, .inl (cA 2, n1, .inr (.inl (va_cpy (σ.2 a0) (σ.2 a1) sp.toNatClampNeg dp.toNatClampNeg n.toNatClampNeg)))) = k_wd S cA ad (k_cl σ a0 a1 sp.toNatClampNeg dp.toNatClampNeg n.toNatClampNeg) := by
    rw [← k_cl_s]
    exact k_wd_set (τ := k_cl σ a0 a1 _ _ _) h4 (fun b hb dd => k_cel_other (τ := k_cl σ a0 a1 sp.toNatClampNeg dp.toNatClampNeg n.toNatClampNeg) (σ := σ) rfl (k_cl_o hb) dd)
  refine va_copyl (ty := .long) E.1 E.2.1 (E.2.2.1.trans hl.1.symm) E.2.2.2.2.2.1 (wd _ hw.1) (wd _ hw.2.1) (wd _ hw.2.2.1) (wd _ hw.2.2.2) E.2.2.2.2.2.2.2.1 hP hD hS a0 a1 1 1 (k_wd_at h3) (k_wd_at h4) rfl rfl rfl h2.1 h2.2.1 h2.2.2.1 h2.2.2.2.1 h2.2.2.2.2 (fun _ _ => rfl) hR.1 (by rw [k_cat_cv]; exact hR.2) d (fun H1 locs1 hP1 hD1 hS1 => ?_)
  rw [e1] at hP1 hD1
  exact k p l e s m args below meth c D cA ad H1 locs1 ls E hP1 hD1 hS1 hl
/-! calls -/
theorem k_ws_good : ∀ w ∈ k_ws, goodWord w = true := fun _ h => (List.mem_filter.mp h).2
theorem k_A_narrow {ad : Nat → Nat} {n a b : Nat} (h : a ≤ b) : ∀ q, k_A ad n b q → k_A ad n a q := fun _ h2 => h2.elim Or.inl (fun h3 => Or.inr (Nat.le_trans h h3))
theorem k_nw_same {u U : State} (h : u.vm = U.vm) (hZ : k_nw u) : k_nw U := ⟨fun q hq => va_Nw.same rfl h (hZ.1 q hq), fun q hq => va_Nw.same rfl h (hZ.2 q hq)⟩
theorem k_nw_warm {s U : State} (h : s.WarmedH U.vm) (hZ : k_nw s) : k_nw U := ⟨fun q hq => va_Nw.warmM h (hZ.1 q hq), fun q hq => va_Nw.warmF h (hZ.2 q hq)⟩
theorem k_blind {S : kH} {D : va_G} {cA : Nat → ClassId} {ad : Nat → Nat} {sz : Nat} {σ : kS} {av : List Value} : FrameBlind (va_Pc av (fun U => U.heap.size = sz ∧ k_G S D cA ad sz σ U)) := by
  intro a U g mk q
  obtain ⟨q0, q1, qP, qK, qD, qN, qS⟩ := q
  exact ⟨q0, q1, qP, va_K.moved (u := U) (U := U.calling g mk a) (Vm.Alike.refl U.vm) qK, qD, k_nw_same (u := U) (U := U.calling g mk a) rfl qN, fun x hx => ⟨(qS x hx).1.moved (u := U) (U := U.calling g mk a) (Vm.Alike.refl U.vm), (qS x hx).2.moved (u := U) (U := U.calling g mk a) (Vm.Alike.refl U.vm)⟩⟩
/-- what a caller's frame gives the callee -/
theorem k_gives {S : kH} {j : kM} {p : Program} {s : State} {m : MethodId} {args : Array Value} {meth : Method} {c : Code} {D : va_G} {cA : Nat → ClassId} {ad : Nat → Nat} {σ : kS} {H : Heap} {locs : List Loc} (E : k_ev S j p s m args meth c D cA ad) (hP : va_P D vwCl (k_wd S cA ad σ) H) (hD : va_D (k_A ad S.length s.heap.size) (k_wd S cA ad σ)) (hS : va_S (k_A ad S.length s.heap.size) s.heap H locs) (U : State) (hU : U.heap = H) (hW : s.WarmedH U.vm) : U.heap.size = H.size ∧ k_G S D cA ad H.size σ U := by
  refine ⟨by rw [hU], by rw [hU]; exact hP, va_K.moved hW.alike E.2.2.2.2.2.2.2.1, k_DA hD (fun k hk => Or.inl ⟨k, hk, rfl⟩), k_nw_warm hW E.2.2.2.2.2.2.2.2.1, fun q hq => ?_⟩
  obtain ⟨h1, h2⟩ := E.2.2.2.2.2.2.2.2.2 q hq
  rw [hU]
  exact ⟨((h1.moved hW.alike).kept (fun a ha hA => hS.2.1 a ha hA)).narrow (k_A_narrow hS.1), ((h2.moved hW.alike).kept (fun a ha hA => hS.2.1 a ha hA)).narrow (k_A_narrow hS.1)⟩
theorem k_back {S : kH} {j : kM} {pc : Nat} {lv : List (Option Value)} {rest : List Value} {σ υ : kS} {r r1 : Option Value} {τ : kS} (k : Ex S j (pc + 3) lv (r1.toList ++ rest) υ r τ) {p : Program} {l : Launch} {e : Env} {s : State} {m : MethodId} {args : Array Value} {below : List Frame} {meth : Method} {c : Code} {D : va_G} {cA : Nat → ClassId} {ad : Nat → Nat} {H : Heap} {locs : List Loc} {ls : Array Slot} {st0 : List Value} {a : Array Value}
    (E : k_ev S j p s m args meth c D cA ad) (hD : va_D (k_A ad S.length s.heap.size) (k_wd S cA ad σ)) (hS : va_S (k_A ad S.length s.heap.size) s.heap H locs) (hl : k_lh ad ls j.2.2.1 lv)
    (hr : va_Run p l e (k_rm j) s m args below meth c H locs 0 0 0 0 (F0 m pc ls st0) (rest.map (k_cv ad)) (k_Q S D cA ad r1 υ a) (k_A ad S.length H.size)) :
    W p l e (k_rm j) s m args below meth c H locs 0 0 (MQ below (k_Q S D cA ad r τ) args s 0 0 (k_A ad S.length s.heap.size)) (F0 m pc ls st0) := by
  intro T hT X
  obtain ⟨v, st₀, t, T', L, h0, X', hL, e1, e2, ⟨⟨hv, hp⟩, hz, hk⟩, st⟩ := hr T hT X
  cases hv
  rw [h0] at hz hk
  have hs1 : va_S (k_A ad S.length s.heap.size) s.heap T'.heap (locs ++ L) := ⟨Nat.le_trans hS.1 (by rw [e1]; exact hz), fun q h1 h2 => by rw [e1, hk q (Nat.lt_of_lt_of_le h1 hS.1) (fun z => h2 (k_A_narrow hS.1 q z))]; exact hS.2.1 q h1 h2, fun q hq => by
    rcases List.mem_append.mp hq with h | h
    · exact hS.2.2 q h
    · exact k_A_narrow hS.1 _ (hL q h)⟩
  obtain ⟨t2, a1, b1⟩ := k p l e s m args below meth c D cA ad T'.heap (locs ++ L) ls E (by rw [e1]; exact hp) (k_DA hD (fun k hk => Or.inl ⟨k, hk, rfl⟩)) hs1 hl T' rfl X'
  refine ⟨t2, st t2 ?_, b1⟩
  have e3 : (r1.toList ++ rest).map (k_cv ad) = (r1.map (k_cv ad)).toList ++ rest.map (k_cv ad) := by cases r1 <;> simp
  rw [e3] at a1
  exact a1
/-- a callee h of j: its words, its room -/
def k_fit (j h : kM) (n : Nat) : Prop := Cond.code h.1 h.2.1 h.2.2.1 h.2.2.2.1 ∈ k_ws ∧ Cond.initialized h.1.cls ∈ k_ws ∧ (h.1.cls ≠ "java/lang/invoke/MethodHandle" ∧ h.1.cls ≠ "java/lang/invoke/VarHandle" ∧ (parseMethodDescriptor h.1.desc).map (fun d => d.parameters.length) = some n) ∧ (h.2.2.2.2.1 + 1 ≤ j.2.2.2.2.1 ∧ 8 + (h.2.2.1 + 11) + h.2.2.2.2.2 ≤ j.2.2.2.2.2)
theorem k_good {j h : kM} (hc : Cond.code h.1 h.2.1 h.2.2.1 h.2.2.2.1 ∈ k_ws) : GoodIn (Cond.code j.1 j.2.1 j.2.2.1 j.2.2.2.1 :: k_ws) (Cond.code h.1 h.2.1 h.2.2.1 h.2.2.2.1 :: k_ws) := by
  intro w hw
  rcases List.mem_cons.mp hw with e | h2
  · subst e
    exact ⟨List.mem_cons_of_mem _ hc, good_of_word (k_ws_good _ hc)⟩
  · exact ⟨List.mem_cons_of_mem _ h2, good_of_word (k_ws_good _ h2)⟩
def k_cl_v (j : kM) (idx : Nat) (h : kM) (n : Nat) : Prop := k_fit j h n ∧ Cond.methodLink j.1.cls idx h.1 ∈ k_ws ∧ Cond.instanceMethod h.1 ∈ k_ws ∧ Cond.selects h.1.cls h.1 h.1 ∈ k_ws
def k_cl_s' (j : kM) (idx : Nat) (h : kM) (n : Nat) : Prop := k_fit j h n ∧ Cond.methodLink j.1.cls idx h.1 ∈ k_ws ∧ Cond.static h.1 ∈ k_ws
def k_cl_n (j : kM) (idx : Nat) (h : kM) (n : Nat) : Prop := k_fit j h n ∧ (∃ host, (j.1.cls, idx, h.1, host) ∈ k_nwM) ∧ Cond.static h.1 ∈ k_ws
theorem x_callV {S : kH} {j : kM} {pc : Nat} {lv : List (Option Value)} {st : List Value} {σ υ : kS} {r r1 : Option Value} {τ : kS} {idx n b ci : Nat} {h : kM} {T : u_T} {N : Nat} (As rest : List Value) (d : decode j.2.1 pc = .ok (.invokevirtual idx, 3)) (hw : k_cl_v j idx h n) (hcl : vwCl[ci]? = some (h.1.cls, T, N)) (hb : k_is S b 0 ci = true) (hst : st = As.reverse ++ .ref b :: rest) (hn : As.length = n) (hc : k_cat rest ≤ 8)
    (hM : Run S h (.ref b :: As) σ r1 υ) (k : Ex S j (pc + 3) lv (r1.toList ++ rest) υ r τ) : Ex S j pc lv st σ r τ := by
  intro p l e s m args below meth c D cA ad H locs ls E hP hD hS hl
  obtain ⟨⟨w1, w2, w3, w4⟩, w5, w6, w7⟩ := hw
  have wd := fun w h => E.2.2.2.2.2.2.1 w (List.mem_cons_of_mem _ h)
  obtain ⟨fs, h3⟩ := k_is_spec hb
  refine k_back (rest := rest) (a := (Value.ref (ad b) :: As.map (k_cv ad)).toArray) k E hD hS hl ?_
  refine va_runV (C := h.1.cls) (As := As.map (k_cv ad)) (nL := j.2.2.1) (Ts := Cond.code j.1 j.2.1 j.2.2.1 j.2.2.2.1 :: k_ws) ⟨E.1, E.2.1, E.2.2.1, E.2.2.2.2.2.1, E.2.2.2.2.2.2.1⟩ (hM l D cA ad H.size) ⟨callB_of n E.2.2.2.2.2.2.1 (k_good w1) rfl rfl rfl (wd _ w2) (wd _ w5) w3 w4, wd _ w6, wd _ w7⟩ ⟨k_blind, va_recv E.2.2.2.2.2.2.2.1 hP hcl (k_wd_at h3), fun U hU hW => ⟨rfl, k_gives E hP hD hS U hU hW⟩⟩ rfl (by simpa using hn) hl.1 ?_ (lv_room (by rw [k_cat_cv]; exact hc)) d ⟨Nat.le_refl _, Nat.le_refl _⟩
  show st.map (k_cv ad) = _
  rw [hst, List.map_append, List.map_reverse]
  rfl
theorem x_callS {S : kH} {j : kM} {pc : Nat} {lv : List (Option Value)} {st : List Value} {σ υ : kS} {r r1 : Option Value} {τ : kS} {idx n : Nat} {h : kM} (As rest : List Value) (d : decode j.2.1 pc = .ok (.invokestatic idx, 3)) (hw : k_cl_s' j idx h n) (hst : st = As.reverse ++ rest) (hn : As.length = n) (hc : k_cat rest ≤ 8)
    (hM : Run S h As σ r1 υ) (k : Ex S j (pc + 3) lv (r1.toList ++ rest) υ r τ) : Ex S j pc lv st σ r τ := by
  intro p l e s m args below meth c D cA ad H locs ls E hP hD hS hl
  obtain ⟨⟨w1, w2, w3, w4⟩, w5, w6⟩ := hw
  have wd := fun w h => E.2.2.2.2.2.2.1 w (List.mem_cons_of_mem _ h)
  refine k_back (rest := rest) (a := (As.map (k_cv ad)).toArray) k E hD hS hl ?_
  refine va_runS (As := As.map (k_cv ad)) (nL := j.2.2.1) (Ts := Cond.code j.1 j.2.1 j.2.2.1 j.2.2.2.1 :: k_ws) ⟨E.1, E.2.1, E.2.2.1, E.2.2.2.2.2.1, E.2.2.2.2.2.2.1⟩ (hM l D cA ad H.size) ⟨callB_of n E.2.2.2.2.2.2.1 (k_good w1) rfl rfl rfl (wd _ w2) (wd _ w5) w3 w4, wd _ w6⟩ ⟨k_blind, fun U hU hW => ⟨rfl, k_gives E hP hD hS U hU hW⟩⟩ rfl (by simpa using hn) hl.1 ?_ (lv_room (by rw [k_cat_cv]; exact hc)) d ⟨Nat.le_refl _, Nat.le_refl _⟩
  show st.map (k_cv ad) = _
  rw [hst, List.map_append, List.map_reverse]
theorem x_callN {S : kH} {j : kM} {pc : Nat} {lv : List (Option Value)} {st : List Value} {σ υ : kS} {r r1 : Option Value} {τ : kS} {idx n : Nat} {h : kM} (As rest : List Value) (d : decode j.2.1 pc = .ok (.invokestatic idx, 3)) (hw : k_cl_n j idx h n) (hst : st = As.reverse ++ rest) (hn : As.length = n) (hc : k_cat rest ≤ 8)
    (hM : Run S h As σ r1 υ) (k : Ex S j (pc + 3) lv (r1.toList ++ rest) υ r τ) : Ex S j pc lv st σ r τ := by
  intro p l e s m args below meth c D cA ad H locs ls E hP hD hS hl
  obtain ⟨⟨w1, w2, w3, w4⟩, ⟨host, w5⟩, w6⟩ := hw
  have wd := fun w h => E.2.2.2.2.2.2.1 w (List.mem_cons_of_mem _ h)
  refine k_back (rest := rest) (a := (As.map (k_cv ad)).toArray) k E hD hS hl ?_
  refine va_runSN (host := host) (As := As.map (k_cv ad)) (nL := j.2.2.1) (Ts := Cond.code j.1 j.2.1 j.2.2.1 j.2.2.2.1 :: k_ws) ⟨E.1, E.2.1, E.2.2.1, E.2.2.2.2.2.1, E.2.2.2.2.2.2.1⟩ (hM l D cA ad H.size) ⟨va_cnB n E.2.2.2.2.2.2.1 (k_good w1) rfl rfl rfl (E.2.2.2.2.2.2.2.2.1.1 _ w5) (wd _ w2) w3 w4, wd _ w6, trivial⟩ ⟨k_blind, fun U hU hW => ⟨rfl, k_gives E hP hD hS U hU hW⟩⟩ rfl (by simpa using hn) hl.1 ?_ (lv_room (by rw [k_cat_cv]; exact hc)) d ⟨Nat.le_refl _, Nat.le_refl _⟩
  show st.map (k_cv ad) = _
  rw [hst, List.map_append, List.map_reverse]
/-! a method, from its entry -/
def k_la (n : Nat) (av : List Value) : List (Option Value) := match av with
  | [] => List.replicate n none
  | v :: vs => if v.category = 2 then some v :: none :: k_la (n - 2) vs else some v :: k_la (n - 1) vs
theorem k_la_mem {ad : Nat → Nat} : ∀ (av : List Value) (n b i : Nat) (v : Value), (k_la n av)[i]? = some (some v) → (b + i, k_cv ad v) ∈ lv_args b (av.map (k_cv ad)) := by
  intro av
  induction av with
  | nil =>
    intro n b i v h
    simp only [k_la, List.getElem?_replicate] at h
    split at h <;> simp at h
  | cons w vs ih =>
    intro n b i v h
    rw [k_la] at h
    simp only [List.map_cons, lv_args, k_cv_cat]
    by_cases hc : w.category = 2
    · rw [if_pos hc] at h ⊢
      match i, h with
      | 0, h => simp at h; subst h; exact List.mem_cons_self
      | 1, h => simp at h
      | i + 2, h =>
        simp only [List.getElem?_cons_succ] at h
        have := ih (n - 2) (b + 2) i v h
        rw [show b + (i + 2) = b + 2 + i by omega]
        exact List.mem_cons_of_mem _ this
    · rw [if_neg hc] at h ⊢
      match i, h with
      | 0, h => simp at h; subst h; exact List.mem_cons_self
      | i + 1, h =>
        simp only [List.getElem?_cons_succ] at h
        have := ih (n - 1) (b + 1) i v h
        rw [show b + (i + 1) = b + 1 + i by omega]
        exact List.mem_cons_of_mem _ this
theorem x_run {S : kH} {j : kM} {av : List Value} {σ : kS} {r : Option Value} {τ : kS} (lv : List (Option Value)) (hy : plainName j.1.cls = true) (hlv : k_la j.2.2.1 av = lv) (hn : k_cat av ≤ j.2.2.1) (k : Ex S j 0 lv [] σ r τ) : Run S j av σ r τ := by
  intro l D cA ad sz
  refine Met.ofW (cc := j.2.1) (maxL := j.2.2.1) (ret := j.2.2.2.1) hy rfl ?_
  intro p e s m args below meth c s₁ B hml hv
  obtain ⟨rfl, hsz, hP, hK, hD, hN, hT⟩ := hv
  subst hsz
  have hsl : ∀ vs : List Value, (lg_sl vs).length = k_cat vs := by
    intro vs
    induction vs with
    | nil => rfl
    | cons v vs ih =>
      have e : lg_sl (v :: vs) = (if v.category = 2 then [Slot.val v, .second] else [.val v]) ++ lg_sl vs := by simp [lg_sl]
      have e2 : k_cat (v :: vs) = v.category + k_cat vs := by simp [k_cat]
      rw [e, List.length_append, ih, e2]
      rcases lv_cat v with h | h <;> simp [h]
  have hle : (lg_sl (av.map (k_cv ad))).length ≤ j.2.2.1 := by rw [hsl, show k_cat (av.map (k_cv ad)) = k_cat av from k_cat_cv ad av]; exact hn
  have hl := lv_entry (av.map (k_cv ad)) (n := j.2.2.1) hle
  rw [lg_entry_eq]
  generalize (lg_sl (av.map (k_cv ad)) ++ List.replicate (j.2.2.1 - (lg_sl (av.map (k_cv ad))).length) Slot.unset).toArray = ls at hl ⊢
  refine k p l e s m _ below meth c D cA ad s.heap [] ls ⟨B.exec, B.bytes, hml, B.returns, B.notSynchronized, findClass_of_methodNamed B.named, atoms_spec (ws := Cond.code j.1 j.2.1 j.2.2.1 j.2.2.2.1 :: k_ws) B.pre, hK, hN, hT⟩ hP hD va_S.rf ⟨hl.1, hl.2.1, fun i v hv => ?_⟩
  rw [← hlv] at hv
  have := k_la_mem (ad := ad) av _ 0 i v hv
  rw [Nat.zero_add] at this
  exact hl.2.2 _ this
end
