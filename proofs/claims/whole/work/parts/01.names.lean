-- ===== PART A: goes FIRST, ahead of the names: the tables' words, and 'selects' of the private methods out of them =====
/-- a private method of a class that the tables say can be made, by its rows of tables_1 -/
def lw_okq (q : MethodName × Nat) : Prop := (q.1.cls ≠ "java/lang/invoke/MethodHandle" ∧ q.1.cls ≠ "java/lang/invoke/VarHandle") ∧ Cond.instantiable q.1.cls q.2 ∈ tables_1 ∧ Cond.privateMethod q.1 ∈ tables_1 ∧ Cond.instanceMethod q.1 ∈ tables_1
theorem lw_p0 : lw_okq (⟨"SafeVolumes$Rows", "cellOf", "(II)I"⟩, 4) := ⟨⟨by decide +kernel, by decide +kernel⟩, List.mem_of_getElem? (i := 33) (by decide +kernel), List.mem_of_getElem? (i := 326) (by decide +kernel), List.mem_of_getElem? (i := 327) (by decide +kernel)⟩
theorem lw_p1 : lw_okq (⟨"SafeVolumes$World", "isWrong", "(I)Z"⟩, 9) := ⟨⟨by decide +kernel, by decide +kernel⟩, List.mem_of_getElem? (i := 27) (by decide +kernel), List.mem_of_getElem? (i := 398) (by decide +kernel), List.mem_of_getElem? (i := 399) (by decide +kernel)⟩
theorem lw_p2 : lw_okq (⟨"SafeVolumes$World", "sourcesOfPage", "(I)I"⟩, 9) := ⟨⟨by decide +kernel, by decide +kernel⟩, List.mem_of_getElem? (i := 27) (by decide +kernel), List.mem_of_getElem? (i := 420) (by decide +kernel), List.mem_of_getElem? (i := 421) (by decide +kernel)⟩
theorem lw_p3 : lw_okq (⟨"SafeVolumes$World", "isNowhere", "(I)Z"⟩, 9) := ⟨⟨by decide +kernel, by decide +kernel⟩, List.mem_of_getElem? (i := 27) (by decide +kernel), List.mem_of_getElem? (i := 428) (by decide +kernel), List.mem_of_getElem? (i := 429) (by decide +kernel)⟩
theorem lw_p4 : lw_okq (⟨"SafeVolumes$Parser", "begin", "(LSafeVolumes$Reader;LSafeVolumes$Maker;)V"⟩, 13) := ⟨⟨by decide +kernel, by decide +kernel⟩, List.mem_of_getElem? (i := 147) (by decide +kernel), List.mem_of_getElem? (i := 490) (by decide +kernel), List.mem_of_getElem? (i := 491) (by decide +kernel)⟩
theorem lw_p5 : lw_okq (⟨"SafeVolumes$Tape", "byteAt", "(I)I"⟩, 7) := ⟨⟨by decide +kernel, by decide +kernel⟩, List.mem_of_getElem? (i := 115) (by decide +kernel), List.mem_of_getElem? (i := 510) (by decide +kernel), List.mem_of_getElem? (i := 511) (by decide +kernel)⟩
theorem lw_p6 : lw_okq (⟨"SafeVolumes$Tape", "goOverNumber", "()V"⟩, 7) := ⟨⟨by decide +kernel, by decide +kernel⟩, List.mem_of_getElem? (i := 115) (by decide +kernel), List.mem_of_getElem? (i := 515) (by decide +kernel), List.mem_of_getElem? (i := 516) (by decide +kernel)⟩
theorem lw_p7 : lw_okq (⟨"SafeVolumes$Tape", "goOverWord", "()V"⟩, 7) := ⟨⟨by decide +kernel, by decide +kernel⟩, List.mem_of_getElem? (i := 115) (by decide +kernel), List.mem_of_getElem? (i := 519) (by decide +kernel), List.mem_of_getElem? (i := 520) (by decide +kernel)⟩
theorem lw_p8 : lw_okq (⟨"SafeVolumes$Tape", "wordNumber", "(II)I"⟩, 7) := ⟨⟨by decide +kernel, by decide +kernel⟩, List.mem_of_getElem? (i := 115) (by decide +kernel), List.mem_of_getElem? (i := 523) (by decide +kernel), List.mem_of_getElem? (i := 524) (by decide +kernel)⟩
theorem lw_p9 : lw_okq (⟨"SafeVolumes$Tape", "goOverSign", "(I)V"⟩, 7) := ⟨⟨by decide +kernel, by decide +kernel⟩, List.mem_of_getElem? (i := 115) (by decide +kernel), List.mem_of_getElem? (i := 576) (by decide +kernel), List.mem_of_getElem? (i := 577) (by decide +kernel)⟩
theorem lw_p10 : lw_okq (⟨"SafeVolumes$Parser", "takeClause", "(LSafeVolumes$Tape;)V"⟩, 13) := ⟨⟨by decide +kernel, by decide +kernel⟩, List.mem_of_getElem? (i := 147) (by decide +kernel), List.mem_of_getElem? (i := 583) (by decide +kernel), List.mem_of_getElem? (i := 584) (by decide +kernel)⟩
theorem lw_p11 : lw_okq (⟨"SafeVolumes$Parser", "beginsClause", "(I)Z"⟩, 13) := ⟨⟨by decide +kernel, by decide +kernel⟩, List.mem_of_getElem? (i := 147) (by decide +kernel), List.mem_of_getElem? (i := 587) (by decide +kernel), List.mem_of_getElem? (i := 588) (by decide +kernel)⟩
theorem lw_p12 : lw_okq (⟨"SafeVolumes$Parser", "fail", "(LSafeVolumes$Tape;I)V"⟩, 13) := ⟨⟨by decide +kernel, by decide +kernel⟩, List.mem_of_getElem? (i := 147) (by decide +kernel), List.mem_of_getElem? (i := 591) (by decide +kernel), List.mem_of_getElem? (i := 592) (by decide +kernel)⟩
theorem lw_p13 : lw_okq (⟨"SafeVolumes$Parser", "takeSetting", "(LSafeVolumes$Tape;)V"⟩, 13) := ⟨⟨by decide +kernel, by decide +kernel⟩, List.mem_of_getElem? (i := 147) (by decide +kernel), List.mem_of_getElem? (i := 596) (by decide +kernel), List.mem_of_getElem? (i := 597) (by decide +kernel)⟩
theorem lw_p14 : lw_okq (⟨"SafeVolumes$Parser", "set", "(I)Z"⟩, 13) := ⟨⟨by decide +kernel, by decide +kernel⟩, List.mem_of_getElem? (i := 147) (by decide +kernel), List.mem_of_getElem? (i := 600) (by decide +kernel), List.mem_of_getElem? (i := 601) (by decide +kernel)⟩
theorem lw_p15 : lw_okq (⟨"SafeVolumes$Parser", "takeValue", "(LSafeVolumes$Tape;)V"⟩, 13) := ⟨⟨by decide +kernel, by decide +kernel⟩, List.mem_of_getElem? (i := 147) (by decide +kernel), List.mem_of_getElem? (i := 614) (by decide +kernel), List.mem_of_getElem? (i := 615) (by decide +kernel)⟩
def lw_privs_1 : List (MethodName × Nat) := [(⟨"SafeVolumes$Rows", "cellOf", "(II)I"⟩, 4), (⟨"SafeVolumes$World", "isWrong", "(I)Z"⟩, 9), (⟨"SafeVolumes$World", "sourcesOfPage", "(I)I"⟩, 9), (⟨"SafeVolumes$World", "isNowhere", "(I)Z"⟩, 9), (⟨"SafeVolumes$Parser", "begin", "(LSafeVolumes$Reader;LSafeVolumes$Maker;)V"⟩, 13), (⟨"SafeVolumes$Tape", "byteAt", "(I)I"⟩, 7), (⟨"SafeVolumes$Tape", "goOverNumber", "()V"⟩, 7), (⟨"SafeVolumes$Tape", "goOverWord", "()V"⟩, 7), (⟨"SafeVolumes$Tape", "wordNumber", "(II)I"⟩, 7), (⟨"SafeVolumes$Tape", "goOverSign", "(I)V"⟩, 7), (⟨"SafeVolumes$Parser", "takeClause", "(LSafeVolumes$Tape;)V"⟩, 13), (⟨"SafeVolumes$Parser", "beginsClause", "(I)Z"⟩, 13), (⟨"SafeVolumes$Parser", "fail", "(LSafeVolumes$Tape;I)V"⟩, 13), (⟨"SafeVolumes$Parser", "takeSetting", "(LSafeVolumes$Tape;)V"⟩, 13), (⟨"SafeVolumes$Parser", "set", "(I)Z"⟩, 13), (⟨"SafeVolumes$Parser", "takeValue", "(LSafeVolumes$Tape;)V"⟩, 13)]
theorem lw_r1 : ∀ q ∈ lw_privs_1, lw_okq q := List.forall_mem_cons.mpr ⟨lw_p0, List.forall_mem_cons.mpr ⟨lw_p1, List.forall_mem_cons.mpr ⟨lw_p2, List.forall_mem_cons.mpr ⟨lw_p3, List.forall_mem_cons.mpr ⟨lw_p4, List.forall_mem_cons.mpr ⟨lw_p5, List.forall_mem_cons.mpr ⟨lw_p6, List.forall_mem_cons.mpr ⟨lw_p7, List.forall_mem_cons.mpr ⟨lw_p8, List.forall_mem_cons.mpr ⟨lw_p9, List.forall_mem_cons.mpr ⟨lw_p10, List.forall_mem_cons.mpr ⟨lw_p11, List.forall_mem_cons.mpr ⟨lw_p12, List.forall_mem_cons.mpr ⟨lw_p13, List.forall_mem_cons.mpr ⟨lw_p14, List.forall_mem_cons.mpr ⟨lw_p15, fun _ h => absurd h List.not_mem_nil⟩⟩⟩⟩⟩⟩⟩⟩⟩⟩⟩⟩⟩⟩⟩⟩
theorem lw_p16 : lw_okq (⟨"SafeVolumes$Parser", "emit", "(I)V"⟩, 13) := ⟨⟨by decide +kernel, by decide +kernel⟩, List.mem_of_getElem? (i := 147) (by decide +kernel), List.mem_of_getElem? (i := 622) (by decide +kernel), List.mem_of_getElem? (i := 623) (by decide +kernel)⟩
theorem lw_p17 : lw_okq (⟨"SafeVolumes$Parser", "takeFactStart", "(LSafeVolumes$Tape;)V"⟩, 13) := ⟨⟨by decide +kernel, by decide +kernel⟩, List.mem_of_getElem? (i := 147) (by decide +kernel), List.mem_of_getElem? (i := 630) (by decide +kernel), List.mem_of_getElem? (i := 631) (by decide +kernel)⟩
theorem lw_p18 : lw_okq (⟨"SafeVolumes$Parser", "putOff", "(I)V"⟩, 13) := ⟨⟨by decide +kernel, by decide +kernel⟩, List.mem_of_getElem? (i := 147) (by decide +kernel), List.mem_of_getElem? (i := 634) (by decide +kernel), List.mem_of_getElem? (i := 635) (by decide +kernel)⟩
theorem lw_p19 : lw_okq (⟨"SafeVolumes$Parser", "takeBehindValue", "(LSafeVolumes$Tape;)V"⟩, 13) := ⟨⟨by decide +kernel, by decide +kernel⟩, List.mem_of_getElem? (i := 147) (by decide +kernel), List.mem_of_getElem? (i := 638) (by decide +kernel), List.mem_of_getElem? (i := 639) (by decide +kernel)⟩
theorem lw_p20 : lw_okq (⟨"SafeVolumes$Parser", "join", "(I)V"⟩, 13) := ⟨⟨by decide +kernel, by decide +kernel⟩, List.mem_of_getElem? (i := 147) (by decide +kernel), List.mem_of_getElem? (i := 642) (by decide +kernel), List.mem_of_getElem? (i := 643) (by decide +kernel)⟩
theorem lw_p21 : lw_okq (⟨"SafeVolumes$Parser", "emitDownTo", "(I)V"⟩, 13) := ⟨⟨by decide +kernel, by decide +kernel⟩, List.mem_of_getElem? (i := 147) (by decide +kernel), List.mem_of_getElem? (i := 649) (by decide +kernel), List.mem_of_getElem? (i := 650) (by decide +kernel)⟩
theorem lw_p22 : lw_okq (⟨"SafeVolumes$Parser", "lastWaiting", "()I"⟩, 13) := ⟨⟨by decide +kernel, by decide +kernel⟩, List.mem_of_getElem? (i := 147) (by decide +kernel), List.mem_of_getElem? (i := 653) (by decide +kernel), List.mem_of_getElem? (i := 654) (by decide +kernel)⟩
theorem lw_p23 : lw_okq (⟨"SafeVolumes$Parser", "takeBehindFact", "(LSafeVolumes$Tape;)V"⟩, 13) := ⟨⟨by decide +kernel, by decide +kernel⟩, List.mem_of_getElem? (i := 147) (by decide +kernel), List.mem_of_getElem? (i := 657) (by decide +kernel), List.mem_of_getElem? (i := 658) (by decide +kernel)⟩
theorem lw_p24 : lw_okq (⟨"SafeVolumes$Parser", "dropBracket", "()V"⟩, 13) := ⟨⟨by decide +kernel, by decide +kernel⟩, List.mem_of_getElem? (i := 147) (by decide +kernel), List.mem_of_getElem? (i := 661) (by decide +kernel), List.mem_of_getElem? (i := 662) (by decide +kernel)⟩
theorem lw_p25 : lw_okq (⟨"SafeVolumes$Parser", "takeBehindClause", "(LSafeVolumes$Tape;)V"⟩, 13) := ⟨⟨by decide +kernel, by decide +kernel⟩, List.mem_of_getElem? (i := 147) (by decide +kernel), List.mem_of_getElem? (i := 665) (by decide +kernel), List.mem_of_getElem? (i := 666) (by decide +kernel)⟩
theorem lw_p26 : lw_okq (⟨"SafeVolumes$Parser", "takeSign", "(LSafeVolumes$Tape;)V"⟩, 13) := ⟨⟨by decide +kernel, by decide +kernel⟩, List.mem_of_getElem? (i := 147) (by decide +kernel), List.mem_of_getElem? (i := 669) (by decide +kernel), List.mem_of_getElem? (i := 670) (by decide +kernel)⟩
theorem lw_p27 : lw_okq (⟨"SafeVolumes", "readerAt", "(I)LSafeVolumes$Reader;"⟩, 10) := ⟨⟨by decide +kernel, by decide +kernel⟩, List.mem_of_getElem? (i := 19) (by decide +kernel), List.mem_of_getElem? (i := 682) (by decide +kernel), List.mem_of_getElem? (i := 683) (by decide +kernel)⟩
theorem lw_p28 : lw_okq (⟨"SafeVolumes", "chanceOf", "(LSafeVolumes$Reader;II)I"⟩, 10) := ⟨⟨by decide +kernel, by decide +kernel⟩, List.mem_of_getElem? (i := 19) (by decide +kernel), List.mem_of_getElem? (i := 692) (by decide +kernel), List.mem_of_getElem? (i := 693) (by decide +kernel)⟩
theorem lw_p29 : lw_okq (⟨"SafeVolumes$World", "apart", "(II)I"⟩, 9) := ⟨⟨by decide +kernel, by decide +kernel⟩, List.mem_of_getElem? (i := 27) (by decide +kernel), List.mem_of_getElem? (i := 700) (by decide +kernel), List.mem_of_getElem? (i := 701) (by decide +kernel)⟩
theorem lw_p30 : lw_okq (⟨"SafeVolumes$World", "late", "(I)I"⟩, 9) := ⟨⟨by decide +kernel, by decide +kernel⟩, List.mem_of_getElem? (i := 27) (by decide +kernel), List.mem_of_getElem? (i := 707) (by decide +kernel), List.mem_of_getElem? (i := 708) (by decide +kernel)⟩
theorem lw_p31 : lw_okq (⟨"SafeVolumes$World", "isVolume", "(I)Z"⟩, 9) := ⟨⟨by decide +kernel, by decide +kernel⟩, List.mem_of_getElem? (i := 27) (by decide +kernel), List.mem_of_getElem? (i := 720) (by decide +kernel), List.mem_of_getElem? (i := 721) (by decide +kernel)⟩
def lw_privs_2 : List (MethodName × Nat) := [(⟨"SafeVolumes$Parser", "emit", "(I)V"⟩, 13), (⟨"SafeVolumes$Parser", "takeFactStart", "(LSafeVolumes$Tape;)V"⟩, 13), (⟨"SafeVolumes$Parser", "putOff", "(I)V"⟩, 13), (⟨"SafeVolumes$Parser", "takeBehindValue", "(LSafeVolumes$Tape;)V"⟩, 13), (⟨"SafeVolumes$Parser", "join", "(I)V"⟩, 13), (⟨"SafeVolumes$Parser", "emitDownTo", "(I)V"⟩, 13), (⟨"SafeVolumes$Parser", "lastWaiting", "()I"⟩, 13), (⟨"SafeVolumes$Parser", "takeBehindFact", "(LSafeVolumes$Tape;)V"⟩, 13), (⟨"SafeVolumes$Parser", "dropBracket", "()V"⟩, 13), (⟨"SafeVolumes$Parser", "takeBehindClause", "(LSafeVolumes$Tape;)V"⟩, 13), (⟨"SafeVolumes$Parser", "takeSign", "(LSafeVolumes$Tape;)V"⟩, 13), (⟨"SafeVolumes", "readerAt", "(I)LSafeVolumes$Reader;"⟩, 10), (⟨"SafeVolumes", "chanceOf", "(LSafeVolumes$Reader;II)I"⟩, 10), (⟨"SafeVolumes$World", "apart", "(II)I"⟩, 9), (⟨"SafeVolumes$World", "late", "(I)I"⟩, 9), (⟨"SafeVolumes$World", "isVolume", "(I)Z"⟩, 9)]
theorem lw_r2 : ∀ q ∈ lw_privs_2, lw_okq q := List.forall_mem_cons.mpr ⟨lw_p16, List.forall_mem_cons.mpr ⟨lw_p17, List.forall_mem_cons.mpr ⟨lw_p18, List.forall_mem_cons.mpr ⟨lw_p19, List.forall_mem_cons.mpr ⟨lw_p20, List.forall_mem_cons.mpr ⟨lw_p21, List.forall_mem_cons.mpr ⟨lw_p22, List.forall_mem_cons.mpr ⟨lw_p23, List.forall_mem_cons.mpr ⟨lw_p24, List.forall_mem_cons.mpr ⟨lw_p25, List.forall_mem_cons.mpr ⟨lw_p26, List.forall_mem_cons.mpr ⟨lw_p27, List.forall_mem_cons.mpr ⟨lw_p28, List.forall_mem_cons.mpr ⟨lw_p29, List.forall_mem_cons.mpr ⟨lw_p30, List.forall_mem_cons.mpr ⟨lw_p31, fun _ h => absurd h List.not_mem_nil⟩⟩⟩⟩⟩⟩⟩⟩⟩⟩⟩⟩⟩⟩⟩⟩
theorem lw_p32 : lw_okq (⟨"SafeVolumes$Reader", "pop", "()J"⟩, 6) := ⟨⟨by decide +kernel, by decide +kernel⟩, List.mem_of_getElem? (i := 222) (by decide +kernel), List.mem_of_getElem? (i := 728) (by decide +kernel), List.mem_of_getElem? (i := 729) (by decide +kernel)⟩
theorem lw_p33 : lw_okq (⟨"SafeVolumes$Reader", "step", "(I[I)V"⟩, 6) := ⟨⟨by decide +kernel, by decide +kernel⟩, List.mem_of_getElem? (i := 222) (by decide +kernel), List.mem_of_getElem? (i := 742) (by decide +kernel), List.mem_of_getElem? (i := 743) (by decide +kernel)⟩
theorem lw_p34 : lw_okq (⟨"SafeVolumes$Reader", "push", "(J)V"⟩, 6) := ⟨⟨by decide +kernel, by decide +kernel⟩, List.mem_of_getElem? (i := 222) (by decide +kernel), List.mem_of_getElem? (i := 746) (by decide +kernel), List.mem_of_getElem? (i := 747) (by decide +kernel)⟩
theorem lw_p35 : lw_okq (⟨"SafeVolumes$Maker", "canWrite", "(LSafeVolumes$World;II)Z"⟩, 5) := ⟨⟨by decide +kernel, by decide +kernel⟩, List.mem_of_getElem? (i := 248) (by decide +kernel), List.mem_of_getElem? (i := 848) (by decide +kernel), List.mem_of_getElem? (i := 849) (by decide +kernel)⟩
theorem lw_p36 : lw_okq (⟨"SafeVolumes$Maker", "placeFrom", "(LSafeVolumes$World;II)I"⟩, 5) := ⟨⟨by decide +kernel, by decide +kernel⟩, List.mem_of_getElem? (i := 248) (by decide +kernel), List.mem_of_getElem? (i := 853) (by decide +kernel), List.mem_of_getElem? (i := 854) (by decide +kernel)⟩
theorem lw_p37 : lw_okq (⟨"SafeVolumes", "makerAt", "(I)LSafeVolumes$Maker;"⟩, 10) := ⟨⟨by decide +kernel, by decide +kernel⟩, List.mem_of_getElem? (i := 19) (by decide +kernel), List.mem_of_getElem? (i := 861) (by decide +kernel), List.mem_of_getElem? (i := 862) (by decide +kernel)⟩
theorem lw_p38 : lw_okq (⟨"SafeVolumes$World", "growthBehind", "(II)I"⟩, 9) := ⟨⟨by decide +kernel, by decide +kernel⟩, List.mem_of_getElem? (i := 27) (by decide +kernel), List.mem_of_getElem? (i := 877) (by decide +kernel), List.mem_of_getElem? (i := 878) (by decide +kernel)⟩
theorem lw_p39 : lw_okq (⟨"SafeVolumes$Maker", "placeFor", "(LSafeVolumes$World;IZI)I"⟩, 5) := ⟨⟨by decide +kernel, by decide +kernel⟩, List.mem_of_getElem? (i := 248) (by decide +kernel), List.mem_of_getElem? (i := 894) (by decide +kernel), List.mem_of_getElem? (i := 895) (by decide +kernel)⟩
theorem lw_p40 : lw_okq (⟨"SafeVolumes", "fillRow", "(III)V"⟩, 10) := ⟨⟨by decide +kernel, by decide +kernel⟩, List.mem_of_getElem? (i := 19) (by decide +kernel), List.mem_of_getElem? (i := 909) (by decide +kernel), List.mem_of_getElem? (i := 910) (by decide +kernel)⟩
theorem lw_p41 : lw_okq (⟨"SafeVolumes$ReaderRow", "waitWith", "(II)J"⟩, 6) := ⟨⟨by decide +kernel, by decide +kernel⟩, List.mem_of_getElem? (i := 197) (by decide +kernel), List.mem_of_getElem? (i := 927) (by decide +kernel), List.mem_of_getElem? (i := 928) (by decide +kernel)⟩
theorem lw_p42 : lw_okq (⟨"SafeVolumes$ReaderRow", "waitOf", "(I)J"⟩, 6) := ⟨⟨by decide +kernel, by decide +kernel⟩, List.mem_of_getElem? (i := 197) (by decide +kernel), List.mem_of_getElem? (i := 933) (by decide +kernel), List.mem_of_getElem? (i := 934) (by decide +kernel)⟩
theorem lw_p43 : lw_okq (⟨"SafeVolumes$ReaderRow", "firstOf", "(IZ)I"⟩, 6) := ⟨⟨by decide +kernel, by decide +kernel⟩, List.mem_of_getElem? (i := 197) (by decide +kernel), List.mem_of_getElem? (i := 945) (by decide +kernel), List.mem_of_getElem? (i := 946) (by decide +kernel)⟩
theorem lw_p44 : lw_okq (⟨"SafeVolumes$ReaderRow", "chanceOfAll", "(I)J"⟩, 6) := ⟨⟨by decide +kernel, by decide +kernel⟩, List.mem_of_getElem? (i := 197) (by decide +kernel), List.mem_of_getElem? (i := 957) (by decide +kernel), List.mem_of_getElem? (i := 958) (by decide +kernel)⟩
theorem lw_p45 : lw_okq (⟨"SafeVolumes$ReaderRow", "coinsOf", "(I)I"⟩, 6) := ⟨⟨by decide +kernel, by decide +kernel⟩, List.mem_of_getElem? (i := 197) (by decide +kernel), List.mem_of_getElem? (i := 961) (by decide +kernel), List.mem_of_getElem? (i := 962) (by decide +kernel)⟩
theorem lw_p46 : lw_okq (⟨"SafeVolumes$World", "knewWrongDay", "(II)Z"⟩, 9) := ⟨⟨by decide +kernel, by decide +kernel⟩, List.mem_of_getElem? (i := 27) (by decide +kernel), List.mem_of_getElem? (i := 981) (by decide +kernel), List.mem_of_getElem? (i := 982) (by decide +kernel)⟩
theorem lw_p47 : lw_okq (⟨"SafeVolumesModel", "truthOf", "(I)I"⟩, 36) := ⟨⟨by decide +kernel, by decide +kernel⟩, List.mem_of_getElem? (i := 1019) (by decide +kernel), List.mem_of_getElem? (i := 1157) (by decide +kernel), List.mem_of_getElem? (i := 1158) (by decide +kernel)⟩
def lw_privs_3 : List (MethodName × Nat) := [(⟨"SafeVolumes$Reader", "pop", "()J"⟩, 6), (⟨"SafeVolumes$Reader", "step", "(I[I)V"⟩, 6), (⟨"SafeVolumes$Reader", "push", "(J)V"⟩, 6), (⟨"SafeVolumes$Maker", "canWrite", "(LSafeVolumes$World;II)Z"⟩, 5), (⟨"SafeVolumes$Maker", "placeFrom", "(LSafeVolumes$World;II)I"⟩, 5), (⟨"SafeVolumes", "makerAt", "(I)LSafeVolumes$Maker;"⟩, 10), (⟨"SafeVolumes$World", "growthBehind", "(II)I"⟩, 9), (⟨"SafeVolumes$Maker", "placeFor", "(LSafeVolumes$World;IZI)I"⟩, 5), (⟨"SafeVolumes", "fillRow", "(III)V"⟩, 10), (⟨"SafeVolumes$ReaderRow", "waitWith", "(II)J"⟩, 6), (⟨"SafeVolumes$ReaderRow", "waitOf", "(I)J"⟩, 6), (⟨"SafeVolumes$ReaderRow", "firstOf", "(IZ)I"⟩, 6), (⟨"SafeVolumes$ReaderRow", "chanceOfAll", "(I)J"⟩, 6), (⟨"SafeVolumes$ReaderRow", "coinsOf", "(I)I"⟩, 6), (⟨"SafeVolumes$World", "knewWrongDay", "(II)Z"⟩, 9), (⟨"SafeVolumesModel", "truthOf", "(I)I"⟩, 36)]
theorem lw_r3 : ∀ q ∈ lw_privs_3, lw_okq q := List.forall_mem_cons.mpr ⟨lw_p32, List.forall_mem_cons.mpr ⟨lw_p33, List.forall_mem_cons.mpr ⟨lw_p34, List.forall_mem_cons.mpr ⟨lw_p35, List.forall_mem_cons.mpr ⟨lw_p36, List.forall_mem_cons.mpr ⟨lw_p37, List.forall_mem_cons.mpr ⟨lw_p38, List.forall_mem_cons.mpr ⟨lw_p39, List.forall_mem_cons.mpr ⟨lw_p40, List.forall_mem_cons.mpr ⟨lw_p41, List.forall_mem_cons.mpr ⟨lw_p42, List.forall_mem_cons.mpr ⟨lw_p43, List.forall_mem_cons.mpr ⟨lw_p44, List.forall_mem_cons.mpr ⟨lw_p45, List.forall_mem_cons.mpr ⟨lw_p46, List.forall_mem_cons.mpr ⟨lw_p47, fun _ h => absurd h List.not_mem_nil⟩⟩⟩⟩⟩⟩⟩⟩⟩⟩⟩⟩⟩⟩⟩⟩
theorem lw_p48 : lw_okq (⟨"SafeVolumesModel", "factOf", "(II)I"⟩, 36) := ⟨⟨by decide +kernel, by decide +kernel⟩, List.mem_of_getElem? (i := 1019) (by decide +kernel), List.mem_of_getElem? (i := 1166) (by decide +kernel), List.mem_of_getElem? (i := 1167) (by decide +kernel)⟩
theorem lw_p49 : lw_okq (⟨"SafeVolumesModel", "isPiece", "(I)Z"⟩, 36) := ⟨⟨by decide +kernel, by decide +kernel⟩, List.mem_of_getElem? (i := 1019) (by decide +kernel), List.mem_of_getElem? (i := 1180) (by decide +kernel), List.mem_of_getElem? (i := 1181) (by decide +kernel)⟩
theorem lw_p50 : lw_okq (⟨"SafeVolumesModel", "hasDay", "(II)Z"⟩, 36) := ⟨⟨by decide +kernel, by decide +kernel⟩, List.mem_of_getElem? (i := 1019) (by decide +kernel), List.mem_of_getElem? (i := 1184) (by decide +kernel), List.mem_of_getElem? (i := 1185) (by decide +kernel)⟩
theorem lw_p51 : lw_okq (⟨"SafeVolumesModel", "adds", "(III)V"⟩, 36) := ⟨⟨by decide +kernel, by decide +kernel⟩, List.mem_of_getElem? (i := 1019) (by decide +kernel), List.mem_of_getElem? (i := 1188) (by decide +kernel), List.mem_of_getElem? (i := 1189) (by decide +kernel)⟩
theorem lw_p52 : lw_okq (⟨"SafeVolumesModel", "pagesOf", "(II)I"⟩, 36) := ⟨⟨by decide +kernel, by decide +kernel⟩, List.mem_of_getElem? (i := 1019) (by decide +kernel), List.mem_of_getElem? (i := 1197) (by decide +kernel), List.mem_of_getElem? (i := 1198) (by decide +kernel)⟩
theorem lw_p53 : lw_okq (⟨"SafeVolumesModel", "isWrong", "(I)Z"⟩, 36) := ⟨⟨by decide +kernel, by decide +kernel⟩, List.mem_of_getElem? (i := 1019) (by decide +kernel), List.mem_of_getElem? (i := 1201) (by decide +kernel), List.mem_of_getElem? (i := 1202) (by decide +kernel)⟩
theorem lw_p54 : lw_okq (⟨"SafeVolumesModel", "isSharedAny", "(I)Z"⟩, 36) := ⟨⟨by decide +kernel, by decide +kernel⟩, List.mem_of_getElem? (i := 1019) (by decide +kernel), List.mem_of_getElem? (i := 1205) (by decide +kernel), List.mem_of_getElem? (i := 1206) (by decide +kernel)⟩
theorem lw_p55 : lw_okq (⟨"SafeVolumesModel", "isShared", "(II)Z"⟩, 36) := ⟨⟨by decide +kernel, by decide +kernel⟩, List.mem_of_getElem? (i := 1019) (by decide +kernel), List.mem_of_getElem? (i := 1209) (by decide +kernel), List.mem_of_getElem? (i := 1210) (by decide +kernel)⟩
theorem lw_p56 : lw_okq (⟨"SafeVolumesModel", "isNowhere", "(I)Z"⟩, 36) := ⟨⟨by decide +kernel, by decide +kernel⟩, List.mem_of_getElem? (i := 1019) (by decide +kernel), List.mem_of_getElem? (i := 1213) (by decide +kernel), List.mem_of_getElem? (i := 1214) (by decide +kernel)⟩
theorem lw_p57 : lw_okq (⟨"SafeVolumesModel", "age", "(I)I"⟩, 36) := ⟨⟨by decide +kernel, by decide +kernel⟩, List.mem_of_getElem? (i := 1019) (by decide +kernel), List.mem_of_getElem? (i := 1217) (by decide +kernel), List.mem_of_getElem? (i := 1218) (by decide +kernel)⟩
theorem lw_p58 : lw_okq (⟨"SafeVolumesModel", "pieceCell", "(II)I"⟩, 36) := ⟨⟨by decide +kernel, by decide +kernel⟩, List.mem_of_getElem? (i := 1019) (by decide +kernel), List.mem_of_getElem? (i := 1221) (by decide +kernel), List.mem_of_getElem? (i := 1222) (by decide +kernel)⟩
theorem lw_p59 : lw_okq (⟨"SafeVolumesModel", "young", "(I)I"⟩, 36) := ⟨⟨by decide +kernel, by decide +kernel⟩, List.mem_of_getElem? (i := 1019) (by decide +kernel), List.mem_of_getElem? (i := 1225) (by decide +kernel), List.mem_of_getElem? (i := 1226) (by decide +kernel)⟩
theorem lw_p60 : lw_okq (⟨"SafeVolumesModel", "sharedWith", "(II)I"⟩, 36) := ⟨⟨by decide +kernel, by decide +kernel⟩, List.mem_of_getElem? (i := 1019) (by decide +kernel), List.mem_of_getElem? (i := 1233) (by decide +kernel), List.mem_of_getElem? (i := 1234) (by decide +kernel)⟩
theorem lw_p61 : lw_okq (⟨"SafeVolumesModel", "four", "(I)V"⟩, 36) := ⟨⟨by decide +kernel, by decide +kernel⟩, List.mem_of_getElem? (i := 1019) (by decide +kernel), List.mem_of_getElem? (i := 1241) (by decide +kernel), List.mem_of_getElem? (i := 1242) (by decide +kernel)⟩
theorem lw_p62 : lw_okq (⟨"SafeVolumesModel", "reads", "(I)I"⟩, 36) := ⟨⟨by decide +kernel, by decide +kernel⟩, List.mem_of_getElem? (i := 1019) (by decide +kernel), List.mem_of_getElem? (i := 1253) (by decide +kernel), List.mem_of_getElem? (i := 1254) (by decide +kernel)⟩
theorem lw_p63 : lw_okq (⟨"SafeVolumesModel", "clauseHere", "()Z"⟩, 36) := ⟨⟨by decide +kernel, by decide +kernel⟩, List.mem_of_getElem? (i := 1019) (by decide +kernel), List.mem_of_getElem? (i := 1257) (by decide +kernel), List.mem_of_getElem? (i := 1258) (by decide +kernel)⟩
def lw_privs_4 : List (MethodName × Nat) := [(⟨"SafeVolumesModel", "factOf", "(II)I"⟩, 36), (⟨"SafeVolumesModel", "isPiece", "(I)Z"⟩, 36), (⟨"SafeVolumesModel", "hasDay", "(II)Z"⟩, 36), (⟨"SafeVolumesModel", "adds", "(III)V"⟩, 36), (⟨"SafeVolumesModel", "pagesOf", "(II)I"⟩, 36), (⟨"SafeVolumesModel", "isWrong", "(I)Z"⟩, 36), (⟨"SafeVolumesModel", "isSharedAny", "(I)Z"⟩, 36), (⟨"SafeVolumesModel", "isShared", "(II)Z"⟩, 36), (⟨"SafeVolumesModel", "isNowhere", "(I)Z"⟩, 36), (⟨"SafeVolumesModel", "age", "(I)I"⟩, 36), (⟨"SafeVolumesModel", "pieceCell", "(II)I"⟩, 36), (⟨"SafeVolumesModel", "young", "(I)I"⟩, 36), (⟨"SafeVolumesModel", "sharedWith", "(II)I"⟩, 36), (⟨"SafeVolumesModel", "four", "(I)V"⟩, 36), (⟨"SafeVolumesModel", "reads", "(I)I"⟩, 36), (⟨"SafeVolumesModel", "clauseHere", "()Z"⟩, 36)]
theorem lw_r4 : ∀ q ∈ lw_privs_4, lw_okq q := List.forall_mem_cons.mpr ⟨lw_p48, List.forall_mem_cons.mpr ⟨lw_p49, List.forall_mem_cons.mpr ⟨lw_p50, List.forall_mem_cons.mpr ⟨lw_p51, List.forall_mem_cons.mpr ⟨lw_p52, List.forall_mem_cons.mpr ⟨lw_p53, List.forall_mem_cons.mpr ⟨lw_p54, List.forall_mem_cons.mpr ⟨lw_p55, List.forall_mem_cons.mpr ⟨lw_p56, List.forall_mem_cons.mpr ⟨lw_p57, List.forall_mem_cons.mpr ⟨lw_p58, List.forall_mem_cons.mpr ⟨lw_p59, List.forall_mem_cons.mpr ⟨lw_p60, List.forall_mem_cons.mpr ⟨lw_p61, List.forall_mem_cons.mpr ⟨lw_p62, List.forall_mem_cons.mpr ⟨lw_p63, fun _ h => absurd h List.not_mem_nil⟩⟩⟩⟩⟩⟩⟩⟩⟩⟩⟩⟩⟩⟩⟩⟩
theorem lw_p64 : lw_okq (⟨"SafeVolumesModel", "see", "()I"⟩, 36) := ⟨⟨by decide +kernel, by decide +kernel⟩, List.mem_of_getElem? (i := 1019) (by decide +kernel), List.mem_of_getElem? (i := 1261) (by decide +kernel), List.mem_of_getElem? (i := 1262) (by decide +kernel)⟩
theorem lw_p65 : lw_okq (⟨"SafeVolumesModel", "isWord", "(J)Z"⟩, 36) := ⟨⟨by decide +kernel, by decide +kernel⟩, List.mem_of_getElem? (i := 1019) (by decide +kernel), List.mem_of_getElem? (i := 1266) (by decide +kernel), List.mem_of_getElem? (i := 1267) (by decide +kernel)⟩
theorem lw_p66 : lw_okq (⟨"SafeVolumesModel", "isLetter", "(I)Z"⟩, 36) := ⟨⟨by decide +kernel, by decide +kernel⟩, List.mem_of_getElem? (i := 1019) (by decide +kernel), List.mem_of_getElem? (i := 1270) (by decide +kernel), List.mem_of_getElem? (i := 1271) (by decide +kernel)⟩
theorem lw_p67 : lw_okq (⟨"SafeVolumesModel", "fails", "(II)Z"⟩, 36) := ⟨⟨by decide +kernel, by decide +kernel⟩, List.mem_of_getElem? (i := 1019) (by decide +kernel), List.mem_of_getElem? (i := 1280) (by decide +kernel), List.mem_of_getElem? (i := 1281) (by decide +kernel)⟩
theorem lw_p68 : lw_okq (⟨"SafeVolumesModel", "yes", "()Z"⟩, 36) := ⟨⟨by decide +kernel, by decide +kernel⟩, List.mem_of_getElem? (i := 1019) (by decide +kernel), List.mem_of_getElem? (i := 1284) (by decide +kernel), List.mem_of_getElem? (i := 1285) (by decide +kernel)⟩
theorem lw_p69 : lw_okq (⟨"SafeVolumesModel", "passWord", "()V"⟩, 36) := ⟨⟨by decide +kernel, by decide +kernel⟩, List.mem_of_getElem? (i := 1019) (by decide +kernel), List.mem_of_getElem? (i := 1288) (by decide +kernel), List.mem_of_getElem? (i := 1289) (by decide +kernel)⟩
theorem lw_p70 : lw_okq (⟨"SafeVolumesModel", "sum", "()Z"⟩, 36) := ⟨⟨by decide +kernel, by decide +kernel⟩, List.mem_of_getElem? (i := 1019) (by decide +kernel), List.mem_of_getElem? (i := 1292) (by decide +kernel), List.mem_of_getElem? (i := 1293) (by decide +kernel)⟩
theorem lw_p71 : lw_okq (⟨"SafeVolumesModel", "term", "()Z"⟩, 36) := ⟨⟨by decide +kernel, by decide +kernel⟩, List.mem_of_getElem? (i := 1019) (by decide +kernel), List.mem_of_getElem? (i := 1296) (by decide +kernel), List.mem_of_getElem? (i := 1297) (by decide +kernel)⟩
theorem lw_p72 : lw_okq (⟨"SafeVolumesModel", "value", "()Z"⟩, 36) := ⟨⟨by decide +kernel, by decide +kernel⟩, List.mem_of_getElem? (i := 1019) (by decide +kernel), List.mem_of_getElem? (i := 1300) (by decide +kernel), List.mem_of_getElem? (i := 1301) (by decide +kernel)⟩
theorem lw_p73 : lw_okq (⟨"SafeVolumesModel", "isDigit", "(I)Z"⟩, 36) := ⟨⟨by decide +kernel, by decide +kernel⟩, List.mem_of_getElem? (i := 1019) (by decide +kernel), List.mem_of_getElem? (i := 1304) (by decide +kernel), List.mem_of_getElem? (i := 1305) (by decide +kernel)⟩
theorem lw_p74 : lw_okq (⟨"SafeVolumesModel", "number", "(II)Z"⟩, 36) := ⟨⟨by decide +kernel, by decide +kernel⟩, List.mem_of_getElem? (i := 1019) (by decide +kernel), List.mem_of_getElem? (i := 1309) (by decide +kernel), List.mem_of_getElem? (i := 1310) (by decide +kernel)⟩
theorem lw_p75 : lw_okq (⟨"SafeVolumesModel", "makes", "(I)Z"⟩, 36) := ⟨⟨by decide +kernel, by decide +kernel⟩, List.mem_of_getElem? (i := 1019) (by decide +kernel), List.mem_of_getElem? (i := 1313) (by decide +kernel), List.mem_of_getElem? (i := 1314) (by decide +kernel)⟩
theorem lw_p76 : lw_okq (⟨"SafeVolumesModel", "puts", "(II)V"⟩, 36) := ⟨⟨by decide +kernel, by decide +kernel⟩, List.mem_of_getElem? (i := 1019) (by decide +kernel), List.mem_of_getElem? (i := 1317) (by decide +kernel), List.mem_of_getElem? (i := 1318) (by decide +kernel)⟩
theorem lw_p77 : lw_okq (⟨"SafeVolumesModel", "wordHere", "()I"⟩, 36) := ⟨⟨by decide +kernel, by decide +kernel⟩, List.mem_of_getElem? (i := 1019) (by decide +kernel), List.mem_of_getElem? (i := 1321) (by decide +kernel), List.mem_of_getElem? (i := 1322) (by decide +kernel)⟩
theorem lw_p78 : lw_okq (⟨"SafeVolumesModel", "takesWord", "(J)Z"⟩, 36) := ⟨⟨by decide +kernel, by decide +kernel⟩, List.mem_of_getElem? (i := 1019) (by decide +kernel), List.mem_of_getElem? (i := 1336) (by decide +kernel), List.mem_of_getElem? (i := 1337) (by decide +kernel)⟩
theorem lw_p79 : lw_okq (⟨"SafeVolumesModel", "tested", "()Z"⟩, 36) := ⟨⟨by decide +kernel, by decide +kernel⟩, List.mem_of_getElem? (i := 1019) (by decide +kernel), List.mem_of_getElem? (i := 1340) (by decide +kernel), List.mem_of_getElem? (i := 1341) (by decide +kernel)⟩
def lw_privs_5 : List (MethodName × Nat) := [(⟨"SafeVolumesModel", "see", "()I"⟩, 36), (⟨"SafeVolumesModel", "isWord", "(J)Z"⟩, 36), (⟨"SafeVolumesModel", "isLetter", "(I)Z"⟩, 36), (⟨"SafeVolumesModel", "fails", "(II)Z"⟩, 36), (⟨"SafeVolumesModel", "yes", "()Z"⟩, 36), (⟨"SafeVolumesModel", "passWord", "()V"⟩, 36), (⟨"SafeVolumesModel", "sum", "()Z"⟩, 36), (⟨"SafeVolumesModel", "term", "()Z"⟩, 36), (⟨"SafeVolumesModel", "value", "()Z"⟩, 36), (⟨"SafeVolumesModel", "isDigit", "(I)Z"⟩, 36), (⟨"SafeVolumesModel", "number", "(II)Z"⟩, 36), (⟨"SafeVolumesModel", "makes", "(I)Z"⟩, 36), (⟨"SafeVolumesModel", "puts", "(II)V"⟩, 36), (⟨"SafeVolumesModel", "wordHere", "()I"⟩, 36), (⟨"SafeVolumesModel", "takesWord", "(J)Z"⟩, 36), (⟨"SafeVolumesModel", "tested", "()Z"⟩, 36)]
theorem lw_r5 : ∀ q ∈ lw_privs_5, lw_okq q := List.forall_mem_cons.mpr ⟨lw_p64, List.forall_mem_cons.mpr ⟨lw_p65, List.forall_mem_cons.mpr ⟨lw_p66, List.forall_mem_cons.mpr ⟨lw_p67, List.forall_mem_cons.mpr ⟨lw_p68, List.forall_mem_cons.mpr ⟨lw_p69, List.forall_mem_cons.mpr ⟨lw_p70, List.forall_mem_cons.mpr ⟨lw_p71, List.forall_mem_cons.mpr ⟨lw_p72, List.forall_mem_cons.mpr ⟨lw_p73, List.forall_mem_cons.mpr ⟨lw_p74, List.forall_mem_cons.mpr ⟨lw_p75, List.forall_mem_cons.mpr ⟨lw_p76, List.forall_mem_cons.mpr ⟨lw_p77, List.forall_mem_cons.mpr ⟨lw_p78, List.forall_mem_cons.mpr ⟨lw_p79, fun _ h => absurd h List.not_mem_nil⟩⟩⟩⟩⟩⟩⟩⟩⟩⟩⟩⟩⟩⟩⟩⟩
theorem lw_p80 : lw_okq (⟨"SafeVolumesModel", "fact", "()Z"⟩, 36) := ⟨⟨by decide +kernel, by decide +kernel⟩, List.mem_of_getElem? (i := 1019) (by decide +kernel), List.mem_of_getElem? (i := 1344) (by decide +kernel), List.mem_of_getElem? (i := 1345) (by decide +kernel)⟩
theorem lw_p81 : lw_okq (⟨"SafeVolumesModel", "opens", "(I)Z"⟩, 36) := ⟨⟨by decide +kernel, by decide +kernel⟩, List.mem_of_getElem? (i := 1019) (by decide +kernel), List.mem_of_getElem? (i := 1349) (by decide +kernel), List.mem_of_getElem? (i := 1350) (by decide +kernel)⟩
theorem lw_p82 : lw_okq (⟨"SafeVolumesModel", "compare", "()Z"⟩, 36) := ⟨⟨by decide +kernel, by decide +kernel⟩, List.mem_of_getElem? (i := 1019) (by decide +kernel), List.mem_of_getElem? (i := 1353) (by decide +kernel), List.mem_of_getElem? (i := 1354) (by decide +kernel)⟩
theorem lw_p83 : lw_okq (⟨"SafeVolumesModel", "closes", "()V"⟩, 36) := ⟨⟨by decide +kernel, by decide +kernel⟩, List.mem_of_getElem? (i := 1019) (by decide +kernel), List.mem_of_getElem? (i := 1357) (by decide +kernel), List.mem_of_getElem? (i := 1358) (by decide +kernel)⟩
theorem lw_p84 : lw_okq (⟨"SafeVolumesModel", "settles", "(I)V"⟩, 36) := ⟨⟨by decide +kernel, by decide +kernel⟩, List.mem_of_getElem? (i := 1019) (by decide +kernel), List.mem_of_getElem? (i := 1361) (by decide +kernel), List.mem_of_getElem? (i := 1362) (by decide +kernel)⟩
theorem lw_p85 : lw_okq (⟨"SafeVolumesModel", "isInside", "()Z"⟩, 36) := ⟨⟨by decide +kernel, by decide +kernel⟩, List.mem_of_getElem? (i := 1019) (by decide +kernel), List.mem_of_getElem? (i := 1368) (by decide +kernel), List.mem_of_getElem? (i := 1369) (by decide +kernel)⟩
theorem lw_p86 : lw_okq (⟨"SafeVolumesModel", "sets", "([IIII)Z"⟩, 36) := ⟨⟨by decide +kernel, by decide +kernel⟩, List.mem_of_getElem? (i := 1019) (by decide +kernel), List.mem_of_getElem? (i := 1374) (by decide +kernel), List.mem_of_getElem? (i := 1375) (by decide +kernel)⟩
theorem lw_p87 : lw_okq (⟨"SafeVolumesModel", "sourced", "()Z"⟩, 36) := ⟨⟨by decide +kernel, by decide +kernel⟩, List.mem_of_getElem? (i := 1019) (by decide +kernel), List.mem_of_getElem? (i := 1378) (by decide +kernel), List.mem_of_getElem? (i := 1379) (by decide +kernel)⟩
theorem lw_p88 : lw_okq (⟨"SafeVolumesModel", "stuffed", "()Z"⟩, 36) := ⟨⟨by decide +kernel, by decide +kernel⟩, List.mem_of_getElem? (i := 1019) (by decide +kernel), List.mem_of_getElem? (i := 1382) (by decide +kernel), List.mem_of_getElem? (i := 1383) (by decide +kernel)⟩
theorem lw_p89 : lw_okq (⟨"SafeVolumesModel", "isReader", "(I)Z"⟩, 36) := ⟨⟨by decide +kernel, by decide +kernel⟩, List.mem_of_getElem? (i := 1019) (by decide +kernel), List.mem_of_getElem? (i := 1394) (by decide +kernel), List.mem_of_getElem? (i := 1395) (by decide +kernel)⟩
theorem lw_p90 : lw_okq (⟨"SafeVolumesModel", "areTwo", "(II)Z"⟩, 36) := ⟨⟨by decide +kernel, by decide +kernel⟩, List.mem_of_getElem? (i := 1019) (by decide +kernel), List.mem_of_getElem? (i := 1398) (by decide +kernel), List.mem_of_getElem? (i := 1399) (by decide +kernel)⟩
theorem lw_p91 : lw_okq (⟨"SafeVolumesModel", "chanceOf", "(III)I"⟩, 36) := ⟨⟨by decide +kernel, by decide +kernel⟩, List.mem_of_getElem? (i := 1019) (by decide +kernel), List.mem_of_getElem? (i := 1402) (by decide +kernel), List.mem_of_getElem? (i := 1403) (by decide +kernel)⟩
theorem lw_p92 : lw_okq (⟨"SafeVolumesModel", "late", "(I)I"⟩, 36) := ⟨⟨by decide +kernel, by decide +kernel⟩, List.mem_of_getElem? (i := 1019) (by decide +kernel), List.mem_of_getElem? (i := 1406) (by decide +kernel), List.mem_of_getElem? (i := 1407) (by decide +kernel)⟩
theorem lw_p93 : lw_okq (⟨"SafeVolumesModel", "volumes", "()I"⟩, 36) := ⟨⟨by decide +kernel, by decide +kernel⟩, List.mem_of_getElem? (i := 1019) (by decide +kernel), List.mem_of_getElem? (i := 1410) (by decide +kernel), List.mem_of_getElem? (i := 1411) (by decide +kernel)⟩
theorem lw_p94 : lw_okq (⟨"SafeVolumesModel", "reckons", "(III)J"⟩, 36) := ⟨⟨by decide +kernel, by decide +kernel⟩, List.mem_of_getElem? (i := 1019) (by decide +kernel), List.mem_of_getElem? (i := 1414) (by decide +kernel), List.mem_of_getElem? (i := 1415) (by decide +kernel)⟩
theorem lw_p95 : lw_okq (⟨"SafeVolumesModel", "push", "(J)V"⟩, 36) := ⟨⟨by decide +kernel, by decide +kernel⟩, List.mem_of_getElem? (i := 1019) (by decide +kernel), List.mem_of_getElem? (i := 1418) (by decide +kernel), List.mem_of_getElem? (i := 1419) (by decide +kernel)⟩
def lw_privs_6 : List (MethodName × Nat) := [(⟨"SafeVolumesModel", "fact", "()Z"⟩, 36), (⟨"SafeVolumesModel", "opens", "(I)Z"⟩, 36), (⟨"SafeVolumesModel", "compare", "()Z"⟩, 36), (⟨"SafeVolumesModel", "closes", "()V"⟩, 36), (⟨"SafeVolumesModel", "settles", "(I)V"⟩, 36), (⟨"SafeVolumesModel", "isInside", "()Z"⟩, 36), (⟨"SafeVolumesModel", "sets", "([IIII)Z"⟩, 36), (⟨"SafeVolumesModel", "sourced", "()Z"⟩, 36), (⟨"SafeVolumesModel", "stuffed", "()Z"⟩, 36), (⟨"SafeVolumesModel", "isReader", "(I)Z"⟩, 36), (⟨"SafeVolumesModel", "areTwo", "(II)Z"⟩, 36), (⟨"SafeVolumesModel", "chanceOf", "(III)I"⟩, 36), (⟨"SafeVolumesModel", "late", "(I)I"⟩, 36), (⟨"SafeVolumesModel", "volumes", "()I"⟩, 36), (⟨"SafeVolumesModel", "reckons", "(III)J"⟩, 36), (⟨"SafeVolumesModel", "push", "(J)V"⟩, 36)]
theorem lw_r6 : ∀ q ∈ lw_privs_6, lw_okq q := List.forall_mem_cons.mpr ⟨lw_p80, List.forall_mem_cons.mpr ⟨lw_p81, List.forall_mem_cons.mpr ⟨lw_p82, List.forall_mem_cons.mpr ⟨lw_p83, List.forall_mem_cons.mpr ⟨lw_p84, List.forall_mem_cons.mpr ⟨lw_p85, List.forall_mem_cons.mpr ⟨lw_p86, List.forall_mem_cons.mpr ⟨lw_p87, List.forall_mem_cons.mpr ⟨lw_p88, List.forall_mem_cons.mpr ⟨lw_p89, List.forall_mem_cons.mpr ⟨lw_p90, List.forall_mem_cons.mpr ⟨lw_p91, List.forall_mem_cons.mpr ⟨lw_p92, List.forall_mem_cons.mpr ⟨lw_p93, List.forall_mem_cons.mpr ⟨lw_p94, List.forall_mem_cons.mpr ⟨lw_p95, fun _ h => absurd h List.not_mem_nil⟩⟩⟩⟩⟩⟩⟩⟩⟩⟩⟩⟩⟩⟩⟩⟩
theorem lw_p96 : lw_okq (⟨"SafeVolumesModel", "pop", "()J"⟩, 36) := ⟨⟨by decide +kernel, by decide +kernel⟩, List.mem_of_getElem? (i := 1019) (by decide +kernel), List.mem_of_getElem? (i := 1422) (by decide +kernel), List.mem_of_getElem? (i := 1423) (by decide +kernel)⟩
theorem lw_p97 : lw_okq (⟨"SafeVolumesModel", "isClose", "(I)Z"⟩, 36) := ⟨⟨by decide +kernel, by decide +kernel⟩, List.mem_of_getElem? (i := 1019) (by decide +kernel), List.mem_of_getElem? (i := 1438) (by decide +kernel), List.mem_of_getElem? (i := 1439) (by decide +kernel)⟩
theorem lw_p98 : lw_okq (⟨"SafeVolumesModel", "firstTest", "(I)I"⟩, 36) := ⟨⟨by decide +kernel, by decide +kernel⟩, List.mem_of_getElem? (i := 1019) (by decide +kernel), List.mem_of_getElem? (i := 1464) (by decide +kernel), List.mem_of_getElem? (i := 1465) (by decide +kernel)⟩
theorem lw_p99 : lw_okq (⟨"SafeVolumesModel", "isHis", "(II)Z"⟩, 36) := ⟨⟨by decide +kernel, by decide +kernel⟩, List.mem_of_getElem? (i := 1019) (by decide +kernel), List.mem_of_getElem? (i := 1488) (by decide +kernel), List.mem_of_getElem? (i := 1489) (by decide +kernel)⟩
theorem lw_p100 : lw_okq (⟨"SafeVolumesModel", "isMaker", "(I)Z"⟩, 36) := ⟨⟨by decide +kernel, by decide +kernel⟩, List.mem_of_getElem? (i := 1019) (by decide +kernel), List.mem_of_getElem? (i := 1496) (by decide +kernel), List.mem_of_getElem? (i := 1497) (by decide +kernel)⟩
theorem lw_p101 : lw_okq (⟨"SafeVolumesModel", "works", "(IIIIIZ)I"⟩, 36) := ⟨⟨by decide +kernel, by decide +kernel⟩, List.mem_of_getElem? (i := 1019) (by decide +kernel), List.mem_of_getElem? (i := 1509) (by decide +kernel), List.mem_of_getElem? (i := 1510) (by decide +kernel)⟩
theorem lw_p102 : lw_okq (⟨"SafeVolumesModel", "placeBy", "(II)I"⟩, 36) := ⟨⟨by decide +kernel, by decide +kernel⟩, List.mem_of_getElem? (i := 1019) (by decide +kernel), List.mem_of_getElem? (i := 1513) (by decide +kernel), List.mem_of_getElem? (i := 1514) (by decide +kernel)⟩
theorem lw_p103 : lw_okq (⟨"SafeVolumesModel", "waitOf", "(I)J"⟩, 36) := ⟨⟨by decide +kernel, by decide +kernel⟩, List.mem_of_getElem? (i := 1019) (by decide +kernel), List.mem_of_getElem? (i := 1526) (by decide +kernel), List.mem_of_getElem? (i := 1527) (by decide +kernel)⟩
theorem lw_p104 : lw_okq (⟨"SafeVolumesModel", "turns", "(I)Z"⟩, 36) := ⟨⟨by decide +kernel, by decide +kernel⟩, List.mem_of_getElem? (i := 1019) (by decide +kernel), List.mem_of_getElem? (i := 1530) (by decide +kernel), List.mem_of_getElem? (i := 1531) (by decide +kernel)⟩
theorem lw_p105 : lw_okq (⟨"SafeVolumesModel", "isPerson", "(I)Z"⟩, 36) := ⟨⟨by decide +kernel, by decide +kernel⟩, List.mem_of_getElem? (i := 1019) (by decide +kernel), List.mem_of_getElem? (i := 1547) (by decide +kernel), List.mem_of_getElem? (i := 1548) (by decide +kernel)⟩
theorem lw_p106 : lw_okq (⟨"SafeVolumesModel", "knew", "(II)Z"⟩, 36) := ⟨⟨by decide +kernel, by decide +kernel⟩, List.mem_of_getElem? (i := 1019) (by decide +kernel), List.mem_of_getElem? (i := 1555) (by decide +kernel), List.mem_of_getElem? (i := 1556) (by decide +kernel)⟩
def lw_privs_7 : List (MethodName × Nat) := [(⟨"SafeVolumesModel", "pop", "()J"⟩, 36), (⟨"SafeVolumesModel", "isClose", "(I)Z"⟩, 36), (⟨"SafeVolumesModel", "firstTest", "(I)I"⟩, 36), (⟨"SafeVolumesModel", "isHis", "(II)Z"⟩, 36), (⟨"SafeVolumesModel", "isMaker", "(I)Z"⟩, 36), (⟨"SafeVolumesModel", "works", "(IIIIIZ)I"⟩, 36), (⟨"SafeVolumesModel", "placeBy", "(II)I"⟩, 36), (⟨"SafeVolumesModel", "waitOf", "(I)J"⟩, 36), (⟨"SafeVolumesModel", "turns", "(I)Z"⟩, 36), (⟨"SafeVolumesModel", "isPerson", "(I)Z"⟩, 36), (⟨"SafeVolumesModel", "knew", "(II)Z"⟩, 36)]
theorem lw_r7 : ∀ q ∈ lw_privs_7, lw_okq q := List.forall_mem_cons.mpr ⟨lw_p96, List.forall_mem_cons.mpr ⟨lw_p97, List.forall_mem_cons.mpr ⟨lw_p98, List.forall_mem_cons.mpr ⟨lw_p99, List.forall_mem_cons.mpr ⟨lw_p100, List.forall_mem_cons.mpr ⟨lw_p101, List.forall_mem_cons.mpr ⟨lw_p102, List.forall_mem_cons.mpr ⟨lw_p103, List.forall_mem_cons.mpr ⟨lw_p104, List.forall_mem_cons.mpr ⟨lw_p105, List.forall_mem_cons.mpr ⟨lw_p106, fun _ h => absurd h List.not_mem_nil⟩⟩⟩⟩⟩⟩⟩⟩⟩⟩⟩
def lw_privs : List (MethodName × Nat) := lw_privs_1 ++ (lw_privs_2 ++ (lw_privs_3 ++ (lw_privs_4 ++ (lw_privs_5 ++ (lw_privs_6 ++ (lw_privs_7))))))
def lw_tbl : List Cond := k2_sels lw_privs ++ tables_1
theorem lw_privs_ok : ∀ q ∈ lw_privs, lw_okq q := by
  show ∀ q ∈ lw_privs_1 ++ (lw_privs_2 ++ (lw_privs_3 ++ (lw_privs_4 ++ (lw_privs_5 ++ (lw_privs_6 ++ (lw_privs_7)))))), lw_okq q
  exact List.forall_mem_append.mpr ⟨lw_r1, List.forall_mem_append.mpr ⟨lw_r2, List.forall_mem_append.mpr ⟨lw_r3, List.forall_mem_append.mpr ⟨lw_r4, List.forall_mem_append.mpr ⟨lw_r5, List.forall_mem_append.mpr ⟨lw_r6, lw_r7⟩⟩⟩⟩⟩⟩

def RX0 : String := "SafeVolumes$Maker"
def TX0 : u_T := fun k => match k with
  | 0 => ("SafeVolumes$Maker", "pace", "I", false)
  | 1 => ("SafeVolumes$Maker", "slips", "I", false)
  | 2 => ("SafeVolumes$Maker", "stuffs", "I", false)
  | 3 => ("SafeVolumes$Maker", "sources", "[I", true)
  | _ => ("SafeVolumes$Maker", "sourcesTold", "I", false)
def tyX0 : Nat → FieldType := fun k => match k with
  | 0 => .int
  | 1 => .int
  | 2 => .int
  | 3 => .array .int
  | _ => .int
abbrev wsX00 : List Cond := u_ws RX0 TX0 5
theorem nmX0 : ∀ a, a < 5 → ∀ b, b < 5 → a ≠ b → (TX0 a).2.1 ≠ (TX0 b).2.1 := by decide +kernel
theorem tyX0_ok : ∀ k, k < 5 → parseFieldDescriptor (TX0 k).2.2.1 = some (tyX0 k) := by decide +kernel
abbrev cX0_init : ByteArray := prog_2_method_1_code
def yX0_init : MethodName := ⟨RX0, "<init>", "()V"⟩
abbrev cX0_clear : ByteArray := prog_2_method_2_code
def yX0_clear : MethodName := ⟨RX0, "clear", "()V"⟩
abbrev cX0_set : ByteArray := prog_2_method_3_code
def yX0_set : MethodName := ⟨RX0, "set", "(II)Z"⟩
abbrev cX0_placeFrom : ByteArray := prog_2_method_4_code
def yX0_placeFrom : MethodName := ⟨RX0, "placeFrom", "(LSafeVolumes$World;II)I"⟩
abbrev cX0_canMake : ByteArray := prog_2_method_5_code
def yX0_canMake : MethodName := ⟨RX0, "canMake", "(LSafeVolumes$World;I)Z"⟩
abbrev cX0_canWrite : ByteArray := prog_2_method_6_code
def yX0_canWrite : MethodName := ⟨RX0, "canWrite", "(LSafeVolumes$World;II)Z"⟩
abbrev cX0_writePages : ByteArray := prog_2_method_7_code
def yX0_writePages : MethodName := ⟨RX0, "writePages", "(LSafeVolumes$World;IIIIZ)I"⟩
abbrev cX0_placeFor : ByteArray := prog_2_method_8_code
def yX0_placeFor : MethodName := ⟨RX0, "placeFor", "(LSafeVolumes$World;IZI)I"⟩
def RX1 : String := "SafeVolumes$Parser"
def TX1 : u_T := fun k => match k with
  | 0 => ("SafeVolumes$Parser", "reader", "LSafeVolumes$Reader;", false)
  | 1 => ("SafeVolumes$Parser", "maker", "LSafeVolumes$Maker;", false)
  | 2 => ("SafeVolumes$Parser", "due", "I", false)
  | 3 => ("SafeVolumes$Parser", "sum", "I", false)
  | 4 => ("SafeVolumes$Parser", "clause", "I", false)
  | 5 => ("SafeVolumes$Parser", "clauses", "I", false)
  | 6 => ("SafeVolumes$Parser", "onceSeen", "I", false)
  | 7 => ("SafeVolumes$Parser", "items", "I", false)
  | 8 => ("SafeVolumes$Parser", "fault", "I", false)
  | 9 => ("SafeVolumes$Parser", "waiting", "[I", true)
  | 10 => ("SafeVolumes$Parser", "waits", "I", false)
  | 11 => ("SafeVolumes$Parser", "depth", "I", false)
  | _ => ("SafeVolumes$Parser", "brackets", "I", false)
def tyX1 : Nat → FieldType := fun k => match k with
  | 0 => .object "SafeVolumes$Reader"
  | 1 => .object "SafeVolumes$Maker"
  | 2 => .int
  | 3 => .int
  | 4 => .int
  | 5 => .int
  | 6 => .int
  | 7 => .int
  | 8 => .int
  | 9 => .array .int
  | 10 => .int
  | 11 => .int
  | _ => .int
abbrev wsX10 : List Cond := u_ws RX1 TX1 13
theorem nmX1 : ∀ a, a < 13 → ∀ b, b < 13 → a ≠ b → (TX1 a).2.1 ≠ (TX1 b).2.1 := by decide +kernel
theorem tyX1_ok : ∀ k, k < 13 → parseFieldDescriptor (TX1 k).2.2.1 = some (tyX1 k) := by decide +kernel
abbrev cX1_init : ByteArray := prog_3_method_1_code
def yX1_init : MethodName := ⟨RX1, "<init>", "()V"⟩
abbrev cX1_parse : ByteArray := prog_3_method_2_code
def yX1_parse : MethodName := ⟨RX1, "parse", "(LSafeVolumes$Tape;LSafeVolumes$Reader;LSafeVolumes$Maker;)I"⟩
abbrev cX1_begin : ByteArray := prog_3_method_3_code
def yX1_begin : MethodName := ⟨RX1, "begin", "(LSafeVolumes$Reader;LSafeVolumes$Maker;)V"⟩
abbrev cX1_fail : ByteArray := prog_3_method_4_code
def yX1_fail : MethodName := ⟨RX1, "fail", "(LSafeVolumes$Tape;I)V"⟩
abbrev cX1_beginsClause : ByteArray := prog_3_method_5_code
def yX1_beginsClause : MethodName := ⟨RX1, "beginsClause", "(I)Z"⟩
abbrev cX1_takeClause : ByteArray := prog_3_method_6_code
def yX1_takeClause : MethodName := ⟨RX1, "takeClause", "(LSafeVolumes$Tape;)V"⟩
abbrev cX1_takeSetting : ByteArray := prog_3_method_7_code
def yX1_takeSetting : MethodName := ⟨RX1, "takeSetting", "(LSafeVolumes$Tape;)V"⟩
abbrev cX1_set : ByteArray := prog_3_method_8_code
def yX1_set : MethodName := ⟨RX1, "set", "(I)Z"⟩
abbrev cX1_takeFactStart : ByteArray := prog_3_method_9_code
def yX1_takeFactStart : MethodName := ⟨RX1, "takeFactStart", "(LSafeVolumes$Tape;)V"⟩
abbrev cX1_takeValue : ByteArray := prog_3_method_10_code
def yX1_takeValue : MethodName := ⟨RX1, "takeValue", "(LSafeVolumes$Tape;)V"⟩
abbrev cX1_takeBehindValue : ByteArray := prog_3_method_11_code
def yX1_takeBehindValue : MethodName := ⟨RX1, "takeBehindValue", "(LSafeVolumes$Tape;)V"⟩
abbrev cX1_takeSign : ByteArray := prog_3_method_12_code
def yX1_takeSign : MethodName := ⟨RX1, "takeSign", "(LSafeVolumes$Tape;)V"⟩
abbrev cX1_takeBehindFact : ByteArray := prog_3_method_13_code
def yX1_takeBehindFact : MethodName := ⟨RX1, "takeBehindFact", "(LSafeVolumes$Tape;)V"⟩
abbrev cX1_takeBehindClause : ByteArray := prog_3_method_14_code
def yX1_takeBehindClause : MethodName := ⟨RX1, "takeBehindClause", "(LSafeVolumes$Tape;)V"⟩
abbrev cX1_closeness : ByteArray := prog_3_method_15_code
def yX1_closeness : MethodName := ⟨RX1, "closeness", "(I)I"⟩
abbrev cX1_join : ByteArray := prog_3_method_16_code
def yX1_join : MethodName := ⟨RX1, "join", "(I)V"⟩
abbrev cX1_putOff : ByteArray := prog_3_method_17_code
def yX1_putOff : MethodName := ⟨RX1, "putOff", "(I)V"⟩
abbrev cX1_lastWaiting : ByteArray := prog_3_method_18_code
def yX1_lastWaiting : MethodName := ⟨RX1, "lastWaiting", "()I"⟩
abbrev cX1_emitDownTo : ByteArray := prog_3_method_19_code
def yX1_emitDownTo : MethodName := ⟨RX1, "emitDownTo", "(I)V"⟩
abbrev cX1_dropBracket : ByteArray := prog_3_method_20_code
def yX1_dropBracket : MethodName := ⟨RX1, "dropBracket", "()V"⟩
abbrev cX1_emit : ByteArray := prog_3_method_21_code
def yX1_emit : MethodName := ⟨RX1, "emit", "(I)V"⟩
def RX2 : String := "SafeVolumes$Places"
def TX2 : u_T := fun k => match k with
  | 0 => ("SafeVolumes$Places", "keys", "[I", true)
  | 1 => ("SafeVolumes$Places", "places", "[I", true)
  | _ => ("SafeVolumes$Places", "size", "I", false)
def tyX2 : Nat → FieldType := fun k => match k with
  | 0 => .array .int
  | 1 => .array .int
  | _ => .int
abbrev wsX20 : List Cond := u_ws RX2 TX2 3
theorem nmX2 : ∀ a, a < 3 → ∀ b, b < 3 → a ≠ b → (TX2 a).2.1 ≠ (TX2 b).2.1 := by decide +kernel
theorem tyX2_ok : ∀ k, k < 3 → parseFieldDescriptor (TX2 k).2.2.1 = some (tyX2 k) := by decide +kernel
abbrev cX2_init : ByteArray := prog_4_method_1_code
def yX2_init : MethodName := ⟨RX2, "<init>", "(I)V"⟩
abbrev cX2_size : ByteArray := prog_4_method_2_code
def yX2_size : MethodName := ⟨RX2, "size", "()I"⟩
abbrev cX2_keyAt : ByteArray := prog_4_method_3_code
def yX2_keyAt : MethodName := ⟨RX2, "keyAt", "(I)I"⟩
abbrev cX2_placeAt : ByteArray := prog_4_method_4_code
def yX2_placeAt : MethodName := ⟨RX2, "placeAt", "(I)I"⟩
abbrev cX2_firstFrom : ByteArray := prog_4_method_5_code
def yX2_firstFrom : MethodName := ⟨RX2, "firstFrom", "(I)I"⟩
abbrev cX2_hasKey : ByteArray := prog_4_method_6_code
def yX2_hasKey : MethodName := ⟨RX2, "hasKey", "(I)Z"⟩
abbrev cX2_placeOf : ByteArray := prog_4_method_7_code
def yX2_placeOf : MethodName := ⟨RX2, "placeOf", "(I)I"⟩
abbrev cX2_insert : ByteArray := prog_4_method_8_code
def yX2_insert : MethodName := ⟨RX2, "insert", "(II)I"⟩
abbrev cX2_copyFrom : ByteArray := prog_4_method_9_code
def yX2_copyFrom : MethodName := ⟨RX2, "copyFrom", "(LSafeVolumes$Places;)V"⟩
def RX3 : String := "SafeVolumes$Reader"
def TX3 : u_T := fun k => match k with
  | 0 => ("SafeVolumes$Reader", "takes", "I", false)
  | 1 => ("SafeVolumes$Reader", "coins", "I", false)
  | 2 => ("SafeVolumes$Reader", "code", "[I", true)
  | 3 => ("SafeVolumes$Reader", "size", "I", false)
  | 4 => ("SafeVolumes$Reader", "stack", "[J", true)
  | _ => ("SafeVolumes$Reader", "height", "I", false)
def tyX3 : Nat → FieldType := fun k => match k with
  | 0 => .int
  | 1 => .int
  | 2 => .array .int
  | 3 => .int
  | 4 => .array .long
  | _ => .int
abbrev wsX30 : List Cond := u_ws RX3 TX3 6
theorem nmX3 : ∀ a, a < 6 → ∀ b, b < 6 → a ≠ b → (TX3 a).2.1 ≠ (TX3 b).2.1 := by decide +kernel
theorem tyX3_ok : ∀ k, k < 6 → parseFieldDescriptor (TX3 k).2.2.1 = some (tyX3 k) := by decide +kernel
abbrev cX3_init : ByteArray := prog_5_method_1_code
def yX3_init : MethodName := ⟨RX3, "<init>", "()V"⟩
abbrev cX3_codeOfNumber : ByteArray := prog_5_method_2_code
def yX3_codeOfNumber : MethodName := ⟨RX3, "codeOfNumber", "(I)I"⟩
abbrev cX3_clear : ByteArray := prog_5_method_3_code
def yX3_clear : MethodName := ⟨RX3, "clear", "()V"⟩
abbrev cX3_set : ByteArray := prog_5_method_4_code
def yX3_set : MethodName := ⟨RX3, "set", "(II)Z"⟩
abbrev cX3_addCode : ByteArray := prog_5_method_5_code
def yX3_addCode : MethodName := ⟨RX3, "addCode", "(I)V"⟩
abbrev cX3_chanceBy : ByteArray := prog_5_method_6_code
def yX3_chanceBy : MethodName := ⟨RX3, "chanceBy", "([I)I"⟩
abbrev cX3_held : ByteArray := prog_5_method_7_code
def yX3_held : MethodName := ⟨RX3, "held", "(J)I"⟩
abbrev cX3_step : ByteArray := prog_5_method_8_code
def yX3_step : MethodName := ⟨RX3, "step", "(I[I)V"⟩
abbrev cX3_joined : ByteArray := prog_5_method_9_code
def yX3_joined : MethodName := ⟨RX3, "joined", "(IJJ)J"⟩
abbrev cX3_bit : ByteArray := prog_5_method_10_code
def yX3_bit : MethodName := ⟨RX3, "bit", "(Z)J"⟩
abbrev cX3_push : ByteArray := prog_5_method_11_code
def yX3_push : MethodName := ⟨RX3, "push", "(J)V"⟩
abbrev cX3_pop : ByteArray := prog_5_method_12_code
def yX3_pop : MethodName := ⟨RX3, "pop", "()J"⟩
def RX4 : String := "SafeVolumes$ReaderRow"
def TX4 : u_T := fun k => match k with
  | 0 => ("SafeVolumes$ReaderRow", "numbers", "[I", true)
  | 1 => ("SafeVolumes$ReaderRow", "chances", "[I", true)
  | 2 => ("SafeVolumes$ReaderRow", "takes", "[I", true)
  | 3 => ("SafeVolumes$ReaderRow", "coins", "[I", true)
  | 4 => ("SafeVolumes$ReaderRow", "size", "I", false)
  | _ => ("SafeVolumes$ReaderRow", "waits", "[J", true)
def tyX4 : Nat → FieldType := fun k => match k with
  | 0 => .array .int
  | 1 => .array .int
  | 2 => .array .int
  | 3 => .array .int
  | 4 => .int
  | _ => .array .long
abbrev wsX40 : List Cond := u_ws RX4 TX4 6
theorem nmX4 : ∀ a, a < 6 → ∀ b, b < 6 → a ≠ b → (TX4 a).2.1 ≠ (TX4 b).2.1 := by decide +kernel
theorem tyX4_ok : ∀ k, k < 6 → parseFieldDescriptor (TX4 k).2.2.1 = some (tyX4 k) := by decide +kernel
abbrev cX4_init : ByteArray := prog_6_method_1_code
def yX4_init : MethodName := ⟨RX4, "<init>", "()V"⟩
abbrev cX4_clear : ByteArray := prog_6_method_2_code
def yX4_clear : MethodName := ⟨RX4, "clear", "()V"⟩
abbrev cX4_add : ByteArray := prog_6_method_3_code
def yX4_add : MethodName := ⟨RX4, "add", "(IIII)V"⟩
abbrev cX4_waitOf : ByteArray := prog_6_method_4_code
def yX4_waitOf : MethodName := ⟨RX4, "waitOf", "(I)J"⟩
abbrev cX4_waitWith : ByteArray := prog_6_method_5_code
def yX4_waitWith : MethodName := ⟨RX4, "waitWith", "(II)J"⟩
abbrev cX4_findLeastWaits : ByteArray := prog_6_method_6_code
def yX4_findLeastWaits : MethodName := ⟨RX4, "findLeastWaits", "()V"⟩
abbrev cX4_leastWait : ByteArray := prog_6_method_7_code
def yX4_leastWait : MethodName := ⟨RX4, "leastWait", "()J"⟩
abbrev cX4_firstOf : ByteArray := prog_6_method_8_code
def yX4_firstOf : MethodName := ⟨RX4, "firstOf", "(IZ)I"⟩
abbrev cX4_readerInPlace : ByteArray := prog_6_method_9_code
def yX4_readerInPlace : MethodName := ⟨RX4, "readerInPlace", "(I)I"⟩
abbrev cX4_surestFor : ByteArray := prog_6_method_10_code
def yX4_surestFor : MethodName := ⟨RX4, "surestFor", "(I)I"⟩
abbrev cX4_chanceOfAll : ByteArray := prog_6_method_11_code
def yX4_chanceOfAll : MethodName := ⟨RX4, "chanceOfAll", "(I)J"⟩
abbrev cX4_coinsOf : ByteArray := prog_6_method_12_code
def yX4_coinsOf : MethodName := ⟨RX4, "coinsOf", "(I)I"⟩
def RX5 : String := "SafeVolumes$Rows"
def TX5 : u_T := fun k => match k with
  | 0 => ("SafeVolumes$Rows", "cells", "[I", true)
  | 1 => ("SafeVolumes$Rows", "width", "I", true)
  | 2 => ("SafeVolumes$Rows", "limit", "I", true)
  | _ => ("SafeVolumes$Rows", "size", "I", false)
def tyX5 : Nat → FieldType := fun k => match k with
  | 0 => .array .int
  | 1 => .int
  | 2 => .int
  | _ => .int
abbrev wsX50 : List Cond := u_ws RX5 TX5 4
theorem nmX5 : ∀ a, a < 4 → ∀ b, b < 4 → a ≠ b → (TX5 a).2.1 ≠ (TX5 b).2.1 := by decide +kernel
theorem tyX5_ok : ∀ k, k < 4 → parseFieldDescriptor (TX5 k).2.2.1 = some (tyX5 k) := by decide +kernel
abbrev cX5_init : ByteArray := prog_7_method_1_code
def yX5_init : MethodName := ⟨RX5, "<init>", "(II)V"⟩
abbrev cX5_size : ByteArray := prog_7_method_2_code
def yX5_size : MethodName := ⟨RX5, "size", "()I"⟩
abbrev cX5_isFull : ByteArray := prog_7_method_3_code
def yX5_isFull : MethodName := ⟨RX5, "isFull", "()Z"⟩
abbrev cX5_has : ByteArray := prog_7_method_4_code
def yX5_has : MethodName := ⟨RX5, "has", "(I)Z"⟩
abbrev cX5_addRow : ByteArray := prog_7_method_5_code
def yX5_addRow : MethodName := ⟨RX5, "addRow", "()I"⟩
abbrev cX5_at : ByteArray := prog_7_method_6_code
def yX5_at : MethodName := ⟨RX5, "at", "(II)I"⟩
abbrev cX5_put : ByteArray := prog_7_method_7_code
def yX5_put : MethodName := ⟨RX5, "put", "(III)V"⟩
abbrev cX5_cellOf : ByteArray := prog_7_method_8_code
def yX5_cellOf : MethodName := ⟨RX5, "cellOf", "(II)I"⟩
abbrev cX5_copyFrom : ByteArray := prog_7_method_9_code
def yX5_copyFrom : MethodName := ⟨RX5, "copyFrom", "(LSafeVolumes$Rows;)V"⟩
def RX6 : String := "SafeVolumes$Tape"
def TX6 : u_T := fun k => match k with
  | 0 => ("SafeVolumes$Tape", "bytes", "[I", true)
  | 1 => ("SafeVolumes$Tape", "size", "I", false)
  | 2 => ("SafeVolumes$Tape", "at", "I", false)
  | 3 => ("SafeVolumes$Tape", "start", "I", false)
  | 4 => ("SafeVolumes$Tape", "kind", "I", false)
  | 5 => ("SafeVolumes$Tape", "number", "I", false)
  | _ => ("SafeVolumes$Tape", "digits", "I", false)
def tyX6 : Nat → FieldType := fun k => match k with
  | 0 => .array .int
  | 1 => .int
  | 2 => .int
  | 3 => .int
  | 4 => .int
  | 5 => .int
  | _ => .int
abbrev wsX60 : List Cond := u_ws RX6 TX6 7
theorem nmX6 : ∀ a, a < 7 → ∀ b, b < 7 → a ≠ b → (TX6 a).2.1 ≠ (TX6 b).2.1 := by decide +kernel
theorem tyX6_ok : ∀ k, k < 7 → parseFieldDescriptor (TX6 k).2.2.1 = some (tyX6 k) := by decide +kernel
abbrev cX6_init : ByteArray := prog_8_method_1_code
def yX6_init : MethodName := ⟨RX6, "<init>", "()V"⟩
abbrev cX6_size : ByteArray := prog_8_method_2_code
def yX6_size : MethodName := ⟨RX6, "size", "()I"⟩
abbrev cX6_addFour : ByteArray := prog_8_method_3_code
def yX6_addFour : MethodName := ⟨RX6, "addFour", "(I)V"⟩
abbrev cX6_cut : ByteArray := prog_8_method_4_code
def yX6_cut : MethodName := ⟨RX6, "cut", "(I)V"⟩
abbrev cX6_rewind : ByteArray := prog_8_method_5_code
def yX6_rewind : MethodName := ⟨RX6, "rewind", "()V"⟩
abbrev cX6_byteAt : ByteArray := prog_8_method_6_code
def yX6_byteAt : MethodName := ⟨RX6, "byteAt", "(I)I"⟩
abbrev cX6_nextToken : ByteArray := prog_8_method_7_code
def yX6_nextToken : MethodName := ⟨RX6, "nextToken", "()V"⟩
abbrev cX6_goOverNumber : ByteArray := prog_8_method_8_code
def yX6_goOverNumber : MethodName := ⟨RX6, "goOverNumber", "()V"⟩
abbrev cX6_goOverWord : ByteArray := prog_8_method_9_code
def yX6_goOverWord : MethodName := ⟨RX6, "goOverWord", "()V"⟩
abbrev cX6_wordNumber : ByteArray := prog_8_method_10_code
def yX6_wordNumber : MethodName := ⟨RX6, "wordNumber", "(II)I"⟩
abbrev cX6_goOverSign : ByteArray := prog_8_method_11_code
def yX6_goOverSign : MethodName := ⟨RX6, "goOverSign", "(I)V"⟩
abbrev cX6_kindOfSign : ByteArray := prog_8_method_12_code
def yX6_kindOfSign : MethodName := ⟨RX6, "kindOfSign", "(I)I"⟩
def RX7 : String := "SafeVolumes$World"
def TX7 : u_T := fun k => match k with
  | 0 => ("SafeVolumes$World", "now", "I", false)
  | 1 => ("SafeVolumes$World", "stuffs", "LSafeVolumes$Rows;", true)
  | 2 => ("SafeVolumes$World", "truth", "LSafeVolumes$Places;", true)
  | 3 => ("SafeVolumes$World", "facts", "LSafeVolumes$Places;", true)
  | 4 => ("SafeVolumes$World", "pieces", "LSafeVolumes$Rows;", true)
  | 5 => ("SafeVolumes$World", "pages", "LSafeVolumes$Places;", true)
  | 6 => ("SafeVolumes$World", "looks", "LSafeVolumes$Rows;", true)
  | 7 => ("SafeVolumes$World", "tests", "LSafeVolumes$Rows;", true)
  | _ => ("SafeVolumes$World", "people", "LSafeVolumes$Rows;", true)
def tyX7 : Nat → FieldType := fun k => match k with
  | 0 => .int
  | 1 => .object "SafeVolumes$Rows"
  | 2 => .object "SafeVolumes$Places"
  | 3 => .object "SafeVolumes$Places"
  | 4 => .object "SafeVolumes$Rows"
  | 5 => .object "SafeVolumes$Places"
  | 6 => .object "SafeVolumes$Rows"
  | 7 => .object "SafeVolumes$Rows"
  | _ => .object "SafeVolumes$Rows"
abbrev wsX70 : List Cond := u_ws RX7 TX7 9
theorem nmX7 : ∀ a, a < 9 → ∀ b, b < 9 → a ≠ b → (TX7 a).2.1 ≠ (TX7 b).2.1 := by decide +kernel
theorem tyX7_ok : ∀ k, k < 9 → parseFieldDescriptor (TX7 k).2.2.1 = some (tyX7 k) := by decide +kernel
abbrev cX7_init : ByteArray := prog_9_method_1_code
def yX7_init : MethodName := ⟨RX7, "<init>", "()V"⟩
abbrev cX7_copyFrom : ByteArray := prog_9_method_2_code
def yX7_copyFrom : MethodName := ⟨RX7, "copyFrom", "(LSafeVolumes$World;)V"⟩
abbrev cX7_areUnlike : ByteArray := prog_9_method_3_code
def yX7_areUnlike : MethodName := ⟨RX7, "areUnlike", "(II)Z"⟩
abbrev cX7_isKeptClose : ByteArray := prog_9_method_4_code
def yX7_isKeptClose : MethodName := ⟨RX7, "isKeptClose", "(I)Z"⟩
abbrev cX7_isVolume : ByteArray := prog_9_method_5_code
def yX7_isVolume : MethodName := ⟨RX7, "isVolume", "(I)Z"⟩
abbrev cX7_volumes : ByteArray := prog_9_method_6_code
def yX7_volumes : MethodName := ⟨RX7, "volumes", "()I"⟩
abbrev cX7_firstPage : ByteArray := prog_9_method_7_code
def yX7_firstPage : MethodName := ⟨RX7, "firstPage", "(I)I"⟩
abbrev cX7_pagesEnd : ByteArray := prog_9_method_8_code
def yX7_pagesEnd : MethodName := ⟨RX7, "pagesEnd", "(I)I"⟩
abbrev cX7_dayOfPage : ByteArray := prog_9_method_9_code
def yX7_dayOfPage : MethodName := ⟨RX7, "dayOfPage", "(I)I"⟩
abbrev cX7_pagesOf : ByteArray := prog_9_method_10_code
def yX7_pagesOf : MethodName := ⟨RX7, "pagesOf", "(I)I"⟩
abbrev cX7_isWrong : ByteArray := prog_9_method_11_code
def yX7_isWrong : MethodName := ⟨RX7, "isWrong", "(I)Z"⟩
abbrev cX7_sourcesOfPage : ByteArray := prog_9_method_12_code
def yX7_sourcesOfPage : MethodName := ⟨RX7, "sourcesOfPage", "(I)I"⟩
abbrev cX7_isNowhere : ByteArray := prog_9_method_13_code
def yX7_isNowhere : MethodName := ⟨RX7, "isNowhere", "(I)Z"⟩
abbrev cX7_wrongPages : ByteArray := prog_9_method_14_code
def yX7_wrongPages : MethodName := ⟨RX7, "wrongPages", "(I)I"⟩
abbrev cX7_sharedPages : ByteArray := prog_9_method_15_code
def yX7_sharedPages : MethodName := ⟨RX7, "sharedPages", "(I)I"⟩
abbrev cX7_pagesSharedWith : ByteArray := prog_9_method_16_code
def yX7_pagesSharedWith : MethodName := ⟨RX7, "pagesSharedWith", "(II)I"⟩
abbrev cX7_nowherePages : ByteArray := prog_9_method_17_code
def yX7_nowherePages : MethodName := ⟨RX7, "nowherePages", "(I)I"⟩
abbrev cX7_ageOf : ByteArray := prog_9_method_18_code
def yX7_ageOf : MethodName := ⟨RX7, "ageOf", "(I)I"⟩
abbrev cX7_tooYoung : ByteArray := prog_9_method_19_code
def yX7_tooYoung : MethodName := ⟨RX7, "tooYoung", "(I)I"⟩
abbrev cX7_apart : ByteArray := prog_9_method_20_code
def yX7_apart : MethodName := ⟨RX7, "apart", "(II)I"⟩
abbrev cX7_late : ByteArray := prog_9_method_21_code
def yX7_late : MethodName := ⟨RX7, "late", "(I)I"⟩
abbrev cX7_fillWords : ByteArray := prog_9_method_22_code
def yX7_fillWords : MethodName := ⟨RX7, "fillWords", "([III)V"⟩
abbrev cX7_standUpTo : ByteArray := prog_9_method_23_code
def yX7_standUpTo : MethodName := ⟨RX7, "standUpTo", "(II)I"⟩
abbrev cX7_costOfKeeping : ByteArray := prog_9_method_24_code
def yX7_costOfKeeping : MethodName := ⟨RX7, "costOfKeeping", "(I)I"⟩
abbrev cX7_cheapestTooYoung : ByteArray := prog_9_method_25_code
def yX7_cheapestTooYoung : MethodName := ⟨RX7, "cheapestTooYoung", "(I)I"⟩
abbrev cX7_likeliestSource : ByteArray := prog_9_method_26_code
def yX7_likeliestSource : MethodName := ⟨RX7, "likeliestSource", "(I)I"⟩
abbrev cX7_sourcesOf : ByteArray := prog_9_method_27_code
def yX7_sourcesOf : MethodName := ⟨RX7, "sourcesOf", "(I)I"⟩
abbrev cX7_weekTooFast : ByteArray := prog_9_method_28_code
def yX7_weekTooFast : MethodName := ⟨RX7, "weekTooFast", "(II)I"⟩
abbrev cX7_growth : ByteArray := prog_9_method_29_code
def yX7_growth : MethodName := ⟨RX7, "growth", "()I"⟩
abbrev cX7_growthBehind : ByteArray := prog_9_method_30_code
def yX7_growthBehind : MethodName := ⟨RX7, "growthBehind", "(II)I"⟩
abbrev cX7_knewWrongDay : ByteArray := prog_9_method_31_code
def yX7_knewWrongDay : MethodName := ⟨RX7, "knewWrongDay", "(II)Z"⟩
abbrev cX7_unaskedUpTo : ByteArray := prog_9_method_32_code
def yX7_unaskedUpTo : MethodName := ⟨RX7, "unaskedUpTo", "(II)I"⟩
abbrev cX7_gainUpTo : ByteArray := prog_9_method_33_code
def yX7_gainUpTo : MethodName := ⟨RX7, "gainUpTo", "(II)I"⟩
def RX8 : String := "SafeVolumes"
def TX8 : u_T := fun k => match k with
  | 0 => ("SafeVolumes", "world", "LSafeVolumes$World;", true)
  | 1 => ("SafeVolumes", "images", "[LSafeVolumes$World;", true)
  | 2 => ("SafeVolumes", "tape", "LSafeVolumes$Tape;", true)
  | 3 => ("SafeVolumes", "parser", "LSafeVolumes$Parser;", true)
  | 4 => ("SafeVolumes", "readers", "[LSafeVolumes$Reader;", true)
  | 5 => ("SafeVolumes", "readersTold", "I", false)
  | 6 => ("SafeVolumes", "makers", "[LSafeVolumes$Maker;", true)
  | 7 => ("SafeVolumes", "makersTold", "I", false)
  | 8 => ("SafeVolumes", "words", "[I", true)
  | _ => ("SafeVolumes", "row", "LSafeVolumes$ReaderRow;", true)
def tyX8 : Nat → FieldType := fun k => match k with
  | 0 => .object "SafeVolumes$World"
  | 1 => .array (.object "SafeVolumes$World")
  | 2 => .object "SafeVolumes$Tape"
  | 3 => .object "SafeVolumes$Parser"
  | 4 => .array (.object "SafeVolumes$Reader")
  | 5 => .int
  | 6 => .array (.object "SafeVolumes$Maker")
  | 7 => .int
  | 8 => .array .int
  | _ => .object "SafeVolumes$ReaderRow"
abbrev wsX80 : List Cond := u_ws RX8 TX8 10
theorem nmX8 : ∀ a, a < 10 → ∀ b, b < 10 → a ≠ b → (TX8 a).2.1 ≠ (TX8 b).2.1 := by decide +kernel
theorem tyX8_ok : ∀ k, k < 10 → parseFieldDescriptor (TX8 k).2.2.1 = some (tyX8 k) := by decide +kernel
abbrev cX8_init : ByteArray := prog_1_method_1_code
def yX8_init : MethodName := ⟨RX8, "<init>", "()V"⟩
abbrev cX8_clock : ByteArray := prog_1_method_2_code
def yX8_clock : MethodName := ⟨RX8, "clock", "(I)Z"⟩
abbrev cX8_stuff : ByteArray := prog_1_method_3_code
def yX8_stuff : MethodName := ⟨RX8, "stuff", "(II)I"⟩
abbrev cX8_truth : ByteArray := prog_1_method_4_code
def yX8_truth : MethodName := ⟨RX8, "truth", "(II)I"⟩
abbrev cX8_fact : ByteArray := prog_1_method_5_code
def yX8_fact : MethodName := ⟨RX8, "fact", "(III)I"⟩
abbrev cX8_piece : ByteArray := prog_1_method_6_code
def yX8_piece : MethodName := ⟨RX8, "piece", "(IIIIIIII)I"⟩
abbrev cX8_page : ByteArray := prog_1_method_7_code
def yX8_page : MethodName := ⟨RX8, "page", "(III)I"⟩
abbrev cX8_of : ByteArray := prog_1_method_8_code
def yX8_of : MethodName := ⟨RX8, "of", "(II)I"⟩
abbrev cX8_shared : ByteArray := prog_1_method_9_code
def yX8_shared : MethodName := ⟨RX8, "shared", "(II)I"⟩
abbrev cX8_feed : ByteArray := prog_1_method_10_code
def yX8_feed : MethodName := ⟨RX8, "feed", "(IIIII)I"⟩
abbrev cX8_end : ByteArray := prog_1_method_11_code
def yX8_end : MethodName := ⟨RX8, "end", "(I)I"⟩
abbrev cX8_reader : ByteArray := prog_1_method_12_code
def yX8_reader : MethodName := ⟨RX8, "reader", "()I"⟩
abbrev cX8_maker : ByteArray := prog_1_method_13_code
def yX8_maker : MethodName := ⟨RX8, "maker", "()I"⟩
abbrev cX8_chance : ByteArray := prog_1_method_14_code
def yX8_chance : MethodName := ⟨RX8, "chance", "(III)I"⟩
abbrev cX8_tells : ByteArray := prog_1_method_15_code
def yX8_tells : MethodName := ⟨RX8, "tells", "(IIII)I"⟩
abbrev cX8_look : ByteArray := prog_1_method_16_code
def yX8_look : MethodName := ⟨RX8, "look", "(IIII)I"⟩
abbrev cX8_test : ByteArray := prog_1_method_17_code
def yX8_test : MethodName := ⟨RX8, "test", "(II)I"⟩
abbrev cX8_keep : ByteArray := prog_1_method_18_code
def yX8_keep : MethodName := ⟨RX8, "keep", "(II)I"⟩
abbrev cX8_stand : ByteArray := prog_1_method_19_code
def yX8_stand : MethodName := ⟨RX8, "stand", "(II)I"⟩
abbrev cX8_cost : ByteArray := prog_1_method_20_code
def yX8_cost : MethodName := ⟨RX8, "cost", "(I)I"⟩
abbrev cX8_cheapest : ByteArray := prog_1_method_21_code
def yX8_cheapest : MethodName := ⟨RX8, "cheapest", "(I)I"⟩
abbrev cX8_likely : ByteArray := prog_1_method_22_code
def yX8_likely : MethodName := ⟨RX8, "likely", "(I)I"⟩
abbrev cX8_kin : ByteArray := prog_1_method_23_code
def yX8_kin : MethodName := ⟨RX8, "kin", "(II)I"⟩
abbrev cX8_could : ByteArray := prog_1_method_24_code
def yX8_could : MethodName := ⟨RX8, "could", "(I)I"⟩
abbrev cX8_outrun : ByteArray := prog_1_method_25_code
def yX8_outrun : MethodName := ⟨RX8, "outrun", "(II)I"⟩
abbrev cX8_grows : ByteArray := prog_1_method_26_code
def yX8_grows : MethodName := ⟨RX8, "grows", "()I"⟩
abbrev cX8_make : ByteArray := prog_1_method_27_code
def yX8_make : MethodName := ⟨RX8, "make", "(IIIII)I"⟩
abbrev cX8_soonest : ByteArray := prog_1_method_28_code
def yX8_soonest : MethodName := ⟨RX8, "soonest", "(IIII)J"⟩
abbrev cX8_surest : ByteArray := prog_1_method_29_code
def yX8_surest : MethodName := ⟨RX8, "surest", "(III)I"⟩
abbrev cX8_person : ByteArray := prog_1_method_30_code
def yX8_person : MethodName := ⟨RX8, "person", "(IIII)I"⟩
abbrev cX8_ask : ByteArray := prog_1_method_31_code
def yX8_ask : MethodName := ⟨RX8, "ask", "(I)Z"⟩
abbrev cX8_unasked : ByteArray := prog_1_method_32_code
def yX8_unasked : MethodName := ⟨RX8, "unasked", "(II)I"⟩
abbrev cX8_gain : ByteArray := prog_1_method_33_code
def yX8_gain : MethodName := ⟨RX8, "gain", "(II)I"⟩
abbrev cX8_count : ByteArray := prog_1_method_34_code
def yX8_count : MethodName := ⟨RX8, "count", "(I)I"⟩
abbrev cX8_image : ByteArray := prog_1_method_35_code
def yX8_image : MethodName := ⟨RX8, "image", "(I)I"⟩
abbrev cX8_back : ByteArray := prog_1_method_36_code
def yX8_back : MethodName := ⟨RX8, "back", "(I)I"⟩
abbrev cX8_isFrom : ByteArray := prog_1_method_37_code
def yX8_isFrom : MethodName := ⟨RX8, "isFrom", "(III)Z"⟩
abbrev cX8_hasBit : ByteArray := prog_1_method_38_code
def yX8_hasBit : MethodName := ⟨RX8, "hasBit", "(II)Z"⟩
abbrev cX8_isHand : ByteArray := prog_1_method_39_code
def yX8_isHand : MethodName := ⟨RX8, "isHand", "(IIIII)Z"⟩
abbrev cX8_drawn : ByteArray := prog_1_method_40_code
def yX8_drawn : MethodName := ⟨RX8, "drawn", "(I)I"⟩
abbrev cX8_perMille : ByteArray := prog_1_method_41_code
def yX8_perMille : MethodName := ⟨RX8, "perMille", "(I)I"⟩
abbrev cX8_readerAt : ByteArray := prog_1_method_42_code
def yX8_readerAt : MethodName := ⟨RX8, "readerAt", "(I)LSafeVolumes$Reader;"⟩
abbrev cX8_makerAt : ByteArray := prog_1_method_43_code
def yX8_makerAt : MethodName := ⟨RX8, "makerAt", "(I)LSafeVolumes$Maker;"⟩
abbrev cX8_chanceOf : ByteArray := prog_1_method_44_code
def yX8_chanceOf : MethodName := ⟨RX8, "chanceOf", "(LSafeVolumes$Reader;II)I"⟩
abbrev cX8_fillRow : ByteArray := prog_1_method_45_code
def yX8_fillRow : MethodName := ⟨RX8, "fillRow", "(III)V"⟩
def RX9 : String := "SafeVolumesModel"
def TX9 : u_T := fun k => match k with
  | 0 => ("SafeVolumesModel", "row", "[I", true)
  | 1 => ("SafeVolumesModel", "tape", "[B", true)
  | 2 => ("SafeVolumesModel", "taped", "I", false)
  | 3 => ("SafeVolumesModel", "sign", "[I", true)
  | 4 => ("SafeVolumesModel", "length", "[I", true)
  | 5 => ("SafeVolumesModel", "clause", "[I", true)
  | 6 => ("SafeVolumesModel", "clauses", "[I", true)
  | 7 => ("SafeVolumesModel", "takes", "[I", true)
  | 8 => ("SafeVolumesModel", "coins", "[I", true)
  | 9 => ("SafeVolumesModel", "pace", "[I", true)
  | 10 => ("SafeVolumesModel", "slips", "[I", true)
  | 11 => ("SafeVolumesModel", "from", "[I", true)
  | 12 => ("SafeVolumesModel", "fromMany", "[I", true)
  | 13 => ("SafeVolumesModel", "has", "[I", true)
  | 14 => ("SafeVolumesModel", "readers", "I", false)
  | 15 => ("SafeVolumesModel", "makers", "I", false)
  | 16 => ("SafeVolumesModel", "next", "I", false)
  | 17 => ("SafeVolumesModel", "wrong", "I", false)
  | 18 => ("SafeVolumesModel", "said", "I", false)
  | 19 => ("SafeVolumesModel", "text", "I", false)
  | 20 => ("SafeVolumesModel", "made", "I", false)
  | 21 => ("SafeVolumesModel", "deep", "I", false)
  | 22 => ("SafeVolumesModel", "lines", "I", false)
  | 23 => ("SafeVolumesModel", "open", "[I", true)
  | 24 => ("SafeVolumesModel", "opened", "I", false)
  | 25 => ("SafeVolumesModel", "stack", "[J", true)
  | 26 => ("SafeVolumesModel", "top", "I", false)
  | 27 => ("SafeVolumesModel", "word", "[J", true)
  | 28 => ("SafeVolumesModel", "gap", "[I", true)
  | 29 => ("SafeVolumesModel", "paid", "[I", true)
  | 30 => ("SafeVolumesModel", "seedNow", "J", false)
  | 31 => ("SafeVolumesModel", "order", "[I", true)
  | 32 => ("SafeVolumesModel", "bestOrder", "[I", true)
  | 33 => ("SafeVolumesModel", "chances", "[I", true)
  | 34 => ("SafeVolumesModel", "images", "[I", true)
  | _ => ("SafeVolumesModel", "isMade", "[Z", true)
def tyX9 : Nat → FieldType := fun k => match k with
  | 0 => .array .int
  | 1 => .array .byte
  | 2 => .int
  | 3 => .array .int
  | 4 => .array .int
  | 5 => .array .int
  | 6 => .array .int
  | 7 => .array .int
  | 8 => .array .int
  | 9 => .array .int
  | 10 => .array .int
  | 11 => .array .int
  | 12 => .array .int
  | 13 => .array .int
  | 14 => .int
  | 15 => .int
  | 16 => .int
  | 17 => .int
  | 18 => .int
  | 19 => .int
  | 20 => .int
  | 21 => .int
  | 22 => .int
  | 23 => .array .int
  | 24 => .int
  | 25 => .array .long
  | 26 => .int
  | 27 => .array .long
  | 28 => .array .int
  | 29 => .array .int
  | 30 => .long
  | 31 => .array .int
  | 32 => .array .int
  | 33 => .array .int
  | 34 => .array .int
  | _ => .array .boolean
abbrev wsX90 : List Cond := u_ws RX9 TX9 36
theorem nmX9 : ∀ a, a < 36 → ∀ b, b < 36 → a ≠ b → (TX9 a).2.1 ≠ (TX9 b).2.1 := by decide +kernel
theorem tyX9_ok : ∀ k, k < 36 → parseFieldDescriptor (TX9 k).2.2.1 = some (tyX9 k) := by decide +kernel
abbrev cX9_init : ByteArray := prog_11_method_1_code
def yX9_init : MethodName := ⟨RX9, "<init>", "()V"⟩
abbrev cX9_in : ByteArray := prog_11_method_2_code
def yX9_in : MethodName := ⟨RX9, "in", "(JJJ)Z"⟩
abbrev cX9_isWeek : ByteArray := prog_11_method_3_code
def yX9_isWeek : MethodName := ⟨RX9, "isWeek", "(I)Z"⟩
abbrev cX9_isDay : ByteArray := prog_11_method_4_code
def yX9_isDay : MethodName := ⟨RX9, "isDay", "(I)Z"⟩
abbrev cX9_isPiece : ByteArray := prog_11_method_5_code
def yX9_isPiece : MethodName := ⟨RX9, "isPiece", "(I)Z"⟩
abbrev cX9_clock : ByteArray := prog_11_method_6_code
def yX9_clock : MethodName := ⟨RX9, "clock", "(I)Z"⟩
abbrev cX9_stuff : ByteArray := prog_11_method_7_code
def yX9_stuff : MethodName := ⟨RX9, "stuff", "(II)I"⟩
abbrev cX9_truthOf : ByteArray := prog_11_method_8_code
def yX9_truthOf : MethodName := ⟨RX9, "truthOf", "(I)I"⟩
abbrev cX9_factOf : ByteArray := prog_11_method_9_code
def yX9_factOf : MethodName := ⟨RX9, "factOf", "(II)I"⟩
abbrev cX9_truth : ByteArray := prog_11_method_10_code
def yX9_truth : MethodName := ⟨RX9, "truth", "(II)I"⟩
abbrev cX9_fact : ByteArray := prog_11_method_11_code
def yX9_fact : MethodName := ⟨RX9, "fact", "(III)I"⟩
abbrev cX9_piece : ByteArray := prog_11_method_12_code
def yX9_piece : MethodName := ⟨RX9, "piece", "(IIIIIIII)I"⟩
abbrev cX9_pieceCell : ByteArray := prog_11_method_13_code
def yX9_pieceCell : MethodName := ⟨RX9, "pieceCell", "(II)I"⟩
abbrev cX9_hasDay : ByteArray := prog_11_method_14_code
def yX9_hasDay : MethodName := ⟨RX9, "hasDay", "(II)Z"⟩
abbrev cX9_adds : ByteArray := prog_11_method_15_code
def yX9_adds : MethodName := ⟨RX9, "adds", "(III)V"⟩
abbrev cX9_page : ByteArray := prog_11_method_16_code
def yX9_page : MethodName := ⟨RX9, "page", "(III)I"⟩
abbrev cX9_isWrong : ByteArray := prog_11_method_17_code
def yX9_isWrong : MethodName := ⟨RX9, "isWrong", "(I)Z"⟩
abbrev cX9_isShared : ByteArray := prog_11_method_18_code
def yX9_isShared : MethodName := ⟨RX9, "isShared", "(II)Z"⟩
abbrev cX9_isSharedAny : ByteArray := prog_11_method_19_code
def yX9_isSharedAny : MethodName := ⟨RX9, "isSharedAny", "(I)Z"⟩
abbrev cX9_isNowhere : ByteArray := prog_11_method_20_code
def yX9_isNowhere : MethodName := ⟨RX9, "isNowhere", "(I)Z"⟩
abbrev cX9_pagesOf : ByteArray := prog_11_method_21_code
def yX9_pagesOf : MethodName := ⟨RX9, "pagesOf", "(II)I"⟩
abbrev cX9_age : ByteArray := prog_11_method_22_code
def yX9_age : MethodName := ⟨RX9, "age", "(I)I"⟩
abbrev cX9_young : ByteArray := prog_11_method_23_code
def yX9_young : MethodName := ⟨RX9, "young", "(I)I"⟩
abbrev cX9_of : ByteArray := prog_11_method_24_code
def yX9_of : MethodName := ⟨RX9, "of", "(II)I"⟩
abbrev cX9_sharedWith : ByteArray := prog_11_method_25_code
def yX9_sharedWith : MethodName := ⟨RX9, "sharedWith", "(II)I"⟩
abbrev cX9_shared : ByteArray := prog_11_method_26_code
def yX9_shared : MethodName := ⟨RX9, "shared", "(II)I"⟩
abbrev cX9_four : ByteArray := prog_11_method_27_code
def yX9_four : MethodName := ⟨RX9, "four", "(I)V"⟩
abbrev cX9_feed : ByteArray := prog_11_method_28_code
def yX9_feed : MethodName := ⟨RX9, "feed", "(IIIII)I"⟩
abbrev cX9_end : ByteArray := prog_11_method_29_code
def yX9_end : MethodName := ⟨RX9, "end", "(I)I"⟩
abbrev cX9_fails : ByteArray := prog_11_method_30_code
def yX9_fails : MethodName := ⟨RX9, "fails", "(II)Z"⟩
abbrev cX9_see : ByteArray := prog_11_method_31_code
def yX9_see : MethodName := ⟨RX9, "see", "()I"⟩
abbrev cX9_isDigit : ByteArray := prog_11_method_32_code
def yX9_isDigit : MethodName := ⟨RX9, "isDigit", "(I)Z"⟩
abbrev cX9_isLetter : ByteArray := prog_11_method_33_code
def yX9_isLetter : MethodName := ⟨RX9, "isLetter", "(I)Z"⟩
abbrev cX9_isWord : ByteArray := prog_11_method_34_code
def yX9_isWord : MethodName := ⟨RX9, "isWord", "(J)Z"⟩
abbrev cX9_passWord : ByteArray := prog_11_method_35_code
def yX9_passWord : MethodName := ⟨RX9, "passWord", "()V"⟩
abbrev cX9_takesWord : ByteArray := prog_11_method_36_code
def yX9_takesWord : MethodName := ⟨RX9, "takesWord", "(J)Z"⟩
abbrev cX9_number : ByteArray := prog_11_method_37_code
def yX9_number : MethodName := ⟨RX9, "number", "(II)Z"⟩
abbrev cX9_wordHere : ByteArray := prog_11_method_38_code
def yX9_wordHere : MethodName := ⟨RX9, "wordHere", "()I"⟩
abbrev cX9_puts : ByteArray := prog_11_method_39_code
def yX9_puts : MethodName := ⟨RX9, "puts", "(II)V"⟩
abbrev cX9_makes : ByteArray := prog_11_method_40_code
def yX9_makes : MethodName := ⟨RX9, "makes", "(I)Z"⟩
abbrev cX9_opens : ByteArray := prog_11_method_41_code
def yX9_opens : MethodName := ⟨RX9, "opens", "(I)Z"⟩
abbrev cX9_strength : ByteArray := prog_11_method_42_code
def yX9_strength : MethodName := ⟨RX9, "strength", "(I)I"⟩
abbrev cX9_settles : ByteArray := prog_11_method_43_code
def yX9_settles : MethodName := ⟨RX9, "settles", "(I)V"⟩
abbrev cX9_value : ByteArray := prog_11_method_44_code
def yX9_value : MethodName := ⟨RX9, "value", "()Z"⟩
abbrev cX9_term : ByteArray := prog_11_method_45_code
def yX9_term : MethodName := ⟨RX9, "term", "()Z"⟩
abbrev cX9_sum : ByteArray := prog_11_method_46_code
def yX9_sum : MethodName := ⟨RX9, "sum", "()Z"⟩
abbrev cX9_compare : ByteArray := prog_11_method_47_code
def yX9_compare : MethodName := ⟨RX9, "compare", "()Z"⟩
abbrev cX9_fact_ : ByteArray := prog_11_method_48_code
def yX9_fact_ : MethodName := ⟨RX9, "fact", "()Z"⟩
abbrev cX9_isInside : ByteArray := prog_11_method_49_code
def yX9_isInside : MethodName := ⟨RX9, "isInside", "()Z"⟩
abbrev cX9_closes : ByteArray := prog_11_method_50_code
def yX9_closes : MethodName := ⟨RX9, "closes", "()V"⟩
abbrev cX9_tested : ByteArray := prog_11_method_51_code
def yX9_tested : MethodName := ⟨RX9, "tested", "()Z"⟩
abbrev cX9_yes : ByteArray := prog_11_method_52_code
def yX9_yes : MethodName := ⟨RX9, "yes", "()Z"⟩
abbrev cX9_sets : ByteArray := prog_11_method_53_code
def yX9_sets : MethodName := ⟨RX9, "sets", "([IIII)Z"⟩
abbrev cX9_sourced : ByteArray := prog_11_method_54_code
def yX9_sourced : MethodName := ⟨RX9, "sourced", "()Z"⟩
abbrev cX9_stuffed : ByteArray := prog_11_method_55_code
def yX9_stuffed : MethodName := ⟨RX9, "stuffed", "()Z"⟩
abbrev cX9_clauseHere : ByteArray := prog_11_method_56_code
def yX9_clauseHere : MethodName := ⟨RX9, "clauseHere", "()Z"⟩
abbrev cX9_reads : ByteArray := prog_11_method_57_code
def yX9_reads : MethodName := ⟨RX9, "reads", "(I)I"⟩
abbrev cX9_reader : ByteArray := prog_11_method_58_code
def yX9_reader : MethodName := ⟨RX9, "reader", "()I"⟩
abbrev cX9_maker : ByteArray := prog_11_method_59_code
def yX9_maker : MethodName := ⟨RX9, "maker", "()I"⟩
abbrev cX9_push : ByteArray := prog_11_method_60_code
def yX9_push : MethodName := ⟨RX9, "push", "(J)V"⟩
abbrev cX9_pop : ByteArray := prog_11_method_61_code
def yX9_pop : MethodName := ⟨RX9, "pop", "()J"⟩
abbrev cX9_one : ByteArray := prog_11_method_62_code
def yX9_one : MethodName := ⟨RX9, "one", "(IJJ)J"⟩
abbrev cX9_reckons : ByteArray := prog_11_method_63_code
def yX9_reckons : MethodName := ⟨RX9, "reckons", "(III)J"⟩
abbrev cX9_volumes : ByteArray := prog_11_method_64_code
def yX9_volumes : MethodName := ⟨RX9, "volumes", "()I"⟩
abbrev cX9_late : ByteArray := prog_11_method_65_code
def yX9_late : MethodName := ⟨RX9, "late", "(I)I"⟩
abbrev cX9_chanceOf : ByteArray := prog_11_method_66_code
def yX9_chanceOf : MethodName := ⟨RX9, "chanceOf", "(III)I"⟩
abbrev cX9_isReader : ByteArray := prog_11_method_67_code
def yX9_isReader : MethodName := ⟨RX9, "isReader", "(I)Z"⟩
abbrev cX9_isMaker : ByteArray := prog_11_method_68_code
def yX9_isMaker : MethodName := ⟨RX9, "isMaker", "(I)Z"⟩
abbrev cX9_areTwo : ByteArray := prog_11_method_69_code
def yX9_areTwo : MethodName := ⟨RX9, "areTwo", "(II)Z"⟩
abbrev cX9_chance : ByteArray := prog_11_method_70_code
def yX9_chance : MethodName := ⟨RX9, "chance", "(III)I"⟩
abbrev cX9_tells : ByteArray := prog_11_method_71_code
def yX9_tells : MethodName := ⟨RX9, "tells", "(IIII)I"⟩
abbrev cX9_drawn : ByteArray := prog_11_method_72_code
def yX9_drawn : MethodName := ⟨RX9, "drawn", "(J)J"⟩
abbrev cX9_isClose : ByteArray := prog_11_method_73_code
def yX9_isClose : MethodName := ⟨RX9, "isClose", "(I)Z"⟩
abbrev cX9_look : ByteArray := prog_11_method_74_code
def yX9_look : MethodName := ⟨RX9, "look", "(IIII)I"⟩
abbrev cX9_test : ByteArray := prog_11_method_75_code
def yX9_test : MethodName := ⟨RX9, "test", "(II)I"⟩
abbrev cX9_keep : ByteArray := prog_11_method_76_code
def yX9_keep : MethodName := ⟨RX9, "keep", "(II)I"⟩
abbrev cX9_firstTest : ByteArray := prog_11_method_77_code
def yX9_firstTest : MethodName := ⟨RX9, "firstTest", "(I)I"⟩
abbrev cX9_stand : ByteArray := prog_11_method_78_code
def yX9_stand : MethodName := ⟨RX9, "stand", "(II)I"⟩
abbrev cX9_cost : ByteArray := prog_11_method_79_code
def yX9_cost : MethodName := ⟨RX9, "cost", "(I)I"⟩
abbrev cX9_cheapest : ByteArray := prog_11_method_80_code
def yX9_cheapest : MethodName := ⟨RX9, "cheapest", "(I)I"⟩
abbrev cX9_likely : ByteArray := prog_11_method_81_code
def yX9_likely : MethodName := ⟨RX9, "likely", "(I)I"⟩
abbrev cX9_kin : ByteArray := prog_11_method_82_code
def yX9_kin : MethodName := ⟨RX9, "kin", "(II)I"⟩
abbrev cX9_isHis : ByteArray := prog_11_method_83_code
def yX9_isHis : MethodName := ⟨RX9, "isHis", "(II)Z"⟩
abbrev cX9_could : ByteArray := prog_11_method_84_code
def yX9_could : MethodName := ⟨RX9, "could", "(I)I"⟩
abbrev cX9_outrun : ByteArray := prog_11_method_85_code
def yX9_outrun : MethodName := ⟨RX9, "outrun", "(II)I"⟩
abbrev cX9_grows : ByteArray := prog_11_method_86_code
def yX9_grows : MethodName := ⟨RX9, "grows", "()I"⟩
abbrev cX9_placeBy : ByteArray := prog_11_method_87_code
def yX9_placeBy : MethodName := ⟨RX9, "placeBy", "(II)I"⟩
abbrev cX9_works : ByteArray := prog_11_method_88_code
def yX9_works : MethodName := ⟨RX9, "works", "(IIIIIZ)I"⟩
abbrev cX9_make : ByteArray := prog_11_method_89_code
def yX9_make : MethodName := ⟨RX9, "make", "(IIIII)I"⟩
abbrev cX9_bits : ByteArray := prog_11_method_90_code
def yX9_bits : MethodName := ⟨RX9, "bits", "(I)I"⟩
abbrev cX9_turns : ByteArray := prog_11_method_91_code
def yX9_turns : MethodName := ⟨RX9, "turns", "(I)Z"⟩
abbrev cX9_waitOf : ByteArray := prog_11_method_92_code
def yX9_waitOf : MethodName := ⟨RX9, "waitOf", "(I)J"⟩
abbrev cX9_soonest : ByteArray := prog_11_method_93_code
def yX9_soonest : MethodName := ⟨RX9, "soonest", "(IIII)J"⟩
abbrev cX9_surest : ByteArray := prog_11_method_94_code
def yX9_surest : MethodName := ⟨RX9, "surest", "(III)I"⟩
abbrev cX9_person : ByteArray := prog_11_method_95_code
def yX9_person : MethodName := ⟨RX9, "person", "(IIII)I"⟩
abbrev cX9_isPerson : ByteArray := prog_11_method_96_code
def yX9_isPerson : MethodName := ⟨RX9, "isPerson", "(I)Z"⟩
abbrev cX9_ask : ByteArray := prog_11_method_97_code
def yX9_ask : MethodName := ⟨RX9, "ask", "(I)Z"⟩
abbrev cX9_knew : ByteArray := prog_11_method_98_code
def yX9_knew : MethodName := ⟨RX9, "knew", "(II)Z"⟩
abbrev cX9_unasked : ByteArray := prog_11_method_99_code
def yX9_unasked : MethodName := ⟨RX9, "unasked", "(II)I"⟩
abbrev cX9_gain : ByteArray := prog_11_method_100_code
def yX9_gain : MethodName := ⟨RX9, "gain", "(II)I"⟩
abbrev cX9_count : ByteArray := prog_11_method_101_code
def yX9_count : MethodName := ⟨RX9, "count", "(I)I"⟩
abbrev cX9_image : ByteArray := prog_11_method_102_code
def yX9_image : MethodName := ⟨RX9, "image", "(I)I"⟩
abbrev cX9_back : ByteArray := prog_11_method_103_code
def yX9_back : MethodName := ⟨RX9, "back", "(I)I"⟩
def RJ6 : String := "java/lang/Integer"
def TJ6 : u_T := fun k => match k with
  | _ => ("", "", "", false)
def tyJ6 : Nat → FieldType := fun k => match k with
  | _ => .int
theorem nmJ6 : ∀ a, a < 0 → ∀ b, b < 0 → a ≠ b → (TJ6 a).2.1 ≠ (TJ6 b).2.1 := by decide +kernel
theorem tyJ6_ok : ∀ k, k < 0 → parseFieldDescriptor (TJ6 k).2.2.1 = some (tyJ6 k) := by decide +kernel
abbrev cJ6_bitCount_0f7a4 : ByteArray := prog_12_method_49_code
def yJ6_bitCount_0f7a4 : MethodName := ⟨RJ6, "bitCount", "(I)I"⟩
abbrev cJ6_signum_0f7a4 : ByteArray := prog_12_method_56_code
def yJ6_signum_0f7a4 : MethodName := ⟨RJ6, "signum", "(I)I"⟩
def RJ9 : String := "java/lang/Math"
def TJ9 : u_T := fun k => match k with
  | _ => ("", "", "", false)
def tyJ9 : Nat → FieldType := fun k => match k with
  | _ => .int
theorem nmJ9 : ∀ a, a < 0 → ∀ b, b < 0 → a ≠ b → (TJ9 a).2.1 ≠ (TJ9 b).2.1 := by decide +kernel
theorem tyJ9_ok : ∀ k, k < 0 → parseFieldDescriptor (TJ9 k).2.2.1 = some (tyJ9 k) := by decide +kernel
abbrev cJ9_abs_0f7a4 : ByteArray := prog_13_method_59_code
def yJ9_abs_0f7a4 : MethodName := ⟨RJ9, "abs", "(I)I"⟩
abbrev cJ9_max_7cf53 : ByteArray := prog_13_method_65_code
def yJ9_max_7cf53 : MethodName := ⟨RJ9, "max", "(II)I"⟩
abbrev cJ9_max_f86c9 : ByteArray := prog_13_method_66_code
def yJ9_max_f86c9 : MethodName := ⟨RJ9, "max", "(JJ)J"⟩
abbrev cJ9_min_7cf53 : ByteArray := prog_13_method_69_code
def yJ9_min_7cf53 : MethodName := ⟨RJ9, "min", "(II)I"⟩
abbrev cJ9_min_f86c9 : ByteArray := prog_13_method_70_code
def yJ9_min_f86c9 : MethodName := ⟨RJ9, "min", "(JJ)J"⟩
def RJ0 : String := "java/lang/String"
def TJ0 : u_T := fun k => match k with
  | _ => ("", "", "", false)
def tyJ0 : Nat → FieldType := fun k => match k with
  | _ => .int
theorem nmJ0 : ∀ a, a < 0 → ∀ b, b < 0 → a ≠ b → (TJ0 a).2.1 ≠ (TJ0 b).2.1 := by decide +kernel
theorem tyJ0_ok : ∀ k, k < 0 → parseFieldDescriptor (TJ0 k).2.2.1 = some (tyJ0 k) := by decide +kernel
abbrev cJ0_length_8abf5 : ByteArray := prog_14_method_54_code
def yJ0_length_8abf5 : MethodName := ⟨RJ0, "length", "()I"⟩
abbrev cJ0_charAt_5068e : ByteArray := prog_14_method_56_code
def yJ0_charAt_5068e : MethodName := ⟨RJ0, "charAt", "(I)C"⟩
abbrev cJ0_coder_7d493 : ByteArray := prog_14_method_152_code
def yJ0_coder_7d493 : MethodName := ⟨RJ0, "coder", "()B"⟩
abbrev cJ0_isLatin1_aae02 : ByteArray := prog_14_method_154_code
def yJ0_isLatin1_aae02 : MethodName := ⟨RJ0, "isLatin1", "()Z"⟩
abbrev cJ0_checkIndex_df160 : ByteArray := prog_14_method_155_code
def yJ0_checkIndex_df160 : MethodName := ⟨RJ0, "checkIndex", "(II)V"⟩
def RJ1 : String := "java/lang/StringLatin1"
def TJ1 : u_T := fun k => match k with
  | _ => ("", "", "", false)
def tyJ1 : Nat → FieldType := fun k => match k with
  | _ => .int
theorem nmJ1 : ∀ a, a < 0 → ∀ b, b < 0 → a ≠ b → (TJ1 a).2.1 ≠ (TJ1 b).2.1 := by decide +kernel
theorem tyJ1_ok : ∀ k, k < 0 → parseFieldDescriptor (TJ1 k).2.2.1 = some (tyJ1 k) := by decide +kernel
abbrev cJ1_charAt_3b067 : ByteArray := prog_15_method_2_code
def yJ1_charAt_3b067 : MethodName := ⟨RJ1, "charAt", "([BI)C"⟩
def RJ2 : String := "java/lang/StringUTF16"
def TJ2 : u_T := fun k => match k with
  | _ => ("", "", "", false)
def tyJ2 : Nat → FieldType := fun k => match k with
  | _ => .int
theorem nmJ2 : ∀ a, a < 0 → ∀ b, b < 0 → a ≠ b → (TJ2 a).2.1 ≠ (TJ2 b).2.1 := by decide +kernel
theorem tyJ2_ok : ∀ k, k < 0 → parseFieldDescriptor (TJ2 k).2.2.1 = some (tyJ2 k) := by decide +kernel
abbrev cJ2_getChar_3b067 : ByteArray := prog_16_method_5_code
def yJ2_getChar_3b067 : MethodName := ⟨RJ2, "getChar", "([BI)C"⟩
abbrev cJ2_length_9d52b : ByteArray := prog_16_method_6_code
def yJ2_length_9d52b : MethodName := ⟨RJ2, "length", "([B)I"⟩
abbrev cJ2_charAt_3b067 : ByteArray := prog_16_method_83_code
def yJ2_charAt_3b067 : MethodName := ⟨RJ2, "charAt", "([BI)C"⟩
abbrev cJ2_checkIndex_2214a : ByteArray := prog_16_method_91_code
def yJ2_checkIndex_2214a : MethodName := ⟨RJ2, "checkIndex", "(I[B)V"⟩
def RJ10 : String := "java/lang/System"
def TJ10 : u_T := fun k => match k with
  | _ => ("", "", "", false)
def tyJ10 : Nat → FieldType := fun k => match k with
  | _ => .int
theorem nmJ10 : ∀ a, a < 0 → ∀ b, b < 0 → a ≠ b → (TJ10 a).2.1 ≠ (TJ10 b).2.1 := by decide +kernel
theorem tyJ10_ok : ∀ k, k < 0 → parseFieldDescriptor (TJ10 k).2.2.1 = some (tyJ10 k) := by decide +kernel
def RJ3 : String := "jdk/internal/util/Preconditions"
def TJ3 : u_T := fun k => match k with
  | _ => ("", "", "", false)
def tyJ3 : Nat → FieldType := fun k => match k with
  | _ => .int
theorem nmJ3 : ∀ a, a < 0 → ∀ b, b < 0 → a ≠ b → (TJ3 a).2.1 ≠ (TJ3 b).2.1 := by decide +kernel
theorem tyJ3_ok : ∀ k, k < 0 → parseFieldDescriptor (TJ3 k).2.2.1 = some (tyJ3 k) := by decide +kernel
abbrev cJ3_checkIndex_8e157 : ByteArray := prog_18_method_11_code
def yJ3_checkIndex_8e157 : MethodName := ⟨RJ3, "checkIndex", "(IILjava/util/function/BiFunction;)I"⟩
def RL : String := "SafeVolumesLaw"
abbrev cL_law : ByteArray := code
def yL_law : MethodName := ⟨RL, "law", "([I)Z"⟩
abbrev vwCl : List vw_C := [(RX0, TX0, 5), (RX1, TX1, 13), (RX2, TX2, 3), (RX3, TX3, 6), (RX4, TX4, 6), (RX5, TX5, 4), (RX6, TX6, 7), (RX7, TX7, 9), (RX8, TX8, 10), (RX9, TX9, 36)]
