-- ===== PART A: goes FIRST, ahead of the names: the tables' words, and 'selects' of the private methods out of them =====
/-- a private method of a class that the tables say can be made, by its rows of tables_1 -/
def lw_okq (q : MethodName × Nat) : Prop := (q.1.cls ≠ "java/lang/invoke/MethodHandle" ∧ q.1.cls ≠ "java/lang/invoke/VarHandle") ∧ Cond.instantiable q.1.cls q.2 ∈ tables_1 ∧ Cond.privateMethod q.1 ∈ tables_1 ∧ Cond.instanceMethod q.1 ∈ tables_1
theorem lw_p0 : lw_okq (⟨"java/lang/Throwable", "fillInStackTrace", "(I)Ljava/lang/Throwable;"⟩, 6) := ⟨⟨by decide +kernel, by decide +kernel⟩, List.mem_of_getElem? (i := 397) (by decide +kernel), List.mem_of_getElem? (i := 395) (by decide +kernel), List.mem_of_getElem? (i := 396) (by decide +kernel)⟩
theorem lw_p1 : lw_okq (⟨"MarkupReader$Reading", "beginWith", "(LMarkupReader$Row;)V"⟩, 9) := ⟨⟨by decide +kernel, by decide +kernel⟩, List.mem_of_getElem? (i := 255) (by decide +kernel), List.mem_of_getElem? (i := 458) (by decide +kernel), List.mem_of_getElem? (i := 459) (by decide +kernel)⟩
theorem lw_p2 : lw_okq (⟨"MarkupReader$Reading", "passBlanksAndComments", "()V"⟩, 9) := ⟨⟨by decide +kernel, by decide +kernel⟩, List.mem_of_getElem? (i := 255) (by decide +kernel), List.mem_of_getElem? (i := 471) (by decide +kernel), List.mem_of_getElem? (i := 472) (by decide +kernel)⟩
theorem lw_p3 : lw_okq (⟨"MarkupReader$Reading", "passBlanks", "()Z"⟩, 9) := ⟨⟨by decide +kernel, by decide +kernel⟩, List.mem_of_getElem? (i := 255) (by decide +kernel), List.mem_of_getElem? (i := 475) (by decide +kernel), List.mem_of_getElem? (i := 476) (by decide +kernel)⟩
theorem lw_p4 : lw_okq (⟨"MarkupReader$Reading", "next", "(I)C"⟩, 9) := ⟨⟨by decide +kernel, by decide +kernel⟩, List.mem_of_getElem? (i := 255) (by decide +kernel), List.mem_of_getElem? (i := 479) (by decide +kernel), List.mem_of_getElem? (i := 480) (by decide +kernel)⟩
theorem lw_p5 : lw_okq (⟨"MarkupReader$Reading", "passComment", "()V"⟩, 9) := ⟨⟨by decide +kernel, by decide +kernel⟩, List.mem_of_getElem? (i := 255) (by decide +kernel), List.mem_of_getElem? (i := 486) (by decide +kernel), List.mem_of_getElem? (i := 487) (by decide +kernel)⟩
theorem lw_p6 : lw_okq (⟨"MarkupReader$Reading", "passAll", "(Ljava/lang/String;)V"⟩, 9) := ⟨⟨by decide +kernel, by decide +kernel⟩, List.mem_of_getElem? (i := 255) (by decide +kernel), List.mem_of_getElem? (i := 491) (by decide +kernel), List.mem_of_getElem? (i := 492) (by decide +kernel)⟩
theorem lw_p7 : lw_okq (⟨"MarkupReader$Reading", "pass", "(C)V"⟩, 9) := ⟨⟨by decide +kernel, by decide +kernel⟩, List.mem_of_getElem? (i := 255) (by decide +kernel), List.mem_of_getElem? (i := 543) (by decide +kernel), List.mem_of_getElem? (i := 544) (by decide +kernel)⟩
theorem lw_p8 : lw_okq (⟨"MarkupReader$Reading", "fail", "(II)V"⟩, 9) := ⟨⟨by decide +kernel, by decide +kernel⟩, List.mem_of_getElem? (i := 255) (by decide +kernel), List.mem_of_getElem? (i := 547) (by decide +kernel), List.mem_of_getElem? (i := 548) (by decide +kernel)⟩
theorem lw_p9 : lw_okq (⟨"MarkupReader$Reading", "readTag", "()LMarkupReader$Element;"⟩, 9) := ⟨⟨by decide +kernel, by decide +kernel⟩, List.mem_of_getElem? (i := 255) (by decide +kernel), List.mem_of_getElem? (i := 555) (by decide +kernel), List.mem_of_getElem? (i := 556) (by decide +kernel)⟩
theorem lw_p10 : lw_okq (⟨"MarkupReader$Reading", "readName", "(LMarkupReader$Name;)V"⟩, 9) := ⟨⟨by decide +kernel, by decide +kernel⟩, List.mem_of_getElem? (i := 255) (by decide +kernel), List.mem_of_getElem? (i := 570) (by decide +kernel), List.mem_of_getElem? (i := 571) (by decide +kernel)⟩
theorem lw_p11 : lw_okq (⟨"MarkupReader$Reading", "passPart", "()V"⟩, 9) := ⟨⟨by decide +kernel, by decide +kernel⟩, List.mem_of_getElem? (i := 255) (by decide +kernel), List.mem_of_getElem? (i := 574) (by decide +kernel), List.mem_of_getElem? (i := 575) (by decide +kernel)⟩
theorem lw_p12 : lw_okq (⟨"MarkupReader$Reading", "readAttribute", "(LMarkupReader$Element;)V"⟩, 9) := ⟨⟨by decide +kernel, by decide +kernel⟩, List.mem_of_getElem? (i := 255) (by decide +kernel), List.mem_of_getElem? (i := 582) (by decide +kernel), List.mem_of_getElem? (i := 583) (by decide +kernel)⟩
theorem lw_p13 : lw_okq (⟨"MarkupReader$Reading", "readValue", "(LMarkupReader$Attribute;)V"⟩, 9) := ⟨⟨by decide +kernel, by decide +kernel⟩, List.mem_of_getElem? (i := 255) (by decide +kernel), List.mem_of_getElem? (i := 606) (by decide +kernel), List.mem_of_getElem? (i := 607) (by decide +kernel)⟩
theorem lw_p14 : lw_okq (⟨"MarkupReader$Reading", "readReference", "()C"⟩, 9) := ⟨⟨by decide +kernel, by decide +kernel⟩, List.mem_of_getElem? (i := 255) (by decide +kernel), List.mem_of_getElem? (i := 610) (by decide +kernel), List.mem_of_getElem? (i := 611) (by decide +kernel)⟩
theorem lw_p15 : lw_okq (⟨"MarkupReader$Reading", "passIfThere", "(Ljava/lang/String;)Z"⟩, 9) := ⟨⟨by decide +kernel, by decide +kernel⟩, List.mem_of_getElem? (i := 255) (by decide +kernel), List.mem_of_getElem? (i := 615) (by decide +kernel), List.mem_of_getElem? (i := 616) (by decide +kernel)⟩
def lw_privs_1 : List (MethodName × Nat) := [(⟨"java/lang/Throwable", "fillInStackTrace", "(I)Ljava/lang/Throwable;"⟩, 6), (⟨"MarkupReader$Reading", "beginWith", "(LMarkupReader$Row;)V"⟩, 9), (⟨"MarkupReader$Reading", "passBlanksAndComments", "()V"⟩, 9), (⟨"MarkupReader$Reading", "passBlanks", "()Z"⟩, 9), (⟨"MarkupReader$Reading", "next", "(I)C"⟩, 9), (⟨"MarkupReader$Reading", "passComment", "()V"⟩, 9), (⟨"MarkupReader$Reading", "passAll", "(Ljava/lang/String;)V"⟩, 9), (⟨"MarkupReader$Reading", "pass", "(C)V"⟩, 9), (⟨"MarkupReader$Reading", "fail", "(II)V"⟩, 9), (⟨"MarkupReader$Reading", "readTag", "()LMarkupReader$Element;"⟩, 9), (⟨"MarkupReader$Reading", "readName", "(LMarkupReader$Name;)V"⟩, 9), (⟨"MarkupReader$Reading", "passPart", "()V"⟩, 9), (⟨"MarkupReader$Reading", "readAttribute", "(LMarkupReader$Element;)V"⟩, 9), (⟨"MarkupReader$Reading", "readValue", "(LMarkupReader$Attribute;)V"⟩, 9), (⟨"MarkupReader$Reading", "readReference", "()C"⟩, 9), (⟨"MarkupReader$Reading", "passIfThere", "(Ljava/lang/String;)Z"⟩, 9)]
theorem lw_r1 : ∀ q ∈ lw_privs_1, lw_okq q := List.forall_mem_cons.mpr ⟨lw_p0, List.forall_mem_cons.mpr ⟨lw_p1, List.forall_mem_cons.mpr ⟨lw_p2, List.forall_mem_cons.mpr ⟨lw_p3, List.forall_mem_cons.mpr ⟨lw_p4, List.forall_mem_cons.mpr ⟨lw_p5, List.forall_mem_cons.mpr ⟨lw_p6, List.forall_mem_cons.mpr ⟨lw_p7, List.forall_mem_cons.mpr ⟨lw_p8, List.forall_mem_cons.mpr ⟨lw_p9, List.forall_mem_cons.mpr ⟨lw_p10, List.forall_mem_cons.mpr ⟨lw_p11, List.forall_mem_cons.mpr ⟨lw_p12, List.forall_mem_cons.mpr ⟨lw_p13, List.forall_mem_cons.mpr ⟨lw_p14, List.forall_mem_cons.mpr ⟨lw_p15, fun _ h => absurd h List.not_mem_nil⟩⟩⟩⟩⟩⟩⟩⟩⟩⟩⟩⟩⟩⟩⟩⟩
theorem lw_p16 : lw_okq (⟨"MarkupReader$Reading", "readNumber", "(I)C"⟩, 9) := ⟨⟨by decide +kernel, by decide +kernel⟩, List.mem_of_getElem? (i := 255) (by decide +kernel), List.mem_of_getElem? (i := 624) (by decide +kernel), List.mem_of_getElem? (i := 625) (by decide +kernel)⟩
theorem lw_p17 : lw_okq (⟨"MarkupReader$Reading", "enter", "(LMarkupReader$Element;)V"⟩, 9) := ⟨⟨by decide +kernel, by decide +kernel⟩, List.mem_of_getElem? (i := 255) (by decide +kernel), List.mem_of_getElem? (i := 638) (by decide +kernel), List.mem_of_getElem? (i := 639) (by decide +kernel)⟩
theorem lw_p18 : lw_okq (⟨"MarkupReader$Reading", "failUnlessNowhere", "(II)V"⟩, 9) := ⟨⟨by decide +kernel, by decide +kernel⟩, List.mem_of_getElem? (i := 255) (by decide +kernel), List.mem_of_getElem? (i := 654) (by decide +kernel), List.mem_of_getElem? (i := 655) (by decide +kernel)⟩
theorem lw_p19 : lw_okq (⟨"MarkupReader$SpaceFinder", "declaresFixed", "(LMarkupReader$Name;)Z"⟩, 1) := ⟨⟨by decide +kernel, by decide +kernel⟩, List.mem_of_getElem? (i := 263) (by decide +kernel), List.mem_of_getElem? (i := 667) (by decide +kernel), List.mem_of_getElem? (i := 668) (by decide +kernel)⟩
theorem lw_p20 : lw_okq (⟨"MarkupReader$SpaceFinder", "meanTheSame", "(LMarkupReader$Name;LMarkupReader$Name;)Z"⟩, 1) := ⟨⟨by decide +kernel, by decide +kernel⟩, List.mem_of_getElem? (i := 263) (by decide +kernel), List.mem_of_getElem? (i := 701) (by decide +kernel), List.mem_of_getElem? (i := 702) (by decide +kernel)⟩
theorem lw_p21 : lw_okq (⟨"MarkupReader$FormWriter", "saysSomethingElse", "(LMarkupReader$Element;LMarkupReader$Attribute;)Z"⟩, 4) := ⟨⟨by decide +kernel, by decide +kernel⟩, List.mem_of_getElem? (i := 231) (by decide +kernel), List.mem_of_getElem? (i := 717) (by decide +kernel), List.mem_of_getElem? (i := 718) (by decide +kernel)⟩
theorem lw_p22 : lw_okq (⟨"MarkupReader$FormWriter", "insertSorted", "(LMarkupReader$Attribute;)V"⟩, 4) := ⟨⟨by decide +kernel, by decide +kernel⟩, List.mem_of_getElem? (i := 231) (by decide +kernel), List.mem_of_getElem? (i := 724) (by decide +kernel), List.mem_of_getElem? (i := 725) (by decide +kernel)⟩
theorem lw_p23 : lw_okq (⟨"MarkupReader$FormWriter", "comesBefore", "(LMarkupReader$Attribute;LMarkupReader$Attribute;)Z"⟩, 4) := ⟨⟨by decide +kernel, by decide +kernel⟩, List.mem_of_getElem? (i := 231) (by decide +kernel), List.mem_of_getElem? (i := 728) (by decide +kernel), List.mem_of_getElem? (i := 729) (by decide +kernel)⟩
theorem lw_p24 : lw_okq (⟨"MarkupReader$FormWriter", "putName", "(LMarkupReader$Name;)V"⟩, 4) := ⟨⟨by decide +kernel, by decide +kernel⟩, List.mem_of_getElem? (i := 231) (by decide +kernel), List.mem_of_getElem? (i := 734) (by decide +kernel), List.mem_of_getElem? (i := 735) (by decide +kernel)⟩
theorem lw_p25 : lw_okq (⟨"MarkupReader$FormWriter", "putAttribute", "(LMarkupReader$Attribute;)V"⟩, 4) := ⟨⟨by decide +kernel, by decide +kernel⟩, List.mem_of_getElem? (i := 231) (by decide +kernel), List.mem_of_getElem? (i := 739) (by decide +kernel), List.mem_of_getElem? (i := 740) (by decide +kernel)⟩
theorem lw_p26 : lw_okq (⟨"MarkupReader$FormWriter", "putInValue", "(C)V"⟩, 4) := ⟨⟨by decide +kernel, by decide +kernel⟩, List.mem_of_getElem? (i := 231) (by decide +kernel), List.mem_of_getElem? (i := 748) (by decide +kernel), List.mem_of_getElem? (i := 749) (by decide +kernel)⟩
theorem lw_p27 : lw_okq (⟨"MarkupReader$Reading", "addContent", "(LMarkupReader$Element;C)V"⟩, 9) := ⟨⟨by decide +kernel, by decide +kernel⟩, List.mem_of_getElem? (i := 255) (by decide +kernel), List.mem_of_getElem? (i := 761) (by decide +kernel), List.mem_of_getElem? (i := 762) (by decide +kernel)⟩
theorem lw_p28 : lw_okq (⟨"MarkupReader$Reading", "readPlain", "(LMarkupReader$Element;)V"⟩, 9) := ⟨⟨by decide +kernel, by decide +kernel⟩, List.mem_of_getElem? (i := 255) (by decide +kernel), List.mem_of_getElem? (i := 775) (by decide +kernel), List.mem_of_getElem? (i := 776) (by decide +kernel)⟩
theorem lw_p29 : lw_okq (⟨"MarkupReader$Reading", "readEndTag", "(LMarkupReader$Element;)V"⟩, 9) := ⟨⟨by decide +kernel, by decide +kernel⟩, List.mem_of_getElem? (i := 255) (by decide +kernel), List.mem_of_getElem? (i := 779) (by decide +kernel), List.mem_of_getElem? (i := 780) (by decide +kernel)⟩
theorem lw_p30 : lw_okq (⟨"MarkupReader$Reading", "readSection", "(LMarkupReader$Element;)V"⟩, 9) := ⟨⟨by decide +kernel, by decide +kernel⟩, List.mem_of_getElem? (i := 255) (by decide +kernel), List.mem_of_getElem? (i := 785) (by decide +kernel), List.mem_of_getElem? (i := 786) (by decide +kernel)⟩
theorem lw_p31 : lw_okq (⟨"MarkupReaderModel", "isCharacter", "(I)Z"⟩, 34) := ⟨⟨by decide +kernel, by decide +kernel⟩, List.mem_of_getElem? (i := 876) (by decide +kernel), List.mem_of_getElem? (i := 993) (by decide +kernel), List.mem_of_getElem? (i := 994) (by decide +kernel)⟩
def lw_privs_2 : List (MethodName × Nat) := [(⟨"MarkupReader$Reading", "readNumber", "(I)C"⟩, 9), (⟨"MarkupReader$Reading", "enter", "(LMarkupReader$Element;)V"⟩, 9), (⟨"MarkupReader$Reading", "failUnlessNowhere", "(II)V"⟩, 9), (⟨"MarkupReader$SpaceFinder", "declaresFixed", "(LMarkupReader$Name;)Z"⟩, 1), (⟨"MarkupReader$SpaceFinder", "meanTheSame", "(LMarkupReader$Name;LMarkupReader$Name;)Z"⟩, 1), (⟨"MarkupReader$FormWriter", "saysSomethingElse", "(LMarkupReader$Element;LMarkupReader$Attribute;)Z"⟩, 4), (⟨"MarkupReader$FormWriter", "insertSorted", "(LMarkupReader$Attribute;)V"⟩, 4), (⟨"MarkupReader$FormWriter", "comesBefore", "(LMarkupReader$Attribute;LMarkupReader$Attribute;)Z"⟩, 4), (⟨"MarkupReader$FormWriter", "putName", "(LMarkupReader$Name;)V"⟩, 4), (⟨"MarkupReader$FormWriter", "putAttribute", "(LMarkupReader$Attribute;)V"⟩, 4), (⟨"MarkupReader$FormWriter", "putInValue", "(C)V"⟩, 4), (⟨"MarkupReader$Reading", "addContent", "(LMarkupReader$Element;C)V"⟩, 9), (⟨"MarkupReader$Reading", "readPlain", "(LMarkupReader$Element;)V"⟩, 9), (⟨"MarkupReader$Reading", "readEndTag", "(LMarkupReader$Element;)V"⟩, 9), (⟨"MarkupReader$Reading", "readSection", "(LMarkupReader$Element;)V"⟩, 9), (⟨"MarkupReaderModel", "isCharacter", "(I)Z"⟩, 34)]
theorem lw_r2 : ∀ q ∈ lw_privs_2, lw_okq q := List.forall_mem_cons.mpr ⟨lw_p16, List.forall_mem_cons.mpr ⟨lw_p17, List.forall_mem_cons.mpr ⟨lw_p18, List.forall_mem_cons.mpr ⟨lw_p19, List.forall_mem_cons.mpr ⟨lw_p20, List.forall_mem_cons.mpr ⟨lw_p21, List.forall_mem_cons.mpr ⟨lw_p22, List.forall_mem_cons.mpr ⟨lw_p23, List.forall_mem_cons.mpr ⟨lw_p24, List.forall_mem_cons.mpr ⟨lw_p25, List.forall_mem_cons.mpr ⟨lw_p26, List.forall_mem_cons.mpr ⟨lw_p27, List.forall_mem_cons.mpr ⟨lw_p28, List.forall_mem_cons.mpr ⟨lw_p29, List.forall_mem_cons.mpr ⟨lw_p30, List.forall_mem_cons.mpr ⟨lw_p31, fun _ h => absurd h List.not_mem_nil⟩⟩⟩⟩⟩⟩⟩⟩⟩⟩⟩⟩⟩⟩⟩⟩
theorem lw_p32 : lw_okq (⟨"MarkupReaderModel", "around", "(Z)Z"⟩, 34) := ⟨⟨by decide +kernel, by decide +kernel⟩, List.mem_of_getElem? (i := 876) (by decide +kernel), List.mem_of_getElem? (i := 1005) (by decide +kernel), List.mem_of_getElem? (i := 1006) (by decide +kernel)⟩
theorem lw_p33 : lw_okq (⟨"MarkupReaderModel", "skip", "()I"⟩, 34) := ⟨⟨by decide +kernel, by decide +kernel⟩, List.mem_of_getElem? (i := 876) (by decide +kernel), List.mem_of_getElem? (i := 1009) (by decide +kernel), List.mem_of_getElem? (i := 1010) (by decide +kernel)⟩
theorem lw_p34 : lw_okq (⟨"MarkupReaderModel", "here", "(I)I"⟩, 34) := ⟨⟨by decide +kernel, by decide +kernel⟩, List.mem_of_getElem? (i := 876) (by decide +kernel), List.mem_of_getElem? (i := 1013) (by decide +kernel), List.mem_of_getElem? (i := 1014) (by decide +kernel)⟩
theorem lw_p35 : lw_okq (⟨"MarkupReaderModel", "blank", "(I)Z"⟩, 34) := ⟨⟨by decide +kernel, by decide +kernel⟩, List.mem_of_getElem? (i := 876) (by decide +kernel), List.mem_of_getElem? (i := 1017) (by decide +kernel), List.mem_of_getElem? (i := 1018) (by decide +kernel)⟩
theorem lw_p36 : lw_okq (⟨"MarkupReaderModel", "fail", "(II)Z"⟩, 34) := ⟨⟨by decide +kernel, by decide +kernel⟩, List.mem_of_getElem? (i := 876) (by decide +kernel), List.mem_of_getElem? (i := 1021) (by decide +kernel), List.mem_of_getElem? (i := 1022) (by decide +kernel)⟩
theorem lw_p37 : lw_okq (⟨"MarkupReaderModel", "over", "(I)Z"⟩, 34) := ⟨⟨by decide +kernel, by decide +kernel⟩, List.mem_of_getElem? (i := 876) (by decide +kernel), List.mem_of_getElem? (i := 1025) (by decide +kernel), List.mem_of_getElem? (i := 1026) (by decide +kernel)⟩
theorem lw_p38 : lw_okq (⟨"MarkupReaderModel", "comment", "()Z"⟩, 34) := ⟨⟨by decide +kernel, by decide +kernel⟩, List.mem_of_getElem? (i := 876) (by decide +kernel), List.mem_of_getElem? (i := 1029) (by decide +kernel), List.mem_of_getElem? (i := 1030) (by decide +kernel)⟩
theorem lw_p39 : lw_okq (⟨"MarkupReaderModel", "readTag", "()Z"⟩, 34) := ⟨⟨by decide +kernel, by decide +kernel⟩, List.mem_of_getElem? (i := 876) (by decide +kernel), List.mem_of_getElem? (i := 1033) (by decide +kernel), List.mem_of_getElem? (i := 1034) (by decide +kernel)⟩
theorem lw_p40 : lw_okq (⟨"MarkupReaderModel", "starts", "(I)Z"⟩, 34) := ⟨⟨by decide +kernel, by decide +kernel⟩, List.mem_of_getElem? (i := 876) (by decide +kernel), List.mem_of_getElem? (i := 1037) (by decide +kernel), List.mem_of_getElem? (i := 1038) (by decide +kernel)⟩
theorem lw_p41 : lw_okq (⟨"MarkupReaderModel", "readName", "()Z"⟩, 34) := ⟨⟨by decide +kernel, by decide +kernel⟩, List.mem_of_getElem? (i := 876) (by decide +kernel), List.mem_of_getElem? (i := 1041) (by decide +kernel), List.mem_of_getElem? (i := 1042) (by decide +kernel)⟩
theorem lw_p42 : lw_okq (⟨"MarkupReaderModel", "goesOn", "(I)Z"⟩, 34) := ⟨⟨by decide +kernel, by decide +kernel⟩, List.mem_of_getElem? (i := 876) (by decide +kernel), List.mem_of_getElem? (i := 1045) (by decide +kernel), List.mem_of_getElem? (i := 1046) (by decide +kernel)⟩
theorem lw_p43 : lw_okq (⟨"MarkupReaderModel", "readRest", "(II)I"⟩, 34) := ⟨⟨by decide +kernel, by decide +kernel⟩, List.mem_of_getElem? (i := 876) (by decide +kernel), List.mem_of_getElem? (i := 1049) (by decide +kernel), List.mem_of_getElem? (i := 1050) (by decide +kernel)⟩
theorem lw_p44 : lw_okq (⟨"MarkupReaderModel", "readAttribute", "(I)Z"⟩, 34) := ⟨⟨by decide +kernel, by decide +kernel⟩, List.mem_of_getElem? (i := 876) (by decide +kernel), List.mem_of_getElem? (i := 1053) (by decide +kernel), List.mem_of_getElem? (i := 1054) (by decide +kernel)⟩
theorem lw_p45 : lw_okq (⟨"MarkupReaderModel", "readValue", "(I)Z"⟩, 34) := ⟨⟨by decide +kernel, by decide +kernel⟩, List.mem_of_getElem? (i := 876) (by decide +kernel), List.mem_of_getElem? (i := 1057) (by decide +kernel), List.mem_of_getElem? (i := 1058) (by decide +kernel)⟩
theorem lw_p46 : lw_okq (⟨"MarkupReaderModel", "reference", "()I"⟩, 34) := ⟨⟨by decide +kernel, by decide +kernel⟩, List.mem_of_getElem? (i := 876) (by decide +kernel), List.mem_of_getElem? (i := 1061) (by decide +kernel), List.mem_of_getElem? (i := 1062) (by decide +kernel)⟩
theorem lw_p47 : lw_okq (⟨"MarkupReaderModel", "numbered", "(II)I"⟩, 34) := ⟨⟨by decide +kernel, by decide +kernel⟩, List.mem_of_getElem? (i := 876) (by decide +kernel), List.mem_of_getElem? (i := 1065) (by decide +kernel), List.mem_of_getElem? (i := 1066) (by decide +kernel)⟩
def lw_privs_3 : List (MethodName × Nat) := [(⟨"MarkupReaderModel", "around", "(Z)Z"⟩, 34), (⟨"MarkupReaderModel", "skip", "()I"⟩, 34), (⟨"MarkupReaderModel", "here", "(I)I"⟩, 34), (⟨"MarkupReaderModel", "blank", "(I)Z"⟩, 34), (⟨"MarkupReaderModel", "fail", "(II)Z"⟩, 34), (⟨"MarkupReaderModel", "over", "(I)Z"⟩, 34), (⟨"MarkupReaderModel", "comment", "()Z"⟩, 34), (⟨"MarkupReaderModel", "readTag", "()Z"⟩, 34), (⟨"MarkupReaderModel", "starts", "(I)Z"⟩, 34), (⟨"MarkupReaderModel", "readName", "()Z"⟩, 34), (⟨"MarkupReaderModel", "goesOn", "(I)Z"⟩, 34), (⟨"MarkupReaderModel", "readRest", "(II)I"⟩, 34), (⟨"MarkupReaderModel", "readAttribute", "(I)Z"⟩, 34), (⟨"MarkupReaderModel", "readValue", "(I)Z"⟩, 34), (⟨"MarkupReaderModel", "reference", "()I"⟩, 34), (⟨"MarkupReaderModel", "numbered", "(II)I"⟩, 34)]
theorem lw_r3 : ∀ q ∈ lw_privs_3, lw_okq q := List.forall_mem_cons.mpr ⟨lw_p32, List.forall_mem_cons.mpr ⟨lw_p33, List.forall_mem_cons.mpr ⟨lw_p34, List.forall_mem_cons.mpr ⟨lw_p35, List.forall_mem_cons.mpr ⟨lw_p36, List.forall_mem_cons.mpr ⟨lw_p37, List.forall_mem_cons.mpr ⟨lw_p38, List.forall_mem_cons.mpr ⟨lw_p39, List.forall_mem_cons.mpr ⟨lw_p40, List.forall_mem_cons.mpr ⟨lw_p41, List.forall_mem_cons.mpr ⟨lw_p42, List.forall_mem_cons.mpr ⟨lw_p43, List.forall_mem_cons.mpr ⟨lw_p44, List.forall_mem_cons.mpr ⟨lw_p45, List.forall_mem_cons.mpr ⟨lw_p46, List.forall_mem_cons.mpr ⟨lw_p47, fun _ h => absurd h List.not_mem_nil⟩⟩⟩⟩⟩⟩⟩⟩⟩⟩⟩⟩⟩⟩⟩⟩
theorem lw_p48 : lw_okq (⟨"MarkupReaderModel", "digit", "(II)I"⟩, 34) := ⟨⟨by decide +kernel, by decide +kernel⟩, List.mem_of_getElem? (i := 876) (by decide +kernel), List.mem_of_getElem? (i := 1069) (by decide +kernel), List.mem_of_getElem? (i := 1070) (by decide +kernel)⟩
theorem lw_p49 : lw_okq (⟨"MarkupReaderModel", "stands", "(IIIII)Z"⟩, 34) := ⟨⟨by decide +kernel, by decide +kernel⟩, List.mem_of_getElem? (i := 876) (by decide +kernel), List.mem_of_getElem? (i := 1073) (by decide +kernel), List.mem_of_getElem? (i := 1074) (by decide +kernel)⟩
theorem lw_p50 : lw_okq (⟨"MarkupReaderModel", "checks", "(I)Z"⟩, 34) := ⟨⟨by decide +kernel, by decide +kernel⟩, List.mem_of_getElem? (i := 876) (by decide +kernel), List.mem_of_getElem? (i := 1077) (by decide +kernel), List.mem_of_getElem? (i := 1078) (by decide +kernel)⟩
theorem lw_p51 : lw_okq (⟨"MarkupReaderModel", "compare", "(IIII)I"⟩, 34) := ⟨⟨by decide +kernel, by decide +kernel⟩, List.mem_of_getElem? (i := 876) (by decide +kernel), List.mem_of_getElem? (i := 1081) (by decide +kernel), List.mem_of_getElem? (i := 1082) (by decide +kernel)⟩
theorem lw_p52 : lw_okq (⟨"MarkupReaderModel", "localSize", "(I)I"⟩, 34) := ⟨⟨by decide +kernel, by decide +kernel⟩, List.mem_of_getElem? (i := 876) (by decide +kernel), List.mem_of_getElem? (i := 1085) (by decide +kernel), List.mem_of_getElem? (i := 1086) (by decide +kernel)⟩
theorem lw_p53 : lw_okq (⟨"MarkupReaderModel", "local", "(I)I"⟩, 34) := ⟨⟨by decide +kernel, by decide +kernel⟩, List.mem_of_getElem? (i := 876) (by decide +kernel), List.mem_of_getElem? (i := 1089) (by decide +kernel), List.mem_of_getElem? (i := 1090) (by decide +kernel)⟩
theorem lw_p54 : lw_okq (⟨"MarkupReaderModel", "declares", "(I)Z"⟩, 34) := ⟨⟨by decide +kernel, by decide +kernel⟩, List.mem_of_getElem? (i := 876) (by decide +kernel), List.mem_of_getElem? (i := 1093) (by decide +kernel), List.mem_of_getElem? (i := 1094) (by decide +kernel)⟩
theorem lw_p55 : lw_okq (⟨"MarkupReaderModel", "isXmlns", "(II)Z"⟩, 34) := ⟨⟨by decide +kernel, by decide +kernel⟩, List.mem_of_getElem? (i := 876) (by decide +kernel), List.mem_of_getElem? (i := 1097) (by decide +kernel), List.mem_of_getElem? (i := 1098) (by decide +kernel)⟩
theorem lw_p56 : lw_okq (⟨"MarkupReaderModel", "declared", "(III)I"⟩, 34) := ⟨⟨by decide +kernel, by decide +kernel⟩, List.mem_of_getElem? (i := 876) (by decide +kernel), List.mem_of_getElem? (i := 1101) (by decide +kernel), List.mem_of_getElem? (i := 1102) (by decide +kernel)⟩
theorem lw_p57 : lw_okq (⟨"MarkupReaderModel", "spaceOf", "(I)I"⟩, 34) := ⟨⟨by decide +kernel, by decide +kernel⟩, List.mem_of_getElem? (i := 876) (by decide +kernel), List.mem_of_getElem? (i := 1105) (by decide +kernel), List.mem_of_getElem? (i := 1106) (by decide +kernel)⟩
theorem lw_p58 : lw_okq (⟨"MarkupReaderModel", "checkTwins", "(II)Z"⟩, 34) := ⟨⟨by decide +kernel, by decide +kernel⟩, List.mem_of_getElem? (i := 876) (by decide +kernel), List.mem_of_getElem? (i := 1109) (by decide +kernel), List.mem_of_getElem? (i := 1110) (by decide +kernel)⟩
theorem lw_p59 : lw_okq (⟨"MarkupReaderModel", "compareValues", "(II)I"⟩, 34) := ⟨⟨by decide +kernel, by decide +kernel⟩, List.mem_of_getElem? (i := 876) (by decide +kernel), List.mem_of_getElem? (i := 1113) (by decide +kernel), List.mem_of_getElem? (i := 1114) (by decide +kernel)⟩
theorem lw_p60 : lw_okq (⟨"MarkupReaderModel", "happen", "(I)V"⟩, 34) := ⟨⟨by decide +kernel, by decide +kernel⟩, List.mem_of_getElem? (i := 876) (by decide +kernel), List.mem_of_getElem? (i := 1117) (by decide +kernel), List.mem_of_getElem? (i := 1118) (by decide +kernel)⟩
theorem lw_p61 : lw_okq (⟨"MarkupReaderModel", "readContent", "()Z"⟩, 34) := ⟨⟨by decide +kernel, by decide +kernel⟩, List.mem_of_getElem? (i := 876) (by decide +kernel), List.mem_of_getElem? (i := 1121) (by decide +kernel), List.mem_of_getElem? (i := 1122) (by decide +kernel)⟩
theorem lw_p62 : lw_okq (⟨"MarkupReaderModel", "readMarked", "()Z"⟩, 34) := ⟨⟨by decide +kernel, by decide +kernel⟩, List.mem_of_getElem? (i := 876) (by decide +kernel), List.mem_of_getElem? (i := 1125) (by decide +kernel), List.mem_of_getElem? (i := 1126) (by decide +kernel)⟩
theorem lw_p63 : lw_okq (⟨"MarkupReaderModel", "readEnd", "()Z"⟩, 34) := ⟨⟨by decide +kernel, by decide +kernel⟩, List.mem_of_getElem? (i := 876) (by decide +kernel), List.mem_of_getElem? (i := 1129) (by decide +kernel), List.mem_of_getElem? (i := 1130) (by decide +kernel)⟩
def lw_privs_4 : List (MethodName × Nat) := [(⟨"MarkupReaderModel", "digit", "(II)I"⟩, 34), (⟨"MarkupReaderModel", "stands", "(IIIII)Z"⟩, 34), (⟨"MarkupReaderModel", "checks", "(I)Z"⟩, 34), (⟨"MarkupReaderModel", "compare", "(IIII)I"⟩, 34), (⟨"MarkupReaderModel", "localSize", "(I)I"⟩, 34), (⟨"MarkupReaderModel", "local", "(I)I"⟩, 34), (⟨"MarkupReaderModel", "declares", "(I)Z"⟩, 34), (⟨"MarkupReaderModel", "isXmlns", "(II)Z"⟩, 34), (⟨"MarkupReaderModel", "declared", "(III)I"⟩, 34), (⟨"MarkupReaderModel", "spaceOf", "(I)I"⟩, 34), (⟨"MarkupReaderModel", "checkTwins", "(II)Z"⟩, 34), (⟨"MarkupReaderModel", "compareValues", "(II)I"⟩, 34), (⟨"MarkupReaderModel", "happen", "(I)V"⟩, 34), (⟨"MarkupReaderModel", "readContent", "()Z"⟩, 34), (⟨"MarkupReaderModel", "readMarked", "()Z"⟩, 34), (⟨"MarkupReaderModel", "readEnd", "()Z"⟩, 34)]
theorem lw_r4 : ∀ q ∈ lw_privs_4, lw_okq q := List.forall_mem_cons.mpr ⟨lw_p48, List.forall_mem_cons.mpr ⟨lw_p49, List.forall_mem_cons.mpr ⟨lw_p50, List.forall_mem_cons.mpr ⟨lw_p51, List.forall_mem_cons.mpr ⟨lw_p52, List.forall_mem_cons.mpr ⟨lw_p53, List.forall_mem_cons.mpr ⟨lw_p54, List.forall_mem_cons.mpr ⟨lw_p55, List.forall_mem_cons.mpr ⟨lw_p56, List.forall_mem_cons.mpr ⟨lw_p57, List.forall_mem_cons.mpr ⟨lw_p58, List.forall_mem_cons.mpr ⟨lw_p59, List.forall_mem_cons.mpr ⟨lw_p60, List.forall_mem_cons.mpr ⟨lw_p61, List.forall_mem_cons.mpr ⟨lw_p62, List.forall_mem_cons.mpr ⟨lw_p63, fun _ h => absurd h List.not_mem_nil⟩⟩⟩⟩⟩⟩⟩⟩⟩⟩⟩⟩⟩⟩⟩⟩
theorem lw_p64 : lw_okq (⟨"MarkupReaderModel", "readSection", "()Z"⟩, 34) := ⟨⟨by decide +kernel, by decide +kernel⟩, List.mem_of_getElem? (i := 876) (by decide +kernel), List.mem_of_getElem? (i := 1133) (by decide +kernel), List.mem_of_getElem? (i := 1134) (by decide +kernel)⟩
theorem lw_p65 : lw_okq (⟨"MarkupReaderModel", "writeForm", "()V"⟩, 34) := ⟨⟨by decide +kernel, by decide +kernel⟩, List.mem_of_getElem? (i := 876) (by decide +kernel), List.mem_of_getElem? (i := 1137) (by decide +kernel), List.mem_of_getElem? (i := 1138) (by decide +kernel)⟩
theorem lw_p66 : lw_okq (⟨"MarkupReaderModel", "write", "(I)V"⟩, 34) := ⟨⟨by decide +kernel, by decide +kernel⟩, List.mem_of_getElem? (i := 876) (by decide +kernel), List.mem_of_getElem? (i := 1141) (by decide +kernel), List.mem_of_getElem? (i := 1142) (by decide +kernel)⟩
theorem lw_p67 : lw_okq (⟨"MarkupReaderModel", "writeStretch", "(II)V"⟩, 34) := ⟨⟨by decide +kernel, by decide +kernel⟩, List.mem_of_getElem? (i := 876) (by decide +kernel), List.mem_of_getElem? (i := 1145) (by decide +kernel), List.mem_of_getElem? (i := 1146) (by decide +kernel)⟩
theorem lw_p68 : lw_okq (⟨"MarkupReaderModel", "writeTag", "(I)V"⟩, 34) := ⟨⟨by decide +kernel, by decide +kernel⟩, List.mem_of_getElem? (i := 876) (by decide +kernel), List.mem_of_getElem? (i := 1149) (by decide +kernel), List.mem_of_getElem? (i := 1150) (by decide +kernel)⟩
theorem lw_p69 : lw_okq (⟨"MarkupReaderModel", "order", "(II)I"⟩, 34) := ⟨⟨by decide +kernel, by decide +kernel⟩, List.mem_of_getElem? (i := 876) (by decide +kernel), List.mem_of_getElem? (i := 1153) (by decide +kernel), List.mem_of_getElem? (i := 1154) (by decide +kernel)⟩
theorem lw_p70 : lw_okq (⟨"MarkupReaderModel", "isWritten", "(I)Z"⟩, 34) := ⟨⟨by decide +kernel, by decide +kernel⟩, List.mem_of_getElem? (i := 876) (by decide +kernel), List.mem_of_getElem? (i := 1157) (by decide +kernel), List.mem_of_getElem? (i := 1158) (by decide +kernel)⟩
theorem lw_p71 : lw_okq (⟨"MarkupReaderModel", "isNews", "(I)Z"⟩, 34) := ⟨⟨by decide +kernel, by decide +kernel⟩, List.mem_of_getElem? (i := 876) (by decide +kernel), List.mem_of_getElem? (i := 1161) (by decide +kernel), List.mem_of_getElem? (i := 1162) (by decide +kernel)⟩
theorem lw_p72 : lw_okq (⟨"MarkupReaderModel", "writeAttribute", "(I)V"⟩, 34) := ⟨⟨by decide +kernel, by decide +kernel⟩, List.mem_of_getElem? (i := 876) (by decide +kernel), List.mem_of_getElem? (i := 1165) (by decide +kernel), List.mem_of_getElem? (i := 1166) (by decide +kernel)⟩
theorem lw_p73 : lw_okq (⟨"MarkupReaderModel", "writeSafe", "(IZ)V"⟩, 34) := ⟨⟨by decide +kernel, by decide +kernel⟩, List.mem_of_getElem? (i := 876) (by decide +kernel), List.mem_of_getElem? (i := 1169) (by decide +kernel), List.mem_of_getElem? (i := 1170) (by decide +kernel)⟩
theorem lw_p74 : lw_okq (⟨"MarkupReaderModel", "writeReference", "(IIII)V"⟩, 34) := ⟨⟨by decide +kernel, by decide +kernel⟩, List.mem_of_getElem? (i := 876) (by decide +kernel), List.mem_of_getElem? (i := 1173) (by decide +kernel), List.mem_of_getElem? (i := 1174) (by decide +kernel)⟩
theorem lw_p75 : lw_okq (⟨"MarkupReaderModel", "noElement", "(I)Z"⟩, 34) := ⟨⟨by decide +kernel, by decide +kernel⟩, List.mem_of_getElem? (i := 876) (by decide +kernel), List.mem_of_getElem? (i := 1189) (by decide +kernel), List.mem_of_getElem? (i := 1190) (by decide +kernel)⟩
theorem lw_p76 : lw_okq (⟨"MarkupReaderModel", "elementSpace", "(I)I"⟩, 34) := ⟨⟨by decide +kernel, by decide +kernel⟩, List.mem_of_getElem? (i := 876) (by decide +kernel), List.mem_of_getElem? (i := 1193) (by decide +kernel), List.mem_of_getElem? (i := 1194) (by decide +kernel)⟩
theorem lw_p77 : lw_okq (⟨"MarkupReaderModel", "own", "(II)I"⟩, 34) := ⟨⟨by decide +kernel, by decide +kernel⟩, List.mem_of_getElem? (i := 876) (by decide +kernel), List.mem_of_getElem? (i := 1197) (by decide +kernel), List.mem_of_getElem? (i := 1198) (by decide +kernel)⟩
def lw_privs_5 : List (MethodName × Nat) := [(⟨"MarkupReaderModel", "readSection", "()Z"⟩, 34), (⟨"MarkupReaderModel", "writeForm", "()V"⟩, 34), (⟨"MarkupReaderModel", "write", "(I)V"⟩, 34), (⟨"MarkupReaderModel", "writeStretch", "(II)V"⟩, 34), (⟨"MarkupReaderModel", "writeTag", "(I)V"⟩, 34), (⟨"MarkupReaderModel", "order", "(II)I"⟩, 34), (⟨"MarkupReaderModel", "isWritten", "(I)Z"⟩, 34), (⟨"MarkupReaderModel", "isNews", "(I)Z"⟩, 34), (⟨"MarkupReaderModel", "writeAttribute", "(I)V"⟩, 34), (⟨"MarkupReaderModel", "writeSafe", "(IZ)V"⟩, 34), (⟨"MarkupReaderModel", "writeReference", "(IIII)V"⟩, 34), (⟨"MarkupReaderModel", "noElement", "(I)Z"⟩, 34), (⟨"MarkupReaderModel", "elementSpace", "(I)I"⟩, 34), (⟨"MarkupReaderModel", "own", "(II)I"⟩, 34)]
theorem lw_r5 : ∀ q ∈ lw_privs_5, lw_okq q := List.forall_mem_cons.mpr ⟨lw_p64, List.forall_mem_cons.mpr ⟨lw_p65, List.forall_mem_cons.mpr ⟨lw_p66, List.forall_mem_cons.mpr ⟨lw_p67, List.forall_mem_cons.mpr ⟨lw_p68, List.forall_mem_cons.mpr ⟨lw_p69, List.forall_mem_cons.mpr ⟨lw_p70, List.forall_mem_cons.mpr ⟨lw_p71, List.forall_mem_cons.mpr ⟨lw_p72, List.forall_mem_cons.mpr ⟨lw_p73, List.forall_mem_cons.mpr ⟨lw_p74, List.forall_mem_cons.mpr ⟨lw_p75, List.forall_mem_cons.mpr ⟨lw_p76, List.forall_mem_cons.mpr ⟨lw_p77, fun _ h => absurd h List.not_mem_nil⟩⟩⟩⟩⟩⟩⟩⟩⟩⟩⟩⟩⟩⟩
def lw_privs : List (MethodName × Nat) := lw_privs_1 ++ (lw_privs_2 ++ (lw_privs_3 ++ (lw_privs_4 ++ (lw_privs_5))))
def lw_tbl : List Cond := k2_sels lw_privs ++ tables_1
theorem lw_privs_ok : ∀ q ∈ lw_privs, lw_okq q := by
  show ∀ q ∈ lw_privs_1 ++ (lw_privs_2 ++ (lw_privs_3 ++ (lw_privs_4 ++ (lw_privs_5)))), lw_okq q
  exact List.forall_mem_append.mpr ⟨lw_r1, List.forall_mem_append.mpr ⟨lw_r2, List.forall_mem_append.mpr ⟨lw_r3, List.forall_mem_append.mpr ⟨lw_r4, lw_r5⟩⟩⟩⟩
/-- words that hold at every warmer state -/
def g2w : Cond → Bool
  | .declares _ => true
  | .castable _ _ => true
  | .methodLinkNest _ _ _ _ => true
  | .arrayOver (.object _) => true
  | w => goodWord w
theorem g2w_warm {w : Cond} (hg : g2w w = true) {s U : State} {a0 a : Array Value} (hW : s.WarmedH U.vm) (h : w.before a0 s = true) : w.before a U = true := by
  by_cases hgood : goodWord w = true
  · exact word_at hW (good_of_word hgood) h
  · cases w with
    | declares x => exact va_tabs (u := s.setVm U.vm) rfl rfl (by rw [Cond.declares_setVm hW.alike]; exact h)
    | castable x y => exact va_tabs (u := s.setVm U.vm) rfl rfl (by rw [Cond.castable_setVm hW.alike]; exact h)
    | methodLinkNest x y z t => exact va_tabs (u := s.setVm U.vm) rfl rfl (Cond.methodLinkNest_warmed hW h)
    | arrayOver t =>
      cases t with
      | object C => exact va_AO.use (va_AO.moved hW.alike (va_AO.of h))
      | _ => exact absurd hg hgood
    | _ => exact absurd hg hgood
/-- the tables' words hold -/
def gT (U : State) : Prop := ∀ w ∈ lw_tbl, g2w w = true → ∀ a : Array Value, w.before a U = true
theorem gT.warm {s U : State} (h : gT s) (hW : s.WarmedH U.vm) : gT U := fun w hw hg a => g2w_warm hg hW (h w hw hg #[])
theorem gT.of {s : State} {a : Array Value} (h : ∀ w ∈ lw_tbl, w.before a s = true) : gT s := fun w hw hg a' => g2w_warm hg (State.WarmedH.refl s) (h w hw)
abbrev R_MR : String := "MarkupReader"
abbrev R_Row : String := "MarkupReader$Row"
abbrev R_At : String := "MarkupReader$Attribute"
abbrev R_Nm : String := "MarkupReader$Name"
abbrev R_El : String := "MarkupReader$Element"
abbrev R_Tr : String := "MarkupReader$Tree"
abbrev R_FW : String := "MarkupReader$FormWriter"
abbrev R_SF : String := "MarkupReader$SpaceFinder"
abbrev R_Rd : String := "MarkupReader$Reading"
abbrev R_Mo : String := "MarkupReaderModel"
abbrev R_La : String := "MarkupReaderLaw"
abbrev R_St : String := "java/lang/String"
abbrev R_SL : String := "java/lang/StringLatin1"
abbrev R_Th : String := "java/lang/Throwable"
abbrev R_Ob : String := "java/lang/Object"
abbrev R_Ma : String := "java/lang/Math"
abbrev R_IA : String := "java/lang/IllegalArgumentException"
abbrev R_IS : String := "java/lang/IllegalStateException"
abbrev R_IO : String := "java/lang/IndexOutOfBoundsException"
abbrev R_RE : String := "java/lang/RuntimeException"
abbrev R_Ex : String := "java/lang/Exception"
abbrev R_Pr : String := "jdk/internal/util/Preconditions"
abbrev R_SI : String := "java/lang/StringIndexOutOfBoundsException"
abbrev R_SU : String := "java/lang/StringUTF16"
def F_MR : u_T := fun k => match k with
  | 0 => ("MarkupReader", "typed", "LMarkupReader$Row;", true)
  | 1 => ("MarkupReader", "kept", "LMarkupReader$Row;", true)
  | 2 => ("MarkupReader", "tree", "LMarkupReader$Tree;", true)
  | 3 => ("MarkupReader", "writer", "LMarkupReader$FormWriter;", true)
  | _ => ("MarkupReader", "reading", "LMarkupReader$Reading;", true)
def t_MR : Nat → FieldType := fun k => match k with
  | 0 => .object "MarkupReader$Row"
  | 1 => .object "MarkupReader$Row"
  | 2 => .object "MarkupReader$Tree"
  | 3 => .object "MarkupReader$FormWriter"
  | _ => .object "MarkupReader$Reading"
theorem n_MR : ∀ a, a < 5 → ∀ b, b < 5 → a ≠ b → (F_MR a).2.1 ≠ (F_MR b).2.1 := by decide +kernel
theorem t_MR_ok : ∀ k, k < 5 → parseFieldDescriptor (F_MR k).2.2.1 = some (t_MR k) := by decide +kernel
def F_Row : u_T := fun k => match k with
  | 0 => ("MarkupReader$Row", "chars", "[C", true)
  | _ => ("MarkupReader$Row", "size", "I", false)
def t_Row : Nat → FieldType := fun k => match k with
  | 0 => .array .char
  | _ => .int
theorem n_Row : ∀ a, a < 2 → ∀ b, b < 2 → a ≠ b → (F_Row a).2.1 ≠ (F_Row b).2.1 := by decide +kernel
theorem t_Row_ok : ∀ k, k < 2 → parseFieldDescriptor (F_Row k).2.2.1 = some (t_Row k) := by decide +kernel
def F_At : u_T := fun k => match k with
  | 0 => ("MarkupReader$Attribute", "name", "LMarkupReader$Name;", true)
  | 1 => ("MarkupReader$Attribute", "valueStart", "I", false)
  | 2 => ("MarkupReader$Attribute", "valueEnd", "I", false)
  | _ => ("MarkupReader$Attribute", "isDeclaration", "Z", false)
def t_At : Nat → FieldType := fun k => match k with
  | 0 => .object "MarkupReader$Name"
  | 1 => .int
  | 2 => .int
  | _ => .boolean
theorem n_At : ∀ a, a < 4 → ∀ b, b < 4 → a ≠ b → (F_At a).2.1 ≠ (F_At b).2.1 := by decide +kernel
theorem t_At_ok : ∀ k, k < 4 → parseFieldDescriptor (F_At k).2.2.1 = some (t_At k) := by decide +kernel
def F_Nm : u_T := fun k => match k with
  | 0 => ("MarkupReader$Name", "start", "I", false)
  | 1 => ("MarkupReader$Name", "local", "I", false)
  | 2 => ("MarkupReader$Name", "end", "I", false)
  | _ => ("MarkupReader$Name", "space", "LMarkupReader$Attribute;", false)
def t_Nm : Nat → FieldType := fun k => match k with
  | 0 => .int
  | 1 => .int
  | 2 => .int
  | _ => .object "MarkupReader$Attribute"
theorem n_Nm : ∀ a, a < 4 → ∀ b, b < 4 → a ≠ b → (F_Nm a).2.1 ≠ (F_Nm b).2.1 := by decide +kernel
theorem t_Nm_ok : ∀ k, k < 4 → parseFieldDescriptor (F_Nm k).2.2.1 = some (t_Nm k) := by decide +kernel
def F_El : u_T := fun k => match k with
  | 0 => ("MarkupReader$Element", "number", "I", true)
  | 1 => ("MarkupReader$Element", "name", "LMarkupReader$Name;", true)
  | 2 => ("MarkupReader$Element", "attributes", "[LMarkupReader$Attribute;", true)
  | 3 => ("MarkupReader$Element", "around", "LMarkupReader$Element;", false)
  | 4 => ("MarkupReader$Element", "isEmpty", "Z", false)
  | 5 => ("MarkupReader$Element", "depth", "I", false)
  | 6 => ("MarkupReader$Element", "elementsInside", "I", false)
  | 7 => ("MarkupReader$Element", "attributeCount", "I", false)
  | 8 => ("MarkupReader$Element", "declarationCount", "I", false)
  | _ => ("MarkupReader$Element", "ownCharacters", "I", false)
def t_El : Nat → FieldType := fun k => match k with
  | 0 => .int
  | 1 => .object "MarkupReader$Name"
  | 2 => .array (.object "MarkupReader$Attribute")
  | 3 => .object "MarkupReader$Element"
  | 4 => .boolean
  | 5 => .int
  | 6 => .int
  | 7 => .int
  | 8 => .int
  | _ => .int
theorem n_El : ∀ a, a < 10 → ∀ b, b < 10 → a ≠ b → (F_El a).2.1 ≠ (F_El b).2.1 := by decide +kernel
theorem t_El_ok : ∀ k, k < 10 → parseFieldDescriptor (F_El k).2.2.1 = some (t_El k) := by decide +kernel
def F_Tr : u_T := fun k => match k with
  | 0 => ("MarkupReader$Tree", "text", "LMarkupReader$Row;", true)
  | 1 => ("MarkupReader$Tree", "values", "LMarkupReader$Row;", true)
  | 2 => ("MarkupReader$Tree", "content", "LMarkupReader$Row;", true)
  | 3 => ("MarkupReader$Tree", "owners", "[I", true)
  | 4 => ("MarkupReader$Tree", "elements", "[LMarkupReader$Element;", true)
  | 5 => ("MarkupReader$Tree", "noDeclaration", "LMarkupReader$Attribute;", true)
  | _ => ("MarkupReader$Tree", "size", "I", false)
def t_Tr : Nat → FieldType := fun k => match k with
  | 0 => .object "MarkupReader$Row"
  | 1 => .object "MarkupReader$Row"
  | 2 => .object "MarkupReader$Row"
  | 3 => .array .int
  | 4 => .array (.object "MarkupReader$Element")
  | 5 => .object "MarkupReader$Attribute"
  | _ => .int
theorem n_Tr : ∀ a, a < 7 → ∀ b, b < 7 → a ≠ b → (F_Tr a).2.1 ≠ (F_Tr b).2.1 := by decide +kernel
theorem t_Tr_ok : ∀ k, k < 7 → parseFieldDescriptor (F_Tr k).2.2.1 = some (t_Tr k) := by decide +kernel
def F_FW : u_T := fun k => match k with
  | 0 => ("MarkupReader$FormWriter", "tree", "LMarkupReader$Tree;", true)
  | 1 => ("MarkupReader$FormWriter", "form", "LMarkupReader$Row;", true)
  | 2 => ("MarkupReader$FormWriter", "sorted", "[LMarkupReader$Attribute;", true)
  | _ => ("MarkupReader$FormWriter", "sortedCount", "I", false)
def t_FW : Nat → FieldType := fun k => match k with
  | 0 => .object "MarkupReader$Tree"
  | 1 => .object "MarkupReader$Row"
  | 2 => .array (.object "MarkupReader$Attribute")
  | _ => .int
theorem n_FW : ∀ a, a < 4 → ∀ b, b < 4 → a ≠ b → (F_FW a).2.1 ≠ (F_FW b).2.1 := by decide +kernel
theorem t_FW_ok : ∀ k, k < 4 → parseFieldDescriptor (F_FW k).2.2.1 = some (t_FW k) := by decide +kernel
def F_SF : u_T := fun k => match k with
  | _ => ("MarkupReader$SpaceFinder", "tree", "LMarkupReader$Tree;", true)
def t_SF : Nat → FieldType := fun k => match k with
  | _ => .object "MarkupReader$Tree"
theorem n_SF : ∀ a, a < 1 → ∀ b, b < 1 → a ≠ b → (F_SF a).2.1 ≠ (F_SF b).2.1 := by decide +kernel
theorem t_SF_ok : ∀ k, k < 1 → parseFieldDescriptor (F_SF k).2.2.1 = some (t_SF k) := by decide +kernel
def F_Rd : u_T := fun k => match k with
  | 0 => ("MarkupReader$Reading", "tree", "LMarkupReader$Tree;", true)
  | 1 => ("MarkupReader$Reading", "writer", "LMarkupReader$FormWriter;", true)
  | 2 => ("MarkupReader$Reading", "finder", "LMarkupReader$SpaceFinder;", true)
  | 3 => ("MarkupReader$Reading", "text", "LMarkupReader$Row;", true)
  | 4 => ("MarkupReader$Reading", "endName", "LMarkupReader$Name;", true)
  | 5 => ("MarkupReader$Reading", "at", "I", false)
  | 6 => ("MarkupReader$Reading", "open", "LMarkupReader$Element;", false)
  | 7 => ("MarkupReader$Reading", "wrongReason", "I", false)
  | _ => ("MarkupReader$Reading", "wrongPlace", "I", false)
def t_Rd : Nat → FieldType := fun k => match k with
  | 0 => .object "MarkupReader$Tree"
  | 1 => .object "MarkupReader$FormWriter"
  | 2 => .object "MarkupReader$SpaceFinder"
  | 3 => .object "MarkupReader$Row"
  | 4 => .object "MarkupReader$Name"
  | 5 => .int
  | 6 => .object "MarkupReader$Element"
  | 7 => .int
  | _ => .int
theorem n_Rd : ∀ a, a < 9 → ∀ b, b < 9 → a ≠ b → (F_Rd a).2.1 ≠ (F_Rd b).2.1 := by decide +kernel
theorem t_Rd_ok : ∀ k, k < 9 → parseFieldDescriptor (F_Rd k).2.2.1 = some (t_Rd k) := by decide +kernel
def F_Mo : u_T := fun k => match k with
  | 0 => ("MarkupReaderModel", "thrown", "I", false)
  | 1 => ("MarkupReaderModel", "typed", "I", false)
  | 2 => ("MarkupReaderModel", "text", "[I", false)
  | 3 => ("MarkupReaderModel", "at", "I", false)
  | 4 => ("MarkupReaderModel", "reason", "I", false)
  | 5 => ("MarkupReaderModel", "place", "I", false)
  | 6 => ("MarkupReaderModel", "tree", "Z", false)
  | 7 => ("MarkupReaderModel", "used", "I", false)
  | 8 => ("MarkupReaderModel", "pool", "[I", false)
  | 9 => ("MarkupReaderModel", "elements", "I", false)
  | 10 => ("MarkupReaderModel", "parents", "[I", false)
  | 11 => ("MarkupReaderModel", "nameFrom", "[I", false)
  | 12 => ("MarkupReaderModel", "nameSize", "[I", false)
  | 13 => ("MarkupReaderModel", "nameColon", "[I", false)
  | 14 => ("MarkupReaderModel", "namePlace", "[I", false)
  | 15 => ("MarkupReaderModel", "counts", "[I", false)
  | 16 => ("MarkupReaderModel", "from", "[I", false)
  | 17 => ("MarkupReaderModel", "size", "[I", false)
  | 18 => ("MarkupReaderModel", "colon", "[I", false)
  | 19 => ("MarkupReaderModel", "places", "[I", false)
  | 20 => ("MarkupReaderModel", "valueFrom", "[I", false)
  | 21 => ("MarkupReaderModel", "valueSize", "[I", false)
  | 22 => ("MarkupReaderModel", "events", "I", false)
  | 23 => ("MarkupReaderModel", "happened", "[I", false)
  | 24 => ("MarkupReaderModel", "open", "I", false)
  | 25 => ("MarkupReaderModel", "depth", "I", false)
  | 26 => ("MarkupReaderModel", "formed", "I", false)
  | 27 => ("MarkupReaderModel", "written", "[I", false)
  | 28 => ("MarkupReaderModel", "keeps", "Z", false)
  | 29 => ("MarkupReaderModel", "keptSize", "I", false)
  | 30 => ("MarkupReaderModel", "keptForm", "[I", false)
  | 31 => ("MarkupReaderModel", "begun", "I", false)
  | 32 => ("MarkupReaderModel", "long0", "I", false)
  | _ => ("MarkupReaderModel", "colonAt", "I", false)
def t_Mo : Nat → FieldType := fun k => match k with
  | 0 => .int
  | 1 => .int
  | 2 => .array .int
  | 3 => .int
  | 4 => .int
  | 5 => .int
  | 6 => .boolean
  | 7 => .int
  | 8 => .array .int
  | 9 => .int
  | 10 => .array .int
  | 11 => .array .int
  | 12 => .array .int
  | 13 => .array .int
  | 14 => .array .int
  | 15 => .array .int
  | 16 => .array .int
  | 17 => .array .int
  | 18 => .array .int
  | 19 => .array .int
  | 20 => .array .int
  | 21 => .array .int
  | 22 => .int
  | 23 => .array .int
  | 24 => .int
  | 25 => .int
  | 26 => .int
  | 27 => .array .int
  | 28 => .boolean
  | 29 => .int
  | 30 => .array .int
  | 31 => .int
  | 32 => .int
  | _ => .int
theorem n_Mo : ∀ a, a < 34 → ∀ b, b < 34 → a ≠ b → (F_Mo a).2.1 ≠ (F_Mo b).2.1 := by decide +kernel
theorem t_Mo_ok : ∀ k, k < 34 → parseFieldDescriptor (F_Mo k).2.2.1 = some (t_Mo k) := by decide +kernel
abbrev gC : List vw_C := [(R_MR, F_MR, 5), (R_Row, F_Row, 2), (R_At, F_At, 4), (R_Nm, F_Nm, 4), (R_El, F_El, 10), (R_Tr, F_Tr, 7), (R_FW, F_FW, 4), (R_SF, F_SF, 1), (R_Rd, F_Rd, 9), (R_Mo, F_Mo, 34)]
abbrev b_MR_init : ByteArray := prog_1_method_1_code
abbrev y_MR_init : MethodName := ⟨R_MR, "<init>", "()V"⟩
abbrev b_Ob_init : ByteArray := object_method_1_code
abbrev y_Ob_init : MethodName := ⟨R_Ob, "<init>", "()V"⟩
abbrev b_Row_init : ByteArray := prog_7_method_1_code
abbrev y_Row_init : MethodName := ⟨R_Row, "<init>", "(I)V"⟩
abbrev b_Tr_init : ByteArray := prog_9_method_1_code
abbrev y_Tr_init : MethodName := ⟨R_Tr, "<init>", "()V"⟩
abbrev b_At_init : ByteArray := prog_2_method_1_code
abbrev y_At_init : MethodName := ⟨R_At, "<init>", "()V"⟩
abbrev b_Nm_init : ByteArray := prog_5_method_1_code
abbrev y_Nm_init : MethodName := ⟨R_Nm, "<init>", "()V"⟩
abbrev b_El_init : ByteArray := prog_3_method_1_code
abbrev y_El_init : MethodName := ⟨R_El, "<init>", "(I)V"⟩
abbrev b_FW_init : ByteArray := prog_4_method_1_code
abbrev y_FW_init : MethodName := ⟨R_FW, "<init>", "(LMarkupReader$Tree;)V"⟩
abbrev b_Rd_init : ByteArray := prog_6_method_1_code
abbrev y_Rd_init : MethodName := ⟨R_Rd, "<init>", "(LMarkupReader$Tree;LMarkupReader$FormWriter;)V"⟩
abbrev b_SF_init : ByteArray := prog_8_method_1_code
abbrev y_SF_init : MethodName := ⟨R_SF, "<init>", "(LMarkupReader$Tree;)V"⟩
abbrev b_MR_wipe : ByteArray := prog_1_method_3_code
abbrev y_MR_wipe : MethodName := ⟨R_MR, "wipe", "()V"⟩
abbrev b_MR_reason : ByteArray := prog_1_method_5_code
abbrev y_MR_reason : MethodName := ⟨R_MR, "reason", "()I"⟩
abbrev b_MR_place : ByteArray := prog_1_method_6_code
abbrev y_MR_place : MethodName := ⟨R_MR, "place", "()I"⟩
abbrev b_MR_form : ByteArray := prog_1_method_11_code
abbrev y_MR_form : MethodName := ⟨R_MR, "form", "()I"⟩
abbrev b_MR_same : ByteArray := prog_1_method_15_code
abbrev y_MR_same : MethodName := ⟨R_MR, "same", "()Z"⟩
abbrev b_Row_holdsSameAs : ByteArray := prog_7_method_6_code
abbrev y_Row_holdsSameAs : MethodName := ⟨R_Row, "holdsSameAs", "(LMarkupReader$Row;)Z"⟩
abbrev b_Row_at : ByteArray := prog_7_method_2_code
abbrev y_Row_at : MethodName := ⟨R_Row, "at", "(I)C"⟩
abbrev b_La_type : ByteArray := method_3_code
abbrev y_La_type : MethodName := ⟨R_La, "type", "(LMarkupReader;C[J)I"⟩
abbrev b_MR_type : ByteArray := prog_1_method_2_code
abbrev y_MR_type : MethodName := ⟨R_MR, "type", "(C)I"⟩
abbrev b_MR_isCharacter : ByteArray := prog_1_method_16_code
abbrev y_MR_isCharacter : MethodName := ⟨R_MR, "isCharacter", "(I)Z"⟩
abbrev b_Th_init_0 : ByteArray := prog_21_method_1_code
abbrev y_Th_init_0 : MethodName := ⟨R_Th, "<init>", "()V"⟩
abbrev b_IA_init : ByteArray := prog_13_method_2_code
abbrev y_IA_init : MethodName := ⟨R_IA, "<init>", "(Ljava/lang/String;)V"⟩
abbrev b_RE_init_1 : ByteArray := prog_17_method_2_code
abbrev y_RE_init_1 : MethodName := ⟨R_RE, "<init>", "(Ljava/lang/String;)V"⟩
abbrev b_Ex_init_1 : ByteArray := prog_12_method_2_code
abbrev y_Ex_init_1 : MethodName := ⟨R_Ex, "<init>", "(Ljava/lang/String;)V"⟩
abbrev b_Th_init_1 : ByteArray := prog_21_method_2_code
abbrev y_Th_init_1 : MethodName := ⟨R_Th, "<init>", "(Ljava/lang/String;)V"⟩
abbrev b_IS_init : ByteArray := prog_14_method_2_code
abbrev y_IS_init : MethodName := ⟨R_IS, "<init>", "(Ljava/lang/String;)V"⟩
abbrev b_Row_put : ByteArray := prog_7_method_3_code
abbrev y_Row_put : MethodName := ⟨R_Row, "put", "(C)V"⟩
abbrev b_La_read : ByteArray := method_4_code
abbrev y_La_read : MethodName := ⟨R_La, "read", "(LMarkupReader;[J)I"⟩
abbrev b_MR_read : ByteArray := prog_1_method_4_code
abbrev y_MR_read : MethodName := ⟨R_MR, "read", "()I"⟩
abbrev b_Rd_readText : ByteArray := prog_6_method_2_code
abbrev y_Rd_readText : MethodName := ⟨R_Rd, "readText", "(LMarkupReader$Row;)V"⟩
abbrev b_Rd_beginWith : ByteArray := prog_6_method_3_code
abbrev y_Rd_beginWith : MethodName := ⟨R_Rd, "beginWith", "(LMarkupReader$Row;)V"⟩
abbrev b_Tr_beginWith : ByteArray := prog_9_method_2_code
abbrev y_Tr_beginWith : MethodName := ⟨R_Tr, "beginWith", "(LMarkupReader$Row;)V"⟩
abbrev b_Row_copyOf : ByteArray := prog_7_method_5_code
abbrev y_Row_copyOf : MethodName := ⟨R_Row, "copyOf", "(LMarkupReader$Row;)V"⟩
abbrev b_Rd_passBlanksAndComments : ByteArray := prog_6_method_11_code
abbrev y_Rd_passBlanksAndComments : MethodName := ⟨R_Rd, "passBlanksAndComments", "()V"⟩
abbrev b_Rd_passBlanks : ByteArray := prog_6_method_10_code
abbrev y_Rd_passBlanks : MethodName := ⟨R_Rd, "passBlanks", "()Z"⟩
abbrev b_Rd_next : ByteArray := prog_6_method_6_code
abbrev y_Rd_next : MethodName := ⟨R_Rd, "next", "(I)C"⟩
abbrev b_MR_isBlank : ByteArray := prog_1_method_17_code
abbrev y_MR_isBlank : MethodName := ⟨R_MR, "isBlank", "(C)Z"⟩
abbrev b_Rd_passComment : ByteArray := prog_6_method_12_code
abbrev y_Rd_passComment : MethodName := ⟨R_Rd, "passComment", "()V"⟩
abbrev b_Rd_passAll : ByteArray := prog_6_method_8_code
abbrev y_Rd_passAll : MethodName := ⟨R_Rd, "passAll", "(Ljava/lang/String;)V"⟩
abbrev b_St_length : ByteArray := prog_18_method_54_code
abbrev y_St_length : MethodName := ⟨R_St, "length", "()I"⟩
abbrev b_St_coder : ByteArray := prog_18_method_152_code
abbrev y_St_coder : MethodName := ⟨R_St, "coder", "()B"⟩
abbrev b_St_charAt : ByteArray := prog_18_method_56_code
abbrev y_St_charAt : MethodName := ⟨R_St, "charAt", "(I)C"⟩
abbrev b_St_isLatin1 : ByteArray := prog_18_method_154_code
abbrev y_St_isLatin1 : MethodName := ⟨R_St, "isLatin1", "()Z"⟩
abbrev b_SL_charAt : ByteArray := prog_19_method_2_code
abbrev y_SL_charAt : MethodName := ⟨R_SL, "charAt", "([BI)C"⟩
abbrev b_St_checkIndex : ByteArray := prog_18_method_155_code
abbrev y_St_checkIndex : MethodName := ⟨R_St, "checkIndex", "(II)V"⟩
abbrev b_Pr_checkIndex : ByteArray := prog_22_method_11_code
abbrev y_Pr_checkIndex : MethodName := ⟨R_Pr, "checkIndex", "(IILjava/util/function/BiFunction;)I"⟩
abbrev b_SU_charAt : ByteArray := prog_20_method_83_code
abbrev y_SU_charAt : MethodName := ⟨R_SU, "charAt", "([BI)C"⟩
abbrev b_SU_checkIndex : ByteArray := prog_20_method_91_code
abbrev y_SU_checkIndex : MethodName := ⟨R_SU, "checkIndex", "(I[B)V"⟩
abbrev b_SU_length : ByteArray := prog_20_method_6_code
abbrev y_SU_length : MethodName := ⟨R_SU, "length", "([B)I"⟩
abbrev b_SU_getChar : ByteArray := prog_20_method_5_code
abbrev y_SU_getChar : MethodName := ⟨R_SU, "getChar", "([BI)C"⟩
abbrev b_Rd_pass : ByteArray := prog_6_method_7_code
abbrev y_Rd_pass : MethodName := ⟨R_Rd, "pass", "(C)V"⟩
abbrev b_Rd_fail : ByteArray := prog_6_method_4_code
abbrev y_Rd_fail : MethodName := ⟨R_Rd, "fail", "(II)V"⟩
abbrev b_Rd_readTag : ByteArray := prog_6_method_15_code
abbrev y_Rd_readTag : MethodName := ⟨R_Rd, "readTag", "()LMarkupReader$Element;"⟩
abbrev b_MR_beginsPart : ByteArray := prog_1_method_18_code
abbrev y_MR_beginsPart : MethodName := ⟨R_MR, "beginsPart", "(C)Z"⟩
abbrev b_Tr_add : ByteArray := prog_9_method_4_code
abbrev y_Tr_add : MethodName := ⟨R_Tr, "add", "(LMarkupReader$Element;)LMarkupReader$Element;"⟩
abbrev b_El_begin : ByteArray := prog_3_method_2_code
abbrev y_El_begin : MethodName := ⟨R_El, "begin", "(LMarkupReader$Element;)V"⟩
abbrev b_Rd_readName : ByteArray := prog_6_method_14_code
abbrev y_Rd_readName : MethodName := ⟨R_Rd, "readName", "(LMarkupReader$Name;)V"⟩
abbrev b_Rd_passPart : ByteArray := prog_6_method_13_code
abbrev y_Rd_passPart : MethodName := ⟨R_Rd, "passPart", "()V"⟩
abbrev b_MR_goesOnPart : ByteArray := prog_1_method_19_code
abbrev y_MR_goesOnPart : MethodName := ⟨R_MR, "goesOnPart", "(C)Z"⟩
abbrev b_Rd_readAttribute : ByteArray := prog_6_method_17_code
abbrev y_Rd_readAttribute : MethodName := ⟨R_Rd, "readAttribute", "(LMarkupReader$Element;)V"⟩
abbrev b_Tr_isDeclaration : ByteArray := prog_9_method_7_code
abbrev y_Tr_isDeclaration : MethodName := ⟨R_Tr, "isDeclaration", "(LMarkupReader$Name;)Z"⟩
abbrev b_Nm_hasPrefix : ByteArray := prog_5_method_2_code
abbrev y_Nm_hasPrefix : MethodName := ⟨R_Nm, "hasPrefix", "()Z"⟩
abbrev b_Nm_prefixEnd : ByteArray := prog_5_method_4_code
abbrev y_Nm_prefixEnd : MethodName := ⟨R_Nm, "prefixEnd", "()I"⟩
abbrev b_Row_stretchIs : ByteArray := prog_7_method_7_code
abbrev y_Row_stretchIs : MethodName := ⟨R_Row, "stretchIs", "(IILjava/lang/String;)Z"⟩
abbrev b_Rd_readValue : ByteArray := prog_6_method_18_code
abbrev y_Rd_readValue : MethodName := ⟨R_Rd, "readValue", "(LMarkupReader$Attribute;)V"⟩
abbrev b_Rd_readReference : ByteArray := prog_6_method_19_code
abbrev y_Rd_readReference : MethodName := ⟨R_Rd, "readReference", "()C"⟩
abbrev b_Rd_passIfThere : ByteArray := prog_6_method_9_code
abbrev y_Rd_passIfThere : MethodName := ⟨R_Rd, "passIfThere", "(Ljava/lang/String;)Z"⟩
abbrev b_Rd_readNumber : ByteArray := prog_6_method_20_code
abbrev y_Rd_readNumber : MethodName := ⟨R_Rd, "readNumber", "(I)C"⟩
abbrev b_MR_digit : ByteArray := prog_1_method_20_code
abbrev y_MR_digit : MethodName := ⟨R_MR, "digit", "(CI)I"⟩
abbrev b_Ma_min : ByteArray := prog_16_method_69_code
abbrev y_Ma_min : MethodName := ⟨R_Ma, "min", "(II)I"⟩
abbrev b_Rd_enter : ByteArray := prog_6_method_16_code
abbrev y_Rd_enter : MethodName := ⟨R_Rd, "enter", "(LMarkupReader$Element;)V"⟩
abbrev b_SF_firstNameTwice : ByteArray := prog_8_method_3_code
abbrev y_SF_firstNameTwice : MethodName := ⟨R_SF, "firstNameTwice", "(LMarkupReader$Element;)I"⟩
abbrev b_Tr_sameName : ByteArray := prog_9_method_9_code
abbrev y_Tr_sameName : MethodName := ⟨R_Tr, "sameName", "(LMarkupReader$Name;LMarkupReader$Name;)Z"⟩
abbrev b_Row_order : ByteArray := prog_7_method_8_code
abbrev y_Row_order : MethodName := ⟨R_Row, "order", "(IIII)I"⟩
abbrev b_Rd_failUnlessNowhere : ByteArray := prog_6_method_5_code
abbrev y_Rd_failUnlessNowhere : MethodName := ⟨R_Rd, "failUnlessNowhere", "(II)V"⟩
abbrev b_SF_firstWrongDeclaration : ByteArray := prog_8_method_4_code
abbrev y_SF_firstWrongDeclaration : MethodName := ⟨R_SF, "firstWrongDeclaration", "(LMarkupReader$Element;)I"⟩
abbrev b_At_valueLength : ByteArray := prog_2_method_2_code
abbrev y_At_valueLength : MethodName := ⟨R_At, "valueLength", "()I"⟩
abbrev b_SF_declaresFixed : ByteArray := prog_8_method_5_code
abbrev y_SF_declaresFixed : MethodName := ⟨R_SF, "declaresFixed", "(LMarkupReader$Name;)Z"⟩
abbrev b_SF_findSpaces : ByteArray := prog_8_method_2_code
abbrev y_SF_findSpaces : MethodName := ⟨R_SF, "findSpaces", "(LMarkupReader$Element;)V"⟩
abbrev b_Tr_declarationFor : ByteArray := prog_9_method_8_code
abbrev y_Tr_declarationFor : MethodName := ⟨R_Tr, "declarationFor", "(LMarkupReader$Element;II)LMarkupReader$Attribute;"⟩
abbrev b_At_declaredStart : ByteArray := prog_2_method_3_code
abbrev y_At_declaredStart : MethodName := ⟨R_At, "declaredStart", "()I"⟩
abbrev b_SF_firstNotDeclared : ByteArray := prog_8_method_6_code
abbrev y_SF_firstNotDeclared : MethodName := ⟨R_SF, "firstNotDeclared", "(LMarkupReader$Element;)I"⟩
abbrev b_Nm_hasSpace : ByteArray := prog_5_method_3_code
abbrev y_Nm_hasSpace : MethodName := ⟨R_Nm, "hasSpace", "()Z"⟩
abbrev b_SF_firstTwiceInSpace : ByteArray := prog_8_method_7_code
abbrev y_SF_firstTwiceInSpace : MethodName := ⟨R_SF, "firstTwiceInSpace", "(LMarkupReader$Element;)I"⟩
abbrev b_SF_meanTheSame : ByteArray := prog_8_method_8_code
abbrev y_SF_meanTheSame : MethodName := ⟨R_SF, "meanTheSame", "(LMarkupReader$Name;LMarkupReader$Name;)Z"⟩
abbrev b_Tr_sameValue : ByteArray := prog_9_method_11_code
abbrev y_Tr_sameValue : MethodName := ⟨R_Tr, "sameValue", "(LMarkupReader$Attribute;LMarkupReader$Attribute;)Z"⟩
abbrev b_Tr_sameLocal : ByteArray := prog_9_method_10_code
abbrev y_Tr_sameLocal : MethodName := ⟨R_Tr, "sameLocal", "(LMarkupReader$Name;LMarkupReader$Name;)Z"⟩
abbrev b_FW_beginElement : ByteArray := prog_4_method_2_code
abbrev y_FW_beginElement : MethodName := ⟨R_FW, "beginElement", "(LMarkupReader$Element;)V"⟩
abbrev b_FW_saysSomethingElse : ByteArray := prog_4_method_5_code
abbrev y_FW_saysSomethingElse : MethodName := ⟨R_FW, "saysSomethingElse", "(LMarkupReader$Element;LMarkupReader$Attribute;)Z"⟩
abbrev b_FW_insertSorted : ByteArray := prog_4_method_6_code
abbrev y_FW_insertSorted : MethodName := ⟨R_FW, "insertSorted", "(LMarkupReader$Attribute;)V"⟩
abbrev b_FW_comesBefore : ByteArray := prog_4_method_7_code
abbrev y_FW_comesBefore : MethodName := ⟨R_FW, "comesBefore", "(LMarkupReader$Attribute;LMarkupReader$Attribute;)Z"⟩
abbrev b_FW_putName : ByteArray := prog_4_method_8_code
abbrev y_FW_putName : MethodName := ⟨R_FW, "putName", "(LMarkupReader$Name;)V"⟩
abbrev b_FW_putAttribute : ByteArray := prog_4_method_9_code
abbrev y_FW_putAttribute : MethodName := ⟨R_FW, "putAttribute", "(LMarkupReader$Attribute;)V"⟩
abbrev b_Row_putText : ByteArray := prog_7_method_4_code
abbrev y_Row_putText : MethodName := ⟨R_Row, "putText", "(Ljava/lang/String;)V"⟩
abbrev b_FW_putInValue : ByteArray := prog_4_method_10_code
abbrev y_FW_putInValue : MethodName := ⟨R_FW, "putInValue", "(C)V"⟩
abbrev b_FW_endElement : ByteArray := prog_4_method_3_code
abbrev y_FW_endElement : MethodName := ⟨R_FW, "endElement", "(LMarkupReader$Element;)V"⟩
abbrev b_Rd_addContent : ByteArray := prog_6_method_24_code
abbrev y_Rd_addContent : MethodName := ⟨R_Rd, "addContent", "(LMarkupReader$Element;C)V"⟩
abbrev b_Tr_addContent : ByteArray := prog_9_method_5_code
abbrev y_Tr_addContent : MethodName := ⟨R_Tr, "addContent", "(LMarkupReader$Element;C)V"⟩
abbrev b_FW_putContent : ByteArray := prog_4_method_4_code
abbrev y_FW_putContent : MethodName := ⟨R_FW, "putContent", "(C)V"⟩
abbrev b_Rd_readPlain : ByteArray := prog_6_method_23_code
abbrev y_Rd_readPlain : MethodName := ⟨R_Rd, "readPlain", "(LMarkupReader$Element;)V"⟩
abbrev b_Rd_readEndTag : ByteArray := prog_6_method_21_code
abbrev y_Rd_readEndTag : MethodName := ⟨R_Rd, "readEndTag", "(LMarkupReader$Element;)V"⟩
abbrev b_Rd_readSection : ByteArray := prog_6_method_22_code
abbrev y_Rd_readSection : MethodName := ⟨R_Rd, "readSection", "(LMarkupReader$Element;)V"⟩
abbrev b_La_element : ByteArray := method_5_code
abbrev y_La_element : MethodName := ⟨R_La, "element", "(LMarkupReader;II[J)I"⟩
abbrev b_MR_element : ByteArray := prog_1_method_7_code
abbrev y_MR_element : MethodName := ⟨R_MR, "element", "(II)I"⟩
abbrev b_Tr_find : ByteArray := prog_9_method_3_code
abbrev y_Tr_find : MethodName := ⟨R_Tr, "find", "(I)LMarkupReader$Element;"⟩
abbrev b_IO_init : ByteArray := prog_15_method_2_code
abbrev y_IO_init : MethodName := ⟨R_IO, "<init>", "(Ljava/lang/String;)V"⟩
abbrev b_La_name : ByteArray := method_6_code
abbrev y_La_name : MethodName := ⟨R_La, "name", "(LMarkupReader;II[J)I"⟩
abbrev b_MR_name : ByteArray := prog_1_method_8_code
abbrev y_MR_name : MethodName := ⟨R_MR, "name", "(II)C"⟩
abbrev b_La_content : ByteArray := method_7_code
abbrev y_La_content : MethodName := ⟨R_La, "content", "(LMarkupReader;II[J)I"⟩
abbrev b_MR_content : ByteArray := prog_1_method_9_code
abbrev y_MR_content : MethodName := ⟨R_MR, "content", "(II)C"⟩
abbrev b_Tr_ownContentAt : ByteArray := prog_9_method_6_code
abbrev y_Tr_ownContentAt : MethodName := ⟨R_Tr, "ownContentAt", "(LMarkupReader$Element;I)I"⟩
abbrev b_La_space : ByteArray := method_8_code
abbrev y_La_space : MethodName := ⟨R_La, "space", "(LMarkupReader;II[J)I"⟩
abbrev b_MR_space : ByteArray := prog_1_method_10_code
abbrev y_MR_space : MethodName := ⟨R_MR, "space", "(II)C"⟩
abbrev b_La_formAt : ByteArray := method_9_code
abbrev y_La_formAt : MethodName := ⟨R_La, "formAt", "(LMarkupReader;I[J)I"⟩
abbrev b_MR_formAt : ByteArray := prog_1_method_12_code
abbrev y_MR_formAt : MethodName := ⟨R_MR, "formAt", "(I)C"⟩
abbrev b_La_retype : ByteArray := method_10_code
abbrev y_La_retype : MethodName := ⟨R_La, "retype", "(LMarkupReader;[J)I"⟩
abbrev b_MR_retype : ByteArray := prog_1_method_13_code
abbrev y_MR_retype : MethodName := ⟨R_MR, "retype", "()I"⟩
abbrev b_La_keep : ByteArray := method_11_code
abbrev y_La_keep : MethodName := ⟨R_La, "keep", "(LMarkupReader;)I"⟩
abbrev b_MR_keep : ByteArray := prog_1_method_14_code
abbrev y_MR_keep : MethodName := ⟨R_MR, "keep", "()V"⟩
abbrev b_Mo_init : ByteArray := prog_11_method_1_code
abbrev y_Mo_init : MethodName := ⟨R_Mo, "<init>", "()V"⟩
abbrev b_Mo_thrown : ByteArray := prog_11_method_2_code
abbrev y_Mo_thrown : MethodName := ⟨R_Mo, "thrown", "()I"⟩
abbrev b_Mo_type : ByteArray := prog_11_method_8_code
abbrev y_Mo_type : MethodName := ⟨R_Mo, "type", "(C)I"⟩
abbrev b_Mo_isCharacter : ByteArray := prog_11_method_3_code
abbrev y_Mo_isCharacter : MethodName := ⟨R_Mo, "isCharacter", "(I)Z"⟩
abbrev b_Mo_wipe : ByteArray := prog_11_method_9_code
abbrev y_Mo_wipe : MethodName := ⟨R_Mo, "wipe", "()V"⟩
abbrev b_Mo_read : ByteArray := prog_11_method_29_code
abbrev y_Mo_read : MethodName := ⟨R_Mo, "read", "()I"⟩
abbrev b_Mo_around : ByteArray := prog_11_method_14_code
abbrev y_Mo_around : MethodName := ⟨R_Mo, "around", "(Z)Z"⟩
abbrev b_Mo_skip : ByteArray := prog_11_method_12_code
abbrev y_Mo_skip : MethodName := ⟨R_Mo, "skip", "()I"⟩
abbrev b_Mo_here : ByteArray := prog_11_method_6_code
abbrev y_Mo_here : MethodName := ⟨R_Mo, "here", "(I)I"⟩
abbrev b_Mo_blank : ByteArray := prog_11_method_7_code
abbrev y_Mo_blank : MethodName := ⟨R_Mo, "blank", "(I)Z"⟩
abbrev b_Mo_fail : ByteArray := prog_11_method_10_code
abbrev y_Mo_fail : MethodName := ⟨R_Mo, "fail", "(II)Z"⟩
abbrev b_Mo_over : ByteArray := prog_11_method_11_code
abbrev y_Mo_over : MethodName := ⟨R_Mo, "over", "(I)Z"⟩
abbrev b_Mo_comment : ByteArray := prog_11_method_13_code
abbrev y_Mo_comment : MethodName := ⟨R_Mo, "comment", "()Z"⟩
abbrev b_Mo_readTag : ByteArray := prog_11_method_23_code
abbrev y_Mo_readTag : MethodName := ⟨R_Mo, "readTag", "()Z"⟩
abbrev b_Mo_starts : ByteArray := prog_11_method_4_code
abbrev y_Mo_starts : MethodName := ⟨R_Mo, "starts", "(I)Z"⟩
abbrev b_Mo_readName : ByteArray := prog_11_method_15_code
abbrev y_Mo_readName : MethodName := ⟨R_Mo, "readName", "()Z"⟩
abbrev b_Mo_goesOn : ByteArray := prog_11_method_5_code
abbrev y_Mo_goesOn : MethodName := ⟨R_Mo, "goesOn", "(I)Z"⟩
abbrev b_Mo_readRest : ByteArray := prog_11_method_22_code
abbrev y_Mo_readRest : MethodName := ⟨R_Mo, "readRest", "(II)I"⟩
abbrev b_Mo_readAttribute : ByteArray := prog_11_method_21_code
abbrev y_Mo_readAttribute : MethodName := ⟨R_Mo, "readAttribute", "(I)Z"⟩
abbrev b_Mo_readValue : ByteArray := prog_11_method_20_code
abbrev y_Mo_readValue : MethodName := ⟨R_Mo, "readValue", "(I)Z"⟩
abbrev b_Mo_reference : ByteArray := prog_11_method_19_code
abbrev y_Mo_reference : MethodName := ⟨R_Mo, "reference", "()I"⟩
abbrev b_Mo_numbered : ByteArray := prog_11_method_17_code
abbrev y_Mo_numbered : MethodName := ⟨R_Mo, "numbered", "(II)I"⟩
abbrev b_Mo_digit : ByteArray := prog_11_method_16_code
abbrev y_Mo_digit : MethodName := ⟨R_Mo, "digit", "(II)I"⟩
abbrev b_Mo_stands : ByteArray := prog_11_method_18_code
abbrev y_Mo_stands : MethodName := ⟨R_Mo, "stands", "(IIIII)Z"⟩
abbrev b_Mo_checks : ByteArray := prog_11_method_41_code
abbrev y_Mo_checks : MethodName := ⟨R_Mo, "checks", "(I)Z"⟩
abbrev b_Mo_compare : ByteArray := prog_11_method_32_code
abbrev y_Mo_compare : MethodName := ⟨R_Mo, "compare", "(IIII)I"⟩
abbrev b_Mo_localSize : ByteArray := prog_11_method_36_code
abbrev y_Mo_localSize : MethodName := ⟨R_Mo, "localSize", "(I)I"⟩
abbrev b_Mo_local : ByteArray := prog_11_method_35_code
abbrev y_Mo_local : MethodName := ⟨R_Mo, "local", "(I)I"⟩
abbrev b_Mo_declares : ByteArray := prog_11_method_34_code
abbrev y_Mo_declares : MethodName := ⟨R_Mo, "declares", "(I)Z"⟩
abbrev b_Mo_isXmlns : ByteArray := prog_11_method_33_code
abbrev y_Mo_isXmlns : MethodName := ⟨R_Mo, "isXmlns", "(II)Z"⟩
abbrev b_Mo_declared : ByteArray := prog_11_method_37_code
abbrev y_Mo_declared : MethodName := ⟨R_Mo, "declared", "(III)I"⟩
abbrev b_Mo_spaceOf : ByteArray := prog_11_method_38_code
abbrev y_Mo_spaceOf : MethodName := ⟨R_Mo, "spaceOf", "(I)I"⟩
abbrev b_Mo_checkTwins : ByteArray := prog_11_method_42_code
abbrev y_Mo_checkTwins : MethodName := ⟨R_Mo, "checkTwins", "(II)Z"⟩
abbrev b_Mo_compareValues : ByteArray := prog_11_method_40_code
abbrev y_Mo_compareValues : MethodName := ⟨R_Mo, "compareValues", "(II)I"⟩
abbrev b_Mo_happen : ByteArray := prog_11_method_24_code
abbrev y_Mo_happen : MethodName := ⟨R_Mo, "happen", "(I)V"⟩
abbrev b_Mo_readContent : ByteArray := prog_11_method_28_code
abbrev y_Mo_readContent : MethodName := ⟨R_Mo, "readContent", "()Z"⟩
abbrev b_Mo_readMarked : ByteArray := prog_11_method_27_code
abbrev y_Mo_readMarked : MethodName := ⟨R_Mo, "readMarked", "()Z"⟩
abbrev b_Mo_readEnd : ByteArray := prog_11_method_25_code
abbrev y_Mo_readEnd : MethodName := ⟨R_Mo, "readEnd", "()Z"⟩
abbrev b_Mo_readSection : ByteArray := prog_11_method_26_code
abbrev y_Mo_readSection : MethodName := ⟨R_Mo, "readSection", "()Z"⟩
abbrev b_Mo_writeForm : ByteArray := prog_11_method_52_code
abbrev y_Mo_writeForm : MethodName := ⟨R_Mo, "writeForm", "()V"⟩
abbrev b_Mo_write : ByteArray := prog_11_method_43_code
abbrev y_Mo_write : MethodName := ⟨R_Mo, "write", "(I)V"⟩
abbrev b_Mo_writeStretch : ByteArray := prog_11_method_44_code
abbrev y_Mo_writeStretch : MethodName := ⟨R_Mo, "writeStretch", "(II)V"⟩
abbrev b_Mo_writeTag : ByteArray := prog_11_method_51_code
abbrev y_Mo_writeTag : MethodName := ⟨R_Mo, "writeTag", "(I)V"⟩
abbrev b_Mo_order : ByteArray := prog_11_method_50_code
abbrev y_Mo_order : MethodName := ⟨R_Mo, "order", "(II)I"⟩
abbrev b_Mo_isWritten : ByteArray := prog_11_method_49_code
abbrev y_Mo_isWritten : MethodName := ⟨R_Mo, "isWritten", "(I)Z"⟩
abbrev b_Mo_isNews : ByteArray := prog_11_method_48_code
abbrev y_Mo_isNews : MethodName := ⟨R_Mo, "isNews", "(I)Z"⟩
abbrev b_Mo_writeAttribute : ByteArray := prog_11_method_47_code
abbrev y_Mo_writeAttribute : MethodName := ⟨R_Mo, "writeAttribute", "(I)V"⟩
abbrev b_Mo_writeSafe : ByteArray := prog_11_method_46_code
abbrev y_Mo_writeSafe : MethodName := ⟨R_Mo, "writeSafe", "(IZ)V"⟩
abbrev b_Mo_writeReference : ByteArray := prog_11_method_45_code
abbrev y_Mo_writeReference : MethodName := ⟨R_Mo, "writeReference", "(IIII)V"⟩
abbrev b_Mo_reason : ByteArray := prog_11_method_30_code
abbrev y_Mo_reason : MethodName := ⟨R_Mo, "reason", "()I"⟩
abbrev b_Mo_place : ByteArray := prog_11_method_31_code
abbrev y_Mo_place : MethodName := ⟨R_Mo, "place", "()I"⟩
abbrev b_Mo_element : ByteArray := prog_11_method_55_code
abbrev y_Mo_element : MethodName := ⟨R_Mo, "element", "(II)I"⟩
abbrev b_Mo_noElement : ByteArray := prog_11_method_53_code
abbrev y_Mo_noElement : MethodName := ⟨R_Mo, "noElement", "(I)Z"⟩
abbrev b_Mo_elementSpace : ByteArray := prog_11_method_39_code
abbrev y_Mo_elementSpace : MethodName := ⟨R_Mo, "elementSpace", "(I)I"⟩
abbrev b_Mo_own : ByteArray := prog_11_method_54_code
abbrev y_Mo_own : MethodName := ⟨R_Mo, "own", "(II)I"⟩
abbrev b_Mo_name : ByteArray := prog_11_method_56_code
abbrev y_Mo_name : MethodName := ⟨R_Mo, "name", "(II)C"⟩
abbrev b_Mo_content : ByteArray := prog_11_method_57_code
abbrev y_Mo_content : MethodName := ⟨R_Mo, "content", "(II)C"⟩
abbrev b_Mo_space : ByteArray := prog_11_method_58_code
abbrev y_Mo_space : MethodName := ⟨R_Mo, "space", "(II)C"⟩
abbrev b_Mo_form : ByteArray := prog_11_method_59_code
abbrev y_Mo_form : MethodName := ⟨R_Mo, "form", "()I"⟩
abbrev b_Mo_formAt : ByteArray := prog_11_method_60_code
abbrev y_Mo_formAt : MethodName := ⟨R_Mo, "formAt", "(I)C"⟩
abbrev b_Mo_retype : ByteArray := prog_11_method_61_code
abbrev y_Mo_retype : MethodName := ⟨R_Mo, "retype", "()I"⟩
abbrev b_Mo_keep : ByteArray := prog_11_method_62_code
abbrev y_Mo_keep : MethodName := ⟨R_Mo, "keep", "()V"⟩
abbrev b_Mo_same : ByteArray := prog_11_method_63_code
abbrev y_Mo_same : MethodName := ⟨R_Mo, "same", "()Z"⟩
