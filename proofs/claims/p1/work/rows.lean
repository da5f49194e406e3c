section
-- ===== PART A: goes FIRST, ahead of the names: the tables' words, and 'selects' of the private methods out of them =====
/-- a private method of a class that the tables say can be made, by its rows of tables_1 -/
def lw_okq (q : MethodName × Nat) : Prop := (q.1.cls ≠ "java/lang/invoke/MethodHandle" ∧ q.1.cls ≠ "java/lang/invoke/VarHandle") ∧ Cond.instantiable q.1.cls q.2 ∈ tables_1 ∧ Cond.privateMethod q.1 ∈ tables_1 ∧ Cond.instanceMethod q.1 ∈ tables_1
theorem lw_p0 : lw_okq (⟨"TypedTermReader$NameTable", "addWords", "(Ljava/lang/String;)V"⟩, 5) := ⟨⟨by decide +kernel, by decide +kernel⟩, List.mem_of_getElem? (i := 39) (by decide +kernel), List.mem_of_getElem? (i := 46) (by decide +kernel), List.mem_of_getElem? (i := 47) (by decide +kernel)⟩
theorem lw_p1 : lw_okq (⟨"java/lang/Throwable", "fillInStackTrace", "(I)Ljava/lang/Throwable;"⟩, 6) := ⟨⟨by decide +kernel, by decide +kernel⟩, List.mem_of_getElem? (i := 527) (by decide +kernel), List.mem_of_getElem? (i := 525) (by decide +kernel), List.mem_of_getElem? (i := 526) (by decide +kernel)⟩
theorem lw_p2 : lw_okq (⟨"TypedTermReader$Text", "behindBlanks", "(I)I"⟩, 12) := ⟨⟨by decide +kernel, by decide +kernel⟩, List.mem_of_getElem? (i := 33) (by decide +kernel), List.mem_of_getElem? (i := 568) (by decide +kernel), List.mem_of_getElem? (i := 569) (by decide +kernel)⟩
theorem lw_p3 : lw_okq (⟨"TypedTermReader$Text", "fail", "(II)V"⟩, 12) := ⟨⟨by decide +kernel, by decide +kernel⟩, List.mem_of_getElem? (i := 33) (by decide +kernel), List.mem_of_getElem? (i := 579) (by decide +kernel), List.mem_of_getElem? (i := 580) (by decide +kernel)⟩
theorem lw_p4 : lw_okq (⟨"TypedTermReader$Text", "scan", "(I)V"⟩, 12) := ⟨⟨by decide +kernel, by decide +kernel⟩, List.mem_of_getElem? (i := 33) (by decide +kernel), List.mem_of_getElem? (i := 583) (by decide +kernel), List.mem_of_getElem? (i := 584) (by decide +kernel)⟩
theorem lw_p5 : lw_okq (⟨"TypedTermReader$Text", "scanName", "()V"⟩, 12) := ⟨⟨by decide +kernel, by decide +kernel⟩, List.mem_of_getElem? (i := 33) (by decide +kernel), List.mem_of_getElem? (i := 590) (by decide +kernel), List.mem_of_getElem? (i := 591) (by decide +kernel)⟩
theorem lw_p6 : lw_okq (⟨"TypedTermReader$Text", "behindWord", "(I)I"⟩, 12) := ⟨⟨by decide +kernel, by decide +kernel⟩, List.mem_of_getElem? (i := 33) (by decide +kernel), List.mem_of_getElem? (i := 594) (by decide +kernel), List.mem_of_getElem? (i := 595) (by decide +kernel)⟩
theorem lw_p7 : lw_okq (⟨"TypedTermReader$Text", "isKeyword", "()Z"⟩, 12) := ⟨⟨by decide +kernel, by decide +kernel⟩, List.mem_of_getElem? (i := 33) (by decide +kernel), List.mem_of_getElem? (i := 601) (by decide +kernel), List.mem_of_getElem? (i := 602) (by decide +kernel)⟩
theorem lw_p8 : lw_okq (⟨"TypedTermReader$Text", "scanTypeName", "()V"⟩, 12) := ⟨⟨by decide +kernel, by decide +kernel⟩, List.mem_of_getElem? (i := 33) (by decide +kernel), List.mem_of_getElem? (i := 605) (by decide +kernel), List.mem_of_getElem? (i := 606) (by decide +kernel)⟩
theorem lw_p9 : lw_okq (⟨"TypedTermReader$Text", "byteAt", "(I)I"⟩, 12) := ⟨⟨by decide +kernel, by decide +kernel⟩, List.mem_of_getElem? (i := 33) (by decide +kernel), List.mem_of_getElem? (i := 609) (by decide +kernel), List.mem_of_getElem? (i := 610) (by decide +kernel)⟩
theorem lw_p10 : lw_okq (⟨"TypedTermReader$Text", "scanNumeral", "()V"⟩, 12) := ⟨⟨by decide +kernel, by decide +kernel⟩, List.mem_of_getElem? (i := 33) (by decide +kernel), List.mem_of_getElem? (i := 624) (by decide +kernel), List.mem_of_getElem? (i := 625) (by decide +kernel)⟩
theorem lw_p11 : lw_okq (⟨"TypedTermReader$Text", "scanSign", "(I)V"⟩, 12) := ⟨⟨by decide +kernel, by decide +kernel⟩, List.mem_of_getElem? (i := 33) (by decide +kernel), List.mem_of_getElem? (i := 631) (by decide +kernel), List.mem_of_getElem? (i := 632) (by decide +kernel)⟩
theorem lw_p12 : lw_okq (⟨"TypedTermReader$TypePool", "measure", "(I)V"⟩, 12) := ⟨⟨by decide +kernel, by decide +kernel⟩, List.mem_of_getElem? (i := 199) (by decide +kernel), List.mem_of_getElem? (i := 657) (by decide +kernel), List.mem_of_getElem? (i := 658) (by decide +kernel)⟩
theorem lw_p13 : lw_okq (⟨"TypedTermReader$TypePool", "find", "(I)I"⟩, 12) := ⟨⟨by decide +kernel, by decide +kernel⟩, List.mem_of_getElem? (i := 199) (by decide +kernel), List.mem_of_getElem? (i := 665) (by decide +kernel), List.mem_of_getElem? (i := 666) (by decide +kernel)⟩
theorem lw_p14 : lw_okq (⟨"TypedTermReader$TermReader", "read", "(I)I"⟩, 10) := ⟨⟨by decide +kernel, by decide +kernel⟩, List.mem_of_getElem? (i := 315) (by decide +kernel), List.mem_of_getElem? (i := 694) (by decide +kernel), List.mem_of_getElem? (i := 695) (by decide +kernel)⟩
theorem lw_p15 : lw_okq (⟨"TypedTermReader$TermReader", "readOperand", "(I)I"⟩, 10) := ⟨⟨by decide +kernel, by decide +kernel⟩, List.mem_of_getElem? (i := 315) (by decide +kernel), List.mem_of_getElem? (i := 698) (by decide +kernel), List.mem_of_getElem? (i := 699) (by decide +kernel)⟩
def lw_privs_1 : List (MethodName × Nat) := [(⟨"TypedTermReader$NameTable", "addWords", "(Ljava/lang/String;)V"⟩, 5), (⟨"java/lang/Throwable", "fillInStackTrace", "(I)Ljava/lang/Throwable;"⟩, 6), (⟨"TypedTermReader$Text", "behindBlanks", "(I)I"⟩, 12), (⟨"TypedTermReader$Text", "fail", "(II)V"⟩, 12), (⟨"TypedTermReader$Text", "scan", "(I)V"⟩, 12), (⟨"TypedTermReader$Text", "scanName", "()V"⟩, 12), (⟨"TypedTermReader$Text", "behindWord", "(I)I"⟩, 12), (⟨"TypedTermReader$Text", "isKeyword", "()Z"⟩, 12), (⟨"TypedTermReader$Text", "scanTypeName", "()V"⟩, 12), (⟨"TypedTermReader$Text", "byteAt", "(I)I"⟩, 12), (⟨"TypedTermReader$Text", "scanNumeral", "()V"⟩, 12), (⟨"TypedTermReader$Text", "scanSign", "(I)V"⟩, 12), (⟨"TypedTermReader$TypePool", "measure", "(I)V"⟩, 12), (⟨"TypedTermReader$TypePool", "find", "(I)I"⟩, 12), (⟨"TypedTermReader$TermReader", "read", "(I)I"⟩, 10), (⟨"TypedTermReader$TermReader", "readOperand", "(I)I"⟩, 10)]
theorem lw_r1 : ∀ q ∈ lw_privs_1, lw_okq q := List.forall_mem_cons.mpr ⟨lw_p0, List.forall_mem_cons.mpr ⟨lw_p1, List.forall_mem_cons.mpr ⟨lw_p2, List.forall_mem_cons.mpr ⟨lw_p3, List.forall_mem_cons.mpr ⟨lw_p4, List.forall_mem_cons.mpr ⟨lw_p5, List.forall_mem_cons.mpr ⟨lw_p6, List.forall_mem_cons.mpr ⟨lw_p7, List.forall_mem_cons.mpr ⟨lw_p8, List.forall_mem_cons.mpr ⟨lw_p9, List.forall_mem_cons.mpr ⟨lw_p10, List.forall_mem_cons.mpr ⟨lw_p11, List.forall_mem_cons.mpr ⟨lw_p12, List.forall_mem_cons.mpr ⟨lw_p13, List.forall_mem_cons.mpr ⟨lw_p14, List.forall_mem_cons.mpr ⟨lw_p15, fun _ h => absurd h List.not_mem_nil⟩⟩⟩⟩⟩⟩⟩⟩⟩⟩⟩⟩⟩⟩⟩⟩
theorem lw_p16 : lw_okq (⟨"TypedTermReader$TermReader", "readBinder", "(I)I"⟩, 10) := ⟨⟨by decide +kernel, by decide +kernel⟩, List.mem_of_getElem? (i := 315) (by decide +kernel), List.mem_of_getElem? (i := 706) (by decide +kernel), List.mem_of_getElem? (i := 707) (by decide +kernel)⟩
theorem lw_p17 : lw_okq (⟨"TypedTermReader$TermReader", "readVariable", "(I)V"⟩, 10) := ⟨⟨by decide +kernel, by decide +kernel⟩, List.mem_of_getElem? (i := 315) (by decide +kernel), List.mem_of_getElem? (i := 715) (by decide +kernel), List.mem_of_getElem? (i := 716) (by decide +kernel)⟩
theorem lw_p18 : lw_okq (⟨"TypedTermReader$TypeReader", "read", "(I)I"⟩, 7) := ⟨⟨by decide +kernel, by decide +kernel⟩, List.mem_of_getElem? (i := 283) (by decide +kernel), List.mem_of_getElem? (i := 727) (by decide +kernel), List.mem_of_getElem? (i := 728) (by decide +kernel)⟩
theorem lw_p19 : lw_okq (⟨"TypedTermReader$TypeReader", "readAtom", "(I)I"⟩, 7) := ⟨⟨by decide +kernel, by decide +kernel⟩, List.mem_of_getElem? (i := 283) (by decide +kernel), List.mem_of_getElem? (i := 731) (by decide +kernel), List.mem_of_getElem? (i := 732) (by decide +kernel)⟩
theorem lw_p20 : lw_okq (⟨"TypedTermReader$TypeReader", "readNamed", "(I)I"⟩, 7) := ⟨⟨by decide +kernel, by decide +kernel⟩, List.mem_of_getElem? (i := 283) (by decide +kernel), List.mem_of_getElem? (i := 735) (by decide +kernel), List.mem_of_getElem? (i := 736) (by decide +kernel)⟩
theorem lw_p21 : lw_okq (⟨"TypedTermReader$TypeReader", "readLoneName", "()I"⟩, 7) := ⟨⟨by decide +kernel, by decide +kernel⟩, List.mem_of_getElem? (i := 283) (by decide +kernel), List.mem_of_getElem? (i := 744) (by decide +kernel), List.mem_of_getElem? (i := 745) (by decide +kernel)⟩
theorem lw_p22 : lw_okq (⟨"TypedTermReader$TypeReader", "readPart", "(I)I"⟩, 7) := ⟨⟨by decide +kernel, by decide +kernel⟩, List.mem_of_getElem? (i := 283) (by decide +kernel), List.mem_of_getElem? (i := 754) (by decide +kernel), List.mem_of_getElem? (i := 755) (by decide +kernel)⟩
theorem lw_p23 : lw_okq (⟨"TypedTermReader$TypeReader", "readInside", "(I)I"⟩, 7) := ⟨⟨by decide +kernel, by decide +kernel⟩, List.mem_of_getElem? (i := 283) (by decide +kernel), List.mem_of_getElem? (i := 758) (by decide +kernel), List.mem_of_getElem? (i := 759) (by decide +kernel)⟩
theorem lw_p24 : lw_okq (⟨"TypedTermReader$TypeReader", "putAside", "(I)V"⟩, 7) := ⟨⟨by decide +kernel, by decide +kernel⟩, List.mem_of_getElem? (i := 283) (by decide +kernel), List.mem_of_getElem? (i := 768) (by decide +kernel), List.mem_of_getElem? (i := 769) (by decide +kernel)⟩
theorem lw_p25 : lw_okq (⟨"TypedTermReader$TermReader", "bind", "(III)I"⟩, 10) := ⟨⟨by decide +kernel, by decide +kernel⟩, List.mem_of_getElem? (i := 315) (by decide +kernel), List.mem_of_getElem? (i := 789) (by decide +kernel), List.mem_of_getElem? (i := 790) (by decide +kernel)⟩
theorem lw_p26 : lw_okq (⟨"TypedTermReader$TermTree", "add", "(IIII)I"⟩, 8) := ⟨⟨by decide +kernel, by decide +kernel⟩, List.mem_of_getElem? (i := 341) (by decide +kernel), List.mem_of_getElem? (i := 802) (by decide +kernel), List.mem_of_getElem? (i := 803) (by decide +kernel)⟩
theorem lw_p27 : lw_okq (⟨"TypedTermReader$TermReader", "constantLeaf", "(I)I"⟩, 10) := ⟨⟨by decide +kernel, by decide +kernel⟩, List.mem_of_getElem? (i := 315) (by decide +kernel), List.mem_of_getElem? (i := 807) (by decide +kernel), List.mem_of_getElem? (i := 808) (by decide +kernel)⟩
theorem lw_p28 : lw_okq (⟨"TypedTermReader$TermReader", "constantLeaf", "(II)I"⟩, 10) := ⟨⟨by decide +kernel, by decide +kernel⟩, List.mem_of_getElem? (i := 315) (by decide +kernel), List.mem_of_getElem? (i := 811) (by decide +kernel), List.mem_of_getElem? (i := 812) (by decide +kernel)⟩
theorem lw_p29 : lw_okq (⟨"TypedTermReader$ConstantTable", "variable", "(III)I"⟩, 7) := ⟨⟨by decide +kernel, by decide +kernel⟩, List.mem_of_getElem? (i := 245) (by decide +kernel), List.mem_of_getElem? (i := 820) (by decide +kernel), List.mem_of_getElem? (i := 821) (by decide +kernel)⟩
theorem lw_p30 : lw_okq (⟨"TypedTermReader$TypePool", "join", "(II)V"⟩, 12) := ⟨⟨by decide +kernel, by decide +kernel⟩, List.mem_of_getElem? (i := 199) (by decide +kernel), List.mem_of_getElem? (i := 843) (by decide +kernel), List.mem_of_getElem? (i := 844) (by decide +kernel)⟩
theorem lw_p31 : lw_okq (⟨"TypedTermReader$TypePool", "joinParts", "(II)V"⟩, 12) := ⟨⟨by decide +kernel, by decide +kernel⟩, List.mem_of_getElem? (i := 199) (by decide +kernel), List.mem_of_getElem? (i := 847) (by decide +kernel), List.mem_of_getElem? (i := 848) (by decide +kernel)⟩
def lw_privs_2 : List (MethodName × Nat) := [(⟨"TypedTermReader$TermReader", "readBinder", "(I)I"⟩, 10), (⟨"TypedTermReader$TermReader", "readVariable", "(I)V"⟩, 10), (⟨"TypedTermReader$TypeReader", "read", "(I)I"⟩, 7), (⟨"TypedTermReader$TypeReader", "readAtom", "(I)I"⟩, 7), (⟨"TypedTermReader$TypeReader", "readNamed", "(I)I"⟩, 7), (⟨"TypedTermReader$TypeReader", "readLoneName", "()I"⟩, 7), (⟨"TypedTermReader$TypeReader", "readPart", "(I)I"⟩, 7), (⟨"TypedTermReader$TypeReader", "readInside", "(I)I"⟩, 7), (⟨"TypedTermReader$TypeReader", "putAside", "(I)V"⟩, 7), (⟨"TypedTermReader$TermReader", "bind", "(III)I"⟩, 10), (⟨"TypedTermReader$TermTree", "add", "(IIII)I"⟩, 8), (⟨"TypedTermReader$TermReader", "constantLeaf", "(I)I"⟩, 10), (⟨"TypedTermReader$TermReader", "constantLeaf", "(II)I"⟩, 10), (⟨"TypedTermReader$ConstantTable", "variable", "(III)I"⟩, 7), (⟨"TypedTermReader$TypePool", "join", "(II)V"⟩, 12), (⟨"TypedTermReader$TypePool", "joinParts", "(II)V"⟩, 12)]
theorem lw_r2 : ∀ q ∈ lw_privs_2, lw_okq q := List.forall_mem_cons.mpr ⟨lw_p16, List.forall_mem_cons.mpr ⟨lw_p17, List.forall_mem_cons.mpr ⟨lw_p18, List.forall_mem_cons.mpr ⟨lw_p19, List.forall_mem_cons.mpr ⟨lw_p20, List.forall_mem_cons.mpr ⟨lw_p21, List.forall_mem_cons.mpr ⟨lw_p22, List.forall_mem_cons.mpr ⟨lw_p23, List.forall_mem_cons.mpr ⟨lw_p24, List.forall_mem_cons.mpr ⟨lw_p25, List.forall_mem_cons.mpr ⟨lw_p26, List.forall_mem_cons.mpr ⟨lw_p27, List.forall_mem_cons.mpr ⟨lw_p28, List.forall_mem_cons.mpr ⟨lw_p29, List.forall_mem_cons.mpr ⟨lw_p30, List.forall_mem_cons.mpr ⟨lw_p31, fun _ h => absurd h List.not_mem_nil⟩⟩⟩⟩⟩⟩⟩⟩⟩⟩⟩⟩⟩⟩⟩⟩
theorem lw_p32 : lw_okq (⟨"TypedTermReader$TermReader", "readApplications", "(I)I"⟩, 10) := ⟨⟨by decide +kernel, by decide +kernel⟩, List.mem_of_getElem? (i := 315) (by decide +kernel), List.mem_of_getElem? (i := 852) (by decide +kernel), List.mem_of_getElem? (i := 853) (by decide +kernel)⟩
theorem lw_p33 : lw_okq (⟨"TypedTermReader$TermReader", "readAtom", "(I)I"⟩, 10) := ⟨⟨by decide +kernel, by decide +kernel⟩, List.mem_of_getElem? (i := 315) (by decide +kernel), List.mem_of_getElem? (i := 856) (by decide +kernel), List.mem_of_getElem? (i := 857) (by decide +kernel)⟩
theorem lw_p34 : lw_okq (⟨"TypedTermReader$TermReader", "readInside", "(I)I"⟩, 10) := ⟨⟨by decide +kernel, by decide +kernel⟩, List.mem_of_getElem? (i := 315) (by decide +kernel), List.mem_of_getElem? (i := 860) (by decide +kernel), List.mem_of_getElem? (i := 861) (by decide +kernel)⟩
theorem lw_p35 : lw_okq (⟨"TypedTermReader$TermReader", "isLoneSign", "()Z"⟩, 10) := ⟨⟨by decide +kernel, by decide +kernel⟩, List.mem_of_getElem? (i := 315) (by decide +kernel), List.mem_of_getElem? (i := 864) (by decide +kernel), List.mem_of_getElem? (i := 865) (by decide +kernel)⟩
theorem lw_p36 : lw_okq (⟨"TypedTermReader$TermReader", "constantOfToken", "()I"⟩, 10) := ⟨⟨by decide +kernel, by decide +kernel⟩, List.mem_of_getElem? (i := 315) (by decide +kernel), List.mem_of_getElem? (i := 875) (by decide +kernel), List.mem_of_getElem? (i := 876) (by decide +kernel)⟩
theorem lw_p37 : lw_okq (⟨"TypedTermReader$TermReader", "numeral", "(I)I"⟩, 10) := ⟨⟨by decide +kernel, by decide +kernel⟩, List.mem_of_getElem? (i := 315) (by decide +kernel), List.mem_of_getElem? (i := 880) (by decide +kernel), List.mem_of_getElem? (i := 881) (by decide +kernel)⟩
theorem lw_p38 : lw_okq (⟨"TypedTermReader$TermReader", "nameOfToken", "()I"⟩, 10) := ⟨⟨by decide +kernel, by decide +kernel⟩, List.mem_of_getElem? (i := 315) (by decide +kernel), List.mem_of_getElem? (i := 884) (by decide +kernel), List.mem_of_getElem? (i := 885) (by decide +kernel)⟩
theorem lw_p39 : lw_okq (⟨"TypedTermReader$TermReader", "applyStronger", "(III)I"⟩, 10) := ⟨⟨by decide +kernel, by decide +kernel⟩, List.mem_of_getElem? (i := 315) (by decide +kernel), List.mem_of_getElem? (i := 896) (by decide +kernel), List.mem_of_getElem? (i := 897) (by decide +kernel)⟩
theorem lw_p40 : lw_okq (⟨"TypedTermReader$TermReader", "putAside", "(II)V"⟩, 10) := ⟨⟨by decide +kernel, by decide +kernel⟩, List.mem_of_getElem? (i := 315) (by decide +kernel), List.mem_of_getElem? (i := 904) (by decide +kernel), List.mem_of_getElem? (i := 905) (by decide +kernel)⟩
theorem lw_p41 : lw_okq (⟨"TypedTermReader$TypePool", "measureWithParts", "(I)Z"⟩, 12) := ⟨⟨by decide +kernel, by decide +kernel⟩, List.mem_of_getElem? (i := 199) (by decide +kernel), List.mem_of_getElem? (i := 925) (by decide +kernel), List.mem_of_getElem? (i := 926) (by decide +kernel)⟩
theorem lw_p42 : lw_okq (⟨"TypedTermReader$TypePool", "unmeasuredPart", "(I)I"⟩, 12) := ⟨⟨by decide +kernel, by decide +kernel⟩, List.mem_of_getElem? (i := 199) (by decide +kernel), List.mem_of_getElem? (i := 930) (by decide +kernel), List.mem_of_getElem? (i := 931) (by decide +kernel)⟩
theorem lw_p43 : lw_okq (⟨"TypedTermReader$TypePool", "codeOf", "(I)I"⟩, 12) := ⟨⟨by decide +kernel, by decide +kernel⟩, List.mem_of_getElem? (i := 199) (by decide +kernel), List.mem_of_getElem? (i := 951) (by decide +kernel), List.mem_of_getElem? (i := 952) (by decide +kernel)⟩
theorem lw_p44 : lw_okq (⟨"TypedTermReader$TypePool", "putAside", "(II)I"⟩, 12) := ⟨⟨by decide +kernel, by decide +kernel⟩, List.mem_of_getElem? (i := 199) (by decide +kernel), List.mem_of_getElem? (i := 955) (by decide +kernel), List.mem_of_getElem? (i := 956) (by decide +kernel)⟩
theorem lw_p45 : lw_okq (⟨"TypedTermReader$ShownTerm", "putAside", "(II)I"⟩, 5) := ⟨⟨by decide +kernel, by decide +kernel⟩, List.mem_of_getElem? (i := 410) (by decide +kernel), List.mem_of_getElem? (i := 959) (by decide +kernel), List.mem_of_getElem? (i := 960) (by decide +kernel)⟩
theorem lw_p46 : lw_okq (⟨"TypedTermReader", "declareConstant", "()I"⟩, 7) := ⟨⟨by decide +kernel, by decide +kernel⟩, List.mem_of_getElem? (i := 25) (by decide +kernel), List.mem_of_getElem? (i := 970) (by decide +kernel), List.mem_of_getElem? (i := 971) (by decide +kernel)⟩
theorem lw_p47 : lw_okq (⟨"TypedTermReader", "faultOfConstant", "(II)I"⟩, 7) := ⟨⟨by decide +kernel, by decide +kernel⟩, List.mem_of_getElem? (i := 25) (by decide +kernel), List.mem_of_getElem? (i := 982) (by decide +kernel), List.mem_of_getElem? (i := 983) (by decide +kernel)⟩
def lw_privs_3 : List (MethodName × Nat) := [(⟨"TypedTermReader$TermReader", "readApplications", "(I)I"⟩, 10), (⟨"TypedTermReader$TermReader", "readAtom", "(I)I"⟩, 10), (⟨"TypedTermReader$TermReader", "readInside", "(I)I"⟩, 10), (⟨"TypedTermReader$TermReader", "isLoneSign", "()Z"⟩, 10), (⟨"TypedTermReader$TermReader", "constantOfToken", "()I"⟩, 10), (⟨"TypedTermReader$TermReader", "numeral", "(I)I"⟩, 10), (⟨"TypedTermReader$TermReader", "nameOfToken", "()I"⟩, 10), (⟨"TypedTermReader$TermReader", "applyStronger", "(III)I"⟩, 10), (⟨"TypedTermReader$TermReader", "putAside", "(II)V"⟩, 10), (⟨"TypedTermReader$TypePool", "measureWithParts", "(I)Z"⟩, 12), (⟨"TypedTermReader$TypePool", "unmeasuredPart", "(I)I"⟩, 12), (⟨"TypedTermReader$TypePool", "codeOf", "(I)I"⟩, 12), (⟨"TypedTermReader$TypePool", "putAside", "(II)I"⟩, 12), (⟨"TypedTermReader$ShownTerm", "putAside", "(II)I"⟩, 5), (⟨"TypedTermReader", "declareConstant", "()I"⟩, 7), (⟨"TypedTermReader", "faultOfConstant", "(II)I"⟩, 7)]
theorem lw_r3 : ∀ q ∈ lw_privs_3, lw_okq q := List.forall_mem_cons.mpr ⟨lw_p32, List.forall_mem_cons.mpr ⟨lw_p33, List.forall_mem_cons.mpr ⟨lw_p34, List.forall_mem_cons.mpr ⟨lw_p35, List.forall_mem_cons.mpr ⟨lw_p36, List.forall_mem_cons.mpr ⟨lw_p37, List.forall_mem_cons.mpr ⟨lw_p38, List.forall_mem_cons.mpr ⟨lw_p39, List.forall_mem_cons.mpr ⟨lw_p40, List.forall_mem_cons.mpr ⟨lw_p41, List.forall_mem_cons.mpr ⟨lw_p42, List.forall_mem_cons.mpr ⟨lw_p43, List.forall_mem_cons.mpr ⟨lw_p44, List.forall_mem_cons.mpr ⟨lw_p45, List.forall_mem_cons.mpr ⟨lw_p46, List.forall_mem_cons.mpr ⟨lw_p47, fun _ h => absurd h List.not_mem_nil⟩⟩⟩⟩⟩⟩⟩⟩⟩⟩⟩⟩⟩⟩⟩⟩
theorem lw_p48 : lw_okq (⟨"TypedTermReader", "declareType", "()I"⟩, 7) := ⟨⟨by decide +kernel, by decide +kernel⟩, List.mem_of_getElem? (i := 25) (by decide +kernel), List.mem_of_getElem? (i := 1000) (by decide +kernel), List.mem_of_getElem? (i := 1001) (by decide +kernel)⟩
theorem lw_p49 : lw_okq (⟨"TypedTermReader", "faultOfType", "(II)I"⟩, 7) := ⟨⟨by decide +kernel, by decide +kernel⟩, List.mem_of_getElem? (i := 25) (by decide +kernel), List.mem_of_getElem? (i := 1004) (by decide +kernel), List.mem_of_getElem? (i := 1005) (by decide +kernel)⟩
theorem lw_p50 : lw_okq (⟨"TypedTermReaderModel", "node", "(III)I"⟩, 71) := ⟨⟨by decide +kernel, by decide +kernel⟩, List.mem_of_getElem? (i := 1053) (by decide +kernel), List.mem_of_getElem? (i := 1061) (by decide +kernel), List.mem_of_getElem? (i := 1062) (by decide +kernel)⟩
theorem lw_p51 : lw_okq (⟨"TypedTermReaderModel", "function", "(II)I"⟩, 71) := ⟨⟨by decide +kernel, by decide +kernel⟩, List.mem_of_getElem? (i := 1053) (by decide +kernel), List.mem_of_getElem? (i := 1065) (by decide +kernel), List.mem_of_getElem? (i := 1066) (by decide +kernel)⟩
theorem lw_p52 : lw_okq (⟨"TypedTermReaderModel", "takes", "(I)Z"⟩, 71) := ⟨⟨by decide +kernel, by decide +kernel⟩, List.mem_of_getElem? (i := 1053) (by decide +kernel), List.mem_of_getElem? (i := 1310) (by decide +kernel), List.mem_of_getElem? (i := 1311) (by decide +kernel)⟩
theorem lw_p53 : lw_okq (⟨"TypedTermReaderModel", "begin", "(I)V"⟩, 71) := ⟨⟨by decide +kernel, by decide +kernel⟩, List.mem_of_getElem? (i := 1053) (by decide +kernel), List.mem_of_getElem? (i := 1314) (by decide +kernel), List.mem_of_getElem? (i := 1315) (by decide +kernel)⟩
theorem lw_p54 : lw_okq (⟨"TypedTermReaderModel", "readTerm", "()I"⟩, 71) := ⟨⟨by decide +kernel, by decide +kernel⟩, List.mem_of_getElem? (i := 1053) (by decide +kernel), List.mem_of_getElem? (i := 1318) (by decide +kernel), List.mem_of_getElem? (i := 1319) (by decide +kernel)⟩
theorem lw_p55 : lw_okq (⟨"TypedTermReaderModel", "readOperand", "()I"⟩, 71) := ⟨⟨by decide +kernel, by decide +kernel⟩, List.mem_of_getElem? (i := 1053) (by decide +kernel), List.mem_of_getElem? (i := 1322) (by decide +kernel), List.mem_of_getElem? (i := 1323) (by decide +kernel)⟩
theorem lw_p56 : lw_okq (⟨"TypedTermReaderModel", "look", "(I)I"⟩, 71) := ⟨⟨by decide +kernel, by decide +kernel⟩, List.mem_of_getElem? (i := 1053) (by decide +kernel), List.mem_of_getElem? (i := 1326) (by decide +kernel), List.mem_of_getElem? (i := 1327) (by decide +kernel)⟩
theorem lw_p57 : lw_okq (⟨"TypedTermReaderModel", "scan", "()V"⟩, 71) := ⟨⟨by decide +kernel, by decide +kernel⟩, List.mem_of_getElem? (i := 1053) (by decide +kernel), List.mem_of_getElem? (i := 1330) (by decide +kernel), List.mem_of_getElem? (i := 1331) (by decide +kernel)⟩
theorem lw_p58 : lw_okq (⟨"TypedTermReaderModel", "behindBlanks", "(I)I"⟩, 71) := ⟨⟨by decide +kernel, by decide +kernel⟩, List.mem_of_getElem? (i := 1053) (by decide +kernel), List.mem_of_getElem? (i := 1334) (by decide +kernel), List.mem_of_getElem? (i := 1335) (by decide +kernel)⟩
theorem lw_p59 : lw_okq (⟨"TypedTermReaderModel", "byteAt", "(I)I"⟩, 71) := ⟨⟨by decide +kernel, by decide +kernel⟩, List.mem_of_getElem? (i := 1053) (by decide +kernel), List.mem_of_getElem? (i := 1338) (by decide +kernel), List.mem_of_getElem? (i := 1339) (by decide +kernel)⟩
theorem lw_p60 : lw_okq (⟨"TypedTermReaderModel", "die", "(II)V"⟩, 71) := ⟨⟨by decide +kernel, by decide +kernel⟩, List.mem_of_getElem? (i := 1053) (by decide +kernel), List.mem_of_getElem? (i := 1342) (by decide +kernel), List.mem_of_getElem? (i := 1343) (by decide +kernel)⟩
theorem lw_p61 : lw_okq (⟨"TypedTermReaderModel", "scanWord", "(I)V"⟩, 71) := ⟨⟨by decide +kernel, by decide +kernel⟩, List.mem_of_getElem? (i := 1053) (by decide +kernel), List.mem_of_getElem? (i := 1349) (by decide +kernel), List.mem_of_getElem? (i := 1350) (by decide +kernel)⟩
theorem lw_p62 : lw_okq (⟨"TypedTermReaderModel", "isNext", "(ILjava/lang/String;)Z"⟩, 71) := ⟨⟨by decide +kernel, by decide +kernel⟩, List.mem_of_getElem? (i := 1053) (by decide +kernel), List.mem_of_getElem? (i := 1357) (by decide +kernel), List.mem_of_getElem? (i := 1358) (by decide +kernel)⟩
theorem lw_p63 : lw_okq (⟨"TypedTermReaderModel", "sign", "(II)V"⟩, 71) := ⟨⟨by decide +kernel, by decide +kernel⟩, List.mem_of_getElem? (i := 1053) (by decide +kernel), List.mem_of_getElem? (i := 1362) (by decide +kernel), List.mem_of_getElem? (i := 1363) (by decide +kernel)⟩
def lw_privs_4 : List (MethodName × Nat) := [(⟨"TypedTermReader", "declareType", "()I"⟩, 7), (⟨"TypedTermReader", "faultOfType", "(II)I"⟩, 7), (⟨"TypedTermReaderModel", "node", "(III)I"⟩, 71), (⟨"TypedTermReaderModel", "function", "(II)I"⟩, 71), (⟨"TypedTermReaderModel", "takes", "(I)Z"⟩, 71), (⟨"TypedTermReaderModel", "begin", "(I)V"⟩, 71), (⟨"TypedTermReaderModel", "readTerm", "()I"⟩, 71), (⟨"TypedTermReaderModel", "readOperand", "()I"⟩, 71), (⟨"TypedTermReaderModel", "look", "(I)I"⟩, 71), (⟨"TypedTermReaderModel", "scan", "()V"⟩, 71), (⟨"TypedTermReaderModel", "behindBlanks", "(I)I"⟩, 71), (⟨"TypedTermReaderModel", "byteAt", "(I)I"⟩, 71), (⟨"TypedTermReaderModel", "die", "(II)V"⟩, 71), (⟨"TypedTermReaderModel", "scanWord", "(I)V"⟩, 71), (⟨"TypedTermReaderModel", "isNext", "(ILjava/lang/String;)Z"⟩, 71), (⟨"TypedTermReaderModel", "sign", "(II)V"⟩, 71)]
theorem lw_r4 : ∀ q ∈ lw_privs_4, lw_okq q := List.forall_mem_cons.mpr ⟨lw_p48, List.forall_mem_cons.mpr ⟨lw_p49, List.forall_mem_cons.mpr ⟨lw_p50, List.forall_mem_cons.mpr ⟨lw_p51, List.forall_mem_cons.mpr ⟨lw_p52, List.forall_mem_cons.mpr ⟨lw_p53, List.forall_mem_cons.mpr ⟨lw_p54, List.forall_mem_cons.mpr ⟨lw_p55, List.forall_mem_cons.mpr ⟨lw_p56, List.forall_mem_cons.mpr ⟨lw_p57, List.forall_mem_cons.mpr ⟨lw_p58, List.forall_mem_cons.mpr ⟨lw_p59, List.forall_mem_cons.mpr ⟨lw_p60, List.forall_mem_cons.mpr ⟨lw_p61, List.forall_mem_cons.mpr ⟨lw_p62, List.forall_mem_cons.mpr ⟨lw_p63, fun _ h => absurd h List.not_mem_nil⟩⟩⟩⟩⟩⟩⟩⟩⟩⟩⟩⟩⟩⟩⟩⟩
theorem lw_p64 : lw_okq (⟨"TypedTermReaderModel", "scanNumeral", "()V"⟩, 71) := ⟨⟨by decide +kernel, by decide +kernel⟩, List.mem_of_getElem? (i := 1053) (by decide +kernel), List.mem_of_getElem? (i := 1375) (by decide +kernel), List.mem_of_getElem? (i := 1376) (by decide +kernel)⟩
theorem lw_p65 : lw_okq (⟨"TypedTermReaderModel", "scanSign", "(I)V"⟩, 71) := ⟨⟨by decide +kernel, by decide +kernel⟩, List.mem_of_getElem? (i := 1053) (by decide +kernel), List.mem_of_getElem? (i := 1379) (by decide +kernel), List.mem_of_getElem? (i := 1380) (by decide +kernel)⟩
theorem lw_p66 : lw_okq (⟨"TypedTermReaderModel", "readBinder", "(I)I"⟩, 71) := ⟨⟨by decide +kernel, by decide +kernel⟩, List.mem_of_getElem? (i := 1053) (by decide +kernel), List.mem_of_getElem? (i := 1391) (by decide +kernel), List.mem_of_getElem? (i := 1392) (by decide +kernel)⟩
theorem lw_p67 : lw_okq (⟨"TypedTermReaderModel", "enter", "()V"⟩, 71) := ⟨⟨by decide +kernel, by decide +kernel⟩, List.mem_of_getElem? (i := 1053) (by decide +kernel), List.mem_of_getElem? (i := 1395) (by decide +kernel), List.mem_of_getElem? (i := 1396) (by decide +kernel)⟩
theorem lw_p68 : lw_okq (⟨"TypedTermReaderModel", "readVariable", "()V"⟩, 71) := ⟨⟨by decide +kernel, by decide +kernel⟩, List.mem_of_getElem? (i := 1053) (by decide +kernel), List.mem_of_getElem? (i := 1399) (by decide +kernel), List.mem_of_getElem? (i := 1400) (by decide +kernel)⟩
theorem lw_p69 : lw_okq (⟨"TypedTermReaderModel", "need", "(I)V"⟩, 71) := ⟨⟨by decide +kernel, by decide +kernel⟩, List.mem_of_getElem? (i := 1053) (by decide +kernel), List.mem_of_getElem? (i := 1403) (by decide +kernel), List.mem_of_getElem? (i := 1404) (by decide +kernel)⟩
theorem lw_p70 : lw_okq (⟨"TypedTermReaderModel", "readType", "()I"⟩, 71) := ⟨⟨by decide +kernel, by decide +kernel⟩, List.mem_of_getElem? (i := 1053) (by decide +kernel), List.mem_of_getElem? (i := 1407) (by decide +kernel), List.mem_of_getElem? (i := 1408) (by decide +kernel)⟩
theorem lw_p71 : lw_okq (⟨"TypedTermReaderModel", "readTypeAtom", "()I"⟩, 71) := ⟨⟨by decide +kernel, by decide +kernel⟩, List.mem_of_getElem? (i := 1053) (by decide +kernel), List.mem_of_getElem? (i := 1411) (by decide +kernel), List.mem_of_getElem? (i := 1412) (by decide +kernel)⟩
theorem lw_p72 : lw_okq (⟨"TypedTermReaderModel", "readInParentheses", "()I"⟩, 71) := ⟨⟨by decide +kernel, by decide +kernel⟩, List.mem_of_getElem? (i := 1053) (by decide +kernel), List.mem_of_getElem? (i := 1415) (by decide +kernel), List.mem_of_getElem? (i := 1416) (by decide +kernel)⟩
theorem lw_p73 : lw_okq (⟨"TypedTermReaderModel", "written", "(II)I"⟩, 71) := ⟨⟨by decide +kernel, by decide +kernel⟩, List.mem_of_getElem? (i := 1053) (by decide +kernel), List.mem_of_getElem? (i := 1419) (by decide +kernel), List.mem_of_getElem? (i := 1420) (by decide +kernel)⟩
theorem lw_p74 : lw_okq (⟨"TypedTermReaderModel", "takesBefore", "(II)V"⟩, 71) := ⟨⟨by decide +kernel, by decide +kernel⟩, List.mem_of_getElem? (i := 1053) (by decide +kernel), List.mem_of_getElem? (i := 1423) (by decide +kernel), List.mem_of_getElem? (i := 1424) (by decide +kernel)⟩
theorem lw_p75 : lw_okq (⟨"TypedTermReaderModel", "part", "(IIIIII)I"⟩, 71) := ⟨⟨by decide +kernel, by decide +kernel⟩, List.mem_of_getElem? (i := 1053) (by decide +kernel), List.mem_of_getElem? (i := 1428) (by decide +kernel), List.mem_of_getElem? (i := 1429) (by decide +kernel)⟩
theorem lw_p76 : lw_okq (⟨"TypedTermReaderModel", "constantPart", "(IZ)I"⟩, 71) := ⟨⟨by decide +kernel, by decide +kernel⟩, List.mem_of_getElem? (i := 1053) (by decide +kernel), List.mem_of_getElem? (i := 1432) (by decide +kernel), List.mem_of_getElem? (i := 1433) (by decide +kernel)⟩
theorem lw_p77 : lw_okq (⟨"TypedTermReaderModel", "applied", "(II)I"⟩, 71) := ⟨⟨by decide +kernel, by decide +kernel⟩, List.mem_of_getElem? (i := 1053) (by decide +kernel), List.mem_of_getElem? (i := 1436) (by decide +kernel), List.mem_of_getElem? (i := 1437) (by decide +kernel)⟩
theorem lw_p78 : lw_okq (⟨"TypedTermReaderModel", "readAtoms", "()I"⟩, 71) := ⟨⟨by decide +kernel, by decide +kernel⟩, List.mem_of_getElem? (i := 1053) (by decide +kernel), List.mem_of_getElem? (i := 1443) (by decide +kernel), List.mem_of_getElem? (i := 1444) (by decide +kernel)⟩
theorem lw_p79 : lw_okq (⟨"TypedTermReaderModel", "readAtom", "()I"⟩, 71) := ⟨⟨by decide +kernel, by decide +kernel⟩, List.mem_of_getElem? (i := 1053) (by decide +kernel), List.mem_of_getElem? (i := 1447) (by decide +kernel), List.mem_of_getElem? (i := 1448) (by decide +kernel)⟩
def lw_privs_5 : List (MethodName × Nat) := [(⟨"TypedTermReaderModel", "scanNumeral", "()V"⟩, 71), (⟨"TypedTermReaderModel", "scanSign", "(I)V"⟩, 71), (⟨"TypedTermReaderModel", "readBinder", "(I)I"⟩, 71), (⟨"TypedTermReaderModel", "enter", "()V"⟩, 71), (⟨"TypedTermReaderModel", "readVariable", "()V"⟩, 71), (⟨"TypedTermReaderModel", "need", "(I)V"⟩, 71), (⟨"TypedTermReaderModel", "readType", "()I"⟩, 71), (⟨"TypedTermReaderModel", "readTypeAtom", "()I"⟩, 71), (⟨"TypedTermReaderModel", "readInParentheses", "()I"⟩, 71), (⟨"TypedTermReaderModel", "written", "(II)I"⟩, 71), (⟨"TypedTermReaderModel", "takesBefore", "(II)V"⟩, 71), (⟨"TypedTermReaderModel", "part", "(IIIIII)I"⟩, 71), (⟨"TypedTermReaderModel", "constantPart", "(IZ)I"⟩, 71), (⟨"TypedTermReaderModel", "applied", "(II)I"⟩, 71), (⟨"TypedTermReaderModel", "readAtoms", "()I"⟩, 71), (⟨"TypedTermReaderModel", "readAtom", "()I"⟩, 71)]
theorem lw_r5 : ∀ q ∈ lw_privs_5, lw_okq q := List.forall_mem_cons.mpr ⟨lw_p64, List.forall_mem_cons.mpr ⟨lw_p65, List.forall_mem_cons.mpr ⟨lw_p66, List.forall_mem_cons.mpr ⟨lw_p67, List.forall_mem_cons.mpr ⟨lw_p68, List.forall_mem_cons.mpr ⟨lw_p69, List.forall_mem_cons.mpr ⟨lw_p70, List.forall_mem_cons.mpr ⟨lw_p71, List.forall_mem_cons.mpr ⟨lw_p72, List.forall_mem_cons.mpr ⟨lw_p73, List.forall_mem_cons.mpr ⟨lw_p74, List.forall_mem_cons.mpr ⟨lw_p75, List.forall_mem_cons.mpr ⟨lw_p76, List.forall_mem_cons.mpr ⟨lw_p77, List.forall_mem_cons.mpr ⟨lw_p78, List.forall_mem_cons.mpr ⟨lw_p79, fun _ h => absurd h List.not_mem_nil⟩⟩⟩⟩⟩⟩⟩⟩⟩⟩⟩⟩⟩⟩⟩⟩
theorem lw_p80 : lw_okq (⟨"TypedTermReaderModel", "readOpen", "()I"⟩, 71) := ⟨⟨by decide +kernel, by decide +kernel⟩, List.mem_of_getElem? (i := 1053) (by decide +kernel), List.mem_of_getElem? (i := 1454) (by decide +kernel), List.mem_of_getElem? (i := 1455) (by decide +kernel)⟩
theorem lw_p81 : lw_okq (⟨"TypedTermReaderModel", "settled", "(III)I"⟩, 71) := ⟨⟨by decide +kernel, by decide +kernel⟩, List.mem_of_getElem? (i := 1053) (by decide +kernel), List.mem_of_getElem? (i := 1461) (by decide +kernel), List.mem_of_getElem? (i := 1462) (by decide +kernel)⟩
theorem lw_p82 : lw_okq (⟨"TypedTermReaderModel", "measure", "(I)V"⟩, 71) := ⟨⟨by decide +kernel, by decide +kernel⟩, List.mem_of_getElem? (i := 1053) (by decide +kernel), List.mem_of_getElem? (i := 1468) (by decide +kernel), List.mem_of_getElem? (i := 1469) (by decide +kernel)⟩
theorem lw_p83 : lw_okq (⟨"TypedTermReaderModel", "areNamed", "(I)Z"⟩, 71) := ⟨⟨by decide +kernel, by decide +kernel⟩, List.mem_of_getElem? (i := 1053) (by decide +kernel), List.mem_of_getElem? (i := 1472) (by decide +kernel), List.mem_of_getElem? (i := 1473) (by decide +kernel)⟩
theorem lw_p84 : lw_okq (⟨"TypedTermReaderModel", "boundAt", "(I)I"⟩, 71) := ⟨⟨by decide +kernel, by decide +kernel⟩, List.mem_of_getElem? (i := 1053) (by decide +kernel), List.mem_of_getElem? (i := 1476) (by decide +kernel), List.mem_of_getElem? (i := 1477) (by decide +kernel)⟩
theorem lw_p85 : lw_okq (⟨"TypedTermReaderModel", "constantOf", "(I)I"⟩, 71) := ⟨⟨by decide +kernel, by decide +kernel⟩, List.mem_of_getElem? (i := 1053) (by decide +kernel), List.mem_of_getElem? (i := 1480) (by decide +kernel), List.mem_of_getElem? (i := 1481) (by decide +kernel)⟩
theorem lw_p86 : lw_okq (⟨"TypedTermReaderModel", "make", "(I)I"⟩, 71) := ⟨⟨by decide +kernel, by decide +kernel⟩, List.mem_of_getElem? (i := 1053) (by decide +kernel), List.mem_of_getElem? (i := 1484) (by decide +kernel), List.mem_of_getElem? (i := 1485) (by decide +kernel)⟩
theorem lw_p87 : lw_okq (⟨"TypedTermReaderModel", "make", "(II)I"⟩, 71) := ⟨⟨by decide +kernel, by decide +kernel⟩, List.mem_of_getElem? (i := 1053) (by decide +kernel), List.mem_of_getElem? (i := 1488) (by decide +kernel), List.mem_of_getElem? (i := 1489) (by decide +kernel)⟩
theorem lw_p88 : lw_okq (⟨"TypedTermReaderModel", "use", "(I)I"⟩, 71) := ⟨⟨by decide +kernel, by decide +kernel⟩, List.mem_of_getElem? (i := 1053) (by decide +kernel), List.mem_of_getElem? (i := 1492) (by decide +kernel), List.mem_of_getElem? (i := 1493) (by decide +kernel)⟩
theorem lw_p89 : lw_okq (⟨"TypedTermReaderModel", "copy", "(I)I"⟩, 71) := ⟨⟨by decide +kernel, by decide +kernel⟩, List.mem_of_getElem? (i := 1053) (by decide +kernel), List.mem_of_getElem? (i := 1496) (by decide +kernel), List.mem_of_getElem? (i := 1497) (by decide +kernel)⟩
theorem lw_p90 : lw_okq (⟨"TypedTermReaderModel", "unknown", "()I"⟩, 71) := ⟨⟨by decide +kernel, by decide +kernel⟩, List.mem_of_getElem? (i := 1053) (by decide +kernel), List.mem_of_getElem? (i := 1500) (by decide +kernel), List.mem_of_getElem? (i := 1501) (by decide +kernel)⟩
theorem lw_p91 : lw_okq (⟨"TypedTermReaderModel", "makeConstant", "(I)I"⟩, 71) := ⟨⟨by decide +kernel, by decide +kernel⟩, List.mem_of_getElem? (i := 1053) (by decide +kernel), List.mem_of_getElem? (i := 1504) (by decide +kernel), List.mem_of_getElem? (i := 1505) (by decide +kernel)⟩
theorem lw_p92 : lw_okq (⟨"TypedTermReaderModel", "join", "(II)V"⟩, 71) := ⟨⟨by decide +kernel, by decide +kernel⟩, List.mem_of_getElem? (i := 1053) (by decide +kernel), List.mem_of_getElem? (i := 1508) (by decide +kernel), List.mem_of_getElem? (i := 1509) (by decide +kernel)⟩
theorem lw_p93 : lw_okq (⟨"TypedTermReaderModel", "last", "(I)I"⟩, 71) := ⟨⟨by decide +kernel, by decide +kernel⟩, List.mem_of_getElem? (i := 1053) (by decide +kernel), List.mem_of_getElem? (i := 1512) (by decide +kernel), List.mem_of_getElem? (i := 1513) (by decide +kernel)⟩
theorem lw_p94 : lw_okq (⟨"TypedTermReaderModel", "makeNumeral", "(I)I"⟩, 71) := ⟨⟨by decide +kernel, by decide +kernel⟩, List.mem_of_getElem? (i := 1053) (by decide +kernel), List.mem_of_getElem? (i := 1516) (by decide +kernel), List.mem_of_getElem? (i := 1517) (by decide +kernel)⟩
theorem lw_p95 : lw_okq (⟨"TypedTermReaderModel", "makeAbstraction", "(I)I"⟩, 71) := ⟨⟨by decide +kernel, by decide +kernel⟩, List.mem_of_getElem? (i := 1053) (by decide +kernel), List.mem_of_getElem? (i := 1520) (by decide +kernel), List.mem_of_getElem? (i := 1521) (by decide +kernel)⟩
def lw_privs_6 : List (MethodName × Nat) := [(⟨"TypedTermReaderModel", "readOpen", "()I"⟩, 71), (⟨"TypedTermReaderModel", "settled", "(III)I"⟩, 71), (⟨"TypedTermReaderModel", "measure", "(I)V"⟩, 71), (⟨"TypedTermReaderModel", "areNamed", "(I)Z"⟩, 71), (⟨"TypedTermReaderModel", "boundAt", "(I)I"⟩, 71), (⟨"TypedTermReaderModel", "constantOf", "(I)I"⟩, 71), (⟨"TypedTermReaderModel", "make", "(I)I"⟩, 71), (⟨"TypedTermReaderModel", "make", "(II)I"⟩, 71), (⟨"TypedTermReaderModel", "use", "(I)I"⟩, 71), (⟨"TypedTermReaderModel", "copy", "(I)I"⟩, 71), (⟨"TypedTermReaderModel", "unknown", "()I"⟩, 71), (⟨"TypedTermReaderModel", "makeConstant", "(I)I"⟩, 71), (⟨"TypedTermReaderModel", "join", "(II)V"⟩, 71), (⟨"TypedTermReaderModel", "last", "(I)I"⟩, 71), (⟨"TypedTermReaderModel", "makeNumeral", "(I)I"⟩, 71), (⟨"TypedTermReaderModel", "makeAbstraction", "(I)I"⟩, 71)]
theorem lw_r6 : ∀ q ∈ lw_privs_6, lw_okq q := List.forall_mem_cons.mpr ⟨lw_p80, List.forall_mem_cons.mpr ⟨lw_p81, List.forall_mem_cons.mpr ⟨lw_p82, List.forall_mem_cons.mpr ⟨lw_p83, List.forall_mem_cons.mpr ⟨lw_p84, List.forall_mem_cons.mpr ⟨lw_p85, List.forall_mem_cons.mpr ⟨lw_p86, List.forall_mem_cons.mpr ⟨lw_p87, List.forall_mem_cons.mpr ⟨lw_p88, List.forall_mem_cons.mpr ⟨lw_p89, List.forall_mem_cons.mpr ⟨lw_p90, List.forall_mem_cons.mpr ⟨lw_p91, List.forall_mem_cons.mpr ⟨lw_p92, List.forall_mem_cons.mpr ⟨lw_p93, List.forall_mem_cons.mpr ⟨lw_p94, List.forall_mem_cons.mpr ⟨lw_p95, fun _ h => absurd h List.not_mem_nil⟩⟩⟩⟩⟩⟩⟩⟩⟩⟩⟩⟩⟩⟩⟩⟩
theorem lw_p96 : lw_okq (⟨"TypedTermReaderModel", "meant", "(I)I"⟩, 71) := ⟨⟨by decide +kernel, by decide +kernel⟩, List.mem_of_getElem? (i := 1053) (by decide +kernel), List.mem_of_getElem? (i := 1524) (by decide +kernel), List.mem_of_getElem? (i := 1525) (by decide +kernel)⟩
theorem lw_p97 : lw_okq (⟨"TypedTermReaderModel", "weighAll", "()V"⟩, 71) := ⟨⟨by decide +kernel, by decide +kernel⟩, List.mem_of_getElem? (i := 1053) (by decide +kernel), List.mem_of_getElem? (i := 1528) (by decide +kernel), List.mem_of_getElem? (i := 1529) (by decide +kernel)⟩
theorem lw_p98 : lw_okq (⟨"TypedTermReaderModel", "weigh", "(I)V"⟩, 71) := ⟨⟨by decide +kernel, by decide +kernel⟩, List.mem_of_getElem? (i := 1053) (by decide +kernel), List.mem_of_getElem? (i := 1532) (by decide +kernel), List.mem_of_getElem? (i := 1533) (by decide +kernel)⟩
theorem lw_p99 : lw_okq (⟨"TypedTermReaderModel", "keepTerm", "()V"⟩, 71) := ⟨⟨by decide +kernel, by decide +kernel⟩, List.mem_of_getElem? (i := 1053) (by decide +kernel), List.mem_of_getElem? (i := 1536) (by decide +kernel), List.mem_of_getElem? (i := 1537) (by decide +kernel)⟩
theorem lw_p100 : lw_okq (⟨"TypedTermReaderModel", "writeRow", "(II)I"⟩, 71) := ⟨⟨by decide +kernel, by decide +kernel⟩, List.mem_of_getElem? (i := 1053) (by decide +kernel), List.mem_of_getElem? (i := 1540) (by decide +kernel), List.mem_of_getElem? (i := 1541) (by decide +kernel)⟩
def lw_privs_7 : List (MethodName × Nat) := [(⟨"TypedTermReaderModel", "meant", "(I)I"⟩, 71), (⟨"TypedTermReaderModel", "weighAll", "()V"⟩, 71), (⟨"TypedTermReaderModel", "weigh", "(I)V"⟩, 71), (⟨"TypedTermReaderModel", "keepTerm", "()V"⟩, 71), (⟨"TypedTermReaderModel", "writeRow", "(II)I"⟩, 71)]
theorem lw_r7 : ∀ q ∈ lw_privs_7, lw_okq q := List.forall_mem_cons.mpr ⟨lw_p96, List.forall_mem_cons.mpr ⟨lw_p97, List.forall_mem_cons.mpr ⟨lw_p98, List.forall_mem_cons.mpr ⟨lw_p99, List.forall_mem_cons.mpr ⟨lw_p100, fun _ h => absurd h List.not_mem_nil⟩⟩⟩⟩⟩
def lw_privs : List (MethodName × Nat) := lw_privs_1 ++ (lw_privs_2 ++ (lw_privs_3 ++ (lw_privs_4 ++ (lw_privs_5 ++ (lw_privs_6 ++ (lw_privs_7))))))
def lw_tbl : List Cond := k2_sels lw_privs ++ tables_1
theorem lw_privs_ok : ∀ q ∈ lw_privs, lw_okq q := by
  show ∀ q ∈ lw_privs_1 ++ (lw_privs_2 ++ (lw_privs_3 ++ (lw_privs_4 ++ (lw_privs_5 ++ (lw_privs_6 ++ (lw_privs_7)))))), lw_okq q
  exact List.forall_mem_append.mpr ⟨lw_r1, List.forall_mem_append.mpr ⟨lw_r2, List.forall_mem_append.mpr ⟨lw_r3, List.forall_mem_append.mpr ⟨lw_r4, List.forall_mem_append.mpr ⟨lw_r5, List.forall_mem_append.mpr ⟨lw_r6, lw_r7⟩⟩⟩⟩⟩⟩
-- ===== end of PART A; then your names; then what follows =====
end
section
/-! printed by wip/am/gen.py out of claim/Statement.lean: classes, fields, methods, their code -/
abbrev aI : Type := Instr × Nat × Nat × List Nat
def aT0 : u_T := fun k => match k with
  | 0 => ("TypedTermReader", "text", "LTypedTermReader$Text;", true)
  | 1 => ("TypedTermReader", "types", "LTypedTermReader$TypeTable;", true)
  | 2 => ("TypedTermReader", "pool", "LTypedTermReader$TypePool;", true)
  | 3 => ("TypedTermReader", "constants", "LTypedTermReader$ConstantTable;", true)
  | 4 => ("TypedTermReader", "typeReader", "LTypedTermReader$TypeReader;", true)
  | 5 => ("TypedTermReader", "termReader", "LTypedTermReader$TermReader;", true)
  | _ => ("TypedTermReader", "shown", "LTypedTermReader$ShownTerm;", true)
def aY0 : Nat → FieldType := fun k => match k with
  | 0 => (.object "TypedTermReader$Text")
  | 1 => (.object "TypedTermReader$TypeTable")
  | 2 => (.object "TypedTermReader$TypePool")
  | 3 => (.object "TypedTermReader$ConstantTable")
  | 4 => (.object "TypedTermReader$TypeReader")
  | 5 => (.object "TypedTermReader$TermReader")
  | _ => (.object "TypedTermReader$ShownTerm")
def aT1 : u_T := fun k => match k with
  | 0 => ("TypedTermReader$Text", "bytes", "[B", true)
  | 1 => ("TypedTermReader$Text", "typeNames", "LTypedTermReader$NameTable;", true)
  | 2 => ("TypedTermReader$Text", "fed", "I", false)
  | 3 => ("TypedTermReader$Text", "length", "I", false)
  | 4 => ("TypedTermReader$Text", "tokens", "I", false)
  | 5 => ("TypedTermReader$Text", "firstStart", "I", false)
  | 6 => ("TypedTermReader$Text", "kind", "I", false)
  | 7 => ("TypedTermReader$Text", "start", "I", false)
  | 8 => ("TypedTermReader$Text", "end", "I", false)
  | 9 => ("TypedTermReader$Text", "value", "I", false)
  | 10 => ("TypedTermReader$Text", "fault", "I", false)
  | _ => ("TypedTermReader$Text", "place", "I", false)
def aY1 : Nat → FieldType := fun k => match k with
  | 0 => (.array .byte)
  | 1 => (.object "TypedTermReader$NameTable")
  | 2 => .int
  | 3 => .int
  | 4 => .int
  | 5 => .int
  | 6 => .int
  | 7 => .int
  | 8 => .int
  | 9 => .int
  | 10 => .int
  | _ => .int
def aT2 : u_T := fun k => match k with
  | 0 => ("TypedTermReader$NameTable", "letters", "[B", true)
  | 1 => ("TypedTermReader$NameTable", "starts", "[I", true)
  | 2 => ("TypedTermReader$NameTable", "nextInBucket", "[I", true)
  | 3 => ("TypedTermReader$NameTable", "firstInBucket", "[I", true)
  | _ => ("TypedTermReader$NameTable", "count", "I", false)
def aY2 : Nat → FieldType := fun k => match k with
  | 0 => (.array .byte)
  | 1 => (.array .int)
  | 2 => (.array .int)
  | 3 => (.array .int)
  | _ => .int
def aT3 : u_T := fun k => match k with
  | 0 => ("TypedTermReader$TypeTable", "names", "LTypedTermReader$NameTable;", true)
  | _ => ("TypedTermReader$TypeTable", "taken", "[I", true)
def aY3 : Nat → FieldType := fun k => match k with
  | 0 => (.object "TypedTermReader$NameTable")
  | _ => (.array .int)
def aT4 : u_T := fun k => match k with
  | 0 => ("TypedTermReader$TypePool", "codes", "[I", true)
  | 1 => ("TypedTermReader$TypePool", "first", "[I", true)
  | 2 => ("TypedTermReader$TypePool", "second", "[I", true)
  | 3 => ("TypedTermReader$TypePool", "parents", "[I", true)
  | 4 => ("TypedTermReader$TypePool", "sizes", "[I", true)
  | 5 => ("TypedTermReader$TypePool", "heights", "[I", true)
  | 6 => ("TypedTermReader$TypePool", "waiting", "[I", true)
  | 7 => ("TypedTermReader$TypePool", "waitingCount", "I", false)
  | 8 => ("TypedTermReader$TypePool", "count", "I", false)
  | 9 => ("TypedTermReader$TypePool", "leftOver", "I", false)
  | 10 => ("TypedTermReader$TypePool", "clash", "Z", false)
  | _ => ("TypedTermReader$TypePool", "overfull", "Z", false)
def aY4 : Nat → FieldType := fun k => match k with
  | 0 => (.array .int)
  | 1 => (.array .int)
  | 2 => (.array .int)
  | 3 => (.array .int)
  | 4 => (.array .int)
  | 5 => (.array .int)
  | 6 => (.array .int)
  | 7 => .int
  | 8 => .int
  | 9 => .int
  | 10 => .boolean
  | _ => .boolean
def aT5 : u_T := fun k => match k with
  | 0 => ("TypedTermReader$ConstantTable", "names", "LTypedTermReader$NameTable;", true)
  | 1 => ("TypedTermReader$ConstantTable", "rows", "[I", true)
  | 2 => ("TypedTermReader$ConstantTable", "ends", "[I", true)
  | 3 => ("TypedTermReader$ConstantTable", "nodes", "[I", true)
  | 4 => ("TypedTermReader$ConstantTable", "parts", "[I", true)
  | 5 => ("TypedTermReader$ConstantTable", "types", "LTypedTermReader$TypeTable;", true)
  | _ => ("TypedTermReader$ConstantTable", "pool", "LTypedTermReader$TypePool;", true)
def aY5 : Nat → FieldType := fun k => match k with
  | 0 => (.object "TypedTermReader$NameTable")
  | 1 => (.array .int)
  | 2 => (.array .int)
  | 3 => (.array .int)
  | 4 => (.array .int)
  | 5 => (.object "TypedTermReader$TypeTable")
  | _ => (.object "TypedTermReader$TypePool")
def aT6 : u_T := fun k => match k with
  | 0 => ("TypedTermReader$TypeReader", "text", "LTypedTermReader$Text;", true)
  | 1 => ("TypedTermReader$TypeReader", "types", "LTypedTermReader$TypeTable;", true)
  | 2 => ("TypedTermReader$TypeReader", "pool", "LTypedTermReader$TypePool;", true)
  | 3 => ("TypedTermReader$TypeReader", "waiting", "[I", true)
  | 4 => ("TypedTermReader$TypeReader", "waitingCount", "I", false)
  | 5 => ("TypedTermReader$TypeReader", "large", "Z", false)
  | _ => ("TypedTermReader$TypeReader", "wrong", "Z", false)
def aY6 : Nat → FieldType := fun k => match k with
  | 0 => (.object "TypedTermReader$Text")
  | 1 => (.object "TypedTermReader$TypeTable")
  | 2 => (.object "TypedTermReader$TypePool")
  | 3 => (.array .int)
  | 4 => .int
  | 5 => .boolean
  | _ => .boolean
def aT7 : u_T := fun k => match k with
  | 0 => ("TypedTermReader$TermReader", "text", "LTypedTermReader$Text;", true)
  | 1 => ("TypedTermReader$TermReader", "constants", "LTypedTermReader$ConstantTable;", true)
  | 2 => ("TypedTermReader$TermReader", "pool", "LTypedTermReader$TypePool;", true)
  | 3 => ("TypedTermReader$TermReader", "typeReader", "LTypedTermReader$TypeReader;", true)
  | 4 => ("TypedTermReader$TermReader", "scope", "LTypedTermReader$Scope;", true)
  | 5 => ("TypedTermReader$TermReader", "tree", "LTypedTermReader$TermTree;", true)
  | 6 => ("TypedTermReader$TermReader", "waiting", "[I", true)
  | 7 => ("TypedTermReader$TermReader", "strengths", "[I", true)
  | 8 => ("TypedTermReader$TermReader", "waitingCount", "I", false)
  | _ => ("TypedTermReader$TermReader", "unknownName", "Z", false)
def aY7 : Nat → FieldType := fun k => match k with
  | 0 => (.object "TypedTermReader$Text")
  | 1 => (.object "TypedTermReader$ConstantTable")
  | 2 => (.object "TypedTermReader$TypePool")
  | 3 => (.object "TypedTermReader$TypeReader")
  | 4 => (.object "TypedTermReader$Scope")
  | 5 => (.object "TypedTermReader$TermTree")
  | 6 => (.array .int)
  | 7 => (.array .int)
  | 8 => .int
  | _ => .boolean
def aT8 : u_T := fun k => match k with
  | 0 => ("TypedTermReader$Scope", "starts", "[I", true)
  | 1 => ("TypedTermReader$Scope", "ends", "[I", true)
  | 2 => ("TypedTermReader$Scope", "types", "[I", true)
  | _ => ("TypedTermReader$Scope", "count", "I", false)
def aY8 : Nat → FieldType := fun k => match k with
  | 0 => (.array .int)
  | 1 => (.array .int)
  | 2 => (.array .int)
  | _ => .int
def aT9 : u_T := fun k => match k with
  | 0 => ("TypedTermReader$TermTree", "symbols", "[I", true)
  | 1 => ("TypedTermReader$TermTree", "first", "[I", true)
  | 2 => ("TypedTermReader$TermTree", "second", "[I", true)
  | 3 => ("TypedTermReader$TermTree", "types", "[I", true)
  | 4 => ("TypedTermReader$TermTree", "heights", "[I", true)
  | 5 => ("TypedTermReader$TermTree", "pool", "LTypedTermReader$TypePool;", true)
  | 6 => ("TypedTermReader$TermTree", "count", "I", false)
  | _ => ("TypedTermReader$TermTree", "overfull", "Z", false)
def aY9 : Nat → FieldType := fun k => match k with
  | 0 => (.array .int)
  | 1 => (.array .int)
  | 2 => (.array .int)
  | 3 => (.array .int)
  | 4 => (.array .int)
  | 5 => (.object "TypedTermReader$TypePool")
  | 6 => .int
  | _ => .boolean
def aT10 : u_T := fun k => match k with
  | 0 => ("TypedTermReader$ShownTerm", "symbols", "[I", true)
  | 1 => ("TypedTermReader$ShownTerm", "typeStarts", "[I", true)
  | 2 => ("TypedTermReader$ShownTerm", "typeRows", "[I", true)
  | 3 => ("TypedTermReader$ShownTerm", "waiting", "[I", true)
  | _ => ("TypedTermReader$ShownTerm", "count", "I", false)
def aY10 : Nat → FieldType := fun k => match k with
  | 0 => (.array .int)
  | 1 => (.array .int)
  | 2 => (.array .int)
  | 3 => (.array .int)
  | _ => .int
def aT11 : u_T := fun k => match k with
  | 0 => ("TypedTermReaderModel", "code", "I", false)
  | 1 => ("TypedTermReaderModel", "text", "[I", true)
  | 2 => ("TypedTermReaderModel", "fed", "I", false)
  | 3 => ("TypedTermReaderModel", "constants", "I", false)
  | 4 => ("TypedTermReaderModel", "typeNames", "I", false)
  | 5 => ("TypedTermReaderModel", "variables", "I", false)
  | 6 => ("TypedTermReaderModel", "constantName", "[J", true)
  | 7 => ("TypedTermReaderModel", "constantType", "[I", true)
  | 8 => ("TypedTermReaderModel", "operatorConstant", "[I", true)
  | 9 => ("TypedTermReaderModel", "typeName", "[J", true)
  | 10 => ("TypedTermReaderModel", "takes", "[I", true)
  | 11 => ("TypedTermReaderModel", "variableName", "[J", true)
  | 12 => ("TypedTermReaderModel", "kind", "[I", true)
  | 13 => ("TypedTermReaderModel", "first", "[I", true)
  | 14 => ("TypedTermReaderModel", "second", "[I", true)
  | 15 => ("TypedTermReaderModel", "same", "[I", true)
  | 16 => ("TypedTermReaderModel", "nodes", "I", false)
  | 17 => ("TypedTermReaderModel", "fixed", "I", false)
  | 18 => ("TypedTermReaderModel", "symbols", "I", false)
  | 19 => ("TypedTermReaderModel", "symbol", "[I", true)
  | 20 => ("TypedTermReaderModel", "typeAt", "[I", true)
  | 21 => ("TypedTermReaderModel", "typeRow", "[I", true)
  | 22 => ("TypedTermReaderModel", "fault", "I", false)
  | 23 => ("TypedTermReaderModel", "place", "I", false)
  | 24 => ("TypedTermReaderModel", "length", "I", false)
  | 25 => ("TypedTermReaderModel", "at", "I", false)
  | 26 => ("TypedTermReaderModel", "tokens", "I", false)
  | 27 => ("TypedTermReaderModel", "token", "[I", true)
  | 28 => ("TypedTermReaderModel", "from", "[I", true)
  | 29 => ("TypedTermReaderModel", "value", "[I", true)
  | 30 => ("TypedTermReaderModel", "word", "[J", true)
  | 31 => ("TypedTermReaderModel", "now", "I", false)
  | 32 => ("TypedTermReaderModel", "deep", "I", false)
  | 33 => ("TypedTermReaderModel", "written", "I", false)
  | 34 => ("TypedTermReaderModel", "writtenKind", "[I", true)
  | 35 => ("TypedTermReaderModel", "writtenOf", "[I", true)
  | 36 => ("TypedTermReaderModel", "writtenFirst", "[I", true)
  | 37 => ("TypedTermReaderModel", "writtenNext", "[I", true)
  | 38 => ("TypedTermReaderModel", "writtenMany", "[I", true)
  | 39 => ("TypedTermReaderModel", "writtenWide", "[I", true)
  | 40 => ("TypedTermReaderModel", "writtenHigh", "[I", true)
  | 41 => ("TypedTermReaderModel", "parts", "I", false)
  | 42 => ("TypedTermReaderModel", "form", "[I", true)
  | 43 => ("TypedTermReaderModel", "one", "[I", true)
  | 44 => ("TypedTermReaderModel", "two", "[I", true)
  | 45 => ("TypedTermReaderModel", "three", "[I", true)
  | 46 => ("TypedTermReaderModel", "wide", "[I", true)
  | 47 => ("TypedTermReaderModel", "high", "[I", true)
  | 48 => ("TypedTermReaderModel", "waits", "I", false)
  | 49 => ("TypedTermReaderModel", "waiting", "[I", true)
  | 50 => ("TypedTermReaderModel", "leftPart", "[I", true)
  | 51 => ("TypedTermReaderModel", "bound", "I", false)
  | 52 => ("TypedTermReaderModel", "boundToken", "[I", true)
  | 53 => ("TypedTermReaderModel", "boundType", "[I", true)
  | 54 => ("TypedTermReaderModel", "joinOne", "[I", true)
  | 55 => ("TypedTermReaderModel", "joinTwo", "[I", true)
  | 56 => ("TypedTermReaderModel", "general", "[I", true)
  | 57 => ("TypedTermReaderModel", "instead", "[I", true)
  | 58 => ("TypedTermReaderModel", "generals", "I", false)
  | 59 => ("TypedTermReaderModel", "inner", "I", false)
  | 60 => ("TypedTermReaderModel", "innerToken", "[I", true)
  | 61 => ("TypedTermReaderModel", "innerType", "[I", true)
  | 62 => ("TypedTermReaderModel", "made", "I", false)
  | 63 => ("TypedTermReaderModel", "madeSymbol", "[I", true)
  | 64 => ("TypedTermReaderModel", "madeType", "[I", true)
  | 65 => ("TypedTermReaderModel", "state", "[I", true)
  | 66 => ("TypedTermReaderModel", "typeWide", "[I", true)
  | 67 => ("TypedTermReaderModel", "typeHigh", "[I", true)
  | 68 => ("TypedTermReaderModel", "pile", "[I", true)
  | 69 => ("TypedTermReaderModel", "leftOver", "I", false)
  | _ => ("TypedTermReaderModel", "number", "[I", true)
def aY11 : Nat → FieldType := fun k => match k with
  | 0 => .int
  | 1 => (.array .int)
  | 2 => .int
  | 3 => .int
  | 4 => .int
  | 5 => .int
  | 6 => (.array .long)
  | 7 => (.array .int)
  | 8 => (.array .int)
  | 9 => (.array .long)
  | 10 => (.array .int)
  | 11 => (.array .long)
  | 12 => (.array .int)
  | 13 => (.array .int)
  | 14 => (.array .int)
  | 15 => (.array .int)
  | 16 => .int
  | 17 => .int
  | 18 => .int
  | 19 => (.array .int)
  | 20 => (.array .int)
  | 21 => (.array .int)
  | 22 => .int
  | 23 => .int
  | 24 => .int
  | 25 => .int
  | 26 => .int
  | 27 => (.array .int)
  | 28 => (.array .int)
  | 29 => (.array .int)
  | 30 => (.array .long)
  | 31 => .int
  | 32 => .int
  | 33 => .int
  | 34 => (.array .int)
  | 35 => (.array .int)
  | 36 => (.array .int)
  | 37 => (.array .int)
  | 38 => (.array .int)
  | 39 => (.array .int)
  | 40 => (.array .int)
  | 41 => .int
  | 42 => (.array .int)
  | 43 => (.array .int)
  | 44 => (.array .int)
  | 45 => (.array .int)
  | 46 => (.array .int)
  | 47 => (.array .int)
  | 48 => .int
  | 49 => (.array .int)
  | 50 => (.array .int)
  | 51 => .int
  | 52 => (.array .int)
  | 53 => (.array .int)
  | 54 => (.array .int)
  | 55 => (.array .int)
  | 56 => (.array .int)
  | 57 => (.array .int)
  | 58 => .int
  | 59 => .int
  | 60 => (.array .int)
  | 61 => (.array .int)
  | 62 => .int
  | 63 => (.array .int)
  | 64 => (.array .int)
  | 65 => (.array .int)
  | 66 => (.array .int)
  | 67 => (.array .int)
  | 68 => (.array .int)
  | 69 => .int
  | _ => (.array .int)
def aT12 : u_T := fun k => match k with
  | _ => ("", "", "", false)
def aY12 : Nat → FieldType := fun k => match k with
  | _ => .int
def aT13 : u_T := fun k => match k with
  | _ => ("", "", "", false)
def aY13 : Nat → FieldType := fun k => match k with
  | _ => .int
def aCl : List vw_C := [("TypedTermReader", aT0, 7), ("TypedTermReader$Text", aT1, 12), ("TypedTermReader$NameTable", aT2, 5), ("TypedTermReader$TypeTable", aT3, 2), ("TypedTermReader$TypePool", aT4, 12), ("TypedTermReader$ConstantTable", aT5, 7), ("TypedTermReader$TypeReader", aT6, 7), ("TypedTermReader$TermReader", aT7, 10), ("TypedTermReader$Scope", aT8, 4), ("TypedTermReader$TermTree", aT9, 8), ("TypedTermReader$ShownTerm", aT10, 5), ("TypedTermReaderModel", aT11, 71), ("java/lang/IllegalArgumentException", aT12, 0), ("java/lang/IndexOutOfBoundsException", aT13, 0)]
def aFts : List (List Nat) := [[6, 6, 6, 6, 6, 6, 6], [6, 6, 0, 0, 0, 0, 0, 0, 0, 0, 0, 0], [6, 6, 6, 6, 0], [6, 6], [6, 6, 6, 6, 6, 6, 6, 0, 0, 0, 1, 1], [6, 6, 6, 6, 6, 6, 6], [6, 6, 6, 6, 0, 1, 1], [6, 6, 6, 6, 6, 6, 6, 6, 0, 1], [6, 6, 6, 0], [6, 6, 6, 6, 6, 6, 0, 1], [6, 6, 6, 6, 0], [0, 6, 0, 0, 0, 0, 6, 6, 6, 6, 6, 6, 6, 6, 6, 6, 0, 0, 0, 6, 6, 6, 0, 0, 0, 0, 0, 6, 6, 6, 6, 0, 0, 0, 6, 6, 6, 6, 6, 6, 6, 0, 6, 6, 6, 6, 6, 6, 0, 6, 6, 0, 6, 6, 6, 6, 6, 6, 0, 0, 6, 6, 0, 6, 6, 6, 6, 6, 6, 0, 6], [], []]
def aFt (c j : Nat) : Nat := ((aFts.getD c []).getD j 0)
def aW0 : List Cond := [(Jvm.Cond.selects "TypedTermReader$NameTable" ({ cls := "TypedTermReader$NameTable", name := "addWords", desc := "(Ljava/lang/String;)V" } : Jvm.MethodName) ({ cls := "TypedTermReader$NameTable", name := "addWords", desc := "(Ljava/lang/String;)V" } : Jvm.MethodName)), (Jvm.Cond.selects "TypedTermReader$Text" ({ cls := "TypedTermReader$Text", name := "behindBlanks", desc := "(I)I" } : Jvm.MethodName) ({ cls := "TypedTermReader$Text", name := "behindBlanks", desc := "(I)I" } : Jvm.MethodName)), (Jvm.Cond.selects "TypedTermReader$Text" ({ cls := "TypedTermReader$Text", name := "fail", desc := "(II)V" } : Jvm.MethodName) ({ cls := "TypedTermReader$Text", name := "fail", desc := "(II)V" } : Jvm.MethodName)), (Jvm.Cond.selects "TypedTermReader$Text" ({ cls := "TypedTermReader$Text", name := "scan", desc := "(I)V" } : Jvm.MethodName) ({ cls := "TypedTermReader$Text", name := "scan", desc := "(I)V" } : Jvm.MethodName)), (Jvm.Cond.selects "TypedTermReader$Text" ({ cls := "TypedTermReader$Text", name := "scanName", desc := "()V" } : Jvm.MethodName) ({ cls := "TypedTermReader$Text", name := "scanName", desc := "()V" } : Jvm.MethodName)), (Jvm.Cond.selects "TypedTermReader$Text" ({ cls := "TypedTermReader$Text", name := "behindWord", desc := "(I)I" } : Jvm.MethodName) ({ cls := "TypedTermReader$Text", name := "behindWord", desc := "(I)I" } : Jvm.MethodName)), (Jvm.Cond.selects "TypedTermReader$Text" ({ cls := "TypedTermReader$Text", name := "isKeyword", desc := "()Z" } : Jvm.MethodName) ({ cls := "TypedTermReader$Text", name := "isKeyword", desc := "()Z" } : Jvm.MethodName)), (Jvm.Cond.selects "TypedTermReader$Text" ({ cls := "TypedTermReader$Text", name := "scanTypeName", desc := "()V" } : Jvm.MethodName) ({ cls := "TypedTermReader$Text", name := "scanTypeName", desc := "()V" } : Jvm.MethodName)), (Jvm.Cond.selects "TypedTermReader$Text" ({ cls := "TypedTermReader$Text", name := "byteAt", desc := "(I)I" } : Jvm.MethodName) ({ cls := "TypedTermReader$Text", name := "byteAt", desc := "(I)I" } : Jvm.MethodName)), (Jvm.Cond.selects "TypedTermReader$Text" ({ cls := "TypedTermReader$Text", name := "scanNumeral", desc := "()V" } : Jvm.MethodName) ({ cls := "TypedTermReader$Text", name := "scanNumeral", desc := "()V" } : Jvm.MethodName)), (Jvm.Cond.selects "TypedTermReader$Text" ({ cls := "TypedTermReader$Text", name := "scanSign", desc := "(I)V" } : Jvm.MethodName) ({ cls := "TypedTermReader$Text", name := "scanSign", desc := "(I)V" } : Jvm.MethodName)), (Jvm.Cond.selects "TypedTermReader$TypePool" ({ cls := "TypedTermReader$TypePool", name := "measure", desc := "(I)V" } : Jvm.MethodName) ({ cls := "TypedTermReader$TypePool", name := "measure", desc := "(I)V" } : Jvm.MethodName)), (Jvm.Cond.selects "TypedTermReader$TypePool" ({ cls := "TypedTermReader$TypePool", name := "find", desc := "(I)I" } : Jvm.MethodName) ({ cls := "TypedTermReader$TypePool", name := "find", desc := "(I)I" } : Jvm.MethodName)), (Jvm.Cond.selects "TypedTermReader$TermReader" ({ cls := "TypedTermReader$TermReader", name := "read", desc := "(I)I" } : Jvm.MethodName) ({ cls := "TypedTermReader$TermReader", name := "read", desc := "(I)I" } : Jvm.MethodName)), (Jvm.Cond.selects "TypedTermReader$TermReader" ({ cls := "TypedTermReader$TermReader", name := "readOperand", desc := "(I)I" } : Jvm.MethodName) ({ cls := "TypedTermReader$TermReader", name := "readOperand", desc := "(I)I" } : Jvm.MethodName)), (Jvm.Cond.selects "TypedTermReader$TermReader" ({ cls := "TypedTermReader$TermReader", name := "readBinder", desc := "(I)I" } : Jvm.MethodName) ({ cls := "TypedTermReader$TermReader", name := "readBinder", desc := "(I)I" } : Jvm.MethodName)), (Jvm.Cond.selects "TypedTermReader$TermReader" ({ cls := "TypedTermReader$TermReader", name := "readVariable", desc := "(I)V" } : Jvm.MethodName) ({ cls := "TypedTermReader$TermReader", name := "readVariable", desc := "(I)V" } : Jvm.MethodName)), (Jvm.Cond.selects "TypedTermReader$TypeReader" ({ cls := "TypedTermReader$TypeReader", name := "read", desc := "(I)I" } : Jvm.MethodName) ({ cls := "TypedTermReader$TypeReader", name := "read", desc := "(I)I" } : Jvm.MethodName)), (Jvm.Cond.selects "TypedTermReader$TypeReader" ({ cls := "TypedTermReader$TypeReader", name := "readAtom", desc := "(I)I" } : Jvm.MethodName) ({ cls := "TypedTermReader$TypeReader", name := "readAtom", desc := "(I)I" } : Jvm.MethodName)), (Jvm.Cond.selects "TypedTermReader$TypeReader" ({ cls := "TypedTermReader$TypeReader", name := "readNamed", desc := "(I)I" } : Jvm.MethodName) ({ cls := "TypedTermReader$TypeReader", name := "readNamed", desc := "(I)I" } : Jvm.MethodName)), (Jvm.Cond.selects "TypedTermReader$TypeReader" ({ cls := "TypedTermReader$TypeReader", name := "readLoneName", desc := "()I" } : Jvm.MethodName) ({ cls := "TypedTermReader$TypeReader", name := "readLoneName", desc := "()I" } : Jvm.MethodName)), (Jvm.Cond.selects "TypedTermReader$TypeReader" ({ cls := "TypedTermReader$TypeReader", name := "readPart", desc := "(I)I" } : Jvm.MethodName) ({ cls := "TypedTermReader$TypeReader", name := "readPart", desc := "(I)I" } : Jvm.MethodName)), (Jvm.Cond.selects "TypedTermReader$TypeReader" ({ cls := "TypedTermReader$TypeReader", name := "readInside", desc := "(I)I" } : Jvm.MethodName) ({ cls := "TypedTermReader$TypeReader", name := "readInside", desc := "(I)I" } : Jvm.MethodName)), (Jvm.Cond.selects "TypedTermReader$TypeReader" ({ cls := "TypedTermReader$TypeReader", name := "putAside", desc := "(I)V" } : Jvm.MethodName) ({ cls := "TypedTermReader$TypeReader", name := "putAside", desc := "(I)V" } : Jvm.MethodName)), (Jvm.Cond.selects "TypedTermReader$TermReader" ({ cls := "TypedTermReader$TermReader", name := "bind", desc := "(III)I" } : Jvm.MethodName) ({ cls := "TypedTermReader$TermReader", name := "bind", desc := "(III)I" } : Jvm.MethodName)), (Jvm.Cond.selects "TypedTermReader$TermTree" ({ cls := "TypedTermReader$TermTree", name := "add", desc := "(IIII)I" } : Jvm.MethodName) ({ cls := "TypedTermReader$TermTree", name := "add", desc := "(IIII)I" } : Jvm.MethodName)), (Jvm.Cond.selects "TypedTermReader$TermReader" ({ cls := "TypedTermReader$TermReader", name := "constantLeaf", desc := "(I)I" } : Jvm.MethodName) ({ cls := "TypedTermReader$TermReader", name := "constantLeaf", desc := "(I)I" } : Jvm.MethodName)), (Jvm.Cond.selects "TypedTermReader$TermReader" ({ cls := "TypedTermReader$TermReader", name := "constantLeaf", desc := "(II)I" } : Jvm.MethodName) ({ cls := "TypedTermReader$TermReader", name := "constantLeaf", desc := "(II)I" } : Jvm.MethodName)), (Jvm.Cond.selects "TypedTermReader$ConstantTable" ({ cls := "TypedTermReader$ConstantTable", name := "variable", desc := "(III)I" } : Jvm.MethodName) ({ cls := "TypedTermReader$ConstantTable", name := "variable", desc := "(III)I" } : Jvm.MethodName)), (Jvm.Cond.selects "TypedTermReader$TypePool" ({ cls := "TypedTermReader$TypePool", name := "join", desc := "(II)V" } : Jvm.MethodName) ({ cls := "TypedTermReader$TypePool", name := "join", desc := "(II)V" } : Jvm.MethodName)), (Jvm.Cond.selects "TypedTermReader$TypePool" ({ cls := "TypedTermReader$TypePool", name := "joinParts", desc := "(II)V" } : Jvm.MethodName) ({ cls := "TypedTermReader$TypePool", name := "joinParts", desc := "(II)V" } : Jvm.MethodName)), (Jvm.Cond.selects "TypedTermReader$TermReader" ({ cls := "TypedTermReader$TermReader", name := "readApplications", desc := "(I)I" } : Jvm.MethodName) ({ cls := "TypedTermReader$TermReader", name := "readApplications", desc := "(I)I" } : Jvm.MethodName))]
def aW1 : List Cond := [(Jvm.Cond.selects "TypedTermReader$TermReader" ({ cls := "TypedTermReader$TermReader", name := "readAtom", desc := "(I)I" } : Jvm.MethodName) ({ cls := "TypedTermReader$TermReader", name := "readAtom", desc := "(I)I" } : Jvm.MethodName)), (Jvm.Cond.selects "TypedTermReader$TermReader" ({ cls := "TypedTermReader$TermReader", name := "readInside", desc := "(I)I" } : Jvm.MethodName) ({ cls := "TypedTermReader$TermReader", name := "readInside", desc := "(I)I" } : Jvm.MethodName)), (Jvm.Cond.selects "TypedTermReader$TermReader" ({ cls := "TypedTermReader$TermReader", name := "isLoneSign", desc := "()Z" } : Jvm.MethodName) ({ cls := "TypedTermReader$TermReader", name := "isLoneSign", desc := "()Z" } : Jvm.MethodName)), (Jvm.Cond.selects "TypedTermReader$TermReader" ({ cls := "TypedTermReader$TermReader", name := "constantOfToken", desc := "()I" } : Jvm.MethodName) ({ cls := "TypedTermReader$TermReader", name := "constantOfToken", desc := "()I" } : Jvm.MethodName)), (Jvm.Cond.selects "TypedTermReader$TermReader" ({ cls := "TypedTermReader$TermReader", name := "numeral", desc := "(I)I" } : Jvm.MethodName) ({ cls := "TypedTermReader$TermReader", name := "numeral", desc := "(I)I" } : Jvm.MethodName)), (Jvm.Cond.selects "TypedTermReader$TermReader" ({ cls := "TypedTermReader$TermReader", name := "nameOfToken", desc := "()I" } : Jvm.MethodName) ({ cls := "TypedTermReader$TermReader", name := "nameOfToken", desc := "()I" } : Jvm.MethodName)), (Jvm.Cond.selects "TypedTermReader$TermReader" ({ cls := "TypedTermReader$TermReader", name := "applyStronger", desc := "(III)I" } : Jvm.MethodName) ({ cls := "TypedTermReader$TermReader", name := "applyStronger", desc := "(III)I" } : Jvm.MethodName)), (Jvm.Cond.selects "TypedTermReader$TermReader" ({ cls := "TypedTermReader$TermReader", name := "putAside", desc := "(II)V" } : Jvm.MethodName) ({ cls := "TypedTermReader$TermReader", name := "putAside", desc := "(II)V" } : Jvm.MethodName)), (Jvm.Cond.selects "TypedTermReader$TypePool" ({ cls := "TypedTermReader$TypePool", name := "measureWithParts", desc := "(I)Z" } : Jvm.MethodName) ({ cls := "TypedTermReader$TypePool", name := "measureWithParts", desc := "(I)Z" } : Jvm.MethodName)), (Jvm.Cond.selects "TypedTermReader$TypePool" ({ cls := "TypedTermReader$TypePool", name := "unmeasuredPart", desc := "(I)I" } : Jvm.MethodName) ({ cls := "TypedTermReader$TypePool", name := "unmeasuredPart", desc := "(I)I" } : Jvm.MethodName)), (Jvm.Cond.selects "TypedTermReader$TypePool" ({ cls := "TypedTermReader$TypePool", name := "codeOf", desc := "(I)I" } : Jvm.MethodName) ({ cls := "TypedTermReader$TypePool", name := "codeOf", desc := "(I)I" } : Jvm.MethodName)), (Jvm.Cond.selects "TypedTermReader$TypePool" ({ cls := "TypedTermReader$TypePool", name := "putAside", desc := "(II)I" } : Jvm.MethodName) ({ cls := "TypedTermReader$TypePool", name := "putAside", desc := "(II)I" } : Jvm.MethodName)), (Jvm.Cond.selects "TypedTermReader$ShownTerm" ({ cls := "TypedTermReader$ShownTerm", name := "putAside", desc := "(II)I" } : Jvm.MethodName) ({ cls := "TypedTermReader$ShownTerm", name := "putAside", desc := "(II)I" } : Jvm.MethodName)), (Jvm.Cond.selects "TypedTermReader" ({ cls := "TypedTermReader", name := "declareConstant", desc := "()I" } : Jvm.MethodName) ({ cls := "TypedTermReader", name := "declareConstant", desc := "()I" } : Jvm.MethodName)), (Jvm.Cond.selects "TypedTermReader" ({ cls := "TypedTermReader", name := "faultOfConstant", desc := "(II)I" } : Jvm.MethodName) ({ cls := "TypedTermReader", name := "faultOfConstant", desc := "(II)I" } : Jvm.MethodName)), (Jvm.Cond.selects "TypedTermReader" ({ cls := "TypedTermReader", name := "declareType", desc := "()I" } : Jvm.MethodName) ({ cls := "TypedTermReader", name := "declareType", desc := "()I" } : Jvm.MethodName)), (Jvm.Cond.selects "TypedTermReader" ({ cls := "TypedTermReader", name := "faultOfType", desc := "(II)I" } : Jvm.MethodName) ({ cls := "TypedTermReader", name := "faultOfType", desc := "(II)I" } : Jvm.MethodName)), (Jvm.Cond.selects "TypedTermReaderModel" ({ cls := "TypedTermReaderModel", name := "node", desc := "(III)I" } : Jvm.MethodName) ({ cls := "TypedTermReaderModel", name := "node", desc := "(III)I" } : Jvm.MethodName)), (Jvm.Cond.selects "TypedTermReaderModel" ({ cls := "TypedTermReaderModel", name := "function", desc := "(II)I" } : Jvm.MethodName) ({ cls := "TypedTermReaderModel", name := "function", desc := "(II)I" } : Jvm.MethodName)), (Jvm.Cond.selects "TypedTermReaderModel" ({ cls := "TypedTermReaderModel", name := "takes", desc := "(I)Z" } : Jvm.MethodName) ({ cls := "TypedTermReaderModel", name := "takes", desc := "(I)Z" } : Jvm.MethodName)), (Jvm.Cond.selects "TypedTermReaderModel" ({ cls := "TypedTermReaderModel", name := "begin", desc := "(I)V" } : Jvm.MethodName) ({ cls := "TypedTermReaderModel", name := "begin", desc := "(I)V" } : Jvm.MethodName)), (Jvm.Cond.selects "TypedTermReaderModel" ({ cls := "TypedTermReaderModel", name := "readTerm", desc := "()I" } : Jvm.MethodName) ({ cls := "TypedTermReaderModel", name := "readTerm", desc := "()I" } : Jvm.MethodName)), (Jvm.Cond.selects "TypedTermReaderModel" ({ cls := "TypedTermReaderModel", name := "readOperand", desc := "()I" } : Jvm.MethodName) ({ cls := "TypedTermReaderModel", name := "readOperand", desc := "()I" } : Jvm.MethodName)), (Jvm.Cond.selects "TypedTermReaderModel" ({ cls := "TypedTermReaderModel", name := "look", desc := "(I)I" } : Jvm.MethodName) ({ cls := "TypedTermReaderModel", name := "look", desc := "(I)I" } : Jvm.MethodName)), (Jvm.Cond.selects "TypedTermReaderModel" ({ cls := "TypedTermReaderModel", name := "scan", desc := "()V" } : Jvm.MethodName) ({ cls := "TypedTermReaderModel", name := "scan", desc := "()V" } : Jvm.MethodName)), (Jvm.Cond.selects "TypedTermReaderModel" ({ cls := "TypedTermReaderModel", name := "behindBlanks", desc := "(I)I" } : Jvm.MethodName) ({ cls := "TypedTermReaderModel", name := "behindBlanks", desc := "(I)I" } : Jvm.MethodName)), (Jvm.Cond.selects "TypedTermReaderModel" ({ cls := "TypedTermReaderModel", name := "byteAt", desc := "(I)I" } : Jvm.MethodName) ({ cls := "TypedTermReaderModel", name := "byteAt", desc := "(I)I" } : Jvm.MethodName)), (Jvm.Cond.selects "TypedTermReaderModel" ({ cls := "TypedTermReaderModel", name := "die", desc := "(II)V" } : Jvm.MethodName) ({ cls := "TypedTermReaderModel", name := "die", desc := "(II)V" } : Jvm.MethodName)), (Jvm.Cond.selects "TypedTermReaderModel" ({ cls := "TypedTermReaderModel", name := "scanWord", desc := "(I)V" } : Jvm.MethodName) ({ cls := "TypedTermReaderModel", name := "scanWord", desc := "(I)V" } : Jvm.MethodName)), (Jvm.Cond.selects "TypedTermReaderModel" ({ cls := "TypedTermReaderModel", name := "isNext", desc := "(ILjava/lang/String;)Z" } : Jvm.MethodName) ({ cls := "TypedTermReaderModel", name := "isNext", desc := "(ILjava/lang/String;)Z" } : Jvm.MethodName)), (Jvm.Cond.selects "TypedTermReaderModel" ({ cls := "TypedTermReaderModel", name := "sign", desc := "(II)V" } : Jvm.MethodName) ({ cls := "TypedTermReaderModel", name := "sign", desc := "(II)V" } : Jvm.MethodName)), (Jvm.Cond.selects "TypedTermReaderModel" ({ cls := "TypedTermReaderModel", name := "scanNumeral", desc := "()V" } : Jvm.MethodName) ({ cls := "TypedTermReaderModel", name := "scanNumeral", desc := "()V" } : Jvm.MethodName))]
def aW2 : List Cond := [(Jvm.Cond.selects "TypedTermReaderModel" ({ cls := "TypedTermReaderModel", name := "scanSign", desc := "(I)V" } : Jvm.MethodName) ({ cls := "TypedTermReaderModel", name := "scanSign", desc := "(I)V" } : Jvm.MethodName)), (Jvm.Cond.selects "TypedTermReaderModel" ({ cls := "TypedTermReaderModel", name := "readBinder", desc := "(I)I" } : Jvm.MethodName) ({ cls := "TypedTermReaderModel", name := "readBinder", desc := "(I)I" } : Jvm.MethodName)), (Jvm.Cond.selects "TypedTermReaderModel" ({ cls := "TypedTermReaderModel", name := "enter", desc := "()V" } : Jvm.MethodName) ({ cls := "TypedTermReaderModel", name := "enter", desc := "()V" } : Jvm.MethodName)), (Jvm.Cond.selects "TypedTermReaderModel" ({ cls := "TypedTermReaderModel", name := "readVariable", desc := "()V" } : Jvm.MethodName) ({ cls := "TypedTermReaderModel", name := "readVariable", desc := "()V" } : Jvm.MethodName)), (Jvm.Cond.selects "TypedTermReaderModel" ({ cls := "TypedTermReaderModel", name := "need", desc := "(I)V" } : Jvm.MethodName) ({ cls := "TypedTermReaderModel", name := "need", desc := "(I)V" } : Jvm.MethodName)), (Jvm.Cond.selects "TypedTermReaderModel" ({ cls := "TypedTermReaderModel", name := "readType", desc := "()I" } : Jvm.MethodName) ({ cls := "TypedTermReaderModel", name := "readType", desc := "()I" } : Jvm.MethodName)), (Jvm.Cond.selects "TypedTermReaderModel" ({ cls := "TypedTermReaderModel", name := "readTypeAtom", desc := "()I" } : Jvm.MethodName) ({ cls := "TypedTermReaderModel", name := "readTypeAtom", desc := "()I" } : Jvm.MethodName)), (Jvm.Cond.selects "TypedTermReaderModel" ({ cls := "TypedTermReaderModel", name := "readInParentheses", desc := "()I" } : Jvm.MethodName) ({ cls := "TypedTermReaderModel", name := "readInParentheses", desc := "()I" } : Jvm.MethodName)), (Jvm.Cond.selects "TypedTermReaderModel" ({ cls := "TypedTermReaderModel", name := "written", desc := "(II)I" } : Jvm.MethodName) ({ cls := "TypedTermReaderModel", name := "written", desc := "(II)I" } : Jvm.MethodName)), (Jvm.Cond.selects "TypedTermReaderModel" ({ cls := "TypedTermReaderModel", name := "takesBefore", desc := "(II)V" } : Jvm.MethodName) ({ cls := "TypedTermReaderModel", name := "takesBefore", desc := "(II)V" } : Jvm.MethodName)), (Jvm.Cond.selects "TypedTermReaderModel" ({ cls := "TypedTermReaderModel", name := "part", desc := "(IIIIII)I" } : Jvm.MethodName) ({ cls := "TypedTermReaderModel", name := "part", desc := "(IIIIII)I" } : Jvm.MethodName)), (Jvm.Cond.selects "TypedTermReaderModel" ({ cls := "TypedTermReaderModel", name := "constantPart", desc := "(IZ)I" } : Jvm.MethodName) ({ cls := "TypedTermReaderModel", name := "constantPart", desc := "(IZ)I" } : Jvm.MethodName)), (Jvm.Cond.selects "TypedTermReaderModel" ({ cls := "TypedTermReaderModel", name := "applied", desc := "(II)I" } : Jvm.MethodName) ({ cls := "TypedTermReaderModel", name := "applied", desc := "(II)I" } : Jvm.MethodName)), (Jvm.Cond.selects "TypedTermReaderModel" ({ cls := "TypedTermReaderModel", name := "readAtoms", desc := "()I" } : Jvm.MethodName) ({ cls := "TypedTermReaderModel", name := "readAtoms", desc := "()I" } : Jvm.MethodName)), (Jvm.Cond.selects "TypedTermReaderModel" ({ cls := "TypedTermReaderModel", name := "readAtom", desc := "()I" } : Jvm.MethodName) ({ cls := "TypedTermReaderModel", name := "readAtom", desc := "()I" } : Jvm.MethodName)), (Jvm.Cond.selects "TypedTermReaderModel" ({ cls := "TypedTermReaderModel", name := "readOpen", desc := "()I" } : Jvm.MethodName) ({ cls := "TypedTermReaderModel", name := "readOpen", desc := "()I" } : Jvm.MethodName)), (Jvm.Cond.selects "TypedTermReaderModel" ({ cls := "TypedTermReaderModel", name := "settled", desc := "(III)I" } : Jvm.MethodName) ({ cls := "TypedTermReaderModel", name := "settled", desc := "(III)I" } : Jvm.MethodName)), (Jvm.Cond.selects "TypedTermReaderModel" ({ cls := "TypedTermReaderModel", name := "measure", desc := "(I)V" } : Jvm.MethodName) ({ cls := "TypedTermReaderModel", name := "measure", desc := "(I)V" } : Jvm.MethodName)), (Jvm.Cond.selects "TypedTermReaderModel" ({ cls := "TypedTermReaderModel", name := "areNamed", desc := "(I)Z" } : Jvm.MethodName) ({ cls := "TypedTermReaderModel", name := "areNamed", desc := "(I)Z" } : Jvm.MethodName)), (Jvm.Cond.selects "TypedTermReaderModel" ({ cls := "TypedTermReaderModel", name := "boundAt", desc := "(I)I" } : Jvm.MethodName) ({ cls := "TypedTermReaderModel", name := "boundAt", desc := "(I)I" } : Jvm.MethodName)), (Jvm.Cond.selects "TypedTermReaderModel" ({ cls := "TypedTermReaderModel", name := "constantOf", desc := "(I)I" } : Jvm.MethodName) ({ cls := "TypedTermReaderModel", name := "constantOf", desc := "(I)I" } : Jvm.MethodName)), (Jvm.Cond.selects "TypedTermReaderModel" ({ cls := "TypedTermReaderModel", name := "make", desc := "(I)I" } : Jvm.MethodName) ({ cls := "TypedTermReaderModel", name := "make", desc := "(I)I" } : Jvm.MethodName)), (Jvm.Cond.selects "TypedTermReaderModel" ({ cls := "TypedTermReaderModel", name := "make", desc := "(II)I" } : Jvm.MethodName) ({ cls := "TypedTermReaderModel", name := "make", desc := "(II)I" } : Jvm.MethodName)), (Jvm.Cond.selects "TypedTermReaderModel" ({ cls := "TypedTermReaderModel", name := "use", desc := "(I)I" } : Jvm.MethodName) ({ cls := "TypedTermReaderModel", name := "use", desc := "(I)I" } : Jvm.MethodName)), (Jvm.Cond.selects "TypedTermReaderModel" ({ cls := "TypedTermReaderModel", name := "copy", desc := "(I)I" } : Jvm.MethodName) ({ cls := "TypedTermReaderModel", name := "copy", desc := "(I)I" } : Jvm.MethodName)), (Jvm.Cond.selects "TypedTermReaderModel" ({ cls := "TypedTermReaderModel", name := "unknown", desc := "()I" } : Jvm.MethodName) ({ cls := "TypedTermReaderModel", name := "unknown", desc := "()I" } : Jvm.MethodName)), (Jvm.Cond.selects "TypedTermReaderModel" ({ cls := "TypedTermReaderModel", name := "makeConstant", desc := "(I)I" } : Jvm.MethodName) ({ cls := "TypedTermReaderModel", name := "makeConstant", desc := "(I)I" } : Jvm.MethodName)), (Jvm.Cond.selects "TypedTermReaderModel" ({ cls := "TypedTermReaderModel", name := "join", desc := "(II)V" } : Jvm.MethodName) ({ cls := "TypedTermReaderModel", name := "join", desc := "(II)V" } : Jvm.MethodName)), (Jvm.Cond.selects "TypedTermReaderModel" ({ cls := "TypedTermReaderModel", name := "last", desc := "(I)I" } : Jvm.MethodName) ({ cls := "TypedTermReaderModel", name := "last", desc := "(I)I" } : Jvm.MethodName)), (Jvm.Cond.selects "TypedTermReaderModel" ({ cls := "TypedTermReaderModel", name := "makeNumeral", desc := "(I)I" } : Jvm.MethodName) ({ cls := "TypedTermReaderModel", name := "makeNumeral", desc := "(I)I" } : Jvm.MethodName)), (Jvm.Cond.selects "TypedTermReaderModel" ({ cls := "TypedTermReaderModel", name := "makeAbstraction", desc := "(I)I" } : Jvm.MethodName) ({ cls := "TypedTermReaderModel", name := "makeAbstraction", desc := "(I)I" } : Jvm.MethodName)), (Jvm.Cond.selects "TypedTermReaderModel" ({ cls := "TypedTermReaderModel", name := "meant", desc := "(I)I" } : Jvm.MethodName) ({ cls := "TypedTermReaderModel", name := "meant", desc := "(I)I" } : Jvm.MethodName))]
def aW3 : List Cond := [(Jvm.Cond.selects "TypedTermReaderModel" ({ cls := "TypedTermReaderModel", name := "weighAll", desc := "()V" } : Jvm.MethodName) ({ cls := "TypedTermReaderModel", name := "weighAll", desc := "()V" } : Jvm.MethodName)), (Jvm.Cond.selects "TypedTermReaderModel" ({ cls := "TypedTermReaderModel", name := "weigh", desc := "(I)V" } : Jvm.MethodName) ({ cls := "TypedTermReaderModel", name := "weigh", desc := "(I)V" } : Jvm.MethodName)), (Jvm.Cond.selects "TypedTermReaderModel" ({ cls := "TypedTermReaderModel", name := "keepTerm", desc := "()V" } : Jvm.MethodName) ({ cls := "TypedTermReaderModel", name := "keepTerm", desc := "()V" } : Jvm.MethodName)), (Jvm.Cond.selects "TypedTermReaderModel" ({ cls := "TypedTermReaderModel", name := "writeRow", desc := "(II)I" } : Jvm.MethodName) ({ cls := "TypedTermReaderModel", name := "writeRow", desc := "(II)I" } : Jvm.MethodName)), (Jvm.Cond.initialized "TypedTermReaderLaw"), (Jvm.Cond.initialized "TypedTermReader"), (Jvm.Cond.initialized "TypedTermReader$Text"), (Jvm.Cond.initialized "TypedTermReader$NameTable"), (Jvm.Cond.initialized "TypedTermReader$TypeTable"), (Jvm.Cond.initialized "TypedTermReader$TypePool"), (Jvm.Cond.initialized "TypedTermReader$ConstantTable"), (Jvm.Cond.initialized "TypedTermReader$TypeReader"), (Jvm.Cond.initialized "TypedTermReader$TermReader"), (Jvm.Cond.initialized "TypedTermReader$Scope"), (Jvm.Cond.initialized "TypedTermReader$TermTree"), (Jvm.Cond.initialized "TypedTermReader$ShownTerm"), (Jvm.Cond.initialized "TypedTermReaderModel"), (Jvm.Cond.classLink "TypedTermReaderLaw" (8 : Nat) "TypedTermReader"), (Jvm.Cond.instantiable "TypedTermReader" (7 : Nat)), (Jvm.Cond.methodLink "TypedTermReaderLaw" (30 : Nat) ({ cls := "TypedTermReader", name := "<init>", desc := "()V" } : Jvm.MethodName)), (Jvm.Cond.instanceMethod ({ cls := "TypedTermReader", name := "<init>", desc := "()V" } : Jvm.MethodName)), (Jvm.Cond.methodLink "TypedTermReader" (3 : Nat) ({ cls := "java/lang/Object", name := "<init>", desc := "()V" } : Jvm.MethodName)), (Jvm.Cond.classLink "TypedTermReader" (9 : Nat) "TypedTermReader$Text"), (Jvm.Cond.instantiable "TypedTermReader$Text" (12 : Nat)), (Jvm.Cond.methodLinkNest "TypedTermReader" (11 : Nat) ({ cls := "TypedTermReader$Text", name := "<init>", desc := "()V" } : Jvm.MethodName) "TypedTermReader"), (Jvm.Cond.instanceMethod ({ cls := "TypedTermReader$Text", name := "<init>", desc := "()V" } : Jvm.MethodName)), (Jvm.Cond.methodLink "TypedTermReader$Text" (3 : Nat) ({ cls := "java/lang/Object", name := "<init>", desc := "()V" } : Jvm.MethodName)), (Jvm.Cond.classLink "TypedTermReader$Text" (15 : Nat) "TypedTermReader$NameTable"), (Jvm.Cond.instantiable "TypedTermReader$NameTable" (5 : Nat)), (Jvm.Cond.methodLink "TypedTermReader$Text" (19 : Nat) ({ cls := "TypedTermReader$NameTable", name := "<init>", desc := "(IILjava/lang/String;)V" } : Jvm.MethodName)), (Jvm.Cond.instanceMethod ({ cls := "TypedTermReader$NameTable", name := "<init>", desc := "(IILjava/lang/String;)V" } : Jvm.MethodName)), (Jvm.Cond.methodLink "TypedTermReader$NameTable" (1 : Nat) ({ cls := "java/lang/Object", name := "<init>", desc := "()V" } : Jvm.MethodName))]
def aW4 : List Cond := [(Jvm.Cond.methodLink "TypedTermReader$NameTable" (23 : Nat) ({ cls := "TypedTermReader$NameTable", name := "addWords", desc := "(Ljava/lang/String;)V" } : Jvm.MethodName)), (Jvm.Cond.instanceMethod ({ cls := "TypedTermReader$NameTable", name := "addWords", desc := "(Ljava/lang/String;)V" } : Jvm.MethodName)), (Jvm.Cond.methodLink "TypedTermReader$NameTable" (37 : Nat) ({ cls := "TypedTermReader$NameTable", name := "add", desc := "([BII)I" } : Jvm.MethodName)), (Jvm.Cond.instanceMethod ({ cls := "TypedTermReader$NameTable", name := "add", desc := "([BII)I" } : Jvm.MethodName)), (Jvm.Cond.selects "TypedTermReader$NameTable" ({ cls := "TypedTermReader$NameTable", name := "add", desc := "([BII)I" } : Jvm.MethodName) ({ cls := "TypedTermReader$NameTable", name := "add", desc := "([BII)I" } : Jvm.MethodName)), (Jvm.Cond.methodLink "TypedTermReader$NameTable" (41 : Nat) ({ cls := "TypedTermReader$NameTable", name := "bucketOf", desc := "([BII)I" } : Jvm.MethodName)), (Jvm.Cond.static ({ cls := "TypedTermReader$NameTable", name := "bucketOf", desc := "([BII)I" } : Jvm.MethodName)), (Jvm.Cond.fieldLink "TypedTermReader$NameTable" (13 : Nat) "TypedTermReader$NameTable" "letters" "[B"), (Jvm.Cond.fieldLink "TypedTermReader$NameTable" (17 : Nat) "TypedTermReader$NameTable" "starts" "[I"), (Jvm.Cond.fieldLink "TypedTermReader$NameTable" (20 : Nat) "TypedTermReader$NameTable" "nextInBucket" "[I"), (Jvm.Cond.fieldLink "TypedTermReader$NameTable" (9 : Nat) "TypedTermReader$NameTable" "firstInBucket" "[I"), (Jvm.Cond.fieldLink "TypedTermReader$ConstantTable" (43 : Nat) "TypedTermReader$NameTable" "count" "I"), (Jvm.Cond.fieldLink "TypedTermReader$NameTable" (44 : Nat) "TypedTermReader$NameTable" "count" "I"), (Jvm.Cond.fieldLink "TypedTermReader" (199 : Nat) "TypedTermReader$NameTable" "count" "I"), (Jvm.Cond.arrayClass Jvm.ClassFile.FieldType.byte), (Jvm.Cond.arrayClass Jvm.ClassFile.FieldType.int), (Jvm.Cond.fieldLink "TypedTermReader$Text" (9 : Nat) "TypedTermReader$Text" "bytes" "[B"), (Jvm.Cond.fieldLink "TypedTermReader$Scope" (33 : Nat) "TypedTermReader$Text" "bytes" "[B"), (Jvm.Cond.fieldLink "TypedTermReader$TypeReader" (82 : Nat) "TypedTermReader$Text" "bytes" "[B"), (Jvm.Cond.fieldLink "TypedTermReader" (181 : Nat) "TypedTermReader$Text" "bytes" "[B"), (Jvm.Cond.fieldLink "TypedTermReader$TermReader" (193 : Nat) "TypedTermReader$Text" "bytes" "[B"), (Jvm.Cond.fieldLink "TypedTermReader$Text" (22 : Nat) "TypedTermReader$Text" "typeNames" "LTypedTermReader$NameTable;"), (Jvm.Cond.fieldLink "TypedTermReader$Text" (33 : Nat) "TypedTermReader$Text" "fed" "I"), (Jvm.Cond.fieldLink "TypedTermReader$Text" (36 : Nat) "TypedTermReader$Text" "length" "I"), (Jvm.Cond.fieldLink "TypedTermReader$Text" (39 : Nat) "TypedTermReader$Text" "tokens" "I"), (Jvm.Cond.fieldLink "TypedTermReader$Text" (51 : Nat) "TypedTermReader$Text" "firstStart" "I"), (Jvm.Cond.fieldLink "TypedTermReader$TypeReader" (54 : Nat) "TypedTermReader$Text" "kind" "I"), (Jvm.Cond.fieldLink "TypedTermReader$TermReader" (103 : Nat) "TypedTermReader$Text" "kind" "I"), (Jvm.Cond.fieldLink "TypedTermReader$Text" (62 : Nat) "TypedTermReader$Text" "kind" "I"), (Jvm.Cond.fieldLink "TypedTermReader" (156 : Nat) "TypedTermReader$Text" "kind" "I"), (Jvm.Cond.fieldLink "TypedTermReader$Scope" (30 : Nat) "TypedTermReader$Text" "start" "I"), (Jvm.Cond.fieldLink "TypedTermReader$Text" (48 : Nat) "TypedTermReader$Text" "start" "I")]
def aW5 : List Cond := [(Jvm.Cond.fieldLink "TypedTermReader$TypeReader" (86 : Nat) "TypedTermReader$Text" "start" "I"), (Jvm.Cond.fieldLink "TypedTermReader" (150 : Nat) "TypedTermReader$Text" "start" "I"), (Jvm.Cond.fieldLink "TypedTermReader$TermReader" (197 : Nat) "TypedTermReader$Text" "start" "I"), (Jvm.Cond.fieldLink "TypedTermReader$Scope" (25 : Nat) "TypedTermReader$Text" "end" "I"), (Jvm.Cond.fieldLink "TypedTermReader$Text" (42 : Nat) "TypedTermReader$Text" "end" "I"), (Jvm.Cond.fieldLink "TypedTermReader$TypeReader" (89 : Nat) "TypedTermReader$Text" "end" "I"), (Jvm.Cond.fieldLink "TypedTermReader" (153 : Nat) "TypedTermReader$Text" "end" "I"), (Jvm.Cond.fieldLink "TypedTermReader$TermReader" (200 : Nat) "TypedTermReader$Text" "end" "I"), (Jvm.Cond.fieldLink "TypedTermReader$TypeReader" (133 : Nat) "TypedTermReader$Text" "value" "I"), (Jvm.Cond.fieldLink "TypedTermReader$TermReader" (157 : Nat) "TypedTermReader$Text" "value" "I"), (Jvm.Cond.fieldLink "TypedTermReader$Text" (111 : Nat) "TypedTermReader$Text" "value" "I"), (Jvm.Cond.fieldLink "TypedTermReader$Text" (26 : Nat) "TypedTermReader$Text" "fault" "I"), (Jvm.Cond.fieldLink "TypedTermReader" (122 : Nat) "TypedTermReader$Text" "fault" "I"), (Jvm.Cond.fieldLink "TypedTermReader$Text" (30 : Nat) "TypedTermReader$Text" "place" "I"), (Jvm.Cond.fieldLink "TypedTermReader" (125 : Nat) "TypedTermReader$Text" "place" "I"), (Jvm.Cond.classLink "TypedTermReader" (16 : Nat) "TypedTermReader$TypeTable"), (Jvm.Cond.instantiable "TypedTermReader$TypeTable" (2 : Nat)), (Jvm.Cond.methodLink "TypedTermReader" (18 : Nat) ({ cls := "TypedTermReader$TypeTable", name := "<init>", desc := "()V" } : Jvm.MethodName)), (Jvm.Cond.instanceMethod ({ cls := "TypedTermReader$TypeTable", name := "<init>", desc := "()V" } : Jvm.MethodName)), (Jvm.Cond.methodLink "TypedTermReader$TypeTable" (3 : Nat) ({ cls := "java/lang/Object", name := "<init>", desc := "()V" } : Jvm.MethodName)), (Jvm.Cond.classLink "TypedTermReader$TypeTable" (9 : Nat) "TypedTermReader$NameTable"), (Jvm.Cond.methodLink "TypedTermReader$TypeTable" (13 : Nat) ({ cls := "TypedTermReader$NameTable", name := "<init>", desc := "(IILjava/lang/String;)V" } : Jvm.MethodName)), (Jvm.Cond.fieldLink "TypedTermReader$TypeTable" (16 : Nat) "TypedTermReader$TypeTable" "names" "LTypedTermReader$NameTable;"), (Jvm.Cond.fieldLink "TypedTermReader$TypeReader" (76 : Nat) "TypedTermReader$TypeTable" "names" "LTypedTermReader$NameTable;"), (Jvm.Cond.fieldLink "TypedTermReader" (213 : Nat) "TypedTermReader$TypeTable" "names" "LTypedTermReader$NameTable;"), (Jvm.Cond.fieldLink "TypedTermReader$TypeTable" (22 : Nat) "TypedTermReader$TypeTable" "taken" "[I"), (Jvm.Cond.classLink "TypedTermReader" (23 : Nat) "TypedTermReader$TypePool"), (Jvm.Cond.instantiable "TypedTermReader$TypePool" (12 : Nat)), (Jvm.Cond.methodLinkNest "TypedTermReader" (25 : Nat) ({ cls := "TypedTermReader$TypePool", name := "<init>", desc := "()V" } : Jvm.MethodName) "TypedTermReader"), (Jvm.Cond.instanceMethod ({ cls := "TypedTermReader$TypePool", name := "<init>", desc := "()V" } : Jvm.MethodName)), (Jvm.Cond.methodLink "TypedTermReader$TypePool" (3 : Nat) ({ cls := "java/lang/Object", name := "<init>", desc := "()V" } : Jvm.MethodName)), (Jvm.Cond.fieldLink "TypedTermReader$TypePool" (9 : Nat) "TypedTermReader$TypePool" "codes" "[I")]
def aW6 : List Cond := [(Jvm.Cond.fieldLink "TypedTermReader$TypePool" (15 : Nat) "TypedTermReader$TypePool" "first" "[I"), (Jvm.Cond.fieldLink "TypedTermReader$TypePool" (18 : Nat) "TypedTermReader$TypePool" "second" "[I"), (Jvm.Cond.fieldLink "TypedTermReader$TypePool" (21 : Nat) "TypedTermReader$TypePool" "parents" "[I"), (Jvm.Cond.fieldLink "TypedTermReader$TypePool" (24 : Nat) "TypedTermReader$TypePool" "sizes" "[I"), (Jvm.Cond.fieldLink "TypedTermReader$TypePool" (27 : Nat) "TypedTermReader$TypePool" "heights" "[I"), (Jvm.Cond.fieldLink "TypedTermReader$TypePool" (30 : Nat) "TypedTermReader$TypePool" "waiting" "[I"), (Jvm.Cond.fieldLink "TypedTermReader$TypePool" (78 : Nat) "TypedTermReader$TypePool" "waitingCount" "I"), (Jvm.Cond.fieldLink "TypedTermReader$TypePool" (33 : Nat) "TypedTermReader$TypePool" "count" "I"), (Jvm.Cond.fieldLink "TypedTermReader$TypePool" (37 : Nat) "TypedTermReader$TypePool" "leftOver" "I"), (Jvm.Cond.fieldLink "TypedTermReader$TypePool" (40 : Nat) "TypedTermReader$TypePool" "clash" "Z"), (Jvm.Cond.fieldLink "TypedTermReader$TermReader" (90 : Nat) "TypedTermReader$TypePool" "clash" "Z"), (Jvm.Cond.fieldLink "TypedTermReader$TypePool" (44 : Nat) "TypedTermReader$TypePool" "overfull" "Z"), (Jvm.Cond.fieldLink "TypedTermReader$TypeReader" (42 : Nat) "TypedTermReader$TypePool" "overfull" "Z"), (Jvm.Cond.fieldLink "TypedTermReader$TermReader" (82 : Nat) "TypedTermReader$TypePool" "overfull" "Z"), (Jvm.Cond.classLink "TypedTermReader" (30 : Nat) "TypedTermReader$ConstantTable"), (Jvm.Cond.instantiable "TypedTermReader$ConstantTable" (7 : Nat)), (Jvm.Cond.methodLink "TypedTermReader" (32 : Nat) ({ cls := "TypedTermReader$ConstantTable", name := "<init>", desc := "(LTypedTermReader$TypeTable;LTypedTermReader$TypePool;)V" } : Jvm.MethodName)), (Jvm.Cond.instanceMethod ({ cls := "TypedTermReader$ConstantTable", name := "<init>", desc := "(LTypedTermReader$TypeTable;LTypedTermReader$TypePool;)V" } : Jvm.MethodName)), (Jvm.Cond.methodLink "TypedTermReader$ConstantTable" (3 : Nat) ({ cls := "java/lang/Object", name := "<init>", desc := "()V" } : Jvm.MethodName)), (Jvm.Cond.classLink "TypedTermReader$ConstantTable" (9 : Nat) "TypedTermReader$NameTable"), (Jvm.Cond.methodLink "TypedTermReader$ConstantTable" (13 : Nat) ({ cls := "TypedTermReader$NameTable", name := "<init>", desc := "(IILjava/lang/String;)V" } : Jvm.MethodName)), (Jvm.Cond.fieldLink "TypedTermReader$ConstantTable" (16 : Nat) "TypedTermReader$ConstantTable" "names" "LTypedTermReader$NameTable;"), (Jvm.Cond.fieldLink "TypedTermReader" (189 : Nat) "TypedTermReader$ConstantTable" "names" "LTypedTermReader$NameTable;"), (Jvm.Cond.fieldLink "TypedTermReader$TermReader" (187 : Nat) "TypedTermReader$ConstantTable" "names" "LTypedTermReader$NameTable;"), (Jvm.Cond.fieldLink "TypedTermReader$ConstantTable" (22 : Nat) "TypedTermReader$ConstantTable" "rows" "[I"), (Jvm.Cond.fieldLink "TypedTermReader$ConstantTable" (26 : Nat) "TypedTermReader$ConstantTable" "ends" "[I"), (Jvm.Cond.fieldLink "TypedTermReader$ConstantTable" (29 : Nat) "TypedTermReader$ConstantTable" "nodes" "[I"), (Jvm.Cond.fieldLink "TypedTermReader$ConstantTable" (32 : Nat) "TypedTermReader$ConstantTable" "parts" "[I"), (Jvm.Cond.fieldLink "TypedTermReader$ConstantTable" (35 : Nat) "TypedTermReader$ConstantTable" "types" "LTypedTermReader$TypeTable;"), (Jvm.Cond.fieldLink "TypedTermReader$ConstantTable" (39 : Nat) "TypedTermReader$ConstantTable" "pool" "LTypedTermReader$TypePool;"), (Jvm.Cond.classLink "TypedTermReader" (39 : Nat) "TypedTermReader$TypeReader"), (Jvm.Cond.instantiable "TypedTermReader$TypeReader" (7 : Nat))]
def aW7 : List Cond := [(Jvm.Cond.methodLink "TypedTermReader" (41 : Nat) ({ cls := "TypedTermReader$TypeReader", name := "<init>", desc := "(LTypedTermReader$Text;LTypedTermReader$TypeTable;LTypedTermReader$TypePool;)V" } : Jvm.MethodName)), (Jvm.Cond.instanceMethod ({ cls := "TypedTermReader$TypeReader", name := "<init>", desc := "(LTypedTermReader$Text;LTypedTermReader$TypeTable;LTypedTermReader$TypePool;)V" } : Jvm.MethodName)), (Jvm.Cond.methodLink "TypedTermReader$TypeReader" (3 : Nat) ({ cls := "java/lang/Object", name := "<init>", desc := "()V" } : Jvm.MethodName)), (Jvm.Cond.fieldLink "TypedTermReader$TypeReader" (15 : Nat) "TypedTermReader$TypeReader" "text" "LTypedTermReader$Text;"), (Jvm.Cond.fieldLink "TypedTermReader$TypeReader" (19 : Nat) "TypedTermReader$TypeReader" "types" "LTypedTermReader$TypeTable;"), (Jvm.Cond.fieldLink "TypedTermReader$TypeReader" (23 : Nat) "TypedTermReader$TypeReader" "pool" "LTypedTermReader$TypePool;"), (Jvm.Cond.fieldLink "TypedTermReader$TypeReader" (9 : Nat) "TypedTermReader$TypeReader" "waiting" "[I"), (Jvm.Cond.fieldLink "TypedTermReader$TypeReader" (27 : Nat) "TypedTermReader$TypeReader" "waitingCount" "I"), (Jvm.Cond.fieldLink "TypedTermReader$TypeReader" (31 : Nat) "TypedTermReader$TypeReader" "large" "Z"), (Jvm.Cond.fieldLink "TypedTermReader$TermReader" (77 : Nat) "TypedTermReader$TypeReader" "large" "Z"), (Jvm.Cond.fieldLink "TypedTermReader" (200 : Nat) "TypedTermReader$TypeReader" "large" "Z"), (Jvm.Cond.fieldLink "TypedTermReader$TypeReader" (35 : Nat) "TypedTermReader$TypeReader" "wrong" "Z"), (Jvm.Cond.fieldLink "TypedTermReader$TermReader" (87 : Nat) "TypedTermReader$TypeReader" "wrong" "Z"), (Jvm.Cond.fieldLink "TypedTermReader" (204 : Nat) "TypedTermReader$TypeReader" "wrong" "Z"), (Jvm.Cond.classLink "TypedTermReader" (48 : Nat) "TypedTermReader$TermReader"), (Jvm.Cond.instantiable "TypedTermReader$TermReader" (10 : Nat)), (Jvm.Cond.methodLink "TypedTermReader" (50 : Nat) ({ cls := "TypedTermReader$TermReader", name := "<init>", desc := "(LTypedTermReader$Text;LTypedTermReader$ConstantTable;LTypedTermReader$TypePool;LTypedTermReader$TypeReader;)V" } : Jvm.MethodName)), (Jvm.Cond.instanceMethod ({ cls := "TypedTermReader$TermReader", name := "<init>", desc := "(LTypedTermReader$Text;LTypedTermReader$ConstantTable;LTypedTermReader$TypePool;LTypedTermReader$TypeReader;)V" } : Jvm.MethodName)), (Jvm.Cond.methodLink "TypedTermReader$TermReader" (3 : Nat) ({ cls := "java/lang/Object", name := "<init>", desc := "()V" } : Jvm.MethodName)), (Jvm.Cond.classLink "TypedTermReader$TermReader" (9 : Nat) "TypedTermReader$Scope"), (Jvm.Cond.instantiable "TypedTermReader$Scope" (4 : Nat)), (Jvm.Cond.methodLinkNest "TypedTermReader$TermReader" (11 : Nat) ({ cls := "TypedTermReader$Scope", name := "<init>", desc := "()V" } : Jvm.MethodName) "TypedTermReader"), (Jvm.Cond.instanceMethod ({ cls := "TypedTermReader$Scope", name := "<init>", desc := "()V" } : Jvm.MethodName)), (Jvm.Cond.methodLink "TypedTermReader$Scope" (3 : Nat) ({ cls := "java/lang/Object", name := "<init>", desc := "()V" } : Jvm.MethodName)), (Jvm.Cond.fieldLink "TypedTermReader$Scope" (9 : Nat) "TypedTermReader$Scope" "starts" "[I"), (Jvm.Cond.fieldLink "TypedTermReader$Scope" (15 : Nat) "TypedTermReader$Scope" "ends" "[I"), (Jvm.Cond.fieldLink "TypedTermReader$Scope" (18 : Nat) "TypedTermReader$Scope" "types" "[I"), (Jvm.Cond.fieldLink "TypedTermReader$Scope" (21 : Nat) "TypedTermReader$Scope" "count" "I"), (Jvm.Cond.fieldLink "TypedTermReader$TermReader" (53 : Nat) "TypedTermReader$Scope" "count" "I"), (Jvm.Cond.classLink "TypedTermReader$TermReader" (41 : Nat) "TypedTermReader$TermTree"), (Jvm.Cond.instantiable "TypedTermReader$TermTree" (8 : Nat)), (Jvm.Cond.methodLink "TypedTermReader$TermReader" (43 : Nat) ({ cls := "TypedTermReader$TermTree", name := "<init>", desc := "(LTypedTermReader$TypePool;)V" } : Jvm.MethodName))]
def aW8 : List Cond := [(Jvm.Cond.instanceMethod ({ cls := "TypedTermReader$TermTree", name := "<init>", desc := "(LTypedTermReader$TypePool;)V" } : Jvm.MethodName)), (Jvm.Cond.methodLink "TypedTermReader$TermTree" (3 : Nat) ({ cls := "java/lang/Object", name := "<init>", desc := "()V" } : Jvm.MethodName)), (Jvm.Cond.fieldLink "TypedTermReader$TermTree" (11 : Nat) "TypedTermReader$TermTree" "symbols" "[I"), (Jvm.Cond.fieldLink "TypedTermReader$ShownTerm" (28 : Nat) "TypedTermReader$TermTree" "symbols" "[I"), (Jvm.Cond.fieldLink "TypedTermReader$TermTree" (15 : Nat) "TypedTermReader$TermTree" "first" "[I"), (Jvm.Cond.fieldLink "TypedTermReader$ShownTerm" (47 : Nat) "TypedTermReader$TermTree" "first" "[I"), (Jvm.Cond.fieldLink "TypedTermReader$TermTree" (18 : Nat) "TypedTermReader$TermTree" "second" "[I"), (Jvm.Cond.fieldLink "TypedTermReader$ShownTerm" (40 : Nat) "TypedTermReader$TermTree" "second" "[I"), (Jvm.Cond.fieldLink "TypedTermReader$TermTree" (21 : Nat) "TypedTermReader$TermTree" "types" "[I"), (Jvm.Cond.fieldLink "TypedTermReader$ShownTerm" (31 : Nat) "TypedTermReader$TermTree" "types" "[I"), (Jvm.Cond.fieldLink "TypedTermReader$TermReader" (178 : Nat) "TypedTermReader$TermTree" "types" "[I"), (Jvm.Cond.fieldLink "TypedTermReader$TermTree" (24 : Nat) "TypedTermReader$TermTree" "heights" "[I"), (Jvm.Cond.fieldLink "TypedTermReader$TermTree" (27 : Nat) "TypedTermReader$TermTree" "pool" "LTypedTermReader$TypePool;"), (Jvm.Cond.fieldLink "TypedTermReader$TermTree" (31 : Nat) "TypedTermReader$TermTree" "count" "I"), (Jvm.Cond.fieldLink "TypedTermReader$TermTree" (35 : Nat) "TypedTermReader$TermTree" "overfull" "Z"), (Jvm.Cond.fieldLink "TypedTermReader$TermReader" (221 : Nat) "TypedTermReader$TermTree" "overfull" "Z"), (Jvm.Cond.fieldLink "TypedTermReader$TermReader" (25 : Nat) "TypedTermReader$TermReader" "text" "LTypedTermReader$Text;"), (Jvm.Cond.fieldLink "TypedTermReader$TermReader" (29 : Nat) "TypedTermReader$TermReader" "constants" "LTypedTermReader$ConstantTable;"), (Jvm.Cond.fieldLink "TypedTermReader$TermReader" (33 : Nat) "TypedTermReader$TermReader" "pool" "LTypedTermReader$TypePool;"), (Jvm.Cond.fieldLink "TypedTermReader$TermReader" (37 : Nat) "TypedTermReader$TermReader" "typeReader" "LTypedTermReader$TypeReader;"), (Jvm.Cond.fieldLink "TypedTermReader$TermReader" (12 : Nat) "TypedTermReader$TermReader" "scope" "LTypedTermReader$Scope;"), (Jvm.Cond.fieldLink "TypedTermReader$TermReader" (46 : Nat) "TypedTermReader$TermReader" "tree" "LTypedTermReader$TermTree;"), (Jvm.Cond.fieldLink "TypedTermReader" (104 : Nat) "TypedTermReader$TermReader" "tree" "LTypedTermReader$TermTree;"), (Jvm.Cond.fieldLink "TypedTermReader$TermReader" (18 : Nat) "TypedTermReader$TermReader" "waiting" "[I"), (Jvm.Cond.fieldLink "TypedTermReader$TermReader" (22 : Nat) "TypedTermReader$TermReader" "strengths" "[I"), (Jvm.Cond.fieldLink "TypedTermReader$TermReader" (57 : Nat) "TypedTermReader$TermReader" "waitingCount" "I"), (Jvm.Cond.fieldLink "TypedTermReader$TermReader" (60 : Nat) "TypedTermReader$TermReader" "unknownName" "Z"), (Jvm.Cond.classLink "TypedTermReader" (57 : Nat) "TypedTermReader$ShownTerm"), (Jvm.Cond.instantiable "TypedTermReader$ShownTerm" (5 : Nat)), (Jvm.Cond.methodLinkNest "TypedTermReader" (59 : Nat) ({ cls := "TypedTermReader$ShownTerm", name := "<init>", desc := "()V" } : Jvm.MethodName) "TypedTermReader"), (Jvm.Cond.instanceMethod ({ cls := "TypedTermReader$ShownTerm", name := "<init>", desc := "()V" } : Jvm.MethodName)), (Jvm.Cond.methodLink "TypedTermReader$ShownTerm" (3 : Nat) ({ cls := "java/lang/Object", name := "<init>", desc := "()V" } : Jvm.MethodName))]
def aW9 : List Cond := [(Jvm.Cond.fieldLink "TypedTermReader$ShownTerm" (9 : Nat) "TypedTermReader$ShownTerm" "symbols" "[I"), (Jvm.Cond.fieldLink "TypedTermReader" (134 : Nat) "TypedTermReader$ShownTerm" "symbols" "[I"), (Jvm.Cond.fieldLink "TypedTermReader$ShownTerm" (15 : Nat) "TypedTermReader$ShownTerm" "typeStarts" "[I"), (Jvm.Cond.fieldLink "TypedTermReader" (147 : Nat) "TypedTermReader$ShownTerm" "typeStarts" "[I"), (Jvm.Cond.fieldLink "TypedTermReader$ShownTerm" (18 : Nat) "TypedTermReader$ShownTerm" "typeRows" "[I"), (Jvm.Cond.fieldLink "TypedTermReader" (144 : Nat) "TypedTermReader$ShownTerm" "typeRows" "[I"), (Jvm.Cond.fieldLink "TypedTermReader$ShownTerm" (21 : Nat) "TypedTermReader$ShownTerm" "waiting" "[I"), (Jvm.Cond.fieldLink "TypedTermReader$ShownTerm" (24 : Nat) "TypedTermReader$ShownTerm" "count" "I"), (Jvm.Cond.fieldLink "TypedTermReader" (112 : Nat) "TypedTermReader$ShownTerm" "count" "I"), (Jvm.Cond.fieldLink "TypedTermReader" (12 : Nat) "TypedTermReader" "text" "LTypedTermReader$Text;"), (Jvm.Cond.fieldLink "TypedTermReader" (19 : Nat) "TypedTermReader" "types" "LTypedTermReader$TypeTable;"), (Jvm.Cond.fieldLink "TypedTermReader" (26 : Nat) "TypedTermReader" "pool" "LTypedTermReader$TypePool;"), (Jvm.Cond.fieldLink "TypedTermReader" (35 : Nat) "TypedTermReader" "constants" "LTypedTermReader$ConstantTable;"), (Jvm.Cond.fieldLink "TypedTermReader" (44 : Nat) "TypedTermReader" "typeReader" "LTypedTermReader$TypeReader;"), (Jvm.Cond.fieldLink "TypedTermReader" (53 : Nat) "TypedTermReader" "termReader" "LTypedTermReader$TermReader;"), (Jvm.Cond.fieldLink "TypedTermReader" (60 : Nat) "TypedTermReader" "shown" "LTypedTermReader$ShownTerm;"), (Jvm.Cond.methodLink "TypedTermReaderLaw" (34 : Nat) ({ cls := "TypedTermReader", name := "feed", desc := "(IIIII)Z" } : Jvm.MethodName)), (Jvm.Cond.instanceMethod ({ cls := "TypedTermReader", name := "feed", desc := "(IIIII)Z" } : Jvm.MethodName)), (Jvm.Cond.selects "TypedTermReader" ({ cls := "TypedTermReader", name := "feed", desc := "(IIIII)Z" } : Jvm.MethodName) ({ cls := "TypedTermReader", name := "feed", desc := "(IIIII)Z" } : Jvm.MethodName)), (Jvm.Cond.methodLink "TypedTermReader" (64 : Nat) ({ cls := "TypedTermReader$Text", name := "isFull", desc := "()Z" } : Jvm.MethodName)), (Jvm.Cond.instanceMethod ({ cls := "TypedTermReader$Text", name := "isFull", desc := "()Z" } : Jvm.MethodName)), (Jvm.Cond.selects "TypedTermReader$Text" ({ cls := "TypedTermReader$Text", name := "isFull", desc := "()Z" } : Jvm.MethodName) ({ cls := "TypedTermReader$Text", name := "isFull", desc := "()Z" } : Jvm.MethodName)), (Jvm.Cond.methodLink "TypedTermReader" (68 : Nat) ({ cls := "TypedTermReader$Text", name := "append", desc := "(I)V" } : Jvm.MethodName)), (Jvm.Cond.instanceMethod ({ cls := "TypedTermReader$Text", name := "append", desc := "(I)V" } : Jvm.MethodName)), (Jvm.Cond.selects "TypedTermReader$Text" ({ cls := "TypedTermReader$Text", name := "append", desc := "(I)V" } : Jvm.MethodName) ({ cls := "TypedTermReader$Text", name := "append", desc := "(I)V" } : Jvm.MethodName)), (Jvm.Cond.methodLink "TypedTermReaderLaw" (55 : Nat) ({ cls := "TypedTermReader", name := "fault", desc := "()I" } : Jvm.MethodName)), (Jvm.Cond.instanceMethod ({ cls := "TypedTermReader", name := "fault", desc := "()I" } : Jvm.MethodName)), (Jvm.Cond.selects "TypedTermReader" ({ cls := "TypedTermReader", name := "fault", desc := "()I" } : Jvm.MethodName) ({ cls := "TypedTermReader", name := "fault", desc := "()I" } : Jvm.MethodName)), (Jvm.Cond.methodLink "TypedTermReaderLaw" (59 : Nat) ({ cls := "TypedTermReader", name := "place", desc := "()I" } : Jvm.MethodName)), (Jvm.Cond.instanceMethod ({ cls := "TypedTermReader", name := "place", desc := "()I" } : Jvm.MethodName)), (Jvm.Cond.selects "TypedTermReader" ({ cls := "TypedTermReader", name := "place", desc := "()I" } : Jvm.MethodName) ({ cls := "TypedTermReader", name := "place", desc := "()I" } : Jvm.MethodName)), (Jvm.Cond.methodLink "TypedTermReaderLaw" (39 : Nat) ({ cls := "TypedTermReaderLaw", name := "term", desc := "(LTypedTermReader;I[J)I" } : Jvm.MethodName))]
def aW10 : List Cond := [(Jvm.Cond.static ({ cls := "TypedTermReaderLaw", name := "term", desc := "(LTypedTermReader;I[J)I" } : Jvm.MethodName)), (Jvm.Cond.methodLink "TypedTermReaderLaw" (7 : Nat) ({ cls := "TypedTermReader", name := "term", desc := "(I)I" } : Jvm.MethodName)), (Jvm.Cond.instanceMethod ({ cls := "TypedTermReader", name := "term", desc := "(I)I" } : Jvm.MethodName)), (Jvm.Cond.selects "TypedTermReader" ({ cls := "TypedTermReader", name := "term", desc := "(I)I" } : Jvm.MethodName) ({ cls := "TypedTermReader", name := "term", desc := "(I)I" } : Jvm.MethodName)), (Jvm.Cond.methodLink "TypedTermReader" (72 : Nat) ({ cls := "TypedTermReader$Text", name := "has", desc := "(I)Z" } : Jvm.MethodName)), (Jvm.Cond.instanceMethod ({ cls := "TypedTermReader$Text", name := "has", desc := "(I)Z" } : Jvm.MethodName)), (Jvm.Cond.selects "TypedTermReader$Text" ({ cls := "TypedTermReader$Text", name := "has", desc := "(I)Z" } : Jvm.MethodName) ({ cls := "TypedTermReader$Text", name := "has", desc := "(I)Z" } : Jvm.MethodName)), (Jvm.Cond.methodLink "TypedTermReader" (83 : Nat) ({ cls := "TypedTermReader$Text", name := "open", desc := "(I)V" } : Jvm.MethodName)), (Jvm.Cond.instanceMethod ({ cls := "TypedTermReader$Text", name := "open", desc := "(I)V" } : Jvm.MethodName)), (Jvm.Cond.selects "TypedTermReader$Text" ({ cls := "TypedTermReader$Text", name := "open", desc := "(I)V" } : Jvm.MethodName) ({ cls := "TypedTermReader$Text", name := "open", desc := "(I)V" } : Jvm.MethodName)), (Jvm.Cond.methodLink "TypedTermReader$Text" (45 : Nat) ({ cls := "TypedTermReader$Text", name := "advance", desc := "()V" } : Jvm.MethodName)), (Jvm.Cond.instanceMethod ({ cls := "TypedTermReader$Text", name := "advance", desc := "()V" } : Jvm.MethodName)), (Jvm.Cond.selects "TypedTermReader$Text" ({ cls := "TypedTermReader$Text", name := "advance", desc := "()V" } : Jvm.MethodName) ({ cls := "TypedTermReader$Text", name := "advance", desc := "()V" } : Jvm.MethodName)), (Jvm.Cond.methodLink "TypedTermReader$Text" (54 : Nat) ({ cls := "TypedTermReader$Text", name := "isRight", desc := "()Z" } : Jvm.MethodName)), (Jvm.Cond.instanceMethod ({ cls := "TypedTermReader$Text", name := "isRight", desc := "()Z" } : Jvm.MethodName)), (Jvm.Cond.selects "TypedTermReader$Text" ({ cls := "TypedTermReader$Text", name := "isRight", desc := "()Z" } : Jvm.MethodName) ({ cls := "TypedTermReader$Text", name := "isRight", desc := "()Z" } : Jvm.MethodName)), (Jvm.Cond.methodLink "TypedTermReader$Text" (58 : Nat) ({ cls := "TypedTermReader$Text", name := "behindBlanks", desc := "(I)I" } : Jvm.MethodName)), (Jvm.Cond.instanceMethod ({ cls := "TypedTermReader$Text", name := "behindBlanks", desc := "(I)I" } : Jvm.MethodName)), (Jvm.Cond.methodLink "TypedTermReader$Text" (76 : Nat) ({ cls := "TypedTermReader$Text", name := "isBlank", desc := "(I)Z" } : Jvm.MethodName)), (Jvm.Cond.static ({ cls := "TypedTermReader$Text", name := "isBlank", desc := "(I)Z" } : Jvm.MethodName)), (Jvm.Cond.methodLink "TypedTermReader$Text" (65 : Nat) ({ cls := "TypedTermReader$Text", name := "failHere", desc := "(I)V" } : Jvm.MethodName)), (Jvm.Cond.instanceMethod ({ cls := "TypedTermReader$Text", name := "failHere", desc := "(I)V" } : Jvm.MethodName)), (Jvm.Cond.selects "TypedTermReader$Text" ({ cls := "TypedTermReader$Text", name := "failHere", desc := "(I)V" } : Jvm.MethodName) ({ cls := "TypedTermReader$Text", name := "failHere", desc := "(I)V" } : Jvm.MethodName)), (Jvm.Cond.methodLink "TypedTermReader$Text" (72 : Nat) ({ cls := "TypedTermReader$Text", name := "fail", desc := "(II)V" } : Jvm.MethodName)), (Jvm.Cond.instanceMethod ({ cls := "TypedTermReader$Text", name := "fail", desc := "(II)V" } : Jvm.MethodName)), (Jvm.Cond.methodLink "TypedTermReader$Text" (69 : Nat) ({ cls := "TypedTermReader$Text", name := "scan", desc := "(I)V" } : Jvm.MethodName)), (Jvm.Cond.instanceMethod ({ cls := "TypedTermReader$Text", name := "scan", desc := "(I)V" } : Jvm.MethodName)), (Jvm.Cond.methodLink "TypedTermReader$Text" (80 : Nat) ({ cls := "TypedTermReader$Text", name := "isLetter", desc := "(I)Z" } : Jvm.MethodName)), (Jvm.Cond.static ({ cls := "TypedTermReader$Text", name := "isLetter", desc := "(I)Z" } : Jvm.MethodName)), (Jvm.Cond.methodLink "TypedTermReader$Text" (83 : Nat) ({ cls := "TypedTermReader$Text", name := "scanName", desc := "()V" } : Jvm.MethodName)), (Jvm.Cond.instanceMethod ({ cls := "TypedTermReader$Text", name := "scanName", desc := "()V" } : Jvm.MethodName)), (Jvm.Cond.methodLink "TypedTermReader$Text" (98 : Nat) ({ cls := "TypedTermReader$Text", name := "behindWord", desc := "(I)I" } : Jvm.MethodName))]
def aW11 : List Cond := [(Jvm.Cond.instanceMethod ({ cls := "TypedTermReader$Text", name := "behindWord", desc := "(I)I" } : Jvm.MethodName)), (Jvm.Cond.methodLink "TypedTermReader$Text" (89 : Nat) ({ cls := "TypedTermReader$Text", name := "isDigit", desc := "(I)Z" } : Jvm.MethodName)), (Jvm.Cond.static ({ cls := "TypedTermReader$Text", name := "isDigit", desc := "(I)Z" } : Jvm.MethodName)), (Jvm.Cond.methodLink "TypedTermReader$Text" (101 : Nat) ({ cls := "TypedTermReader$Text", name := "isKeyword", desc := "()Z" } : Jvm.MethodName)), (Jvm.Cond.instanceMethod ({ cls := "TypedTermReader$Text", name := "isKeyword", desc := "()Z" } : Jvm.MethodName)), (Jvm.Cond.methodLink "TypedTermReader$Text" (86 : Nat) ({ cls := "TypedTermReader$Text", name := "scanTypeName", desc := "()V" } : Jvm.MethodName)), (Jvm.Cond.instanceMethod ({ cls := "TypedTermReader$Text", name := "scanTypeName", desc := "()V" } : Jvm.MethodName)), (Jvm.Cond.methodLink "TypedTermReader$Text" (104 : Nat) ({ cls := "TypedTermReader$Text", name := "byteAt", desc := "(I)I" } : Jvm.MethodName)), (Jvm.Cond.instanceMethod ({ cls := "TypedTermReader$Text", name := "byteAt", desc := "(I)I" } : Jvm.MethodName)), (Jvm.Cond.methodLink "TypedTermReader$Text" (107 : Nat) ({ cls := "TypedTermReader$NameTable", name := "findOrAdd", desc := "([BII)I" } : Jvm.MethodName)), (Jvm.Cond.instanceMethod ({ cls := "TypedTermReader$NameTable", name := "findOrAdd", desc := "([BII)I" } : Jvm.MethodName)), (Jvm.Cond.selects "TypedTermReader$NameTable" ({ cls := "TypedTermReader$NameTable", name := "findOrAdd", desc := "([BII)I" } : Jvm.MethodName) ({ cls := "TypedTermReader$NameTable", name := "findOrAdd", desc := "([BII)I" } : Jvm.MethodName)), (Jvm.Cond.methodLink "TypedTermReader$NameTable" (54 : Nat) ({ cls := "TypedTermReader$NameTable", name := "find", desc := "([BII)I" } : Jvm.MethodName)), (Jvm.Cond.instanceMethod ({ cls := "TypedTermReader$NameTable", name := "find", desc := "([BII)I" } : Jvm.MethodName)), (Jvm.Cond.selects "TypedTermReader$NameTable" ({ cls := "TypedTermReader$NameTable", name := "find", desc := "([BII)I" } : Jvm.MethodName) ({ cls := "TypedTermReader$NameTable", name := "find", desc := "([BII)I" } : Jvm.MethodName)), (Jvm.Cond.methodLinkNest "TypedTermReader$NameTable" (48 : Nat) ({ cls := "TypedTermReader", name := "sameBytes", desc := "([BII[BI)Z" } : Jvm.MethodName) "TypedTermReader"), (Jvm.Cond.static ({ cls := "TypedTermReader", name := "sameBytes", desc := "([BII[BI)Z" } : Jvm.MethodName)), (Jvm.Cond.methodLink "TypedTermReader$Text" (92 : Nat) ({ cls := "TypedTermReader$Text", name := "scanNumeral", desc := "()V" } : Jvm.MethodName)), (Jvm.Cond.instanceMethod ({ cls := "TypedTermReader$Text", name := "scanNumeral", desc := "()V" } : Jvm.MethodName)), (Jvm.Cond.methodLink "TypedTermReader$Text" (95 : Nat) ({ cls := "TypedTermReader$Text", name := "scanSign", desc := "(I)V" } : Jvm.MethodName)), (Jvm.Cond.instanceMethod ({ cls := "TypedTermReader$Text", name := "scanSign", desc := "(I)V" } : Jvm.MethodName)), (Jvm.Cond.methodLink "TypedTermReader$Text" (120 : Nat) ({ cls := "TypedTermReader$Text", name := "kindOfThree", desc := "(III)I" } : Jvm.MethodName)), (Jvm.Cond.static ({ cls := "TypedTermReader$Text", name := "kindOfThree", desc := "(III)I" } : Jvm.MethodName)), (Jvm.Cond.methodLink "TypedTermReader$Text" (124 : Nat) ({ cls := "TypedTermReader$Text", name := "kindOfTwo", desc := "(II)I" } : Jvm.MethodName)), (Jvm.Cond.static ({ cls := "TypedTermReader$Text", name := "kindOfTwo", desc := "(II)I" } : Jvm.MethodName)), (Jvm.Cond.methodLink "TypedTermReader$Text" (127 : Nat) ({ cls := "TypedTermReader$Text", name := "kindOfOne", desc := "(I)I" } : Jvm.MethodName)), (Jvm.Cond.static ({ cls := "TypedTermReader$Text", name := "kindOfOne", desc := "(I)I" } : Jvm.MethodName)), (Jvm.Cond.methodLink "TypedTermReader" (86 : Nat) ({ cls := "TypedTermReader$TypePool", name := "clear", desc := "()V" } : Jvm.MethodName)), (Jvm.Cond.instanceMethod ({ cls := "TypedTermReader$TypePool", name := "clear", desc := "()V" } : Jvm.MethodName)), (Jvm.Cond.selects "TypedTermReader$TypePool" ({ cls := "TypedTermReader$TypePool", name := "clear", desc := "()V" } : Jvm.MethodName) ({ cls := "TypedTermReader$TypePool", name := "clear", desc := "()V" } : Jvm.MethodName)), (Jvm.Cond.methodLink "TypedTermReader$TypePool" (47 : Nat) ({ cls := "TypedTermReader$TypePool", name := "unknown", desc := "()I" } : Jvm.MethodName)), (Jvm.Cond.instanceMethod ({ cls := "TypedTermReader$TypePool", name := "unknown", desc := "()I" } : Jvm.MethodName))]
def aW12 : List Cond := [(Jvm.Cond.selects "TypedTermReader$TypePool" ({ cls := "TypedTermReader$TypePool", name := "unknown", desc := "()I" } : Jvm.MethodName) ({ cls := "TypedTermReader$TypePool", name := "unknown", desc := "()I" } : Jvm.MethodName)), (Jvm.Cond.constant "TypedTermReader$TypePool" (51 : Nat) (-1000000 : Int32)), (Jvm.Cond.methodLink "TypedTermReader$TypePool" (52 : Nat) ({ cls := "TypedTermReader$TypePool", name := "add", desc := "(III)I" } : Jvm.MethodName)), (Jvm.Cond.instanceMethod ({ cls := "TypedTermReader$TypePool", name := "add", desc := "(III)I" } : Jvm.MethodName)), (Jvm.Cond.selects "TypedTermReader$TypePool" ({ cls := "TypedTermReader$TypePool", name := "add", desc := "(III)I" } : Jvm.MethodName) ({ cls := "TypedTermReader$TypePool", name := "add", desc := "(III)I" } : Jvm.MethodName)), (Jvm.Cond.methodLink "TypedTermReader$TypePool" (56 : Nat) ({ cls := "TypedTermReader$TypePool", name := "measure", desc := "(I)V" } : Jvm.MethodName)), (Jvm.Cond.instanceMethod ({ cls := "TypedTermReader$TypePool", name := "measure", desc := "(I)V" } : Jvm.MethodName)), (Jvm.Cond.methodLink "TypedTermReader$TypePool" (64 : Nat) ({ cls := "TypedTermReader$TypePool", name := "sizeOf", desc := "(I)I" } : Jvm.MethodName)), (Jvm.Cond.instanceMethod ({ cls := "TypedTermReader$TypePool", name := "sizeOf", desc := "(I)I" } : Jvm.MethodName)), (Jvm.Cond.selects "TypedTermReader$TypePool" ({ cls := "TypedTermReader$TypePool", name := "sizeOf", desc := "(I)I" } : Jvm.MethodName) ({ cls := "TypedTermReader$TypePool", name := "sizeOf", desc := "(I)I" } : Jvm.MethodName)), (Jvm.Cond.methodLink "TypedTermReader$TypePool" (60 : Nat) ({ cls := "TypedTermReader$TypePool", name := "find", desc := "(I)I" } : Jvm.MethodName)), (Jvm.Cond.instanceMethod ({ cls := "TypedTermReader$TypePool", name := "find", desc := "(I)I" } : Jvm.MethodName)), (Jvm.Cond.methodLink "TypedTermReader$TypePool" (67 : Nat) ({ cls := "TypedTermReader$TypePool", name := "heightOf", desc := "(I)I" } : Jvm.MethodName)), (Jvm.Cond.instanceMethod ({ cls := "TypedTermReader$TypePool", name := "heightOf", desc := "(I)I" } : Jvm.MethodName)), (Jvm.Cond.selects "TypedTermReader$TypePool" ({ cls := "TypedTermReader$TypePool", name := "heightOf", desc := "(I)I" } : Jvm.MethodName) ({ cls := "TypedTermReader$TypePool", name := "heightOf", desc := "(I)I" } : Jvm.MethodName)), (Jvm.Cond.constant "TypedTermReader$TypePool" (100 : Nat) (1000000 : Int32)), (Jvm.Cond.methodLink "TypedTermReader$TypePool" (104 : Nat) ({ cls := "TypedTermReader$TypePool", name := "setMeasures", desc := "(III)V" } : Jvm.MethodName)), (Jvm.Cond.instanceMethod ({ cls := "TypedTermReader$TypePool", name := "setMeasures", desc := "(III)V" } : Jvm.MethodName)), (Jvm.Cond.selects "TypedTermReader$TypePool" ({ cls := "TypedTermReader$TypePool", name := "setMeasures", desc := "(III)V" } : Jvm.MethodName) ({ cls := "TypedTermReader$TypePool", name := "setMeasures", desc := "(III)V" } : Jvm.MethodName)), (Jvm.Cond.methodLink "TypedTermReader" (89 : Nat) ({ cls := "TypedTermReader$TypeReader", name := "clear", desc := "()V" } : Jvm.MethodName)), (Jvm.Cond.instanceMethod ({ cls := "TypedTermReader$TypeReader", name := "clear", desc := "()V" } : Jvm.MethodName)), (Jvm.Cond.selects "TypedTermReader$TypeReader" ({ cls := "TypedTermReader$TypeReader", name := "clear", desc := "()V" } : Jvm.MethodName) ({ cls := "TypedTermReader$TypeReader", name := "clear", desc := "()V" } : Jvm.MethodName)), (Jvm.Cond.methodLink "TypedTermReader" (90 : Nat) ({ cls := "TypedTermReader$TermReader", name := "readWhole", desc := "()I" } : Jvm.MethodName)), (Jvm.Cond.instanceMethod ({ cls := "TypedTermReader$TermReader", name := "readWhole", desc := "()I" } : Jvm.MethodName)), (Jvm.Cond.selects "TypedTermReader$TermReader" ({ cls := "TypedTermReader$TermReader", name := "readWhole", desc := "()I" } : Jvm.MethodName) ({ cls := "TypedTermReader$TermReader", name := "readWhole", desc := "()I" } : Jvm.MethodName)), (Jvm.Cond.methodLink "TypedTermReader$TermReader" (50 : Nat) ({ cls := "TypedTermReader$TermTree", name := "clear", desc := "()V" } : Jvm.MethodName)), (Jvm.Cond.instanceMethod ({ cls := "TypedTermReader$TermTree", name := "clear", desc := "()V" } : Jvm.MethodName)), (Jvm.Cond.selects "TypedTermReader$TermTree" ({ cls := "TypedTermReader$TermTree", name := "clear", desc := "()V" } : Jvm.MethodName) ({ cls := "TypedTermReader$TermTree", name := "clear", desc := "()V" } : Jvm.MethodName)), (Jvm.Cond.methodLink "TypedTermReader$TermReader" (64 : Nat) ({ cls := "TypedTermReader$TermReader", name := "read", desc := "(I)I" } : Jvm.MethodName)), (Jvm.Cond.instanceMethod ({ cls := "TypedTermReader$TermReader", name := "read", desc := "(I)I" } : Jvm.MethodName)), (Jvm.Cond.methodLink "TypedTermReader$TermReader" (100 : Nat) ({ cls := "TypedTermReader$TermReader", name := "readOperand", desc := "(I)I" } : Jvm.MethodName)), (Jvm.Cond.instanceMethod ({ cls := "TypedTermReader$TermReader", name := "readOperand", desc := "(I)I" } : Jvm.MethodName))]
def aW13 : List Cond := [(Jvm.Cond.methodLink "TypedTermReader$TermReader" (129 : Nat) ({ cls := "TypedTermReader$Text", name := "advance", desc := "()V" } : Jvm.MethodName)), (Jvm.Cond.methodLinkNest "TypedTermReader$TermReader" (136 : Nat) ({ cls := "TypedTermReader", name := "isBinder", desc := "(I)Z" } : Jvm.MethodName) "TypedTermReader"), (Jvm.Cond.static ({ cls := "TypedTermReader", name := "isBinder", desc := "(I)Z" } : Jvm.MethodName)), (Jvm.Cond.methodLink "TypedTermReader$TermReader" (139 : Nat) ({ cls := "TypedTermReader$TermReader", name := "readBinder", desc := "(I)I" } : Jvm.MethodName)), (Jvm.Cond.instanceMethod ({ cls := "TypedTermReader$TermReader", name := "readBinder", desc := "(I)I" } : Jvm.MethodName)), (Jvm.Cond.methodLink "TypedTermReader$TermReader" (203 : Nat) ({ cls := "TypedTermReader$NameTable", name := "find", desc := "([BII)I" } : Jvm.MethodName)), (Jvm.Cond.methodLink "TypedTermReader$TermReader" (172 : Nat) ({ cls := "TypedTermReader$Text", name := "failIfTooDeep", desc := "(I)Z" } : Jvm.MethodName)), (Jvm.Cond.instanceMethod ({ cls := "TypedTermReader$Text", name := "failIfTooDeep", desc := "(I)Z" } : Jvm.MethodName)), (Jvm.Cond.selects "TypedTermReader$Text" ({ cls := "TypedTermReader$Text", name := "failIfTooDeep", desc := "(I)Z" } : Jvm.MethodName) ({ cls := "TypedTermReader$Text", name := "failIfTooDeep", desc := "(I)Z" } : Jvm.MethodName)), (Jvm.Cond.methodLink "TypedTermReader$TermReader" (209 : Nat) ({ cls := "TypedTermReader$TermReader", name := "readVariable", desc := "(I)V" } : Jvm.MethodName)), (Jvm.Cond.instanceMethod ({ cls := "TypedTermReader$TermReader", name := "readVariable", desc := "(I)V" } : Jvm.MethodName)), (Jvm.Cond.methodLink "TypedTermReader$TermReader" (166 : Nat) ({ cls := "TypedTermReader$Text", name := "expect", desc := "(I)V" } : Jvm.MethodName)), (Jvm.Cond.instanceMethod ({ cls := "TypedTermReader$Text", name := "expect", desc := "(I)V" } : Jvm.MethodName)), (Jvm.Cond.selects "TypedTermReader$Text" ({ cls := "TypedTermReader$Text", name := "expect", desc := "(I)V" } : Jvm.MethodName) ({ cls := "TypedTermReader$Text", name := "expect", desc := "(I)V" } : Jvm.MethodName)), (Jvm.Cond.methodLink "TypedTermReader$TermReader" (175 : Nat) ({ cls := "TypedTermReader$TypeReader", name := "readWritten", desc := "(I)I" } : Jvm.MethodName)), (Jvm.Cond.instanceMethod ({ cls := "TypedTermReader$TypeReader", name := "readWritten", desc := "(I)I" } : Jvm.MethodName)), (Jvm.Cond.selects "TypedTermReader$TypeReader" ({ cls := "TypedTermReader$TypeReader", name := "readWritten", desc := "(I)I" } : Jvm.MethodName) ({ cls := "TypedTermReader$TypeReader", name := "readWritten", desc := "(I)I" } : Jvm.MethodName)), (Jvm.Cond.methodLink "TypedTermReader$TypeReader" (38 : Nat) ({ cls := "TypedTermReader$TypeReader", name := "read", desc := "(I)I" } : Jvm.MethodName)), (Jvm.Cond.instanceMethod ({ cls := "TypedTermReader$TypeReader", name := "read", desc := "(I)I" } : Jvm.MethodName)), (Jvm.Cond.methodLink "TypedTermReader$TypeReader" (51 : Nat) ({ cls := "TypedTermReader$TypeReader", name := "readAtom", desc := "(I)I" } : Jvm.MethodName)), (Jvm.Cond.instanceMethod ({ cls := "TypedTermReader$TypeReader", name := "readAtom", desc := "(I)I" } : Jvm.MethodName)), (Jvm.Cond.methodLink "TypedTermReader$TypeReader" (70 : Nat) ({ cls := "TypedTermReader$TypeReader", name := "readNamed", desc := "(I)I" } : Jvm.MethodName)), (Jvm.Cond.instanceMethod ({ cls := "TypedTermReader$TypeReader", name := "readNamed", desc := "(I)I" } : Jvm.MethodName)), (Jvm.Cond.methodLink "TypedTermReader$TypeReader" (92 : Nat) ({ cls := "TypedTermReader$NameTable", name := "find", desc := "([BII)I" } : Jvm.MethodName)), (Jvm.Cond.methodLink "TypedTermReader$TypeReader" (63 : Nat) ({ cls := "TypedTermReader$Text", name := "advance", desc := "()V" } : Jvm.MethodName)), (Jvm.Cond.methodLink "TypedTermReader$TypeReader" (98 : Nat) ({ cls := "TypedTermReader$TypeReader", name := "startsPart", desc := "(I)Z" } : Jvm.MethodName)), (Jvm.Cond.static ({ cls := "TypedTermReader$TypeReader", name := "startsPart", desc := "(I)Z" } : Jvm.MethodName)), (Jvm.Cond.methodLink "TypedTermReader$TypeReader" (101 : Nat) ({ cls := "TypedTermReader$TypeReader", name := "readLoneName", desc := "()I" } : Jvm.MethodName)), (Jvm.Cond.instanceMethod ({ cls := "TypedTermReader$TypeReader", name := "readLoneName", desc := "()I" } : Jvm.MethodName)), (Jvm.Cond.methodLink "TypedTermReader$TypeReader" (116 : Nat) ({ cls := "TypedTermReader$TypeTable", name := "takenBy", desc := "(I)I" } : Jvm.MethodName)), (Jvm.Cond.instanceMethod ({ cls := "TypedTermReader$TypeTable", name := "takenBy", desc := "(I)I" } : Jvm.MethodName)), (Jvm.Cond.selects "TypedTermReader$TypeTable" ({ cls := "TypedTermReader$TypeTable", name := "takenBy", desc := "(I)I" } : Jvm.MethodName) ({ cls := "TypedTermReader$TypeTable", name := "takenBy", desc := "(I)I" } : Jvm.MethodName))]
def aW14 : List Cond := [(Jvm.Cond.methodLink "TypedTermReader$TypeReader" (119 : Nat) ({ cls := "TypedTermReader$TypePool", name := "add", desc := "(III)I" } : Jvm.MethodName)), (Jvm.Cond.methodLink "TypedTermReader$TypeReader" (123 : Nat) ({ cls := "TypedTermReader$TypePool", name := "unknown", desc := "()I" } : Jvm.MethodName)), (Jvm.Cond.methodLink "TypedTermReader$TypeReader" (73 : Nat) ({ cls := "TypedTermReader$TypeReader", name := "readPart", desc := "(I)I" } : Jvm.MethodName)), (Jvm.Cond.instanceMethod ({ cls := "TypedTermReader$TypeReader", name := "readPart", desc := "(I)I" } : Jvm.MethodName)), (Jvm.Cond.methodLink "TypedTermReader$TypeReader" (130 : Nat) ({ cls := "TypedTermReader$TypeReader", name := "readInside", desc := "(I)I" } : Jvm.MethodName)), (Jvm.Cond.instanceMethod ({ cls := "TypedTermReader$TypeReader", name := "readInside", desc := "(I)I" } : Jvm.MethodName)), (Jvm.Cond.methodLink "TypedTermReader$TypeReader" (139 : Nat) ({ cls := "TypedTermReader$Text", name := "failIfTooDeep", desc := "(I)Z" } : Jvm.MethodName)), (Jvm.Cond.methodLink "TypedTermReader$TypeReader" (136 : Nat) ({ cls := "TypedTermReader$Text", name := "expect", desc := "(I)V" } : Jvm.MethodName)), (Jvm.Cond.methodLink "TypedTermReader$TypeReader" (105 : Nat) ({ cls := "TypedTermReader$TypePool", name := "sizeOf", desc := "(I)I" } : Jvm.MethodName)), (Jvm.Cond.methodLink "TypedTermReader$TypeReader" (108 : Nat) ({ cls := "TypedTermReader$TypePool", name := "heightOf", desc := "(I)I" } : Jvm.MethodName)), (Jvm.Cond.methodLink "TypedTermReader$TypeReader" (126 : Nat) ({ cls := "TypedTermReader$TypePool", name := "setMeasures", desc := "(III)V" } : Jvm.MethodName)), (Jvm.Cond.methodLink "TypedTermReader$TypeReader" (59 : Nat) ({ cls := "TypedTermReader$TypeReader", name := "putAside", desc := "(I)V" } : Jvm.MethodName)), (Jvm.Cond.instanceMethod ({ cls := "TypedTermReader$TypeReader", name := "putAside", desc := "(I)V" } : Jvm.MethodName)), (Jvm.Cond.methodLink "TypedTermReader$TypeReader" (66 : Nat) ({ cls := "TypedTermReader$TypePool", name := "function", desc := "(II)I" } : Jvm.MethodName)), (Jvm.Cond.instanceMethod ({ cls := "TypedTermReader$TypePool", name := "function", desc := "(II)I" } : Jvm.MethodName)), (Jvm.Cond.selects "TypedTermReader$TypePool" ({ cls := "TypedTermReader$TypePool", name := "function", desc := "(II)I" } : Jvm.MethodName) ({ cls := "TypedTermReader$TypePool", name := "function", desc := "(II)I" } : Jvm.MethodName)), (Jvm.Cond.methodLink "TypedTermReader$TypeReader" (47 : Nat) ({ cls := "TypedTermReader$TypePool", name := "isLarge", desc := "(I)Z" } : Jvm.MethodName)), (Jvm.Cond.instanceMethod ({ cls := "TypedTermReader$TypePool", name := "isLarge", desc := "(I)Z" } : Jvm.MethodName)), (Jvm.Cond.selects "TypedTermReader$TypePool" ({ cls := "TypedTermReader$TypePool", name := "isLarge", desc := "(I)Z" } : Jvm.MethodName) ({ cls := "TypedTermReader$TypePool", name := "isLarge", desc := "(I)Z" } : Jvm.MethodName)), (Jvm.Cond.methodLink "TypedTermReader$TermReader" (222 : Nat) ({ cls := "TypedTermReader$TypePool", name := "unknown", desc := "()I" } : Jvm.MethodName)), (Jvm.Cond.methodLink "TypedTermReader$TermReader" (225 : Nat) ({ cls := "TypedTermReader$Scope", name := "isFull", desc := "()Z" } : Jvm.MethodName)), (Jvm.Cond.instanceMethod ({ cls := "TypedTermReader$Scope", name := "isFull", desc := "()Z" } : Jvm.MethodName)), (Jvm.Cond.selects "TypedTermReader$Scope" ({ cls := "TypedTermReader$Scope", name := "isFull", desc := "()Z" } : Jvm.MethodName) ({ cls := "TypedTermReader$Scope", name := "isFull", desc := "()Z" } : Jvm.MethodName)), (Jvm.Cond.methodLink "TypedTermReader$TermReader" (228 : Nat) ({ cls := "TypedTermReader$Scope", name := "add", desc := "(III)V" } : Jvm.MethodName)), (Jvm.Cond.instanceMethod ({ cls := "TypedTermReader$Scope", name := "add", desc := "(III)V" } : Jvm.MethodName)), (Jvm.Cond.selects "TypedTermReader$Scope" ({ cls := "TypedTermReader$Scope", name := "add", desc := "(III)V" } : Jvm.MethodName) ({ cls := "TypedTermReader$Scope", name := "add", desc := "(III)V" } : Jvm.MethodName)), (Jvm.Cond.methodLink "TypedTermReader$TermReader" (212 : Nat) ({ cls := "TypedTermReader$TermReader", name := "bind", desc := "(III)I" } : Jvm.MethodName)), (Jvm.Cond.instanceMethod ({ cls := "TypedTermReader$TermReader", name := "bind", desc := "(III)I" } : Jvm.MethodName)), (Jvm.Cond.methodLink "TypedTermReader$TermReader" (215 : Nat) ({ cls := "TypedTermReader$Scope", name := "typeOf", desc := "(I)I" } : Jvm.MethodName)), (Jvm.Cond.instanceMethod ({ cls := "TypedTermReader$Scope", name := "typeOf", desc := "(I)I" } : Jvm.MethodName)), (Jvm.Cond.selects "TypedTermReader$Scope" ({ cls := "TypedTermReader$Scope", name := "typeOf", desc := "(I)I" } : Jvm.MethodName) ({ cls := "TypedTermReader$Scope", name := "typeOf", desc := "(I)I" } : Jvm.MethodName)), (Jvm.Cond.methodLink "TypedTermReader$TermReader" (218 : Nat) ({ cls := "TypedTermReader$TermTree", name := "abstraction", desc := "(II)I" } : Jvm.MethodName))]
def aW15 : List Cond := [(Jvm.Cond.instanceMethod ({ cls := "TypedTermReader$TermTree", name := "abstraction", desc := "(II)I" } : Jvm.MethodName)), (Jvm.Cond.selects "TypedTermReader$TermTree" ({ cls := "TypedTermReader$TermTree", name := "abstraction", desc := "(II)I" } : Jvm.MethodName) ({ cls := "TypedTermReader$TermTree", name := "abstraction", desc := "(II)I" } : Jvm.MethodName)), (Jvm.Cond.methodLink "TypedTermReader$TermTree" (49 : Nat) ({ cls := "TypedTermReader$TypePool", name := "function", desc := "(II)I" } : Jvm.MethodName)), (Jvm.Cond.methodLink "TypedTermReader$TermTree" (39 : Nat) ({ cls := "TypedTermReader$TermTree", name := "add", desc := "(IIII)I" } : Jvm.MethodName)), (Jvm.Cond.instanceMethod ({ cls := "TypedTermReader$TermTree", name := "add", desc := "(IIII)I" } : Jvm.MethodName)), (Jvm.Cond.methodLink "TypedTermReader$TermReader" (145 : Nat) ({ cls := "TypedTermReader$TermReader", name := "constantLeaf", desc := "(I)I" } : Jvm.MethodName)), (Jvm.Cond.instanceMethod ({ cls := "TypedTermReader$TermReader", name := "constantLeaf", desc := "(I)I" } : Jvm.MethodName)), (Jvm.Cond.methodLink "TypedTermReader$TermReader" (238 : Nat) ({ cls := "TypedTermReader$TermReader", name := "constantLeaf", desc := "(II)I" } : Jvm.MethodName)), (Jvm.Cond.instanceMethod ({ cls := "TypedTermReader$TermReader", name := "constantLeaf", desc := "(II)I" } : Jvm.MethodName)), (Jvm.Cond.methodLink "TypedTermReader$TermReader" (240 : Nat) ({ cls := "TypedTermReader$ConstantTable", name := "newType", desc := "(I)I" } : Jvm.MethodName)), (Jvm.Cond.instanceMethod ({ cls := "TypedTermReader$ConstantTable", name := "newType", desc := "(I)I" } : Jvm.MethodName)), (Jvm.Cond.selects "TypedTermReader$ConstantTable" ({ cls := "TypedTermReader$ConstantTable", name := "newType", desc := "(I)I" } : Jvm.MethodName) ({ cls := "TypedTermReader$ConstantTable", name := "newType", desc := "(I)I" } : Jvm.MethodName)), (Jvm.Cond.methodLink "TypedTermReader$ConstantTable" (66 : Nat) ({ cls := "TypedTermReader$TypeTable", name := "takenBy", desc := "(I)I" } : Jvm.MethodName)), (Jvm.Cond.methodLink "TypedTermReader$ConstantTable" (72 : Nat) ({ cls := "TypedTermReader$ConstantTable", name := "variable", desc := "(III)I" } : Jvm.MethodName)), (Jvm.Cond.instanceMethod ({ cls := "TypedTermReader$ConstantTable", name := "variable", desc := "(III)I" } : Jvm.MethodName)), (Jvm.Cond.methodLink "TypedTermReader$ConstantTable" (84 : Nat) ({ cls := "TypedTermReader$TypePool", name := "unknown", desc := "()I" } : Jvm.MethodName)), (Jvm.Cond.methodLink "TypedTermReader$ConstantTable" (76 : Nat) ({ cls := "TypedTermReader$TypePool", name := "add", desc := "(III)I" } : Jvm.MethodName)), (Jvm.Cond.methodLink "TypedTermReader$TermReader" (235 : Nat) ({ cls := "TypedTermReader$TermTree", name := "leaf", desc := "(II)I" } : Jvm.MethodName)), (Jvm.Cond.instanceMethod ({ cls := "TypedTermReader$TermTree", name := "leaf", desc := "(II)I" } : Jvm.MethodName)), (Jvm.Cond.selects "TypedTermReader$TermTree" ({ cls := "TypedTermReader$TermTree", name := "leaf", desc := "(II)I" } : Jvm.MethodName) ({ cls := "TypedTermReader$TermTree", name := "leaf", desc := "(II)I" } : Jvm.MethodName)), (Jvm.Cond.methodLink "TypedTermReader$TermReader" (121 : Nat) ({ cls := "TypedTermReader$TermTree", name := "application", desc := "(II)I" } : Jvm.MethodName)), (Jvm.Cond.instanceMethod ({ cls := "TypedTermReader$TermTree", name := "application", desc := "(II)I" } : Jvm.MethodName)), (Jvm.Cond.selects "TypedTermReader$TermTree" ({ cls := "TypedTermReader$TermTree", name := "application", desc := "(II)I" } : Jvm.MethodName) ({ cls := "TypedTermReader$TermTree", name := "application", desc := "(II)I" } : Jvm.MethodName)), (Jvm.Cond.methodLink "TypedTermReader$TermTree" (43 : Nat) ({ cls := "TypedTermReader$TypePool", name := "applied", desc := "(II)I" } : Jvm.MethodName)), (Jvm.Cond.instanceMethod ({ cls := "TypedTermReader$TypePool", name := "applied", desc := "(II)I" } : Jvm.MethodName)), (Jvm.Cond.selects "TypedTermReader$TypePool" ({ cls := "TypedTermReader$TypePool", name := "applied", desc := "(II)I" } : Jvm.MethodName) ({ cls := "TypedTermReader$TypePool", name := "applied", desc := "(II)I" } : Jvm.MethodName)), (Jvm.Cond.methodLink "TypedTermReader$TypePool" (70 : Nat) ({ cls := "TypedTermReader$TypePool", name := "equate", desc := "(II)V" } : Jvm.MethodName)), (Jvm.Cond.instanceMethod ({ cls := "TypedTermReader$TypePool", name := "equate", desc := "(II)V" } : Jvm.MethodName)), (Jvm.Cond.selects "TypedTermReader$TypePool" ({ cls := "TypedTermReader$TypePool", name := "equate", desc := "(II)V" } : Jvm.MethodName) ({ cls := "TypedTermReader$TypePool", name := "equate", desc := "(II)V" } : Jvm.MethodName)), (Jvm.Cond.methodLink "TypedTermReader$TypePool" (81 : Nat) ({ cls := "TypedTermReader$TypePool", name := "join", desc := "(II)V" } : Jvm.MethodName)), (Jvm.Cond.instanceMethod ({ cls := "TypedTermReader$TypePool", name := "join", desc := "(II)V" } : Jvm.MethodName)), (Jvm.Cond.methodLink "TypedTermReader$TypePool" (84 : Nat) ({ cls := "TypedTermReader$TypePool", name := "joinParts", desc := "(II)V" } : Jvm.MethodName))]
def aW16 : List Cond := [(Jvm.Cond.instanceMethod ({ cls := "TypedTermReader$TypePool", name := "joinParts", desc := "(II)V" } : Jvm.MethodName)), (Jvm.Cond.methodLink "TypedTermReader$TypePool" (74 : Nat) ({ cls := "TypedTermReader$TypePool", name := "function", desc := "(II)I" } : Jvm.MethodName)), (Jvm.Cond.methodLink "TypedTermReader$TermReader" (142 : Nat) ({ cls := "TypedTermReader$TermReader", name := "readApplications", desc := "(I)I" } : Jvm.MethodName)), (Jvm.Cond.instanceMethod ({ cls := "TypedTermReader$TermReader", name := "readApplications", desc := "(I)I" } : Jvm.MethodName)), (Jvm.Cond.methodLink "TypedTermReader$TermReader" (148 : Nat) ({ cls := "TypedTermReader$TermReader", name := "readAtom", desc := "(I)I" } : Jvm.MethodName)), (Jvm.Cond.instanceMethod ({ cls := "TypedTermReader$TermReader", name := "readAtom", desc := "(I)I" } : Jvm.MethodName)), (Jvm.Cond.methodLink "TypedTermReader$TermReader" (154 : Nat) ({ cls := "TypedTermReader$TermReader", name := "readInside", desc := "(I)I" } : Jvm.MethodName)), (Jvm.Cond.instanceMethod ({ cls := "TypedTermReader$TermReader", name := "readInside", desc := "(I)I" } : Jvm.MethodName)), (Jvm.Cond.methodLink "TypedTermReader$TermReader" (169 : Nat) ({ cls := "TypedTermReader$TermReader", name := "isLoneSign", desc := "()Z" } : Jvm.MethodName)), (Jvm.Cond.instanceMethod ({ cls := "TypedTermReader$TermReader", name := "isLoneSign", desc := "()Z" } : Jvm.MethodName)), (Jvm.Cond.methodLinkNest "TypedTermReader$TermReader" (106 : Nat) ({ cls := "TypedTermReader", name := "strengthOf", desc := "(I)I" } : Jvm.MethodName) "TypedTermReader"), (Jvm.Cond.static ({ cls := "TypedTermReader", name := "strengthOf", desc := "(I)I" } : Jvm.MethodName)), (Jvm.Cond.methodLink "TypedTermReader$TermReader" (184 : Nat) ({ cls := "TypedTermReader$Text", name := "isRightNext", desc := "()Z" } : Jvm.MethodName)), (Jvm.Cond.instanceMethod ({ cls := "TypedTermReader$Text", name := "isRightNext", desc := "()Z" } : Jvm.MethodName)), (Jvm.Cond.selects "TypedTermReader$Text" ({ cls := "TypedTermReader$Text", name := "isRightNext", desc := "()Z" } : Jvm.MethodName) ({ cls := "TypedTermReader$Text", name := "isRightNext", desc := "()Z" } : Jvm.MethodName)), (Jvm.Cond.methodLink "TypedTermReader$TermReader" (117 : Nat) ({ cls := "TypedTermReader$TermReader", name := "constantOfToken", desc := "()I" } : Jvm.MethodName)), (Jvm.Cond.instanceMethod ({ cls := "TypedTermReader$TermReader", name := "constantOfToken", desc := "()I" } : Jvm.MethodName)), (Jvm.Cond.methodLink "TypedTermReader$TermReader" (181 : Nat) ({ cls := "TypedTermReader$TypePool", name := "equate", desc := "(II)V" } : Jvm.MethodName)), (Jvm.Cond.methodLink "TypedTermReader$TermReader" (160 : Nat) ({ cls := "TypedTermReader$TermReader", name := "numeral", desc := "(I)I" } : Jvm.MethodName)), (Jvm.Cond.instanceMethod ({ cls := "TypedTermReader$TermReader", name := "numeral", desc := "(I)I" } : Jvm.MethodName)), (Jvm.Cond.methodLink "TypedTermReader$TermReader" (163 : Nat) ({ cls := "TypedTermReader$TermReader", name := "nameOfToken", desc := "()I" } : Jvm.MethodName)), (Jvm.Cond.instanceMethod ({ cls := "TypedTermReader$TermReader", name := "nameOfToken", desc := "()I" } : Jvm.MethodName)), (Jvm.Cond.methodLink "TypedTermReader$TermReader" (232 : Nat) ({ cls := "TypedTermReader$Scope", name := "find", desc := "(LTypedTermReader$Text;)I" } : Jvm.MethodName)), (Jvm.Cond.instanceMethod ({ cls := "TypedTermReader$Scope", name := "find", desc := "(LTypedTermReader$Text;)I" } : Jvm.MethodName)), (Jvm.Cond.selects "TypedTermReader$Scope" ({ cls := "TypedTermReader$Scope", name := "find", desc := "(LTypedTermReader$Text;)I" } : Jvm.MethodName) ({ cls := "TypedTermReader$Scope", name := "find", desc := "(LTypedTermReader$Text;)I" } : Jvm.MethodName)), (Jvm.Cond.methodLinkNest "TypedTermReader$Scope" (37 : Nat) ({ cls := "TypedTermReader", name := "sameBytes", desc := "([BII[BI)Z" } : Jvm.MethodName) "TypedTermReader"), (Jvm.Cond.methodLinkNest "TypedTermReader$TermReader" (151 : Nat) ({ cls := "TypedTermReader", name := "startsAtom", desc := "(I)Z" } : Jvm.MethodName) "TypedTermReader"), (Jvm.Cond.static ({ cls := "TypedTermReader", name := "startsAtom", desc := "(I)Z" } : Jvm.MethodName)), (Jvm.Cond.methodLink "TypedTermReader$TermReader" (109 : Nat) ({ cls := "TypedTermReader$TermReader", name := "applyStronger", desc := "(III)I" } : Jvm.MethodName)), (Jvm.Cond.instanceMethod ({ cls := "TypedTermReader$TermReader", name := "applyStronger", desc := "(III)I" } : Jvm.MethodName)), (Jvm.Cond.methodLink "TypedTermReader$TermReader" (132 : Nat) ({ cls := "TypedTermReader$TermReader", name := "holdsBefore", desc := "(II)Z" } : Jvm.MethodName)), (Jvm.Cond.static ({ cls := "TypedTermReader$TermReader", name := "holdsBefore", desc := "(II)Z" } : Jvm.MethodName))]
def aW17 : List Cond := [(Jvm.Cond.methodLink "TypedTermReader$TermReader" (113 : Nat) ({ cls := "TypedTermReader$Text", name := "failHere", desc := "(I)V" } : Jvm.MethodName)), (Jvm.Cond.methodLink "TypedTermReader$TermReader" (125 : Nat) ({ cls := "TypedTermReader$TermReader", name := "putAside", desc := "(II)V" } : Jvm.MethodName)), (Jvm.Cond.instanceMethod ({ cls := "TypedTermReader$TermReader", name := "putAside", desc := "(II)V" } : Jvm.MethodName)), (Jvm.Cond.methodLink "TypedTermReader$TermReader" (68 : Nat) ({ cls := "TypedTermReader$Text", name := "expectEnd", desc := "()V" } : Jvm.MethodName)), (Jvm.Cond.instanceMethod ({ cls := "TypedTermReader$Text", name := "expectEnd", desc := "()V" } : Jvm.MethodName)), (Jvm.Cond.selects "TypedTermReader$Text" ({ cls := "TypedTermReader$Text", name := "expectEnd", desc := "()V" } : Jvm.MethodName) ({ cls := "TypedTermReader$Text", name := "expectEnd", desc := "()V" } : Jvm.MethodName)), (Jvm.Cond.methodLink "TypedTermReader" (94 : Nat) ({ cls := "TypedTermReader$Text", name := "isRight", desc := "()Z" } : Jvm.MethodName)), (Jvm.Cond.methodLink "TypedTermReader" (97 : Nat) ({ cls := "TypedTermReader$TermReader", name := "faultOf", desc := "(I)I" } : Jvm.MethodName)), (Jvm.Cond.instanceMethod ({ cls := "TypedTermReader$TermReader", name := "faultOf", desc := "(I)I" } : Jvm.MethodName)), (Jvm.Cond.selects "TypedTermReader$TermReader" ({ cls := "TypedTermReader$TermReader", name := "faultOf", desc := "(I)I" } : Jvm.MethodName) ({ cls := "TypedTermReader$TermReader", name := "faultOf", desc := "(I)I" } : Jvm.MethodName)), (Jvm.Cond.methodLink "TypedTermReader$TermReader" (73 : Nat) ({ cls := "TypedTermReader$TermTree", name := "isLarge", desc := "(I)Z" } : Jvm.MethodName)), (Jvm.Cond.instanceMethod ({ cls := "TypedTermReader$TermTree", name := "isLarge", desc := "(I)Z" } : Jvm.MethodName)), (Jvm.Cond.selects "TypedTermReader$TermTree" ({ cls := "TypedTermReader$TermTree", name := "isLarge", desc := "(I)Z" } : Jvm.MethodName) ({ cls := "TypedTermReader$TermTree", name := "isLarge", desc := "(I)Z" } : Jvm.MethodName)), (Jvm.Cond.methodLink "TypedTermReader$TermReader" (93 : Nat) ({ cls := "TypedTermReader$TypePool", name := "measureAll", desc := "()Z" } : Jvm.MethodName)), (Jvm.Cond.instanceMethod ({ cls := "TypedTermReader$TypePool", name := "measureAll", desc := "()Z" } : Jvm.MethodName)), (Jvm.Cond.selects "TypedTermReader$TypePool" ({ cls := "TypedTermReader$TypePool", name := "measureAll", desc := "()Z" } : Jvm.MethodName) ({ cls := "TypedTermReader$TypePool", name := "measureAll", desc := "()Z" } : Jvm.MethodName)), (Jvm.Cond.methodLink "TypedTermReader$TypePool" (87 : Nat) ({ cls := "TypedTermReader$TypePool", name := "measureWithParts", desc := "(I)Z" } : Jvm.MethodName)), (Jvm.Cond.instanceMethod ({ cls := "TypedTermReader$TypePool", name := "measureWithParts", desc := "(I)Z" } : Jvm.MethodName)), (Jvm.Cond.constant "TypedTermReader$TypePool" (91 : Nat) (34000 : Int32)), (Jvm.Cond.methodLink "TypedTermReader$TypePool" (92 : Nat) ({ cls := "TypedTermReader$TypePool", name := "unmeasuredPart", desc := "(I)I" } : Jvm.MethodName)), (Jvm.Cond.instanceMethod ({ cls := "TypedTermReader$TypePool", name := "unmeasuredPart", desc := "(I)I" } : Jvm.MethodName)), (Jvm.Cond.methodLink "TypedTermReader$TermReader" (97 : Nat) ({ cls := "TypedTermReader$TermTree", name := "hasLargeType", desc := "()Z" } : Jvm.MethodName)), (Jvm.Cond.instanceMethod ({ cls := "TypedTermReader$TermTree", name := "hasLargeType", desc := "()Z" } : Jvm.MethodName)), (Jvm.Cond.selects "TypedTermReader$TermTree" ({ cls := "TypedTermReader$TermTree", name := "hasLargeType", desc := "()Z" } : Jvm.MethodName) ({ cls := "TypedTermReader$TermTree", name := "hasLargeType", desc := "()Z" } : Jvm.MethodName)), (Jvm.Cond.methodLink "TypedTermReader$TermTree" (57 : Nat) ({ cls := "TypedTermReader$TypePool", name := "isLarge", desc := "(I)Z" } : Jvm.MethodName)), (Jvm.Cond.methodLink "TypedTermReader" (101 : Nat) ({ cls := "TypedTermReader$Text", name := "failAsWhole", desc := "(I)V" } : Jvm.MethodName)), (Jvm.Cond.instanceMethod ({ cls := "TypedTermReader$Text", name := "failAsWhole", desc := "(I)V" } : Jvm.MethodName)), (Jvm.Cond.selects "TypedTermReader$Text" ({ cls := "TypedTermReader$Text", name := "failAsWhole", desc := "(I)V" } : Jvm.MethodName) ({ cls := "TypedTermReader$Text", name := "failAsWhole", desc := "(I)V" } : Jvm.MethodName)), (Jvm.Cond.methodLink "TypedTermReader" (108 : Nat) ({ cls := "TypedTermReader$ShownTerm", name := "fill", desc := "(LTypedTermReader$TermTree;ILTypedTermReader$TypePool;)V" } : Jvm.MethodName)), (Jvm.Cond.instanceMethod ({ cls := "TypedTermReader$ShownTerm", name := "fill", desc := "(LTypedTermReader$TermTree;ILTypedTermReader$TypePool;)V" } : Jvm.MethodName)), (Jvm.Cond.selects "TypedTermReader$ShownTerm" ({ cls := "TypedTermReader$ShownTerm", name := "fill", desc := "(LTypedTermReader$TermTree;ILTypedTermReader$TypePool;)V" } : Jvm.MethodName) ({ cls := "TypedTermReader$ShownTerm", name := "fill", desc := "(LTypedTermReader$TermTree;ILTypedTermReader$TypePool;)V" } : Jvm.MethodName)), (Jvm.Cond.methodLink "TypedTermReader$ShownTerm" (34 : Nat) ({ cls := "TypedTermReader$TypePool", name := "write", desc := "(I[II)I" } : Jvm.MethodName))]
def aW18 : List Cond := [(Jvm.Cond.instanceMethod ({ cls := "TypedTermReader$TypePool", name := "write", desc := "(I[II)I" } : Jvm.MethodName)), (Jvm.Cond.selects "TypedTermReader$TypePool" ({ cls := "TypedTermReader$TypePool", name := "write", desc := "(I[II)I" } : Jvm.MethodName) ({ cls := "TypedTermReader$TypePool", name := "write", desc := "(I[II)I" } : Jvm.MethodName)), (Jvm.Cond.methodLink "TypedTermReader$TypePool" (108 : Nat) ({ cls := "TypedTermReader$TypePool", name := "codeOf", desc := "(I)I" } : Jvm.MethodName)), (Jvm.Cond.instanceMethod ({ cls := "TypedTermReader$TypePool", name := "codeOf", desc := "(I)I" } : Jvm.MethodName)), (Jvm.Cond.methodLink "TypedTermReader$TypePool" (111 : Nat) ({ cls := "TypedTermReader$TypePool", name := "putAside", desc := "(II)I" } : Jvm.MethodName)), (Jvm.Cond.instanceMethod ({ cls := "TypedTermReader$TypePool", name := "putAside", desc := "(II)I" } : Jvm.MethodName)), (Jvm.Cond.methodLink "TypedTermReader$ShownTerm" (43 : Nat) ({ cls := "TypedTermReader$ShownTerm", name := "putAside", desc := "(II)I" } : Jvm.MethodName)), (Jvm.Cond.instanceMethod ({ cls := "TypedTermReader$ShownTerm", name := "putAside", desc := "(II)I" } : Jvm.MethodName)), (Jvm.Cond.methodLink "TypedTermReaderLaw" (49 : Nat) ({ cls := "TypedTermReaderLaw", name := "constant", desc := "(LTypedTermReader;I[J)I" } : Jvm.MethodName)), (Jvm.Cond.static ({ cls := "TypedTermReaderLaw", name := "constant", desc := "(LTypedTermReader;I[J)I" } : Jvm.MethodName)), (Jvm.Cond.methodLink "TypedTermReaderLaw" (15 : Nat) ({ cls := "TypedTermReader", name := "constant", desc := "(I)I" } : Jvm.MethodName)), (Jvm.Cond.instanceMethod ({ cls := "TypedTermReader", name := "constant", desc := "(I)I" } : Jvm.MethodName)), (Jvm.Cond.selects "TypedTermReader" ({ cls := "TypedTermReader", name := "constant", desc := "(I)I" } : Jvm.MethodName) ({ cls := "TypedTermReader", name := "constant", desc := "(I)I" } : Jvm.MethodName)), (Jvm.Cond.methodLink "TypedTermReader" (116 : Nat) ({ cls := "TypedTermReader", name := "declareConstant", desc := "()I" } : Jvm.MethodName)), (Jvm.Cond.instanceMethod ({ cls := "TypedTermReader", name := "declareConstant", desc := "()I" } : Jvm.MethodName)), (Jvm.Cond.methodLink "TypedTermReader" (159 : Nat) ({ cls := "TypedTermReader", name := "canBeDeclared", desc := "(I)Z" } : Jvm.MethodName)), (Jvm.Cond.static ({ cls := "TypedTermReader", name := "canBeDeclared", desc := "(I)Z" } : Jvm.MethodName)), (Jvm.Cond.methodLink "TypedTermReader" (162 : Nat) ({ cls := "TypedTermReader$Text", name := "advance", desc := "()V" } : Jvm.MethodName)), (Jvm.Cond.methodLink "TypedTermReader" (165 : Nat) ({ cls := "TypedTermReader$Text", name := "failHere", desc := "(I)V" } : Jvm.MethodName)), (Jvm.Cond.methodLink "TypedTermReader" (168 : Nat) ({ cls := "TypedTermReader$Text", name := "expect", desc := "(I)V" } : Jvm.MethodName)), (Jvm.Cond.methodLink "TypedTermReader" (171 : Nat) ({ cls := "TypedTermReader$TypeReader", name := "readWritten", desc := "(I)I" } : Jvm.MethodName)), (Jvm.Cond.methodLink "TypedTermReader" (174 : Nat) ({ cls := "TypedTermReader$Text", name := "expectEnd", desc := "()V" } : Jvm.MethodName)), (Jvm.Cond.methodLink "TypedTermReader" (177 : Nat) ({ cls := "TypedTermReader", name := "faultOfConstant", desc := "(II)I" } : Jvm.MethodName)), (Jvm.Cond.instanceMethod ({ cls := "TypedTermReader", name := "faultOfConstant", desc := "(II)I" } : Jvm.MethodName)), (Jvm.Cond.methodLink "TypedTermReader" (193 : Nat) ({ cls := "TypedTermReader$NameTable", name := "find", desc := "([BII)I" } : Jvm.MethodName)), (Jvm.Cond.methodLink "TypedTermReader" (185 : Nat) ({ cls := "TypedTermReader$ConstantTable", name := "add", desc := "([BIII)I" } : Jvm.MethodName)), (Jvm.Cond.instanceMethod ({ cls := "TypedTermReader$ConstantTable", name := "add", desc := "([BIII)I" } : Jvm.MethodName)), (Jvm.Cond.selects "TypedTermReader$ConstantTable" ({ cls := "TypedTermReader$ConstantTable", name := "add", desc := "([BIII)I" } : Jvm.MethodName) ({ cls := "TypedTermReader$ConstantTable", name := "add", desc := "([BIII)I" } : Jvm.MethodName)), (Jvm.Cond.methodLink "TypedTermReader$ConstantTable" (56 : Nat) ({ cls := "TypedTermReader$NameTable", name := "add", desc := "([BII)I" } : Jvm.MethodName)), (Jvm.Cond.methodLink "TypedTermReader$ConstantTable" (60 : Nat) ({ cls := "TypedTermReader$TypePool", name := "write", desc := "(I[II)I" } : Jvm.MethodName)), (Jvm.Cond.methodLink "TypedTermReaderLaw" (52 : Nat) ({ cls := "TypedTermReaderLaw", name := "type", desc := "(LTypedTermReader;I[J)I" } : Jvm.MethodName)), (Jvm.Cond.static ({ cls := "TypedTermReaderLaw", name := "type", desc := "(LTypedTermReader;I[J)I" } : Jvm.MethodName))]
def aW19 : List Cond := [(Jvm.Cond.methodLink "TypedTermReaderLaw" (18 : Nat) ({ cls := "TypedTermReader", name := "type", desc := "(I)I" } : Jvm.MethodName)), (Jvm.Cond.instanceMethod ({ cls := "TypedTermReader", name := "type", desc := "(I)I" } : Jvm.MethodName)), (Jvm.Cond.selects "TypedTermReader" ({ cls := "TypedTermReader", name := "type", desc := "(I)I" } : Jvm.MethodName) ({ cls := "TypedTermReader", name := "type", desc := "(I)I" } : Jvm.MethodName)), (Jvm.Cond.methodLink "TypedTermReader" (119 : Nat) ({ cls := "TypedTermReader", name := "declareType", desc := "()I" } : Jvm.MethodName)), (Jvm.Cond.instanceMethod ({ cls := "TypedTermReader", name := "declareType", desc := "()I" } : Jvm.MethodName)), (Jvm.Cond.methodLink "TypedTermReader" (207 : Nat) ({ cls := "TypedTermReader", name := "faultOfType", desc := "(II)I" } : Jvm.MethodName)), (Jvm.Cond.instanceMethod ({ cls := "TypedTermReader", name := "faultOfType", desc := "(II)I" } : Jvm.MethodName)), (Jvm.Cond.methodLink "TypedTermReader" (210 : Nat) ({ cls := "TypedTermReader$TypeTable", name := "add", desc := "([BIII)V" } : Jvm.MethodName)), (Jvm.Cond.instanceMethod ({ cls := "TypedTermReader$TypeTable", name := "add", desc := "([BIII)V" } : Jvm.MethodName)), (Jvm.Cond.selects "TypedTermReader$TypeTable" ({ cls := "TypedTermReader$TypeTable", name := "add", desc := "([BIII)V" } : Jvm.MethodName) ({ cls := "TypedTermReader$TypeTable", name := "add", desc := "([BIII)V" } : Jvm.MethodName)), (Jvm.Cond.methodLink "TypedTermReader$TypeTable" (26 : Nat) ({ cls := "TypedTermReader$NameTable", name := "add", desc := "([BII)I" } : Jvm.MethodName)), (Jvm.Cond.methodLink "TypedTermReaderLaw" (63 : Nat) ({ cls := "TypedTermReaderLaw", name := "symbol", desc := "(LTypedTermReader;I[J)I" } : Jvm.MethodName)), (Jvm.Cond.static ({ cls := "TypedTermReaderLaw", name := "symbol", desc := "(LTypedTermReader;I[J)I" } : Jvm.MethodName)), (Jvm.Cond.methodLink "TypedTermReaderLaw" (21 : Nat) ({ cls := "TypedTermReader", name := "symbol", desc := "(I)I" } : Jvm.MethodName)), (Jvm.Cond.instanceMethod ({ cls := "TypedTermReader", name := "symbol", desc := "(I)I" } : Jvm.MethodName)), (Jvm.Cond.selects "TypedTermReader" ({ cls := "TypedTermReader", name := "symbol", desc := "(I)I" } : Jvm.MethodName) ({ cls := "TypedTermReader", name := "symbol", desc := "(I)I" } : Jvm.MethodName)), (Jvm.Cond.methodLink "TypedTermReader" (128 : Nat) ({ cls := "TypedTermReader$ShownTerm", name := "has", desc := "(I)Z" } : Jvm.MethodName)), (Jvm.Cond.instanceMethod ({ cls := "TypedTermReader$ShownTerm", name := "has", desc := "(I)Z" } : Jvm.MethodName)), (Jvm.Cond.selects "TypedTermReader$ShownTerm" ({ cls := "TypedTermReader$ShownTerm", name := "has", desc := "(I)Z" } : Jvm.MethodName) ({ cls := "TypedTermReader$ShownTerm", name := "has", desc := "(I)Z" } : Jvm.MethodName)), (Jvm.Cond.methodLink "TypedTermReaderLaw" (66 : Nat) ({ cls := "TypedTermReaderLaw", name := "typeSymbol", desc := "(LTypedTermReader;II[J)I" } : Jvm.MethodName)), (Jvm.Cond.static ({ cls := "TypedTermReaderLaw", name := "typeSymbol", desc := "(LTypedTermReader;II[J)I" } : Jvm.MethodName)), (Jvm.Cond.methodLink "TypedTermReaderLaw" (26 : Nat) ({ cls := "TypedTermReader", name := "typeSymbol", desc := "(II)I" } : Jvm.MethodName)), (Jvm.Cond.instanceMethod ({ cls := "TypedTermReader", name := "typeSymbol", desc := "(II)I" } : Jvm.MethodName)), (Jvm.Cond.selects "TypedTermReader" ({ cls := "TypedTermReader", name := "typeSymbol", desc := "(II)I" } : Jvm.MethodName) ({ cls := "TypedTermReader", name := "typeSymbol", desc := "(II)I" } : Jvm.MethodName)), (Jvm.Cond.methodLink "TypedTermReader" (138 : Nat) ({ cls := "TypedTermReader$ShownTerm", name := "hasInType", desc := "(II)Z" } : Jvm.MethodName)), (Jvm.Cond.instanceMethod ({ cls := "TypedTermReader$ShownTerm", name := "hasInType", desc := "(II)Z" } : Jvm.MethodName)), (Jvm.Cond.selects "TypedTermReader$ShownTerm" ({ cls := "TypedTermReader$ShownTerm", name := "hasInType", desc := "(II)Z" } : Jvm.MethodName) ({ cls := "TypedTermReader$ShownTerm", name := "hasInType", desc := "(II)Z" } : Jvm.MethodName)), (Jvm.Cond.classLink "TypedTermReaderLaw" (31 : Nat) "TypedTermReaderModel"), (Jvm.Cond.instantiable "TypedTermReaderModel" (71 : Nat)), (Jvm.Cond.methodLink "TypedTermReaderLaw" (33 : Nat) ({ cls := "TypedTermReaderModel", name := "<init>", desc := "()V" } : Jvm.MethodName)), (Jvm.Cond.instanceMethod ({ cls := "TypedTermReaderModel", name := "<init>", desc := "()V" } : Jvm.MethodName)), (Jvm.Cond.methodLink "TypedTermReaderModel" (1 : Nat) ({ cls := "java/lang/Object", name := "<init>", desc := "()V" } : Jvm.MethodName))]
def aW20 : List Cond := [(Jvm.Cond.constant "TypedTermReaderModel" (29 : Nat) (55200 : Int32)), (Jvm.Cond.constant "TypedTermReaderModel" (33 : Nat) (60000 : Int32)), (Jvm.Cond.methodLink "TypedTermReaderModel" (161 : Nat) ({ cls := "TypedTermReaderModel", name := "node", desc := "(III)I" } : Jvm.MethodName)), (Jvm.Cond.instanceMethod ({ cls := "TypedTermReaderModel", name := "node", desc := "(III)I" } : Jvm.MethodName)), (Jvm.Cond.methodLink "TypedTermReaderModel" (165 : Nat) ({ cls := "TypedTermReaderModel", name := "function", desc := "(II)I" } : Jvm.MethodName)), (Jvm.Cond.instanceMethod ({ cls := "TypedTermReaderModel", name := "function", desc := "(II)I" } : Jvm.MethodName)), (Jvm.Cond.methodLink "TypedTermReaderModel" (174 : Nat) ({ cls := "TypedTermReaderModel", name := "spell", desc := "([JILjava/lang/String;)V" } : Jvm.MethodName)), (Jvm.Cond.static ({ cls := "TypedTermReaderModel", name := "spell", desc := "([JILjava/lang/String;)V" } : Jvm.MethodName)), (Jvm.Cond.methodLink "TypedTermReaderModel" (210 : Nat) ({ cls := "TypedTermReaderModel", name := "put", desc := "([JIII)V" } : Jvm.MethodName)), (Jvm.Cond.static ({ cls := "TypedTermReaderModel", name := "put", desc := "([JIII)V" } : Jvm.MethodName)), (Jvm.Cond.fieldLink "TypedTermReaderModel" (197 : Nat) "TypedTermReaderModel" "code" "I"), (Jvm.Cond.fieldLink "TypedTermReaderModel" (7 : Nat) "TypedTermReaderModel" "text" "[I"), (Jvm.Cond.fieldLink "TypedTermReaderModel" (218 : Nat) "TypedTermReaderModel" "fed" "I"), (Jvm.Cond.fieldLink "TypedTermReaderModel" (169 : Nat) "TypedTermReaderModel" "constants" "I"), (Jvm.Cond.fieldLink "TypedTermReaderModel" (182 : Nat) "TypedTermReaderModel" "typeNames" "I"), (Jvm.Cond.fieldLink "TypedTermReaderModel" (274 : Nat) "TypedTermReaderModel" "variables" "I"), (Jvm.Cond.fieldLink "TypedTermReaderModel" (13 : Nat) "TypedTermReaderModel" "constantName" "[J"), (Jvm.Cond.fieldLink "TypedTermReaderModel" (17 : Nat) "TypedTermReaderModel" "constantType" "[I"), (Jvm.Cond.fieldLink "TypedTermReaderModel" (20 : Nat) "TypedTermReaderModel" "operatorConstant" "[I"), (Jvm.Cond.fieldLink "TypedTermReaderModel" (23 : Nat) "TypedTermReaderModel" "typeName" "[J"), (Jvm.Cond.fieldLink "TypedTermReaderModel" (26 : Nat) "TypedTermReaderModel" "takes" "[I"), (Jvm.Cond.fieldLink "TypedTermReaderModel" (30 : Nat) "TypedTermReaderModel" "variableName" "[J"), (Jvm.Cond.fieldLink "TypedTermReaderModel" (34 : Nat) "TypedTermReaderModel" "kind" "[I"), (Jvm.Cond.fieldLink "TypedTermReaderModel" (37 : Nat) "TypedTermReaderModel" "first" "[I"), (Jvm.Cond.fieldLink "TypedTermReaderModel" (40 : Nat) "TypedTermReaderModel" "second" "[I"), (Jvm.Cond.fieldLink "TypedTermReaderModel" (43 : Nat) "TypedTermReaderModel" "same" "[I"), (Jvm.Cond.fieldLink "TypedTermReaderModel" (191 : Nat) "TypedTermReaderModel" "nodes" "I"), (Jvm.Cond.fieldLink "TypedTermReaderModel" (194 : Nat) "TypedTermReaderModel" "fixed" "I"), (Jvm.Cond.fieldLink "TypedTermReaderModel" (446 : Nat) "TypedTermReaderModel" "symbols" "I"), (Jvm.Cond.fieldLink "TypedTermReaderModel" (46 : Nat) "TypedTermReaderModel" "symbol" "[I"), (Jvm.Cond.fieldLink "TypedTermReaderModel" (49 : Nat) "TypedTermReaderModel" "typeAt" "[I"), (Jvm.Cond.fieldLink "TypedTermReaderModel" (52 : Nat) "TypedTermReaderModel" "typeRow" "[I")]
def aW21 : List Cond := [(Jvm.Cond.fieldLink "TypedTermReaderModel" (221 : Nat) "TypedTermReaderModel" "fault" "I"), (Jvm.Cond.fieldLink "TypedTermReaderModel" (55 : Nat) "TypedTermReaderModel" "place" "I"), (Jvm.Cond.fieldLink "TypedTermReaderModel" (224 : Nat) "TypedTermReaderModel" "length" "I"), (Jvm.Cond.fieldLink "TypedTermReaderModel" (233 : Nat) "TypedTermReaderModel" "at" "I"), (Jvm.Cond.fieldLink "TypedTermReaderModel" (230 : Nat) "TypedTermReaderModel" "tokens" "I"), (Jvm.Cond.fieldLink "TypedTermReaderModel" (59 : Nat) "TypedTermReaderModel" "token" "[I"), (Jvm.Cond.fieldLink "TypedTermReaderModel" (62 : Nat) "TypedTermReaderModel" "from" "[I"), (Jvm.Cond.fieldLink "TypedTermReaderModel" (65 : Nat) "TypedTermReaderModel" "value" "[I"), (Jvm.Cond.fieldLink "TypedTermReaderModel" (68 : Nat) "TypedTermReaderModel" "word" "[J"), (Jvm.Cond.fieldLink "TypedTermReaderModel" (298 : Nat) "TypedTermReaderModel" "now" "I"), (Jvm.Cond.fieldLink "TypedTermReaderModel" (307 : Nat) "TypedTermReaderModel" "deep" "I"), (Jvm.Cond.fieldLink "TypedTermReaderModel" (313 : Nat) "TypedTermReaderModel" "written" "I"), (Jvm.Cond.fieldLink "TypedTermReaderModel" (71 : Nat) "TypedTermReaderModel" "writtenKind" "[I"), (Jvm.Cond.fieldLink "TypedTermReaderModel" (74 : Nat) "TypedTermReaderModel" "writtenOf" "[I"), (Jvm.Cond.fieldLink "TypedTermReaderModel" (77 : Nat) "TypedTermReaderModel" "writtenFirst" "[I"), (Jvm.Cond.fieldLink "TypedTermReaderModel" (80 : Nat) "TypedTermReaderModel" "writtenNext" "[I"), (Jvm.Cond.fieldLink "TypedTermReaderModel" (83 : Nat) "TypedTermReaderModel" "writtenMany" "[I"), (Jvm.Cond.fieldLink "TypedTermReaderModel" (86 : Nat) "TypedTermReaderModel" "writtenWide" "[I"), (Jvm.Cond.fieldLink "TypedTermReaderModel" (89 : Nat) "TypedTermReaderModel" "writtenHigh" "[I"), (Jvm.Cond.fieldLink "TypedTermReaderModel" (310 : Nat) "TypedTermReaderModel" "parts" "I"), (Jvm.Cond.fieldLink "TypedTermReaderModel" (92 : Nat) "TypedTermReaderModel" "form" "[I"), (Jvm.Cond.fieldLink "TypedTermReaderModel" (95 : Nat) "TypedTermReaderModel" "one" "[I"), (Jvm.Cond.fieldLink "TypedTermReaderModel" (98 : Nat) "TypedTermReaderModel" "two" "[I"), (Jvm.Cond.fieldLink "TypedTermReaderModel" (101 : Nat) "TypedTermReaderModel" "three" "[I"), (Jvm.Cond.fieldLink "TypedTermReaderModel" (104 : Nat) "TypedTermReaderModel" "wide" "[I"), (Jvm.Cond.fieldLink "TypedTermReaderModel" (107 : Nat) "TypedTermReaderModel" "high" "[I"), (Jvm.Cond.fieldLink "TypedTermReaderModel" (316 : Nat) "TypedTermReaderModel" "waits" "I"), (Jvm.Cond.fieldLink "TypedTermReaderModel" (110 : Nat) "TypedTermReaderModel" "waiting" "[I"), (Jvm.Cond.fieldLink "TypedTermReaderModel" (113 : Nat) "TypedTermReaderModel" "leftPart" "[I"), (Jvm.Cond.fieldLink "TypedTermReaderModel" (384 : Nat) "TypedTermReaderModel" "bound" "I"), (Jvm.Cond.fieldLink "TypedTermReaderModel" (116 : Nat) "TypedTermReaderModel" "boundToken" "[I"), (Jvm.Cond.fieldLink "TypedTermReaderModel" (119 : Nat) "TypedTermReaderModel" "boundType" "[I")]
def aW22 : List Cond := [(Jvm.Cond.fieldLink "TypedTermReaderModel" (122 : Nat) "TypedTermReaderModel" "joinOne" "[I"), (Jvm.Cond.fieldLink "TypedTermReaderModel" (125 : Nat) "TypedTermReaderModel" "joinTwo" "[I"), (Jvm.Cond.fieldLink "TypedTermReaderModel" (128 : Nat) "TypedTermReaderModel" "general" "[I"), (Jvm.Cond.fieldLink "TypedTermReaderModel" (131 : Nat) "TypedTermReaderModel" "instead" "[I"), (Jvm.Cond.fieldLink "TypedTermReaderModel" (393 : Nat) "TypedTermReaderModel" "generals" "I"), (Jvm.Cond.fieldLink "TypedTermReaderModel" (405 : Nat) "TypedTermReaderModel" "inner" "I"), (Jvm.Cond.fieldLink "TypedTermReaderModel" (134 : Nat) "TypedTermReaderModel" "innerToken" "[I"), (Jvm.Cond.fieldLink "TypedTermReaderModel" (137 : Nat) "TypedTermReaderModel" "innerType" "[I"), (Jvm.Cond.fieldLink "TypedTermReaderModel" (417 : Nat) "TypedTermReaderModel" "made" "I"), (Jvm.Cond.fieldLink "TypedTermReaderModel" (140 : Nat) "TypedTermReaderModel" "madeSymbol" "[I"), (Jvm.Cond.fieldLink "TypedTermReaderModel" (143 : Nat) "TypedTermReaderModel" "madeType" "[I"), (Jvm.Cond.fieldLink "TypedTermReaderModel" (146 : Nat) "TypedTermReaderModel" "state" "[I"), (Jvm.Cond.fieldLink "TypedTermReaderModel" (149 : Nat) "TypedTermReaderModel" "typeWide" "[I"), (Jvm.Cond.fieldLink "TypedTermReaderModel" (152 : Nat) "TypedTermReaderModel" "typeHigh" "[I"), (Jvm.Cond.fieldLink "TypedTermReaderModel" (155 : Nat) "TypedTermReaderModel" "pile" "[I"), (Jvm.Cond.fieldLink "TypedTermReaderModel" (443 : Nat) "TypedTermReaderModel" "leftOver" "I"), (Jvm.Cond.fieldLink "TypedTermReaderModel" (158 : Nat) "TypedTermReaderModel" "number" "[I"), (Jvm.Cond.arrayClass Jvm.ClassFile.FieldType.long), (Jvm.Cond.methodLink "TypedTermReaderLaw" (45 : Nat) ({ cls := "TypedTermReaderModel", name := "thrown", desc := "()I" } : Jvm.MethodName)), (Jvm.Cond.instanceMethod ({ cls := "TypedTermReaderModel", name := "thrown", desc := "()I" } : Jvm.MethodName)), (Jvm.Cond.selects "TypedTermReaderModel" ({ cls := "TypedTermReaderModel", name := "thrown", desc := "()I" } : Jvm.MethodName) ({ cls := "TypedTermReaderModel", name := "thrown", desc := "()I" } : Jvm.MethodName)), (Jvm.Cond.methodLink "TypedTermReaderLaw" (38 : Nat) ({ cls := "TypedTermReaderModel", name := "feed", desc := "(IIIII)Z" } : Jvm.MethodName)), (Jvm.Cond.instanceMethod ({ cls := "TypedTermReaderModel", name := "feed", desc := "(IIIII)Z" } : Jvm.MethodName)), (Jvm.Cond.selects "TypedTermReaderModel" ({ cls := "TypedTermReaderModel", name := "feed", desc := "(IIIII)Z" } : Jvm.MethodName) ({ cls := "TypedTermReaderModel", name := "feed", desc := "(IIIII)Z" } : Jvm.MethodName)), (Jvm.Cond.methodLink "TypedTermReaderLaw" (44 : Nat) ({ cls := "TypedTermReaderModel", name := "term", desc := "(I)I" } : Jvm.MethodName)), (Jvm.Cond.instanceMethod ({ cls := "TypedTermReaderModel", name := "term", desc := "(I)I" } : Jvm.MethodName)), (Jvm.Cond.selects "TypedTermReaderModel" ({ cls := "TypedTermReaderModel", name := "term", desc := "(I)I" } : Jvm.MethodName) ({ cls := "TypedTermReaderModel", name := "term", desc := "(I)I" } : Jvm.MethodName)), (Jvm.Cond.methodLink "TypedTermReaderModel" (455 : Nat) ({ cls := "TypedTermReaderModel", name := "takes", desc := "(I)Z" } : Jvm.MethodName)), (Jvm.Cond.instanceMethod ({ cls := "TypedTermReaderModel", name := "takes", desc := "(I)Z" } : Jvm.MethodName)), (Jvm.Cond.methodLink "TypedTermReaderModel" (452 : Nat) ({ cls := "TypedTermReaderModel", name := "begin", desc := "(I)V" } : Jvm.MethodName)), (Jvm.Cond.instanceMethod ({ cls := "TypedTermReaderModel", name := "begin", desc := "(I)V" } : Jvm.MethodName)), (Jvm.Cond.methodLink "TypedTermReaderModel" (381 : Nat) ({ cls := "TypedTermReaderModel", name := "readTerm", desc := "()I" } : Jvm.MethodName))]
def aW23 : List Cond := [(Jvm.Cond.instanceMethod ({ cls := "TypedTermReaderModel", name := "readTerm", desc := "()I" } : Jvm.MethodName)), (Jvm.Cond.methodLink "TypedTermReaderModel" (353 : Nat) ({ cls := "TypedTermReaderModel", name := "readOperand", desc := "()I" } : Jvm.MethodName)), (Jvm.Cond.instanceMethod ({ cls := "TypedTermReaderModel", name := "readOperand", desc := "()I" } : Jvm.MethodName)), (Jvm.Cond.methodLink "TypedTermReaderModel" (304 : Nat) ({ cls := "TypedTermReaderModel", name := "look", desc := "(I)I" } : Jvm.MethodName)), (Jvm.Cond.instanceMethod ({ cls := "TypedTermReaderModel", name := "look", desc := "(I)I" } : Jvm.MethodName)), (Jvm.Cond.methodLink "TypedTermReaderModel" (301 : Nat) ({ cls := "TypedTermReaderModel", name := "scan", desc := "()V" } : Jvm.MethodName)), (Jvm.Cond.instanceMethod ({ cls := "TypedTermReaderModel", name := "scan", desc := "()V" } : Jvm.MethodName)), (Jvm.Cond.methodLink "TypedTermReaderModel" (285 : Nat) ({ cls := "TypedTermReaderModel", name := "behindBlanks", desc := "(I)I" } : Jvm.MethodName)), (Jvm.Cond.instanceMethod ({ cls := "TypedTermReaderModel", name := "behindBlanks", desc := "(I)I" } : Jvm.MethodName)), (Jvm.Cond.methodLink "TypedTermReaderModel" (226 : Nat) ({ cls := "TypedTermReaderModel", name := "byteAt", desc := "(I)I" } : Jvm.MethodName)), (Jvm.Cond.instanceMethod ({ cls := "TypedTermReaderModel", name := "byteAt", desc := "(I)I" } : Jvm.MethodName)), (Jvm.Cond.methodLink "TypedTermReaderModel" (260 : Nat) ({ cls := "TypedTermReaderModel", name := "die", desc := "(II)V" } : Jvm.MethodName)), (Jvm.Cond.instanceMethod ({ cls := "TypedTermReaderModel", name := "die", desc := "(II)V" } : Jvm.MethodName)), (Jvm.Cond.methodLink "TypedTermReaderModel" (263 : Nat) ({ cls := "TypedTermReaderModel", name := "isLetter", desc := "(I)Z" } : Jvm.MethodName)), (Jvm.Cond.static ({ cls := "TypedTermReaderModel", name := "isLetter", desc := "(I)Z" } : Jvm.MethodName)), (Jvm.Cond.methodLink "TypedTermReaderModel" (288 : Nat) ({ cls := "TypedTermReaderModel", name := "scanWord", desc := "(I)V" } : Jvm.MethodName)), (Jvm.Cond.instanceMethod ({ cls := "TypedTermReaderModel", name := "scanWord", desc := "(I)V" } : Jvm.MethodName)), (Jvm.Cond.methodLink "TypedTermReaderModel" (267 : Nat) ({ cls := "TypedTermReaderModel", name := "isDigit", desc := "(I)Z" } : Jvm.MethodName)), (Jvm.Cond.static ({ cls := "TypedTermReaderModel", name := "isDigit", desc := "(I)Z" } : Jvm.MethodName)), (Jvm.Cond.methodLink "TypedTermReaderModel" (238 : Nat) ({ cls := "TypedTermReaderModel", name := "isNext", desc := "(ILjava/lang/String;)Z" } : Jvm.MethodName)), (Jvm.Cond.instanceMethod ({ cls := "TypedTermReaderModel", name := "isNext", desc := "(ILjava/lang/String;)Z" } : Jvm.MethodName)), (Jvm.Cond.methodLink "TypedTermReaderModel" (242 : Nat) ({ cls := "TypedTermReaderModel", name := "sign", desc := "(II)V" } : Jvm.MethodName)), (Jvm.Cond.instanceMethod ({ cls := "TypedTermReaderModel", name := "sign", desc := "(II)V" } : Jvm.MethodName)), (Jvm.Cond.methodLink "TypedTermReaderModel" (277 : Nat) ({ cls := "TypedTermReaderModel", name := "find", desc := "([JI[JI)I" } : Jvm.MethodName)), (Jvm.Cond.static ({ cls := "TypedTermReaderModel", name := "find", desc := "([JI[JI)I" } : Jvm.MethodName)), (Jvm.Cond.methodLink "TypedTermReaderModel" (214 : Nat) ({ cls := "TypedTermReaderModel", name := "alike", desc := "([JI[JI)Z" } : Jvm.MethodName)), (Jvm.Cond.static ({ cls := "TypedTermReaderModel", name := "alike", desc := "([JI[JI)Z" } : Jvm.MethodName)), (Jvm.Cond.methodLink "TypedTermReaderModel" (281 : Nat) ({ cls := "TypedTermReaderModel", name := "write", desc := "([JI[JI)V" } : Jvm.MethodName)), (Jvm.Cond.static ({ cls := "TypedTermReaderModel", name := "write", desc := "([JI[JI)V" } : Jvm.MethodName)), (Jvm.Cond.methodLink "TypedTermReaderModel" (292 : Nat) ({ cls := "TypedTermReaderModel", name := "scanNumeral", desc := "()V" } : Jvm.MethodName)), (Jvm.Cond.instanceMethod ({ cls := "TypedTermReaderModel", name := "scanNumeral", desc := "()V" } : Jvm.MethodName)), (Jvm.Cond.methodLink "TypedTermReaderModel" (295 : Nat) ({ cls := "TypedTermReaderModel", name := "scanSign", desc := "(I)V" } : Jvm.MethodName))]
def aW24 : List Cond := [(Jvm.Cond.instanceMethod ({ cls := "TypedTermReaderModel", name := "scanSign", desc := "(I)V" } : Jvm.MethodName)), (Jvm.Cond.methodLink "TypedTermReaderModel" (362 : Nat) ({ cls := "TypedTermReaderModel", name := "readBinder", desc := "(I)I" } : Jvm.MethodName)), (Jvm.Cond.instanceMethod ({ cls := "TypedTermReaderModel", name := "readBinder", desc := "(I)I" } : Jvm.MethodName)), (Jvm.Cond.methodLink "TypedTermReaderModel" (328 : Nat) ({ cls := "TypedTermReaderModel", name := "enter", desc := "()V" } : Jvm.MethodName)), (Jvm.Cond.instanceMethod ({ cls := "TypedTermReaderModel", name := "enter", desc := "()V" } : Jvm.MethodName)), (Jvm.Cond.methodLink "TypedTermReaderModel" (387 : Nat) ({ cls := "TypedTermReaderModel", name := "readVariable", desc := "()V" } : Jvm.MethodName)), (Jvm.Cond.instanceMethod ({ cls := "TypedTermReaderModel", name := "readVariable", desc := "()V" } : Jvm.MethodName)), (Jvm.Cond.methodLink "TypedTermReaderModel" (334 : Nat) ({ cls := "TypedTermReaderModel", name := "need", desc := "(I)V" } : Jvm.MethodName)), (Jvm.Cond.instanceMethod ({ cls := "TypedTermReaderModel", name := "need", desc := "(I)V" } : Jvm.MethodName)), (Jvm.Cond.methodLink "TypedTermReaderModel" (331 : Nat) ({ cls := "TypedTermReaderModel", name := "readType", desc := "()I" } : Jvm.MethodName)), (Jvm.Cond.instanceMethod ({ cls := "TypedTermReaderModel", name := "readType", desc := "()I" } : Jvm.MethodName)), (Jvm.Cond.methodLink "TypedTermReaderModel" (320 : Nat) ({ cls := "TypedTermReaderModel", name := "readTypeAtom", desc := "()I" } : Jvm.MethodName)), (Jvm.Cond.instanceMethod ({ cls := "TypedTermReaderModel", name := "readTypeAtom", desc := "()I" } : Jvm.MethodName)), (Jvm.Cond.methodLink "TypedTermReaderModel" (337 : Nat) ({ cls := "TypedTermReaderModel", name := "readInParentheses", desc := "()I" } : Jvm.MethodName)), (Jvm.Cond.instanceMethod ({ cls := "TypedTermReaderModel", name := "readInParentheses", desc := "()I" } : Jvm.MethodName)), (Jvm.Cond.methodLink "TypedTermReaderModel" (323 : Nat) ({ cls := "TypedTermReaderModel", name := "written", desc := "(II)I" } : Jvm.MethodName)), (Jvm.Cond.instanceMethod ({ cls := "TypedTermReaderModel", name := "written", desc := "(II)I" } : Jvm.MethodName)), (Jvm.Cond.methodLink "TypedTermReaderModel" (325 : Nat) ({ cls := "TypedTermReaderModel", name := "takesBefore", desc := "(II)V" } : Jvm.MethodName)), (Jvm.Cond.instanceMethod ({ cls := "TypedTermReaderModel", name := "takesBefore", desc := "(II)V" } : Jvm.MethodName)), (Jvm.Cond.constant "TypedTermReaderModel" (319 : Nat) (100000 : Int32)), (Jvm.Cond.methodLink "TypedTermReaderModel" (340 : Nat) ({ cls := "TypedTermReaderModel", name := "part", desc := "(IIIIII)I" } : Jvm.MethodName)), (Jvm.Cond.instanceMethod ({ cls := "TypedTermReaderModel", name := "part", desc := "(IIIIII)I" } : Jvm.MethodName)), (Jvm.Cond.methodLink "TypedTermReaderModel" (368 : Nat) ({ cls := "TypedTermReaderModel", name := "constantPart", desc := "(IZ)I" } : Jvm.MethodName)), (Jvm.Cond.instanceMethod ({ cls := "TypedTermReaderModel", name := "constantPart", desc := "(IZ)I" } : Jvm.MethodName)), (Jvm.Cond.methodLink "TypedTermReaderModel" (350 : Nat) ({ cls := "TypedTermReaderModel", name := "applied", desc := "(II)I" } : Jvm.MethodName)), (Jvm.Cond.instanceMethod ({ cls := "TypedTermReaderModel", name := "applied", desc := "(II)I" } : Jvm.MethodName)), (Jvm.Cond.methodLink "TypedTermReaderModel" (344 : Nat) ({ cls := "TypedTermReaderModel", name := "most", desc := "(II)I" } : Jvm.MethodName)), (Jvm.Cond.static ({ cls := "TypedTermReaderModel", name := "most", desc := "(II)I" } : Jvm.MethodName)), (Jvm.Cond.methodLink "TypedTermReaderModel" (365 : Nat) ({ cls := "TypedTermReaderModel", name := "readAtoms", desc := "()I" } : Jvm.MethodName)), (Jvm.Cond.instanceMethod ({ cls := "TypedTermReaderModel", name := "readAtoms", desc := "()I" } : Jvm.MethodName)), (Jvm.Cond.methodLink "TypedTermReaderModel" (372 : Nat) ({ cls := "TypedTermReaderModel", name := "readAtom", desc := "()I" } : Jvm.MethodName)), (Jvm.Cond.instanceMethod ({ cls := "TypedTermReaderModel", name := "readAtom", desc := "()I" } : Jvm.MethodName))]
def aW25 : List Cond := [(Jvm.Cond.methodLink "TypedTermReaderModel" (375 : Nat) ({ cls := "TypedTermReaderModel", name := "isAtom", desc := "(I)Z" } : Jvm.MethodName)), (Jvm.Cond.static ({ cls := "TypedTermReaderModel", name := "isAtom", desc := "(I)Z" } : Jvm.MethodName)), (Jvm.Cond.methodLink "TypedTermReaderModel" (378 : Nat) ({ cls := "TypedTermReaderModel", name := "readOpen", desc := "()I" } : Jvm.MethodName)), (Jvm.Cond.instanceMethod ({ cls := "TypedTermReaderModel", name := "readOpen", desc := "()I" } : Jvm.MethodName)), (Jvm.Cond.methodLink "TypedTermReaderModel" (356 : Nat) ({ cls := "TypedTermReaderModel", name := "isOperator", desc := "(I)Z" } : Jvm.MethodName)), (Jvm.Cond.static ({ cls := "TypedTermReaderModel", name := "isOperator", desc := "(I)Z" } : Jvm.MethodName)), (Jvm.Cond.methodLink "TypedTermReaderModel" (359 : Nat) ({ cls := "TypedTermReaderModel", name := "settled", desc := "(III)I" } : Jvm.MethodName)), (Jvm.Cond.instanceMethod ({ cls := "TypedTermReaderModel", name := "settled", desc := "(III)I" } : Jvm.MethodName)), (Jvm.Cond.methodLink "TypedTermReaderModel" (347 : Nat) ({ cls := "TypedTermReaderModel", name := "strength", desc := "(I)I" } : Jvm.MethodName)), (Jvm.Cond.static ({ cls := "TypedTermReaderModel", name := "strength", desc := "(I)I" } : Jvm.MethodName)), (Jvm.Cond.methodLink "TypedTermReaderModel" (457 : Nat) ({ cls := "TypedTermReaderModel", name := "measure", desc := "(I)V" } : Jvm.MethodName)), (Jvm.Cond.instanceMethod ({ cls := "TypedTermReaderModel", name := "measure", desc := "(I)V" } : Jvm.MethodName)), (Jvm.Cond.methodLink "TypedTermReaderModel" (414 : Nat) ({ cls := "TypedTermReaderModel", name := "areNamed", desc := "(I)Z" } : Jvm.MethodName)), (Jvm.Cond.instanceMethod ({ cls := "TypedTermReaderModel", name := "areNamed", desc := "(I)Z" } : Jvm.MethodName)), (Jvm.Cond.methodLink "TypedTermReaderModel" (408 : Nat) ({ cls := "TypedTermReaderModel", name := "boundAt", desc := "(I)I" } : Jvm.MethodName)), (Jvm.Cond.instanceMethod ({ cls := "TypedTermReaderModel", name := "boundAt", desc := "(I)I" } : Jvm.MethodName)), (Jvm.Cond.methodLink "TypedTermReaderModel" (411 : Nat) ({ cls := "TypedTermReaderModel", name := "constantOf", desc := "(I)I" } : Jvm.MethodName)), (Jvm.Cond.instanceMethod ({ cls := "TypedTermReaderModel", name := "constantOf", desc := "(I)I" } : Jvm.MethodName)), (Jvm.Cond.methodLink "TypedTermReaderModel" (432 : Nat) ({ cls := "TypedTermReaderModel", name := "make", desc := "(I)I" } : Jvm.MethodName)), (Jvm.Cond.instanceMethod ({ cls := "TypedTermReaderModel", name := "make", desc := "(I)I" } : Jvm.MethodName)), (Jvm.Cond.methodLink "TypedTermReaderModel" (420 : Nat) ({ cls := "TypedTermReaderModel", name := "make", desc := "(II)I" } : Jvm.MethodName)), (Jvm.Cond.instanceMethod ({ cls := "TypedTermReaderModel", name := "make", desc := "(II)I" } : Jvm.MethodName)), (Jvm.Cond.methodLink "TypedTermReaderModel" (423 : Nat) ({ cls := "TypedTermReaderModel", name := "use", desc := "(I)I" } : Jvm.MethodName)), (Jvm.Cond.instanceMethod ({ cls := "TypedTermReaderModel", name := "use", desc := "(I)I" } : Jvm.MethodName)), (Jvm.Cond.methodLink "TypedTermReaderModel" (399 : Nat) ({ cls := "TypedTermReaderModel", name := "copy", desc := "(I)I" } : Jvm.MethodName)), (Jvm.Cond.instanceMethod ({ cls := "TypedTermReaderModel", name := "copy", desc := "(I)I" } : Jvm.MethodName)), (Jvm.Cond.methodLink "TypedTermReaderModel" (396 : Nat) ({ cls := "TypedTermReaderModel", name := "unknown", desc := "()I" } : Jvm.MethodName)), (Jvm.Cond.instanceMethod ({ cls := "TypedTermReaderModel", name := "unknown", desc := "()I" } : Jvm.MethodName)), (Jvm.Cond.methodLink "TypedTermReaderModel" (426 : Nat) ({ cls := "TypedTermReaderModel", name := "makeConstant", desc := "(I)I" } : Jvm.MethodName)), (Jvm.Cond.instanceMethod ({ cls := "TypedTermReaderModel", name := "makeConstant", desc := "(I)I" } : Jvm.MethodName)), (Jvm.Cond.methodLink "TypedTermReaderModel" (434 : Nat) ({ cls := "TypedTermReaderModel", name := "join", desc := "(II)V" } : Jvm.MethodName)), (Jvm.Cond.instanceMethod ({ cls := "TypedTermReaderModel", name := "join", desc := "(II)V" } : Jvm.MethodName))]
def aW26 : List Cond := [(Jvm.Cond.methodLink "TypedTermReaderModel" (390 : Nat) ({ cls := "TypedTermReaderModel", name := "last", desc := "(I)I" } : Jvm.MethodName)), (Jvm.Cond.instanceMethod ({ cls := "TypedTermReaderModel", name := "last", desc := "(I)I" } : Jvm.MethodName)), (Jvm.Cond.methodLink "TypedTermReaderModel" (429 : Nat) ({ cls := "TypedTermReaderModel", name := "makeNumeral", desc := "(I)I" } : Jvm.MethodName)), (Jvm.Cond.instanceMethod ({ cls := "TypedTermReaderModel", name := "makeNumeral", desc := "(I)I" } : Jvm.MethodName)), (Jvm.Cond.methodLink "TypedTermReaderModel" (437 : Nat) ({ cls := "TypedTermReaderModel", name := "makeAbstraction", desc := "(I)I" } : Jvm.MethodName)), (Jvm.Cond.instanceMethod ({ cls := "TypedTermReaderModel", name := "makeAbstraction", desc := "(I)I" } : Jvm.MethodName)), (Jvm.Cond.methodLink "TypedTermReaderModel" (402 : Nat) ({ cls := "TypedTermReaderModel", name := "meant", desc := "(I)I" } : Jvm.MethodName)), (Jvm.Cond.instanceMethod ({ cls := "TypedTermReaderModel", name := "meant", desc := "(I)I" } : Jvm.MethodName)), (Jvm.Cond.methodLink "TypedTermReaderModel" (460 : Nat) ({ cls := "TypedTermReaderModel", name := "weighAll", desc := "()V" } : Jvm.MethodName)), (Jvm.Cond.instanceMethod ({ cls := "TypedTermReaderModel", name := "weighAll", desc := "()V" } : Jvm.MethodName)), (Jvm.Cond.methodLink "TypedTermReaderModel" (440 : Nat) ({ cls := "TypedTermReaderModel", name := "weigh", desc := "(I)V" } : Jvm.MethodName)), (Jvm.Cond.instanceMethod ({ cls := "TypedTermReaderModel", name := "weigh", desc := "(I)V" } : Jvm.MethodName)), (Jvm.Cond.methodLink "TypedTermReaderModel" (463 : Nat) ({ cls := "TypedTermReaderModel", name := "keepTerm", desc := "()V" } : Jvm.MethodName)), (Jvm.Cond.instanceMethod ({ cls := "TypedTermReaderModel", name := "keepTerm", desc := "()V" } : Jvm.MethodName)), (Jvm.Cond.methodLink "TypedTermReaderModel" (449 : Nat) ({ cls := "TypedTermReaderModel", name := "writeRow", desc := "(II)I" } : Jvm.MethodName)), (Jvm.Cond.instanceMethod ({ cls := "TypedTermReaderModel", name := "writeRow", desc := "(II)I" } : Jvm.MethodName)), (Jvm.Cond.methodLink "TypedTermReaderLaw" (51 : Nat) ({ cls := "TypedTermReaderModel", name := "constant", desc := "(I)I" } : Jvm.MethodName)), (Jvm.Cond.instanceMethod ({ cls := "TypedTermReaderModel", name := "constant", desc := "(I)I" } : Jvm.MethodName)), (Jvm.Cond.selects "TypedTermReaderModel" ({ cls := "TypedTermReaderModel", name := "constant", desc := "(I)I" } : Jvm.MethodName) ({ cls := "TypedTermReaderModel", name := "constant", desc := "(I)I" } : Jvm.MethodName)), (Jvm.Cond.methodLink "TypedTermReaderLaw" (54 : Nat) ({ cls := "TypedTermReaderModel", name := "type", desc := "(I)I" } : Jvm.MethodName)), (Jvm.Cond.instanceMethod ({ cls := "TypedTermReaderModel", name := "type", desc := "(I)I" } : Jvm.MethodName)), (Jvm.Cond.selects "TypedTermReaderModel" ({ cls := "TypedTermReaderModel", name := "type", desc := "(I)I" } : Jvm.MethodName) ({ cls := "TypedTermReaderModel", name := "type", desc := "(I)I" } : Jvm.MethodName)), (Jvm.Cond.methodLink "TypedTermReaderLaw" (58 : Nat) ({ cls := "TypedTermReaderModel", name := "fault", desc := "()I" } : Jvm.MethodName)), (Jvm.Cond.instanceMethod ({ cls := "TypedTermReaderModel", name := "fault", desc := "()I" } : Jvm.MethodName)), (Jvm.Cond.selects "TypedTermReaderModel" ({ cls := "TypedTermReaderModel", name := "fault", desc := "()I" } : Jvm.MethodName) ({ cls := "TypedTermReaderModel", name := "fault", desc := "()I" } : Jvm.MethodName)), (Jvm.Cond.methodLink "TypedTermReaderLaw" (62 : Nat) ({ cls := "TypedTermReaderModel", name := "place", desc := "()I" } : Jvm.MethodName)), (Jvm.Cond.instanceMethod ({ cls := "TypedTermReaderModel", name := "place", desc := "()I" } : Jvm.MethodName)), (Jvm.Cond.selects "TypedTermReaderModel" ({ cls := "TypedTermReaderModel", name := "place", desc := "()I" } : Jvm.MethodName) ({ cls := "TypedTermReaderModel", name := "place", desc := "()I" } : Jvm.MethodName)), (Jvm.Cond.methodLink "TypedTermReaderLaw" (65 : Nat) ({ cls := "TypedTermReaderModel", name := "symbol", desc := "(I)I" } : Jvm.MethodName)), (Jvm.Cond.instanceMethod ({ cls := "TypedTermReaderModel", name := "symbol", desc := "(I)I" } : Jvm.MethodName)), (Jvm.Cond.selects "TypedTermReaderModel" ({ cls := "TypedTermReaderModel", name := "symbol", desc := "(I)I" } : Jvm.MethodName) ({ cls := "TypedTermReaderModel", name := "symbol", desc := "(I)I" } : Jvm.MethodName)), (Jvm.Cond.methodLink "TypedTermReaderLaw" (69 : Nat) ({ cls := "TypedTermReaderModel", name := "typeSymbol", desc := "(II)I" } : Jvm.MethodName))]
def aW27 : List Cond := [(Jvm.Cond.instanceMethod ({ cls := "TypedTermReaderModel", name := "typeSymbol", desc := "(II)I" } : Jvm.MethodName)), (Jvm.Cond.selects "TypedTermReaderModel" ({ cls := "TypedTermReaderModel", name := "typeSymbol", desc := "(II)I" } : Jvm.MethodName) ({ cls := "TypedTermReaderModel", name := "typeSymbol", desc := "(II)I" } : Jvm.MethodName))]
def aWs : List (List Cond) := [aW0, aW1, aW2, aW3, aW4, aW5, aW6, aW7, aW8, aW9, aW10, aW11, aW12, aW13, aW14, aW15, aW16, aW17, aW18, aW19, aW20, aW21, aW22, aW23, aW24, aW25, aW26, aW27]
def aM0 : List (Option aI) := [some (.new 8, 0, 0, [113, 114, 101]), none, none, some (.dup, 0, 0, []), some (.invokespecial 30, 1, 2, [115, 116, 101]), none, none, some (.astore_n 1, 0, 0, []), some (.new 31, 11, 0, [635, 636, 112]), none, none, some (.dup, 0, 0, []), some (.invokespecial 33, 136, 2, [637, 638, 112]), none, none, some (.astore_n 2, 0, 0, []), some (.iconst 1, 0, 0, []), some (.newarray .long, 0, 0, [721]), none, some (.astore_n 3, 0, 0, []), some (.iconst 0, 0, 0, []), some (.istore 4, 0, 0, []), none, some (.iload 4, 0, 0, []), none, some (.aload_n 0, 0, 0, []), some (.arraylength, 0, 0, []), some (.bipush 6, 0, 0, []), none, some (.isub, 0, 0, []), some (.if_icmp .gt 455, 485, 0, []), none, none, some (.aload_n 0, 0, 0, []), some (.iload 4, 0, 0, []), none, some (.iaload, 0, 0, []), some (.bipush 7, 0, 0, []), none, some (.iand, 0, 0, []), some (.tableswitch 439 0 7 #[48, 121, 177, 233, 289, 302, 315, 371], 0, 0, []), none, none, none, none, none, none, none, none, none, none, none, none, none, none, none, none, none, none, none, none, none, none, none, none, none, none, none, none, none, none, none, none, none, none, none, none, none, none, none, none, none, none, none, none, none, none, none, some (.aload_n 1, 0, 0, []), some (.aload_n 0, 0, 0, []), some (.iload 4, 0, 0, []), none, some (.iconst 1, 0, 0, []), some (.iadd, 0, 0, []), some (.iaload, 0, 0, []), some (.aload_n 0, 0, 0, []), some (.iload 4, 0, 0, []), none, some (.iconst 2, 0, 0, []), some (.iadd, 0, 0, []), some (.iaload, 0, 0, []), some (.aload_n 0, 0, 0, []), some (.iload 4, 0, 0, []), none, some (.iconst 3, 0, 0, []), some (.iadd, 0, 0, []), some (.iaload, 0, 0, []), some (.aload_n 0, 0, 0, []), some (.iload 4, 0, 0, []), none, some (.iconst 4, 0, 0, []), some (.iadd, 0, 0, []), some (.iaload, 0, 0, []), some (.aload_n 0, 0, 0, []), some (.iload 4, 0, 0, []), none, some (.iconst 5, 0, 0, []), some (.iadd, 0, 0, []), some (.iaload, 0, 0, []), some (.invokevirtual 34, 15, 12, [304, 305, 306, 101]), none, none, some (.aload_n 2, 0, 0, []), some (.aload_n 0, 0, 0, []), some (.iload 4, 0, 0, []), none, some (.iconst 1, 0, 0, []), some (.iadd, 0, 0, []), some (.iaload, 0, 0, []), some (.aload_n 0, 0, 0, []), some (.iload 4, 0, 0, []), none, some (.iconst 2, 0, 0, []), some (.iadd, 0, 0, []), some (.iaload, 0, 0, []), some (.aload_n 0, 0, 0, []), some (.iload 4, 0, 0, []), none, some (.iconst 3, 0, 0, []), some (.iadd, 0, 0, []), some (.iaload, 0, 0, []), some (.aload_n 0, 0, 0, []), some (.iload 4, 0, 0, []), none, some (.iconst 4, 0, 0, []), some (.iadd, 0, 0, []), some (.iaload, 0, 0, []), some (.aload_n 0, 0, 0, []), some (.iload 4, 0, 0, []), none, some (.iconst 5, 0, 0, []), some (.iadd, 0, 0, []), some (.iaload, 0, 0, []), some (.invokevirtual 38, 142, 12, [725, 726, 727, 112]), none, none, some (.if_icmp .eq 323, 479, 0, []), none, none, some (.iconst 0, 0, 0, []), some (.ireturn, 0, 0, []), some (.aload_n 1, 0, 0, []), some (.aload_n 0, 0, 0, []), some (.iload 4, 0, 0, []), none, some (.iconst 1, 0, 0, []), some (.iadd, 0, 0, []), some (.iaload, 0, 0, []), some (.aload_n 3, 0, 0, []), some (.invokestatic 39, 20, 6, [319, 320, 100]), none, none, some (.istore 5, 0, 0, []), none, some (.aload_n 2, 0, 0, []), some (.aload_n 0, 0, 0, []), some (.iload 4, 0, 0, []), none, some (.iconst 1, 0, 0, []), some (.iadd, 0, 0, []), some (.iaload, 0, 0, []), some (.invokevirtual 44, 143, 4, [728, 729, 730, 112]), none, none, some (.istore 6, 0, 0, []), none, some (.aload_n 2, 0, 0, []), some (.invokevirtual 45, 141, 2, [722, 723, 724, 112]), none, none, some (.iload 5, 0, 0, []), none, some (.if_icmp .eq 5, 197, 0, []), none, none, some (.iconst 0, 0, 0, []), some (.ireturn, 0, 0, []), some (.iload 5, 0, 0, []), none, some (.ifCond .ne 15, 214, 0, []), none, none, some (.aload_n 3, 0, 0, []), some (.iconst 0, 0, 0, []), some (.laload, 0, 0, []), some (.iload 6, 0, 0, []), none, some (.i2l, 0, 0, []), some (.lcmp, 0, 0, []), some (.ifCond .eq 5, 214, 0, []), none, none, some (.iconst 0, 0, 0, []), some (.ireturn, 0, 0, []), some (.goto 265, 479, 0, []), none, none, some (.aload_n 1, 0, 0, []), some (.aload_n 0, 0, 0, []), some (.iload 4, 0, 0, []), none, some (.iconst 1, 0, 0, []), some (.iadd, 0, 0, []), some (.iaload, 0, 0, []), some (.aload_n 3, 0, 0, []), some (.invokestatic 49, 119, 6, [584, 585, 100]), none, none, some (.istore 5, 0, 0, []), none, some (.aload_n 2, 0, 0, []), some (.aload_n 0, 0, 0, []), some (.iload 4, 0, 0, []), none, some (.iconst 1, 0, 0, []), some (.iadd, 0, 0, []), some (.iaload, 0, 0, []), some (.invokevirtual 51, 202, 4, [848, 849, 850, 112]), none, none, some (.istore 6, 0, 0, []), none, some (.aload_n 2, 0, 0, []), some (.invokevirtual 45, 141, 2, [722, 723, 724, 112]), none, none, some (.iload 5, 0, 0, []), none, some (.if_icmp .eq 5, 253, 0, []), none, none, some (.iconst 0, 0, 0, []), some (.ireturn, 0, 0, []), some (.iload 5, 0, 0, []), none, some (.ifCond .ne 15, 270, 0, []), none, none, some (.aload_n 3, 0, 0, []), some (.iconst 0, 0, 0, []), some (.laload, 0, 0, []), some (.iload 6, 0, 0, []), none, some (.i2l, 0, 0, []), some (.lcmp, 0, 0, []), some (.ifCond .eq 5, 270, 0, []), none, none, some (.iconst 0, 0, 0, []), some (.ireturn, 0, 0, []), some (.goto 209, 479, 0, []), none, none, some (.aload_n 1, 0, 0, []), some (.aload_n 0, 0, 0, []), some (.iload 4, 0, 0, []), none, some (.iconst 1, 0, 0, []), some (.iadd, 0, 0, []), some (.iaload, 0, 0, []), some (.aload_n 3, 0, 0, []), some (.invokestatic 52, 125, 6, [606, 607, 100]), none, none, some (.istore 5, 0, 0, []), none, some (.aload_n 2, 0, 0, []), some (.aload_n 0, 0, 0, []), some (.iload 4, 0, 0, []), none, some (.iconst 1, 0, 0, []), some (.iadd, 0, 0, []), some (.iaload, 0, 0, []), some (.invokevirtual 54, 203, 4, [851, 852, 853, 112]), none, none, some (.istore 6, 0, 0, []), none, some (.aload_n 2, 0, 0, []), some (.invokevirtual 45, 141, 2, [722, 723, 724, 112]), none, none, some (.iload 5, 0, 0, []), none, some (.if_icmp .eq 5, 309, 0, []), none, none, some (.iconst 0, 0, 0, []), some (.ireturn, 0, 0, []), some (.iload 5, 0, 0, []), none, some (.ifCond .ne 15, 326, 0, []), none, none, some (.aload_n 3, 0, 0, []), some (.iconst 0, 0, 0, []), some (.laload, 0, 0, []), some (.iload 6, 0, 0, []), none, some (.i2l, 0, 0, []), some (.lcmp, 0, 0, []), some (.ifCond .eq 5, 326, 0, []), none, none, some (.iconst 0, 0, 0, []), some (.ireturn, 0, 0, []), some (.goto 153, 479, 0, []), none, none, some (.aload_n 1, 0, 0, []), some (.invokevirtual 55, 18, 2, [313, 314, 315, 101]), none, none, some (.aload_n 2, 0, 0, []), some (.invokevirtual 58, 204, 2, [854, 855, 856, 112]), none, none, some (.if_icmp .eq 142, 479, 0, []), none, none, some (.iconst 0, 0, 0, []), some (.ireturn, 0, 0, []), some (.aload_n 1, 0, 0, []), some (.invokevirtual 59, 19, 2, [316, 317, 318, 101]), none, none, some (.aload_n 2, 0, 0, []), some (.invokevirtual 62, 205, 2, [857, 858, 859, 112]), none, none, some (.if_icmp .eq 129, 479, 0, []), none, none, some (.iconst 0, 0, 0, []), some (.ireturn, 0, 0, []), some (.aload_n 1, 0, 0, []), some (.aload_n 0, 0, 0, []), some (.iload 4, 0, 0, []), none, some (.iconst 1, 0, 0, []), some (.iadd, 0, 0, []), some (.iaload, 0, 0, []), some (.aload_n 3, 0, 0, []), some (.invokestatic 63, 130, 6, [619, 620, 100]), none, none, some (.istore 5, 0, 0, []), none, some (.aload_n 2, 0, 0, []), some (.aload_n 0, 0, 0, []), some (.iload 4, 0, 0, []), none, some (.iconst 1, 0, 0, []), some (.iadd, 0, 0, []), some (.iaload, 0, 0, []), some (.invokevirtual 65, 206, 4, [860, 861, 862, 112]), none, none, some (.istore 6, 0, 0, []), none, some (.aload_n 2, 0, 0, []), some (.invokevirtual 45, 141, 2, [722, 723, 724, 112]), none, none, some (.iload 5, 0, 0, []), none, some (.if_icmp .eq 5, 391, 0, []), none, none, some (.iconst 0, 0, 0, []), some (.ireturn, 0, 0, []), some (.iload 5, 0, 0, []), none, some (.ifCond .ne 15, 408, 0, []), none, none, some (.aload_n 3, 0, 0, []), some (.iconst 0, 0, 0, []), some (.laload, 0, 0, []), some (.iload 6, 0, 0, []), none, some (.i2l, 0, 0, []), some (.lcmp, 0, 0, []), some (.ifCond .eq 5, 408, 0, []), none, none, some (.iconst 0, 0, 0, []), some (.ireturn, 0, 0, []), some (.goto 71, 479, 0, []), none, none, some (.aload_n 1, 0, 0, []), some (.aload_n 0, 0, 0, []), some (.iload 4, 0, 0, []), none, some (.iconst 1, 0, 0, []), some (.iadd, 0, 0, []), some (.iaload, 0, 0, []), some (.aload_n 0, 0, 0, []), some (.iload 4, 0, 0, []), none, some (.iconst 2, 0, 0, []), some (.iadd, 0, 0, []), some (.iaload, 0, 0, []), some (.aload_n 3, 0, 0, []), some (.invokestatic 66, 133, 8, [627, 628, 100]), none, none, some (.istore 5, 0, 0, []), none, some (.aload_n 2, 0, 0, []), some (.aload_n 0, 0, 0, []), some (.iload 4, 0, 0, []), none, some (.iconst 1, 0, 0, []), some (.iadd, 0, 0, []), some (.iaload, 0, 0, []), some (.aload_n 0, 0, 0, []), some (.iload 4, 0, 0, []), none, some (.iconst 2, 0, 0, []), some (.iadd, 0, 0, []), some (.iaload, 0, 0, []), some (.invokevirtual 69, 207, 6, [863, 864, 865, 112]), none, none, some (.istore 6, 0, 0, []), none, some (.aload_n 2, 0, 0, []), some (.invokevirtual 45, 141, 2, [722, 723, 724, 112]), none, none, some (.iload 5, 0, 0, []), none, some (.if_icmp .eq 5, 459, 0, []), none, none, some (.iconst 0, 0, 0, []), some (.ireturn, 0, 0, []), some (.iload 5, 0, 0, []), none, some (.ifCond .ne 15, 476, 0, []), none, none, some (.aload_n 3, 0, 0, []), some (.iconst 0, 0, 0, []), some (.laload, 0, 0, []), some (.iload 6, 0, 0, []), none, some (.i2l, 0, 0, []), some (.lcmp, 0, 0, []), some (.ifCond .eq 5, 476, 0, []), none, none, some (.iconst 0, 0, 0, []), some (.ireturn, 0, 0, []), some (.goto 3, 479, 0, []), none, none, some (.iinc 4 6, 0, 0, []), none, none, some (.goto (-459), 23, 0, []), none, none, some (.iconst 1, 0, 0, []), some (.ireturn, 0, 0, [])]
def aM1 : List (Option aI) := [some (.aload_n 0, 0, 0, []), some (.invokespecial 3, 1000, 2, [117]), none, none, some (.aload_n 0, 0, 0, []), some (.new 9, 1, 0, [118, 119, 102]), none, none, some (.dup, 0, 0, []), some (.invokespecial 11, 2, 3, [120, 121, 102]), none, none, some (.putfield 12, 0, 12, [297]), none, none, some (.aload_n 0, 0, 0, []), some (.new 16, 3, 0, [175, 176, 104]), none, none, some (.dup, 0, 0, []), some (.invokespecial 18, 7, 2, [177, 178, 104]), none, none, some (.putfield 19, 1, 12, [298]), none, none, some (.aload_n 0, 0, 0, []), some (.new 23, 4, 0, [186, 187, 105]), none, none, some (.dup, 0, 0, []), some (.invokespecial 25, 8, 3, [188, 189, 105]), none, none, some (.putfield 26, 2, 12, [299]), none, none, some (.aload_n 0, 0, 0, []), some (.new 30, 5, 0, [206, 207, 106]), none, none, some (.dup, 0, 0, []), some (.aload_n 0, 0, 0, []), some (.getfield 19, 1, 12, [298]), none, none, some (.aload_n 0, 0, 0, []), some (.getfield 26, 2, 12, [299]), none, none, some (.invokespecial 32, 9, 6, [208, 209, 106]), none, none, some (.putfield 35, 3, 12, [300]), none, none, some (.aload_n 0, 0, 0, []), some (.new 39, 6, 0, [222, 223, 107]), none, none, some (.dup, 0, 0, []), some (.aload_n 0, 0, 0, []), some (.getfield 12, 0, 12, [297]), none, none, some (.aload_n 0, 0, 0, []), some (.getfield 19, 1, 12, [298]), none, none, some (.aload_n 0, 0, 0, []), some (.getfield 26, 2, 12, [299]), none, none, some (.invokespecial 41, 10, 8, [224, 225, 107]), none, none, some (.putfield 44, 4, 12, [301]), none, none, some (.aload_n 0, 0, 0, []), some (.new 48, 7, 0, [238, 239, 108]), none, none, some (.dup, 0, 0, []), some (.aload_n 0, 0, 0, []), some (.getfield 12, 0, 12, [297]), none, none, some (.aload_n 0, 0, 0, []), some (.getfield 35, 3, 12, [300]), none, none, some (.aload_n 0, 0, 0, []), some (.getfield 26, 2, 12, [299]), none, none, some (.aload_n 0, 0, 0, []), some (.getfield 44, 4, 12, [301]), none, none, some (.invokespecial 50, 11, 10, [240, 241, 108]), none, none, some (.putfield 53, 5, 12, [302]), none, none, some (.aload_n 0, 0, 0, []), some (.new 57, 10, 0, [283, 284, 111]), none, none, some (.dup, 0, 0, []), some (.invokespecial 59, 14, 3, [285, 286, 111]), none, none, some (.putfield 60, 6, 12, [303]), none, none, some (.return_, 0, 0, [])]
def aM2 : List (Option aI) := [some (.aload_n 0, 0, 0, []), some (.invokespecial 3, 1000, 2, [122]), none, none, some (.aload_n 0, 0, 0, []), some (.sipush 8000, 0, 0, []), none, none, some (.newarray .byte, 0, 0, [142]), none, some (.putfield 9, 100, 12, [144]), none, none, some (.aload_n 0, 0, 0, []), some (.new 15, 2, 0, [123, 124, 103]), none, none, some (.dup, 0, 0, []), some (.sipush 3000, 0, 0, []), none, none, some (.sipush 10240, 0, 0, []), none, none, some (.ldc 17, 5, 1, []), none, some (.invokespecial 19, 3, 8, [125, 126, 103]), none, none, some (.putfield 22, 101, 12, [149]), none, none, some (.aload_n 0, 0, 0, []), some (.iconst 0, 0, 0, []), some (.putfield 26, 110, 0, [171]), none, none, some (.aload_n 0, 0, 0, []), some (.iconst (-1), 0, 0, []), some (.putfield 30, 111, 0, [173]), none, none, some (.return_, 0, 0, [])]
def aM3 : List (Option aI) := [some (.aload_n 0, 0, 0, []), some (.invokespecial 1, 1000, 2, [127]), none, none, some (.aload_n 0, 0, 0, []), some (.sipush 256, 0, 0, []), none, none, some (.newarray .int, 0, 0, [143]), none, some (.putfield 9, 203, 12, [138]), none, none, some (.aload_n 0, 0, 0, []), some (.iload_n 2, 0, 0, []), some (.newarray .byte, 0, 0, [142]), none, some (.putfield 13, 200, 12, [135]), none, none, some (.aload_n 0, 0, 0, []), some (.iload_n 1, 0, 0, []), some (.iconst 1, 0, 0, []), some (.iadd, 0, 0, []), some (.newarray .int, 0, 0, [143]), none, some (.putfield 17, 201, 12, [136]), none, none, some (.aload_n 0, 0, 0, []), some (.iload_n 1, 0, 0, []), some (.newarray .int, 0, 0, [143]), none, some (.putfield 20, 202, 12, [137]), none, none, some (.iconst 0, 0, 0, []), some (.istore 4, 0, 0, []), none, some (.iload 4, 0, 0, []), none, some (.sipush 256, 0, 0, []), none, none, some (.if_icmp .ge 17, 61, 0, []), none, none, some (.aload_n 0, 0, 0, []), some (.getfield 9, 203, 12, [138]), none, none, some (.iload 4, 0, 0, []), none, some (.iconst (-1), 0, 0, []), some (.iastore, 0, 0, []), some (.iinc 4 1, 0, 0, []), none, none, some (.goto (-19), 39, 0, []), none, none, some (.aload_n 0, 0, 0, []), some (.aload_n 3, 0, 0, []), some (.invokevirtual 23, 4, 4, [128, 129, 0, 103]), none, none, some (.return_, 0, 0, [])]
def aM4 : List (Option aI) := [some (.aload_n 1, 0, 0, []), some (.invokevirtual 27, 1003, 2, []), none, none, some (.newarray .byte, 0, 0, [142]), none, some (.astore_n 2, 0, 0, []), some (.iconst 0, 0, 0, []), some (.istore_n 3, 0, 0, []), some (.iconst 0, 0, 0, []), some (.istore 4, 0, 0, []), none, some (.iload 4, 0, 0, []), none, some (.aload_n 2, 0, 0, []), some (.arraylength, 0, 0, []), some (.if_icmp .ge 43, 59, 0, []), none, none, some (.aload_n 2, 0, 0, []), some (.iload 4, 0, 0, []), none, some (.aload_n 1, 0, 0, []), some (.iload 4, 0, 0, []), none, some (.invokevirtual 33, 1004, 4, []), none, none, some (.i2b, 0, 0, []), some (.bastore, 0, 0, []), some (.aload_n 2, 0, 0, []), some (.iload 4, 0, 0, []), none, some (.baload, 0, 0, []), some (.bipush 32, 0, 0, []), none, some (.if_icmp .ne 17, 53, 0, []), none, none, some (.aload_n 0, 0, 0, []), some (.aload_n 2, 0, 0, []), some (.iload_n 3, 0, 0, []), some (.iload 4, 0, 0, []), none, some (.invokevirtual 37, 5, 8, [130, 131, 132, 103]), none, none, some (.pop, 0, 0, []), some (.iload 4, 0, 0, []), none, some (.iconst 1, 0, 0, []), some (.iadd, 0, 0, []), some (.istore_n 3, 0, 0, []), some (.iinc 4 1, 0, 0, []), none, none, some (.goto (-44), 12, 0, []), none, none, some (.iload_n 3, 0, 0, []), some (.aload_n 2, 0, 0, []), some (.arraylength, 0, 0, []), some (.if_icmp .ge 12, 74, 0, []), none, none, some (.aload_n 0, 0, 0, []), some (.aload_n 2, 0, 0, []), some (.iload_n 3, 0, 0, []), some (.aload_n 2, 0, 0, []), some (.arraylength, 0, 0, []), some (.invokevirtual 37, 5, 8, [130, 131, 132, 103]), none, none, some (.pop, 0, 0, []), some (.return_, 0, 0, [])]
def aM5 : List (Option aI) := [some (.aload_n 0, 0, 0, []), some (.getfield 17, 201, 12, [136]), none, none, some (.aload_n 0, 0, 0, []), some (.getfield 44, 204, 0, [140]), none, none, some (.iaload, 0, 0, []), some (.istore 4, 0, 0, []), none, some (.aload_n 0, 0, 0, []), some (.getfield 44, 204, 0, [140]), none, none, some (.aload_n 0, 0, 0, []), some (.getfield 20, 202, 12, [137]), none, none, some (.arraylength, 0, 0, []), some (.if_icmp .ge 17, 37, 0, []), none, none, some (.iload_n 3, 0, 0, []), some (.iload_n 2, 0, 0, []), some (.isub, 0, 0, []), some (.aload_n 0, 0, 0, []), some (.getfield 13, 200, 12, [135]), none, none, some (.arraylength, 0, 0, []), some (.iload 4, 0, 0, []), none, some (.isub, 0, 0, []), some (.if_icmp .le 5, 39, 0, []), none, none, some (.iconst (-1), 0, 0, []), some (.ireturn, 0, 0, []), some (.iload_n 2, 0, 0, []), some (.istore 5, 0, 0, []), none, some (.iload 5, 0, 0, []), none, some (.iload_n 3, 0, 0, []), some (.if_icmp .ge 25, 70, 0, []), none, none, some (.aload_n 0, 0, 0, []), some (.getfield 13, 200, 12, [135]), none, none, some (.iload 4, 0, 0, []), none, some (.iload 5, 0, 0, []), none, some (.iadd, 0, 0, []), some (.iload_n 2, 0, 0, []), some (.isub, 0, 0, []), some (.aload_n 1, 0, 0, []), some (.iload 5, 0, 0, []), none, some (.baload, 0, 0, []), some (.bastore, 0, 0, []), some (.iinc 5 1, 0, 0, []), none, none, some (.goto (-25), 42, 0, []), none, none, some (.aload_n 1, 0, 0, []), some (.iload_n 2, 0, 0, []), some (.iload_n 3, 0, 0, []), some (.invokestatic 41, 6, 6, [133, 134, 103]), none, none, some (.istore 5, 0, 0, []), none, some (.aload_n 0, 0, 0, []), some (.getfield 20, 202, 12, [137]), none, none, some (.aload_n 0, 0, 0, []), some (.getfield 44, 204, 0, [140]), none, none, some (.aload_n 0, 0, 0, []), some (.getfield 9, 203, 12, [138]), none, none, some (.iload 5, 0, 0, []), none, some (.iaload, 0, 0, []), some (.iastore, 0, 0, []), some (.aload_n 0, 0, 0, []), some (.getfield 9, 203, 12, [138]), none, none, some (.iload 5, 0, 0, []), none, some (.aload_n 0, 0, 0, []), some (.getfield 44, 204, 0, [140]), none, none, some (.iastore, 0, 0, []), some (.aload_n 0, 0, 0, []), some (.dup, 0, 0, []), some (.getfield 44, 204, 0, [140]), none, none, some (.iconst 1, 0, 0, []), some (.iadd, 0, 0, []), some (.putfield 44, 204, 0, [140]), none, none, some (.aload_n 0, 0, 0, []), some (.getfield 17, 201, 12, [136]), none, none, some (.aload_n 0, 0, 0, []), some (.getfield 44, 204, 0, [140]), none, none, some (.iload 4, 0, 0, []), none, some (.iload_n 3, 0, 0, []), some (.iadd, 0, 0, []), some (.iload_n 2, 0, 0, []), some (.isub, 0, 0, []), some (.iastore, 0, 0, []), some (.aload_n 0, 0, 0, []), some (.getfield 44, 204, 0, [140]), none, none, some (.iconst 1, 0, 0, []), some (.isub, 0, 0, []), some (.ireturn, 0, 0, [])]
def aM6 : List (Option aI) := [some (.iconst 0, 0, 0, []), some (.istore_n 3, 0, 0, []), some (.iload_n 1, 0, 0, []), some (.istore 4, 0, 0, []), none, some (.iload 4, 0, 0, []), none, some (.iload_n 2, 0, 0, []), some (.if_icmp .ge 19, 27, 0, []), none, none, some (.iload_n 3, 0, 0, []), some (.bipush 31, 0, 0, []), none, some (.imul, 0, 0, []), some (.aload_n 0, 0, 0, []), some (.iload 4, 0, 0, []), none, some (.baload, 0, 0, []), some (.iadd, 0, 0, []), some (.istore_n 3, 0, 0, []), some (.iinc 4 1, 0, 0, []), none, none, some (.goto (-19), 5, 0, []), none, none, some (.iload_n 3, 0, 0, []), some (.sipush 255, 0, 0, []), none, none, some (.iand, 0, 0, []), some (.ireturn, 0, 0, [])]
def aM7 : List (Option aI) := [some (.aload_n 0, 0, 0, []), some (.invokespecial 3, 1000, 2, [179]), none, none, some (.aload_n 0, 0, 0, []), some (.new 9, 2, 0, [180, 124, 103]), none, none, some (.dup, 0, 0, []), some (.bipush 34, 0, 0, []), none, some (.sipush 816, 0, 0, []), none, none, some (.ldc 11, 6, 1, []), none, some (.invokespecial 13, 3, 8, [181, 126, 103]), none, none, some (.putfield 16, 300, 12, [182]), none, none, some (.aload_n 0, 0, 0, []), some (.bipush 34, 0, 0, []), none, some (.newarray .int, 0, 0, [143]), none, some (.putfield 22, 301, 12, [185]), none, none, some (.aload_n 0, 0, 0, []), some (.getfield 22, 301, 12, [185]), none, none, some (.iconst 2, 0, 0, []), some (.iconst 2, 0, 0, []), some (.iastore, 0, 0, []), some (.return_, 0, 0, [])]
def aM8 : List (Option aI) := [some (.aload_n 0, 0, 0, []), some (.invokespecial 3, 1000, 2, [190]), none, none, some (.aload_n 0, 0, 0, []), some (.sipush 17000, 0, 0, []), none, none, some (.newarray .int, 0, 0, [143]), none, some (.putfield 9, 400, 12, [191]), none, none, some (.aload_n 0, 0, 0, []), some (.sipush 17000, 0, 0, []), none, none, some (.newarray .int, 0, 0, [143]), none, some (.putfield 15, 401, 12, [192]), none, none, some (.aload_n 0, 0, 0, []), some (.sipush 17000, 0, 0, []), none, none, some (.newarray .int, 0, 0, [143]), none, some (.putfield 18, 402, 12, [193]), none, none, some (.aload_n 0, 0, 0, []), some (.sipush 17000, 0, 0, []), none, none, some (.newarray .int, 0, 0, [143]), none, some (.putfield 21, 403, 12, [194]), none, none, some (.aload_n 0, 0, 0, []), some (.sipush 17000, 0, 0, []), none, none, some (.newarray .int, 0, 0, [143]), none, some (.putfield 24, 404, 12, [195]), none, none, some (.aload_n 0, 0, 0, []), some (.sipush 17000, 0, 0, []), none, none, some (.newarray .int, 0, 0, [143]), none, some (.putfield 27, 405, 12, [196]), none, none, some (.aload_n 0, 0, 0, []), some (.sipush 17000, 0, 0, []), none, none, some (.newarray .int, 0, 0, [143]), none, some (.putfield 30, 406, 12, [197]), none, none, some (.return_, 0, 0, [])]
def aM9 : List (Option aI) := [some (.aload_n 0, 0, 0, []), some (.invokespecial 3, 1000, 2, [210]), none, none, some (.aload_n 0, 0, 0, []), some (.new 9, 2, 0, [211, 124, 103]), none, none, some (.dup, 0, 0, []), some (.bipush 112, 0, 0, []), none, some (.sipush 2688, 0, 0, []), none, none, some (.ldc 11, 4, 1, []), none, some (.invokespecial 13, 3, 8, [212, 126, 103]), none, none, some (.putfield 16, 500, 12, [213]), none, none, some (.aload_n 0, 0, 0, []), some (.sipush 4480, 0, 0, []), none, none, some (.newarray .int, 0, 0, [143]), none, some (.putfield 22, 501, 12, [216]), none, none, some (.aload_n 0, 0, 0, []), some (.bipush 112, 0, 0, []), none, some (.newarray .int, 0, 0, [143]), none, some (.putfield 26, 502, 12, [217]), none, none, some (.aload_n 0, 0, 0, []), some (.bipush 40, 0, 0, []), none, some (.newarray .int, 0, 0, [143]), none, some (.putfield 29, 503, 12, [218]), none, none, some (.aload_n 0, 0, 0, []), some (.bipush 40, 0, 0, []), none, some (.newarray .int, 0, 0, [143]), none, some (.putfield 32, 504, 12, [219]), none, none, some (.aload_n 0, 0, 0, []), some (.aload_n 1, 0, 0, []), some (.putfield 35, 505, 12, [220]), none, none, some (.aload_n 0, 0, 0, []), some (.aload_n 2, 0, 0, []), some (.putfield 39, 506, 12, [221]), none, none, some (.iconst 0, 0, 0, []), some (.istore_n 3, 0, 0, []), some (.iconst 0, 0, 0, []), some (.istore 4, 0, 0, []), none, some (.iload 4, 0, 0, []), none, some (.aload_n 0, 0, 0, []), some (.getfield 16, 500, 12, [213]), none, none, some (.getfield 43, 204, 0, [139]), none, none, some (.if_icmp .ge 59, 138, 0, []), none, none, some (.getstatic 47, 0, 1, []), none, none, some (.iload_n 3, 0, 0, []), some (.iaload, 0, 0, []), some (.istore 5, 0, 0, []), none, some (.iload 4, 0, 0, []), none, some (.bipush 40, 0, 0, []), none, some (.imul, 0, 0, []), some (.istore 6, 0, 0, []), none, some (.getstatic 47, 0, 1, []), none, none, some (.iload_n 3, 0, 0, []), some (.iconst 1, 0, 0, []), some (.iadd, 0, 0, []), some (.aload_n 0, 0, 0, []), some (.getfield 22, 501, 12, [216]), none, none, some (.iload 6, 0, 0, []), none, some (.iload 5, 0, 0, []), none, some (.invokestatic 50, 1005, 10, []), none, none, some (.aload_n 0, 0, 0, []), some (.getfield 26, 502, 12, [217]), none, none, some (.iload 4, 0, 0, []), none, some (.iload 6, 0, 0, []), none, some (.iload 5, 0, 0, []), none, some (.iadd, 0, 0, []), some (.iastore, 0, 0, []), some (.iload_n 3, 0, 0, []), some (.iconst 1, 0, 0, []), some (.iload 5, 0, 0, []), none, some (.iadd, 0, 0, []), some (.iadd, 0, 0, []), some (.istore_n 3, 0, 0, []), some (.iinc 4 1, 0, 0, []), none, none, some (.goto (-65), 70, 0, []), none, none, some (.return_, 0, 0, [])]
def aM10 : List (Option aI) := [some (.aload_n 0, 0, 0, []), some (.invokespecial 3, 1000, 2, [226]), none, none, some (.aload_n 0, 0, 0, []), some (.sipush 3001, 0, 0, []), none, none, some (.newarray .int, 0, 0, [143]), none, some (.putfield 9, 603, 12, [230]), none, none, some (.aload_n 0, 0, 0, []), some (.aload_n 1, 0, 0, []), some (.putfield 15, 600, 12, [227]), none, none, some (.aload_n 0, 0, 0, []), some (.aload_n 2, 0, 0, []), some (.putfield 19, 601, 12, [228]), none, none, some (.aload_n 0, 0, 0, []), some (.aload_n 3, 0, 0, []), some (.putfield 23, 602, 12, [229]), none, none, some (.return_, 0, 0, [])]
def aM11 : List (Option aI) := [some (.aload_n 0, 0, 0, []), some (.invokespecial 3, 1000, 2, [242]), none, none, some (.aload_n 0, 0, 0, []), some (.new 9, 8, 0, [243, 244, 109]), none, none, some (.dup, 0, 0, []), some (.invokespecial 11, 12, 3, [245, 246, 109]), none, none, some (.putfield 12, 704, 12, [276]), none, none, some (.aload_n 0, 0, 0, []), some (.sipush 3001, 0, 0, []), none, none, some (.newarray .int, 0, 0, [143]), none, some (.putfield 18, 706, 12, [279]), none, none, some (.aload_n 0, 0, 0, []), some (.sipush 3001, 0, 0, []), none, none, some (.newarray .int, 0, 0, [143]), none, some (.putfield 22, 707, 12, [280]), none, none, some (.aload_n 0, 0, 0, []), some (.aload_n 1, 0, 0, []), some (.putfield 25, 700, 12, [272]), none, none, some (.aload_n 0, 0, 0, []), some (.aload_n 2, 0, 0, []), some (.putfield 29, 701, 12, [273]), none, none, some (.aload_n 0, 0, 0, []), some (.aload_n 3, 0, 0, []), some (.putfield 33, 702, 12, [274]), none, none, some (.aload_n 0, 0, 0, []), some (.aload 4, 0, 0, []), none, some (.putfield 37, 703, 12, [275]), none, none, some (.aload_n 0, 0, 0, []), some (.new 41, 9, 0, [253, 254, 110]), none, none, some (.dup, 0, 0, []), some (.aload_n 3, 0, 0, []), some (.invokespecial 43, 13, 4, [255, 256, 110]), none, none, some (.putfield 46, 705, 12, [277]), none, none, some (.return_, 0, 0, [])]
def aM12 : List (Option aI) := [some (.aload_n 0, 0, 0, []), some (.invokespecial 3, 1000, 2, [247]), none, none, some (.aload_n 0, 0, 0, []), some (.sipush 500, 0, 0, []), none, none, some (.newarray .int, 0, 0, [143]), none, some (.putfield 9, 800, 12, [248]), none, none, some (.aload_n 0, 0, 0, []), some (.sipush 500, 0, 0, []), none, none, some (.newarray .int, 0, 0, [143]), none, some (.putfield 15, 801, 12, [249]), none, none, some (.aload_n 0, 0, 0, []), some (.sipush 500, 0, 0, []), none, none, some (.newarray .int, 0, 0, [143]), none, some (.putfield 18, 802, 12, [250]), none, none, some (.return_, 0, 0, [])]
def aM13 : List (Option aI) := [some (.aload_n 0, 0, 0, []), some (.invokespecial 3, 1000, 2, [257]), none, none, some (.aload_n 0, 0, 0, []), some (.sipush 501, 0, 0, []), none, none, some (.newarray .int, 0, 0, [143]), none, some (.putfield 11, 900, 12, [258]), none, none, some (.aload_n 0, 0, 0, []), some (.sipush 501, 0, 0, []), none, none, some (.newarray .int, 0, 0, [143]), none, some (.putfield 15, 901, 12, [260]), none, none, some (.aload_n 0, 0, 0, []), some (.sipush 501, 0, 0, []), none, none, some (.newarray .int, 0, 0, [143]), none, some (.putfield 18, 902, 12, [262]), none, none, some (.aload_n 0, 0, 0, []), some (.sipush 501, 0, 0, []), none, none, some (.newarray .int, 0, 0, [143]), none, some (.putfield 21, 903, 12, [264]), none, none, some (.aload_n 0, 0, 0, []), some (.sipush 501, 0, 0, []), none, none, some (.newarray .int, 0, 0, [143]), none, some (.putfield 24, 904, 12, [267]), none, none, some (.aload_n 0, 0, 0, []), some (.aload_n 1, 0, 0, []), some (.putfield 27, 905, 12, [268]), none, none, some (.return_, 0, 0, [])]
def aM14 : List (Option aI) := [some (.aload_n 0, 0, 0, []), some (.invokespecial 3, 1000, 2, [287]), none, none, some (.aload_n 0, 0, 0, []), some (.sipush 500, 0, 0, []), none, none, some (.newarray .int, 0, 0, [143]), none, some (.putfield 9, 1000, 12, [288]), none, none, some (.aload_n 0, 0, 0, []), some (.sipush 501, 0, 0, []), none, none, some (.newarray .int, 0, 0, [143]), none, some (.putfield 15, 1001, 12, [290]), none, none, some (.aload_n 0, 0, 0, []), some (.sipush 20000, 0, 0, []), none, none, some (.newarray .int, 0, 0, [143]), none, some (.putfield 18, 1002, 12, [292]), none, none, some (.aload_n 0, 0, 0, []), some (.sipush 501, 0, 0, []), none, none, some (.newarray .int, 0, 0, [143]), none, some (.putfield 21, 1003, 12, [294]), none, none, some (.return_, 0, 0, [])]
def aM15 : List (Option aI) := [some (.aload_n 0, 0, 0, []), some (.getfield 12, 0, 12, [297]), none, none, some (.invokevirtual 64, 16, 2, [307, 308, 309, 102]), none, none, some (.ifCond .eq 5, 12, 0, []), none, none, some (.iconst 0, 0, 0, []), some (.ireturn, 0, 0, []), some (.aload_n 0, 0, 0, []), some (.getfield 12, 0, 12, [297]), none, none, some (.iload_n 1, 0, 0, []), some (.invokevirtual 68, 17, 4, [310, 311, 312, 102]), none, none, some (.aload_n 0, 0, 0, []), some (.getfield 12, 0, 12, [297]), none, none, some (.iload_n 2, 0, 0, []), some (.invokevirtual 68, 17, 4, [310, 311, 312, 102]), none, none, some (.aload_n 0, 0, 0, []), some (.getfield 12, 0, 12, [297]), none, none, some (.iload_n 3, 0, 0, []), some (.invokevirtual 68, 17, 4, [310, 311, 312, 102]), none, none, some (.aload_n 0, 0, 0, []), some (.getfield 12, 0, 12, [297]), none, none, some (.iload 4, 0, 0, []), none, some (.invokevirtual 68, 17, 4, [310, 311, 312, 102]), none, none, some (.aload_n 0, 0, 0, []), some (.getfield 12, 0, 12, [297]), none, none, some (.iload 5, 0, 0, []), none, some (.invokevirtual 68, 17, 4, [310, 311, 312, 102]), none, none, some (.iconst 1, 0, 0, []), some (.ireturn, 0, 0, [])]
def aM16 : List (Option aI) := [some (.aload_n 0, 0, 0, []), some (.getfield 33, 102, 0, [150]), none, none, some (.sipush 7980, 0, 0, []), none, none, some (.if_icmp .le 7, 14, 0, []), none, none, some (.iconst 1, 0, 0, []), some (.goto 4, 15, 0, []), none, none, some (.iconst 0, 0, 0, []), some (.ireturn, 0, 0, [])]
def aM17 : List (Option aI) := [some (.bipush 24, 0, 0, []), none, some (.istore_n 2, 0, 0, []), some (.iload_n 2, 0, 0, []), some (.ifCond .lt 42, 46, 0, []), none, none, some (.aload_n 0, 0, 0, []), some (.getfield 33, 102, 0, [150]), none, none, some (.sipush 8000, 0, 0, []), none, none, some (.if_icmp .ge 32, 46, 0, []), none, none, some (.aload_n 0, 0, 0, []), some (.getfield 9, 100, 12, [144]), none, none, some (.aload_n 0, 0, 0, []), some (.getfield 33, 102, 0, [150]), none, none, some (.iload_n 1, 0, 0, []), some (.iload_n 2, 0, 0, []), some (.iushr, 0, 0, []), some (.i2b, 0, 0, []), some (.bastore, 0, 0, []), some (.aload_n 0, 0, 0, []), some (.dup, 0, 0, []), some (.getfield 33, 102, 0, [150]), none, none, some (.iconst 1, 0, 0, []), some (.iadd, 0, 0, []), some (.putfield 33, 102, 0, [150]), none, none, some (.iinc 2 (-8), 0, 0, []), none, none, some (.goto (-40), 3, 0, []), none, none, some (.return_, 0, 0, [])]
def aM18 : List (Option aI) := [some (.aload_n 0, 0, 0, []), some (.getfield 12, 0, 12, [297]), none, none, some (.getfield 122, 110, 0, [172]), none, none, some (.ireturn, 0, 0, [])]
def aM19 : List (Option aI) := [some (.aload_n 0, 0, 0, []), some (.getfield 12, 0, 12, [297]), none, none, some (.getfield 125, 111, 0, [174]), none, none, some (.ireturn, 0, 0, [])]
def aM20 : List (Option aI) := [some (.aload_n 2, 0, 0, []), some (.iconst 0, 0, 0, []), some (.aload_n 0, 0, 0, []), some (.iload_n 1, 0, 0, []), some (.invokevirtual 7, 21, 4, [321, 322, 323, 101]), none, none, some (.i2l, 0, 0, []), some (.lastore, 0, 0, []), some (.goto 6, 15, 0, []), none, none, some (.astore_n 3, 0, 0, []), some (.iconst 1, 0, 0, []), some (.ireturn, 0, 0, []), some (.iconst 0, 0, 0, []), some (.ireturn, 0, 0, [])]
def aM21 : List (Option aI) := [some (.aload_n 0, 0, 0, []), some (.getfield 12, 0, 12, [297]), none, none, some (.iload_n 1, 0, 0, []), some (.invokevirtual 72, 22, 4, [324, 325, 326, 102]), none, none, some (.ifCond .ne 13, 21, 0, []), none, none, some (.new 76, 12, 1, []), none, none, some (.dup, 0, 0, []), some (.ldc 78, 1, 1, []), none, some (.invokespecial 80, 1100, 4, []), none, none, some (.athrow, 0, 0, []), some (.aload_n 0, 0, 0, []), some (.getfield 12, 0, 12, [297]), none, none, some (.iload_n 1, 0, 0, []), some (.invokevirtual 83, 23, 4, [327, 328, 329, 102]), none, none, some (.aload_n 0, 0, 0, []), some (.getfield 26, 2, 12, [299]), none, none, some (.invokevirtual 86, 46, 2, [379, 380, 381, 105]), none, none, some (.aload_n 0, 0, 0, []), some (.getfield 44, 4, 12, [301]), none, none, some (.invokevirtual 89, 54, 2, [403, 404, 405, 107]), none, none, some (.aload_n 0, 0, 0, []), some (.getfield 53, 5, 12, [302]), none, none, some (.invokevirtual 90, 55, 2, [406, 407, 408, 108]), none, none, some (.istore_n 2, 0, 0, []), some (.aload_n 0, 0, 0, []), some (.getfield 12, 0, 12, [297]), none, none, some (.invokevirtual 94, 25, 2, [550, 334, 335, 102]), none, none, some (.ifCond .eq 18, 76, 0, []), none, none, some (.aload_n 0, 0, 0, []), some (.getfield 12, 0, 12, [297]), none, none, some (.aload_n 0, 0, 0, []), some (.getfield 53, 5, 12, [302]), none, none, some (.iload_n 2, 0, 0, []), some (.invokevirtual 97, 107, 4, [551, 552, 553, 108]), none, none, some (.invokevirtual 101, 113, 4, [569, 570, 571, 102]), none, none, some (.aload_n 0, 0, 0, []), some (.getfield 12, 0, 12, [297]), none, none, some (.invokevirtual 94, 25, 2, [550, 334, 335, 102]), none, none, some (.ifCond .ne 5, 88, 0, []), none, none, some (.iconst (-1), 0, 0, []), some (.ireturn, 0, 0, []), some (.aload_n 0, 0, 0, []), some (.getfield 60, 6, 12, [303]), none, none, some (.aload_n 0, 0, 0, []), some (.getfield 53, 5, 12, [302]), none, none, some (.getfield 104, 705, 12, [278]), none, none, some (.iload_n 2, 0, 0, []), some (.aload_n 0, 0, 0, []), some (.getfield 26, 2, 12, [299]), none, none, some (.invokevirtual 108, 114, 8, [572, 573, 574, 111]), none, none, some (.aload_n 0, 0, 0, []), some (.getfield 60, 6, 12, [303]), none, none, some (.getfield 112, 1004, 0, [296]), none, none, some (.ireturn, 0, 0, [])]
def aM22 : List (Option aI) := [some (.iload_n 1, 0, 0, []), some (.ifCond .lt 15, 16, 0, []), none, none, some (.iload_n 1, 0, 0, []), some (.aload_n 0, 0, 0, []), some (.getfield 33, 102, 0, [150]), none, none, some (.if_icmp .gt 7, 16, 0, []), none, none, some (.iconst 1, 0, 0, []), some (.goto 4, 17, 0, []), none, none, some (.iconst 0, 0, 0, []), some (.ireturn, 0, 0, [])]
def aM23 : List (Option aI) := [some (.aload_n 0, 0, 0, []), some (.iload_n 1, 0, 0, []), some (.putfield 36, 103, 0, [151]), none, none, some (.aload_n 0, 0, 0, []), some (.iconst 0, 0, 0, []), some (.putfield 33, 102, 0, [150]), none, none, some (.aload_n 0, 0, 0, []), some (.iconst 0, 0, 0, []), some (.putfield 39, 104, 0, [152]), none, none, some (.aload_n 0, 0, 0, []), some (.iconst 0, 0, 0, []), some (.putfield 42, 108, 0, [164]), none, none, some (.aload_n 0, 0, 0, []), some (.iconst 0, 0, 0, []), some (.putfield 26, 110, 0, [171]), none, none, some (.aload_n 0, 0, 0, []), some (.iconst (-1), 0, 0, []), some (.putfield 30, 111, 0, [173]), none, none, some (.aload_n 0, 0, 0, []), some (.invokevirtual 45, 24, 2, [330, 331, 332, 102]), none, none, some (.aload_n 0, 0, 0, []), some (.aload_n 0, 0, 0, []), some (.getfield 48, 107, 0, [159]), none, none, some (.putfield 51, 105, 0, [153]), none, none, some (.return_, 0, 0, [])]
def aM24 : List (Option aI) := [some (.aload_n 0, 0, 0, []), some (.invokevirtual 54, 25, 2, [333, 334, 335, 102]), none, none, some (.ifCond .ne 4, 8, 0, []), none, none, some (.return_, 0, 0, []), some (.aload_n 0, 0, 0, []), some (.aload_n 0, 0, 0, []), some (.aload_n 0, 0, 0, []), some (.getfield 42, 108, 0, [164]), none, none, some (.invokevirtual 58, 26, 4, [336, 337, 1, 102]), none, none, some (.putfield 48, 107, 0, [159]), none, none, some (.aload_n 0, 0, 0, []), some (.aload_n 0, 0, 0, []), some (.getfield 48, 107, 0, [159]), none, none, some (.putfield 42, 108, 0, [164]), none, none, some (.aload_n 0, 0, 0, []), some (.getfield 48, 107, 0, [159]), none, none, some (.aload_n 0, 0, 0, []), some (.getfield 36, 103, 0, [151]), none, none, some (.if_icmp .lt 11, 47, 0, []), none, none, some (.aload_n 0, 0, 0, []), some (.iconst 0, 0, 0, []), some (.putfield 62, 106, 0, [156]), none, none, some (.goto 45, 89, 0, []), none, none, some (.aload_n 0, 0, 0, []), some (.getfield 39, 104, 0, [152]), none, none, some (.sipush 6000, 0, 0, []), none, none, some (.if_icmp .lt 12, 66, 0, []), none, none, some (.aload_n 0, 0, 0, []), some (.bipush 8, 0, 0, []), none, some (.invokevirtual 65, 28, 4, [340, 341, 342, 102]), none, none, some (.goto 26, 89, 0, []), none, none, some (.aload_n 0, 0, 0, []), some (.dup, 0, 0, []), some (.getfield 39, 104, 0, [152]), none, none, some (.iconst 1, 0, 0, []), some (.iadd, 0, 0, []), some (.putfield 39, 104, 0, [152]), none, none, some (.aload_n 0, 0, 0, []), some (.aload_n 0, 0, 0, []), some (.getfield 9, 100, 12, [144]), none, none, some (.aload_n 0, 0, 0, []), some (.getfield 48, 107, 0, [159]), none, none, some (.baload, 0, 0, []), some (.invokevirtual 69, 30, 4, [345, 346, 3, 102]), none, none, some (.return_, 0, 0, [])]
def aM25 : List (Option aI) := [some (.aload_n 0, 0, 0, []), some (.getfield 26, 110, 0, [171]), none, none, some (.ifCond .ne 7, 11, 0, []), none, none, some (.iconst 1, 0, 0, []), some (.goto 4, 12, 0, []), none, none, some (.iconst 0, 0, 0, []), some (.ireturn, 0, 0, [])]
def aM26 : List (Option aI) := [some (.iload_n 1, 0, 0, []), some (.istore_n 2, 0, 0, []), some (.iconst 0, 0, 0, []), some (.istore_n 3, 0, 0, []), some (.iload_n 2, 0, 0, []), some (.aload_n 0, 0, 0, []), some (.getfield 36, 103, 0, [151]), none, none, some (.if_icmp .ge 68, 77, 0, []), none, none, some (.iload_n 3, 0, 0, []), some (.ifCond .ne 26, 39, 0, []), none, none, some (.aload_n 0, 0, 0, []), some (.getfield 9, 100, 12, [144]), none, none, some (.iload_n 2, 0, 0, []), some (.baload, 0, 0, []), some (.invokestatic 76, 27, 2, [338, 339, 102]), none, none, some (.ifCond .ne 14, 39, 0, []), none, none, some (.aload_n 0, 0, 0, []), some (.getfield 9, 100, 12, [144]), none, none, some (.iload_n 2, 0, 0, []), some (.baload, 0, 0, []), some (.bipush 35, 0, 0, []), none, some (.if_icmp .ne 41, 77, 0, []), none, none, some (.iload_n 3, 0, 0, []), some (.ifCond .ne 14, 54, 0, []), none, none, some (.aload_n 0, 0, 0, []), some (.getfield 9, 100, 12, [144]), none, none, some (.iload_n 2, 0, 0, []), some (.baload, 0, 0, []), some (.bipush 35, 0, 0, []), none, some (.if_icmp .ne 18, 69, 0, []), none, none, some (.aload_n 0, 0, 0, []), some (.getfield 9, 100, 12, [144]), none, none, some (.iload_n 2, 0, 0, []), some (.baload, 0, 0, []), some (.bipush 10, 0, 0, []), none, some (.if_icmp .eq 7, 69, 0, []), none, none, some (.iconst 1, 0, 0, []), some (.goto 4, 70, 0, []), none, none, some (.iconst 0, 0, 0, []), some (.istore_n 3, 0, 0, []), some (.iinc 2 1, 0, 0, []), none, none, some (.goto (-70), 4, 0, []), none, none, some (.iload_n 2, 0, 0, []), some (.ireturn, 0, 0, [])]
def aM27 : List (Option aI) := [some (.iload_n 0, 0, 0, []), some (.bipush 32, 0, 0, []), none, some (.if_icmp .eq 21, 24, 0, []), none, none, some (.iload_n 0, 0, 0, []), some (.bipush 9, 0, 0, []), none, some (.if_icmp .eq 15, 24, 0, []), none, none, some (.iload_n 0, 0, 0, []), some (.bipush 10, 0, 0, []), none, some (.if_icmp .eq 9, 24, 0, []), none, none, some (.iload_n 0, 0, 0, []), some (.bipush 13, 0, 0, []), none, some (.if_icmp .ne 7, 28, 0, []), none, none, some (.iconst 1, 0, 0, []), some (.goto 4, 29, 0, []), none, none, some (.iconst 0, 0, 0, []), some (.ireturn, 0, 0, [])]
def aM28 : List (Option aI) := [some (.aload_n 0, 0, 0, []), some (.iload_n 1, 0, 0, []), some (.aload_n 0, 0, 0, []), some (.getfield 48, 107, 0, [159]), none, none, some (.invokevirtual 72, 29, 6, [343, 344, 2, 102]), none, none, some (.return_, 0, 0, [])]
def aM29 : List (Option aI) := [some (.aload_n 0, 0, 0, []), some (.invokevirtual 54, 25, 2, [333, 334, 335, 102]), none, none, some (.ifCond .eq 18, 22, 0, []), none, none, some (.aload_n 0, 0, 0, []), some (.iload_n 1, 0, 0, []), some (.putfield 26, 110, 0, [171]), none, none, some (.aload_n 0, 0, 0, []), some (.iload_n 2, 0, 0, []), some (.putfield 30, 111, 0, [173]), none, none, some (.aload_n 0, 0, 0, []), some (.iconst 0, 0, 0, []), some (.putfield 62, 106, 0, [156]), none, none, some (.return_, 0, 0, [])]
def aM30 : List (Option aI) := [some (.iload_n 1, 0, 0, []), some (.invokestatic 80, 31, 2, [347, 348, 102]), none, none, some (.ifCond .eq 10, 14, 0, []), none, none, some (.aload_n 0, 0, 0, []), some (.invokevirtual 83, 32, 2, [349, 350, 4, 102]), none, none, some (.goto 35, 46, 0, []), none, none, some (.iload_n 1, 0, 0, []), some (.bipush 39, 0, 0, []), none, some (.if_icmp .ne 10, 27, 0, []), none, none, some (.aload_n 0, 0, 0, []), some (.invokevirtual 86, 36, 2, [357, 358, 7, 102]), none, none, some (.goto 22, 46, 0, []), none, none, some (.iload_n 1, 0, 0, []), some (.invokestatic 89, 34, 2, [353, 354, 102]), none, none, some (.ifCond .eq 10, 41, 0, []), none, none, some (.aload_n 0, 0, 0, []), some (.invokevirtual 92, 41, 2, [369, 370, 9, 102]), none, none, some (.goto 8, 46, 0, []), none, none, some (.aload_n 0, 0, 0, []), some (.iload_n 1, 0, 0, []), some (.invokevirtual 95, 42, 4, [371, 372, 10, 102]), none, none, some (.return_, 0, 0, [])]
def aM31 : List (Option aI) := [some (.iload_n 0, 0, 0, []), some (.bipush 97, 0, 0, []), none, some (.if_icmp .lt 9, 12, 0, []), none, none, some (.iload_n 0, 0, 0, []), some (.bipush 122, 0, 0, []), none, some (.if_icmp .le 21, 30, 0, []), none, none, some (.iload_n 0, 0, 0, []), some (.bipush 65, 0, 0, []), none, some (.if_icmp .lt 9, 24, 0, []), none, none, some (.iload_n 0, 0, 0, []), some (.bipush 90, 0, 0, []), none, some (.if_icmp .le 9, 30, 0, []), none, none, some (.iload_n 0, 0, 0, []), some (.bipush 95, 0, 0, []), none, some (.if_icmp .ne 7, 34, 0, []), none, none, some (.iconst 1, 0, 0, []), some (.goto 4, 35, 0, []), none, none, some (.iconst 0, 0, 0, []), some (.ireturn, 0, 0, [])]
def aM32 : List (Option aI) := [some (.aload_n 0, 0, 0, []), some (.aload_n 0, 0, 0, []), some (.aload_n 0, 0, 0, []), some (.getfield 48, 107, 0, [159]), none, none, some (.invokevirtual 98, 33, 4, [351, 352, 5, 102]), none, none, some (.putfield 42, 108, 0, [164]), none, none, some (.aload_n 0, 0, 0, []), some (.aload_n 0, 0, 0, []), some (.invokevirtual 101, 35, 2, [355, 356, 6, 102]), none, none, some (.ifCond .eq 8, 25, 0, []), none, none, some (.bipush 23, 0, 0, []), none, some (.goto 4, 26, 0, []), none, none, some (.iconst 1, 0, 0, []), some (.putfield 62, 106, 0, [156]), none, none, some (.aload_n 0, 0, 0, []), some (.getfield 42, 108, 0, [164]), none, none, some (.aload_n 0, 0, 0, []), some (.getfield 48, 107, 0, [159]), none, none, some (.isub, 0, 0, []), some (.bipush 24, 0, 0, []), none, some (.if_icmp .le 9, 49, 0, []), none, none, some (.aload_n 0, 0, 0, []), some (.bipush 8, 0, 0, []), none, some (.invokevirtual 65, 28, 4, [340, 341, 342, 102]), none, none, some (.return_, 0, 0, [])]
def aM33 : List (Option aI) := [some (.iload_n 1, 0, 0, []), some (.istore_n 2, 0, 0, []), some (.iload_n 2, 0, 0, []), some (.aload_n 0, 0, 0, []), some (.getfield 36, 103, 0, [151]), none, none, some (.if_icmp .ge 44, 51, 0, []), none, none, some (.aload_n 0, 0, 0, []), some (.getfield 9, 100, 12, [144]), none, none, some (.iload_n 2, 0, 0, []), some (.baload, 0, 0, []), some (.invokestatic 80, 31, 2, [347, 348, 102]), none, none, some (.ifCond .ne 26, 45, 0, []), none, none, some (.aload_n 0, 0, 0, []), some (.getfield 9, 100, 12, [144]), none, none, some (.iload_n 2, 0, 0, []), some (.baload, 0, 0, []), some (.invokestatic 89, 34, 2, [353, 354, 102]), none, none, some (.ifCond .ne 14, 45, 0, []), none, none, some (.aload_n 0, 0, 0, []), some (.getfield 9, 100, 12, [144]), none, none, some (.iload_n 2, 0, 0, []), some (.baload, 0, 0, []), some (.bipush 39, 0, 0, []), none, some (.if_icmp .ne 9, 51, 0, []), none, none, some (.iinc 2 1, 0, 0, []), none, none, some (.goto (-46), 2, 0, []), none, none, some (.iload_n 2, 0, 0, []), some (.ireturn, 0, 0, [])]
def aM34 : List (Option aI) := [some (.iload_n 0, 0, 0, []), some (.bipush 48, 0, 0, []), none, some (.if_icmp .lt 13, 16, 0, []), none, none, some (.iload_n 0, 0, 0, []), some (.bipush 57, 0, 0, []), none, some (.if_icmp .gt 7, 16, 0, []), none, none, some (.iconst 1, 0, 0, []), some (.goto 4, 17, 0, []), none, none, some (.iconst 0, 0, 0, []), some (.ireturn, 0, 0, [])]
def aM35 : List (Option aI) := [some (.aload_n 0, 0, 0, []), some (.getfield 42, 108, 0, [164]), none, none, some (.aload_n 0, 0, 0, []), some (.getfield 48, 107, 0, [159]), none, none, some (.isub, 0, 0, []), some (.iconst 2, 0, 0, []), some (.if_icmp .eq 5, 15, 0, []), none, none, some (.iconst 0, 0, 0, []), some (.ireturn, 0, 0, []), some (.aload_n 0, 0, 0, []), some (.getfield 9, 100, 12, [144]), none, none, some (.aload_n 0, 0, 0, []), some (.getfield 48, 107, 0, [159]), none, none, some (.baload, 0, 0, []), some (.istore_n 1, 0, 0, []), some (.aload_n 0, 0, 0, []), some (.getfield 9, 100, 12, [144]), none, none, some (.aload_n 0, 0, 0, []), some (.getfield 48, 107, 0, [159]), none, none, some (.iconst 1, 0, 0, []), some (.iadd, 0, 0, []), some (.baload, 0, 0, []), some (.istore_n 2, 0, 0, []), some (.iload_n 1, 0, 0, []), some (.bipush 98, 0, 0, []), none, some (.if_icmp .ne 9, 49, 0, []), none, none, some (.iload_n 2, 0, 0, []), some (.bipush 121, 0, 0, []), none, some (.if_icmp .eq 15, 61, 0, []), none, none, some (.iload_n 1, 0, 0, []), some (.bipush 105, 0, 0, []), none, some (.if_icmp .ne 13, 65, 0, []), none, none, some (.iload_n 2, 0, 0, []), some (.bipush 110, 0, 0, []), none, some (.if_icmp .ne 7, 65, 0, []), none, none, some (.iconst 1, 0, 0, []), some (.goto 4, 66, 0, []), none, none, some (.iconst 0, 0, 0, []), some (.ireturn, 0, 0, [])]
def aM36 : List (Option aI) := [some (.aload_n 0, 0, 0, []), some (.getfield 48, 107, 0, [159]), none, none, some (.iconst 1, 0, 0, []), some (.iadd, 0, 0, []), some (.istore_n 1, 0, 0, []), some (.aload_n 0, 0, 0, []), some (.iload_n 1, 0, 0, []), some (.invokevirtual 104, 37, 4, [359, 360, 8, 102]), none, none, some (.invokestatic 80, 31, 2, [347, 348, 102]), none, none, some (.ifCond .ne 9, 24, 0, []), none, none, some (.aload_n 0, 0, 0, []), some (.iconst 1, 0, 0, []), some (.invokevirtual 65, 28, 4, [340, 341, 342, 102]), none, none, some (.return_, 0, 0, []), some (.aload_n 0, 0, 0, []), some (.aload_n 0, 0, 0, []), some (.iload_n 1, 0, 0, []), some (.invokevirtual 98, 33, 4, [351, 352, 5, 102]), none, none, some (.putfield 42, 108, 0, [164]), none, none, some (.aload_n 0, 0, 0, []), some (.iconst 2, 0, 0, []), some (.putfield 62, 106, 0, [156]), none, none, some (.aload_n 0, 0, 0, []), some (.getfield 42, 108, 0, [164]), none, none, some (.iload_n 1, 0, 0, []), some (.isub, 0, 0, []), some (.bipush 24, 0, 0, []), none, some (.if_icmp .le 12, 58, 0, []), none, none, some (.aload_n 0, 0, 0, []), some (.bipush 8, 0, 0, []), none, some (.invokevirtual 65, 28, 4, [340, 341, 342, 102]), none, none, some (.goto 23, 78, 0, []), none, none, some (.aload_n 0, 0, 0, []), some (.aload_n 0, 0, 0, []), some (.getfield 22, 101, 12, [149]), none, none, some (.aload_n 0, 0, 0, []), some (.getfield 9, 100, 12, [144]), none, none, some (.iload_n 1, 0, 0, []), some (.aload_n 0, 0, 0, []), some (.getfield 42, 108, 0, [164]), none, none, some (.invokevirtual 107, 38, 8, [361, 362, 363, 103]), none, none, some (.putfield 111, 109, 0, [170]), none, none, some (.return_, 0, 0, [])]
def aM37 : List (Option aI) := [some (.iload_n 1, 0, 0, []), some (.aload_n 0, 0, 0, []), some (.getfield 36, 103, 0, [151]), none, none, some (.if_icmp .ge 12, 17, 0, []), none, none, some (.aload_n 0, 0, 0, []), some (.getfield 9, 100, 12, [144]), none, none, some (.iload_n 1, 0, 0, []), some (.baload, 0, 0, []), some (.goto 4, 18, 0, []), none, none, some (.iconst 0, 0, 0, []), some (.ireturn, 0, 0, [])]
def aM38 : List (Option aI) := [some (.aload_n 0, 0, 0, []), some (.aload_n 1, 0, 0, []), some (.iload_n 2, 0, 0, []), some (.iload_n 3, 0, 0, []), some (.invokevirtual 54, 39, 8, [364, 365, 366, 103]), none, none, some (.istore 4, 0, 0, []), none, some (.iload 4, 0, 0, []), none, some (.ifCond .lt 8, 19, 0, []), none, none, some (.iload 4, 0, 0, []), none, some (.goto 10, 26, 0, []), none, none, some (.aload_n 0, 0, 0, []), some (.aload_n 1, 0, 0, []), some (.iload_n 2, 0, 0, []), some (.iload_n 3, 0, 0, []), some (.invokevirtual 37, 5, 8, [130, 131, 132, 103]), none, none, some (.ireturn, 0, 0, [])]
def aM39 : List (Option aI) := [some (.aload_n 0, 0, 0, []), some (.getfield 9, 203, 12, [138]), none, none, some (.aload_n 1, 0, 0, []), some (.iload_n 2, 0, 0, []), some (.iload_n 3, 0, 0, []), some (.invokestatic 41, 6, 6, [133, 134, 103]), none, none, some (.iaload, 0, 0, []), some (.istore 4, 0, 0, []), none, some (.iconst 0, 0, 0, []), some (.istore 5, 0, 0, []), none, some (.iload 5, 0, 0, []), none, some (.aload_n 0, 0, 0, []), some (.getfield 44, 204, 0, [140]), none, none, some (.if_icmp .ge 69, 91, 0, []), none, none, some (.iload 4, 0, 0, []), none, some (.ifCond .lt 64, 91, 0, []), none, none, some (.aload_n 0, 0, 0, []), some (.getfield 17, 201, 12, [136]), none, none, some (.iload 4, 0, 0, []), none, some (.iconst 1, 0, 0, []), some (.iadd, 0, 0, []), some (.iaload, 0, 0, []), some (.aload_n 0, 0, 0, []), some (.getfield 17, 201, 12, [136]), none, none, some (.iload 4, 0, 0, []), none, some (.iaload, 0, 0, []), some (.isub, 0, 0, []), some (.iload_n 3, 0, 0, []), some (.iload_n 2, 0, 0, []), some (.isub, 0, 0, []), some (.if_icmp .ne 26, 76, 0, []), none, none, some (.aload_n 1, 0, 0, []), some (.iload_n 2, 0, 0, []), some (.iload_n 3, 0, 0, []), some (.aload_n 0, 0, 0, []), some (.getfield 13, 200, 12, [135]), none, none, some (.aload_n 0, 0, 0, []), some (.getfield 17, 201, 12, [136]), none, none, some (.iload 4, 0, 0, []), none, some (.iaload, 0, 0, []), some (.invokestatic 48, 40, 11, [367, 368, 101]), none, none, some (.ifCond .eq 6, 76, 0, []), none, none, some (.iload 4, 0, 0, []), none, some (.ireturn, 0, 0, []), some (.aload_n 0, 0, 0, []), some (.getfield 20, 202, 12, [137]), none, none, some (.iload 4, 0, 0, []), none, some (.iaload, 0, 0, []), some (.istore 4, 0, 0, []), none, some (.iinc 5 1, 0, 0, []), none, none, some (.goto (-72), 16, 0, []), none, none, some (.iconst (-1), 0, 0, []), some (.ireturn, 0, 0, [])]
def aM40 : List (Option aI) := [some (.iconst 0, 0, 0, []), some (.istore 5, 0, 0, []), none, some (.iload 5, 0, 0, []), none, some (.iload_n 2, 0, 0, []), some (.iload_n 1, 0, 0, []), some (.isub, 0, 0, []), some (.if_icmp .ge 27, 35, 0, []), none, none, some (.aload_n 0, 0, 0, []), some (.iload_n 1, 0, 0, []), some (.iload 5, 0, 0, []), none, some (.iadd, 0, 0, []), some (.baload, 0, 0, []), some (.aload_n 3, 0, 0, []), some (.iload 4, 0, 0, []), none, some (.iload 5, 0, 0, []), none, some (.iadd, 0, 0, []), some (.baload, 0, 0, []), some (.if_icmp .eq 5, 29, 0, []), none, none, some (.iconst 0, 0, 0, []), some (.ireturn, 0, 0, []), some (.iinc 5 1, 0, 0, []), none, none, some (.goto (-29), 3, 0, []), none, none, some (.iconst 1, 0, 0, []), some (.ireturn, 0, 0, [])]
def aM41 : List (Option aI) := [some (.aload_n 0, 0, 0, []), some (.iconst 0, 0, 0, []), some (.putfield 111, 109, 0, [170]), none, none, some (.aload_n 0, 0, 0, []), some (.getfield 42, 108, 0, [164]), none, none, some (.aload_n 0, 0, 0, []), some (.getfield 36, 103, 0, [151]), none, none, some (.if_icmp .ge 60, 73, 0, []), none, none, some (.aload_n 0, 0, 0, []), some (.getfield 9, 100, 12, [144]), none, none, some (.aload_n 0, 0, 0, []), some (.getfield 42, 108, 0, [164]), none, none, some (.baload, 0, 0, []), some (.invokestatic 89, 34, 2, [353, 354, 102]), none, none, some (.ifCond .eq 45, 73, 0, []), none, none, some (.aload_n 0, 0, 0, []), some (.aload_n 0, 0, 0, []), some (.getfield 111, 109, 0, [170]), none, none, some (.bipush 10, 0, 0, []), none, some (.imul, 0, 0, []), some (.aload_n 0, 0, 0, []), some (.getfield 9, 100, 12, [144]), none, none, some (.aload_n 0, 0, 0, []), some (.getfield 42, 108, 0, [164]), none, none, some (.baload, 0, 0, []), some (.iadd, 0, 0, []), some (.bipush 48, 0, 0, []), none, some (.isub, 0, 0, []), some (.bipush 50, 0, 0, []), none, some (.invokestatic 114, 1002, 4, []), none, none, some (.putfield 111, 109, 0, [170]), none, none, some (.aload_n 0, 0, 0, []), some (.dup, 0, 0, []), some (.getfield 42, 108, 0, [164]), none, none, some (.iconst 1, 0, 0, []), some (.iadd, 0, 0, []), some (.putfield 42, 108, 0, [164]), none, none, some (.goto (-65), 5, 0, []), none, none, some (.aload_n 0, 0, 0, []), some (.iconst 3, 0, 0, []), some (.putfield 62, 106, 0, [156]), none, none, some (.aload_n 0, 0, 0, []), some (.getfield 111, 109, 0, [170]), none, none, some (.bipush 49, 0, 0, []), none, some (.if_icmp .le 9, 93, 0, []), none, none, some (.aload_n 0, 0, 0, []), some (.bipush 8, 0, 0, []), none, some (.invokevirtual 65, 28, 4, [340, 341, 342, 102]), none, none, some (.return_, 0, 0, [])]
def aM42 : List (Option aI) := [some (.aload_n 0, 0, 0, []), some (.aload_n 0, 0, 0, []), some (.getfield 48, 107, 0, [159]), none, none, some (.iconst 1, 0, 0, []), some (.iadd, 0, 0, []), some (.invokevirtual 104, 37, 4, [359, 360, 8, 102]), none, none, some (.istore_n 2, 0, 0, []), some (.aload_n 0, 0, 0, []), some (.iload_n 1, 0, 0, []), some (.iload_n 2, 0, 0, []), some (.aload_n 0, 0, 0, []), some (.aload_n 0, 0, 0, []), some (.getfield 48, 107, 0, [159]), none, none, some (.iconst 2, 0, 0, []), some (.iadd, 0, 0, []), some (.invokevirtual 104, 37, 4, [359, 360, 8, 102]), none, none, some (.invokestatic 120, 43, 6, [373, 374, 102]), none, none, some (.putfield 62, 106, 0, [156]), none, none, some (.aload_n 0, 0, 0, []), some (.aload_n 0, 0, 0, []), some (.getfield 48, 107, 0, [159]), none, none, some (.iconst 3, 0, 0, []), some (.iadd, 0, 0, []), some (.putfield 42, 108, 0, [164]), none, none, some (.aload_n 0, 0, 0, []), some (.getfield 62, 106, 0, [156]), none, none, some (.iconst (-1), 0, 0, []), some (.if_icmp .ne 22, 67, 0, []), none, none, some (.aload_n 0, 0, 0, []), some (.iload_n 1, 0, 0, []), some (.iload_n 2, 0, 0, []), some (.invokestatic 124, 44, 4, [375, 376, 102]), none, none, some (.putfield 62, 106, 0, [156]), none, none, some (.aload_n 0, 0, 0, []), some (.aload_n 0, 0, 0, []), some (.getfield 48, 107, 0, [159]), none, none, some (.iconst 2, 0, 0, []), some (.iadd, 0, 0, []), some (.putfield 42, 108, 0, [164]), none, none, some (.aload_n 0, 0, 0, []), some (.getfield 62, 106, 0, [156]), none, none, some (.iconst (-1), 0, 0, []), some (.if_icmp .ne 21, 93, 0, []), none, none, some (.aload_n 0, 0, 0, []), some (.iload_n 1, 0, 0, []), some (.invokestatic 127, 45, 2, [377, 378, 102]), none, none, some (.putfield 62, 106, 0, [156]), none, none, some (.aload_n 0, 0, 0, []), some (.aload_n 0, 0, 0, []), some (.getfield 48, 107, 0, [159]), none, none, some (.iconst 1, 0, 0, []), some (.iadd, 0, 0, []), some (.putfield 42, 108, 0, [164]), none, none, some (.aload_n 0, 0, 0, []), some (.getfield 62, 106, 0, [156]), none, none, some (.iconst (-1), 0, 0, []), some (.if_icmp .ne 8, 106, 0, []), none, none, some (.aload_n 0, 0, 0, []), some (.iconst 1, 0, 0, []), some (.invokevirtual 65, 28, 4, [340, 341, 342, 102]), none, none, some (.return_, 0, 0, [])]
def aM43 : List (Option aI) := [some (.iload_n 1, 0, 0, []), some (.bipush 61, 0, 0, []), none, some (.if_icmp .ne 9, 12, 0, []), none, none, some (.iload_n 2, 0, 0, []), some (.bipush 62, 0, 0, []), none, some (.if_icmp .eq 5, 14, 0, []), none, none, some (.iconst (-1), 0, 0, []), some (.ireturn, 0, 0, []), some (.iload_n 0, 0, 0, []), some (.bipush 61, 0, 0, []), none, some (.if_icmp .ne 8, 25, 0, []), none, none, some (.bipush 15, 0, 0, []), none, some (.goto 15, 37, 0, []), none, none, some (.iload_n 0, 0, 0, []), some (.bipush 60, 0, 0, []), none, some (.if_icmp .ne 8, 36, 0, []), none, none, some (.bipush 14, 0, 0, []), none, some (.goto 4, 37, 0, []), none, none, some (.iconst (-1), 0, 0, []), some (.ireturn, 0, 0, [])]
def aM44 : List (Option aI) := [some (.iload_n 0, 0, 0, []), some (.lookupswitch 127 #[(45, 75), (47, 88), (58, 114), (60, 51), (92, 101)], 0, 0, []), none, none, none, none, none, none, none, none, none, none, none, none, none, none, none, none, none, none, none, none, none, none, none, none, none, none, none, none, none, none, none, none, none, none, none, none, none, none, none, none, none, none, none, none, none, none, none, none, none, none, some (.iload_n 1, 0, 0, []), some (.bipush 61, 0, 0, []), none, some (.if_icmp .ne 8, 63, 0, []), none, none, some (.bipush 20, 0, 0, []), none, some (.goto 15, 75, 0, []), none, none, some (.iload_n 1, 0, 0, []), some (.bipush 45, 0, 0, []), none, some (.if_icmp .ne 8, 74, 0, []), none, none, some (.bipush 23, 0, 0, []), none, some (.goto 4, 75, 0, []), none, none, some (.iconst (-1), 0, 0, []), some (.ireturn, 0, 0, []), some (.iload_n 1, 0, 0, []), some (.bipush 62, 0, 0, []), none, some (.if_icmp .ne 8, 87, 0, []), none, none, some (.bipush 8, 0, 0, []), none, some (.goto 4, 88, 0, []), none, none, some (.iconst (-1), 0, 0, []), some (.ireturn, 0, 0, []), some (.iload_n 1, 0, 0, []), some (.bipush 92, 0, 0, []), none, some (.if_icmp .ne 8, 100, 0, []), none, none, some (.bipush 17, 0, 0, []), none, some (.goto 4, 101, 0, []), none, none, some (.iconst (-1), 0, 0, []), some (.ireturn, 0, 0, []), some (.iload_n 1, 0, 0, []), some (.bipush 47, 0, 0, []), none, some (.if_icmp .ne 8, 113, 0, []), none, none, some (.bipush 16, 0, 0, []), none, some (.goto 4, 114, 0, []), none, none, some (.iconst (-1), 0, 0, []), some (.ireturn, 0, 0, []), some (.iload_n 1, 0, 0, []), some (.bipush 61, 0, 0, []), none, some (.if_icmp .ne 8, 126, 0, []), none, none, some (.bipush 23, 0, 0, []), none, some (.goto 4, 127, 0, []), none, none, some (.iconst (-1), 0, 0, []), some (.ireturn, 0, 0, []), some (.iconst (-1), 0, 0, []), some (.ireturn, 0, 0, [])]
def aM45 : List (Option aI) := [some (.iload_n 0, 0, 0, []), some (.lookupswitch 195 #[(33, 168), (40, 155), (41, 157), (42, 189), (43, 186), (44, 192), (46, 162), (58, 159), (59, 192), (60, 183), (61, 180), (63, 171), (64, 174), (91, 192), (92, 165), (93, 192), (124, 192), (126, 177)], 0, 0, []), none, none, none, none, none, none, none, none, none, none, none, none, none, none, none, none, none, none, none, none, none, none, none, none, none, none, none, none, none, none, none, none, none, none, none, none, none, none, none, none, none, none, none, none, none, none, none, none, none, none, none, none, none, none, none, none, none, none, none, none, none, none, none, none, none, none, none, none, none, none, none, none, none, none, none, none, none, none, none, none, none, none, none, none, none, none, none, none, none, none, none, none, none, none, none, none, none, none, none, none, none, none, none, none, none, none, none, none, none, none, none, none, none, none, none, none, none, none, none, none, none, none, none, none, none, none, none, none, none, none, none, none, none, none, none, none, none, none, none, none, none, none, none, none, none, none, none, none, none, none, none, none, none, none, some (.iconst 4, 0, 0, []), some (.ireturn, 0, 0, []), some (.iconst 5, 0, 0, []), some (.ireturn, 0, 0, []), some (.bipush 6, 0, 0, []), none, some (.ireturn, 0, 0, []), some (.bipush 7, 0, 0, []), none, some (.ireturn, 0, 0, []), some (.bipush 9, 0, 0, []), none, some (.ireturn, 0, 0, []), some (.bipush 10, 0, 0, []), none, some (.ireturn, 0, 0, []), some (.bipush 11, 0, 0, []), none, some (.ireturn, 0, 0, []), some (.bipush 12, 0, 0, []), none, some (.ireturn, 0, 0, []), some (.bipush 13, 0, 0, []), none, some (.ireturn, 0, 0, []), some (.bipush 18, 0, 0, []), none, some (.ireturn, 0, 0, []), some (.bipush 19, 0, 0, []), none, some (.ireturn, 0, 0, []), some (.bipush 21, 0, 0, []), none, some (.ireturn, 0, 0, []), some (.bipush 22, 0, 0, []), none, some (.ireturn, 0, 0, []), some (.bipush 23, 0, 0, []), none, some (.ireturn, 0, 0, []), some (.iconst (-1), 0, 0, []), some (.ireturn, 0, 0, [])]
def aM46 : List (Option aI) := [some (.aload_n 0, 0, 0, []), some (.iconst 0, 0, 0, []), some (.putfield 33, 408, 0, [199]), none, none, some (.aload_n 0, 0, 0, []), some (.iconst 0, 0, 0, []), some (.putfield 37, 409, 0, [200]), none, none, some (.aload_n 0, 0, 0, []), some (.iconst 0, 0, 0, []), some (.putfield 40, 410, 2, [201]), none, none, some (.aload_n 0, 0, 0, []), some (.iconst 0, 0, 0, []), some (.putfield 44, 411, 2, [203]), none, none, some (.aload_n 0, 0, 0, []), some (.invokevirtual 47, 47, 2, [382, 383, 384, 105]), none, none, some (.pop, 0, 0, []), some (.return_, 0, 0, [])]
def aM47 : List (Option aI) := [some (.aload_n 0, 0, 0, []), some (.ldc 51, 4293967296, 0, [385]), none, some (.iconst (-1), 0, 0, []), some (.iconst (-1), 0, 0, []), some (.invokevirtual 52, 48, 8, [386, 387, 388, 105]), none, none, some (.ireturn, 0, 0, [])]
def aM48 : List (Option aI) := [some (.aload_n 0, 0, 0, []), some (.getfield 33, 408, 0, [199]), none, none, some (.sipush 17000, 0, 0, []), none, none, some (.if_icmp .lt 10, 17, 0, []), none, none, some (.aload_n 0, 0, 0, []), some (.iconst 1, 0, 0, []), some (.putfield 44, 411, 2, [203]), none, none, some (.iconst 0, 0, 0, []), some (.ireturn, 0, 0, []), some (.aload_n 0, 0, 0, []), some (.getfield 9, 400, 12, [191]), none, none, some (.aload_n 0, 0, 0, []), some (.getfield 33, 408, 0, [199]), none, none, some (.iload_n 1, 0, 0, []), some (.iastore, 0, 0, []), some (.aload_n 0, 0, 0, []), some (.getfield 15, 401, 12, [192]), none, none, some (.aload_n 0, 0, 0, []), some (.getfield 33, 408, 0, [199]), none, none, some (.iload_n 2, 0, 0, []), some (.iastore, 0, 0, []), some (.aload_n 0, 0, 0, []), some (.getfield 18, 402, 12, [193]), none, none, some (.aload_n 0, 0, 0, []), some (.getfield 33, 408, 0, [199]), none, none, some (.iload_n 3, 0, 0, []), some (.iastore, 0, 0, []), some (.aload_n 0, 0, 0, []), some (.getfield 21, 403, 12, [194]), none, none, some (.aload_n 0, 0, 0, []), some (.getfield 33, 408, 0, [199]), none, none, some (.aload_n 0, 0, 0, []), some (.getfield 33, 408, 0, [199]), none, none, some (.iastore, 0, 0, []), some (.aload_n 0, 0, 0, []), some (.aload_n 0, 0, 0, []), some (.getfield 33, 408, 0, [199]), none, none, some (.invokevirtual 56, 49, 4, [389, 390, 11, 105]), none, none, some (.aload_n 0, 0, 0, []), some (.dup, 0, 0, []), some (.getfield 33, 408, 0, [199]), none, none, some (.iconst 1, 0, 0, []), some (.iadd, 0, 0, []), some (.putfield 33, 408, 0, [199]), none, none, some (.aload_n 0, 0, 0, []), some (.getfield 33, 408, 0, [199]), none, none, some (.iconst 1, 0, 0, []), some (.isub, 0, 0, []), some (.ireturn, 0, 0, [])]
def aM49 : List (Option aI) := [some (.iconst 1, 0, 0, []), some (.istore_n 2, 0, 0, []), some (.iconst 0, 0, 0, []), some (.istore_n 3, 0, 0, []), some (.aload_n 0, 0, 0, []), some (.getfield 15, 401, 12, [192]), none, none, some (.iload_n 1, 0, 0, []), some (.iaload, 0, 0, []), some (.ifCond .lt 27, 37, 0, []), none, none, some (.iload_n 2, 0, 0, []), some (.aload_n 0, 0, 0, []), some (.aload_n 0, 0, 0, []), some (.getfield 15, 401, 12, [192]), none, none, some (.iload_n 1, 0, 0, []), some (.iaload, 0, 0, []), some (.invokevirtual 64, 50, 4, [391, 392, 393, 105]), none, none, some (.iadd, 0, 0, []), some (.istore_n 2, 0, 0, []), some (.aload_n 0, 0, 0, []), some (.aload_n 0, 0, 0, []), some (.getfield 15, 401, 12, [192]), none, none, some (.iload_n 1, 0, 0, []), some (.iaload, 0, 0, []), some (.invokevirtual 67, 52, 4, [396, 397, 398, 105]), none, none, some (.istore_n 3, 0, 0, []), some (.aload_n 0, 0, 0, []), some (.getfield 18, 402, 12, [193]), none, none, some (.iload_n 1, 0, 0, []), some (.iaload, 0, 0, []), some (.ifCond .lt 31, 74, 0, []), none, none, some (.iload_n 2, 0, 0, []), some (.aload_n 0, 0, 0, []), some (.aload_n 0, 0, 0, []), some (.getfield 18, 402, 12, [193]), none, none, some (.iload_n 1, 0, 0, []), some (.iaload, 0, 0, []), some (.invokevirtual 64, 50, 4, [391, 392, 393, 105]), none, none, some (.iadd, 0, 0, []), some (.istore_n 2, 0, 0, []), some (.iload_n 3, 0, 0, []), some (.aload_n 0, 0, 0, []), some (.aload_n 0, 0, 0, []), some (.getfield 18, 402, 12, [193]), none, none, some (.iload_n 1, 0, 0, []), some (.iaload, 0, 0, []), some (.invokevirtual 67, 52, 4, [396, 397, 398, 105]), none, none, some (.invokestatic 95, 1001, 4, []), none, none, some (.istore_n 3, 0, 0, []), some (.aload_n 0, 0, 0, []), some (.iload_n 1, 0, 0, []), some (.iload_n 2, 0, 0, []), some (.ldc 100, 1000000, 0, [399]), none, some (.invokestatic 101, 1002, 4, []), none, none, some (.iload_n 3, 0, 0, []), some (.iconst 1, 0, 0, []), some (.iadd, 0, 0, []), some (.invokevirtual 104, 53, 8, [400, 401, 402, 105]), none, none, some (.return_, 0, 0, [])]
def aM50 : List (Option aI) := [some (.aload_n 0, 0, 0, []), some (.getfield 24, 404, 12, [195]), none, none, some (.aload_n 0, 0, 0, []), some (.iload_n 1, 0, 0, []), some (.invokevirtual 60, 51, 4, [394, 395, 12, 105]), none, none, some (.iaload, 0, 0, []), some (.ireturn, 0, 0, [])]
def aM51 : List (Option aI) := [some (.iload_n 1, 0, 0, []), some (.istore_n 2, 0, 0, []), some (.iconst 0, 0, 0, []), some (.istore_n 3, 0, 0, []), some (.iload_n 3, 0, 0, []), some (.sipush 17000, 0, 0, []), none, none, some (.if_icmp .ge 43, 51, 0, []), none, none, some (.aload_n 0, 0, 0, []), some (.getfield 21, 403, 12, [194]), none, none, some (.iload_n 2, 0, 0, []), some (.iaload, 0, 0, []), some (.iload_n 2, 0, 0, []), some (.if_icmp .eq 33, 51, 0, []), none, none, some (.aload_n 0, 0, 0, []), some (.getfield 21, 403, 12, [194]), none, none, some (.iload_n 2, 0, 0, []), some (.aload_n 0, 0, 0, []), some (.getfield 21, 403, 12, [194]), none, none, some (.aload_n 0, 0, 0, []), some (.getfield 21, 403, 12, [194]), none, none, some (.iload_n 2, 0, 0, []), some (.iaload, 0, 0, []), some (.iaload, 0, 0, []), some (.iastore, 0, 0, []), some (.aload_n 0, 0, 0, []), some (.getfield 21, 403, 12, [194]), none, none, some (.iload_n 2, 0, 0, []), some (.iaload, 0, 0, []), some (.istore_n 2, 0, 0, []), some (.iinc 3 1, 0, 0, []), none, none, some (.goto (-44), 4, 0, []), none, none, some (.iload_n 2, 0, 0, []), some (.ireturn, 0, 0, [])]
def aM52 : List (Option aI) := [some (.aload_n 0, 0, 0, []), some (.getfield 27, 405, 12, [196]), none, none, some (.aload_n 0, 0, 0, []), some (.iload_n 1, 0, 0, []), some (.invokevirtual 60, 51, 4, [394, 395, 12, 105]), none, none, some (.iaload, 0, 0, []), some (.ireturn, 0, 0, [])]
def aM53 : List (Option aI) := [some (.aload_n 0, 0, 0, []), some (.getfield 24, 404, 12, [195]), none, none, some (.iload_n 1, 0, 0, []), some (.iload_n 2, 0, 0, []), some (.iastore, 0, 0, []), some (.aload_n 0, 0, 0, []), some (.getfield 27, 405, 12, [196]), none, none, some (.iload_n 1, 0, 0, []), some (.iload_n 3, 0, 0, []), some (.iastore, 0, 0, []), some (.return_, 0, 0, [])]
def aM54 : List (Option aI) := [some (.aload_n 0, 0, 0, []), some (.iconst 0, 0, 0, []), some (.putfield 27, 604, 0, [231]), none, none, some (.aload_n 0, 0, 0, []), some (.iconst 0, 0, 0, []), some (.putfield 31, 605, 2, [232]), none, none, some (.aload_n 0, 0, 0, []), some (.iconst 0, 0, 0, []), some (.putfield 35, 606, 2, [235]), none, none, some (.return_, 0, 0, [])]
def aM55 : List (Option aI) := [some (.aload_n 0, 0, 0, []), some (.getfield 46, 705, 12, [277]), none, none, some (.invokevirtual 50, 56, 2, [409, 410, 411, 110]), none, none, some (.aload_n 0, 0, 0, []), some (.getfield 12, 704, 12, [276]), none, none, some (.iconst 0, 0, 0, []), some (.putfield 53, 803, 0, [252]), none, none, some (.aload_n 0, 0, 0, []), some (.iconst 0, 0, 0, []), some (.putfield 57, 708, 0, [281]), none, none, some (.aload_n 0, 0, 0, []), some (.iconst 0, 0, 0, []), some (.putfield 60, 709, 2, [282]), none, none, some (.aload_n 0, 0, 0, []), some (.iconst 0, 0, 0, []), some (.invokevirtual 64, 57, 4, [412, 413, 13, 108]), none, none, some (.istore_n 1, 0, 0, []), some (.aload_n 0, 0, 0, []), some (.getfield 25, 700, 12, [272]), none, none, some (.invokevirtual 68, 106, 2, [547, 548, 549, 102]), none, none, some (.iload_n 1, 0, 0, []), some (.ireturn, 0, 0, [])]
def aM56 : List (Option aI) := [some (.aload_n 0, 0, 0, []), some (.iconst 1, 0, 0, []), some (.putfield 31, 906, 0, [269]), none, none, some (.aload_n 0, 0, 0, []), some (.iconst 0, 0, 0, []), some (.putfield 35, 907, 2, [270]), none, none, some (.return_, 0, 0, [])]
def aM57 : List (Option aI) := [some (.aload_n 0, 0, 0, []), some (.getfield 57, 708, 0, [281]), none, none, some (.istore_n 2, 0, 0, []), some (.aload_n 0, 0, 0, []), some (.iload_n 1, 0, 0, []), some (.invokevirtual 100, 58, 4, [414, 415, 14, 108]), none, none, some (.istore_n 3, 0, 0, []), some (.iconst 0, 0, 0, []), some (.istore 4, 0, 0, []), none, some (.iload 4, 0, 0, []), none, some (.sipush 6000, 0, 0, []), none, none, some (.if_icmp .ge 113, 132, 0, []), none, none, some (.aload_n 0, 0, 0, []), some (.getfield 25, 700, 12, [272]), none, none, some (.getfield 103, 106, 0, [155]), none, none, some (.invokestatic 106, 96, 3, [522, 523, 101]), none, none, some (.ifCond .le 100, 132, 0, []), none, none, some (.aload_n 0, 0, 0, []), some (.getfield 25, 700, 12, [272]), none, none, some (.getfield 103, 106, 0, [155]), none, none, some (.invokestatic 106, 96, 3, [522, 523, 101]), none, none, some (.istore 5, 0, 0, []), none, some (.aload_n 0, 0, 0, []), some (.iload_n 2, 0, 0, []), some (.iload 5, 0, 0, []), none, some (.iload_n 3, 0, 0, []), some (.invokevirtual 109, 103, 8, [540, 541, 38, 108]), none, none, some (.istore_n 3, 0, 0, []), some (.iload 5, 0, 0, []), none, some (.iconst 5, 0, 0, []), some (.if_icmp .ne 36, 95, 0, []), none, none, some (.aload_n 0, 0, 0, []), some (.getfield 57, 708, 0, [281]), none, none, some (.iload_n 2, 0, 0, []), some (.if_icmp .le 28, 95, 0, []), none, none, some (.aload_n 0, 0, 0, []), some (.getfield 22, 707, 12, [280]), none, none, some (.aload_n 0, 0, 0, []), some (.getfield 57, 708, 0, [281]), none, none, some (.iconst 1, 0, 0, []), some (.isub, 0, 0, []), some (.iaload, 0, 0, []), some (.iconst 5, 0, 0, []), some (.if_icmp .ne 13, 95, 0, []), none, none, some (.aload_n 0, 0, 0, []), some (.getfield 25, 700, 12, [272]), none, none, some (.iconst 2, 0, 0, []), some (.invokevirtual 113, 28, 4, [544, 341, 342, 102]), none, none, some (.iload_n 3, 0, 0, []), some (.ireturn, 0, 0, []), some (.aload_n 0, 0, 0, []), some (.aload_n 0, 0, 0, []), some (.getfield 46, 705, 12, [277]), none, none, some (.aload_n 0, 0, 0, []), some (.invokevirtual 117, 98, 2, [527, 528, 35, 108]), none, none, some (.iload_n 3, 0, 0, []), some (.invokevirtual 121, 87, 6, [500, 501, 502, 110]), none, none, some (.iload 5, 0, 0, []), none, some (.invokevirtual 125, 105, 6, [545, 546, 39, 108]), none, none, some (.aload_n 0, 0, 0, []), some (.getfield 25, 700, 12, [272]), none, none, some (.invokevirtual 129, 24, 2, [416, 331, 332, 102]), none, none, some (.aload_n 0, 0, 0, []), some (.iload_n 1, 0, 0, []), some (.invokevirtual 100, 58, 4, [414, 415, 14, 108]), none, none, some (.istore_n 3, 0, 0, []), some (.iinc 4 1, 0, 0, []), none, none, some (.goto (-115), 14, 0, []), none, none, some (.aload_n 0, 0, 0, []), some (.iload_n 2, 0, 0, []), some (.iconst 0, 0, 0, []), some (.iload_n 3, 0, 0, []), some (.invokevirtual 109, 103, 8, [540, 541, 38, 108]), none, none, some (.ireturn, 0, 0, [])]
def aM58 : List (Option aI) := [some (.iconst 0, 0, 0, []), some (.istore_n 2, 0, 0, []), some (.iload_n 2, 0, 0, []), some (.sipush 6000, 0, 0, []), none, none, some (.if_icmp .ge 28, 34, 0, []), none, none, some (.aload_n 0, 0, 0, []), some (.getfield 25, 700, 12, [272]), none, none, some (.getfield 103, 106, 0, [155]), none, none, some (.bipush 13, 0, 0, []), none, some (.if_icmp .ne 16, 34, 0, []), none, none, some (.iinc 2 1, 0, 0, []), none, none, some (.aload_n 0, 0, 0, []), some (.getfield 25, 700, 12, [272]), none, none, some (.invokevirtual 129, 24, 2, [416, 331, 332, 102]), none, none, some (.goto (-29), 2, 0, []), none, none, some (.aload_n 0, 0, 0, []), some (.getfield 25, 700, 12, [272]), none, none, some (.getfield 103, 106, 0, [155]), none, none, some (.invokestatic 136, 59, 3, [417, 418, 101]), none, none, some (.ifCond .eq 11, 55, 0, []), none, none, some (.aload_n 0, 0, 0, []), some (.iload_n 1, 0, 0, []), some (.invokevirtual 139, 60, 4, [419, 420, 15, 108]), none, none, some (.goto 8, 60, 0, []), none, none, some (.aload_n 0, 0, 0, []), some (.iload_n 1, 0, 0, []), some (.invokevirtual 142, 92, 4, [514, 515, 31, 108]), none, none, some (.istore_n 3, 0, 0, []), some (.iconst 0, 0, 0, []), some (.istore 4, 0, 0, []), none, some (.iload 4, 0, 0, []), none, some (.iload_n 2, 0, 0, []), some (.if_icmp .ge 23, 90, 0, []), none, none, some (.aload_n 0, 0, 0, []), some (.getfield 46, 705, 12, [277]), none, none, some (.aload_n 0, 0, 0, []), some (.iconst 3, 0, 0, []), some (.invokevirtual 145, 82, 4, [485, 486, 26, 108]), none, none, some (.iload_n 3, 0, 0, []), some (.invokevirtual 121, 87, 6, [500, 501, 502, 110]), none, none, some (.istore_n 3, 0, 0, []), some (.iinc 4 1, 0, 0, []), none, none, some (.goto (-23), 64, 0, []), none, none, some (.iload_n 3, 0, 0, []), some (.ireturn, 0, 0, [])]
def aM59 : List (Option aI) := [some (.iload_n 0, 0, 0, []), some (.bipush 9, 0, 0, []), none, some (.if_icmp .eq 21, 24, 0, []), none, none, some (.iload_n 0, 0, 0, []), some (.bipush 10, 0, 0, []), none, some (.if_icmp .eq 15, 24, 0, []), none, none, some (.iload_n 0, 0, 0, []), some (.bipush 11, 0, 0, []), none, some (.if_icmp .eq 9, 24, 0, []), none, none, some (.iload_n 0, 0, 0, []), some (.bipush 12, 0, 0, []), none, some (.if_icmp .ne 7, 28, 0, []), none, none, some (.iconst 1, 0, 0, []), some (.goto 4, 29, 0, []), none, none, some (.iconst 0, 0, 0, []), some (.ireturn, 0, 0, [])]
def aM60 : List (Option aI) := [some (.aload_n 0, 0, 0, []), some (.getfield 29, 701, 12, [273]), none, none, some (.getfield 187, 500, 12, [215]), none, none, some (.aload_n 0, 0, 0, []), some (.getfield 25, 700, 12, [272]), none, none, some (.getfield 193, 100, 12, [148]), none, none, some (.aload_n 0, 0, 0, []), some (.getfield 25, 700, 12, [272]), none, none, some (.getfield 197, 107, 0, [162]), none, none, some (.aload_n 0, 0, 0, []), some (.getfield 25, 700, 12, [272]), none, none, some (.getfield 200, 108, 0, [167]), none, none, some (.invokevirtual 203, 39, 8, [421, 365, 366, 103]), none, none, some (.istore_n 2, 0, 0, []), some (.aload_n 0, 0, 0, []), some (.getfield 25, 700, 12, [272]), none, none, some (.invokevirtual 129, 24, 2, [416, 331, 332, 102]), none, none, some (.aload_n 0, 0, 0, []), some (.getfield 25, 700, 12, [272]), none, none, some (.iload_n 1, 0, 0, []), some (.invokevirtual 172, 61, 4, [422, 423, 424, 102]), none, none, some (.ifCond .eq 5, 52, 0, []), none, none, some (.iconst 0, 0, 0, []), some (.ireturn, 0, 0, []), some (.aload_n 0, 0, 0, []), some (.getfield 12, 704, 12, [276]), none, none, some (.getfield 53, 803, 0, [252]), none, none, some (.istore_n 3, 0, 0, []), some (.aload_n 0, 0, 0, []), some (.iload_n 1, 0, 0, []), some (.iconst 1, 0, 0, []), some (.iadd, 0, 0, []), some (.invokevirtual 209, 62, 4, [425, 426, 16, 108]), none, none, some (.iconst 0, 0, 0, []), some (.istore 4, 0, 0, []), none, some (.iload 4, 0, 0, []), none, some (.sipush 6000, 0, 0, []), none, none, some (.if_icmp .ge 38, 113, 0, []), none, none, some (.aload_n 0, 0, 0, []), some (.getfield 25, 700, 12, [272]), none, none, some (.getfield 103, 106, 0, [155]), none, none, some (.iconst 1, 0, 0, []), some (.if_icmp .eq 14, 100, 0, []), none, none, some (.aload_n 0, 0, 0, []), some (.getfield 25, 700, 12, [272]), none, none, some (.getfield 103, 106, 0, [155]), none, none, some (.iconst 4, 0, 0, []), some (.if_icmp .ne 16, 113, 0, []), none, none, some (.aload_n 0, 0, 0, []), some (.iload_n 1, 0, 0, []), some (.iconst 1, 0, 0, []), some (.iadd, 0, 0, []), some (.invokevirtual 209, 62, 4, [425, 426, 16, 108]), none, none, some (.iinc 4 1, 0, 0, []), none, none, some (.goto (-40), 70, 0, []), none, none, some (.aload_n 0, 0, 0, []), some (.getfield 25, 700, 12, [272]), none, none, some (.bipush 7, 0, 0, []), none, some (.invokevirtual 166, 63, 4, [427, 428, 429, 102]), none, none, some (.aload_n 0, 0, 0, []), some (.iload_n 3, 0, 0, []), some (.iload_n 2, 0, 0, []), some (.aload_n 0, 0, 0, []), some (.iload_n 1, 0, 0, []), some (.iconst 1, 0, 0, []), some (.iadd, 0, 0, []), some (.invokevirtual 64, 57, 4, [412, 413, 13, 108]), none, none, some (.invokevirtual 212, 78, 8, [474, 475, 24, 108]), none, none, some (.ireturn, 0, 0, [])]
def aM61 : List (Option aI) := [some (.iload_n 1, 0, 0, []), some (.bipush 40, 0, 0, []), none, some (.if_icmp .lt 11, 14, 0, []), none, none, some (.aload_n 0, 0, 0, []), some (.bipush 8, 0, 0, []), none, some (.invokevirtual 65, 28, 4, [340, 341, 342, 102]), none, none, some (.iconst 1, 0, 0, []), some (.ireturn, 0, 0, []), some (.iconst 0, 0, 0, []), some (.ireturn, 0, 0, [])]
def aM62 : List (Option aI) := [some (.aload_n 0, 0, 0, []), some (.getfield 25, 700, 12, [272]), none, none, some (.getfield 103, 106, 0, [155]), none, none, some (.iconst 4, 0, 0, []), some (.if_icmp .ne 7, 15, 0, []), none, none, some (.iconst 1, 0, 0, []), some (.goto 4, 16, 0, []), none, none, some (.iconst 0, 0, 0, []), some (.istore_n 2, 0, 0, []), some (.iload_n 2, 0, 0, []), some (.ifCond .eq 10, 28, 0, []), none, none, some (.aload_n 0, 0, 0, []), some (.getfield 25, 700, 12, [272]), none, none, some (.invokevirtual 129, 24, 2, [416, 331, 332, 102]), none, none, some (.aload_n 0, 0, 0, []), some (.getfield 25, 700, 12, [272]), none, none, some (.getfield 197, 107, 0, [162]), none, none, some (.istore_n 3, 0, 0, []), some (.aload_n 0, 0, 0, []), some (.getfield 25, 700, 12, [272]), none, none, some (.getfield 200, 108, 0, [167]), none, none, some (.istore 4, 0, 0, []), none, some (.aload_n 0, 0, 0, []), some (.getfield 25, 700, 12, [272]), none, none, some (.iconst 1, 0, 0, []), some (.invokevirtual 166, 63, 4, [427, 428, 429, 102]), none, none, some (.iconst 0, 0, 0, []), some (.istore 5, 0, 0, []), none, some (.iload_n 2, 0, 0, []), some (.ifCond .eq 33, 90, 0, []), none, none, some (.aload_n 0, 0, 0, []), some (.getfield 25, 700, 12, [272]), none, none, some (.bipush 6, 0, 0, []), none, some (.invokevirtual 166, 63, 4, [427, 428, 429, 102]), none, none, some (.aload_n 0, 0, 0, []), some (.getfield 37, 703, 12, [275]), none, none, some (.iload_n 1, 0, 0, []), some (.invokevirtual 175, 64, 4, [430, 431, 432, 107]), none, none, some (.istore 5, 0, 0, []), none, some (.aload_n 0, 0, 0, []), some (.getfield 25, 700, 12, [272]), none, none, some (.iconst 5, 0, 0, []), some (.invokevirtual 166, 63, 4, [427, 428, 429, 102]), none, none, some (.goto 26, 113, 0, []), none, none, some (.aload_n 0, 0, 0, []), some (.getfield 46, 705, 12, [277]), none, none, some (.getfield 221, 907, 2, [271]), none, none, some (.ifCond .eq 7, 104, 0, []), none, none, some (.iconst 0, 0, 0, []), some (.goto 10, 111, 0, []), none, none, some (.aload_n 0, 0, 0, []), some (.getfield 33, 702, 12, [274]), none, none, some (.invokevirtual 222, 47, 2, [467, 383, 384, 105]), none, none, some (.istore 5, 0, 0, []), none, some (.aload_n 0, 0, 0, []), some (.getfield 12, 704, 12, [276]), none, none, some (.invokevirtual 225, 76, 2, [468, 469, 470, 109]), none, none, some (.ifCond .eq 14, 134, 0, []), none, none, some (.aload_n 0, 0, 0, []), some (.getfield 46, 705, 12, [277]), none, none, some (.iconst 1, 0, 0, []), some (.putfield 221, 907, 2, [271]), none, none, some (.goto 15, 146, 0, []), none, none, some (.aload_n 0, 0, 0, []), some (.getfield 12, 704, 12, [276]), none, none, some (.iload_n 3, 0, 0, []), some (.iload 4, 0, 0, []), none, some (.iload 5, 0, 0, []), none, some (.invokevirtual 228, 77, 8, [471, 472, 473, 109]), none, none, some (.return_, 0, 0, [])]
def aM63 : List (Option aI) := [some (.aload_n 0, 0, 0, []), some (.getfield 62, 106, 0, [156]), none, none, some (.iload_n 1, 0, 0, []), some (.if_icmp .ne 10, 15, 0, []), none, none, some (.aload_n 0, 0, 0, []), some (.invokevirtual 45, 24, 2, [330, 331, 332, 102]), none, none, some (.goto 8, 20, 0, []), none, none, some (.aload_n 0, 0, 0, []), some (.iconst 2, 0, 0, []), some (.invokevirtual 65, 28, 4, [340, 341, 342, 102]), none, none, some (.return_, 0, 0, [])]
def aM64 : List (Option aI) := [some (.aload_n 0, 0, 0, []), some (.iload_n 1, 0, 0, []), some (.invokevirtual 38, 65, 4, [433, 434, 17, 107]), none, none, some (.istore_n 2, 0, 0, []), some (.aload_n 0, 0, 0, []), some (.aload_n 0, 0, 0, []), some (.getfield 31, 605, 2, [232]), none, none, some (.ifCond .ne 24, 35, 0, []), none, none, some (.aload_n 0, 0, 0, []), some (.getfield 23, 602, 12, [229]), none, none, some (.getfield 42, 411, 2, [204]), none, none, some (.ifCond .ne 14, 35, 0, []), none, none, some (.aload_n 0, 0, 0, []), some (.getfield 23, 602, 12, [229]), none, none, some (.iload_n 2, 0, 0, []), some (.invokevirtual 47, 75, 4, [464, 465, 466, 105]), none, none, some (.ifCond .eq 7, 39, 0, []), none, none, some (.iconst 1, 0, 0, []), some (.goto 4, 40, 0, []), none, none, some (.iconst 0, 0, 0, []), some (.putfield 31, 605, 2, [232]), none, none, some (.iload_n 2, 0, 0, []), some (.ireturn, 0, 0, [])]
def aM65 : List (Option aI) := [some (.aload_n 0, 0, 0, []), some (.getfield 27, 604, 0, [231]), none, none, some (.istore_n 2, 0, 0, []), some (.aload_n 0, 0, 0, []), some (.iload_n 1, 0, 0, []), some (.invokevirtual 51, 66, 4, [435, 436, 18, 107]), none, none, some (.istore_n 3, 0, 0, []), some (.iconst 0, 0, 0, []), some (.istore 4, 0, 0, []), none, some (.iload 4, 0, 0, []), none, some (.sipush 3001, 0, 0, []), none, none, some (.if_icmp .ge 39, 58, 0, []), none, none, some (.aload_n 0, 0, 0, []), some (.getfield 15, 600, 12, [227]), none, none, some (.getfield 54, 106, 0, [154]), none, none, some (.bipush 8, 0, 0, []), none, some (.if_icmp .ne 27, 58, 0, []), none, none, some (.aload_n 0, 0, 0, []), some (.iload_n 3, 0, 0, []), some (.invokevirtual 59, 73, 4, [459, 460, 23, 107]), none, none, some (.aload_n 0, 0, 0, []), some (.getfield 15, 600, 12, [227]), none, none, some (.invokevirtual 63, 24, 2, [440, 331, 332, 102]), none, none, some (.aload_n 0, 0, 0, []), some (.iload_n 1, 0, 0, []), some (.invokevirtual 51, 66, 4, [435, 436, 18, 107]), none, none, some (.istore_n 3, 0, 0, []), some (.iinc 4 1, 0, 0, []), none, none, some (.goto (-41), 14, 0, []), none, none, some (.aload_n 0, 0, 0, []), some (.getfield 27, 604, 0, [231]), none, none, some (.iload_n 2, 0, 0, []), some (.if_icmp .le 34, 97, 0, []), none, none, some (.aload_n 0, 0, 0, []), some (.dup, 0, 0, []), some (.getfield 27, 604, 0, [231]), none, none, some (.iconst 1, 0, 0, []), some (.isub, 0, 0, []), some (.putfield 27, 604, 0, [231]), none, none, some (.aload_n 0, 0, 0, []), some (.getfield 23, 602, 12, [229]), none, none, some (.aload_n 0, 0, 0, []), some (.getfield 9, 603, 12, [230]), none, none, some (.aload_n 0, 0, 0, []), some (.getfield 27, 604, 0, [231]), none, none, some (.iaload, 0, 0, []), some (.iload_n 3, 0, 0, []), some (.invokevirtual 66, 74, 6, [461, 462, 463, 105]), none, none, some (.istore_n 3, 0, 0, []), some (.goto (-36), 58, 0, []), none, none, some (.iload_n 3, 0, 0, []), some (.ireturn, 0, 0, [])]
def aM66 : List (Option aI) := [some (.aload_n 0, 0, 0, []), some (.getfield 15, 600, 12, [227]), none, none, some (.getfield 54, 106, 0, [154]), none, none, some (.iconst 1, 0, 0, []), some (.if_icmp .ne 11, 19, 0, []), none, none, some (.aload_n 0, 0, 0, []), some (.iload_n 1, 0, 0, []), some (.invokevirtual 70, 67, 4, [437, 438, 19, 107]), none, none, some (.goto 8, 24, 0, []), none, none, some (.aload_n 0, 0, 0, []), some (.iload_n 1, 0, 0, []), some (.invokevirtual 73, 71, 4, [450, 451, 21, 107]), none, none, some (.ireturn, 0, 0, [])]
def aM67 : List (Option aI) := [some (.aload_n 0, 0, 0, []), some (.getfield 19, 601, 12, [228]), none, none, some (.getfield 76, 300, 12, [183]), none, none, some (.aload_n 0, 0, 0, []), some (.getfield 15, 600, 12, [227]), none, none, some (.getfield 82, 100, 12, [146]), none, none, some (.aload_n 0, 0, 0, []), some (.getfield 15, 600, 12, [227]), none, none, some (.getfield 86, 107, 0, [160]), none, none, some (.aload_n 0, 0, 0, []), some (.getfield 15, 600, 12, [227]), none, none, some (.getfield 89, 108, 0, [165]), none, none, some (.invokevirtual 92, 39, 8, [439, 365, 366, 103]), none, none, some (.istore_n 2, 0, 0, []), some (.aload_n 0, 0, 0, []), some (.getfield 15, 600, 12, [227]), none, none, some (.invokevirtual 63, 24, 2, [440, 331, 332, 102]), none, none, some (.iconst (-1), 0, 0, []), some (.istore_n 3, 0, 0, []), some (.iconst (-1), 0, 0, []), some (.istore 4, 0, 0, []), none, some (.iconst 1, 0, 0, []), some (.istore 5, 0, 0, []), none, some (.iconst 0, 0, 0, []), some (.istore 6, 0, 0, []), none, some (.iconst 0, 0, 0, []), some (.istore 7, 0, 0, []), none, some (.iload 7, 0, 0, []), none, some (.sipush 6000, 0, 0, []), none, none, some (.if_icmp .ge 104, 162, 0, []), none, none, some (.aload_n 0, 0, 0, []), some (.getfield 15, 600, 12, [227]), none, none, some (.getfield 54, 106, 0, [154]), none, none, some (.invokestatic 98, 68, 2, [441, 442, 107]), none, none, some (.ifCond .eq 91, 162, 0, []), none, none, some (.aload_n 0, 0, 0, []), some (.getfield 15, 600, 12, [227]), none, none, some (.getfield 54, 106, 0, [154]), none, none, some (.iconst 1, 0, 0, []), some (.if_icmp .ne 10, 92, 0, []), none, none, some (.aload_n 0, 0, 0, []), some (.invokevirtual 101, 69, 2, [443, 444, 20, 107]), none, none, some (.goto 8, 97, 0, []), none, none, some (.aload_n 0, 0, 0, []), some (.iload_n 1, 0, 0, []), some (.invokevirtual 73, 71, 4, [450, 451, 21, 107]), none, none, some (.istore 8, 0, 0, []), none, some (.iload 5, 0, 0, []), none, some (.aload_n 0, 0, 0, []), some (.getfield 23, 602, 12, [229]), none, none, some (.iload 8, 0, 0, []), none, some (.invokevirtual 105, 50, 4, [456, 392, 393, 105]), none, none, some (.iadd, 0, 0, []), some (.istore 5, 0, 0, []), none, some (.iload 6, 0, 0, []), none, some (.aload_n 0, 0, 0, []), some (.getfield 23, 602, 12, [229]), none, none, some (.iload 8, 0, 0, []), none, some (.invokevirtual 108, 52, 4, [457, 397, 398, 105]), none, none, some (.invokestatic 111, 1001, 4, []), none, none, some (.istore 6, 0, 0, []), none, some (.iload 7, 0, 0, []), none, some (.ifCond .ne 8, 139, 0, []), none, none, some (.iload 8, 0, 0, []), none, some (.goto 4, 140, 0, []), none, none, some (.iload_n 3, 0, 0, []), some (.istore_n 3, 0, 0, []), some (.iload 7, 0, 0, []), none, some (.iconst 1, 0, 0, []), some (.if_icmp .ne 8, 152, 0, []), none, none, some (.iload 8, 0, 0, []), none, some (.goto 5, 154, 0, []), none, none, some (.iload 4, 0, 0, []), none, some (.istore 4, 0, 0, []), none, some (.iinc 7 1, 0, 0, []), none, none, some (.goto (-106), 53, 0, []), none, none, some (.iload_n 2, 0, 0, []), some (.ifCond .lt 28, 191, 0, []), none, none, some (.aload_n 0, 0, 0, []), some (.getfield 19, 601, 12, [228]), none, none, some (.iload_n 2, 0, 0, []), some (.invokevirtual 116, 70, 4, [445, 446, 447, 104]), none, none, some (.iload 7, 0, 0, []), none, some (.if_icmp .ne 15, 191, 0, []), none, none, some (.aload_n 0, 0, 0, []), some (.getfield 23, 602, 12, [229]), none, none, some (.iload_n 2, 0, 0, []), some (.iload_n 3, 0, 0, []), some (.iload 4, 0, 0, []), none, some (.invokevirtual 119, 48, 8, [448, 387, 388, 105]), none, none, some (.ireturn, 0, 0, []), some (.aload_n 0, 0, 0, []), some (.iconst 1, 0, 0, []), some (.putfield 35, 606, 2, [235]), none, none, some (.aload_n 0, 0, 0, []), some (.getfield 23, 602, 12, [229]), none, none, some (.invokevirtual 123, 47, 2, [449, 383, 384, 105]), none, none, some (.istore 8, 0, 0, []), none, some (.aload_n 0, 0, 0, []), some (.getfield 23, 602, 12, [229]), none, none, some (.iload 8, 0, 0, []), none, some (.iload 5, 0, 0, []), none, some (.iload 6, 0, 0, []), none, some (.iconst 1, 0, 0, []), some (.iadd, 0, 0, []), some (.invokevirtual 126, 53, 8, [458, 401, 402, 105]), none, none, some (.iload 8, 0, 0, []), none, some (.ireturn, 0, 0, [])]
def aM68 : List (Option aI) := [some (.iload_n 0, 0, 0, []), some (.iconst 1, 0, 0, []), some (.if_icmp .eq 13, 15, 0, []), none, none, some (.iload_n 0, 0, 0, []), some (.iconst 2, 0, 0, []), some (.if_icmp .eq 8, 15, 0, []), none, none, some (.iload_n 0, 0, 0, []), some (.iconst 4, 0, 0, []), some (.if_icmp .ne 7, 19, 0, []), none, none, some (.iconst 1, 0, 0, []), some (.goto 4, 20, 0, []), none, none, some (.iconst 0, 0, 0, []), some (.ireturn, 0, 0, [])]
def aM69 : List (Option aI) := [some (.aload_n 0, 0, 0, []), some (.getfield 19, 601, 12, [228]), none, none, some (.getfield 76, 300, 12, [183]), none, none, some (.aload_n 0, 0, 0, []), some (.getfield 15, 600, 12, [227]), none, none, some (.getfield 82, 100, 12, [146]), none, none, some (.aload_n 0, 0, 0, []), some (.getfield 15, 600, 12, [227]), none, none, some (.getfield 86, 107, 0, [160]), none, none, some (.aload_n 0, 0, 0, []), some (.getfield 15, 600, 12, [227]), none, none, some (.getfield 89, 108, 0, [165]), none, none, some (.invokevirtual 92, 39, 8, [439, 365, 366, 103]), none, none, some (.istore_n 1, 0, 0, []), some (.aload_n 0, 0, 0, []), some (.getfield 15, 600, 12, [227]), none, none, some (.invokevirtual 63, 24, 2, [440, 331, 332, 102]), none, none, some (.iload_n 1, 0, 0, []), some (.ifCond .lt 25, 65, 0, []), none, none, some (.aload_n 0, 0, 0, []), some (.getfield 19, 601, 12, [228]), none, none, some (.iload_n 1, 0, 0, []), some (.invokevirtual 116, 70, 4, [445, 446, 447, 104]), none, none, some (.ifCond .ne 14, 65, 0, []), none, none, some (.aload_n 0, 0, 0, []), some (.getfield 23, 602, 12, [229]), none, none, some (.iload_n 1, 0, 0, []), some (.iconst (-1), 0, 0, []), some (.iconst (-1), 0, 0, []), some (.invokevirtual 119, 48, 8, [448, 387, 388, 105]), none, none, some (.ireturn, 0, 0, []), some (.aload_n 0, 0, 0, []), some (.iconst 1, 0, 0, []), some (.putfield 35, 606, 2, [235]), none, none, some (.aload_n 0, 0, 0, []), some (.getfield 23, 602, 12, [229]), none, none, some (.invokevirtual 123, 47, 2, [449, 383, 384, 105]), none, none, some (.ireturn, 0, 0, [])]
def aM70 : List (Option aI) := [some (.iload_n 1, 0, 0, []), some (.ifCond .lt 21, 22, 0, []), none, none, some (.iload_n 1, 0, 0, []), some (.aload_n 0, 0, 0, []), some (.getfield 22, 301, 12, [185]), none, none, some (.arraylength, 0, 0, []), some (.if_icmp .ge 12, 22, 0, []), none, none, some (.aload_n 0, 0, 0, []), some (.getfield 22, 301, 12, [185]), none, none, some (.iload_n 1, 0, 0, []), some (.iaload, 0, 0, []), some (.goto 4, 23, 0, []), none, none, some (.iconst 0, 0, 0, []), some (.ireturn, 0, 0, [])]
def aM71 : List (Option aI) := [some (.aload_n 0, 0, 0, []), some (.getfield 15, 600, 12, [227]), none, none, some (.getfield 54, 106, 0, [154]), none, none, some (.iconst 4, 0, 0, []), some (.if_icmp .ne 9, 17, 0, []), none, none, some (.aload_n 0, 0, 0, []), some (.iload_n 1, 0, 0, []), some (.invokevirtual 130, 72, 4, [452, 453, 22, 107]), none, none, some (.ireturn, 0, 0, []), some (.aload_n 0, 0, 0, []), some (.getfield 15, 600, 12, [227]), none, none, some (.getfield 54, 106, 0, [154]), none, none, some (.iconst 2, 0, 0, []), some (.if_icmp .ne 26, 51, 0, []), none, none, some (.aload_n 0, 0, 0, []), some (.getfield 23, 602, 12, [229]), none, none, some (.sipush (-1000), 0, 0, []), none, none, some (.aload_n 0, 0, 0, []), some (.getfield 15, 600, 12, [227]), none, none, some (.getfield 133, 109, 0, [168]), none, none, some (.isub, 0, 0, []), some (.iconst (-1), 0, 0, []), some (.iconst (-1), 0, 0, []), some (.invokevirtual 119, 48, 8, [448, 387, 388, 105]), none, none, some (.goto 4, 52, 0, []), none, none, some (.iconst 0, 0, 0, []), some (.istore_n 2, 0, 0, []), some (.aload_n 0, 0, 0, []), some (.getfield 15, 600, 12, [227]), none, none, some (.iconst 2, 0, 0, []), some (.invokevirtual 136, 63, 4, [455, 428, 429, 102]), none, none, some (.iload_n 2, 0, 0, []), some (.ireturn, 0, 0, [])]
def aM72 : List (Option aI) := [some (.aload_n 0, 0, 0, []), some (.getfield 15, 600, 12, [227]), none, none, some (.invokevirtual 63, 24, 2, [440, 331, 332, 102]), none, none, some (.aload_n 0, 0, 0, []), some (.getfield 15, 600, 12, [227]), none, none, some (.iload_n 1, 0, 0, []), some (.invokevirtual 139, 61, 4, [454, 423, 424, 102]), none, none, some (.ifCond .eq 5, 20, 0, []), none, none, some (.iconst 0, 0, 0, []), some (.ireturn, 0, 0, []), some (.aload_n 0, 0, 0, []), some (.iload_n 1, 0, 0, []), some (.iconst 1, 0, 0, []), some (.iadd, 0, 0, []), some (.invokevirtual 38, 65, 4, [433, 434, 17, 107]), none, none, some (.istore_n 2, 0, 0, []), some (.aload_n 0, 0, 0, []), some (.getfield 15, 600, 12, [227]), none, none, some (.iconst 5, 0, 0, []), some (.invokevirtual 136, 63, 4, [455, 428, 429, 102]), none, none, some (.iload_n 2, 0, 0, []), some (.ireturn, 0, 0, [])]
def aM73 : List (Option aI) := [some (.aload_n 0, 0, 0, []), some (.getfield 27, 604, 0, [231]), none, none, some (.sipush 3001, 0, 0, []), none, none, some (.if_icmp .ge 23, 30, 0, []), none, none, some (.aload_n 0, 0, 0, []), some (.getfield 9, 603, 12, [230]), none, none, some (.aload_n 0, 0, 0, []), some (.getfield 27, 604, 0, [231]), none, none, some (.iload_n 1, 0, 0, []), some (.iastore, 0, 0, []), some (.aload_n 0, 0, 0, []), some (.dup, 0, 0, []), some (.getfield 27, 604, 0, [231]), none, none, some (.iconst 1, 0, 0, []), some (.iadd, 0, 0, []), some (.putfield 27, 604, 0, [231]), none, none, some (.return_, 0, 0, [])]
def aM74 : List (Option aI) := [some (.aload_n 0, 0, 0, []), some (.iconst 2, 0, 0, []), some (.iload_n 1, 0, 0, []), some (.iload_n 2, 0, 0, []), some (.invokevirtual 52, 48, 8, [386, 387, 388, 105]), none, none, some (.ireturn, 0, 0, [])]
def aM75 : List (Option aI) := [some (.aload_n 0, 0, 0, []), some (.iload_n 1, 0, 0, []), some (.invokevirtual 64, 50, 4, [391, 392, 393, 105]), none, none, some (.bipush 40, 0, 0, []), none, some (.if_icmp .gt 13, 20, 0, []), none, none, some (.aload_n 0, 0, 0, []), some (.iload_n 1, 0, 0, []), some (.invokevirtual 67, 52, 4, [396, 397, 398, 105]), none, none, some (.bipush 12, 0, 0, []), none, some (.if_icmp .le 7, 24, 0, []), none, none, some (.iconst 1, 0, 0, []), some (.goto 4, 25, 0, []), none, none, some (.iconst 0, 0, 0, []), some (.ireturn, 0, 0, [])]
def aM76 : List (Option aI) := [some (.aload_n 0, 0, 0, []), some (.getfield 21, 803, 0, [251]), none, none, some (.sipush 500, 0, 0, []), none, none, some (.if_icmp .lt 7, 14, 0, []), none, none, some (.iconst 1, 0, 0, []), some (.goto 4, 15, 0, []), none, none, some (.iconst 0, 0, 0, []), some (.ireturn, 0, 0, [])]
def aM77 : List (Option aI) := [some (.aload_n 0, 0, 0, []), some (.getfield 9, 800, 12, [248]), none, none, some (.aload_n 0, 0, 0, []), some (.getfield 21, 803, 0, [251]), none, none, some (.iload_n 1, 0, 0, []), some (.iastore, 0, 0, []), some (.aload_n 0, 0, 0, []), some (.getfield 15, 801, 12, [249]), none, none, some (.aload_n 0, 0, 0, []), some (.getfield 21, 803, 0, [251]), none, none, some (.iload_n 2, 0, 0, []), some (.iastore, 0, 0, []), some (.aload_n 0, 0, 0, []), some (.getfield 18, 802, 12, [250]), none, none, some (.aload_n 0, 0, 0, []), some (.getfield 21, 803, 0, [251]), none, none, some (.iload_n 3, 0, 0, []), some (.iastore, 0, 0, []), some (.aload_n 0, 0, 0, []), some (.dup, 0, 0, []), some (.getfield 21, 803, 0, [251]), none, none, some (.iconst 1, 0, 0, []), some (.iadd, 0, 0, []), some (.putfield 21, 803, 0, [251]), none, none, some (.return_, 0, 0, [])]
def aM78 : List (Option aI) := [some (.iload_n 3, 0, 0, []), some (.istore 4, 0, 0, []), none, some (.aload_n 0, 0, 0, []), some (.getfield 12, 704, 12, [276]), none, none, some (.getfield 53, 803, 0, [252]), none, none, some (.iload_n 1, 0, 0, []), some (.if_icmp .le 64, 75, 0, []), none, none, some (.aload_n 0, 0, 0, []), some (.getfield 12, 704, 12, [276]), none, none, some (.dup, 0, 0, []), some (.getfield 53, 803, 0, [252]), none, none, some (.iconst 1, 0, 0, []), some (.isub, 0, 0, []), some (.putfield 53, 803, 0, [252]), none, none, some (.aload_n 0, 0, 0, []), some (.getfield 46, 705, 12, [277]), none, none, some (.aload_n 0, 0, 0, []), some (.getfield 12, 704, 12, [276]), none, none, some (.aload_n 0, 0, 0, []), some (.getfield 12, 704, 12, [276]), none, none, some (.getfield 53, 803, 0, [252]), none, none, some (.invokevirtual 215, 79, 4, [476, 477, 478, 109]), none, none, some (.iload 4, 0, 0, []), none, some (.invokevirtual 218, 80, 6, [479, 480, 481, 110]), none, none, some (.istore 4, 0, 0, []), none, some (.iload_n 2, 0, 0, []), some (.ifCond .lt (-50), 3, 0, []), none, none, some (.aload_n 0, 0, 0, []), some (.getfield 46, 705, 12, [277]), none, none, some (.aload_n 0, 0, 0, []), some (.iload_n 2, 0, 0, []), some (.invokevirtual 145, 82, 4, [485, 486, 26, 108]), none, none, some (.iload 4, 0, 0, []), none, some (.invokevirtual 121, 87, 6, [500, 501, 502, 110]), none, none, some (.istore 4, 0, 0, []), none, some (.goto (-69), 3, 0, []), none, none, some (.iload 4, 0, 0, []), none, some (.ireturn, 0, 0, [])]
def aM79 : List (Option aI) := [some (.aload_n 0, 0, 0, []), some (.getfield 18, 802, 12, [250]), none, none, some (.iload_n 1, 0, 0, []), some (.iaload, 0, 0, []), some (.ireturn, 0, 0, [])]
def aM80 : List (Option aI) := [some (.aload_n 0, 0, 0, []), some (.getfield 35, 907, 2, [270]), none, none, some (.ifCond .eq 5, 9, 0, []), none, none, some (.iconst 0, 0, 0, []), some (.ireturn, 0, 0, []), some (.aload_n 0, 0, 0, []), some (.bipush (-2), 0, 0, []), none, some (.iload_n 2, 0, 0, []), some (.iconst 0, 0, 0, []), some (.aload_n 0, 0, 0, []), some (.getfield 27, 905, 12, [268]), none, none, some (.iload_n 1, 0, 0, []), some (.aload_n 0, 0, 0, []), some (.getfield 21, 903, 12, [264]), none, none, some (.iload_n 2, 0, 0, []), some (.iaload, 0, 0, []), some (.invokevirtual 49, 74, 6, [482, 462, 463, 105]), none, none, some (.invokevirtual 39, 81, 10, [483, 484, 25, 110]), none, none, some (.ireturn, 0, 0, [])]
def aM81 : List (Option aI) := [some (.aload_n 0, 0, 0, []), some (.getfield 35, 907, 2, [270]), none, none, some (.ifCond .ne 13, 17, 0, []), none, none, some (.aload_n 0, 0, 0, []), some (.getfield 31, 906, 0, [269]), none, none, some (.sipush 501, 0, 0, []), none, none, some (.if_icmp .lt 10, 24, 0, []), none, none, some (.aload_n 0, 0, 0, []), some (.iconst 1, 0, 0, []), some (.putfield 35, 907, 2, [270]), none, none, some (.iconst 0, 0, 0, []), some (.ireturn, 0, 0, []), some (.aload_n 0, 0, 0, []), some (.getfield 11, 900, 12, [258]), none, none, some (.aload_n 0, 0, 0, []), some (.getfield 31, 906, 0, [269]), none, none, some (.iload_n 1, 0, 0, []), some (.iastore, 0, 0, []), some (.aload_n 0, 0, 0, []), some (.getfield 15, 901, 12, [260]), none, none, some (.aload_n 0, 0, 0, []), some (.getfield 31, 906, 0, [269]), none, none, some (.iload_n 2, 0, 0, []), some (.iastore, 0, 0, []), some (.aload_n 0, 0, 0, []), some (.getfield 18, 902, 12, [262]), none, none, some (.aload_n 0, 0, 0, []), some (.getfield 31, 906, 0, [269]), none, none, some (.iload_n 3, 0, 0, []), some (.iastore, 0, 0, []), some (.aload_n 0, 0, 0, []), some (.getfield 21, 903, 12, [264]), none, none, some (.aload_n 0, 0, 0, []), some (.getfield 31, 906, 0, [269]), none, none, some (.iload 4, 0, 0, []), none, some (.iastore, 0, 0, []), some (.aload_n 0, 0, 0, []), some (.getfield 24, 904, 12, [267]), none, none, some (.aload_n 0, 0, 0, []), some (.getfield 31, 906, 0, [269]), none, none, some (.iconst 1, 0, 0, []), some (.aload_n 0, 0, 0, []), some (.getfield 24, 904, 12, [267]), none, none, some (.iload_n 2, 0, 0, []), some (.iaload, 0, 0, []), some (.aload_n 0, 0, 0, []), some (.getfield 24, 904, 12, [267]), none, none, some (.iload_n 3, 0, 0, []), some (.iaload, 0, 0, []), some (.invokestatic 52, 1001, 4, []), none, none, some (.iadd, 0, 0, []), some (.iastore, 0, 0, []), some (.aload_n 0, 0, 0, []), some (.dup, 0, 0, []), some (.getfield 31, 906, 0, [269]), none, none, some (.iconst 1, 0, 0, []), some (.iadd, 0, 0, []), some (.putfield 31, 906, 0, [269]), none, none, some (.aload_n 0, 0, 0, []), some (.getfield 31, 906, 0, [269]), none, none, some (.iconst 1, 0, 0, []), some (.isub, 0, 0, []), some (.ireturn, 0, 0, [])]
def aM82 : List (Option aI) := [some (.aload_n 0, 0, 0, []), some (.iload_n 1, 0, 0, []), some (.iload_n 1, 0, 0, []), some (.invokevirtual 238, 83, 6, [487, 488, 27, 108]), none, none, some (.ireturn, 0, 0, [])]
def aM83 : List (Option aI) := [some (.aload_n 0, 0, 0, []), some (.getfield 46, 705, 12, [277]), none, none, some (.getfield 221, 907, 2, [271]), none, none, some (.ifCond .eq 7, 14, 0, []), none, none, some (.iconst 0, 0, 0, []), some (.goto 23, 34, 0, []), none, none, some (.aload_n 0, 0, 0, []), some (.getfield 46, 705, 12, [277]), none, none, some (.iconst 2, 0, 0, []), some (.iload_n 1, 0, 0, []), some (.imul, 0, 0, []), some (.iconst 1, 0, 0, []), some (.iadd, 0, 0, []), some (.aload_n 0, 0, 0, []), some (.getfield 29, 701, 12, [273]), none, none, some (.iload_n 2, 0, 0, []), some (.invokevirtual 240, 84, 4, [489, 490, 491, 106]), none, none, some (.invokevirtual 235, 86, 6, [497, 498, 499, 110]), none, none, some (.ireturn, 0, 0, [])]
def aM84 : List (Option aI) := [some (.iload_n 1, 0, 0, []), some (.bipush 40, 0, 0, []), none, some (.imul, 0, 0, []), some (.istore_n 2, 0, 0, []), some (.iconst 0, 0, 0, []), some (.istore_n 3, 0, 0, []), some (.aload_n 0, 0, 0, []), some (.getfield 26, 502, 12, [217]), none, none, some (.iload_n 1, 0, 0, []), some (.iaload, 0, 0, []), some (.iconst 1, 0, 0, []), some (.isub, 0, 0, []), some (.istore 4, 0, 0, []), none, some (.iload 4, 0, 0, []), none, some (.iload_n 2, 0, 0, []), some (.if_icmp .lt 144, 164, 0, []), none, none, some (.aload_n 0, 0, 0, []), some (.getfield 22, 501, 12, [216]), none, none, some (.iload 4, 0, 0, []), none, some (.iaload, 0, 0, []), some (.istore 5, 0, 0, []), none, some (.aload_n 0, 0, 0, []), some (.getfield 35, 505, 12, [220]), none, none, some (.iload 5, 0, 0, []), none, some (.invokevirtual 66, 70, 4, [492, 446, 447, 104]), none, none, some (.istore 6, 0, 0, []), none, some (.iload 6, 0, 0, []), none, some (.ifCond .le 18, 63, 0, []), none, none, some (.iload_n 3, 0, 0, []), some (.ifCond .le 14, 63, 0, []), none, none, some (.aload_n 0, 0, 0, []), some (.getfield 32, 504, 12, [219]), none, none, some (.iload_n 3, 0, 0, []), some (.iconst 1, 0, 0, []), some (.isub, 0, 0, []), some (.iaload, 0, 0, []), some (.goto 4, 64, 0, []), none, none, some (.iconst (-1), 0, 0, []), some (.istore 7, 0, 0, []), none, some (.iload 6, 0, 0, []), none, some (.iconst 1, 0, 0, []), some (.if_icmp .le 19, 88, 0, []), none, none, some (.iload_n 3, 0, 0, []), some (.iconst 1, 0, 0, []), some (.if_icmp .le 14, 88, 0, []), none, none, some (.aload_n 0, 0, 0, []), some (.getfield 32, 504, 12, [219]), none, none, some (.iload_n 3, 0, 0, []), some (.iconst 2, 0, 0, []), some (.isub, 0, 0, []), some (.iaload, 0, 0, []), some (.goto 4, 89, 0, []), none, none, some (.iconst (-1), 0, 0, []), some (.istore 8, 0, 0, []), none, some (.iload 5, 0, 0, []), none, some (.ifCond .ge 19, 112, 0, []), none, none, some (.aload_n 0, 0, 0, []), some (.iload_n 2, 0, 0, []), some (.iload 4, 0, 0, []), none, some (.aload_n 0, 0, 0, []), some (.getfield 26, 502, 12, [217]), none, none, some (.iload_n 1, 0, 0, []), some (.iaload, 0, 0, []), some (.invokevirtual 72, 85, 8, [493, 494, 28, 106]), none, none, some (.goto 16, 125, 0, []), none, none, some (.aload_n 0, 0, 0, []), some (.getfield 39, 506, 12, [221]), none, none, some (.iload 5, 0, 0, []), none, some (.iload 7, 0, 0, []), none, some (.iload 8, 0, 0, []), none, some (.invokevirtual 76, 48, 8, [496, 387, 388, 105]), none, none, some (.istore 9, 0, 0, []), none, some (.aload_n 0, 0, 0, []), some (.getfield 29, 503, 12, [218]), none, none, some (.iload 4, 0, 0, []), none, some (.iload_n 2, 0, 0, []), some (.isub, 0, 0, []), some (.iload 9, 0, 0, []), none, some (.iastore, 0, 0, []), some (.iload_n 3, 0, 0, []), some (.iload 6, 0, 0, []), none, some (.isub, 0, 0, []), some (.iconst 0, 0, 0, []), some (.invokestatic 78, 1001, 4, []), none, none, some (.istore_n 3, 0, 0, []), some (.aload_n 0, 0, 0, []), some (.getfield 32, 504, 12, [219]), none, none, some (.iload_n 3, 0, 0, []), some (.iload 9, 0, 0, []), none, some (.iastore, 0, 0, []), some (.iinc 3 1, 0, 0, []), none, none, some (.iinc 4 (-1), 0, 0, []), none, none, some (.goto (-144), 17, 0, []), none, none, some (.aload_n 0, 0, 0, []), some (.getfield 32, 504, 12, [219]), none, none, some (.iconst 0, 0, 0, []), some (.iaload, 0, 0, []), some (.ireturn, 0, 0, [])]
def aM85 : List (Option aI) := [some (.iload_n 2, 0, 0, []), some (.iconst 1, 0, 0, []), some (.iadd, 0, 0, []), some (.istore 4, 0, 0, []), none, some (.iload 4, 0, 0, []), none, some (.iload_n 3, 0, 0, []), some (.if_icmp .ge 35, 43, 0, []), none, none, some (.aload_n 0, 0, 0, []), some (.getfield 22, 501, 12, [216]), none, none, some (.iload 4, 0, 0, []), none, some (.iaload, 0, 0, []), some (.aload_n 0, 0, 0, []), some (.getfield 22, 501, 12, [216]), none, none, some (.iload_n 2, 0, 0, []), some (.iaload, 0, 0, []), some (.if_icmp .ne 13, 37, 0, []), none, none, some (.aload_n 0, 0, 0, []), some (.getfield 29, 503, 12, [218]), none, none, some (.iload 4, 0, 0, []), none, some (.iload_n 1, 0, 0, []), some (.isub, 0, 0, []), some (.iaload, 0, 0, []), some (.ireturn, 0, 0, []), some (.iinc 4 1, 0, 0, []), none, none, some (.goto (-35), 5, 0, []), none, none, some (.aload_n 0, 0, 0, []), some (.getfield 39, 506, 12, [221]), none, none, some (.invokevirtual 84, 47, 2, [495, 383, 384, 105]), none, none, some (.ireturn, 0, 0, [])]
def aM86 : List (Option aI) := [some (.aload_n 0, 0, 0, []), some (.iload_n 1, 0, 0, []), some (.iconst 0, 0, 0, []), some (.iconst 0, 0, 0, []), some (.iload_n 2, 0, 0, []), some (.invokevirtual 39, 81, 10, [483, 484, 25, 110]), none, none, some (.ireturn, 0, 0, [])]
def aM87 : List (Option aI) := [some (.aload_n 0, 0, 0, []), some (.getfield 35, 907, 2, [270]), none, none, some (.ifCond .eq 5, 9, 0, []), none, none, some (.iconst 0, 0, 0, []), some (.ireturn, 0, 0, []), some (.aload_n 0, 0, 0, []), some (.getfield 27, 905, 12, [268]), none, none, some (.aload_n 0, 0, 0, []), some (.getfield 21, 903, 12, [264]), none, none, some (.iload_n 1, 0, 0, []), some (.iaload, 0, 0, []), some (.aload_n 0, 0, 0, []), some (.getfield 21, 903, 12, [264]), none, none, some (.iload_n 2, 0, 0, []), some (.iaload, 0, 0, []), some (.invokevirtual 43, 88, 6, [503, 504, 505, 105]), none, none, some (.istore_n 3, 0, 0, []), some (.aload_n 0, 0, 0, []), some (.iconst (-1), 0, 0, []), some (.iload_n 1, 0, 0, []), some (.iload_n 2, 0, 0, []), some (.iload_n 3, 0, 0, []), some (.invokevirtual 39, 81, 10, [483, 484, 25, 110]), none, none, some (.ireturn, 0, 0, [])]
def aM88 : List (Option aI) := [some (.aload_n 0, 0, 0, []), some (.iload_n 1, 0, 0, []), some (.invokevirtual 60, 51, 4, [394, 395, 12, 105]), none, none, some (.istore_n 3, 0, 0, []), some (.aload_n 0, 0, 0, []), some (.getfield 9, 400, 12, [191]), none, none, some (.iload_n 3, 0, 0, []), some (.iaload, 0, 0, []), some (.iconst 2, 0, 0, []), some (.if_icmp .ne 21, 34, 0, []), none, none, some (.aload_n 0, 0, 0, []), some (.aload_n 0, 0, 0, []), some (.getfield 15, 401, 12, [192]), none, none, some (.iload_n 3, 0, 0, []), some (.iaload, 0, 0, []), some (.iload_n 2, 0, 0, []), some (.invokevirtual 70, 89, 6, [506, 507, 508, 105]), none, none, some (.aload_n 0, 0, 0, []), some (.getfield 18, 402, 12, [193]), none, none, some (.iload_n 3, 0, 0, []), some (.iaload, 0, 0, []), some (.ireturn, 0, 0, []), some (.aload_n 0, 0, 0, []), some (.invokevirtual 47, 47, 2, [382, 383, 384, 105]), none, none, some (.istore 4, 0, 0, []), none, some (.aload_n 0, 0, 0, []), some (.iload_n 3, 0, 0, []), some (.aload_n 0, 0, 0, []), some (.iload_n 2, 0, 0, []), some (.iload 4, 0, 0, []), none, some (.invokevirtual 74, 74, 6, [513, 462, 463, 105]), none, none, some (.invokevirtual 70, 89, 6, [506, 507, 508, 105]), none, none, some (.iload 4, 0, 0, []), none, some (.ireturn, 0, 0, [])]
def aM89 : List (Option aI) := [some (.aload_n 0, 0, 0, []), some (.iconst 0, 0, 0, []), some (.putfield 78, 407, 0, [198]), none, none, some (.aload_n 0, 0, 0, []), some (.iload_n 1, 0, 0, []), some (.iload_n 2, 0, 0, []), some (.invokevirtual 81, 90, 6, [509, 510, 29, 105]), none, none, some (.iconst 0, 0, 0, []), some (.istore_n 3, 0, 0, []), some (.iload_n 3, 0, 0, []), some (.sipush 17000, 0, 0, []), none, none, some (.if_icmp .ge 88, 105, 0, []), none, none, some (.aload_n 0, 0, 0, []), some (.getfield 78, 407, 0, [198]), none, none, some (.ifCond .le 81, 105, 0, []), none, none, some (.aload_n 0, 0, 0, []), some (.getfield 40, 410, 2, [201]), none, none, some (.ifCond .ne 74, 105, 0, []), none, none, some (.aload_n 0, 0, 0, []), some (.dup, 0, 0, []), some (.getfield 78, 407, 0, [198]), none, none, some (.iconst 1, 0, 0, []), some (.isub, 0, 0, []), some (.putfield 78, 407, 0, [198]), none, none, some (.aload_n 0, 0, 0, []), some (.getfield 30, 406, 12, [197]), none, none, some (.aload_n 0, 0, 0, []), some (.getfield 78, 407, 0, [198]), none, none, some (.iaload, 0, 0, []), some (.istore 4, 0, 0, []), none, some (.aload_n 0, 0, 0, []), some (.iload 4, 0, 0, []), none, some (.invokevirtual 60, 51, 4, [394, 395, 12, 105]), none, none, some (.istore 5, 0, 0, []), none, some (.aload_n 0, 0, 0, []), some (.aload_n 0, 0, 0, []), some (.getfield 15, 401, 12, [192]), none, none, some (.iload 4, 0, 0, []), none, some (.iaload, 0, 0, []), some (.aload_n 0, 0, 0, []), some (.getfield 15, 401, 12, [192]), none, none, some (.iload 5, 0, 0, []), none, some (.iaload, 0, 0, []), some (.invokevirtual 84, 91, 6, [511, 512, 30, 105]), none, none, some (.aload_n 0, 0, 0, []), some (.aload_n 0, 0, 0, []), some (.getfield 18, 402, 12, [193]), none, none, some (.iload 4, 0, 0, []), none, some (.iaload, 0, 0, []), some (.aload_n 0, 0, 0, []), some (.getfield 18, 402, 12, [193]), none, none, some (.iload 5, 0, 0, []), none, some (.iaload, 0, 0, []), some (.invokevirtual 84, 91, 6, [511, 512, 30, 105]), none, none, some (.iinc 3 1, 0, 0, []), none, none, some (.goto (-89), 13, 0, []), none, none, some (.return_, 0, 0, [])]
def aM90 : List (Option aI) := [some (.aload_n 0, 0, 0, []), some (.iload_n 1, 0, 0, []), some (.invokevirtual 60, 51, 4, [394, 395, 12, 105]), none, none, some (.istore_n 3, 0, 0, []), some (.aload_n 0, 0, 0, []), some (.iload_n 2, 0, 0, []), some (.invokevirtual 60, 51, 4, [394, 395, 12, 105]), none, none, some (.istore 4, 0, 0, []), none, some (.iload_n 3, 0, 0, []), some (.iload 4, 0, 0, []), none, some (.if_icmp .ne 4, 20, 0, []), none, none, some (.return_, 0, 0, []), some (.aload_n 0, 0, 0, []), some (.getfield 9, 400, 12, [191]), none, none, some (.iload_n 3, 0, 0, []), some (.iaload, 0, 0, []), some (.ldc 51, 4293967296, 0, [385]), none, some (.if_icmp .ne 14, 42, 0, []), none, none, some (.aload_n 0, 0, 0, []), some (.getfield 21, 403, 12, [194]), none, none, some (.iload_n 3, 0, 0, []), some (.iload 4, 0, 0, []), none, some (.iastore, 0, 0, []), some (.goto 97, 136, 0, []), none, none, some (.aload_n 0, 0, 0, []), some (.getfield 9, 400, 12, [191]), none, none, some (.iload 4, 0, 0, []), none, some (.iaload, 0, 0, []), some (.ldc 51, 4293967296, 0, [385]), none, some (.if_icmp .ne 14, 65, 0, []), none, none, some (.aload_n 0, 0, 0, []), some (.getfield 21, 403, 12, [194]), none, none, some (.iload 4, 0, 0, []), none, some (.iload_n 3, 0, 0, []), some (.iastore, 0, 0, []), some (.goto 74, 136, 0, []), none, none, some (.aload_n 0, 0, 0, []), some (.getfield 9, 400, 12, [191]), none, none, some (.iload_n 3, 0, 0, []), some (.iaload, 0, 0, []), some (.aload_n 0, 0, 0, []), some (.getfield 9, 400, 12, [191]), none, none, some (.iload 4, 0, 0, []), none, some (.iaload, 0, 0, []), some (.if_icmp .eq 11, 89, 0, []), none, none, some (.aload_n 0, 0, 0, []), some (.iconst 1, 0, 0, []), some (.putfield 40, 410, 2, [201]), none, none, some (.goto 50, 136, 0, []), none, none, some (.aload_n 0, 0, 0, []), some (.getfield 21, 403, 12, [194]), none, none, some (.iload_n 3, 0, 0, []), some (.iload 4, 0, 0, []), none, some (.iastore, 0, 0, []), some (.aload_n 0, 0, 0, []), some (.getfield 15, 401, 12, [192]), none, none, some (.iload_n 3, 0, 0, []), some (.iaload, 0, 0, []), some (.ifCond .lt 33, 136, 0, []), none, none, some (.aload_n 0, 0, 0, []), some (.getfield 78, 407, 0, [198]), none, none, some (.sipush 17000, 0, 0, []), none, none, some (.if_icmp .ge 23, 136, 0, []), none, none, some (.aload_n 0, 0, 0, []), some (.getfield 30, 406, 12, [197]), none, none, some (.aload_n 0, 0, 0, []), some (.getfield 78, 407, 0, [198]), none, none, some (.iload_n 3, 0, 0, []), some (.iastore, 0, 0, []), some (.aload_n 0, 0, 0, []), some (.dup, 0, 0, []), some (.getfield 78, 407, 0, [198]), none, none, some (.iconst 1, 0, 0, []), some (.iadd, 0, 0, []), some (.putfield 78, 407, 0, [198]), none, none, some (.return_, 0, 0, [])]
def aM91 : List (Option aI) := [some (.iload_n 1, 0, 0, []), some (.ifCond .lt 13, 14, 0, []), none, none, some (.iload_n 2, 0, 0, []), some (.ifCond .lt 9, 14, 0, []), none, none, some (.aload_n 0, 0, 0, []), some (.iload_n 1, 0, 0, []), some (.iload_n 2, 0, 0, []), some (.invokevirtual 81, 90, 6, [509, 510, 29, 105]), none, none, some (.return_, 0, 0, [])]
def aM92 : List (Option aI) := [some (.aload_n 0, 0, 0, []), some (.iload_n 1, 0, 0, []), some (.invokevirtual 148, 93, 4, [516, 517, 32, 108]), none, none, some (.istore_n 2, 0, 0, []), some (.iconst 0, 0, 0, []), some (.istore_n 3, 0, 0, []), some (.iload_n 3, 0, 0, []), some (.sipush 6000, 0, 0, []), none, none, some (.if_icmp .ge 36, 48, 0, []), none, none, some (.aload_n 0, 0, 0, []), some (.getfield 25, 700, 12, [272]), none, none, some (.getfield 103, 106, 0, [155]), none, none, some (.invokestatic 151, 102, 3, [538, 539, 101]), none, none, some (.ifCond .eq 23, 48, 0, []), none, none, some (.aload_n 0, 0, 0, []), some (.getfield 46, 705, 12, [277]), none, none, some (.iload_n 2, 0, 0, []), some (.aload_n 0, 0, 0, []), some (.iload_n 1, 0, 0, []), some (.invokevirtual 148, 93, 4, [516, 517, 32, 108]), none, none, some (.invokevirtual 121, 87, 6, [500, 501, 502, 110]), none, none, some (.istore_n 2, 0, 0, []), some (.iinc 3 1, 0, 0, []), none, none, some (.goto (-37), 8, 0, []), none, none, some (.iload_n 2, 0, 0, []), some (.ireturn, 0, 0, [])]
def aM93 : List (Option aI) := [some (.aload_n 0, 0, 0, []), some (.getfield 25, 700, 12, [272]), none, none, some (.getfield 103, 106, 0, [155]), none, none, some (.iconst 4, 0, 0, []), some (.if_icmp .ne 9, 17, 0, []), none, none, some (.aload_n 0, 0, 0, []), some (.iload_n 1, 0, 0, []), some (.invokevirtual 154, 94, 4, [518, 519, 33, 108]), none, none, some (.ireturn, 0, 0, []), some (.aload_n 0, 0, 0, []), some (.getfield 25, 700, 12, [272]), none, none, some (.getfield 103, 106, 0, [155]), none, none, some (.iconst 3, 0, 0, []), some (.if_icmp .ne 24, 49, 0, []), none, none, some (.aload_n 0, 0, 0, []), some (.aload_n 0, 0, 0, []), some (.getfield 25, 700, 12, [272]), none, none, some (.getfield 157, 109, 0, [169]), none, none, some (.invokevirtual 160, 99, 4, [530, 531, 36, 108]), none, none, some (.istore_n 2, 0, 0, []), some (.aload_n 0, 0, 0, []), some (.getfield 25, 700, 12, [272]), none, none, some (.invokevirtual 129, 24, 2, [416, 331, 332, 102]), none, none, some (.iload_n 2, 0, 0, []), some (.ireturn, 0, 0, []), some (.aload_n 0, 0, 0, []), some (.getfield 25, 700, 12, [272]), none, none, some (.getfield 103, 106, 0, [155]), none, none, some (.iconst 1, 0, 0, []), some (.if_icmp .ne 10, 67, 0, []), none, none, some (.aload_n 0, 0, 0, []), some (.invokevirtual 163, 100, 2, [532, 533, 37, 108]), none, none, some (.goto 4, 68, 0, []), none, none, some (.iconst 0, 0, 0, []), some (.istore_n 2, 0, 0, []), some (.aload_n 0, 0, 0, []), some (.getfield 25, 700, 12, [272]), none, none, some (.iconst 1, 0, 0, []), some (.invokevirtual 166, 63, 4, [427, 428, 429, 102]), none, none, some (.iload_n 2, 0, 0, []), some (.ireturn, 0, 0, [])]
def aM94 : List (Option aI) := [some (.aload_n 0, 0, 0, []), some (.getfield 25, 700, 12, [272]), none, none, some (.invokevirtual 129, 24, 2, [416, 331, 332, 102]), none, none, some (.aload_n 0, 0, 0, []), some (.invokevirtual 169, 95, 2, [520, 521, 34, 108]), none, none, some (.ifCond .eq 25, 36, 0, []), none, none, some (.aload_n 0, 0, 0, []), some (.invokevirtual 117, 98, 2, [527, 528, 35, 108]), none, none, some (.istore_n 2, 0, 0, []), some (.aload_n 0, 0, 0, []), some (.getfield 25, 700, 12, [272]), none, none, some (.invokevirtual 129, 24, 2, [416, 331, 332, 102]), none, none, some (.aload_n 0, 0, 0, []), some (.getfield 25, 700, 12, [272]), none, none, some (.iconst 5, 0, 0, []), some (.invokevirtual 166, 63, 4, [427, 428, 429, 102]), none, none, some (.iload_n 2, 0, 0, []), some (.ireturn, 0, 0, []), some (.aload_n 0, 0, 0, []), some (.getfield 25, 700, 12, [272]), none, none, some (.iload_n 1, 0, 0, []), some (.invokevirtual 172, 61, 4, [422, 423, 424, 102]), none, none, some (.ifCond .eq 5, 49, 0, []), none, none, some (.iconst 0, 0, 0, []), some (.ireturn, 0, 0, []), some (.aload_n 0, 0, 0, []), some (.iload_n 1, 0, 0, []), some (.iconst 1, 0, 0, []), some (.iadd, 0, 0, []), some (.invokevirtual 64, 57, 4, [412, 413, 13, 108]), none, none, some (.istore_n 2, 0, 0, []), some (.aload_n 0, 0, 0, []), some (.getfield 25, 700, 12, [272]), none, none, some (.getfield 103, 106, 0, [155]), none, none, some (.bipush 6, 0, 0, []), none, some (.if_icmp .ne 38, 104, 0, []), none, none, some (.aload_n 0, 0, 0, []), some (.getfield 25, 700, 12, [272]), none, none, some (.invokevirtual 129, 24, 2, [416, 331, 332, 102]), none, none, some (.aload_n 0, 0, 0, []), some (.getfield 37, 703, 12, [275]), none, none, some (.iload_n 1, 0, 0, []), some (.iconst 1, 0, 0, []), some (.iadd, 0, 0, []), some (.invokevirtual 175, 64, 4, [430, 431, 432, 107]), none, none, some (.istore_n 3, 0, 0, []), some (.aload_n 0, 0, 0, []), some (.getfield 33, 702, 12, [274]), none, none, some (.aload_n 0, 0, 0, []), some (.getfield 46, 705, 12, [277]), none, none, some (.getfield 178, 903, 12, [266]), none, none, some (.iload_n 2, 0, 0, []), some (.iaload, 0, 0, []), some (.iload_n 3, 0, 0, []), some (.invokevirtual 181, 89, 6, [529, 507, 508, 105]), none, none, some (.aload_n 0, 0, 0, []), some (.getfield 25, 700, 12, [272]), none, none, some (.iconst 5, 0, 0, []), some (.invokevirtual 166, 63, 4, [427, 428, 429, 102]), none, none, some (.iload_n 2, 0, 0, []), some (.ireturn, 0, 0, [])]
def aM95 : List (Option aI) := [some (.aload_n 0, 0, 0, []), some (.getfield 25, 700, 12, [272]), none, none, some (.getfield 103, 106, 0, [155]), none, none, some (.invokestatic 106, 96, 3, [522, 523, 101]), none, none, some (.ifCond .le 5, 15, 0, []), none, none, some (.iconst 1, 0, 0, []), some (.ireturn, 0, 0, []), some (.aload_n 0, 0, 0, []), some (.getfield 25, 700, 12, [272]), none, none, some (.getfield 103, 106, 0, [155]), none, none, some (.bipush 13, 0, 0, []), none, some (.if_icmp .eq 28, 52, 0, []), none, none, some (.aload_n 0, 0, 0, []), some (.getfield 25, 700, 12, [272]), none, none, some (.getfield 103, 106, 0, [155]), none, none, some (.invokestatic 136, 59, 3, [417, 418, 101]), none, none, some (.ifCond .eq 19, 56, 0, []), none, none, some (.aload_n 0, 0, 0, []), some (.getfield 25, 700, 12, [272]), none, none, some (.getfield 103, 106, 0, [155]), none, none, some (.bipush 9, 0, 0, []), none, some (.if_icmp .eq 7, 56, 0, []), none, none, some (.iconst 1, 0, 0, []), some (.goto 4, 57, 0, []), none, none, some (.iconst 0, 0, 0, []), some (.istore_n 1, 0, 0, []), some (.iload_n 1, 0, 0, []), some (.ifCond .eq 17, 76, 0, []), none, none, some (.aload_n 0, 0, 0, []), some (.getfield 25, 700, 12, [272]), none, none, some (.invokevirtual 184, 97, 2, [524, 525, 526, 102]), none, none, some (.ifCond .eq 7, 76, 0, []), none, none, some (.iconst 1, 0, 0, []), some (.goto 4, 77, 0, []), none, none, some (.iconst 0, 0, 0, []), some (.ireturn, 0, 0, [])]
def aM96 : List (Option aI) := [some (.iload_n 0, 0, 0, []), some (.tableswitch 67 14 22 #[51, 53, 55, 57, 59, 59, 59, 61, 64], 0, 0, []), none, none, none, none, none, none, none, none, none, none, none, none, none, none, none, none, none, none, none, none, none, none, none, none, none, none, none, none, none, none, none, none, none, none, none, none, none, none, none, none, none, none, none, none, none, none, none, none, none, none, some (.iconst 1, 0, 0, []), some (.ireturn, 0, 0, []), some (.iconst 2, 0, 0, []), some (.ireturn, 0, 0, []), some (.iconst 3, 0, 0, []), some (.ireturn, 0, 0, []), some (.iconst 4, 0, 0, []), some (.ireturn, 0, 0, []), some (.iconst 5, 0, 0, []), some (.ireturn, 0, 0, []), some (.bipush 6, 0, 0, []), none, some (.ireturn, 0, 0, []), some (.bipush 7, 0, 0, []), none, some (.ireturn, 0, 0, []), some (.iconst 0, 0, 0, []), some (.ireturn, 0, 0, [])]
def aM97 : List (Option aI) := [some (.aload_n 0, 0, 0, []), some (.aload_n 0, 0, 0, []), some (.getfield 42, 108, 0, [164]), none, none, some (.invokevirtual 58, 26, 4, [336, 337, 1, 102]), none, none, some (.istore_n 1, 0, 0, []), some (.iload_n 1, 0, 0, []), some (.aload_n 0, 0, 0, []), some (.getfield 36, 103, 0, [151]), none, none, some (.if_icmp .ge 18, 32, 0, []), none, none, some (.aload_n 0, 0, 0, []), some (.getfield 9, 100, 12, [144]), none, none, some (.iload_n 1, 0, 0, []), some (.baload, 0, 0, []), some (.bipush 41, 0, 0, []), none, some (.if_icmp .ne 7, 32, 0, []), none, none, some (.iconst 1, 0, 0, []), some (.goto 4, 33, 0, []), none, none, some (.iconst 0, 0, 0, []), some (.ireturn, 0, 0, [])]
def aM98 : List (Option aI) := [some (.aload_n 0, 0, 0, []), some (.getfield 25, 700, 12, [272]), none, none, some (.getfield 103, 106, 0, [155]), none, none, some (.bipush 14, 0, 0, []), none, some (.if_icmp .ne 11, 20, 0, []), none, none, some (.aload_n 0, 0, 0, []), some (.iconst 0, 0, 0, []), some (.bipush 6, 0, 0, []), none, some (.invokevirtual 238, 83, 6, [487, 488, 27, 108]), none, none, some (.ireturn, 0, 0, []), some (.aload_n 0, 0, 0, []), some (.getfield 29, 701, 12, [273]), none, none, some (.getfield 187, 500, 12, [215]), none, none, some (.aload_n 0, 0, 0, []), some (.getfield 25, 700, 12, [272]), none, none, some (.getfield 193, 100, 12, [148]), none, none, some (.aload_n 0, 0, 0, []), some (.getfield 25, 700, 12, [272]), none, none, some (.getfield 197, 107, 0, [162]), none, none, some (.aload_n 0, 0, 0, []), some (.getfield 25, 700, 12, [272]), none, none, some (.getfield 200, 108, 0, [167]), none, none, some (.invokevirtual 203, 39, 8, [421, 365, 366, 103]), none, none, some (.istore_n 1, 0, 0, []), some (.iload_n 1, 0, 0, []), some (.ifCond .lt 9, 62, 0, []), none, none, some (.aload_n 0, 0, 0, []), some (.iload_n 1, 0, 0, []), some (.invokevirtual 145, 82, 4, [485, 486, 26, 108]), none, none, some (.ireturn, 0, 0, []), some (.aload_n 0, 0, 0, []), some (.iconst 1, 0, 0, []), some (.putfield 60, 709, 2, [282]), none, none, some (.aload_n 0, 0, 0, []), some (.getfield 46, 705, 12, [277]), none, none, some (.iconst 0, 0, 0, []), some (.iconst 0, 0, 0, []), some (.invokevirtual 235, 86, 6, [497, 498, 499, 110]), none, none, some (.ireturn, 0, 0, [])]
def aM99 : List (Option aI) := [some (.aload_n 0, 0, 0, []), some (.bipush 10, 0, 0, []), none, some (.invokevirtual 145, 82, 4, [485, 486, 26, 108]), none, none, some (.istore_n 2, 0, 0, []), some (.iconst 0, 0, 0, []), some (.istore_n 3, 0, 0, []), some (.iload_n 3, 0, 0, []), some (.iload_n 1, 0, 0, []), some (.if_icmp .ge 24, 35, 0, []), none, none, some (.aload_n 0, 0, 0, []), some (.getfield 46, 705, 12, [277]), none, none, some (.aload_n 0, 0, 0, []), some (.bipush 11, 0, 0, []), none, some (.invokevirtual 145, 82, 4, [485, 486, 26, 108]), none, none, some (.iload_n 2, 0, 0, []), some (.invokevirtual 121, 87, 6, [500, 501, 502, 110]), none, none, some (.istore_n 2, 0, 0, []), some (.iinc 3 1, 0, 0, []), none, none, some (.goto (-23), 9, 0, []), none, none, some (.iload_n 2, 0, 0, []), some (.ireturn, 0, 0, [])]
def aM100 : List (Option aI) := [some (.aload_n 0, 0, 0, []), some (.getfield 12, 704, 12, [276]), none, none, some (.aload_n 0, 0, 0, []), some (.getfield 25, 700, 12, [272]), none, none, some (.invokevirtual 232, 101, 4, [534, 535, 536, 109]), none, none, some (.istore_n 1, 0, 0, []), some (.iload_n 1, 0, 0, []), some (.ifCond .ge 8, 21, 0, []), none, none, some (.aload_n 0, 0, 0, []), some (.invokevirtual 117, 98, 2, [527, 528, 35, 108]), none, none, some (.ireturn, 0, 0, []), some (.aload_n 0, 0, 0, []), some (.getfield 46, 705, 12, [277]), none, none, some (.iconst 2, 0, 0, []), some (.aload_n 0, 0, 0, []), some (.getfield 12, 704, 12, [276]), none, none, some (.getfield 53, 803, 0, [252]), none, none, some (.iconst 1, 0, 0, []), some (.isub, 0, 0, []), some (.iload_n 1, 0, 0, []), some (.isub, 0, 0, []), some (.imul, 0, 0, []), some (.aload_n 0, 0, 0, []), some (.getfield 12, 704, 12, [276]), none, none, some (.iload_n 1, 0, 0, []), some (.invokevirtual 215, 79, 4, [476, 477, 478, 109]), none, none, some (.invokevirtual 235, 86, 6, [497, 498, 499, 110]), none, none, some (.ireturn, 0, 0, [])]
def aM101 : List (Option aI) := [some (.aload_n 1, 0, 0, []), some (.getfield 25, 108, 0, [163]), none, none, some (.aload_n 1, 0, 0, []), some (.getfield 30, 107, 0, [158]), none, none, some (.isub, 0, 0, []), some (.istore_n 2, 0, 0, []), some (.aload_n 0, 0, 0, []), some (.getfield 21, 803, 0, [251]), none, none, some (.iconst 1, 0, 0, []), some (.isub, 0, 0, []), some (.istore_n 3, 0, 0, []), some (.iload_n 3, 0, 0, []), some (.ifCond .lt 58, 76, 0, []), none, none, some (.aload_n 0, 0, 0, []), some (.getfield 15, 801, 12, [249]), none, none, some (.iload_n 3, 0, 0, []), some (.iaload, 0, 0, []), some (.aload_n 0, 0, 0, []), some (.getfield 9, 800, 12, [248]), none, none, some (.iload_n 3, 0, 0, []), some (.iaload, 0, 0, []), some (.isub, 0, 0, []), some (.iload_n 2, 0, 0, []), some (.if_icmp .ne 35, 70, 0, []), none, none, some (.aload_n 1, 0, 0, []), some (.getfield 33, 100, 12, [145]), none, none, some (.aload_n 0, 0, 0, []), some (.getfield 9, 800, 12, [248]), none, none, some (.iload_n 3, 0, 0, []), some (.iaload, 0, 0, []), some (.aload_n 0, 0, 0, []), some (.getfield 15, 801, 12, [249]), none, none, some (.iload_n 3, 0, 0, []), some (.iaload, 0, 0, []), some (.aload_n 1, 0, 0, []), some (.getfield 33, 100, 12, [145]), none, none, some (.aload_n 1, 0, 0, []), some (.getfield 30, 107, 0, [158]), none, none, some (.invokestatic 37, 40, 11, [537, 368, 101]), none, none, some (.ifCond .eq 5, 70, 0, []), none, none, some (.iload_n 3, 0, 0, []), some (.ireturn, 0, 0, []), some (.iinc 3 (-1), 0, 0, []), none, none, some (.goto (-56), 17, 0, []), none, none, some (.iconst (-1), 0, 0, []), some (.ireturn, 0, 0, [])]
def aM102 : List (Option aI) := [some (.iload_n 0, 0, 0, []), some (.iconst 1, 0, 0, []), some (.if_icmp .eq 13, 15, 0, []), none, none, some (.iload_n 0, 0, 0, []), some (.iconst 3, 0, 0, []), some (.if_icmp .eq 8, 15, 0, []), none, none, some (.iload_n 0, 0, 0, []), some (.iconst 4, 0, 0, []), some (.if_icmp .ne 7, 19, 0, []), none, none, some (.iconst 1, 0, 0, []), some (.goto 4, 20, 0, []), none, none, some (.iconst 0, 0, 0, []), some (.ireturn, 0, 0, [])]
def aM103 : List (Option aI) := [some (.iload_n 3, 0, 0, []), some (.istore 4, 0, 0, []), none, some (.aload_n 0, 0, 0, []), some (.getfield 57, 708, 0, [281]), none, none, some (.iload_n 1, 0, 0, []), some (.if_icmp .le 54, 62, 0, []), none, none, some (.aload_n 0, 0, 0, []), some (.getfield 22, 707, 12, [280]), none, none, some (.aload_n 0, 0, 0, []), some (.getfield 57, 708, 0, [281]), none, none, some (.iconst 1, 0, 0, []), some (.isub, 0, 0, []), some (.iaload, 0, 0, []), some (.iload_n 2, 0, 0, []), some (.invokestatic 132, 104, 4, [542, 543, 108]), none, none, some (.ifCond .eq 36, 62, 0, []), none, none, some (.aload_n 0, 0, 0, []), some (.dup, 0, 0, []), some (.getfield 57, 708, 0, [281]), none, none, some (.iconst 1, 0, 0, []), some (.isub, 0, 0, []), some (.putfield 57, 708, 0, [281]), none, none, some (.aload_n 0, 0, 0, []), some (.getfield 46, 705, 12, [277]), none, none, some (.aload_n 0, 0, 0, []), some (.getfield 18, 706, 12, [279]), none, none, some (.aload_n 0, 0, 0, []), some (.getfield 57, 708, 0, [281]), none, none, some (.iaload, 0, 0, []), some (.iload 4, 0, 0, []), none, some (.invokevirtual 121, 87, 6, [500, 501, 502, 110]), none, none, some (.istore 4, 0, 0, []), none, some (.goto (-56), 3, 0, []), none, none, some (.iload 4, 0, 0, []), none, some (.ireturn, 0, 0, [])]
def aM104 : List (Option aI) := [some (.iload_n 0, 0, 0, []), some (.iload_n 1, 0, 0, []), some (.if_icmp .gt 13, 15, 0, []), none, none, some (.iload_n 0, 0, 0, []), some (.iload_n 1, 0, 0, []), some (.if_icmp .ne 12, 19, 0, []), none, none, some (.iload_n 0, 0, 0, []), some (.iconst 5, 0, 0, []), some (.if_icmp .le 7, 19, 0, []), none, none, some (.iconst 1, 0, 0, []), some (.goto 4, 20, 0, []), none, none, some (.iconst 0, 0, 0, []), some (.ireturn, 0, 0, [])]
def aM105 : List (Option aI) := [some (.aload_n 0, 0, 0, []), some (.getfield 57, 708, 0, [281]), none, none, some (.sipush 3001, 0, 0, []), none, none, some (.if_icmp .ge 33, 40, 0, []), none, none, some (.aload_n 0, 0, 0, []), some (.getfield 18, 706, 12, [279]), none, none, some (.aload_n 0, 0, 0, []), some (.getfield 57, 708, 0, [281]), none, none, some (.iload_n 1, 0, 0, []), some (.iastore, 0, 0, []), some (.aload_n 0, 0, 0, []), some (.getfield 22, 707, 12, [280]), none, none, some (.aload_n 0, 0, 0, []), some (.getfield 57, 708, 0, [281]), none, none, some (.iload_n 2, 0, 0, []), some (.iastore, 0, 0, []), some (.aload_n 0, 0, 0, []), some (.dup, 0, 0, []), some (.getfield 57, 708, 0, [281]), none, none, some (.iconst 1, 0, 0, []), some (.iadd, 0, 0, []), some (.putfield 57, 708, 0, [281]), none, none, some (.return_, 0, 0, [])]
def aM106 : List (Option aI) := [some (.aload_n 0, 0, 0, []), some (.getfield 62, 106, 0, [156]), none, none, some (.ifCond .eq 8, 12, 0, []), none, none, some (.aload_n 0, 0, 0, []), some (.iconst 2, 0, 0, []), some (.invokevirtual 65, 28, 4, [340, 341, 342, 102]), none, none, some (.return_, 0, 0, [])]
def aM107 : List (Option aI) := [some (.aload_n 0, 0, 0, []), some (.getfield 46, 705, 12, [277]), none, none, some (.iload_n 1, 0, 0, []), some (.invokevirtual 73, 108, 4, [554, 555, 556, 110]), none, none, some (.ifCond .ne 23, 31, 0, []), none, none, some (.aload_n 0, 0, 0, []), some (.getfield 37, 703, 12, [275]), none, none, some (.getfield 77, 605, 2, [233]), none, none, some (.ifCond .ne 13, 31, 0, []), none, none, some (.aload_n 0, 0, 0, []), some (.getfield 33, 702, 12, [274]), none, none, some (.getfield 82, 411, 2, [205]), none, none, some (.ifCond .eq 6, 34, 0, []), none, none, some (.bipush 8, 0, 0, []), none, some (.ireturn, 0, 0, []), some (.aload_n 0, 0, 0, []), some (.getfield 60, 709, 2, [282]), none, none, some (.ifCond .eq 5, 43, 0, []), none, none, some (.iconst 4, 0, 0, []), some (.ireturn, 0, 0, []), some (.aload_n 0, 0, 0, []), some (.getfield 37, 703, 12, [275]), none, none, some (.getfield 87, 606, 2, [236]), none, none, some (.ifCond .ne 23, 73, 0, []), none, none, some (.aload_n 0, 0, 0, []), some (.getfield 33, 702, 12, [274]), none, none, some (.getfield 90, 410, 2, [202]), none, none, some (.ifCond .ne 13, 73, 0, []), none, none, some (.aload_n 0, 0, 0, []), some (.getfield 33, 702, 12, [274]), none, none, some (.invokevirtual 93, 109, 2, [557, 558, 559, 105]), none, none, some (.ifCond .ne 5, 75, 0, []), none, none, some (.iconst 3, 0, 0, []), some (.ireturn, 0, 0, []), some (.aload_n 0, 0, 0, []), some (.getfield 46, 705, 12, [277]), none, none, some (.invokevirtual 97, 112, 2, [565, 566, 567, 110]), none, none, some (.ifCond .eq 8, 90, 0, []), none, none, some (.bipush 8, 0, 0, []), none, some (.goto 4, 91, 0, []), none, none, some (.iconst 0, 0, 0, []), some (.ireturn, 0, 0, [])]
def aM108 : List (Option aI) := [some (.aload_n 0, 0, 0, []), some (.getfield 35, 907, 2, [270]), none, none, some (.ifCond .ne 14, 18, 0, []), none, none, some (.aload_n 0, 0, 0, []), some (.getfield 24, 904, 12, [267]), none, none, some (.iload_n 1, 0, 0, []), some (.iaload, 0, 0, []), some (.bipush 50, 0, 0, []), none, some (.if_icmp .le 7, 22, 0, []), none, none, some (.iconst 1, 0, 0, []), some (.goto 4, 23, 0, []), none, none, some (.iconst 0, 0, 0, []), some (.ireturn, 0, 0, [])]
def aM109 : List (Option aI) := [some (.iconst 0, 0, 0, []), some (.istore_n 1, 0, 0, []), some (.iload_n 1, 0, 0, []), some (.aload_n 0, 0, 0, []), some (.getfield 33, 408, 0, [199]), none, none, some (.if_icmp .ge 16, 23, 0, []), none, none, some (.aload_n 0, 0, 0, []), some (.getfield 27, 405, 12, [196]), none, none, some (.iload_n 1, 0, 0, []), some (.iconst 0, 0, 0, []), some (.iastore, 0, 0, []), some (.iinc 1 1, 0, 0, []), none, none, some (.goto (-18), 2, 0, []), none, none, some (.iconst 0, 0, 0, []), some (.istore_n 1, 0, 0, []), some (.iload_n 1, 0, 0, []), some (.aload_n 0, 0, 0, []), some (.getfield 33, 408, 0, [199]), none, none, some (.if_icmp .ge 34, 64, 0, []), none, none, some (.aload_n 0, 0, 0, []), some (.iload_n 1, 0, 0, []), some (.invokevirtual 60, 51, 4, [394, 395, 12, 105]), none, none, some (.istore_n 2, 0, 0, []), some (.aload_n 0, 0, 0, []), some (.getfield 27, 405, 12, [196]), none, none, some (.iload_n 2, 0, 0, []), some (.iaload, 0, 0, []), some (.ifCond .ne 13, 58, 0, []), none, none, some (.aload_n 0, 0, 0, []), some (.iload_n 2, 0, 0, []), some (.invokevirtual 87, 110, 4, [560, 561, 40, 105]), none, none, some (.ifCond .ne 5, 58, 0, []), none, none, some (.iconst 0, 0, 0, []), some (.ireturn, 0, 0, []), some (.iinc 1 1, 0, 0, []), none, none, some (.goto (-36), 25, 0, []), none, none, some (.iconst 1, 0, 0, []), some (.ireturn, 0, 0, [])]
def aM110 : List (Option aI) := [some (.aload_n 0, 0, 0, []), some (.getfield 30, 406, 12, [197]), none, none, some (.iconst 0, 0, 0, []), some (.iload_n 1, 0, 0, []), some (.iastore, 0, 0, []), some (.iconst 1, 0, 0, []), some (.istore_n 2, 0, 0, []), some (.iconst 0, 0, 0, []), some (.istore_n 3, 0, 0, []), some (.iload_n 3, 0, 0, []), some (.ldc 91, 34000, 0, [562]), none, some (.if_icmp .ge 87, 101, 0, []), none, none, some (.iload_n 2, 0, 0, []), some (.ifCond .le 83, 101, 0, []), none, none, some (.aload_n 0, 0, 0, []), some (.getfield 30, 406, 12, [197]), none, none, some (.iload_n 2, 0, 0, []), some (.iconst 1, 0, 0, []), some (.isub, 0, 0, []), some (.iaload, 0, 0, []), some (.istore 4, 0, 0, []), none, some (.aload_n 0, 0, 0, []), some (.getfield 27, 405, 12, [196]), none, none, some (.iload 4, 0, 0, []), none, some (.iconst (-1), 0, 0, []), some (.iastore, 0, 0, []), some (.aload_n 0, 0, 0, []), some (.iload 4, 0, 0, []), none, some (.invokevirtual 92, 111, 4, [563, 564, 41, 105]), none, none, some (.istore 5, 0, 0, []), none, some (.iload 5, 0, 0, []), none, some (.ifCond .ge 15, 64, 0, []), none, none, some (.aload_n 0, 0, 0, []), some (.iload 4, 0, 0, []), none, some (.invokevirtual 56, 49, 4, [389, 390, 11, 105]), none, none, some (.iinc 2 (-1), 0, 0, []), none, none, some (.goto 34, 95, 0, []), none, none, some (.aload_n 0, 0, 0, []), some (.getfield 27, 405, 12, [196]), none, none, some (.iload 5, 0, 0, []), none, some (.iaload, 0, 0, []), some (.iconst (-1), 0, 0, []), some (.if_icmp .eq 10, 82, 0, []), none, none, some (.iload_n 2, 0, 0, []), some (.sipush 17000, 0, 0, []), none, none, some (.if_icmp .lt 5, 84, 0, []), none, none, some (.iconst 0, 0, 0, []), some (.ireturn, 0, 0, []), some (.aload_n 0, 0, 0, []), some (.getfield 30, 406, 12, [197]), none, none, some (.iload_n 2, 0, 0, []), some (.iload 5, 0, 0, []), none, some (.iastore, 0, 0, []), some (.iinc 2 1, 0, 0, []), none, none, some (.iinc 3 1, 0, 0, []), none, none, some (.goto (-87), 11, 0, []), none, none, some (.iconst 1, 0, 0, []), some (.ireturn, 0, 0, [])]
def aM111 : List (Option aI) := [some (.aload_n 0, 0, 0, []), some (.getfield 15, 401, 12, [192]), none, none, some (.iload_n 1, 0, 0, []), some (.iaload, 0, 0, []), some (.ifCond .lt 27, 33, 0, []), none, none, some (.aload_n 0, 0, 0, []), some (.aload_n 0, 0, 0, []), some (.getfield 15, 401, 12, [192]), none, none, some (.iload_n 1, 0, 0, []), some (.iaload, 0, 0, []), some (.invokevirtual 67, 52, 4, [396, 397, 398, 105]), none, none, some (.ifCond .gt 14, 33, 0, []), none, none, some (.aload_n 0, 0, 0, []), some (.aload_n 0, 0, 0, []), some (.getfield 15, 401, 12, [192]), none, none, some (.iload_n 1, 0, 0, []), some (.iaload, 0, 0, []), some (.invokevirtual 60, 51, 4, [394, 395, 12, 105]), none, none, some (.ireturn, 0, 0, []), some (.aload_n 0, 0, 0, []), some (.getfield 18, 402, 12, [193]), none, none, some (.iload_n 1, 0, 0, []), some (.iaload, 0, 0, []), some (.ifCond .lt 27, 66, 0, []), none, none, some (.aload_n 0, 0, 0, []), some (.aload_n 0, 0, 0, []), some (.getfield 18, 402, 12, [193]), none, none, some (.iload_n 1, 0, 0, []), some (.iaload, 0, 0, []), some (.invokevirtual 67, 52, 4, [396, 397, 398, 105]), none, none, some (.ifCond .gt 14, 66, 0, []), none, none, some (.aload_n 0, 0, 0, []), some (.aload_n 0, 0, 0, []), some (.getfield 18, 402, 12, [193]), none, none, some (.iload_n 1, 0, 0, []), some (.iaload, 0, 0, []), some (.invokevirtual 60, 51, 4, [394, 395, 12, 105]), none, none, some (.ireturn, 0, 0, []), some (.iconst (-1), 0, 0, []), some (.ireturn, 0, 0, [])]
def aM112 : List (Option aI) := [some (.iconst 1, 0, 0, []), some (.istore_n 1, 0, 0, []), some (.iload_n 1, 0, 0, []), some (.aload_n 0, 0, 0, []), some (.getfield 31, 906, 0, [269]), none, none, some (.if_icmp .ge 27, 34, 0, []), none, none, some (.aload_n 0, 0, 0, []), some (.getfield 27, 905, 12, [268]), none, none, some (.aload_n 0, 0, 0, []), some (.getfield 21, 903, 12, [264]), none, none, some (.iload_n 1, 0, 0, []), some (.iaload, 0, 0, []), some (.invokevirtual 57, 75, 4, [568, 465, 466, 105]), none, none, some (.ifCond .eq 5, 28, 0, []), none, none, some (.iconst 1, 0, 0, []), some (.ireturn, 0, 0, []), some (.iinc 1 1, 0, 0, []), none, none, some (.goto (-29), 2, 0, []), none, none, some (.iconst 0, 0, 0, []), some (.ireturn, 0, 0, [])]
def aM113 : List (Option aI) := [some (.iload_n 1, 0, 0, []), some (.ifCond .eq 12, 13, 0, []), none, none, some (.aload_n 0, 0, 0, []), some (.iload_n 1, 0, 0, []), some (.aload_n 0, 0, 0, []), some (.getfield 51, 105, 0, [153]), none, none, some (.invokevirtual 72, 29, 6, [343, 344, 2, 102]), none, none, some (.return_, 0, 0, [])]
def aM114 : List (Option aI) := [some (.aload_n 0, 0, 0, []), some (.iconst 0, 0, 0, []), some (.putfield 24, 1004, 0, [295]), none, none, some (.aload_n 0, 0, 0, []), some (.getfield 21, 1003, 12, [294]), none, none, some (.iconst 0, 0, 0, []), some (.iload_n 2, 0, 0, []), some (.iastore, 0, 0, []), some (.iconst 1, 0, 0, []), some (.istore 4, 0, 0, []), none, some (.aload_n 0, 0, 0, []), some (.getfield 24, 1004, 0, [295]), none, none, some (.sipush 500, 0, 0, []), none, none, some (.if_icmp .ge 122, 144, 0, []), none, none, some (.iload 4, 0, 0, []), none, some (.ifCond .le 117, 144, 0, []), none, none, some (.iload 4, 0, 0, []), none, some (.sipush 500, 0, 0, []), none, none, some (.if_icmp .ge 109, 144, 0, []), none, none, some (.iinc 4 (-1), 0, 0, []), none, none, some (.aload_n 0, 0, 0, []), some (.getfield 21, 1003, 12, [294]), none, none, some (.iload 4, 0, 0, []), none, some (.iaload, 0, 0, []), some (.istore 5, 0, 0, []), none, some (.aload_n 0, 0, 0, []), some (.getfield 9, 1000, 12, [288]), none, none, some (.aload_n 0, 0, 0, []), some (.getfield 24, 1004, 0, [295]), none, none, some (.aload_n 1, 0, 0, []), some (.getfield 28, 900, 12, [259]), none, none, some (.iload 5, 0, 0, []), none, some (.iaload, 0, 0, []), some (.iastore, 0, 0, []), some (.aload_n 0, 0, 0, []), some (.getfield 15, 1001, 12, [290]), none, none, some (.aload_n 0, 0, 0, []), some (.getfield 24, 1004, 0, [295]), none, none, some (.iconst 1, 0, 0, []), some (.iadd, 0, 0, []), some (.aload_n 3, 0, 0, []), some (.aload_n 1, 0, 0, []), some (.getfield 31, 903, 12, [265]), none, none, some (.iload 5, 0, 0, []), none, some (.iaload, 0, 0, []), some (.aload_n 0, 0, 0, []), some (.getfield 18, 1002, 12, [292]), none, none, some (.aload_n 0, 0, 0, []), some (.getfield 15, 1001, 12, [290]), none, none, some (.aload_n 0, 0, 0, []), some (.getfield 24, 1004, 0, [295]), none, none, some (.iaload, 0, 0, []), some (.invokevirtual 34, 115, 8, [575, 576, 577, 105]), none, none, some (.iastore, 0, 0, []), some (.aload_n 0, 0, 0, []), some (.dup, 0, 0, []), some (.getfield 24, 1004, 0, [295]), none, none, some (.iconst 1, 0, 0, []), some (.iadd, 0, 0, []), some (.putfield 24, 1004, 0, [295]), none, none, some (.aload_n 0, 0, 0, []), some (.aload_n 1, 0, 0, []), some (.getfield 40, 902, 12, [263]), none, none, some (.iload 5, 0, 0, []), none, some (.iaload, 0, 0, []), some (.iload 4, 0, 0, []), none, some (.invokevirtual 43, 118, 6, [582, 583, 44, 111]), none, none, some (.istore 4, 0, 0, []), none, some (.aload_n 0, 0, 0, []), some (.aload_n 1, 0, 0, []), some (.getfield 47, 901, 12, [261]), none, none, some (.iload 5, 0, 0, []), none, some (.iaload, 0, 0, []), some (.iload 4, 0, 0, []), none, some (.invokevirtual 43, 118, 6, [582, 583, 44, 111]), none, none, some (.istore 4, 0, 0, []), none, some (.goto (-126), 15, 0, []), none, none, some (.return_, 0, 0, [])]
def aM115 : List (Option aI) := [some (.aload_n 0, 0, 0, []), some (.getfield 30, 406, 12, [197]), none, none, some (.iconst 0, 0, 0, []), some (.iload_n 1, 0, 0, []), some (.iastore, 0, 0, []), some (.iconst 1, 0, 0, []), some (.istore 4, 0, 0, []), none, some (.iload_n 3, 0, 0, []), some (.istore 5, 0, 0, []), none, some (.iload 5, 0, 0, []), none, some (.aload_n 2, 0, 0, []), some (.arraylength, 0, 0, []), some (.if_icmp .ge 78, 95, 0, []), none, none, some (.iload 4, 0, 0, []), none, some (.ifCond .le 73, 95, 0, []), none, none, some (.iload 4, 0, 0, []), none, some (.sipush 16999, 0, 0, []), none, none, some (.if_icmp .ge 65, 95, 0, []), none, none, some (.iinc 4 (-1), 0, 0, []), none, none, some (.aload_n 0, 0, 0, []), some (.aload_n 0, 0, 0, []), some (.getfield 30, 406, 12, [197]), none, none, some (.iload 4, 0, 0, []), none, some (.iaload, 0, 0, []), some (.invokevirtual 60, 51, 4, [394, 395, 12, 105]), none, none, some (.istore 6, 0, 0, []), none, some (.aload_n 2, 0, 0, []), some (.iload 5, 0, 0, []), none, some (.aload_n 0, 0, 0, []), some (.iload 6, 0, 0, []), none, some (.invokevirtual 108, 116, 4, [578, 579, 42, 105]), none, none, some (.iastore, 0, 0, []), some (.iinc 5 1, 0, 0, []), none, none, some (.aload_n 0, 0, 0, []), some (.aload_n 0, 0, 0, []), some (.getfield 18, 402, 12, [193]), none, none, some (.iload 6, 0, 0, []), none, some (.iaload, 0, 0, []), some (.iload 4, 0, 0, []), none, some (.invokevirtual 111, 117, 6, [580, 581, 43, 105]), none, none, some (.istore 4, 0, 0, []), none, some (.aload_n 0, 0, 0, []), some (.aload_n 0, 0, 0, []), some (.getfield 15, 401, 12, [192]), none, none, some (.iload 6, 0, 0, []), none, some (.iaload, 0, 0, []), some (.iload 4, 0, 0, []), none, some (.invokevirtual 111, 117, 6, [580, 581, 43, 105]), none, none, some (.istore 4, 0, 0, []), none, some (.goto (-79), 13, 0, []), none, none, some (.iload 5, 0, 0, []), none, some (.ireturn, 0, 0, [])]
def aM116 : List (Option aI) := [some (.aload_n 0, 0, 0, []), some (.getfield 9, 400, 12, [191]), none, none, some (.iload_n 1, 0, 0, []), some (.iaload, 0, 0, []), some (.ldc 51, 4293967296, 0, [385]), none, some (.if_icmp .ne 25, 33, 0, []), none, none, some (.aload_n 0, 0, 0, []), some (.getfield 9, 400, 12, [191]), none, none, some (.iload_n 1, 0, 0, []), some (.iconst (-1), 0, 0, []), some (.aload_n 0, 0, 0, []), some (.getfield 37, 409, 0, [200]), none, none, some (.isub, 0, 0, []), some (.iastore, 0, 0, []), some (.aload_n 0, 0, 0, []), some (.dup, 0, 0, []), some (.getfield 37, 409, 0, [200]), none, none, some (.iconst 1, 0, 0, []), some (.iadd, 0, 0, []), some (.putfield 37, 409, 0, [200]), none, none, some (.aload_n 0, 0, 0, []), some (.getfield 9, 400, 12, [191]), none, none, some (.iload_n 1, 0, 0, []), some (.iaload, 0, 0, []), some (.ireturn, 0, 0, [])]
def aM117 : List (Option aI) := [some (.iload_n 1, 0, 0, []), some (.ifCond .ge 5, 6, 0, []), none, none, some (.iload_n 2, 0, 0, []), some (.ireturn, 0, 0, []), some (.aload_n 0, 0, 0, []), some (.getfield 30, 406, 12, [197]), none, none, some (.iload_n 2, 0, 0, []), some (.iload_n 1, 0, 0, []), some (.iastore, 0, 0, []), some (.iload_n 2, 0, 0, []), some (.iconst 1, 0, 0, []), some (.iadd, 0, 0, []), some (.ireturn, 0, 0, [])]
def aM118 : List (Option aI) := [some (.iload_n 1, 0, 0, []), some (.ifCond .gt 5, 6, 0, []), none, none, some (.iload_n 2, 0, 0, []), some (.ireturn, 0, 0, []), some (.aload_n 0, 0, 0, []), some (.getfield 21, 1003, 12, [294]), none, none, some (.iload_n 2, 0, 0, []), some (.iload_n 1, 0, 0, []), some (.iastore, 0, 0, []), some (.iload_n 2, 0, 0, []), some (.iconst 1, 0, 0, []), some (.iadd, 0, 0, []), some (.ireturn, 0, 0, [])]
def aM119 : List (Option aI) := [some (.aload_n 2, 0, 0, []), some (.iconst 0, 0, 0, []), some (.aload_n 0, 0, 0, []), some (.iload_n 1, 0, 0, []), some (.invokevirtual 15, 120, 4, [586, 587, 588, 101]), none, none, some (.i2l, 0, 0, []), some (.lastore, 0, 0, []), some (.goto 6, 15, 0, []), none, none, some (.astore_n 3, 0, 0, []), some (.iconst 1, 0, 0, []), some (.ireturn, 0, 0, []), some (.iconst 0, 0, 0, []), some (.ireturn, 0, 0, [])]
def aM120 : List (Option aI) := [some (.aload_n 0, 0, 0, []), some (.getfield 12, 0, 12, [297]), none, none, some (.iload_n 1, 0, 0, []), some (.invokevirtual 72, 22, 4, [324, 325, 326, 102]), none, none, some (.ifCond .ne 13, 21, 0, []), none, none, some (.new 76, 12, 1, []), none, none, some (.dup, 0, 0, []), some (.ldc 78, 1, 1, []), none, some (.invokespecial 80, 1100, 4, []), none, none, some (.athrow, 0, 0, []), some (.aload_n 0, 0, 0, []), some (.getfield 12, 0, 12, [297]), none, none, some (.iload_n 1, 0, 0, []), some (.invokevirtual 83, 23, 4, [327, 328, 329, 102]), none, none, some (.aload_n 0, 0, 0, []), some (.getfield 26, 2, 12, [299]), none, none, some (.invokevirtual 86, 46, 2, [379, 380, 381, 105]), none, none, some (.aload_n 0, 0, 0, []), some (.getfield 44, 4, 12, [301]), none, none, some (.invokevirtual 89, 54, 2, [403, 404, 405, 107]), none, none, some (.aload_n 0, 0, 0, []), some (.invokevirtual 116, 121, 2, [589, 590, 45, 101]), none, none, some (.ireturn, 0, 0, [])]
def aM121 : List (Option aI) := [some (.aload_n 0, 0, 0, []), some (.getfield 12, 0, 12, [297]), none, none, some (.getfield 150, 107, 0, [161]), none, none, some (.istore_n 1, 0, 0, []), some (.aload_n 0, 0, 0, []), some (.getfield 12, 0, 12, [297]), none, none, some (.getfield 153, 108, 0, [166]), none, none, some (.istore_n 2, 0, 0, []), some (.aload_n 0, 0, 0, []), some (.getfield 12, 0, 12, [297]), none, none, some (.getfield 156, 106, 0, [157]), none, none, some (.invokestatic 159, 122, 2, [591, 592, 101]), none, none, some (.ifCond .eq 13, 39, 0, []), none, none, some (.aload_n 0, 0, 0, []), some (.getfield 12, 0, 12, [297]), none, none, some (.invokevirtual 162, 24, 2, [593, 331, 332, 102]), none, none, some (.goto 11, 47, 0, []), none, none, some (.aload_n 0, 0, 0, []), some (.getfield 12, 0, 12, [297]), none, none, some (.iconst 2, 0, 0, []), some (.invokevirtual 165, 28, 4, [594, 341, 342, 102]), none, none, some (.aload_n 0, 0, 0, []), some (.getfield 12, 0, 12, [297]), none, none, some (.bipush 6, 0, 0, []), none, some (.invokevirtual 168, 63, 4, [595, 428, 429, 102]), none, none, some (.aload_n 0, 0, 0, []), some (.getfield 44, 4, 12, [301]), none, none, some (.iconst 0, 0, 0, []), some (.invokevirtual 171, 64, 4, [596, 431, 432, 107]), none, none, some (.istore_n 3, 0, 0, []), some (.aload_n 0, 0, 0, []), some (.getfield 12, 0, 12, [297]), none, none, some (.invokevirtual 174, 106, 2, [597, 548, 549, 102]), none, none, some (.aload_n 0, 0, 0, []), some (.getfield 12, 0, 12, [297]), none, none, some (.invokevirtual 94, 25, 2, [550, 334, 335, 102]), none, none, some (.ifCond .eq 16, 95, 0, []), none, none, some (.aload_n 0, 0, 0, []), some (.getfield 12, 0, 12, [297]), none, none, some (.aload_n 0, 0, 0, []), some (.iload_n 1, 0, 0, []), some (.iload_n 2, 0, 0, []), some (.invokevirtual 177, 123, 6, [598, 599, 46, 101]), none, none, some (.invokevirtual 101, 113, 4, [569, 570, 571, 102]), none, none, some (.aload_n 0, 0, 0, []), some (.getfield 12, 0, 12, [297]), none, none, some (.invokevirtual 94, 25, 2, [550, 334, 335, 102]), none, none, some (.ifCond .ne 5, 107, 0, []), none, none, some (.iconst (-1), 0, 0, []), some (.ireturn, 0, 0, []), some (.aload_n 0, 0, 0, []), some (.getfield 35, 3, 12, [300]), none, none, some (.aload_n 0, 0, 0, []), some (.getfield 12, 0, 12, [297]), none, none, some (.getfield 181, 100, 12, [147]), none, none, some (.iload_n 1, 0, 0, []), some (.iload_n 2, 0, 0, []), some (.iload_n 3, 0, 0, []), some (.invokevirtual 185, 124, 10, [601, 602, 603, 106]), none, none, some (.ireturn, 0, 0, [])]
def aM122 : List (Option aI) := [some (.iload_n 0, 0, 0, []), some (.iconst 1, 0, 0, []), some (.if_icmp .eq 27, 29, 0, []), none, none, some (.iload_n 0, 0, 0, []), some (.bipush 21, 0, 0, []), none, some (.if_icmp .eq 21, 29, 0, []), none, none, some (.iload_n 0, 0, 0, []), some (.bipush 22, 0, 0, []), none, some (.if_icmp .eq 15, 29, 0, []), none, none, some (.iload_n 0, 0, 0, []), some (.bipush 19, 0, 0, []), none, some (.if_icmp .eq 9, 29, 0, []), none, none, some (.iload_n 0, 0, 0, []), some (.bipush 20, 0, 0, []), none, some (.if_icmp .ne 7, 33, 0, []), none, none, some (.iconst 1, 0, 0, []), some (.goto 4, 34, 0, []), none, none, some (.iconst 0, 0, 0, []), some (.ireturn, 0, 0, [])]
def aM123 : List (Option aI) := [some (.aload_n 0, 0, 0, []), some (.getfield 35, 3, 12, [300]), none, none, some (.getfield 189, 500, 12, [214]), none, none, some (.aload_n 0, 0, 0, []), some (.getfield 12, 0, 12, [297]), none, none, some (.getfield 181, 100, 12, [147]), none, none, some (.iload_n 1, 0, 0, []), some (.iload_n 2, 0, 0, []), some (.invokevirtual 193, 39, 8, [600, 365, 366, 103]), none, none, some (.ifCond .lt 5, 24, 0, []), none, none, some (.iconst 4, 0, 0, []), some (.ireturn, 0, 0, []), some (.aload_n 0, 0, 0, []), some (.getfield 35, 3, 12, [300]), none, none, some (.getfield 189, 500, 12, [214]), none, none, some (.getfield 199, 204, 0, [141]), none, none, some (.bipush 112, 0, 0, []), none, some (.if_icmp .ge 13, 49, 0, []), none, none, some (.aload_n 0, 0, 0, []), some (.getfield 44, 4, 12, [301]), none, none, some (.getfield 200, 605, 2, [234]), none, none, some (.ifCond .eq 6, 52, 0, []), none, none, some (.bipush 8, 0, 0, []), none, some (.ireturn, 0, 0, []), some (.aload_n 0, 0, 0, []), some (.getfield 44, 4, 12, [301]), none, none, some (.getfield 204, 606, 2, [237]), none, none, some (.ifCond .eq 7, 66, 0, []), none, none, some (.iconst 3, 0, 0, []), some (.goto 4, 67, 0, []), none, none, some (.iconst 0, 0, 0, []), some (.ireturn, 0, 0, [])]
def aM124 : List (Option aI) := [some (.aload_n 0, 0, 0, []), some (.getfield 16, 500, 12, [213]), none, none, some (.aload_n 1, 0, 0, []), some (.iload_n 2, 0, 0, []), some (.iload_n 3, 0, 0, []), some (.invokevirtual 56, 5, 8, [604, 131, 132, 103]), none, none, some (.istore 5, 0, 0, []), none, some (.iload 5, 0, 0, []), none, some (.ifCond .lt 28, 42, 0, []), none, none, some (.aload_n 0, 0, 0, []), some (.getfield 26, 502, 12, [217]), none, none, some (.iload 5, 0, 0, []), none, some (.aload_n 0, 0, 0, []), some (.getfield 39, 506, 12, [221]), none, none, some (.iload 4, 0, 0, []), none, some (.aload_n 0, 0, 0, []), some (.getfield 22, 501, 12, [216]), none, none, some (.iload 5, 0, 0, []), none, some (.bipush 40, 0, 0, []), none, some (.imul, 0, 0, []), some (.invokevirtual 60, 115, 8, [605, 576, 577, 105]), none, none, some (.iastore, 0, 0, []), some (.iload 5, 0, 0, []), none, some (.ireturn, 0, 0, [])]
def aM125 : List (Option aI) := [some (.aload_n 2, 0, 0, []), some (.iconst 0, 0, 0, []), some (.aload_n 0, 0, 0, []), some (.iload_n 1, 0, 0, []), some (.invokevirtual 18, 126, 4, [608, 609, 610, 101]), none, none, some (.i2l, 0, 0, []), some (.lastore, 0, 0, []), some (.goto 6, 15, 0, []), none, none, some (.astore_n 3, 0, 0, []), some (.iconst 1, 0, 0, []), some (.ireturn, 0, 0, []), some (.iconst 0, 0, 0, []), some (.ireturn, 0, 0, [])]
def aM126 : List (Option aI) := [some (.aload_n 0, 0, 0, []), some (.getfield 12, 0, 12, [297]), none, none, some (.iload_n 1, 0, 0, []), some (.invokevirtual 72, 22, 4, [324, 325, 326, 102]), none, none, some (.ifCond .ne 13, 21, 0, []), none, none, some (.new 76, 12, 1, []), none, none, some (.dup, 0, 0, []), some (.ldc 78, 1, 1, []), none, some (.invokespecial 80, 1100, 4, []), none, none, some (.athrow, 0, 0, []), some (.aload_n 0, 0, 0, []), some (.getfield 12, 0, 12, [297]), none, none, some (.iload_n 1, 0, 0, []), some (.invokevirtual 83, 23, 4, [327, 328, 329, 102]), none, none, some (.aload_n 0, 0, 0, []), some (.invokevirtual 119, 127, 2, [611, 612, 47, 101]), none, none, some (.ireturn, 0, 0, [])]
def aM127 : List (Option aI) := [some (.aload_n 0, 0, 0, []), some (.getfield 12, 0, 12, [297]), none, none, some (.getfield 150, 107, 0, [161]), none, none, some (.istore_n 1, 0, 0, []), some (.aload_n 0, 0, 0, []), some (.getfield 12, 0, 12, [297]), none, none, some (.getfield 153, 108, 0, [166]), none, none, some (.istore_n 2, 0, 0, []), some (.aload_n 0, 0, 0, []), some (.getfield 12, 0, 12, [297]), none, none, some (.iconst 1, 0, 0, []), some (.invokevirtual 168, 63, 4, [595, 428, 429, 102]), none, none, some (.iconst 0, 0, 0, []), some (.istore_n 3, 0, 0, []), some (.iload_n 3, 0, 0, []), some (.iconst 2, 0, 0, []), some (.if_icmp .ge 27, 55, 0, []), none, none, some (.aload_n 0, 0, 0, []), some (.getfield 12, 0, 12, [297]), none, none, some (.getfield 156, 106, 0, [157]), none, none, some (.iconst 2, 0, 0, []), some (.if_icmp .ne 16, 55, 0, []), none, none, some (.iinc 3 1, 0, 0, []), none, none, some (.aload_n 0, 0, 0, []), some (.getfield 12, 0, 12, [297]), none, none, some (.invokevirtual 162, 24, 2, [593, 331, 332, 102]), none, none, some (.goto (-26), 26, 0, []), none, none, some (.aload_n 0, 0, 0, []), some (.getfield 12, 0, 12, [297]), none, none, some (.invokevirtual 174, 106, 2, [597, 548, 549, 102]), none, none, some (.aload_n 0, 0, 0, []), some (.getfield 12, 0, 12, [297]), none, none, some (.invokevirtual 94, 25, 2, [550, 334, 335, 102]), none, none, some (.ifCond .eq 16, 85, 0, []), none, none, some (.aload_n 0, 0, 0, []), some (.getfield 12, 0, 12, [297]), none, none, some (.aload_n 0, 0, 0, []), some (.iload_n 1, 0, 0, []), some (.iload_n 2, 0, 0, []), some (.invokevirtual 207, 128, 6, [613, 614, 48, 101]), none, none, some (.invokevirtual 101, 113, 4, [569, 570, 571, 102]), none, none, some (.aload_n 0, 0, 0, []), some (.getfield 12, 0, 12, [297]), none, none, some (.invokevirtual 94, 25, 2, [550, 334, 335, 102]), none, none, some (.ifCond .ne 5, 97, 0, []), none, none, some (.iconst (-1), 0, 0, []), some (.ireturn, 0, 0, []), some (.aload_n 0, 0, 0, []), some (.getfield 19, 1, 12, [298]), none, none, some (.aload_n 0, 0, 0, []), some (.getfield 12, 0, 12, [297]), none, none, some (.getfield 181, 100, 12, [147]), none, none, some (.iload_n 1, 0, 0, []), some (.iload_n 2, 0, 0, []), some (.iload_n 3, 0, 0, []), some (.invokevirtual 210, 129, 10, [615, 616, 617, 104]), none, none, some (.aload_n 0, 0, 0, []), some (.getfield 19, 1, 12, [298]), none, none, some (.getfield 213, 300, 12, [184]), none, none, some (.getfield 199, 204, 0, [141]), none, none, some (.iconst 1, 0, 0, []), some (.isub, 0, 0, []), some (.ireturn, 0, 0, [])]
def aM128 : List (Option aI) := [some (.aload_n 0, 0, 0, []), some (.getfield 19, 1, 12, [298]), none, none, some (.getfield 213, 300, 12, [184]), none, none, some (.aload_n 0, 0, 0, []), some (.getfield 12, 0, 12, [297]), none, none, some (.getfield 181, 100, 12, [147]), none, none, some (.iload_n 1, 0, 0, []), some (.iload_n 2, 0, 0, []), some (.invokevirtual 193, 39, 8, [600, 365, 366, 103]), none, none, some (.ifCond .lt 5, 24, 0, []), none, none, some (.iconst 4, 0, 0, []), some (.ireturn, 0, 0, []), some (.aload_n 0, 0, 0, []), some (.getfield 19, 1, 12, [298]), none, none, some (.getfield 213, 300, 12, [184]), none, none, some (.getfield 199, 204, 0, [141]), none, none, some (.bipush 34, 0, 0, []), none, some (.if_icmp .lt 8, 44, 0, []), none, none, some (.bipush 8, 0, 0, []), none, some (.goto 4, 45, 0, []), none, none, some (.iconst 0, 0, 0, []), some (.ireturn, 0, 0, [])]
def aM129 : List (Option aI) := [some (.aload_n 0, 0, 0, []), some (.getfield 16, 300, 12, [182]), none, none, some (.aload_n 1, 0, 0, []), some (.iload_n 2, 0, 0, []), some (.iload_n 3, 0, 0, []), some (.invokevirtual 26, 5, 8, [618, 131, 132, 103]), none, none, some (.istore 5, 0, 0, []), none, some (.iload 5, 0, 0, []), none, some (.ifCond .lt 12, 26, 0, []), none, none, some (.aload_n 0, 0, 0, []), some (.getfield 22, 301, 12, [185]), none, none, some (.iload 5, 0, 0, []), none, some (.iload 4, 0, 0, []), none, some (.iastore, 0, 0, []), some (.return_, 0, 0, [])]
def aM130 : List (Option aI) := [some (.aload_n 2, 0, 0, []), some (.iconst 0, 0, 0, []), some (.aload_n 0, 0, 0, []), some (.iload_n 1, 0, 0, []), some (.invokevirtual 21, 131, 4, [621, 622, 623, 101]), none, none, some (.i2l, 0, 0, []), some (.lastore, 0, 0, []), some (.goto 6, 15, 0, []), none, none, some (.astore_n 3, 0, 0, []), some (.iconst 1, 0, 0, []), some (.ireturn, 0, 0, []), some (.iconst 0, 0, 0, []), some (.ireturn, 0, 0, [])]
def aM131 : List (Option aI) := [some (.aload_n 0, 0, 0, []), some (.getfield 60, 6, 12, [303]), none, none, some (.iload_n 1, 0, 0, []), some (.invokevirtual 128, 132, 4, [624, 625, 626, 111]), none, none, some (.ifCond .ne 13, 21, 0, []), none, none, some (.new 129, 13, 1, []), none, none, some (.dup, 0, 0, []), some (.ldc 131, 2, 1, []), none, some (.invokespecial 133, 1100, 4, []), none, none, some (.athrow, 0, 0, []), some (.aload_n 0, 0, 0, []), some (.getfield 60, 6, 12, [303]), none, none, some (.getfield 134, 1000, 12, [289]), none, none, some (.iload_n 1, 0, 0, []), some (.iaload, 0, 0, []), some (.ireturn, 0, 0, [])]
def aM132 : List (Option aI) := [some (.iload_n 1, 0, 0, []), some (.ifCond .lt 15, 16, 0, []), none, none, some (.iload_n 1, 0, 0, []), some (.aload_n 0, 0, 0, []), some (.getfield 24, 1004, 0, [295]), none, none, some (.if_icmp .ge 7, 16, 0, []), none, none, some (.iconst 1, 0, 0, []), some (.goto 4, 17, 0, []), none, none, some (.iconst 0, 0, 0, []), some (.ireturn, 0, 0, [])]
def aM133 : List (Option aI) := [some (.aload_n 3, 0, 0, []), some (.iconst 0, 0, 0, []), some (.aload_n 0, 0, 0, []), some (.iload_n 1, 0, 0, []), some (.iload_n 2, 0, 0, []), some (.invokevirtual 26, 134, 6, [629, 630, 631, 101]), none, none, some (.i2l, 0, 0, []), some (.lastore, 0, 0, []), some (.goto 7, 17, 0, []), none, none, some (.astore 4, 0, 0, []), none, some (.iconst 1, 0, 0, []), some (.ireturn, 0, 0, []), some (.iconst 0, 0, 0, []), some (.ireturn, 0, 0, [])]
def aM134 : List (Option aI) := [some (.aload_n 0, 0, 0, []), some (.getfield 60, 6, 12, [303]), none, none, some (.iload_n 1, 0, 0, []), some (.invokevirtual 128, 132, 4, [624, 625, 626, 111]), none, none, some (.ifCond .eq 15, 23, 0, []), none, none, some (.aload_n 0, 0, 0, []), some (.getfield 60, 6, 12, [303]), none, none, some (.iload_n 1, 0, 0, []), some (.iload_n 2, 0, 0, []), some (.invokevirtual 138, 135, 6, [632, 633, 634, 111]), none, none, some (.ifCond .ne 13, 33, 0, []), none, none, some (.new 129, 13, 1, []), none, none, some (.dup, 0, 0, []), some (.ldc 142, 3, 1, []), none, some (.invokespecial 133, 1100, 4, []), none, none, some (.athrow, 0, 0, []), some (.aload_n 0, 0, 0, []), some (.getfield 60, 6, 12, [303]), none, none, some (.getfield 144, 1002, 12, [293]), none, none, some (.aload_n 0, 0, 0, []), some (.getfield 60, 6, 12, [303]), none, none, some (.getfield 147, 1001, 12, [291]), none, none, some (.iload_n 1, 0, 0, []), some (.iaload, 0, 0, []), some (.iload_n 2, 0, 0, []), some (.iadd, 0, 0, []), some (.iaload, 0, 0, []), some (.ireturn, 0, 0, [])]
def aM135 : List (Option aI) := [some (.iload_n 2, 0, 0, []), some (.ifCond .lt 26, 27, 0, []), none, none, some (.iload_n 2, 0, 0, []), some (.aload_n 0, 0, 0, []), some (.getfield 15, 1001, 12, [290]), none, none, some (.iload_n 1, 0, 0, []), some (.iconst 1, 0, 0, []), some (.iadd, 0, 0, []), some (.iaload, 0, 0, []), some (.aload_n 0, 0, 0, []), some (.getfield 15, 1001, 12, [290]), none, none, some (.iload_n 1, 0, 0, []), some (.iaload, 0, 0, []), some (.isub, 0, 0, []), some (.if_icmp .ge 7, 27, 0, []), none, none, some (.iconst 1, 0, 0, []), some (.goto 4, 28, 0, []), none, none, some (.iconst 0, 0, 0, []), some (.ireturn, 0, 0, [])]
def aM136 : List (Option aI) := [some (.aload_n 0, 0, 0, []), some (.invokespecial 1, 1000, 2, [639]), none, none, some (.aload_n 0, 0, 0, []), some (.sipush 8000, 0, 0, []), none, none, some (.newarray .int, 0, 0, [143]), none, some (.putfield 7, 1101, 12, [651]), none, none, some (.aload_n 0, 0, 0, []), some (.sipush 336, 0, 0, []), none, none, some (.newarray .long, 0, 0, [721]), none, some (.putfield 13, 1106, 12, [656]), none, none, some (.aload_n 0, 0, 0, []), some (.bipush 112, 0, 0, []), none, some (.newarray .int, 0, 0, [143]), none, some (.putfield 17, 1107, 12, [657]), none, none, some (.aload_n 0, 0, 0, []), some (.bipush 29, 0, 0, []), none, some (.newarray .int, 0, 0, [143]), none, some (.putfield 20, 1108, 12, [658]), none, none, some (.aload_n 0, 0, 0, []), some (.bipush 102, 0, 0, []), none, some (.newarray .long, 0, 0, [721]), none, some (.putfield 23, 1109, 12, [659]), none, none, some (.aload_n 0, 0, 0, []), some (.bipush 34, 0, 0, []), none, some (.newarray .int, 0, 0, [143]), none, some (.putfield 26, 1110, 12, [660]), none, none, some (.aload_n 0, 0, 0, []), some (.ldc 29, 55200, 0, [640]), none, some (.newarray .long, 0, 0, [721]), none, some (.putfield 30, 1111, 12, [661]), none, none, some (.aload_n 0, 0, 0, []), some (.ldc 33, 60000, 0, [641]), none, some (.newarray .int, 0, 0, [143]), none, some (.putfield 34, 1112, 12, [662]), none, none, some (.aload_n 0, 0, 0, []), some (.ldc 33, 60000, 0, [641]), none, some (.newarray .int, 0, 0, [143]), none, some (.putfield 37, 1113, 12, [663]), none, none, some (.aload_n 0, 0, 0, []), some (.ldc 33, 60000, 0, [641]), none, some (.newarray .int, 0, 0, [143]), none, some (.putfield 40, 1114, 12, [664]), none, none, some (.aload_n 0, 0, 0, []), some (.ldc 33, 60000, 0, [641]), none, some (.newarray .int, 0, 0, [143]), none, some (.putfield 43, 1115, 12, [665]), none, none, some (.aload_n 0, 0, 0, []), some (.sipush 520, 0, 0, []), none, none, some (.newarray .int, 0, 0, [143]), none, some (.putfield 46, 1119, 12, [669]), none, none, some (.aload_n 0, 0, 0, []), some (.sipush 521, 0, 0, []), none, none, some (.newarray .int, 0, 0, [143]), none, some (.putfield 49, 1120, 12, [670]), none, none, some (.aload_n 0, 0, 0, []), some (.sipush 20800, 0, 0, []), none, none, some (.newarray .int, 0, 0, [143]), none, some (.putfield 52, 1121, 12, [671]), none, none, some (.aload_n 0, 0, 0, []), some (.iconst (-1), 0, 0, []), some (.putfield 55, 1123, 0, [673]), none, none, some (.aload_n 0, 0, 0, []), some (.sipush 6002, 0, 0, []), none, none, some (.newarray .int, 0, 0, [143]), none, some (.putfield 59, 1127, 12, [677]), none, none, some (.aload_n 0, 0, 0, []), some (.sipush 6002, 0, 0, []), none, none, some (.newarray .int, 0, 0, [143]), none, some (.putfield 62, 1128, 12, [678]), none, none, some (.aload_n 0, 0, 0, []), some (.sipush 6002, 0, 0, []), none, none, some (.newarray .int, 0, 0, [143]), none, some (.putfield 65, 1129, 12, [679]), none, none, some (.aload_n 0, 0, 0, []), some (.sipush 18006, 0, 0, []), none, none, some (.newarray .long, 0, 0, [721]), none, some (.putfield 68, 1130, 12, [680]), none, none, some (.aload_n 0, 0, 0, []), some (.sipush 12100, 0, 0, []), none, none, some (.newarray .int, 0, 0, [143]), none, some (.putfield 71, 1134, 12, [684]), none, none, some (.aload_n 0, 0, 0, []), some (.sipush 12100, 0, 0, []), none, none, some (.newarray .int, 0, 0, [143]), none, some (.putfield 74, 1135, 12, [685]), none, none, some (.aload_n 0, 0, 0, []), some (.sipush 12100, 0, 0, []), none, none, some (.newarray .int, 0, 0, [143]), none, some (.putfield 77, 1136, 12, [686]), none, none, some (.aload_n 0, 0, 0, []), some (.sipush 12100, 0, 0, []), none, none, some (.newarray .int, 0, 0, [143]), none, some (.putfield 80, 1137, 12, [687]), none, none, some (.aload_n 0, 0, 0, []), some (.sipush 12100, 0, 0, []), none, none, some (.newarray .int, 0, 0, [143]), none, some (.putfield 83, 1138, 12, [688]), none, none, some (.aload_n 0, 0, 0, []), some (.sipush 12100, 0, 0, []), none, none, some (.newarray .int, 0, 0, [143]), none, some (.putfield 86, 1139, 12, [689]), none, none, some (.aload_n 0, 0, 0, []), some (.sipush 12100, 0, 0, []), none, none, some (.newarray .int, 0, 0, [143]), none, some (.putfield 89, 1140, 12, [690]), none, none, some (.aload_n 0, 0, 0, []), some (.sipush 30100, 0, 0, []), none, none, some (.newarray .int, 0, 0, [143]), none, some (.putfield 92, 1142, 12, [692]), none, none, some (.aload_n 0, 0, 0, []), some (.sipush 30100, 0, 0, []), none, none, some (.newarray .int, 0, 0, [143]), none, some (.putfield 95, 1143, 12, [693]), none, none, some (.aload_n 0, 0, 0, []), some (.sipush 30100, 0, 0, []), none, none, some (.newarray .int, 0, 0, [143]), none, some (.putfield 98, 1144, 12, [694]), none, none, some (.aload_n 0, 0, 0, []), some (.sipush 30100, 0, 0, []), none, none, some (.newarray .int, 0, 0, [143]), none, some (.putfield 101, 1145, 12, [695]), none, none, some (.aload_n 0, 0, 0, []), some (.sipush 30100, 0, 0, []), none, none, some (.newarray .int, 0, 0, [143]), none, some (.putfield 104, 1146, 12, [696]), none, none, some (.aload_n 0, 0, 0, []), some (.sipush 30100, 0, 0, []), none, none, some (.newarray .int, 0, 0, [143]), none, some (.putfield 107, 1147, 12, [697]), none, none, some (.aload_n 0, 0, 0, []), some (.sipush 6002, 0, 0, []), none, none, some (.newarray .int, 0, 0, [143]), none, some (.putfield 110, 1149, 12, [699]), none, none, some (.aload_n 0, 0, 0, []), some (.sipush 6002, 0, 0, []), none, none, some (.newarray .int, 0, 0, [143]), none, some (.putfield 113, 1150, 12, [700]), none, none, some (.aload_n 0, 0, 0, []), some (.sipush 6002, 0, 0, []), none, none, some (.newarray .int, 0, 0, [143]), none, some (.putfield 116, 1152, 12, [702]), none, none, some (.aload_n 0, 0, 0, []), some (.sipush 6002, 0, 0, []), none, none, some (.newarray .int, 0, 0, [143]), none, some (.putfield 119, 1153, 12, [703]), none, none, some (.aload_n 0, 0, 0, []), some (.ldc 33, 60000, 0, [641]), none, some (.newarray .int, 0, 0, [143]), none, some (.putfield 122, 1154, 12, [704]), none, none, some (.aload_n 0, 0, 0, []), some (.ldc 33, 60000, 0, [641]), none, some (.newarray .int, 0, 0, [143]), none, some (.putfield 125, 1155, 12, [705]), none, none, some (.aload_n 0, 0, 0, []), some (.bipush 48, 0, 0, []), none, some (.newarray .int, 0, 0, [143]), none, some (.putfield 128, 1156, 12, [706]), none, none, some (.aload_n 0, 0, 0, []), some (.bipush 48, 0, 0, []), none, some (.newarray .int, 0, 0, [143]), none, some (.putfield 131, 1157, 12, [707]), none, none, some (.aload_n 0, 0, 0, []), some (.sipush 600, 0, 0, []), none, none, some (.newarray .int, 0, 0, [143]), none, some (.putfield 134, 1160, 12, [710]), none, none, some (.aload_n 0, 0, 0, []), some (.sipush 600, 0, 0, []), none, none, some (.newarray .int, 0, 0, [143]), none, some (.putfield 137, 1161, 12, [711]), none, none, some (.aload_n 0, 0, 0, []), some (.sipush 520, 0, 0, []), none, none, some (.newarray .int, 0, 0, [143]), none, some (.putfield 140, 1163, 12, [713]), none, none, some (.aload_n 0, 0, 0, []), some (.sipush 520, 0, 0, []), none, none, some (.newarray .int, 0, 0, [143]), none, some (.putfield 143, 1164, 12, [714]), none, none, some (.aload_n 0, 0, 0, []), some (.ldc 33, 60000, 0, [641]), none, some (.newarray .int, 0, 0, [143]), none, some (.putfield 146, 1165, 12, [715]), none, none, some (.aload_n 0, 0, 0, []), some (.ldc 33, 60000, 0, [641]), none, some (.newarray .int, 0, 0, [143]), none, some (.putfield 149, 1166, 12, [716]), none, none, some (.aload_n 0, 0, 0, []), some (.ldc 33, 60000, 0, [641]), none, some (.newarray .int, 0, 0, [143]), none, some (.putfield 152, 1167, 12, [717]), none, none, some (.aload_n 0, 0, 0, []), some (.ldc 33, 60000, 0, [641]), none, some (.newarray .int, 0, 0, [143]), none, some (.putfield 155, 1168, 12, [718]), none, none, some (.aload_n 0, 0, 0, []), some (.ldc 33, 60000, 0, [641]), none, some (.newarray .int, 0, 0, [143]), none, some (.putfield 158, 1170, 12, [720]), none, none, some (.iconst 0, 0, 0, []), some (.istore_n 1, 0, 0, []), some (.iload_n 1, 0, 0, []), some (.bipush 29, 0, 0, []), none, some (.if_icmp .ge 16, 444, 0, []), none, none, some (.aload_n 0, 0, 0, []), some (.getfield 20, 1108, 12, [658]), none, none, some (.iload_n 1, 0, 0, []), some (.iconst (-1), 0, 0, []), some (.iastore, 0, 0, []), some (.iinc 1 1, 0, 0, []), none, none, some (.goto (-16), 425, 0, []), none, none, some (.aload_n 0, 0, 0, []), some (.sipush (-1000), 0, 0, []), none, none, some (.iconst (-1), 0, 0, []), some (.iconst (-1), 0, 0, []), some (.invokevirtual 161, 137, 8, [642, 643, 49, 112]), none, none, some (.istore_n 1, 0, 0, []), some (.aload_n 0, 0, 0, []), some (.iconst 0, 0, 0, []), some (.iconst (-1), 0, 0, []), some (.iconst (-1), 0, 0, []), some (.invokevirtual 161, 137, 8, [642, 643, 49, 112]), none, none, some (.istore_n 2, 0, 0, []), some (.aload_n 0, 0, 0, []), some (.iconst 3, 0, 0, []), some (.iconst (-1), 0, 0, []), some (.iconst (-1), 0, 0, []), some (.invokevirtual 161, 137, 8, [642, 643, 49, 112]), none, none, some (.istore_n 3, 0, 0, []), some (.aload_n 0, 0, 0, []), some (.iload_n 2, 0, 0, []), some (.aload_n 0, 0, 0, []), some (.iload_n 2, 0, 0, []), some (.iload_n 2, 0, 0, []), some (.invokevirtual 165, 138, 6, [644, 645, 50, 112]), none, none, some (.invokevirtual 165, 138, 6, [644, 645, 50, 112]), none, none, some (.istore 4, 0, 0, []), none, some (.aload_n 0, 0, 0, []), some (.iload_n 1, 0, 0, []), some (.iload_n 2, 0, 0, []), some (.invokevirtual 165, 138, 6, [644, 645, 50, 112]), none, none, some (.istore 5, 0, 0, []), none, some (.iconst 0, 0, 0, []), some (.istore 6, 0, 0, []), none, some (.iload 6, 0, 0, []), none, some (.bipush 12, 0, 0, []), none, some (.if_icmp .ge 123, 621, 0, []), none, none, some (.aload_n 0, 0, 0, []), some (.getfield 17, 1107, 12, [657]), none, none, some (.iload 6, 0, 0, []), none, some (.iload 6, 0, 0, []), none, some (.ifCond .ne 17, 526, 0, []), none, none, some (.aload_n 0, 0, 0, []), some (.iload_n 1, 0, 0, []), some (.aload_n 0, 0, 0, []), some (.iload_n 1, 0, 0, []), some (.iload_n 2, 0, 0, []), some (.invokevirtual 165, 138, 6, [644, 645, 50, 112]), none, none, some (.invokevirtual 165, 138, 6, [644, 645, 50, 112]), none, none, some (.goto 91, 614, 0, []), none, none, some (.iload 6, 0, 0, []), none, some (.iconst 3, 0, 0, []), some (.if_icmp .ge 7, 536, 0, []), none, none, some (.iload_n 2, 0, 0, []), some (.goto 81, 614, 0, []), none, none, some (.iload 6, 0, 0, []), none, some (.iconst 3, 0, 0, []), some (.if_icmp .ne 12, 551, 0, []), none, none, some (.aload_n 0, 0, 0, []), some (.iload_n 2, 0, 0, []), some (.iload_n 2, 0, 0, []), some (.invokevirtual 165, 138, 6, [644, 645, 50, 112]), none, none, some (.goto 66, 614, 0, []), none, none, some (.iload 6, 0, 0, []), none, some (.bipush 7, 0, 0, []), none, some (.if_icmp .ge 8, 563, 0, []), none, none, some (.iload 4, 0, 0, []), none, some (.goto 54, 614, 0, []), none, none, some (.iload 6, 0, 0, []), none, some (.bipush 9, 0, 0, []), none, some (.if_icmp .ge 13, 580, 0, []), none, none, some (.aload_n 0, 0, 0, []), some (.iload 5, 0, 0, []), none, some (.iload_n 2, 0, 0, []), some (.invokevirtual 165, 138, 6, [644, 645, 50, 112]), none, none, some (.goto 37, 614, 0, []), none, none, some (.iload 6, 0, 0, []), none, some (.bipush 9, 0, 0, []), none, some (.if_icmp .ne 13, 597, 0, []), none, none, some (.aload_n 0, 0, 0, []), some (.iload 5, 0, 0, []), none, some (.iload_n 1, 0, 0, []), some (.invokevirtual 165, 138, 6, [644, 645, 50, 112]), none, none, some (.goto 20, 614, 0, []), none, none, some (.iload 6, 0, 0, []), none, some (.bipush 10, 0, 0, []), none, some (.if_icmp .ne 7, 608, 0, []), none, none, some (.iload_n 3, 0, 0, []), some (.goto 9, 614, 0, []), none, none, some (.aload_n 0, 0, 0, []), some (.iload_n 3, 0, 0, []), some (.iload_n 3, 0, 0, []), some (.invokevirtual 165, 138, 6, [644, 645, 50, 112]), none, none, some (.iastore, 0, 0, []), some (.iinc 6 1, 0, 0, []), none, none, some (.goto (-124), 494, 0, []), none, none, some (.aload_n 0, 0, 0, []), some (.bipush 12, 0, 0, []), none, some (.putfield 169, 1103, 0, [653]), none, none, some (.aload_n 0, 0, 0, []), some (.getfield 13, 1106, 12, [656]), none, none, some (.iconst 1, 0, 0, []), some (.ldc 172, 7, 1, []), none, some (.invokestatic 174, 139, 6, [646, 647, 112]), none, none, some (.aload_n 0, 0, 0, []), some (.getfield 13, 1106, 12, [656]), none, none, some (.iconst 2, 0, 0, []), some (.ldc 178, 8, 1, []), none, some (.invokestatic 174, 139, 6, [646, 647, 112]), none, none, some (.aload_n 0, 0, 0, []), some (.getfield 13, 1106, 12, [656]), none, none, some (.bipush 11, 0, 0, []), none, some (.ldc 180, 9, 1, []), none, some (.invokestatic 174, 139, 6, [646, 647, 112]), none, none, some (.aload_n 0, 0, 0, []), some (.iconst 4, 0, 0, []), some (.putfield 182, 1104, 0, [654]), none, none, some (.aload_n 0, 0, 0, []), some (.getfield 23, 1109, 12, [659]), none, none, some (.iconst 0, 0, 0, []), some (.ldc 185, 10, 1, []), none, some (.invokestatic 174, 139, 6, [646, 647, 112]), none, none, some (.aload_n 0, 0, 0, []), some (.getfield 23, 1109, 12, [659]), none, none, some (.iconst 1, 0, 0, []), some (.ldc 187, 11, 1, []), none, some (.invokestatic 174, 139, 6, [646, 647, 112]), none, none, some (.aload_n 0, 0, 0, []), some (.getfield 23, 1109, 12, [659]), none, none, some (.iconst 3, 0, 0, []), some (.ldc 189, 12, 1, []), none, some (.invokestatic 174, 139, 6, [646, 647, 112]), none, none, some (.aload_n 0, 0, 0, []), some (.getfield 20, 1108, 12, [658]), none, none, some (.bipush 20, 0, 0, []), none, some (.iconst 0, 0, 0, []), some (.iastore, 0, 0, []), some (.aload_n 0, 0, 0, []), some (.getfield 20, 1108, 12, [658]), none, none, some (.bipush 21, 0, 0, []), none, some (.bipush 6, 0, 0, []), none, some (.iastore, 0, 0, []), some (.aload_n 0, 0, 0, []), some (.getfield 20, 1108, 12, [658]), none, none, some (.bipush 22, 0, 0, []), none, some (.iconst 5, 0, 0, []), some (.iastore, 0, 0, []), some (.aload_n 0, 0, 0, []), some (.getfield 20, 1108, 12, [658]), none, none, some (.bipush 23, 0, 0, []), none, some (.iconst 4, 0, 0, []), some (.iastore, 0, 0, []), some (.aload_n 0, 0, 0, []), some (.getfield 20, 1108, 12, [658]), none, none, some (.bipush 24, 0, 0, []), none, some (.iconst 0, 0, 0, []), some (.iastore, 0, 0, []), some (.aload_n 0, 0, 0, []), some (.aload_n 0, 0, 0, []), some (.getfield 191, 1116, 0, [666]), none, none, some (.putfield 194, 1117, 0, [667]), none, none, some (.return_, 0, 0, [])]
def aM137 : List (Option aI) := [some (.aload_n 0, 0, 0, []), some (.getfield 34, 1112, 12, [662]), none, none, some (.aload_n 0, 0, 0, []), some (.getfield 191, 1116, 0, [666]), none, none, some (.iload_n 1, 0, 0, []), some (.iastore, 0, 0, []), some (.aload_n 0, 0, 0, []), some (.getfield 37, 1113, 12, [663]), none, none, some (.aload_n 0, 0, 0, []), some (.getfield 191, 1116, 0, [666]), none, none, some (.iload_n 2, 0, 0, []), some (.iastore, 0, 0, []), some (.aload_n 0, 0, 0, []), some (.getfield 40, 1114, 12, [664]), none, none, some (.aload_n 0, 0, 0, []), some (.getfield 191, 1116, 0, [666]), none, none, some (.iload_n 3, 0, 0, []), some (.iastore, 0, 0, []), some (.aload_n 0, 0, 0, []), some (.getfield 43, 1115, 12, [665]), none, none, some (.aload_n 0, 0, 0, []), some (.getfield 191, 1116, 0, [666]), none, none, some (.iconst (-1), 0, 0, []), some (.iastore, 0, 0, []), some (.aload_n 0, 0, 0, []), some (.dup, 0, 0, []), some (.getfield 191, 1116, 0, [666]), none, none, some (.iconst 1, 0, 0, []), some (.iadd, 0, 0, []), some (.putfield 191, 1116, 0, [666]), none, none, some (.aload_n 0, 0, 0, []), some (.getfield 191, 1116, 0, [666]), none, none, some (.iconst 1, 0, 0, []), some (.isub, 0, 0, []), some (.ireturn, 0, 0, [])]
def aM138 : List (Option aI) := [some (.aload_n 0, 0, 0, []), some (.iconst 2, 0, 0, []), some (.iload_n 1, 0, 0, []), some (.iload_n 2, 0, 0, []), some (.invokevirtual 161, 137, 8, [642, 643, 49, 112]), none, none, some (.ireturn, 0, 0, [])]
def aM139 : List (Option aI) := [some (.iconst 0, 0, 0, []), some (.istore_n 3, 0, 0, []), some (.iload_n 3, 0, 0, []), some (.aload_n 2, 0, 0, []), some (.invokevirtual 200, 1003, 2, []), none, none, some (.if_icmp .ge 20, 27, 0, []), none, none, some (.aload_n 0, 0, 0, []), some (.iload_n 1, 0, 0, []), some (.iload_n 3, 0, 0, []), some (.aload_n 2, 0, 0, []), some (.iload_n 3, 0, 0, []), some (.invokevirtual 206, 1004, 4, []), none, none, some (.invokestatic 210, 140, 8, [648, 649, 112]), none, none, some (.iinc 3 1, 0, 0, []), none, none, some (.goto (-22), 2, 0, []), none, none, some (.return_, 0, 0, [])]
def aM140 : List (Option aI) := [some (.aload_n 0, 0, 0, []), some (.iconst 3, 0, 0, []), some (.iload_n 1, 0, 0, []), some (.imul, 0, 0, []), some (.iload_n 2, 0, 0, []), some (.bipush 9, 0, 0, []), none, some (.idiv, 0, 0, []), some (.iadd, 0, 0, []), some (.dup2, 0, 0, []), some (.laload, 0, 0, []), some (.iload_n 3, 0, 0, []), some (.i2l, 0, 0, []), some (.bipush 7, 0, 0, []), none, some (.iload_n 2, 0, 0, []), some (.bipush 9, 0, 0, []), none, some (.irem, 0, 0, []), some (.imul, 0, 0, []), some (.lshl, 0, 0, []), some (.lor, 0, 0, []), some (.lastore, 0, 0, []), some (.return_, 0, 0, [])]
def aM141 : List (Option aI) := [some (.aload_n 0, 0, 0, []), some (.getfield 197, 1100, 0, [650]), none, none, some (.ireturn, 0, 0, [])]
def aM142 : List (Option aI) := [some (.aload_n 0, 0, 0, []), some (.iconst 0, 0, 0, []), some (.putfield 197, 1100, 0, [650]), none, none, some (.aload_n 0, 0, 0, []), some (.getfield 218, 1102, 0, [652]), none, none, some (.sipush 8000, 0, 0, []), none, none, some (.if_icmp .ne 5, 17, 0, []), none, none, some (.iconst 0, 0, 0, []), some (.ireturn, 0, 0, []), some (.iconst 0, 0, 0, []), some (.istore 6, 0, 0, []), none, some (.iload 6, 0, 0, []), none, some (.bipush 20, 0, 0, []), none, some (.if_icmp .ge 93, 117, 0, []), none, none, some (.iload 6, 0, 0, []), none, some (.iconst 4, 0, 0, []), some (.if_icmp .ge 7, 37, 0, []), none, none, some (.iload_n 1, 0, 0, []), some (.goto 39, 73, 0, []), none, none, some (.iload 6, 0, 0, []), none, some (.bipush 8, 0, 0, []), none, some (.if_icmp .ge 7, 48, 0, []), none, none, some (.iload_n 2, 0, 0, []), some (.goto 28, 73, 0, []), none, none, some (.iload 6, 0, 0, []), none, some (.bipush 12, 0, 0, []), none, some (.if_icmp .ge 7, 59, 0, []), none, none, some (.iload_n 3, 0, 0, []), some (.goto 17, 73, 0, []), none, none, some (.iload 6, 0, 0, []), none, some (.bipush 16, 0, 0, []), none, some (.if_icmp .ge 8, 71, 0, []), none, none, some (.iload 4, 0, 0, []), none, some (.goto 5, 73, 0, []), none, none, some (.iload 5, 0, 0, []), none, some (.istore 7, 0, 0, []), none, some (.aload_n 0, 0, 0, []), some (.getfield 7, 1101, 12, [651]), none, none, some (.aload_n 0, 0, 0, []), some (.getfield 218, 1102, 0, [652]), none, none, some (.iload 7, 0, 0, []), none, some (.bipush 24, 0, 0, []), none, some (.bipush 8, 0, 0, []), none, some (.iload 6, 0, 0, []), none, some (.iconst 4, 0, 0, []), some (.irem, 0, 0, []), some (.imul, 0, 0, []), some (.isub, 0, 0, []), some (.ishr, 0, 0, []), some (.sipush 255, 0, 0, []), none, none, some (.iand, 0, 0, []), some (.iastore, 0, 0, []), some (.aload_n 0, 0, 0, []), some (.dup, 0, 0, []), some (.getfield 218, 1102, 0, [652]), none, none, some (.iconst 1, 0, 0, []), some (.iadd, 0, 0, []), some (.putfield 218, 1102, 0, [652]), none, none, some (.iinc 6 1, 0, 0, []), none, none, some (.goto (-94), 20, 0, []), none, none, some (.iconst 1, 0, 0, []), some (.ireturn, 0, 0, [])]
def aM143 : List (Option aI) := [some (.aload_n 0, 0, 0, []), some (.iload_n 1, 0, 0, []), some (.invokevirtual 455, 144, 4, [731, 732, 51, 112]), none, none, some (.ifCond .ne 5, 10, 0, []), none, none, some (.iconst 0, 0, 0, []), some (.ireturn, 0, 0, []), some (.aload_n 0, 0, 0, []), some (.invokevirtual 381, 146, 2, [735, 736, 53, 112]), none, none, some (.istore_n 2, 0, 0, []), some (.aload_n 0, 0, 0, []), some (.iconst 0, 0, 0, []), some (.invokevirtual 334, 166, 4, [775, 776, 68, 112]), none, none, some (.aload_n 0, 0, 0, []), some (.getfield 221, 1122, 0, [672]), none, none, some (.ifCond .ne 38, 62, 0, []), none, none, some (.aload_n 0, 0, 0, []), some (.getfield 104, 1146, 12, [696]), none, none, some (.iload_n 2, 0, 0, []), some (.iaload, 0, 0, []), some (.sipush 500, 0, 0, []), none, none, some (.if_icmp .gt 14, 50, 0, []), none, none, some (.aload_n 0, 0, 0, []), some (.getfield 107, 1147, 12, [697]), none, none, some (.iload_n 2, 0, 0, []), some (.iaload, 0, 0, []), some (.bipush 50, 0, 0, []), none, some (.if_icmp .le 15, 62, 0, []), none, none, some (.aload_n 0, 0, 0, []), some (.bipush 8, 0, 0, []), none, some (.aload_n 0, 0, 0, []), some (.getfield 62, 1128, 12, [678]), none, none, some (.iconst 0, 0, 0, []), some (.iaload, 0, 0, []), some (.invokevirtual 260, 152, 6, [747, 748, 59, 112]), none, none, some (.iconst 0, 0, 0, []), some (.istore_n 3, 0, 0, []), some (.iload_n 3, 0, 0, []), some (.aload_n 0, 0, 0, []), some (.getfield 313, 1133, 0, [683]), none, none, some (.if_icmp .ge 21, 90, 0, []), none, none, some (.aload_n 0, 0, 0, []), some (.getfield 221, 1122, 0, [672]), none, none, some (.ifCond .ne 14, 90, 0, []), none, none, some (.aload_n 0, 0, 0, []), some (.iload_n 3, 0, 0, []), some (.invokevirtual 457, 183, 4, [810, 811, 81, 112]), none, none, some (.iinc 3 1, 0, 0, []), none, none, some (.goto (-23), 64, 0, []), none, none, some (.aload_n 0, 0, 0, []), some (.iconst 0, 0, 0, []), some (.putfield 405, 1159, 0, [709]), none, none, some (.aload_n 0, 0, 0, []), some (.getfield 221, 1122, 0, [672]), none, none, some (.ifCond .ne 22, 121, 0, []), none, none, some (.aload_n 0, 0, 0, []), some (.iload_n 2, 0, 0, []), some (.invokevirtual 414, 184, 4, [812, 813, 82, 112]), none, none, some (.ifCond .ne 14, 121, 0, []), none, none, some (.aload_n 0, 0, 0, []), some (.iconst 4, 0, 0, []), some (.aload_n 0, 0, 0, []), some (.getfield 62, 1128, 12, [678]), none, none, some (.iconst 0, 0, 0, []), some (.iaload, 0, 0, []), some (.invokevirtual 260, 152, 6, [747, 748, 59, 112]), none, none, some (.aload_n 0, 0, 0, []), some (.iconst 0, 0, 0, []), some (.putfield 417, 1162, 0, [712]), none, none, some (.aload_n 0, 0, 0, []), some (.getfield 221, 1122, 0, [672]), none, none, some (.ifCond .ne 9, 139, 0, []), none, none, some (.aload_n 0, 0, 0, []), some (.iload_n 2, 0, 0, []), some (.invokevirtual 432, 187, 4, [818, 819, 85, 112]), none, none, some (.pop, 0, 0, []), some (.aload_n 0, 0, 0, []), some (.getfield 221, 1122, 0, [672]), none, none, some (.ifCond .ne 7, 150, 0, []), none, none, some (.aload_n 0, 0, 0, []), some (.invokevirtual 460, 198, 2, [840, 841, 96, 112]), none, none, some (.aload_n 0, 0, 0, []), some (.getfield 221, 1122, 0, [672]), none, none, some (.ifCond .le 5, 159, 0, []), none, none, some (.iconst (-1), 0, 0, []), some (.ireturn, 0, 0, []), some (.aload_n 0, 0, 0, []), some (.invokevirtual 463, 200, 2, [844, 845, 98, 112]), none, none, some (.aload_n 0, 0, 0, []), some (.getfield 446, 1118, 0, [668]), none, none, some (.ireturn, 0, 0, [])]
def aM144 : List (Option aI) := [some (.aload_n 0, 0, 0, []), some (.iload_n 1, 0, 0, []), some (.ifCond .lt 11, 13, 0, []), none, none, some (.iload_n 1, 0, 0, []), some (.aload_n 0, 0, 0, []), some (.getfield 218, 1102, 0, [652]), none, none, some (.if_icmp .le 7, 17, 0, []), none, none, some (.iconst 1, 0, 0, []), some (.goto 4, 18, 0, []), none, none, some (.iconst 0, 0, 0, []), some (.putfield 197, 1100, 0, [650]), none, none, some (.aload_n 0, 0, 0, []), some (.getfield 197, 1100, 0, [650]), none, none, some (.ifCond .le 5, 30, 0, []), none, none, some (.iconst 0, 0, 0, []), some (.ireturn, 0, 0, []), some (.aload_n 0, 0, 0, []), some (.iload_n 1, 0, 0, []), some (.invokevirtual 452, 145, 4, [733, 734, 52, 112]), none, none, some (.aload_n 0, 0, 0, []), some (.iconst 0, 0, 0, []), some (.putfield 384, 1151, 0, [701]), none, none, some (.aload_n 0, 0, 0, []), some (.iconst 0, 0, 0, []), some (.putfield 218, 1102, 0, [652]), none, none, some (.iconst 1, 0, 0, []), some (.ireturn, 0, 0, [])]
def aM145 : List (Option aI) := [some (.aload_n 0, 0, 0, []), some (.iload_n 1, 0, 0, []), some (.putfield 224, 1124, 0, [674]), none, none, some (.aload_n 0, 0, 0, []), some (.iconst 0, 0, 0, []), some (.putfield 233, 1125, 0, [675]), none, none, some (.aload_n 0, 0, 0, []), some (.iconst 0, 0, 0, []), some (.putfield 230, 1126, 0, [676]), none, none, some (.aload_n 0, 0, 0, []), some (.iconst 0, 0, 0, []), some (.putfield 298, 1131, 0, [681]), none, none, some (.aload_n 0, 0, 0, []), some (.iconst 0, 0, 0, []), some (.putfield 221, 1122, 0, [672]), none, none, some (.aload_n 0, 0, 0, []), some (.iconst (-1), 0, 0, []), some (.putfield 55, 1123, 0, [673]), none, none, some (.aload_n 0, 0, 0, []), some (.iconst 0, 0, 0, []), some (.putfield 307, 1132, 0, [682]), none, none, some (.aload_n 0, 0, 0, []), some (.iconst 0, 0, 0, []), some (.putfield 310, 1141, 0, [691]), none, none, some (.aload_n 0, 0, 0, []), some (.iconst 0, 0, 0, []), some (.putfield 313, 1133, 0, [683]), none, none, some (.aload_n 0, 0, 0, []), some (.iconst 0, 0, 0, []), some (.putfield 316, 1148, 0, [698]), none, none, some (.aload_n 0, 0, 0, []), some (.aload_n 0, 0, 0, []), some (.getfield 194, 1117, 0, [667]), none, none, some (.putfield 191, 1116, 0, [666]), none, none, some (.iconst 0, 0, 0, []), some (.istore_n 2, 0, 0, []), some (.iload_n 2, 0, 0, []), some (.aload_n 0, 0, 0, []), some (.getfield 194, 1117, 0, [667]), none, none, some (.if_icmp .ge 16, 81, 0, []), none, none, some (.aload_n 0, 0, 0, []), some (.getfield 43, 1115, 12, [665]), none, none, some (.iload_n 2, 0, 0, []), some (.iconst (-1), 0, 0, []), some (.iastore, 0, 0, []), some (.iinc 2 1, 0, 0, []), none, none, some (.goto (-18), 60, 0, []), none, none, some (.return_, 0, 0, [])]
def aM146 : List (Option aI) := [some (.aload_n 0, 0, 0, []), some (.getfield 316, 1148, 0, [698]), none, none, some (.istore_n 1, 0, 0, []), some (.aload_n 0, 0, 0, []), some (.invokevirtual 353, 147, 2, [737, 738, 54, 112]), none, none, some (.istore_n 2, 0, 0, []), some (.iconst 1, 0, 0, []), some (.istore_n 3, 0, 0, []), some (.iload_n 3, 0, 0, []), some (.ifCond .eq 163, 176, 0, []), none, none, some (.aload_n 0, 0, 0, []), some (.getfield 221, 1122, 0, [672]), none, none, some (.ifCond .ne 156, 176, 0, []), none, none, some (.aload_n 0, 0, 0, []), some (.iconst 0, 0, 0, []), some (.invokevirtual 304, 148, 4, [739, 740, 55, 112]), none, none, some (.istore 4, 0, 0, []), none, some (.iload 4, 0, 0, []), none, some (.invokestatic 356, 180, 2, [804, 805, 112]), none, none, some (.ifCond .eq 14, 49, 0, []), none, none, some (.aload_n 0, 0, 0, []), some (.getfield 221, 1122, 0, [672]), none, none, some (.ifCond .ne 7, 49, 0, []), none, none, some (.iconst 1, 0, 0, []), some (.goto 4, 50, 0, []), none, none, some (.iconst 0, 0, 0, []), some (.istore_n 3, 0, 0, []), some (.iload_n 3, 0, 0, []), some (.ifCond .ne 6, 58, 0, []), none, none, some (.goto (-43), 12, 0, []), none, none, some (.aload_n 0, 0, 0, []), some (.iload_n 1, 0, 0, []), some (.iload_n 2, 0, 0, []), some (.iload 4, 0, 0, []), none, some (.invokevirtual 359, 181, 8, [806, 807, 80, 112]), none, none, some (.istore_n 2, 0, 0, []), some (.aload_n 0, 0, 0, []), some (.getfield 316, 1148, 0, [698]), none, none, some (.iload_n 1, 0, 0, []), some (.if_icmp .le 46, 118, 0, []), none, none, some (.iload 4, 0, 0, []), none, some (.invokestatic 347, 182, 2, [808, 809, 112]), none, none, some (.bipush 24, 0, 0, []), none, some (.if_icmp .ne 36, 118, 0, []), none, none, some (.aload_n 0, 0, 0, []), some (.getfield 110, 1149, 12, [699]), none, none, some (.aload_n 0, 0, 0, []), some (.getfield 316, 1148, 0, [698]), none, none, some (.iconst 1, 0, 0, []), some (.isub, 0, 0, []), some (.iaload, 0, 0, []), some (.invokestatic 347, 182, 2, [808, 809, 112]), none, none, some (.bipush 24, 0, 0, []), none, some (.if_icmp .ne 17, 118, 0, []), none, none, some (.aload_n 0, 0, 0, []), some (.iconst 2, 0, 0, []), some (.aload_n 0, 0, 0, []), some (.getfield 62, 1128, 12, [678]), none, none, some (.aload_n 0, 0, 0, []), some (.getfield 298, 1131, 0, [681]), none, none, some (.iaload, 0, 0, []), some (.invokevirtual 260, 152, 6, [747, 748, 59, 112]), none, none, some (.aload_n 0, 0, 0, []), some (.getfield 221, 1122, 0, [672]), none, none, some (.ifCond .le 5, 127, 0, []), none, none, some (.iconst 0, 0, 0, []), some (.ireturn, 0, 0, []), some (.aload_n 0, 0, 0, []), some (.getfield 110, 1149, 12, [699]), none, none, some (.aload_n 0, 0, 0, []), some (.getfield 316, 1148, 0, [698]), none, none, some (.iload 4, 0, 0, []), none, some (.iastore, 0, 0, []), some (.aload_n 0, 0, 0, []), some (.getfield 113, 1150, 12, [700]), none, none, some (.aload_n 0, 0, 0, []), some (.getfield 316, 1148, 0, [698]), none, none, some (.iload_n 2, 0, 0, []), some (.iastore, 0, 0, []), some (.aload_n 0, 0, 0, []), some (.dup, 0, 0, []), some (.getfield 316, 1148, 0, [698]), none, none, some (.iconst 1, 0, 0, []), some (.iadd, 0, 0, []), some (.putfield 316, 1148, 0, [698]), none, none, some (.aload_n 0, 0, 0, []), some (.dup, 0, 0, []), some (.getfield 298, 1131, 0, [681]), none, none, some (.iconst 1, 0, 0, []), some (.iadd, 0, 0, []), some (.putfield 298, 1131, 0, [681]), none, none, some (.aload_n 0, 0, 0, []), some (.invokevirtual 353, 147, 2, [737, 738, 54, 112]), none, none, some (.istore_n 2, 0, 0, []), some (.goto (-161), 12, 0, []), none, none, some (.aload_n 0, 0, 0, []), some (.getfield 221, 1122, 0, [672]), none, none, some (.ifCond .le 7, 187, 0, []), none, none, some (.iconst 0, 0, 0, []), some (.goto 10, 194, 0, []), none, none, some (.aload_n 0, 0, 0, []), some (.iload_n 1, 0, 0, []), some (.iload_n 2, 0, 0, []), some (.iconst 0, 0, 0, []), some (.invokevirtual 359, 181, 8, [806, 807, 80, 112]), none, none, some (.ireturn, 0, 0, [])]
def aM147 : List (Option aI) := [some (.iconst 0, 0, 0, []), some (.istore_n 1, 0, 0, []), some (.aload_n 0, 0, 0, []), some (.iconst 0, 0, 0, []), some (.invokevirtual 304, 148, 4, [739, 740, 55, 112]), none, none, some (.bipush 12, 0, 0, []), none, some (.if_icmp .ne 26, 35, 0, []), none, none, some (.aload_n 0, 0, 0, []), some (.getfield 221, 1122, 0, [672]), none, none, some (.ifCond .ne 19, 35, 0, []), none, none, some (.iinc 1 1, 0, 0, []), none, none, some (.aload_n 0, 0, 0, []), some (.dup, 0, 0, []), some (.getfield 298, 1131, 0, [681]), none, none, some (.iconst 1, 0, 0, []), some (.iadd, 0, 0, []), some (.putfield 298, 1131, 0, [681]), none, none, some (.goto (-30), 2, 0, []), none, none, some (.aload_n 0, 0, 0, []), some (.iconst 0, 0, 0, []), some (.invokevirtual 304, 148, 4, [739, 740, 55, 112]), none, none, some (.istore_n 2, 0, 0, []), some (.aload_n 0, 0, 0, []), some (.getfield 221, 1122, 0, [672]), none, none, some (.ifCond .le 5, 50, 0, []), none, none, some (.iconst 0, 0, 0, []), some (.ireturn, 0, 0, []), some (.iload_n 2, 0, 0, []), some (.bipush 8, 0, 0, []), none, some (.if_icmp .lt 17, 70, 0, []), none, none, some (.iload_n 2, 0, 0, []), some (.bipush 11, 0, 0, []), none, some (.if_icmp .gt 11, 70, 0, []), none, none, some (.aload_n 0, 0, 0, []), some (.iload_n 2, 0, 0, []), some (.invokevirtual 362, 163, 4, [769, 770, 65, 112]), none, none, some (.goto 7, 74, 0, []), none, none, some (.aload_n 0, 0, 0, []), some (.invokevirtual 365, 176, 2, [796, 797, 77, 112]), none, none, some (.istore_n 3, 0, 0, []), some (.iconst 0, 0, 0, []), some (.istore 4, 0, 0, []), none, some (.iload 4, 0, 0, []), none, some (.iload_n 1, 0, 0, []), some (.if_icmp .ge 28, 109, 0, []), none, none, some (.aload_n 0, 0, 0, []), some (.getfield 221, 1122, 0, [672]), none, none, some (.ifCond .ne 21, 109, 0, []), none, none, some (.aload_n 0, 0, 0, []), some (.aload_n 0, 0, 0, []), some (.iconst 3, 0, 0, []), some (.iconst 0, 0, 0, []), some (.invokevirtual 368, 173, 6, [790, 791, 75, 112]), none, none, some (.iload_n 3, 0, 0, []), some (.invokevirtual 350, 174, 6, [792, 793, 76, 112]), none, none, some (.istore_n 3, 0, 0, []), some (.iinc 4 1, 0, 0, []), none, none, some (.goto (-28), 78, 0, []), none, none, some (.iload_n 3, 0, 0, []), some (.ireturn, 0, 0, [])]
def aM148 : List (Option aI) := [some (.aload_n 0, 0, 0, []), some (.getfield 298, 1131, 0, [681]), none, none, some (.iload_n 1, 0, 0, []), some (.iadd, 0, 0, []), some (.istore_n 2, 0, 0, []), some (.aload_n 0, 0, 0, []), some (.getfield 230, 1126, 0, [676]), none, none, some (.iload_n 2, 0, 0, []), some (.if_icmp .gt 17, 29, 0, []), none, none, some (.aload_n 0, 0, 0, []), some (.getfield 221, 1122, 0, [672]), none, none, some (.ifCond .ne 10, 29, 0, []), none, none, some (.aload_n 0, 0, 0, []), some (.invokevirtual 301, 149, 2, [741, 742, 56, 112]), none, none, some (.goto (-19), 7, 0, []), none, none, some (.aload_n 0, 0, 0, []), some (.getfield 221, 1122, 0, [672]), none, none, some (.ifCond .le 7, 40, 0, []), none, none, some (.iconst 0, 0, 0, []), some (.goto 9, 46, 0, []), none, none, some (.aload_n 0, 0, 0, []), some (.getfield 59, 1127, 12, [677]), none, none, some (.iload_n 2, 0, 0, []), some (.iaload, 0, 0, []), some (.ireturn, 0, 0, [])]
def aM149 : List (Option aI) := [some (.aload_n 0, 0, 0, []), some (.aload_n 0, 0, 0, []), some (.aload_n 0, 0, 0, []), some (.getfield 233, 1125, 0, [675]), none, none, some (.invokevirtual 285, 150, 4, [743, 744, 57, 112]), none, none, some (.putfield 233, 1125, 0, [675]), none, none, some (.aload_n 0, 0, 0, []), some (.getfield 62, 1128, 12, [678]), none, none, some (.aload_n 0, 0, 0, []), some (.getfield 230, 1126, 0, [676]), none, none, some (.aload_n 0, 0, 0, []), some (.getfield 233, 1125, 0, [675]), none, none, some (.iastore, 0, 0, []), some (.aload_n 0, 0, 0, []), some (.getfield 233, 1125, 0, [675]), none, none, some (.aload_n 0, 0, 0, []), some (.getfield 224, 1124, 0, [674]), none, none, some (.if_icmp .ne 24, 57, 0, []), none, none, some (.aload_n 0, 0, 0, []), some (.getfield 59, 1127, 12, [677]), none, none, some (.aload_n 0, 0, 0, []), some (.getfield 230, 1126, 0, [676]), none, none, some (.iconst 0, 0, 0, []), some (.iastore, 0, 0, []), some (.aload_n 0, 0, 0, []), some (.dup, 0, 0, []), some (.getfield 230, 1126, 0, [676]), none, none, some (.iconst 1, 0, 0, []), some (.iadd, 0, 0, []), some (.putfield 230, 1126, 0, [676]), none, none, some (.return_, 0, 0, []), some (.aload_n 0, 0, 0, []), some (.getfield 230, 1126, 0, [676]), none, none, some (.sipush 6000, 0, 0, []), none, none, some (.if_icmp .ne 13, 77, 0, []), none, none, some (.aload_n 0, 0, 0, []), some (.bipush 8, 0, 0, []), none, some (.aload_n 0, 0, 0, []), some (.getfield 233, 1125, 0, [675]), none, none, some (.invokevirtual 260, 152, 6, [747, 748, 59, 112]), none, none, some (.aload_n 0, 0, 0, []), some (.getfield 221, 1122, 0, [672]), none, none, some (.ifCond .le 4, 85, 0, []), none, none, some (.return_, 0, 0, []), some (.aload_n 0, 0, 0, []), some (.aload_n 0, 0, 0, []), some (.getfield 233, 1125, 0, [675]), none, none, some (.invokevirtual 226, 151, 4, [745, 746, 58, 112]), none, none, some (.istore_n 1, 0, 0, []), some (.iload_n 1, 0, 0, []), some (.invokestatic 263, 153, 2, [749, 750, 112]), none, none, some (.ifCond .eq 14, 112, 0, []), none, none, some (.aload_n 0, 0, 0, []), some (.aload_n 0, 0, 0, []), some (.getfield 233, 1125, 0, [675]), none, none, some (.invokevirtual 288, 154, 4, [751, 752, 60, 112]), none, none, some (.goto 57, 166, 0, []), none, none, some (.iload_n 1, 0, 0, []), some (.bipush 39, 0, 0, []), none, some (.if_icmp .ne 32, 147, 0, []), none, none, some (.aload_n 0, 0, 0, []), some (.aload_n 0, 0, 0, []), some (.getfield 233, 1125, 0, [675]), none, none, some (.iconst 1, 0, 0, []), some (.iadd, 0, 0, []), some (.invokevirtual 226, 151, 4, [745, 746, 58, 112]), none, none, some (.invokestatic 263, 153, 2, [749, 750, 112]), none, none, some (.ifCond .eq 16, 147, 0, []), none, none, some (.aload_n 0, 0, 0, []), some (.aload_n 0, 0, 0, []), some (.getfield 233, 1125, 0, [675]), none, none, some (.iconst 1, 0, 0, []), some (.iadd, 0, 0, []), some (.invokevirtual 288, 154, 4, [751, 752, 60, 112]), none, none, some (.goto 22, 166, 0, []), none, none, some (.iload_n 1, 0, 0, []), some (.invokestatic 267, 155, 2, [753, 754, 112]), none, none, some (.ifCond .eq 10, 161, 0, []), none, none, some (.aload_n 0, 0, 0, []), some (.invokevirtual 292, 161, 2, [765, 766, 63, 112]), none, none, some (.goto 8, 166, 0, []), none, none, some (.aload_n 0, 0, 0, []), some (.iload_n 1, 0, 0, []), some (.invokevirtual 295, 162, 4, [767, 768, 64, 112]), none, none, some (.aload_n 0, 0, 0, []), some (.dup, 0, 0, []), some (.getfield 230, 1126, 0, [676]), none, none, some (.iconst 1, 0, 0, []), some (.iadd, 0, 0, []), some (.putfield 230, 1126, 0, [676]), none, none, some (.return_, 0, 0, [])]
def aM150 : List (Option aI) := [some (.iload_n 1, 0, 0, []), some (.istore_n 2, 0, 0, []), some (.iconst 1, 0, 0, []), some (.istore_n 3, 0, 0, []), some (.iload_n 3, 0, 0, []), some (.ifCond .eq 97, 102, 0, []), none, none, some (.aload_n 0, 0, 0, []), some (.iload_n 2, 0, 0, []), some (.invokevirtual 226, 151, 4, [745, 746, 58, 112]), none, none, some (.istore 4, 0, 0, []), none, some (.iload 4, 0, 0, []), none, some (.bipush 9, 0, 0, []), none, some (.if_icmp .eq 31, 50, 0, []), none, none, some (.iload 4, 0, 0, []), none, some (.bipush 10, 0, 0, []), none, some (.if_icmp .eq 24, 50, 0, []), none, none, some (.iload 4, 0, 0, []), none, some (.bipush 13, 0, 0, []), none, some (.if_icmp .eq 17, 50, 0, []), none, none, some (.iload 4, 0, 0, []), none, some (.bipush 32, 0, 0, []), none, some (.if_icmp .eq 10, 50, 0, []), none, none, some (.iload 4, 0, 0, []), none, some (.bipush 35, 0, 0, []), none, some (.if_icmp .ne 7, 54, 0, []), none, none, some (.iconst 1, 0, 0, []), some (.goto 4, 55, 0, []), none, none, some (.iconst 0, 0, 0, []), some (.istore_n 3, 0, 0, []), some (.iload 4, 0, 0, []), none, some (.bipush 35, 0, 0, []), none, some (.if_icmp .ne 32, 92, 0, []), none, none, some (.aload_n 0, 0, 0, []), some (.iload_n 2, 0, 0, []), some (.iconst 1, 0, 0, []), some (.iadd, 0, 0, []), some (.invokevirtual 226, 151, 4, [745, 746, 58, 112]), none, none, some (.bipush 10, 0, 0, []), none, some (.if_icmp .eq 20, 92, 0, []), none, none, some (.aload_n 0, 0, 0, []), some (.iload_n 2, 0, 0, []), some (.iconst 1, 0, 0, []), some (.iadd, 0, 0, []), some (.invokevirtual 226, 151, 4, [745, 746, 58, 112]), none, none, some (.iconst (-1), 0, 0, []), some (.if_icmp .eq 9, 92, 0, []), none, none, some (.iinc 2 1, 0, 0, []), none, none, some (.goto (-26), 63, 0, []), none, none, some (.iload_n 3, 0, 0, []), some (.ifCond .eq 6, 99, 0, []), none, none, some (.iinc 2 1, 0, 0, []), none, none, some (.goto (-95), 4, 0, []), none, none, some (.iload_n 2, 0, 0, []), some (.ireturn, 0, 0, [])]
def aM151 : List (Option aI) := [some (.iload_n 1, 0, 0, []), some (.aload_n 0, 0, 0, []), some (.getfield 224, 1124, 0, [674]), none, none, some (.if_icmp .ge 12, 17, 0, []), none, none, some (.aload_n 0, 0, 0, []), some (.getfield 7, 1101, 12, [651]), none, none, some (.iload_n 1, 0, 0, []), some (.iaload, 0, 0, []), some (.goto 4, 18, 0, []), none, none, some (.iconst (-1), 0, 0, []), some (.ireturn, 0, 0, [])]
def aM152 : List (Option aI) := [some (.aload_n 0, 0, 0, []), some (.getfield 221, 1122, 0, [672]), none, none, some (.ifCond .le 4, 8, 0, []), none, none, some (.return_, 0, 0, []), some (.aload_n 0, 0, 0, []), some (.iload_n 1, 0, 0, []), some (.putfield 221, 1122, 0, [672]), none, none, some (.aload_n 0, 0, 0, []), some (.iload_n 2, 0, 0, []), some (.putfield 55, 1123, 0, [673]), none, none, some (.return_, 0, 0, [])]
def aM153 : List (Option aI) := [some (.iload_n 0, 0, 0, []), some (.bipush 97, 0, 0, []), none, some (.if_icmp .lt 9, 12, 0, []), none, none, some (.iload_n 0, 0, 0, []), some (.bipush 122, 0, 0, []), none, some (.if_icmp .le 21, 30, 0, []), none, none, some (.iload_n 0, 0, 0, []), some (.bipush 65, 0, 0, []), none, some (.if_icmp .lt 9, 24, 0, []), none, none, some (.iload_n 0, 0, 0, []), some (.bipush 90, 0, 0, []), none, some (.if_icmp .le 9, 30, 0, []), none, none, some (.iload_n 0, 0, 0, []), some (.bipush 95, 0, 0, []), none, some (.if_icmp .ne 7, 34, 0, []), none, none, some (.iconst 1, 0, 0, []), some (.goto 4, 35, 0, []), none, none, some (.iconst 0, 0, 0, []), some (.ireturn, 0, 0, [])]
def aM154 : List (Option aI) := [some (.iload_n 1, 0, 0, []), some (.istore_n 2, 0, 0, []), some (.iconst 0, 0, 0, []), some (.istore_n 3, 0, 0, []), some (.iload_n 3, 0, 0, []), some (.iconst 3, 0, 0, []), some (.if_icmp .ge 23, 29, 0, []), none, none, some (.aload_n 0, 0, 0, []), some (.getfield 68, 1130, 12, [680]), none, none, some (.iconst 3, 0, 0, []), some (.aload_n 0, 0, 0, []), some (.getfield 230, 1126, 0, [676]), none, none, some (.imul, 0, 0, []), some (.iload_n 3, 0, 0, []), some (.iadd, 0, 0, []), some (.lconst 0, 0, 0, []), some (.lastore, 0, 0, []), some (.iinc 3 1, 0, 0, []), none, none, some (.goto (-22), 4, 0, []), none, none, some (.aload_n 0, 0, 0, []), some (.iload_n 2, 0, 0, []), some (.invokevirtual 226, 151, 4, [745, 746, 58, 112]), none, none, some (.invokestatic 263, 153, 2, [749, 750, 112]), none, none, some (.ifCond .ne 24, 61, 0, []), none, none, some (.aload_n 0, 0, 0, []), some (.iload_n 2, 0, 0, []), some (.invokevirtual 226, 151, 4, [745, 746, 58, 112]), none, none, some (.invokestatic 267, 155, 2, [753, 754, 112]), none, none, some (.ifCond .ne 13, 61, 0, []), none, none, some (.aload_n 0, 0, 0, []), some (.iload_n 2, 0, 0, []), some (.invokevirtual 226, 151, 4, [745, 746, 58, 112]), none, none, some (.bipush 39, 0, 0, []), none, some (.if_icmp .ne 37, 95, 0, []), none, none, some (.iload_n 2, 0, 0, []), some (.iload_n 1, 0, 0, []), some (.isub, 0, 0, []), some (.bipush 24, 0, 0, []), none, some (.if_icmp .ge 23, 89, 0, []), none, none, some (.aload_n 0, 0, 0, []), some (.getfield 68, 1130, 12, [680]), none, none, some (.aload_n 0, 0, 0, []), some (.getfield 230, 1126, 0, [676]), none, none, some (.iload_n 2, 0, 0, []), some (.iload_n 1, 0, 0, []), some (.isub, 0, 0, []), some (.aload_n 0, 0, 0, []), some (.getfield 7, 1101, 12, [651]), none, none, some (.iload_n 2, 0, 0, []), some (.iaload, 0, 0, []), some (.invokestatic 210, 140, 8, [648, 649, 112]), none, none, some (.iinc 2 1, 0, 0, []), none, none, some (.goto (-63), 29, 0, []), none, none, some (.iload_n 2, 0, 0, []), some (.iload_n 1, 0, 0, []), some (.isub, 0, 0, []), some (.bipush 24, 0, 0, []), none, some (.if_icmp .le 13, 113, 0, []), none, none, some (.aload_n 0, 0, 0, []), some (.bipush 8, 0, 0, []), none, some (.aload_n 0, 0, 0, []), some (.getfield 233, 1125, 0, [675]), none, none, some (.invokevirtual 260, 152, 6, [747, 748, 59, 112]), none, none, some (.iload_n 1, 0, 0, []), some (.aload_n 0, 0, 0, []), some (.getfield 233, 1125, 0, [675]), none, none, some (.if_icmp .ne 7, 125, 0, []), none, none, some (.iconst 1, 0, 0, []), some (.goto 4, 126, 0, []), none, none, some (.iconst 0, 0, 0, []), some (.istore_n 3, 0, 0, []), some (.iload_n 3, 0, 0, []), some (.ifCond .eq 36, 164, 0, []), none, none, some (.iload_n 2, 0, 0, []), some (.iload_n 1, 0, 0, []), some (.isub, 0, 0, []), some (.iconst 2, 0, 0, []), some (.if_icmp .ne 29, 164, 0, []), none, none, some (.aload_n 0, 0, 0, []), some (.iload_n 1, 0, 0, []), some (.ldc_w 270, 21, 1, []), none, none, some (.invokevirtual 238, 156, 6, [755, 756, 61, 112]), none, none, some (.ifCond .ne 14, 160, 0, []), none, none, some (.aload_n 0, 0, 0, []), some (.iload_n 1, 0, 0, []), some (.ldc_w 272, 22, 1, []), none, none, some (.invokevirtual 238, 156, 6, [755, 756, 61, 112]), none, none, some (.ifCond .eq 7, 164, 0, []), none, none, some (.iconst 1, 0, 0, []), some (.goto 4, 165, 0, []), none, none, some (.iconst 0, 0, 0, []), some (.istore 4, 0, 0, []), none, some (.aload_n 0, 0, 0, []), some (.iload 4, 0, 0, []), none, some (.ifCond .eq 8, 178, 0, []), none, none, some (.bipush 14, 0, 0, []), none, some (.goto 12, 187, 0, []), none, none, some (.iload_n 3, 0, 0, []), some (.ifCond .eq 7, 186, 0, []), none, none, some (.iconst 1, 0, 0, []), some (.goto 4, 187, 0, []), none, none, some (.iconst 2, 0, 0, []), some (.iload_n 2, 0, 0, []), some (.aload_n 0, 0, 0, []), some (.getfield 233, 1125, 0, [675]), none, none, some (.isub, 0, 0, []), some (.invokevirtual 242, 157, 6, [757, 758, 62, 112]), none, none, some (.iload_n 3, 0, 0, []), some (.ifCond .ne 10, 207, 0, []), none, none, some (.aload_n 0, 0, 0, []), some (.getfield 221, 1122, 0, [672]), none, none, some (.ifCond .le 4, 208, 0, []), none, none, some (.return_, 0, 0, []), some (.aload_n 0, 0, 0, []), some (.getfield 30, 1111, 12, [661]), none, none, some (.aload_n 0, 0, 0, []), some (.getfield 274, 1105, 0, [655]), none, none, some (.aload_n 0, 0, 0, []), some (.getfield 68, 1130, 12, [680]), none, none, some (.aload_n 0, 0, 0, []), some (.getfield 230, 1126, 0, [676]), none, none, some (.invokestatic 277, 158, 8, [759, 760, 112]), none, none, some (.istore 5, 0, 0, []), none, some (.iload 5, 0, 0, []), none, some (.iconst (-1), 0, 0, []), some (.if_icmp .ne 36, 268, 0, []), none, none, some (.aload_n 0, 0, 0, []), some (.getfield 274, 1105, 0, [655]), none, none, some (.istore 5, 0, 0, []), none, some (.aload_n 0, 0, 0, []), some (.getfield 30, 1111, 12, [661]), none, none, some (.iload 5, 0, 0, []), none, some (.aload_n 0, 0, 0, []), some (.getfield 68, 1130, 12, [680]), none, none, some (.aload_n 0, 0, 0, []), some (.getfield 230, 1126, 0, [676]), none, none, some (.invokestatic 281, 160, 8, [763, 764, 112]), none, none, some (.aload_n 0, 0, 0, []), some (.dup, 0, 0, []), some (.getfield 274, 1105, 0, [655]), none, none, some (.iconst 1, 0, 0, []), some (.iadd, 0, 0, []), some (.putfield 274, 1105, 0, [655]), none, none, some (.aload_n 0, 0, 0, []), some (.getfield 65, 1129, 12, [679]), none, none, some (.aload_n 0, 0, 0, []), some (.getfield 230, 1126, 0, [676]), none, none, some (.iload 5, 0, 0, []), none, some (.iastore, 0, 0, []), some (.return_, 0, 0, [])]
def aM155 : List (Option aI) := [some (.iload_n 0, 0, 0, []), some (.bipush 48, 0, 0, []), none, some (.if_icmp .lt 13, 16, 0, []), none, none, some (.iload_n 0, 0, 0, []), some (.bipush 57, 0, 0, []), none, some (.if_icmp .gt 7, 16, 0, []), none, none, some (.iconst 1, 0, 0, []), some (.goto 4, 17, 0, []), none, none, some (.iconst 0, 0, 0, []), some (.ireturn, 0, 0, [])]
def aM156 : List (Option aI) := [some (.iconst 1, 0, 0, []), some (.istore_n 3, 0, 0, []), some (.iconst 0, 0, 0, []), some (.istore 4, 0, 0, []), none, some (.iload 4, 0, 0, []), none, some (.aload_n 2, 0, 0, []), some (.invokevirtual 200, 1003, 2, []), none, none, some (.if_icmp .ge 36, 47, 0, []), none, none, some (.iload_n 3, 0, 0, []), some (.ifCond .eq 24, 39, 0, []), none, none, some (.aload_n 0, 0, 0, []), some (.iload_n 1, 0, 0, []), some (.iload 4, 0, 0, []), none, some (.iadd, 0, 0, []), some (.invokevirtual 226, 151, 4, [745, 746, 58, 112]), none, none, some (.aload_n 2, 0, 0, []), some (.iload 4, 0, 0, []), none, some (.invokevirtual 206, 1004, 4, []), none, none, some (.if_icmp .ne 7, 39, 0, []), none, none, some (.iconst 1, 0, 0, []), some (.goto 4, 40, 0, []), none, none, some (.iconst 0, 0, 0, []), some (.istore_n 3, 0, 0, []), some (.iinc 4 1, 0, 0, []), none, none, some (.goto (-39), 5, 0, []), none, none, some (.iload_n 3, 0, 0, []), some (.ireturn, 0, 0, [])]
def aM157 : List (Option aI) := [some (.aload_n 0, 0, 0, []), some (.getfield 59, 1127, 12, [677]), none, none, some (.aload_n 0, 0, 0, []), some (.getfield 230, 1126, 0, [676]), none, none, some (.iload_n 1, 0, 0, []), some (.iastore, 0, 0, []), some (.aload_n 0, 0, 0, []), some (.dup, 0, 0, []), some (.getfield 233, 1125, 0, [675]), none, none, some (.iload_n 2, 0, 0, []), some (.iadd, 0, 0, []), some (.putfield 233, 1125, 0, [675]), none, none, some (.return_, 0, 0, [])]
def aM158 : List (Option aI) := [some (.iconst 0, 0, 0, []), some (.istore 4, 0, 0, []), none, some (.iload 4, 0, 0, []), none, some (.iload_n 1, 0, 0, []), some (.if_icmp .ge 23, 29, 0, []), none, none, some (.aload_n 0, 0, 0, []), some (.iload 4, 0, 0, []), none, some (.aload_n 2, 0, 0, []), some (.iload_n 3, 0, 0, []), some (.invokestatic 214, 159, 8, [761, 762, 112]), none, none, some (.ifCond .eq 6, 23, 0, []), none, none, some (.iload 4, 0, 0, []), none, some (.ireturn, 0, 0, []), some (.iinc 4 1, 0, 0, []), none, none, some (.goto (-23), 3, 0, []), none, none, some (.iconst (-1), 0, 0, []), some (.ireturn, 0, 0, [])]
def aM159 : List (Option aI) := [some (.aload_n 0, 0, 0, []), some (.iconst 3, 0, 0, []), some (.iload_n 1, 0, 0, []), some (.imul, 0, 0, []), some (.laload, 0, 0, []), some (.aload_n 2, 0, 0, []), some (.iconst 3, 0, 0, []), some (.iload_n 3, 0, 0, []), some (.imul, 0, 0, []), some (.laload, 0, 0, []), some (.lcmp, 0, 0, []), some (.ifCond .ne 43, 54, 0, []), none, none, some (.aload_n 0, 0, 0, []), some (.iconst 3, 0, 0, []), some (.iload_n 1, 0, 0, []), some (.imul, 0, 0, []), some (.iconst 1, 0, 0, []), some (.iadd, 0, 0, []), some (.laload, 0, 0, []), some (.aload_n 2, 0, 0, []), some (.iconst 3, 0, 0, []), some (.iload_n 3, 0, 0, []), some (.imul, 0, 0, []), some (.iconst 1, 0, 0, []), some (.iadd, 0, 0, []), some (.laload, 0, 0, []), some (.lcmp, 0, 0, []), some (.ifCond .ne 25, 54, 0, []), none, none, some (.aload_n 0, 0, 0, []), some (.iconst 3, 0, 0, []), some (.iload_n 1, 0, 0, []), some (.imul, 0, 0, []), some (.iconst 2, 0, 0, []), some (.iadd, 0, 0, []), some (.laload, 0, 0, []), some (.aload_n 2, 0, 0, []), some (.iconst 3, 0, 0, []), some (.iload_n 3, 0, 0, []), some (.imul, 0, 0, []), some (.iconst 2, 0, 0, []), some (.iadd, 0, 0, []), some (.laload, 0, 0, []), some (.lcmp, 0, 0, []), some (.ifCond .ne 7, 54, 0, []), none, none, some (.iconst 1, 0, 0, []), some (.goto 4, 55, 0, []), none, none, some (.iconst 0, 0, 0, []), some (.ireturn, 0, 0, [])]
def aM160 : List (Option aI) := [some (.iconst 0, 0, 0, []), some (.istore 4, 0, 0, []), none, some (.iload 4, 0, 0, []), none, some (.iconst 3, 0, 0, []), some (.if_icmp .ge 25, 31, 0, []), none, none, some (.aload_n 0, 0, 0, []), some (.iconst 3, 0, 0, []), some (.iload_n 1, 0, 0, []), some (.imul, 0, 0, []), some (.iload 4, 0, 0, []), none, some (.iadd, 0, 0, []), some (.aload_n 2, 0, 0, []), some (.iconst 3, 0, 0, []), some (.iload_n 3, 0, 0, []), some (.imul, 0, 0, []), some (.iload 4, 0, 0, []), none, some (.iadd, 0, 0, []), some (.laload, 0, 0, []), some (.lastore, 0, 0, []), some (.iinc 4 1, 0, 0, []), none, none, some (.goto (-25), 3, 0, []), none, none, some (.return_, 0, 0, [])]
def aM161 : List (Option aI) := [some (.aload_n 0, 0, 0, []), some (.getfield 233, 1125, 0, [675]), none, none, some (.istore_n 1, 0, 0, []), some (.iconst 0, 0, 0, []), some (.istore_n 2, 0, 0, []), some (.aload_n 0, 0, 0, []), some (.iload_n 1, 0, 0, []), some (.invokevirtual 226, 151, 4, [745, 746, 58, 112]), none, none, some (.invokestatic 267, 155, 2, [753, 754, 112]), none, none, some (.ifCond .eq 34, 49, 0, []), none, none, some (.iload_n 2, 0, 0, []), some (.bipush 49, 0, 0, []), none, some (.if_icmp .le 7, 28, 0, []), none, none, some (.iload_n 2, 0, 0, []), some (.goto 17, 42, 0, []), none, none, some (.bipush 10, 0, 0, []), none, some (.iload_n 2, 0, 0, []), some (.imul, 0, 0, []), some (.aload_n 0, 0, 0, []), some (.getfield 7, 1101, 12, [651]), none, none, some (.iload_n 1, 0, 0, []), some (.iaload, 0, 0, []), some (.iadd, 0, 0, []), some (.bipush 48, 0, 0, []), none, some (.isub, 0, 0, []), some (.istore_n 2, 0, 0, []), some (.iinc 1 1, 0, 0, []), none, none, some (.goto (-39), 7, 0, []), none, none, some (.iload_n 2, 0, 0, []), some (.bipush 49, 0, 0, []), none, some (.if_icmp .le 13, 65, 0, []), none, none, some (.aload_n 0, 0, 0, []), some (.bipush 8, 0, 0, []), none, some (.aload_n 0, 0, 0, []), some (.getfield 233, 1125, 0, [675]), none, none, some (.invokevirtual 260, 152, 6, [747, 748, 59, 112]), none, none, some (.aload_n 0, 0, 0, []), some (.getfield 65, 1129, 12, [679]), none, none, some (.aload_n 0, 0, 0, []), some (.getfield 230, 1126, 0, [676]), none, none, some (.iload_n 2, 0, 0, []), some (.iastore, 0, 0, []), some (.aload_n 0, 0, 0, []), some (.iconst 3, 0, 0, []), some (.iload_n 1, 0, 0, []), some (.aload_n 0, 0, 0, []), some (.getfield 233, 1125, 0, [675]), none, none, some (.isub, 0, 0, []), some (.invokevirtual 242, 157, 6, [757, 758, 62, 112]), none, none, some (.return_, 0, 0, [])]
def aM162 : List (Option aI) := [some (.aload_n 0, 0, 0, []), some (.aload_n 0, 0, 0, []), some (.getfield 233, 1125, 0, [675]), none, none, some (.ldc 236, 13, 1, []), none, some (.invokevirtual 238, 156, 6, [755, 756, 61, 112]), none, none, some (.ifCond .eq 13, 23, 0, []), none, none, some (.aload_n 0, 0, 0, []), some (.bipush 20, 0, 0, []), none, some (.iconst 3, 0, 0, []), some (.invokevirtual 242, 157, 6, [757, 758, 62, 112]), none, none, some (.goto 411, 431, 0, []), none, none, some (.aload_n 0, 0, 0, []), some (.aload_n 0, 0, 0, []), some (.getfield 233, 1125, 0, [675]), none, none, some (.ldc 246, 14, 1, []), none, some (.invokevirtual 238, 156, 6, [755, 756, 61, 112]), none, none, some (.ifCond .eq 13, 46, 0, []), none, none, some (.aload_n 0, 0, 0, []), some (.bipush 21, 0, 0, []), none, some (.iconst 3, 0, 0, []), some (.invokevirtual 242, 157, 6, [757, 758, 62, 112]), none, none, some (.goto 388, 431, 0, []), none, none, some (.aload_n 0, 0, 0, []), some (.aload_n 0, 0, 0, []), some (.getfield 233, 1125, 0, [675]), none, none, some (.ldc 248, 15, 1, []), none, some (.invokevirtual 238, 156, 6, [755, 756, 61, 112]), none, none, some (.ifCond .eq 13, 69, 0, []), none, none, some (.aload_n 0, 0, 0, []), some (.bipush 22, 0, 0, []), none, some (.iconst 2, 0, 0, []), some (.invokevirtual 242, 157, 6, [757, 758, 62, 112]), none, none, some (.goto 365, 431, 0, []), none, none, some (.aload_n 0, 0, 0, []), some (.aload_n 0, 0, 0, []), some (.getfield 233, 1125, 0, [675]), none, none, some (.ldc 250, 16, 1, []), none, some (.invokevirtual 238, 156, 6, [755, 756, 61, 112]), none, none, some (.ifCond .eq 13, 92, 0, []), none, none, some (.aload_n 0, 0, 0, []), some (.bipush 23, 0, 0, []), none, some (.iconst 2, 0, 0, []), some (.invokevirtual 242, 157, 6, [757, 758, 62, 112]), none, none, some (.goto 342, 431, 0, []), none, none, some (.aload_n 0, 0, 0, []), some (.aload_n 0, 0, 0, []), some (.getfield 233, 1125, 0, [675]), none, none, some (.ldc 252, 17, 1, []), none, some (.invokevirtual 238, 156, 6, [755, 756, 61, 112]), none, none, some (.ifCond .eq 13, 115, 0, []), none, none, some (.aload_n 0, 0, 0, []), some (.bipush 26, 0, 0, []), none, some (.iconst 2, 0, 0, []), some (.invokevirtual 242, 157, 6, [757, 758, 62, 112]), none, none, some (.goto 319, 431, 0, []), none, none, some (.aload_n 0, 0, 0, []), some (.aload_n 0, 0, 0, []), some (.getfield 233, 1125, 0, [675]), none, none, some (.ldc 254, 18, 1, []), none, some (.invokevirtual 238, 156, 6, [755, 756, 61, 112]), none, none, some (.ifCond .ne 17, 142, 0, []), none, none, some (.aload_n 0, 0, 0, []), some (.aload_n 0, 0, 0, []), some (.getfield 233, 1125, 0, [675]), none, none, some (.ldc_w 256, 19, 1, []), none, none, some (.invokevirtual 238, 156, 6, [755, 756, 61, 112]), none, none, some (.ifCond .eq 13, 152, 0, []), none, none, some (.aload_n 0, 0, 0, []), some (.bipush 14, 0, 0, []), none, some (.iconst 2, 0, 0, []), some (.invokevirtual 242, 157, 6, [757, 758, 62, 112]), none, none, some (.goto 282, 431, 0, []), none, none, some (.aload_n 0, 0, 0, []), some (.aload_n 0, 0, 0, []), some (.getfield 233, 1125, 0, [675]), none, none, some (.ldc_w 258, 20, 1, []), none, none, some (.invokevirtual 238, 156, 6, [755, 756, 61, 112]), none, none, some (.ifCond .eq 13, 176, 0, []), none, none, some (.aload_n 0, 0, 0, []), some (.bipush 13, 0, 0, []), none, some (.iconst 2, 0, 0, []), some (.invokevirtual 242, 157, 6, [757, 758, 62, 112]), none, none, some (.goto 258, 431, 0, []), none, none, some (.iload_n 1, 0, 0, []), some (.bipush 61, 0, 0, []), none, some (.if_icmp .ne 13, 192, 0, []), none, none, some (.aload_n 0, 0, 0, []), some (.bipush 24, 0, 0, []), none, some (.iconst 1, 0, 0, []), some (.invokevirtual 242, 157, 6, [757, 758, 62, 112]), none, none, some (.goto 242, 431, 0, []), none, none, some (.iload_n 1, 0, 0, []), some (.bipush 60, 0, 0, []), none, some (.if_icmp .ne 13, 208, 0, []), none, none, some (.aload_n 0, 0, 0, []), some (.bipush 25, 0, 0, []), none, some (.iconst 1, 0, 0, []), some (.invokevirtual 242, 157, 6, [757, 758, 62, 112]), none, none, some (.goto 226, 431, 0, []), none, none, some (.iload_n 1, 0, 0, []), some (.bipush 43, 0, 0, []), none, some (.if_icmp .ne 13, 224, 0, []), none, none, some (.aload_n 0, 0, 0, []), some (.bipush 27, 0, 0, []), none, some (.iconst 1, 0, 0, []), some (.invokevirtual 242, 157, 6, [757, 758, 62, 112]), none, none, some (.goto 210, 431, 0, []), none, none, some (.iload_n 1, 0, 0, []), some (.bipush 42, 0, 0, []), none, some (.if_icmp .ne 13, 240, 0, []), none, none, some (.aload_n 0, 0, 0, []), some (.bipush 28, 0, 0, []), none, some (.iconst 1, 0, 0, []), some (.invokevirtual 242, 157, 6, [757, 758, 62, 112]), none, none, some (.goto 194, 431, 0, []), none, none, some (.iload_n 1, 0, 0, []), some (.bipush 40, 0, 0, []), none, some (.if_icmp .ne 12, 255, 0, []), none, none, some (.aload_n 0, 0, 0, []), some (.iconst 4, 0, 0, []), some (.iconst 1, 0, 0, []), some (.invokevirtual 242, 157, 6, [757, 758, 62, 112]), none, none, some (.goto 179, 431, 0, []), none, none, some (.iload_n 1, 0, 0, []), some (.bipush 41, 0, 0, []), none, some (.if_icmp .ne 12, 270, 0, []), none, none, some (.aload_n 0, 0, 0, []), some (.iconst 5, 0, 0, []), some (.iconst 1, 0, 0, []), some (.invokevirtual 242, 157, 6, [757, 758, 62, 112]), none, none, some (.goto 164, 431, 0, []), none, none, some (.iload_n 1, 0, 0, []), some (.bipush 46, 0, 0, []), none, some (.if_icmp .ne 13, 286, 0, []), none, none, some (.aload_n 0, 0, 0, []), some (.bipush 6, 0, 0, []), none, some (.iconst 1, 0, 0, []), some (.invokevirtual 242, 157, 6, [757, 758, 62, 112]), none, none, some (.goto 148, 431, 0, []), none, none, some (.iload_n 1, 0, 0, []), some (.bipush 58, 0, 0, []), none, some (.if_icmp .ne 13, 302, 0, []), none, none, some (.aload_n 0, 0, 0, []), some (.bipush 7, 0, 0, []), none, some (.iconst 1, 0, 0, []), some (.invokevirtual 242, 157, 6, [757, 758, 62, 112]), none, none, some (.goto 132, 431, 0, []), none, none, some (.iload_n 1, 0, 0, []), some (.bipush 92, 0, 0, []), none, some (.if_icmp .ne 13, 318, 0, []), none, none, some (.aload_n 0, 0, 0, []), some (.bipush 8, 0, 0, []), none, some (.iconst 1, 0, 0, []), some (.invokevirtual 242, 157, 6, [757, 758, 62, 112]), none, none, some (.goto 116, 431, 0, []), none, none, some (.iload_n 1, 0, 0, []), some (.bipush 33, 0, 0, []), none, some (.if_icmp .ne 13, 334, 0, []), none, none, some (.aload_n 0, 0, 0, []), some (.bipush 9, 0, 0, []), none, some (.iconst 1, 0, 0, []), some (.invokevirtual 242, 157, 6, [757, 758, 62, 112]), none, none, some (.goto 100, 431, 0, []), none, none, some (.iload_n 1, 0, 0, []), some (.bipush 63, 0, 0, []), none, some (.if_icmp .ne 13, 350, 0, []), none, none, some (.aload_n 0, 0, 0, []), some (.bipush 10, 0, 0, []), none, some (.iconst 1, 0, 0, []), some (.invokevirtual 242, 157, 6, [757, 758, 62, 112]), none, none, some (.goto 84, 431, 0, []), none, none, some (.iload_n 1, 0, 0, []), some (.bipush 64, 0, 0, []), none, some (.if_icmp .ne 13, 366, 0, []), none, none, some (.aload_n 0, 0, 0, []), some (.bipush 11, 0, 0, []), none, some (.iconst 1, 0, 0, []), some (.invokevirtual 242, 157, 6, [757, 758, 62, 112]), none, none, some (.goto 68, 431, 0, []), none, none, some (.iload_n 1, 0, 0, []), some (.bipush 126, 0, 0, []), none, some (.if_icmp .ne 13, 382, 0, []), none, none, some (.aload_n 0, 0, 0, []), some (.bipush 12, 0, 0, []), none, some (.iconst 1, 0, 0, []), some (.invokevirtual 242, 157, 6, [757, 758, 62, 112]), none, none, some (.goto 52, 431, 0, []), none, none, some (.iload_n 1, 0, 0, []), some (.bipush 91, 0, 0, []), none, some (.if_icmp .eq 27, 412, 0, []), none, none, some (.iload_n 1, 0, 0, []), some (.bipush 93, 0, 0, []), none, some (.if_icmp .eq 21, 412, 0, []), none, none, some (.iload_n 1, 0, 0, []), some (.bipush 44, 0, 0, []), none, some (.if_icmp .eq 15, 412, 0, []), none, none, some (.iload_n 1, 0, 0, []), some (.bipush 59, 0, 0, []), none, some (.if_icmp .eq 9, 412, 0, []), none, none, some (.iload_n 1, 0, 0, []), some (.bipush 124, 0, 0, []), none, some (.if_icmp .ne 13, 422, 0, []), none, none, some (.aload_n 0, 0, 0, []), some (.bipush 14, 0, 0, []), none, some (.iconst 1, 0, 0, []), some (.invokevirtual 242, 157, 6, [757, 758, 62, 112]), none, none, some (.goto 12, 431, 0, []), none, none, some (.aload_n 0, 0, 0, []), some (.iconst 1, 0, 0, []), some (.aload_n 0, 0, 0, []), some (.getfield 233, 1125, 0, [675]), none, none, some (.invokevirtual 260, 152, 6, [747, 748, 59, 112]), none, none, some (.return_, 0, 0, [])]
def aM163 : List (Option aI) := [some (.aload_n 0, 0, 0, []), some (.dup, 0, 0, []), some (.getfield 298, 1131, 0, [681]), none, none, some (.iconst 1, 0, 0, []), some (.iadd, 0, 0, []), some (.putfield 298, 1131, 0, [681]), none, none, some (.aload_n 0, 0, 0, []), some (.invokevirtual 328, 164, 2, [771, 772, 66, 112]), none, none, some (.aload_n 0, 0, 0, []), some (.getfield 384, 1151, 0, [701]), none, none, some (.istore_n 2, 0, 0, []), some (.iconst 1, 0, 0, []), some (.istore_n 3, 0, 0, []), some (.iload_n 3, 0, 0, []), some (.ifCond .eq 42, 64, 0, []), none, none, some (.aload_n 0, 0, 0, []), some (.getfield 221, 1122, 0, [672]), none, none, some (.ifCond .ne 35, 64, 0, []), none, none, some (.aload_n 0, 0, 0, []), some (.invokevirtual 387, 165, 2, [773, 774, 67, 112]), none, none, some (.aload_n 0, 0, 0, []), some (.iconst 0, 0, 0, []), some (.invokevirtual 304, 148, 4, [739, 740, 55, 112]), none, none, some (.istore 4, 0, 0, []), none, some (.iload 4, 0, 0, []), none, some (.iconst 1, 0, 0, []), some (.if_icmp .eq 9, 55, 0, []), none, none, some (.iload 4, 0, 0, []), none, some (.iconst 4, 0, 0, []), some (.if_icmp .ne 7, 59, 0, []), none, none, some (.iconst 1, 0, 0, []), some (.goto 4, 60, 0, []), none, none, some (.iconst 0, 0, 0, []), some (.istore_n 3, 0, 0, []), some (.goto (-40), 21, 0, []), none, none, some (.aload_n 0, 0, 0, []), some (.bipush 6, 0, 0, []), none, some (.invokevirtual 334, 166, 4, [775, 776, 68, 112]), none, none, some (.aload_n 0, 0, 0, []), some (.getfield 384, 1151, 0, [701]), none, none, some (.istore 4, 0, 0, []), none, some (.aload_n 0, 0, 0, []), some (.getfield 221, 1122, 0, [672]), none, none, some (.ifCond .le 7, 87, 0, []), none, none, some (.iconst 0, 0, 0, []), some (.goto 7, 91, 0, []), none, none, some (.aload_n 0, 0, 0, []), some (.invokevirtual 381, 146, 2, [735, 736, 53, 112]), none, none, some (.istore 5, 0, 0, []), none, some (.aload_n 0, 0, 0, []), some (.dup, 0, 0, []), some (.getfield 307, 1132, 0, [682]), none, none, some (.iconst 1, 0, 0, []), some (.isub, 0, 0, []), some (.putfield 307, 1132, 0, [682]), none, none, some (.aload_n 0, 0, 0, []), some (.getfield 384, 1151, 0, [701]), none, none, some (.iload_n 2, 0, 0, []), some (.if_icmp .le 114, 222, 0, []), none, none, some (.aload_n 0, 0, 0, []), some (.dup, 0, 0, []), some (.getfield 384, 1151, 0, [701]), none, none, some (.iconst 1, 0, 0, []), some (.isub, 0, 0, []), some (.putfield 384, 1151, 0, [701]), none, none, some (.aload_n 0, 0, 0, []), some (.getfield 221, 1122, 0, [672]), none, none, some (.ifCond .le 6, 131, 0, []), none, none, some (.goto (-25), 103, 0, []), none, none, some (.aload_n 0, 0, 0, []), some (.iconst 4, 0, 0, []), some (.aload_n 0, 0, 0, []), some (.getfield 116, 1152, 12, [702]), none, none, some (.aload_n 0, 0, 0, []), some (.getfield 384, 1151, 0, [701]), none, none, some (.iaload, 0, 0, []), some (.iload 5, 0, 0, []), none, some (.aload_n 0, 0, 0, []), some (.getfield 119, 1153, 12, [703]), none, none, some (.aload_n 0, 0, 0, []), some (.getfield 384, 1151, 0, [701]), none, none, some (.iaload, 0, 0, []), some (.iconst 1, 0, 0, []), some (.aload_n 0, 0, 0, []), some (.getfield 104, 1146, 12, [696]), none, none, some (.iload 5, 0, 0, []), none, some (.iaload, 0, 0, []), some (.iadd, 0, 0, []), some (.iconst 1, 0, 0, []), some (.aload_n 0, 0, 0, []), some (.getfield 107, 1147, 12, [697]), none, none, some (.iload 5, 0, 0, []), none, some (.iaload, 0, 0, []), some (.iadd, 0, 0, []), some (.invokevirtual 340, 172, 14, [788, 789, 74, 112]), none, none, some (.istore 5, 0, 0, []), none, some (.iload_n 1, 0, 0, []), some (.bipush 8, 0, 0, []), none, some (.if_icmp .eq (-76), 103, 0, []), none, none, some (.aload_n 0, 0, 0, []), some (.aload_n 0, 0, 0, []), some (.iload_n 1, 0, 0, []), some (.bipush 9, 0, 0, []), none, some (.if_icmp .ne 8, 195, 0, []), none, none, some (.bipush 7, 0, 0, []), none, some (.goto 16, 208, 0, []), none, none, some (.iload_n 1, 0, 0, []), some (.bipush 10, 0, 0, []), none, some (.if_icmp .ne 8, 206, 0, []), none, none, some (.bipush 8, 0, 0, []), none, some (.goto 5, 208, 0, []), none, none, some (.bipush 9, 0, 0, []), none, some (.iconst 0, 0, 0, []), some (.invokevirtual 368, 173, 6, [790, 791, 75, 112]), none, none, some (.iload 5, 0, 0, []), none, some (.invokevirtual 350, 174, 6, [792, 793, 76, 112]), none, none, some (.istore 5, 0, 0, []), none, some (.goto (-116), 103, 0, []), none, none, some (.iload 4, 0, 0, []), none, some (.iload_n 2, 0, 0, []), some (.if_icmp .le 8, 233, 0, []), none, none, some (.iload 5, 0, 0, []), none, some (.goto 4, 234, 0, []), none, none, some (.iconst 0, 0, 0, []), some (.ireturn, 0, 0, [])]
def aM164 : List (Option aI) := [some (.aload_n 0, 0, 0, []), some (.dup, 0, 0, []), some (.getfield 307, 1132, 0, [682]), none, none, some (.iconst 1, 0, 0, []), some (.iadd, 0, 0, []), some (.putfield 307, 1132, 0, [682]), none, none, some (.aload_n 0, 0, 0, []), some (.iconst 0, 0, 0, []), some (.invokevirtual 304, 148, 4, [739, 740, 55, 112]), none, none, some (.pop, 0, 0, []), some (.aload_n 0, 0, 0, []), some (.getfield 307, 1132, 0, [682]), none, none, some (.bipush 40, 0, 0, []), none, some (.if_icmp .le 18, 40, 0, []), none, none, some (.aload_n 0, 0, 0, []), some (.bipush 8, 0, 0, []), none, some (.aload_n 0, 0, 0, []), some (.getfield 62, 1128, 12, [678]), none, none, some (.aload_n 0, 0, 0, []), some (.getfield 298, 1131, 0, [681]), none, none, some (.iaload, 0, 0, []), some (.invokevirtual 260, 152, 6, [747, 748, 59, 112]), none, none, some (.return_, 0, 0, [])]
def aM165 : List (Option aI) := [some (.aload_n 0, 0, 0, []), some (.iconst 0, 0, 0, []), some (.invokevirtual 304, 148, 4, [739, 740, 55, 112]), none, none, some (.iconst 4, 0, 0, []), some (.if_icmp .ne 7, 13, 0, []), none, none, some (.iconst 1, 0, 0, []), some (.goto 4, 14, 0, []), none, none, some (.iconst 0, 0, 0, []), some (.istore_n 1, 0, 0, []), some (.aload_n 0, 0, 0, []), some (.getfield 221, 1122, 0, [672]), none, none, some (.ifCond .le 4, 23, 0, []), none, none, some (.return_, 0, 0, []), some (.iload_n 1, 0, 0, []), some (.ifCond .eq 13, 37, 0, []), none, none, some (.aload_n 0, 0, 0, []), some (.dup, 0, 0, []), some (.getfield 298, 1131, 0, [681]), none, none, some (.iconst 1, 0, 0, []), some (.iadd, 0, 0, []), some (.putfield 298, 1131, 0, [681]), none, none, some (.aload_n 0, 0, 0, []), some (.getfield 116, 1152, 12, [702]), none, none, some (.aload_n 0, 0, 0, []), some (.getfield 384, 1151, 0, [701]), none, none, some (.aload_n 0, 0, 0, []), some (.getfield 298, 1131, 0, [681]), none, none, some (.iastore, 0, 0, []), some (.aload_n 0, 0, 0, []), some (.iconst 1, 0, 0, []), some (.invokevirtual 334, 166, 4, [775, 776, 68, 112]), none, none, some (.aload_n 0, 0, 0, []), some (.getfield 119, 1153, 12, [703]), none, none, some (.aload_n 0, 0, 0, []), some (.getfield 384, 1151, 0, [701]), none, none, some (.iconst (-1), 0, 0, []), some (.iastore, 0, 0, []), some (.aload_n 0, 0, 0, []), some (.dup, 0, 0, []), some (.getfield 384, 1151, 0, [701]), none, none, some (.iconst 1, 0, 0, []), some (.iadd, 0, 0, []), some (.putfield 384, 1151, 0, [701]), none, none, some (.iload_n 1, 0, 0, []), some (.ifCond .eq 10, 86, 0, []), none, none, some (.aload_n 0, 0, 0, []), some (.getfield 221, 1122, 0, [672]), none, none, some (.ifCond .le 4, 87, 0, []), none, none, some (.return_, 0, 0, []), some (.aload_n 0, 0, 0, []), some (.bipush 7, 0, 0, []), none, some (.invokevirtual 334, 166, 4, [775, 776, 68, 112]), none, none, some (.aload_n 0, 0, 0, []), some (.getfield 119, 1153, 12, [703]), none, none, some (.aload_n 0, 0, 0, []), some (.getfield 384, 1151, 0, [701]), none, none, some (.iconst 1, 0, 0, []), some (.isub, 0, 0, []), some (.aload_n 0, 0, 0, []), some (.getfield 221, 1122, 0, [672]), none, none, some (.ifCond .le 7, 114, 0, []), none, none, some (.iconst (-1), 0, 0, []), some (.goto 7, 118, 0, []), none, none, some (.aload_n 0, 0, 0, []), some (.invokevirtual 331, 167, 2, [777, 778, 69, 112]), none, none, some (.iastore, 0, 0, []), some (.aload_n 0, 0, 0, []), some (.iconst 5, 0, 0, []), some (.invokevirtual 334, 166, 4, [775, 776, 68, 112]), none, none, some (.return_, 0, 0, [])]
def aM166 : List (Option aI) := [some (.aload_n 0, 0, 0, []), some (.iconst 0, 0, 0, []), some (.invokevirtual 304, 148, 4, [739, 740, 55, 112]), none, none, some (.iload_n 1, 0, 0, []), some (.if_icmp .ne 23, 29, 0, []), none, none, some (.aload_n 0, 0, 0, []), some (.getfield 221, 1122, 0, [672]), none, none, some (.ifCond .ne 16, 29, 0, []), none, none, some (.aload_n 0, 0, 0, []), some (.dup, 0, 0, []), some (.getfield 298, 1131, 0, [681]), none, none, some (.iconst 1, 0, 0, []), some (.iadd, 0, 0, []), some (.putfield 298, 1131, 0, [681]), none, none, some (.goto 17, 43, 0, []), none, none, some (.aload_n 0, 0, 0, []), some (.iconst 2, 0, 0, []), some (.aload_n 0, 0, 0, []), some (.getfield 62, 1128, 12, [678]), none, none, some (.aload_n 0, 0, 0, []), some (.getfield 298, 1131, 0, [681]), none, none, some (.iaload, 0, 0, []), some (.invokevirtual 260, 152, 6, [747, 748, 59, 112]), none, none, some (.return_, 0, 0, [])]
def aM167 : List (Option aI) := [some (.aload_n 0, 0, 0, []), some (.invokevirtual 320, 168, 2, [779, 780, 70, 112]), none, none, some (.istore_n 1, 0, 0, []), some (.iload_n 1, 0, 0, []), some (.istore_n 2, 0, 0, []), some (.iconst 1, 0, 0, []), some (.istore_n 3, 0, 0, []), some (.aload_n 0, 0, 0, []), some (.iconst 0, 0, 0, []), some (.invokevirtual 304, 148, 4, [739, 740, 55, 112]), none, none, some (.bipush 13, 0, 0, []), none, some (.if_icmp .ne 52, 68, 0, []), none, none, some (.aload_n 0, 0, 0, []), some (.getfield 221, 1122, 0, [672]), none, none, some (.ifCond .ne 45, 68, 0, []), none, none, some (.aload_n 0, 0, 0, []), some (.dup, 0, 0, []), some (.getfield 298, 1131, 0, [681]), none, none, some (.iconst 1, 0, 0, []), some (.iadd, 0, 0, []), some (.putfield 298, 1131, 0, [681]), none, none, some (.aload_n 0, 0, 0, []), some (.invokevirtual 320, 168, 2, [779, 780, 70, 112]), none, none, some (.istore 4, 0, 0, []), none, some (.aload_n 0, 0, 0, []), some (.getfield 221, 1122, 0, [672]), none, none, some (.ifCond .le 5, 51, 0, []), none, none, some (.iconst 0, 0, 0, []), some (.ireturn, 0, 0, []), some (.aload_n 0, 0, 0, []), some (.getfield 80, 1137, 12, [687]), none, none, some (.iload 4, 0, 0, []), none, some (.iload_n 2, 0, 0, []), some (.iastore, 0, 0, []), some (.iload 4, 0, 0, []), none, some (.istore_n 2, 0, 0, []), some (.iinc 3 1, 0, 0, []), none, none, some (.goto (-56), 9, 0, []), none, none, some (.iload_n 2, 0, 0, []), some (.istore 4, 0, 0, []), none, some (.aload_n 0, 0, 0, []), some (.getfield 80, 1137, 12, [687]), none, none, some (.iload_n 2, 0, 0, []), some (.iaload, 0, 0, []), some (.istore 5, 0, 0, []), none, some (.iconst 1, 0, 0, []), some (.istore 6, 0, 0, []), none, some (.iload 6, 0, 0, []), none, some (.iload_n 3, 0, 0, []), some (.if_icmp .ge 65, 150, 0, []), none, none, some (.aload_n 0, 0, 0, []), some (.getfield 221, 1122, 0, [672]), none, none, some (.ifCond .ne 58, 150, 0, []), none, none, some (.iload 5, 0, 0, []), none, some (.istore 7, 0, 0, []), none, some (.aload_n 0, 0, 0, []), some (.getfield 80, 1137, 12, [687]), none, none, some (.iload 7, 0, 0, []), none, some (.iaload, 0, 0, []), some (.istore 5, 0, 0, []), none, some (.aload_n 0, 0, 0, []), some (.iconst 2, 0, 0, []), some (.iconst (-1), 0, 0, []), some (.invokevirtual 323, 170, 6, [783, 784, 72, 112]), none, none, some (.istore 8, 0, 0, []), none, some (.aload_n 0, 0, 0, []), some (.getfield 80, 1137, 12, [687]), none, none, some (.iload 4, 0, 0, []), none, some (.iconst (-1), 0, 0, []), some (.iastore, 0, 0, []), some (.aload_n 0, 0, 0, []), some (.iload 8, 0, 0, []), none, some (.iload 4, 0, 0, []), none, some (.invokevirtual 325, 171, 6, [785, 786, 73, 112]), none, none, some (.aload_n 0, 0, 0, []), some (.iload 8, 0, 0, []), none, some (.iload 7, 0, 0, []), none, some (.invokevirtual 325, 171, 6, [785, 786, 73, 112]), none, none, some (.iload 8, 0, 0, []), none, some (.istore 4, 0, 0, []), none, some (.iinc 6 1, 0, 0, []), none, none, some (.goto (-65), 82, 0, []), none, none, some (.iload 4, 0, 0, []), none, some (.ireturn, 0, 0, [])]
def aM168 : List (Option aI) := [some (.aload_n 0, 0, 0, []), some (.iconst 0, 0, 0, []), some (.invokevirtual 304, 148, 4, [739, 740, 55, 112]), none, none, some (.istore_n 1, 0, 0, []), some (.aload_n 0, 0, 0, []), some (.getfield 221, 1122, 0, [672]), none, none, some (.ifCond .le 5, 15, 0, []), none, none, some (.iconst 0, 0, 0, []), some (.ireturn, 0, 0, []), some (.iload_n 1, 0, 0, []), some (.iconst 4, 0, 0, []), some (.if_icmp .ne 8, 25, 0, []), none, none, some (.aload_n 0, 0, 0, []), some (.invokevirtual 337, 169, 2, [781, 782, 71, 112]), none, none, some (.ireturn, 0, 0, []), some (.iload_n 1, 0, 0, []), some (.iconst 2, 0, 0, []), some (.if_icmp .ne 30, 57, 0, []), none, none, some (.aload_n 0, 0, 0, []), some (.dup, 0, 0, []), some (.getfield 298, 1131, 0, [681]), none, none, some (.iconst 1, 0, 0, []), some (.iadd, 0, 0, []), some (.putfield 298, 1131, 0, [681]), none, none, some (.aload_n 0, 0, 0, []), some (.iconst 0, 0, 0, []), some (.aload_n 0, 0, 0, []), some (.getfield 65, 1129, 12, [679]), none, none, some (.aload_n 0, 0, 0, []), some (.getfield 298, 1131, 0, [681]), none, none, some (.iconst 1, 0, 0, []), some (.isub, 0, 0, []), some (.iaload, 0, 0, []), some (.invokevirtual 323, 170, 6, [783, 784, 72, 112]), none, none, some (.ireturn, 0, 0, []), some (.iload_n 1, 0, 0, []), some (.iconst 1, 0, 0, []), some (.if_icmp .eq 19, 78, 0, []), none, none, some (.aload_n 0, 0, 0, []), some (.iconst 2, 0, 0, []), some (.aload_n 0, 0, 0, []), some (.getfield 62, 1128, 12, [678]), none, none, some (.aload_n 0, 0, 0, []), some (.getfield 298, 1131, 0, [681]), none, none, some (.iaload, 0, 0, []), some (.invokevirtual 260, 152, 6, [747, 748, 59, 112]), none, none, some (.iconst 0, 0, 0, []), some (.ireturn, 0, 0, []), some (.aload_n 0, 0, 0, []), some (.iconst 1, 0, 0, []), some (.aload_n 0, 0, 0, []), some (.getfield 298, 1131, 0, [681]), none, none, some (.invokevirtual 323, 170, 6, [783, 784, 72, 112]), none, none, some (.istore_n 2, 0, 0, []), some (.aload_n 0, 0, 0, []), some (.dup, 0, 0, []), some (.getfield 298, 1131, 0, [681]), none, none, some (.iconst 1, 0, 0, []), some (.iadd, 0, 0, []), some (.putfield 298, 1131, 0, [681]), none, none, some (.iconst (-1), 0, 0, []), some (.istore_n 3, 0, 0, []), some (.iconst 1, 0, 0, []), some (.istore 4, 0, 0, []), none, some (.iload 4, 0, 0, []), none, some (.ifCond .eq 152, 257, 0, []), none, none, some (.aload_n 0, 0, 0, []), some (.getfield 221, 1122, 0, [672]), none, none, some (.ifCond .ne 145, 257, 0, []), none, none, some (.aload_n 0, 0, 0, []), some (.iconst 0, 0, 0, []), some (.invokevirtual 304, 148, 4, [739, 740, 55, 112]), none, none, some (.istore 5, 0, 0, []), none, some (.iload 5, 0, 0, []), none, some (.iconst 1, 0, 0, []), some (.if_icmp .eq 15, 140, 0, []), none, none, some (.iload 5, 0, 0, []), none, some (.iconst 2, 0, 0, []), some (.if_icmp .eq 9, 140, 0, []), none, none, some (.iload 5, 0, 0, []), none, some (.iconst 4, 0, 0, []), some (.if_icmp .ne 14, 151, 0, []), none, none, some (.aload_n 0, 0, 0, []), some (.getfield 221, 1122, 0, [672]), none, none, some (.ifCond .ne 7, 151, 0, []), none, none, some (.iconst 1, 0, 0, []), some (.goto 4, 152, 0, []), none, none, some (.iconst 0, 0, 0, []), some (.istore 4, 0, 0, []), none, some (.iload 4, 0, 0, []), none, some (.ifCond .ne 6, 162, 0, []), none, none, some (.goto (-56), 103, 0, []), none, none, some (.iload 5, 0, 0, []), none, some (.iconst 4, 0, 0, []), some (.if_icmp .ne 10, 175, 0, []), none, none, some (.aload_n 0, 0, 0, []), some (.invokevirtual 337, 169, 2, [781, 782, 71, 112]), none, none, some (.goto 40, 212, 0, []), none, none, some (.aload_n 0, 0, 0, []), some (.iload 5, 0, 0, []), none, some (.iconst 1, 0, 0, []), some (.if_icmp .ne 7, 186, 0, []), none, none, some (.iconst 1, 0, 0, []), some (.goto 4, 187, 0, []), none, none, some (.iconst 0, 0, 0, []), some (.iload 5, 0, 0, []), none, some (.iconst 1, 0, 0, []), some (.if_icmp .ne 10, 200, 0, []), none, none, some (.aload_n 0, 0, 0, []), some (.getfield 298, 1131, 0, [681]), none, none, some (.goto 12, 209, 0, []), none, none, some (.aload_n 0, 0, 0, []), some (.getfield 65, 1129, 12, [679]), none, none, some (.aload_n 0, 0, 0, []), some (.getfield 298, 1131, 0, [681]), none, none, some (.iaload, 0, 0, []), some (.invokevirtual 323, 170, 6, [783, 784, 72, 112]), none, none, some (.istore 6, 0, 0, []), none, some (.aload_n 0, 0, 0, []), some (.dup, 0, 0, []), some (.getfield 298, 1131, 0, [681]), none, none, some (.iload 5, 0, 0, []), none, some (.iconst 4, 0, 0, []), some (.if_icmp .ne 7, 229, 0, []), none, none, some (.iconst 0, 0, 0, []), some (.goto 4, 230, 0, []), none, none, some (.iconst 1, 0, 0, []), some (.iadd, 0, 0, []), some (.putfield 298, 1131, 0, [681]), none, none, some (.aload_n 0, 0, 0, []), some (.getfield 221, 1122, 0, [672]), none, none, some (.ifCond .le 5, 243, 0, []), none, none, some (.iconst 0, 0, 0, []), some (.ireturn, 0, 0, []), some (.aload_n 0, 0, 0, []), some (.getfield 80, 1137, 12, [687]), none, none, some (.iload 6, 0, 0, []), none, some (.iload_n 3, 0, 0, []), some (.iastore, 0, 0, []), some (.iload 6, 0, 0, []), none, some (.istore_n 3, 0, 0, []), some (.goto (-151), 103, 0, []), none, none, some (.iload_n 3, 0, 0, []), some (.iconst (-1), 0, 0, []), some (.if_icmp .eq 23, 282, 0, []), none, none, some (.aload_n 0, 0, 0, []), some (.getfield 80, 1137, 12, [687]), none, none, some (.iload_n 3, 0, 0, []), some (.iaload, 0, 0, []), some (.istore 5, 0, 0, []), none, some (.aload_n 0, 0, 0, []), some (.iload_n 2, 0, 0, []), some (.iload_n 3, 0, 0, []), some (.invokevirtual 325, 171, 6, [785, 786, 73, 112]), none, none, some (.iload 5, 0, 0, []), none, some (.istore_n 3, 0, 0, []), some (.goto (-22), 257, 0, []), none, none, some (.iload_n 2, 0, 0, []), some (.ireturn, 0, 0, [])]
def aM169 : List (Option aI) := [some (.aload_n 0, 0, 0, []), some (.dup, 0, 0, []), some (.getfield 298, 1131, 0, [681]), none, none, some (.iconst 1, 0, 0, []), some (.iadd, 0, 0, []), some (.putfield 298, 1131, 0, [681]), none, none, some (.aload_n 0, 0, 0, []), some (.invokevirtual 328, 164, 2, [771, 772, 66, 112]), none, none, some (.aload_n 0, 0, 0, []), some (.getfield 221, 1122, 0, [672]), none, none, some (.ifCond .le 7, 25, 0, []), none, none, some (.iconst 0, 0, 0, []), some (.goto 7, 29, 0, []), none, none, some (.aload_n 0, 0, 0, []), some (.invokevirtual 331, 167, 2, [777, 778, 69, 112]), none, none, some (.istore_n 1, 0, 0, []), some (.aload_n 0, 0, 0, []), some (.iconst 5, 0, 0, []), some (.invokevirtual 334, 166, 4, [775, 776, 68, 112]), none, none, some (.aload_n 0, 0, 0, []), some (.dup, 0, 0, []), some (.getfield 307, 1132, 0, [682]), none, none, some (.iconst 1, 0, 0, []), some (.isub, 0, 0, []), some (.putfield 307, 1132, 0, [682]), none, none, some (.iload_n 1, 0, 0, []), some (.ireturn, 0, 0, [])]
def aM170 : List (Option aI) := [some (.aload_n 0, 0, 0, []), some (.getfield 71, 1134, 12, [684]), none, none, some (.aload_n 0, 0, 0, []), some (.getfield 313, 1133, 0, [683]), none, none, some (.iload_n 1, 0, 0, []), some (.iastore, 0, 0, []), some (.aload_n 0, 0, 0, []), some (.getfield 74, 1135, 12, [685]), none, none, some (.aload_n 0, 0, 0, []), some (.getfield 313, 1133, 0, [683]), none, none, some (.iload_n 2, 0, 0, []), some (.iastore, 0, 0, []), some (.aload_n 0, 0, 0, []), some (.getfield 77, 1136, 12, [686]), none, none, some (.aload_n 0, 0, 0, []), some (.getfield 313, 1133, 0, [683]), none, none, some (.iconst (-1), 0, 0, []), some (.iastore, 0, 0, []), some (.aload_n 0, 0, 0, []), some (.getfield 80, 1137, 12, [687]), none, none, some (.aload_n 0, 0, 0, []), some (.getfield 313, 1133, 0, [683]), none, none, some (.iconst (-1), 0, 0, []), some (.iastore, 0, 0, []), some (.aload_n 0, 0, 0, []), some (.getfield 83, 1138, 12, [688]), none, none, some (.aload_n 0, 0, 0, []), some (.getfield 313, 1133, 0, [683]), none, none, some (.iconst 0, 0, 0, []), some (.iastore, 0, 0, []), some (.aload_n 0, 0, 0, []), some (.getfield 86, 1139, 12, [689]), none, none, some (.aload_n 0, 0, 0, []), some (.getfield 313, 1133, 0, [683]), none, none, some (.iconst 1, 0, 0, []), some (.iastore, 0, 0, []), some (.aload_n 0, 0, 0, []), some (.getfield 89, 1140, 12, [690]), none, none, some (.aload_n 0, 0, 0, []), some (.getfield 313, 1133, 0, [683]), none, none, some (.iconst 1, 0, 0, []), some (.iastore, 0, 0, []), some (.aload_n 0, 0, 0, []), some (.dup, 0, 0, []), some (.getfield 313, 1133, 0, [683]), none, none, some (.iconst 1, 0, 0, []), some (.iadd, 0, 0, []), some (.putfield 313, 1133, 0, [683]), none, none, some (.aload_n 0, 0, 0, []), some (.getfield 313, 1133, 0, [683]), none, none, some (.iconst 1, 0, 0, []), some (.isub, 0, 0, []), some (.ireturn, 0, 0, [])]
def aM171 : List (Option aI) := [some (.aload_n 0, 0, 0, []), some (.getfield 80, 1137, 12, [687]), none, none, some (.iload_n 2, 0, 0, []), some (.aload_n 0, 0, 0, []), some (.getfield 77, 1136, 12, [686]), none, none, some (.iload_n 1, 0, 0, []), some (.iaload, 0, 0, []), some (.iastore, 0, 0, []), some (.aload_n 0, 0, 0, []), some (.getfield 77, 1136, 12, [686]), none, none, some (.iload_n 1, 0, 0, []), some (.iload_n 2, 0, 0, []), some (.iastore, 0, 0, []), some (.aload_n 0, 0, 0, []), some (.getfield 83, 1138, 12, [688]), none, none, some (.iload_n 1, 0, 0, []), some (.dup2, 0, 0, []), some (.iaload, 0, 0, []), some (.iconst 1, 0, 0, []), some (.iadd, 0, 0, []), some (.iastore, 0, 0, []), some (.aload_n 0, 0, 0, []), some (.getfield 86, 1139, 12, [689]), none, none, some (.iload_n 1, 0, 0, []), some (.iaload, 0, 0, []), some (.aload_n 0, 0, 0, []), some (.getfield 86, 1139, 12, [689]), none, none, some (.iload_n 2, 0, 0, []), some (.iaload, 0, 0, []), some (.iadd, 0, 0, []), some (.istore_n 3, 0, 0, []), some (.aload_n 0, 0, 0, []), some (.getfield 86, 1139, 12, [689]), none, none, some (.iload_n 1, 0, 0, []), some (.iload_n 3, 0, 0, []), some (.ldc_w 319, 100000, 0, [787]), none, none, some (.if_icmp .le 9, 61, 0, []), none, none, some (.ldc_w 319, 100000, 0, [787]), none, none, some (.goto 4, 62, 0, []), none, none, some (.iload_n 3, 0, 0, []), some (.iastore, 0, 0, []), some (.aload_n 0, 0, 0, []), some (.getfield 89, 1140, 12, [690]), none, none, some (.iload_n 1, 0, 0, []), some (.aload_n 0, 0, 0, []), some (.getfield 89, 1140, 12, [690]), none, none, some (.iload_n 2, 0, 0, []), some (.iaload, 0, 0, []), some (.aload_n 0, 0, 0, []), some (.getfield 89, 1140, 12, [690]), none, none, some (.iload_n 1, 0, 0, []), some (.iaload, 0, 0, []), some (.if_icmp .lt 14, 94, 0, []), none, none, some (.aload_n 0, 0, 0, []), some (.getfield 89, 1140, 12, [690]), none, none, some (.iload_n 2, 0, 0, []), some (.iaload, 0, 0, []), some (.iconst 1, 0, 0, []), some (.iadd, 0, 0, []), some (.goto 9, 100, 0, []), none, none, some (.aload_n 0, 0, 0, []), some (.getfield 89, 1140, 12, [690]), none, none, some (.iload_n 1, 0, 0, []), some (.iaload, 0, 0, []), some (.iastore, 0, 0, []), some (.return_, 0, 0, [])]
def aM172 : List (Option aI) := [some (.aload_n 0, 0, 0, []), some (.getfield 92, 1142, 12, [692]), none, none, some (.aload_n 0, 0, 0, []), some (.getfield 310, 1141, 0, [691]), none, none, some (.iload_n 1, 0, 0, []), some (.iastore, 0, 0, []), some (.aload_n 0, 0, 0, []), some (.getfield 95, 1143, 12, [693]), none, none, some (.aload_n 0, 0, 0, []), some (.getfield 310, 1141, 0, [691]), none, none, some (.iload_n 2, 0, 0, []), some (.iastore, 0, 0, []), some (.aload_n 0, 0, 0, []), some (.getfield 98, 1144, 12, [694]), none, none, some (.aload_n 0, 0, 0, []), some (.getfield 310, 1141, 0, [691]), none, none, some (.iload_n 3, 0, 0, []), some (.iastore, 0, 0, []), some (.aload_n 0, 0, 0, []), some (.getfield 101, 1145, 12, [695]), none, none, some (.aload_n 0, 0, 0, []), some (.getfield 310, 1141, 0, [691]), none, none, some (.iload 4, 0, 0, []), none, some (.iastore, 0, 0, []), some (.aload_n 0, 0, 0, []), some (.getfield 104, 1146, 12, [696]), none, none, some (.aload_n 0, 0, 0, []), some (.getfield 310, 1141, 0, [691]), none, none, some (.iload 5, 0, 0, []), none, some (.ldc_w 319, 100000, 0, [787]), none, none, some (.if_icmp .le 9, 63, 0, []), none, none, some (.ldc_w 319, 100000, 0, [787]), none, none, some (.goto 5, 65, 0, []), none, none, some (.iload 5, 0, 0, []), none, some (.iastore, 0, 0, []), some (.aload_n 0, 0, 0, []), some (.getfield 107, 1147, 12, [697]), none, none, some (.aload_n 0, 0, 0, []), some (.getfield 310, 1141, 0, [691]), none, none, some (.iload 6, 0, 0, []), none, some (.ldc_w 319, 100000, 0, [787]), none, none, some (.if_icmp .le 9, 88, 0, []), none, none, some (.ldc_w 319, 100000, 0, [787]), none, none, some (.goto 5, 90, 0, []), none, none, some (.iload 6, 0, 0, []), none, some (.iastore, 0, 0, []), some (.aload_n 0, 0, 0, []), some (.dup, 0, 0, []), some (.getfield 310, 1141, 0, [691]), none, none, some (.iconst 1, 0, 0, []), some (.iadd, 0, 0, []), some (.putfield 310, 1141, 0, [691]), none, none, some (.aload_n 0, 0, 0, []), some (.getfield 310, 1141, 0, [691]), none, none, some (.iconst 1, 0, 0, []), some (.isub, 0, 0, []), some (.ireturn, 0, 0, [])]
def aM173 : List (Option aI) := [some (.aload_n 0, 0, 0, []), some (.iconst 1, 0, 0, []), some (.iload_n 1, 0, 0, []), some (.iload_n 2, 0, 0, []), some (.ifCond .eq 7, 11, 0, []), none, none, some (.iconst 1, 0, 0, []), some (.goto 4, 12, 0, []), none, none, some (.iconst 0, 0, 0, []), some (.iconst (-1), 0, 0, []), some (.iconst 1, 0, 0, []), some (.iconst 1, 0, 0, []), some (.invokevirtual 340, 172, 14, [788, 789, 74, 112]), none, none, some (.ireturn, 0, 0, [])]
def aM174 : List (Option aI) := [some (.aload_n 0, 0, 0, []), some (.iconst 3, 0, 0, []), some (.iload_n 1, 0, 0, []), some (.iload_n 2, 0, 0, []), some (.iconst (-1), 0, 0, []), some (.iconst 1, 0, 0, []), some (.aload_n 0, 0, 0, []), some (.getfield 104, 1146, 12, [696]), none, none, some (.iload_n 1, 0, 0, []), some (.iaload, 0, 0, []), some (.iadd, 0, 0, []), some (.aload_n 0, 0, 0, []), some (.getfield 104, 1146, 12, [696]), none, none, some (.iload_n 2, 0, 0, []), some (.iaload, 0, 0, []), some (.iadd, 0, 0, []), some (.iconst 1, 0, 0, []), some (.aload_n 0, 0, 0, []), some (.getfield 107, 1147, 12, [697]), none, none, some (.iload_n 1, 0, 0, []), some (.iaload, 0, 0, []), some (.aload_n 0, 0, 0, []), some (.getfield 107, 1147, 12, [697]), none, none, some (.iload_n 2, 0, 0, []), some (.iaload, 0, 0, []), some (.invokestatic 344, 175, 4, [794, 795, 112]), none, none, some (.iadd, 0, 0, []), some (.invokevirtual 340, 172, 14, [788, 789, 74, 112]), none, none, some (.ireturn, 0, 0, [])]
def aM175 : List (Option aI) := [some (.iload_n 0, 0, 0, []), some (.iload_n 1, 0, 0, []), some (.if_icmp .le 7, 9, 0, []), none, none, some (.iload_n 0, 0, 0, []), some (.goto 4, 10, 0, []), none, none, some (.iload_n 1, 0, 0, []), some (.ireturn, 0, 0, [])]
def aM176 : List (Option aI) := [some (.aload_n 0, 0, 0, []), some (.invokevirtual 372, 177, 2, [798, 799, 78, 112]), none, none, some (.istore_n 1, 0, 0, []), some (.aload_n 0, 0, 0, []), some (.iconst 0, 0, 0, []), some (.invokevirtual 304, 148, 4, [739, 740, 55, 112]), none, none, some (.invokestatic 375, 178, 2, [800, 801, 112]), none, none, some (.ifCond .eq 36, 49, 0, []), none, none, some (.aload_n 0, 0, 0, []), some (.getfield 221, 1122, 0, [672]), none, none, some (.ifCond .ne 29, 49, 0, []), none, none, some (.aload_n 0, 0, 0, []), some (.invokevirtual 372, 177, 2, [798, 799, 78, 112]), none, none, some (.istore_n 2, 0, 0, []), some (.aload_n 0, 0, 0, []), some (.getfield 221, 1122, 0, [672]), none, none, some (.ifCond .le 7, 39, 0, []), none, none, some (.iconst 0, 0, 0, []), some (.goto 9, 45, 0, []), none, none, some (.aload_n 0, 0, 0, []), some (.iload_n 1, 0, 0, []), some (.iload_n 2, 0, 0, []), some (.invokevirtual 350, 174, 6, [792, 793, 76, 112]), none, none, some (.istore_n 1, 0, 0, []), some (.goto (-41), 5, 0, []), none, none, some (.iload_n 1, 0, 0, []), some (.ireturn, 0, 0, [])]
def aM177 : List (Option aI) := [some (.aload_n 0, 0, 0, []), some (.iconst 0, 0, 0, []), some (.invokevirtual 304, 148, 4, [739, 740, 55, 112]), none, none, some (.istore_n 1, 0, 0, []), some (.aload_n 0, 0, 0, []), some (.getfield 221, 1122, 0, [672]), none, none, some (.ifCond .ne 24, 34, 0, []), none, none, some (.iload_n 1, 0, 0, []), some (.invokestatic 375, 178, 2, [800, 801, 112]), none, none, some (.ifCond .ne 17, 34, 0, []), none, none, some (.aload_n 0, 0, 0, []), some (.iconst 2, 0, 0, []), some (.aload_n 0, 0, 0, []), some (.getfield 62, 1128, 12, [678]), none, none, some (.aload_n 0, 0, 0, []), some (.getfield 298, 1131, 0, [681]), none, none, some (.iaload, 0, 0, []), some (.invokevirtual 260, 152, 6, [747, 748, 59, 112]), none, none, some (.aload_n 0, 0, 0, []), some (.getfield 221, 1122, 0, [672]), none, none, some (.ifCond .le 5, 43, 0, []), none, none, some (.iconst 0, 0, 0, []), some (.ireturn, 0, 0, []), some (.iload_n 1, 0, 0, []), some (.iconst 4, 0, 0, []), some (.if_icmp .ne 8, 53, 0, []), none, none, some (.aload_n 0, 0, 0, []), some (.invokevirtual 378, 179, 2, [802, 803, 79, 112]), none, none, some (.ireturn, 0, 0, []), some (.aload_n 0, 0, 0, []), some (.dup, 0, 0, []), some (.getfield 298, 1131, 0, [681]), none, none, some (.iconst 1, 0, 0, []), some (.iadd, 0, 0, []), some (.putfield 298, 1131, 0, [681]), none, none, some (.iload_n 1, 0, 0, []), some (.iconst 1, 0, 0, []), some (.if_icmp .ne 19, 84, 0, []), none, none, some (.aload_n 0, 0, 0, []), some (.iconst 0, 0, 0, []), some (.aload_n 0, 0, 0, []), some (.getfield 298, 1131, 0, [681]), none, none, some (.iconst 1, 0, 0, []), some (.isub, 0, 0, []), some (.iconst (-1), 0, 0, []), some (.iconst (-1), 0, 0, []), some (.iconst 1, 0, 0, []), some (.iconst 1, 0, 0, []), some (.invokevirtual 340, 172, 14, [788, 789, 74, 112]), none, none, some (.ireturn, 0, 0, []), some (.aload_n 0, 0, 0, []), some (.getfield 65, 1129, 12, [679]), none, none, some (.aload_n 0, 0, 0, []), some (.getfield 298, 1131, 0, [681]), none, none, some (.iconst 1, 0, 0, []), some (.isub, 0, 0, []), some (.iaload, 0, 0, []), some (.istore_n 2, 0, 0, []), some (.aload_n 0, 0, 0, []), some (.iconst 2, 0, 0, []), some (.iload_n 2, 0, 0, []), some (.iconst (-1), 0, 0, []), some (.iconst (-1), 0, 0, []), some (.iconst 2, 0, 0, []), some (.iload_n 2, 0, 0, []), some (.imul, 0, 0, []), some (.iconst 1, 0, 0, []), some (.iadd, 0, 0, []), some (.iload_n 2, 0, 0, []), some (.iconst 1, 0, 0, []), some (.iadd, 0, 0, []), some (.invokevirtual 340, 172, 14, [788, 789, 74, 112]), none, none, some (.ireturn, 0, 0, [])]
def aM178 : List (Option aI) := [some (.iload_n 0, 0, 0, []), some (.iconst 1, 0, 0, []), some (.if_icmp .eq 13, 15, 0, []), none, none, some (.iload_n 0, 0, 0, []), some (.iconst 3, 0, 0, []), some (.if_icmp .eq 8, 15, 0, []), none, none, some (.iload_n 0, 0, 0, []), some (.iconst 4, 0, 0, []), some (.if_icmp .ne 7, 19, 0, []), none, none, some (.iconst 1, 0, 0, []), some (.goto 4, 20, 0, []), none, none, some (.iconst 0, 0, 0, []), some (.ireturn, 0, 0, [])]
def aM179 : List (Option aI) := [some (.aload_n 0, 0, 0, []), some (.iconst 1, 0, 0, []), some (.invokevirtual 304, 148, 4, [739, 740, 55, 112]), none, none, some (.istore_n 1, 0, 0, []), some (.aload_n 0, 0, 0, []), some (.getfield 221, 1122, 0, [672]), none, none, some (.ifCond .le 5, 15, 0, []), none, none, some (.iconst 0, 0, 0, []), some (.ireturn, 0, 0, []), some (.iload_n 1, 0, 0, []), some (.bipush 9, 0, 0, []), none, some (.if_icmp .lt 13, 31, 0, []), none, none, some (.iload_n 1, 0, 0, []), some (.bipush 12, 0, 0, []), none, some (.if_icmp .gt 7, 31, 0, []), none, none, some (.iconst 1, 0, 0, []), some (.goto 4, 32, 0, []), none, none, some (.iconst 0, 0, 0, []), some (.istore_n 2, 0, 0, []), some (.iload_n 1, 0, 0, []), some (.invokestatic 356, 180, 2, [804, 805, 112]), none, none, some (.ifCond .eq 29, 66, 0, []), none, none, some (.aload_n 0, 0, 0, []), some (.dup, 0, 0, []), some (.getfield 298, 1131, 0, [681]), none, none, some (.iconst 2, 0, 0, []), some (.iadd, 0, 0, []), some (.putfield 298, 1131, 0, [681]), none, none, some (.aload_n 0, 0, 0, []), some (.iconst 5, 0, 0, []), some (.invokevirtual 334, 166, 4, [775, 776, 68, 112]), none, none, some (.aload_n 0, 0, 0, []), some (.iconst 1, 0, 0, []), some (.iconst (-1), 0, 0, []), some (.iload_n 1, 0, 0, []), some (.iconst (-1), 0, 0, []), some (.iconst 1, 0, 0, []), some (.iconst 1, 0, 0, []), some (.invokevirtual 340, 172, 14, [788, 789, 74, 112]), none, none, some (.ireturn, 0, 0, []), some (.iload_n 2, 0, 0, []), some (.ifCond .eq 75, 142, 0, []), none, none, some (.aload_n 0, 0, 0, []), some (.aload_n 0, 0, 0, []), some (.aload_n 0, 0, 0, []), some (.getfield 233, 1125, 0, [675]), none, none, some (.invokevirtual 285, 150, 4, [743, 744, 57, 112]), none, none, some (.invokevirtual 226, 151, 4, [745, 746, 58, 112]), none, none, some (.bipush 41, 0, 0, []), none, some (.if_icmp .ne 58, 142, 0, []), none, none, some (.aload_n 0, 0, 0, []), some (.dup, 0, 0, []), some (.getfield 298, 1131, 0, [681]), none, none, some (.iconst 2, 0, 0, []), some (.iadd, 0, 0, []), some (.putfield 298, 1131, 0, [681]), none, none, some (.aload_n 0, 0, 0, []), some (.iconst 5, 0, 0, []), some (.invokevirtual 334, 166, 4, [775, 776, 68, 112]), none, none, some (.aload_n 0, 0, 0, []), some (.iload_n 1, 0, 0, []), some (.bipush 9, 0, 0, []), none, some (.if_icmp .ne 8, 114, 0, []), none, none, some (.bipush 7, 0, 0, []), none, some (.goto 26, 137, 0, []), none, none, some (.iload_n 1, 0, 0, []), some (.bipush 10, 0, 0, []), none, some (.if_icmp .ne 8, 125, 0, []), none, none, some (.bipush 8, 0, 0, []), none, some (.goto 15, 137, 0, []), none, none, some (.iload_n 1, 0, 0, []), some (.bipush 11, 0, 0, []), none, some (.if_icmp .ne 8, 136, 0, []), none, none, some (.bipush 9, 0, 0, []), none, some (.goto 4, 137, 0, []), none, none, some (.iconst 3, 0, 0, []), some (.iconst 0, 0, 0, []), some (.invokevirtual 368, 173, 6, [790, 791, 75, 112]), none, none, some (.ireturn, 0, 0, []), some (.aload_n 0, 0, 0, []), some (.dup, 0, 0, []), some (.getfield 298, 1131, 0, [681]), none, none, some (.iconst 1, 0, 0, []), some (.iadd, 0, 0, []), some (.putfield 298, 1131, 0, [681]), none, none, some (.aload_n 0, 0, 0, []), some (.invokevirtual 328, 164, 2, [771, 772, 66, 112]), none, none, some (.aload_n 0, 0, 0, []), some (.getfield 221, 1122, 0, [672]), none, none, some (.ifCond .le 7, 167, 0, []), none, none, some (.iconst 0, 0, 0, []), some (.goto 7, 171, 0, []), none, none, some (.aload_n 0, 0, 0, []), some (.invokevirtual 381, 146, 2, [735, 736, 53, 112]), none, none, some (.istore_n 3, 0, 0, []), some (.aload_n 0, 0, 0, []), some (.iconst 0, 0, 0, []), some (.invokevirtual 304, 148, 4, [739, 740, 55, 112]), none, none, some (.bipush 7, 0, 0, []), none, some (.if_icmp .ne 59, 238, 0, []), none, none, some (.aload_n 0, 0, 0, []), some (.getfield 221, 1122, 0, [672]), none, none, some (.ifCond .ne 52, 238, 0, []), none, none, some (.aload_n 0, 0, 0, []), some (.dup, 0, 0, []), some (.getfield 298, 1131, 0, [681]), none, none, some (.iconst 1, 0, 0, []), some (.iadd, 0, 0, []), some (.putfield 298, 1131, 0, [681]), none, none, some (.aload_n 0, 0, 0, []), some (.invokevirtual 331, 167, 2, [777, 778, 69, 112]), none, none, some (.istore 4, 0, 0, []), none, some (.aload_n 0, 0, 0, []), some (.getfield 221, 1122, 0, [672]), none, none, some (.ifCond .le 7, 216, 0, []), none, none, some (.iconst 0, 0, 0, []), some (.goto 24, 237, 0, []), none, none, some (.aload_n 0, 0, 0, []), some (.iconst 5, 0, 0, []), some (.iload_n 3, 0, 0, []), some (.iload 4, 0, 0, []), none, some (.iconst (-1), 0, 0, []), some (.aload_n 0, 0, 0, []), some (.getfield 104, 1146, 12, [696]), none, none, some (.iload_n 3, 0, 0, []), some (.iaload, 0, 0, []), some (.aload_n 0, 0, 0, []), some (.getfield 107, 1147, 12, [697]), none, none, some (.iload_n 3, 0, 0, []), some (.iaload, 0, 0, []), some (.invokevirtual 340, 172, 14, [788, 789, 74, 112]), none, none, some (.istore_n 3, 0, 0, []), some (.aload_n 0, 0, 0, []), some (.iconst 5, 0, 0, []), some (.invokevirtual 334, 166, 4, [775, 776, 68, 112]), none, none, some (.aload_n 0, 0, 0, []), some (.dup, 0, 0, []), some (.getfield 307, 1132, 0, [682]), none, none, some (.iconst 1, 0, 0, []), some (.isub, 0, 0, []), some (.putfield 307, 1132, 0, [682]), none, none, some (.iload_n 3, 0, 0, []), some (.ireturn, 0, 0, [])]
def aM180 : List (Option aI) := [some (.iload_n 0, 0, 0, []), some (.bipush 20, 0, 0, []), none, some (.if_icmp .lt 7, 10, 0, []), none, none, some (.iconst 1, 0, 0, []), some (.goto 4, 11, 0, []), none, none, some (.iconst 0, 0, 0, []), some (.ireturn, 0, 0, [])]
def aM181 : List (Option aI) := [some (.iload_n 2, 0, 0, []), some (.istore 4, 0, 0, []), none, some (.aload_n 0, 0, 0, []), some (.getfield 316, 1148, 0, [698]), none, none, some (.iload_n 1, 0, 0, []), some (.if_icmp .le 107, 115, 0, []), none, none, some (.aload_n 0, 0, 0, []), some (.getfield 110, 1149, 12, [699]), none, none, some (.aload_n 0, 0, 0, []), some (.getfield 316, 1148, 0, [698]), none, none, some (.iconst 1, 0, 0, []), some (.isub, 0, 0, []), some (.iaload, 0, 0, []), some (.invokestatic 347, 182, 2, [808, 809, 112]), none, none, some (.iload_n 3, 0, 0, []), some (.invokestatic 347, 182, 2, [808, 809, 112]), none, none, some (.if_icmp .gt 30, 59, 0, []), none, none, some (.aload_n 0, 0, 0, []), some (.getfield 110, 1149, 12, [699]), none, none, some (.aload_n 0, 0, 0, []), some (.getfield 316, 1148, 0, [698]), none, none, some (.iconst 1, 0, 0, []), some (.isub, 0, 0, []), some (.iaload, 0, 0, []), some (.invokestatic 347, 182, 2, [808, 809, 112]), none, none, some (.iload_n 3, 0, 0, []), some (.invokestatic 347, 182, 2, [808, 809, 112]), none, none, some (.if_icmp .ne 65, 115, 0, []), none, none, some (.iload_n 3, 0, 0, []), some (.bipush 26, 0, 0, []), none, some (.if_icmp .le 59, 115, 0, []), none, none, some (.aload_n 0, 0, 0, []), some (.dup, 0, 0, []), some (.getfield 316, 1148, 0, [698]), none, none, some (.iconst 1, 0, 0, []), some (.isub, 0, 0, []), some (.putfield 316, 1148, 0, [698]), none, none, some (.aload_n 0, 0, 0, []), some (.getfield 110, 1149, 12, [699]), none, none, some (.aload_n 0, 0, 0, []), some (.getfield 316, 1148, 0, [698]), none, none, some (.iaload, 0, 0, []), some (.istore 5, 0, 0, []), none, some (.aload_n 0, 0, 0, []), some (.aload_n 0, 0, 0, []), some (.aload_n 0, 0, 0, []), some (.iconst 1, 0, 0, []), some (.iconst (-1), 0, 0, []), some (.iload 5, 0, 0, []), none, some (.iconst (-1), 0, 0, []), some (.iconst 1, 0, 0, []), some (.iconst 1, 0, 0, []), some (.invokevirtual 340, 172, 14, [788, 789, 74, 112]), none, none, some (.aload_n 0, 0, 0, []), some (.getfield 113, 1150, 12, [700]), none, none, some (.aload_n 0, 0, 0, []), some (.getfield 316, 1148, 0, [698]), none, none, some (.iaload, 0, 0, []), some (.invokevirtual 350, 174, 6, [792, 793, 76, 112]), none, none, some (.iload 4, 0, 0, []), none, some (.invokevirtual 350, 174, 6, [792, 793, 76, 112]), none, none, some (.istore 4, 0, 0, []), none, some (.goto (-109), 3, 0, []), none, none, some (.iload 4, 0, 0, []), none, some (.ireturn, 0, 0, [])]
def aM182 : List (Option aI) := [some (.iload_n 0, 0, 0, []), some (.bipush 24, 0, 0, []), none, some (.if_icmp .ge 7, 10, 0, []), none, none, some (.iload_n 0, 0, 0, []), some (.goto 15, 22, 0, []), none, none, some (.iload_n 0, 0, 0, []), some (.bipush 27, 0, 0, []), none, some (.if_icmp .ge 8, 21, 0, []), none, none, some (.bipush 24, 0, 0, []), none, some (.goto 4, 22, 0, []), none, none, some (.iload_n 0, 0, 0, []), some (.ireturn, 0, 0, [])]
def aM183 : List (Option aI) := [some (.aload_n 0, 0, 0, []), some (.getfield 86, 1139, 12, [689]), none, none, some (.iload_n 1, 0, 0, []), some (.iaload, 0, 0, []), some (.bipush 40, 0, 0, []), none, some (.if_icmp .gt 14, 22, 0, []), none, none, some (.aload_n 0, 0, 0, []), some (.getfield 89, 1140, 12, [690]), none, none, some (.iload_n 1, 0, 0, []), some (.iaload, 0, 0, []), some (.bipush 12, 0, 0, []), none, some (.if_icmp .le 15, 34, 0, []), none, none, some (.aload_n 0, 0, 0, []), some (.bipush 8, 0, 0, []), none, some (.aload_n 0, 0, 0, []), some (.getfield 62, 1128, 12, [678]), none, none, some (.iconst 0, 0, 0, []), some (.iaload, 0, 0, []), some (.invokevirtual 260, 152, 6, [747, 748, 59, 112]), none, none, some (.return_, 0, 0, [])]
def aM184 : List (Option aI) := [some (.aload_n 0, 0, 0, []), some (.getfield 92, 1142, 12, [692]), none, none, some (.iload_n 1, 0, 0, []), some (.iaload, 0, 0, []), some (.tableswitch 160 0 4 #[34, 63, 78, 80, 112], 0, 0, []), none, none, none, none, none, none, none, none, none, none, none, none, none, none, none, none, none, none, none, none, none, none, none, none, none, none, none, none, none, none, none, none, none, some (.aload_n 0, 0, 0, []), some (.aload_n 0, 0, 0, []), some (.getfield 95, 1143, 12, [693]), none, none, some (.iload_n 1, 0, 0, []), some (.iaload, 0, 0, []), some (.invokevirtual 408, 185, 4, [814, 815, 83, 112]), none, none, some (.iconst (-1), 0, 0, []), some (.if_icmp .ne 12, 63, 0, []), none, none, some (.aload_n 0, 0, 0, []), some (.iload_n 1, 0, 0, []), some (.invokevirtual 411, 186, 4, [816, 817, 84, 112]), none, none, some (.iconst (-1), 0, 0, []), some (.if_icmp .eq 7, 67, 0, []), none, none, some (.iconst 1, 0, 0, []), some (.goto 4, 68, 0, []), none, none, some (.iconst 0, 0, 0, []), some (.ireturn, 0, 0, []), some (.aload_n 0, 0, 0, []), some (.iload_n 1, 0, 0, []), some (.invokevirtual 411, 186, 4, [816, 817, 84, 112]), none, none, some (.iconst (-1), 0, 0, []), some (.if_icmp .eq 7, 82, 0, []), none, none, some (.iconst 1, 0, 0, []), some (.goto 4, 83, 0, []), none, none, some (.iconst 0, 0, 0, []), some (.ireturn, 0, 0, []), some (.iconst 1, 0, 0, []), some (.ireturn, 0, 0, []), some (.aload_n 0, 0, 0, []), some (.aload_n 0, 0, 0, []), some (.getfield 95, 1143, 12, [693]), none, none, some (.iload_n 1, 0, 0, []), some (.iaload, 0, 0, []), some (.invokevirtual 414, 184, 4, [812, 813, 82, 112]), none, none, some (.ifCond .eq 20, 116, 0, []), none, none, some (.aload_n 0, 0, 0, []), some (.aload_n 0, 0, 0, []), some (.getfield 98, 1144, 12, [694]), none, none, some (.iload_n 1, 0, 0, []), some (.iaload, 0, 0, []), some (.invokevirtual 414, 184, 4, [812, 813, 82, 112]), none, none, some (.ifCond .eq 7, 116, 0, []), none, none, some (.iconst 1, 0, 0, []), some (.goto 4, 117, 0, []), none, none, some (.iconst 0, 0, 0, []), some (.ireturn, 0, 0, []), some (.aload_n 0, 0, 0, []), some (.getfield 134, 1160, 12, [710]), none, none, some (.aload_n 0, 0, 0, []), some (.getfield 405, 1159, 0, [709]), none, none, some (.aload_n 0, 0, 0, []), some (.getfield 95, 1143, 12, [693]), none, none, some (.iload_n 1, 0, 0, []), some (.iaload, 0, 0, []), some (.iastore, 0, 0, []), some (.aload_n 0, 0, 0, []), some (.dup, 0, 0, []), some (.getfield 405, 1159, 0, [709]), none, none, some (.iconst 1, 0, 0, []), some (.iadd, 0, 0, []), some (.putfield 405, 1159, 0, [709]), none, none, some (.aload_n 0, 0, 0, []), some (.aload_n 0, 0, 0, []), some (.getfield 98, 1144, 12, [694]), none, none, some (.iload_n 1, 0, 0, []), some (.iaload, 0, 0, []), some (.invokevirtual 414, 184, 4, [812, 813, 82, 112]), none, none, some (.istore_n 2, 0, 0, []), some (.aload_n 0, 0, 0, []), some (.dup, 0, 0, []), some (.getfield 405, 1159, 0, [709]), none, none, some (.iconst 1, 0, 0, []), some (.isub, 0, 0, []), some (.putfield 405, 1159, 0, [709]), none, none, some (.iload_n 2, 0, 0, []), some (.ireturn, 0, 0, []), some (.aload_n 0, 0, 0, []), some (.aload_n 0, 0, 0, []), some (.getfield 95, 1143, 12, [693]), none, none, some (.iload_n 1, 0, 0, []), some (.iaload, 0, 0, []), some (.invokevirtual 414, 184, 4, [812, 813, 82, 112]), none, none, some (.ireturn, 0, 0, [])]
def aM185 : List (Option aI) := [some (.aload_n 0, 0, 0, []), some (.getfield 405, 1159, 0, [709]), none, none, some (.iconst 1, 0, 0, []), some (.isub, 0, 0, []), some (.istore_n 2, 0, 0, []), some (.iload_n 2, 0, 0, []), some (.ifCond .lt 30, 38, 0, []), none, none, some (.aload_n 0, 0, 0, []), some (.getfield 68, 1130, 12, [680]), none, none, some (.aload_n 0, 0, 0, []), some (.getfield 134, 1160, 12, [710]), none, none, some (.iload_n 2, 0, 0, []), some (.iaload, 0, 0, []), some (.aload_n 0, 0, 0, []), some (.getfield 68, 1130, 12, [680]), none, none, some (.iload_n 1, 0, 0, []), some (.invokestatic 214, 159, 8, [761, 762, 112]), none, none, some (.ifCond .ne 9, 38, 0, []), none, none, some (.iinc 2 (-1), 0, 0, []), none, none, some (.goto (-28), 7, 0, []), none, none, some (.iload_n 2, 0, 0, []), some (.ireturn, 0, 0, [])]
def aM186 : List (Option aI) := [some (.aload_n 0, 0, 0, []), some (.getfield 92, 1142, 12, [692]), none, none, some (.iload_n 1, 0, 0, []), some (.iaload, 0, 0, []), some (.ifCond .ne 27, 33, 0, []), none, none, some (.aload_n 0, 0, 0, []), some (.getfield 13, 1106, 12, [656]), none, none, some (.aload_n 0, 0, 0, []), some (.getfield 169, 1103, 0, [653]), none, none, some (.aload_n 0, 0, 0, []), some (.getfield 68, 1130, 12, [680]), none, none, some (.aload_n 0, 0, 0, []), some (.getfield 95, 1143, 12, [693]), none, none, some (.iload_n 1, 0, 0, []), some (.iaload, 0, 0, []), some (.invokestatic 277, 158, 8, [759, 760, 112]), none, none, some (.goto 33, 63, 0, []), none, none, some (.aload_n 0, 0, 0, []), some (.getfield 95, 1143, 12, [693]), none, none, some (.iload_n 1, 0, 0, []), some (.iaload, 0, 0, []), some (.iconst (-1), 0, 0, []), some (.if_icmp .ne 17, 57, 0, []), none, none, some (.aload_n 0, 0, 0, []), some (.getfield 20, 1108, 12, [658]), none, none, some (.aload_n 0, 0, 0, []), some (.getfield 98, 1144, 12, [694]), none, none, some (.iload_n 1, 0, 0, []), some (.iaload, 0, 0, []), some (.iaload, 0, 0, []), some (.goto 9, 63, 0, []), none, none, some (.aload_n 0, 0, 0, []), some (.getfield 95, 1143, 12, [693]), none, none, some (.iload_n 1, 0, 0, []), some (.iaload, 0, 0, []), some (.ireturn, 0, 0, [])]
def aM187 : List (Option aI) := [some (.aload_n 0, 0, 0, []), some (.getfield 221, 1122, 0, [672]), none, none, some (.ifCond .le 5, 9, 0, []), none, none, some (.iconst 0, 0, 0, []), some (.ireturn, 0, 0, []), some (.aload_n 0, 0, 0, []), some (.getfield 92, 1142, 12, [692]), none, none, some (.iload_n 1, 0, 0, []), some (.iaload, 0, 0, []), some (.tableswitch 189 0 4 #[33, 95, 101, 112, 183], 0, 0, []), none, none, none, none, none, none, none, none, none, none, none, none, none, none, none, none, none, none, none, none, none, none, none, none, none, none, none, none, none, none, none, none, some (.aload_n 0, 0, 0, []), some (.aload_n 0, 0, 0, []), some (.getfield 95, 1143, 12, [693]), none, none, some (.iload_n 1, 0, 0, []), some (.iaload, 0, 0, []), some (.invokevirtual 408, 185, 4, [814, 815, 83, 112]), none, none, some (.istore_n 2, 0, 0, []), some (.iload_n 2, 0, 0, []), some (.iconst (-1), 0, 0, []), some (.if_icmp .eq 26, 87, 0, []), none, none, some (.aload_n 0, 0, 0, []), some (.iconst 2, 0, 0, []), some (.aload_n 0, 0, 0, []), some (.getfield 405, 1159, 0, [709]), none, none, some (.iconst 1, 0, 0, []), some (.isub, 0, 0, []), some (.iload_n 2, 0, 0, []), some (.isub, 0, 0, []), some (.imul, 0, 0, []), some (.aload_n 0, 0, 0, []), some (.getfield 137, 1161, 12, [711]), none, none, some (.iload_n 2, 0, 0, []), some (.iaload, 0, 0, []), some (.invokevirtual 420, 188, 6, [820, 821, 86, 112]), none, none, some (.goto 25, 109, 0, []), none, none, some (.aload_n 0, 0, 0, []), some (.iconst 2, 0, 0, []), some (.aload_n 0, 0, 0, []), some (.iload_n 1, 0, 0, []), some (.invokevirtual 411, 186, 4, [816, 817, 84, 112]), none, none, some (.imul, 0, 0, []), some (.iconst 1, 0, 0, []), some (.iadd, 0, 0, []), some (.aload_n 0, 0, 0, []), some (.aload_n 0, 0, 0, []), some (.iload_n 1, 0, 0, []), some (.invokevirtual 411, 186, 4, [816, 817, 84, 112]), none, none, some (.invokevirtual 423, 189, 4, [822, 823, 87, 112]), none, none, some (.invokevirtual 420, 188, 6, [820, 821, 86, 112]), none, none, some (.ireturn, 0, 0, []), some (.aload_n 0, 0, 0, []), some (.iload_n 1, 0, 0, []), some (.invokevirtual 426, 192, 4, [828, 829, 90, 112]), none, none, some (.ireturn, 0, 0, []), some (.aload_n 0, 0, 0, []), some (.aload_n 0, 0, 0, []), some (.getfield 95, 1143, 12, [693]), none, none, some (.iload_n 1, 0, 0, []), some (.iaload, 0, 0, []), some (.invokevirtual 429, 195, 4, [834, 835, 93, 112]), none, none, some (.ireturn, 0, 0, []), some (.aload_n 0, 0, 0, []), some (.getfield 417, 1162, 0, [712]), none, none, some (.istore_n 3, 0, 0, []), some (.aload_n 0, 0, 0, []), some (.iconst (-1), 0, 0, []), some (.iconst (-1), 0, 0, []), some (.invokevirtual 420, 188, 6, [820, 821, 86, 112]), none, none, some (.pop, 0, 0, []), some (.aload_n 0, 0, 0, []), some (.aload_n 0, 0, 0, []), some (.getfield 95, 1143, 12, [693]), none, none, some (.iload_n 1, 0, 0, []), some (.iaload, 0, 0, []), some (.invokevirtual 432, 187, 4, [818, 819, 85, 112]), none, none, some (.istore 4, 0, 0, []), none, some (.aload_n 0, 0, 0, []), some (.aload_n 0, 0, 0, []), some (.getfield 98, 1144, 12, [694]), none, none, some (.iload_n 1, 0, 0, []), some (.iaload, 0, 0, []), some (.invokevirtual 432, 187, 4, [818, 819, 85, 112]), none, none, some (.istore 5, 0, 0, []), none, some (.aload_n 0, 0, 0, []), some (.getfield 143, 1164, 12, [714]), none, none, some (.iload_n 3, 0, 0, []), some (.aload_n 0, 0, 0, []), some (.invokevirtual 396, 191, 2, [826, 827, 89, 112]), none, none, some (.iastore, 0, 0, []), some (.aload_n 0, 0, 0, []), some (.iload 4, 0, 0, []), none, some (.aload_n 0, 0, 0, []), some (.iload 5, 0, 0, []), none, some (.aload_n 0, 0, 0, []), some (.getfield 143, 1164, 12, [714]), none, none, some (.iload_n 3, 0, 0, []), some (.iaload, 0, 0, []), some (.invokevirtual 165, 138, 6, [644, 645, 50, 112]), none, none, some (.invokevirtual 434, 193, 6, [830, 831, 91, 112]), none, none, some (.aload_n 0, 0, 0, []), some (.getfield 143, 1164, 12, [714]), none, none, some (.iload_n 3, 0, 0, []), some (.iaload, 0, 0, []), some (.ireturn, 0, 0, []), some (.aload_n 0, 0, 0, []), some (.iload_n 1, 0, 0, []), some (.invokevirtual 437, 196, 4, [836, 837, 94, 112]), none, none, some (.ireturn, 0, 0, []), some (.aload_n 0, 0, 0, []), some (.aload_n 0, 0, 0, []), some (.getfield 95, 1143, 12, [693]), none, none, some (.iload_n 1, 0, 0, []), some (.iaload, 0, 0, []), some (.invokevirtual 432, 187, 4, [818, 819, 85, 112]), none, none, some (.istore 6, 0, 0, []), none, some (.aload_n 0, 0, 0, []), some (.iload 6, 0, 0, []), none, some (.aload_n 0, 0, 0, []), some (.aload_n 0, 0, 0, []), some (.getfield 98, 1144, 12, [694]), none, none, some (.iload_n 1, 0, 0, []), some (.iaload, 0, 0, []), some (.invokevirtual 402, 197, 4, [838, 839, 95, 112]), none, none, some (.invokevirtual 434, 193, 6, [830, 831, 91, 112]), none, none, some (.iload 6, 0, 0, []), none, some (.ireturn, 0, 0, [])]
def aM188 : List (Option aI) := [some (.aload_n 0, 0, 0, []), some (.getfield 140, 1163, 12, [713]), none, none, some (.aload_n 0, 0, 0, []), some (.getfield 417, 1162, 0, [712]), none, none, some (.iload_n 1, 0, 0, []), some (.iastore, 0, 0, []), some (.aload_n 0, 0, 0, []), some (.getfield 143, 1164, 12, [714]), none, none, some (.aload_n 0, 0, 0, []), some (.getfield 417, 1162, 0, [712]), none, none, some (.iload_n 2, 0, 0, []), some (.iastore, 0, 0, []), some (.aload_n 0, 0, 0, []), some (.dup, 0, 0, []), some (.getfield 417, 1162, 0, [712]), none, none, some (.iconst 1, 0, 0, []), some (.iadd, 0, 0, []), some (.putfield 417, 1162, 0, [712]), none, none, some (.iload_n 2, 0, 0, []), some (.ireturn, 0, 0, [])]
def aM189 : List (Option aI) := [some (.aload_n 0, 0, 0, []), some (.iconst 0, 0, 0, []), some (.putfield 393, 1158, 0, [708]), none, none, some (.aload_n 0, 0, 0, []), some (.aload_n 0, 0, 0, []), some (.getfield 17, 1107, 12, [657]), none, none, some (.iload_n 1, 0, 0, []), some (.iaload, 0, 0, []), some (.invokevirtual 399, 190, 4, [824, 825, 88, 112]), none, none, some (.ireturn, 0, 0, [])]
def aM190 : List (Option aI) := [some (.aload_n 0, 0, 0, []), some (.getfield 34, 1112, 12, [662]), none, none, some (.iload_n 1, 0, 0, []), some (.iaload, 0, 0, []), some (.sipush (-1000), 0, 0, []), none, none, some (.if_icmp .gt 91, 100, 0, []), none, none, some (.iconst 0, 0, 0, []), some (.istore_n 2, 0, 0, []), some (.iload_n 2, 0, 0, []), some (.aload_n 0, 0, 0, []), some (.getfield 393, 1158, 0, [708]), none, none, some (.if_icmp .ge 31, 50, 0, []), none, none, some (.aload_n 0, 0, 0, []), some (.getfield 128, 1156, 12, [706]), none, none, some (.iload_n 2, 0, 0, []), some (.iaload, 0, 0, []), some (.aload_n 0, 0, 0, []), some (.getfield 34, 1112, 12, [662]), none, none, some (.iload_n 1, 0, 0, []), some (.iaload, 0, 0, []), some (.if_icmp .ne 10, 44, 0, []), none, none, some (.aload_n 0, 0, 0, []), some (.getfield 131, 1157, 12, [707]), none, none, some (.iload_n 2, 0, 0, []), some (.iaload, 0, 0, []), some (.ireturn, 0, 0, []), some (.iinc 2 1, 0, 0, []), none, none, some (.goto (-33), 14, 0, []), none, none, some (.aload_n 0, 0, 0, []), some (.getfield 128, 1156, 12, [706]), none, none, some (.aload_n 0, 0, 0, []), some (.getfield 393, 1158, 0, [708]), none, none, some (.aload_n 0, 0, 0, []), some (.getfield 34, 1112, 12, [662]), none, none, some (.iload_n 1, 0, 0, []), some (.iaload, 0, 0, []), some (.iastore, 0, 0, []), some (.aload_n 0, 0, 0, []), some (.getfield 131, 1157, 12, [707]), none, none, some (.aload_n 0, 0, 0, []), some (.getfield 393, 1158, 0, [708]), none, none, some (.aload_n 0, 0, 0, []), some (.invokevirtual 396, 191, 2, [826, 827, 89, 112]), none, none, some (.iastore, 0, 0, []), some (.aload_n 0, 0, 0, []), some (.dup, 0, 0, []), some (.getfield 393, 1158, 0, [708]), none, none, some (.iconst 1, 0, 0, []), some (.iadd, 0, 0, []), some (.putfield 393, 1158, 0, [708]), none, none, some (.aload_n 0, 0, 0, []), some (.getfield 131, 1157, 12, [707]), none, none, some (.aload_n 0, 0, 0, []), some (.getfield 393, 1158, 0, [708]), none, none, some (.iconst 1, 0, 0, []), some (.isub, 0, 0, []), some (.iaload, 0, 0, []), some (.ireturn, 0, 0, []), some (.aload_n 0, 0, 0, []), some (.getfield 37, 1113, 12, [663]), none, none, some (.iload_n 1, 0, 0, []), some (.iaload, 0, 0, []), some (.iconst (-1), 0, 0, []), some (.if_icmp .ne 5, 112, 0, []), none, none, some (.iload_n 1, 0, 0, []), some (.ireturn, 0, 0, []), some (.aload_n 0, 0, 0, []), some (.aload_n 0, 0, 0, []), some (.getfield 37, 1113, 12, [663]), none, none, some (.iload_n 1, 0, 0, []), some (.iaload, 0, 0, []), some (.invokevirtual 399, 190, 4, [824, 825, 88, 112]), none, none, some (.istore_n 2, 0, 0, []), some (.aload_n 0, 0, 0, []), some (.getfield 40, 1114, 12, [664]), none, none, some (.iload_n 1, 0, 0, []), some (.iaload, 0, 0, []), some (.iconst (-1), 0, 0, []), some (.if_icmp .ne 7, 137, 0, []), none, none, some (.iconst (-1), 0, 0, []), some (.goto 13, 147, 0, []), none, none, some (.aload_n 0, 0, 0, []), some (.aload_n 0, 0, 0, []), some (.getfield 40, 1114, 12, [664]), none, none, some (.iload_n 1, 0, 0, []), some (.iaload, 0, 0, []), some (.invokevirtual 399, 190, 4, [824, 825, 88, 112]), none, none, some (.istore_n 3, 0, 0, []), some (.aload_n 0, 0, 0, []), some (.aload_n 0, 0, 0, []), some (.getfield 34, 1112, 12, [662]), none, none, some (.iload_n 1, 0, 0, []), some (.iaload, 0, 0, []), some (.iload_n 2, 0, 0, []), some (.iload_n 3, 0, 0, []), some (.invokevirtual 161, 137, 8, [642, 643, 49, 112]), none, none, some (.ireturn, 0, 0, [])]
def aM191 : List (Option aI) := [some (.aload_n 0, 0, 0, []), some (.iconst (-1), 0, 0, []), some (.iconst (-1), 0, 0, []), some (.iconst (-1), 0, 0, []), some (.invokevirtual 161, 137, 8, [642, 643, 49, 112]), none, none, some (.ireturn, 0, 0, [])]
def aM192 : List (Option aI) := [some (.aload_n 0, 0, 0, []), some (.iload_n 1, 0, 0, []), some (.invokevirtual 411, 186, 4, [816, 817, 84, 112]), none, none, some (.istore_n 2, 0, 0, []), some (.aload_n 0, 0, 0, []), some (.iload_n 2, 0, 0, []), some (.invokevirtual 423, 189, 4, [822, 823, 87, 112]), none, none, some (.istore_n 3, 0, 0, []), some (.aload_n 0, 0, 0, []), some (.getfield 95, 1143, 12, [693]), none, none, some (.iload_n 1, 0, 0, []), some (.iaload, 0, 0, []), some (.iconst (-1), 0, 0, []), some (.if_icmp .ne 31, 50, 0, []), none, none, some (.aload_n 0, 0, 0, []), some (.getfield 98, 1144, 12, [694]), none, none, some (.iload_n 1, 0, 0, []), some (.iaload, 0, 0, []), some (.bipush 20, 0, 0, []), none, some (.if_icmp .ne 20, 50, 0, []), none, none, some (.aload_n 0, 0, 0, []), some (.aload_n 0, 0, 0, []), some (.getfield 37, 1113, 12, [663]), none, none, some (.iload_n 3, 0, 0, []), some (.iaload, 0, 0, []), some (.aload_n 0, 0, 0, []), some (.iconst 0, 0, 0, []), some (.iconst (-1), 0, 0, []), some (.iconst (-1), 0, 0, []), some (.invokevirtual 161, 137, 8, [642, 643, 49, 112]), none, none, some (.invokevirtual 434, 193, 6, [830, 831, 91, 112]), none, none, some (.aload_n 0, 0, 0, []), some (.iconst 2, 0, 0, []), some (.iload_n 2, 0, 0, []), some (.imul, 0, 0, []), some (.iconst 1, 0, 0, []), some (.iadd, 0, 0, []), some (.iload_n 3, 0, 0, []), some (.invokevirtual 420, 188, 6, [820, 821, 86, 112]), none, none, some (.ireturn, 0, 0, [])]
def aM193 : List (Option aI) := [some (.iconst 1, 0, 0, []), some (.istore_n 3, 0, 0, []), some (.aload_n 0, 0, 0, []), some (.getfield 122, 1154, 12, [704]), none, none, some (.iconst 0, 0, 0, []), some (.iload_n 1, 0, 0, []), some (.iastore, 0, 0, []), some (.aload_n 0, 0, 0, []), some (.getfield 125, 1155, 12, [705]), none, none, some (.iconst 0, 0, 0, []), some (.iload_n 2, 0, 0, []), some (.iastore, 0, 0, []), some (.iload_n 3, 0, 0, []), some (.ifCond .le 252, 269, 0, []), none, none, some (.aload_n 0, 0, 0, []), some (.getfield 221, 1122, 0, [672]), none, none, some (.ifCond .ne 245, 269, 0, []), none, none, some (.iinc 3 (-1), 0, 0, []), none, none, some (.aload_n 0, 0, 0, []), some (.aload_n 0, 0, 0, []), some (.getfield 122, 1154, 12, [704]), none, none, some (.iload_n 3, 0, 0, []), some (.iaload, 0, 0, []), some (.invokevirtual 390, 194, 4, [832, 833, 92, 112]), none, none, some (.istore 4, 0, 0, []), none, some (.aload_n 0, 0, 0, []), some (.aload_n 0, 0, 0, []), some (.getfield 125, 1155, 12, [705]), none, none, some (.iload_n 3, 0, 0, []), some (.iaload, 0, 0, []), some (.invokevirtual 390, 194, 4, [832, 833, 92, 112]), none, none, some (.istore 5, 0, 0, []), none, some (.iload 4, 0, 0, []), none, some (.iload 5, 0, 0, []), none, some (.if_icmp .ne 6, 64, 0, []), none, none, some (.goto (-45), 16, 0, []), none, none, some (.aload_n 0, 0, 0, []), some (.getfield 34, 1112, 12, [662]), none, none, some (.iload 4, 0, 0, []), none, some (.iaload, 0, 0, []), some (.iconst (-1), 0, 0, []), some (.if_icmp .eq 42, 114, 0, []), none, none, some (.aload_n 0, 0, 0, []), some (.getfield 34, 1112, 12, [662]), none, none, some (.iload 5, 0, 0, []), none, some (.iaload, 0, 0, []), some (.iconst (-1), 0, 0, []), some (.if_icmp .eq 31, 114, 0, []), none, none, some (.aload_n 0, 0, 0, []), some (.getfield 34, 1112, 12, [662]), none, none, some (.iload 4, 0, 0, []), none, some (.iaload, 0, 0, []), some (.aload_n 0, 0, 0, []), some (.getfield 34, 1112, 12, [662]), none, none, some (.iload 5, 0, 0, []), none, some (.iaload, 0, 0, []), some (.if_icmp .eq 14, 114, 0, []), none, none, some (.aload_n 0, 0, 0, []), some (.iconst 3, 0, 0, []), some (.aload_n 0, 0, 0, []), some (.getfield 62, 1128, 12, [678]), none, none, some (.iconst 0, 0, 0, []), some (.iaload, 0, 0, []), some (.invokevirtual 260, 152, 6, [747, 748, 59, 112]), none, none, some (.aload_n 0, 0, 0, []), some (.getfield 34, 1112, 12, [662]), none, none, some (.iload 4, 0, 0, []), none, some (.iaload, 0, 0, []), some (.iconst (-1), 0, 0, []), some (.if_icmp .eq 18, 140, 0, []), none, none, some (.aload_n 0, 0, 0, []), some (.getfield 34, 1112, 12, [662]), none, none, some (.iload 5, 0, 0, []), none, some (.iaload, 0, 0, []), some (.iconst (-1), 0, 0, []), some (.if_icmp .eq 7, 140, 0, []), none, none, some (.iconst 1, 0, 0, []), some (.goto 4, 141, 0, []), none, none, some (.iconst 0, 0, 0, []), some (.istore 6, 0, 0, []), none, some (.aload_n 0, 0, 0, []), some (.getfield 34, 1112, 12, [662]), none, none, some (.iload 4, 0, 0, []), none, some (.iaload, 0, 0, []), some (.iconst (-1), 0, 0, []), some (.if_icmp .ne 15, 166, 0, []), none, none, some (.aload_n 0, 0, 0, []), some (.getfield 43, 1115, 12, [665]), none, none, some (.iload 4, 0, 0, []), none, some (.iload 5, 0, 0, []), none, some (.iastore, 0, 0, []), some (.goto 12, 175, 0, []), none, none, some (.aload_n 0, 0, 0, []), some (.getfield 43, 1115, 12, [665]), none, none, some (.iload 5, 0, 0, []), none, some (.iload 4, 0, 0, []), none, some (.iastore, 0, 0, []), some (.iload 6, 0, 0, []), none, some (.ifCond .eq (-161), 16, 0, []), none, none, some (.aload_n 0, 0, 0, []), some (.getfield 37, 1113, 12, [663]), none, none, some (.iload 4, 0, 0, []), none, some (.iaload, 0, 0, []), some (.iconst (-1), 0, 0, []), some (.if_icmp .ne 6, 194, 0, []), none, none, some (.goto (-175), 16, 0, []), none, none, some (.aload_n 0, 0, 0, []), some (.getfield 122, 1154, 12, [704]), none, none, some (.iload_n 3, 0, 0, []), some (.aload_n 0, 0, 0, []), some (.getfield 37, 1113, 12, [663]), none, none, some (.iload 4, 0, 0, []), none, some (.iaload, 0, 0, []), some (.iastore, 0, 0, []), some (.aload_n 0, 0, 0, []), some (.getfield 125, 1155, 12, [705]), none, none, some (.iload_n 3, 0, 0, []), some (.aload_n 0, 0, 0, []), some (.getfield 37, 1113, 12, [663]), none, none, some (.iload 5, 0, 0, []), none, some (.iaload, 0, 0, []), some (.iastore, 0, 0, []), some (.iinc 3 1, 0, 0, []), none, none, some (.aload_n 0, 0, 0, []), some (.getfield 40, 1114, 12, [664]), none, none, some (.iload 4, 0, 0, []), none, some (.iaload, 0, 0, []), some (.iconst (-1), 0, 0, []), some (.if_icmp .ne 6, 237, 0, []), none, none, some (.goto (-218), 16, 0, []), none, none, some (.aload_n 0, 0, 0, []), some (.getfield 122, 1154, 12, [704]), none, none, some (.iload_n 3, 0, 0, []), some (.aload_n 0, 0, 0, []), some (.getfield 40, 1114, 12, [664]), none, none, some (.iload 4, 0, 0, []), none, some (.iaload, 0, 0, []), some (.iastore, 0, 0, []), some (.aload_n 0, 0, 0, []), some (.getfield 125, 1155, 12, [705]), none, none, some (.iload_n 3, 0, 0, []), some (.aload_n 0, 0, 0, []), some (.getfield 40, 1114, 12, [664]), none, none, some (.iload 5, 0, 0, []), none, some (.iaload, 0, 0, []), some (.iastore, 0, 0, []), some (.iinc 3 1, 0, 0, []), none, none, some (.goto (-250), 16, 0, []), none, none, some (.return_, 0, 0, [])]
def aM194 : List (Option aI) := [some (.iload_n 1, 0, 0, []), some (.istore_n 2, 0, 0, []), some (.aload_n 0, 0, 0, []), some (.getfield 43, 1115, 12, [665]), none, none, some (.iload_n 2, 0, 0, []), some (.iaload, 0, 0, []), some (.iconst (-1), 0, 0, []), some (.if_icmp .eq 13, 22, 0, []), none, none, some (.aload_n 0, 0, 0, []), some (.getfield 43, 1115, 12, [665]), none, none, some (.iload_n 2, 0, 0, []), some (.iaload, 0, 0, []), some (.istore_n 2, 0, 0, []), some (.goto (-17), 2, 0, []), none, none, some (.iload_n 2, 0, 0, []), some (.ireturn, 0, 0, [])]
def aM195 : List (Option aI) := [some (.aload_n 0, 0, 0, []), some (.iconst 3, 0, 0, []), some (.iconst (-1), 0, 0, []), some (.iconst (-1), 0, 0, []), some (.invokevirtual 161, 137, 8, [642, 643, 49, 112]), none, none, some (.istore_n 2, 0, 0, []), some (.iconst 0, 0, 0, []), some (.istore_n 3, 0, 0, []), some (.iload_n 3, 0, 0, []), some (.iload_n 1, 0, 0, []), some (.if_icmp .ge 29, 41, 0, []), none, none, some (.aload_n 0, 0, 0, []), some (.iconst (-1), 0, 0, []), some (.iload_n 2, 0, 0, []), some (.invokevirtual 420, 188, 6, [820, 821, 86, 112]), none, none, some (.pop, 0, 0, []), some (.aload_n 0, 0, 0, []), some (.bipush 23, 0, 0, []), none, some (.aload_n 0, 0, 0, []), some (.iload_n 2, 0, 0, []), some (.iload_n 2, 0, 0, []), some (.invokevirtual 165, 138, 6, [644, 645, 50, 112]), none, none, some (.invokevirtual 420, 188, 6, [820, 821, 86, 112]), none, none, some (.pop, 0, 0, []), some (.iinc 3 1, 0, 0, []), none, none, some (.goto (-28), 10, 0, []), none, none, some (.aload_n 0, 0, 0, []), some (.bipush 21, 0, 0, []), none, some (.iload_n 2, 0, 0, []), some (.invokevirtual 420, 188, 6, [820, 821, 86, 112]), none, none, some (.ireturn, 0, 0, [])]
def aM196 : List (Option aI) := [some (.aload_n 0, 0, 0, []), some (.getfield 417, 1162, 0, [712]), none, none, some (.istore_n 2, 0, 0, []), some (.aload_n 0, 0, 0, []), some (.bipush (-2), 0, 0, []), none, some (.iconst (-1), 0, 0, []), some (.invokevirtual 420, 188, 6, [820, 821, 86, 112]), none, none, some (.pop, 0, 0, []), some (.aload_n 0, 0, 0, []), some (.getfield 101, 1145, 12, [695]), none, none, some (.iload_n 1, 0, 0, []), some (.iaload, 0, 0, []), some (.iconst (-1), 0, 0, []), some (.if_icmp .ne 10, 30, 0, []), none, none, some (.aload_n 0, 0, 0, []), some (.invokevirtual 396, 191, 2, [826, 827, 89, 112]), none, none, some (.goto 13, 40, 0, []), none, none, some (.aload_n 0, 0, 0, []), some (.aload_n 0, 0, 0, []), some (.getfield 101, 1145, 12, [695]), none, none, some (.iload_n 1, 0, 0, []), some (.iaload, 0, 0, []), some (.invokevirtual 402, 197, 4, [838, 839, 95, 112]), none, none, some (.istore_n 3, 0, 0, []), some (.aload_n 0, 0, 0, []), some (.getfield 134, 1160, 12, [710]), none, none, some (.aload_n 0, 0, 0, []), some (.getfield 405, 1159, 0, [709]), none, none, some (.aload_n 0, 0, 0, []), some (.getfield 95, 1143, 12, [693]), none, none, some (.iload_n 1, 0, 0, []), some (.iaload, 0, 0, []), some (.iastore, 0, 0, []), some (.aload_n 0, 0, 0, []), some (.getfield 137, 1161, 12, [711]), none, none, some (.aload_n 0, 0, 0, []), some (.getfield 405, 1159, 0, [709]), none, none, some (.iload_n 3, 0, 0, []), some (.iastore, 0, 0, []), some (.aload_n 0, 0, 0, []), some (.dup, 0, 0, []), some (.getfield 405, 1159, 0, [709]), none, none, some (.iconst 1, 0, 0, []), some (.iadd, 0, 0, []), some (.putfield 405, 1159, 0, [709]), none, none, some (.aload_n 0, 0, 0, []), some (.aload_n 0, 0, 0, []), some (.getfield 98, 1144, 12, [694]), none, none, some (.iload_n 1, 0, 0, []), some (.iaload, 0, 0, []), some (.invokevirtual 432, 187, 4, [818, 819, 85, 112]), none, none, some (.istore 4, 0, 0, []), none, some (.aload_n 0, 0, 0, []), some (.dup, 0, 0, []), some (.getfield 405, 1159, 0, [709]), none, none, some (.iconst 1, 0, 0, []), some (.isub, 0, 0, []), some (.putfield 405, 1159, 0, [709]), none, none, some (.aload_n 0, 0, 0, []), some (.getfield 143, 1164, 12, [714]), none, none, some (.iload_n 2, 0, 0, []), some (.aload_n 0, 0, 0, []), some (.iload_n 3, 0, 0, []), some (.iload 4, 0, 0, []), none, some (.invokevirtual 165, 138, 6, [644, 645, 50, 112]), none, none, some (.iastore, 0, 0, []), some (.aload_n 0, 0, 0, []), some (.getfield 143, 1164, 12, [714]), none, none, some (.iload_n 2, 0, 0, []), some (.iaload, 0, 0, []), some (.ireturn, 0, 0, [])]
def aM197 : List (Option aI) := [some (.aload_n 0, 0, 0, []), some (.getfield 221, 1122, 0, [672]), none, none, some (.ifCond .le 5, 9, 0, []), none, none, some (.iconst 0, 0, 0, []), some (.ireturn, 0, 0, []), some (.aload_n 0, 0, 0, []), some (.getfield 71, 1134, 12, [684]), none, none, some (.iload_n 1, 0, 0, []), some (.iaload, 0, 0, []), some (.ifCond .ne 20, 35, 0, []), none, none, some (.aload_n 0, 0, 0, []), some (.sipush (-1000), 0, 0, []), none, none, some (.aload_n 0, 0, 0, []), some (.getfield 74, 1135, 12, [685]), none, none, some (.iload_n 1, 0, 0, []), some (.iaload, 0, 0, []), some (.isub, 0, 0, []), some (.iconst (-1), 0, 0, []), some (.iconst (-1), 0, 0, []), some (.invokevirtual 161, 137, 8, [642, 643, 49, 112]), none, none, some (.ireturn, 0, 0, []), some (.iconst 2, 0, 0, []), some (.istore_n 2, 0, 0, []), some (.aload_n 0, 0, 0, []), some (.getfield 71, 1134, 12, [684]), none, none, some (.iload_n 1, 0, 0, []), some (.iaload, 0, 0, []), some (.iconst 1, 0, 0, []), some (.if_icmp .ne 61, 105, 0, []), none, none, some (.aload_n 0, 0, 0, []), some (.getfield 23, 1109, 12, [659]), none, none, some (.aload_n 0, 0, 0, []), some (.getfield 182, 1104, 0, [654]), none, none, some (.aload_n 0, 0, 0, []), some (.getfield 68, 1130, 12, [680]), none, none, some (.aload_n 0, 0, 0, []), some (.getfield 74, 1135, 12, [685]), none, none, some (.iload_n 1, 0, 0, []), some (.iaload, 0, 0, []), some (.invokestatic 277, 158, 8, [759, 760, 112]), none, none, some (.istore_n 2, 0, 0, []), some (.iload_n 2, 0, 0, []), some (.iconst (-1), 0, 0, []), some (.if_icmp .eq 23, 94, 0, []), none, none, some (.iload_n 2, 0, 0, []), some (.iconst 2, 0, 0, []), some (.if_icmp .eq 18, 94, 0, []), none, none, some (.aload_n 0, 0, 0, []), some (.getfield 26, 1110, 12, [660]), none, none, some (.iload_n 2, 0, 0, []), some (.iaload, 0, 0, []), some (.aload_n 0, 0, 0, []), some (.getfield 83, 1138, 12, [688]), none, none, some (.iload_n 1, 0, 0, []), some (.iaload, 0, 0, []), some (.if_icmp .eq 14, 105, 0, []), none, none, some (.aload_n 0, 0, 0, []), some (.iconst 3, 0, 0, []), some (.aload_n 0, 0, 0, []), some (.getfield 62, 1128, 12, [678]), none, none, some (.iconst 0, 0, 0, []), some (.iaload, 0, 0, []), some (.invokevirtual 260, 152, 6, [747, 748, 59, 112]), none, none, some (.aload_n 0, 0, 0, []), some (.getfield 221, 1122, 0, [672]), none, none, some (.ifCond .le 5, 114, 0, []), none, none, some (.iconst 0, 0, 0, []), some (.ireturn, 0, 0, []), some (.aload_n 0, 0, 0, []), some (.getfield 77, 1136, 12, [686]), none, none, some (.iload_n 1, 0, 0, []), some (.iaload, 0, 0, []), some (.istore_n 3, 0, 0, []), some (.iload_n 3, 0, 0, []), some (.iconst (-1), 0, 0, []), some (.if_icmp .ne 11, 134, 0, []), none, none, some (.aload_n 0, 0, 0, []), some (.iload_n 2, 0, 0, []), some (.iconst (-1), 0, 0, []), some (.iconst (-1), 0, 0, []), some (.invokevirtual 161, 137, 8, [642, 643, 49, 112]), none, none, some (.ireturn, 0, 0, []), some (.aload_n 0, 0, 0, []), some (.iload_n 3, 0, 0, []), some (.invokevirtual 402, 197, 4, [838, 839, 95, 112]), none, none, some (.istore 4, 0, 0, []), none, some (.aload_n 0, 0, 0, []), some (.getfield 80, 1137, 12, [687]), none, none, some (.iload_n 3, 0, 0, []), some (.iaload, 0, 0, []), some (.iconst (-1), 0, 0, []), some (.if_icmp .ne 7, 155, 0, []), none, none, some (.iconst (-1), 0, 0, []), some (.goto 13, 165, 0, []), none, none, some (.aload_n 0, 0, 0, []), some (.aload_n 0, 0, 0, []), some (.getfield 80, 1137, 12, [687]), none, none, some (.iload_n 3, 0, 0, []), some (.iaload, 0, 0, []), some (.invokevirtual 402, 197, 4, [838, 839, 95, 112]), none, none, some (.istore 5, 0, 0, []), none, some (.aload_n 0, 0, 0, []), some (.iload_n 2, 0, 0, []), some (.iload 4, 0, 0, []), none, some (.iload 5, 0, 0, []), none, some (.invokevirtual 161, 137, 8, [642, 643, 49, 112]), none, none, some (.ireturn, 0, 0, [])]
def aM198 : List (Option aI) := [some (.iconst 0, 0, 0, []), some (.istore_n 1, 0, 0, []), some (.iload_n 1, 0, 0, []), some (.aload_n 0, 0, 0, []), some (.getfield 191, 1116, 0, [666]), none, none, some (.if_icmp .ge 16, 23, 0, []), none, none, some (.aload_n 0, 0, 0, []), some (.getfield 146, 1165, 12, [715]), none, none, some (.iload_n 1, 0, 0, []), some (.iconst 0, 0, 0, []), some (.iastore, 0, 0, []), some (.iinc 1 1, 0, 0, []), none, none, some (.goto (-18), 2, 0, []), none, none, some (.iconst 0, 0, 0, []), some (.istore_n 1, 0, 0, []), some (.iload_n 1, 0, 0, []), some (.aload_n 0, 0, 0, []), some (.getfield 417, 1162, 0, [712]), none, none, some (.if_icmp .ge 26, 56, 0, []), none, none, some (.aload_n 0, 0, 0, []), some (.getfield 221, 1122, 0, [672]), none, none, some (.ifCond .ne 19, 56, 0, []), none, none, some (.aload_n 0, 0, 0, []), some (.aload_n 0, 0, 0, []), some (.getfield 143, 1164, 12, [714]), none, none, some (.iload_n 1, 0, 0, []), some (.iaload, 0, 0, []), some (.invokevirtual 440, 199, 4, [842, 843, 97, 112]), none, none, some (.iinc 1 1, 0, 0, []), none, none, some (.goto (-28), 25, 0, []), none, none, some (.aload_n 0, 0, 0, []), some (.getfield 194, 1117, 0, [667]), none, none, some (.istore_n 1, 0, 0, []), some (.iload_n 1, 0, 0, []), some (.aload_n 0, 0, 0, []), some (.getfield 191, 1116, 0, [666]), none, none, some (.if_icmp .ge 21, 87, 0, []), none, none, some (.aload_n 0, 0, 0, []), some (.getfield 221, 1122, 0, [672]), none, none, some (.ifCond .ne 14, 87, 0, []), none, none, some (.aload_n 0, 0, 0, []), some (.iload_n 1, 0, 0, []), some (.invokevirtual 440, 199, 4, [842, 843, 97, 112]), none, none, some (.iinc 1 1, 0, 0, []), none, none, some (.goto (-23), 61, 0, []), none, none, some (.iconst 0, 0, 0, []), some (.istore_n 1, 0, 0, []), some (.iload_n 1, 0, 0, []), some (.aload_n 0, 0, 0, []), some (.getfield 417, 1162, 0, [712]), none, none, some (.if_icmp .ge 61, 155, 0, []), none, none, some (.aload_n 0, 0, 0, []), some (.getfield 221, 1122, 0, [672]), none, none, some (.ifCond .ne 54, 155, 0, []), none, none, some (.aload_n 0, 0, 0, []), some (.aload_n 0, 0, 0, []), some (.getfield 143, 1164, 12, [714]), none, none, some (.iload_n 1, 0, 0, []), some (.iaload, 0, 0, []), some (.invokevirtual 390, 194, 4, [832, 833, 92, 112]), none, none, some (.istore_n 2, 0, 0, []), some (.aload_n 0, 0, 0, []), some (.getfield 149, 1166, 12, [716]), none, none, some (.iload_n 2, 0, 0, []), some (.iaload, 0, 0, []), some (.bipush 40, 0, 0, []), none, some (.if_icmp .gt 14, 137, 0, []), none, none, some (.aload_n 0, 0, 0, []), some (.getfield 152, 1167, 12, [717]), none, none, some (.iload_n 2, 0, 0, []), some (.iaload, 0, 0, []), some (.bipush 12, 0, 0, []), none, some (.if_icmp .le 15, 149, 0, []), none, none, some (.aload_n 0, 0, 0, []), some (.bipush 8, 0, 0, []), none, some (.aload_n 0, 0, 0, []), some (.getfield 62, 1128, 12, [678]), none, none, some (.iconst 0, 0, 0, []), some (.iaload, 0, 0, []), some (.invokevirtual 260, 152, 6, [747, 748, 59, 112]), none, none, some (.iinc 1 1, 0, 0, []), none, none, some (.goto (-63), 89, 0, []), none, none, some (.return_, 0, 0, [])]
def aM199 : List (Option aI) := [some (.iconst 1, 0, 0, []), some (.istore_n 2, 0, 0, []), some (.aload_n 0, 0, 0, []), some (.getfield 155, 1168, 12, [718]), none, none, some (.iconst 0, 0, 0, []), some (.aload_n 0, 0, 0, []), some (.iload_n 1, 0, 0, []), some (.invokevirtual 390, 194, 4, [832, 833, 92, 112]), none, none, some (.iastore, 0, 0, []), some (.iload_n 2, 0, 0, []), some (.ifCond .le 319, 333, 0, []), none, none, some (.aload_n 0, 0, 0, []), some (.getfield 221, 1122, 0, [672]), none, none, some (.ifCond .ne 312, 333, 0, []), none, none, some (.aload_n 0, 0, 0, []), some (.getfield 155, 1168, 12, [718]), none, none, some (.iload_n 2, 0, 0, []), some (.iconst 1, 0, 0, []), some (.isub, 0, 0, []), some (.iaload, 0, 0, []), some (.istore_n 3, 0, 0, []), some (.aload_n 0, 0, 0, []), some (.getfield 37, 1113, 12, [663]), none, none, some (.iload_n 3, 0, 0, []), some (.iaload, 0, 0, []), some (.iconst (-1), 0, 0, []), some (.if_icmp .ne 7, 47, 0, []), none, none, some (.iconst (-1), 0, 0, []), some (.goto 13, 57, 0, []), none, none, some (.aload_n 0, 0, 0, []), some (.aload_n 0, 0, 0, []), some (.getfield 37, 1113, 12, [663]), none, none, some (.iload_n 3, 0, 0, []), some (.iaload, 0, 0, []), some (.invokevirtual 390, 194, 4, [832, 833, 92, 112]), none, none, some (.istore 4, 0, 0, []), none, some (.aload_n 0, 0, 0, []), some (.getfield 40, 1114, 12, [664]), none, none, some (.iload_n 3, 0, 0, []), some (.iaload, 0, 0, []), some (.iconst (-1), 0, 0, []), some (.if_icmp .ne 7, 73, 0, []), none, none, some (.iconst (-1), 0, 0, []), some (.goto 13, 83, 0, []), none, none, some (.aload_n 0, 0, 0, []), some (.aload_n 0, 0, 0, []), some (.getfield 40, 1114, 12, [664]), none, none, some (.iload_n 3, 0, 0, []), some (.iaload, 0, 0, []), some (.invokevirtual 390, 194, 4, [832, 833, 92, 112]), none, none, some (.istore 5, 0, 0, []), none, some (.aload_n 0, 0, 0, []), some (.getfield 146, 1165, 12, [715]), none, none, some (.iload_n 3, 0, 0, []), some (.iaload, 0, 0, []), some (.iconst 2, 0, 0, []), some (.if_icmp .ne 9, 101, 0, []), none, none, some (.iinc 2 (-1), 0, 0, []), none, none, some (.goto (-85), 13, 0, []), none, none, some (.aload_n 0, 0, 0, []), some (.getfield 146, 1165, 12, [715]), none, none, some (.iload_n 3, 0, 0, []), some (.iconst 1, 0, 0, []), some (.iastore, 0, 0, []), some (.iload 4, 0, 0, []), none, some (.iconst (-1), 0, 0, []), some (.if_icmp .eq 50, 161, 0, []), none, none, some (.aload_n 0, 0, 0, []), some (.getfield 146, 1165, 12, [715]), none, none, some (.iload 4, 0, 0, []), none, some (.iaload, 0, 0, []), some (.iconst 2, 0, 0, []), some (.if_icmp .ge 39, 161, 0, []), none, none, some (.aload_n 0, 0, 0, []), some (.getfield 146, 1165, 12, [715]), none, none, some (.iload 4, 0, 0, []), none, some (.iaload, 0, 0, []), some (.iconst 1, 0, 0, []), some (.if_icmp .ne 14, 147, 0, []), none, none, some (.aload_n 0, 0, 0, []), some (.iconst 3, 0, 0, []), some (.aload_n 0, 0, 0, []), some (.getfield 62, 1128, 12, [678]), none, none, some (.iconst 0, 0, 0, []), some (.iaload, 0, 0, []), some (.invokevirtual 260, 152, 6, [747, 748, 59, 112]), none, none, some (.aload_n 0, 0, 0, []), some (.getfield 155, 1168, 12, [718]), none, none, some (.iload_n 2, 0, 0, []), some (.iload 4, 0, 0, []), none, some (.iastore, 0, 0, []), some (.iinc 2 1, 0, 0, []), none, none, some (.goto (-145), 13, 0, []), none, none, some (.iload 5, 0, 0, []), none, some (.iconst (-1), 0, 0, []), some (.if_icmp .eq 50, 214, 0, []), none, none, some (.aload_n 0, 0, 0, []), some (.getfield 146, 1165, 12, [715]), none, none, some (.iload 5, 0, 0, []), none, some (.iaload, 0, 0, []), some (.iconst 2, 0, 0, []), some (.if_icmp .ge 39, 214, 0, []), none, none, some (.aload_n 0, 0, 0, []), some (.getfield 146, 1165, 12, [715]), none, none, some (.iload 5, 0, 0, []), none, some (.iaload, 0, 0, []), some (.iconst 1, 0, 0, []), some (.if_icmp .ne 14, 200, 0, []), none, none, some (.aload_n 0, 0, 0, []), some (.iconst 3, 0, 0, []), some (.aload_n 0, 0, 0, []), some (.getfield 62, 1128, 12, [678]), none, none, some (.iconst 0, 0, 0, []), some (.iaload, 0, 0, []), some (.invokevirtual 260, 152, 6, [747, 748, 59, 112]), none, none, some (.aload_n 0, 0, 0, []), some (.getfield 155, 1168, 12, [718]), none, none, some (.iload_n 2, 0, 0, []), some (.iload 5, 0, 0, []), none, some (.iastore, 0, 0, []), some (.iinc 2 1, 0, 0, []), none, none, some (.goto (-198), 13, 0, []), none, none, some (.iconst 1, 0, 0, []), some (.iload 4, 0, 0, []), none, some (.iconst (-1), 0, 0, []), some (.if_icmp .ne 7, 225, 0, []), none, none, some (.iconst 0, 0, 0, []), some (.goto 10, 232, 0, []), none, none, some (.aload_n 0, 0, 0, []), some (.getfield 149, 1166, 12, [716]), none, none, some (.iload 4, 0, 0, []), none, some (.iaload, 0, 0, []), some (.iadd, 0, 0, []), some (.iload 5, 0, 0, []), none, some (.iconst (-1), 0, 0, []), some (.if_icmp .ne 7, 243, 0, []), none, none, some (.iconst 0, 0, 0, []), some (.goto 10, 250, 0, []), none, none, some (.aload_n 0, 0, 0, []), some (.getfield 149, 1166, 12, [716]), none, none, some (.iload 5, 0, 0, []), none, some (.iaload, 0, 0, []), some (.iadd, 0, 0, []), some (.istore 6, 0, 0, []), none, some (.aload_n 0, 0, 0, []), some (.getfield 149, 1166, 12, [716]), none, none, some (.iload_n 3, 0, 0, []), some (.iload 6, 0, 0, []), none, some (.ldc_w 319, 100000, 0, [787]), none, none, some (.if_icmp .le 9, 272, 0, []), none, none, some (.ldc_w 319, 100000, 0, [787]), none, none, some (.goto 5, 274, 0, []), none, none, some (.iload 6, 0, 0, []), none, some (.iastore, 0, 0, []), some (.aload_n 0, 0, 0, []), some (.getfield 152, 1167, 12, [717]), none, none, some (.iload_n 3, 0, 0, []), some (.iconst 1, 0, 0, []), some (.iload 4, 0, 0, []), none, some (.iconst (-1), 0, 0, []), some (.if_icmp .ne 7, 291, 0, []), none, none, some (.iconst 0, 0, 0, []), some (.goto 10, 298, 0, []), none, none, some (.aload_n 0, 0, 0, []), some (.getfield 152, 1167, 12, [717]), none, none, some (.iload 4, 0, 0, []), none, some (.iaload, 0, 0, []), some (.iload 5, 0, 0, []), none, some (.iconst (-1), 0, 0, []), some (.if_icmp .ne 7, 308, 0, []), none, none, some (.iconst 0, 0, 0, []), some (.goto 10, 315, 0, []), none, none, some (.aload_n 0, 0, 0, []), some (.getfield 152, 1167, 12, [717]), none, none, some (.iload 5, 0, 0, []), none, some (.iaload, 0, 0, []), some (.invokestatic 344, 175, 4, [794, 795, 112]), none, none, some (.iadd, 0, 0, []), some (.iastore, 0, 0, []), some (.aload_n 0, 0, 0, []), some (.getfield 146, 1165, 12, [715]), none, none, some (.iload_n 3, 0, 0, []), some (.iconst 2, 0, 0, []), some (.iastore, 0, 0, []), some (.iinc 2 (-1), 0, 0, []), none, none, some (.goto (-317), 13, 0, []), none, none, some (.return_, 0, 0, [])]
def aM200 : List (Option aI) := [some (.aload_n 0, 0, 0, []), some (.aload_n 0, 0, 0, []), some (.getfield 417, 1162, 0, [712]), none, none, some (.putfield 446, 1118, 0, [668]), none, none, some (.aload_n 0, 0, 0, []), some (.iconst 0, 0, 0, []), some (.putfield 443, 1169, 0, [719]), none, none, some (.iconst 0, 0, 0, []), some (.istore_n 1, 0, 0, []), some (.iload_n 1, 0, 0, []), some (.aload_n 0, 0, 0, []), some (.getfield 191, 1116, 0, [666]), none, none, some (.if_icmp .ge 16, 36, 0, []), none, none, some (.aload_n 0, 0, 0, []), some (.getfield 158, 1170, 12, [720]), none, none, some (.iload_n 1, 0, 0, []), some (.iconst (-1), 0, 0, []), some (.iastore, 0, 0, []), some (.iinc 1 1, 0, 0, []), none, none, some (.goto (-18), 15, 0, []), none, none, some (.aload_n 0, 0, 0, []), some (.getfield 49, 1120, 12, [670]), none, none, some (.iconst 0, 0, 0, []), some (.iconst 0, 0, 0, []), some (.iastore, 0, 0, []), some (.iconst 0, 0, 0, []), some (.istore_n 1, 0, 0, []), some (.iload_n 1, 0, 0, []), some (.aload_n 0, 0, 0, []), some (.getfield 417, 1162, 0, [712]), none, none, some (.if_icmp .ge 45, 95, 0, []), none, none, some (.aload_n 0, 0, 0, []), some (.getfield 46, 1119, 12, [669]), none, none, some (.iload_n 1, 0, 0, []), some (.aload_n 0, 0, 0, []), some (.getfield 140, 1163, 12, [713]), none, none, some (.iload_n 1, 0, 0, []), some (.iaload, 0, 0, []), some (.iastore, 0, 0, []), some (.aload_n 0, 0, 0, []), some (.getfield 49, 1120, 12, [670]), none, none, some (.iload_n 1, 0, 0, []), some (.iconst 1, 0, 0, []), some (.iadd, 0, 0, []), some (.aload_n 0, 0, 0, []), some (.aload_n 0, 0, 0, []), some (.getfield 143, 1164, 12, [714]), none, none, some (.iload_n 1, 0, 0, []), some (.iaload, 0, 0, []), some (.aload_n 0, 0, 0, []), some (.getfield 49, 1120, 12, [670]), none, none, some (.iload_n 1, 0, 0, []), some (.iaload, 0, 0, []), some (.invokevirtual 449, 201, 6, [846, 847, 99, 112]), none, none, some (.iastore, 0, 0, []), some (.iinc 1 1, 0, 0, []), none, none, some (.goto (-47), 45, 0, []), none, none, some (.return_, 0, 0, [])]
def aM201 : List (Option aI) := [some (.iload_n 2, 0, 0, []), some (.istore_n 3, 0, 0, []), some (.iconst 1, 0, 0, []), some (.istore 4, 0, 0, []), none, some (.aload_n 0, 0, 0, []), some (.getfield 155, 1168, 12, [718]), none, none, some (.iconst 0, 0, 0, []), some (.iload_n 1, 0, 0, []), some (.iastore, 0, 0, []), some (.iload 4, 0, 0, []), none, some (.ifCond .le 160, 174, 0, []), none, none, some (.iinc 4 (-1), 0, 0, []), none, none, some (.aload_n 0, 0, 0, []), some (.aload_n 0, 0, 0, []), some (.getfield 155, 1168, 12, [718]), none, none, some (.iload 4, 0, 0, []), none, some (.iaload, 0, 0, []), some (.invokevirtual 390, 194, 4, [832, 833, 92, 112]), none, none, some (.istore 5, 0, 0, []), none, some (.aload_n 0, 0, 0, []), some (.getfield 34, 1112, 12, [662]), none, none, some (.iload 5, 0, 0, []), none, some (.iaload, 0, 0, []), some (.iconst (-1), 0, 0, []), some (.if_icmp .ne 35, 76, 0, []), none, none, some (.aload_n 0, 0, 0, []), some (.getfield 158, 1170, 12, [720]), none, none, some (.iload 5, 0, 0, []), none, some (.iaload, 0, 0, []), some (.iconst (-1), 0, 0, []), some (.if_icmp .ne 24, 76, 0, []), none, none, some (.aload_n 0, 0, 0, []), some (.getfield 158, 1170, 12, [720]), none, none, some (.iload 5, 0, 0, []), none, some (.aload_n 0, 0, 0, []), some (.getfield 443, 1169, 0, [719]), none, none, some (.iastore, 0, 0, []), some (.aload_n 0, 0, 0, []), some (.dup, 0, 0, []), some (.getfield 443, 1169, 0, [719]), none, none, some (.iconst 1, 0, 0, []), some (.iadd, 0, 0, []), some (.putfield 443, 1169, 0, [719]), none, none, some (.aload_n 0, 0, 0, []), some (.getfield 52, 1121, 12, [671]), none, none, some (.iload_n 3, 0, 0, []), some (.aload_n 0, 0, 0, []), some (.getfield 34, 1112, 12, [662]), none, none, some (.iload 5, 0, 0, []), none, some (.iaload, 0, 0, []), some (.iconst (-1), 0, 0, []), some (.if_icmp .ne 15, 104, 0, []), none, none, some (.iconst (-1), 0, 0, []), some (.aload_n 0, 0, 0, []), some (.getfield 158, 1170, 12, [720]), none, none, some (.iload 5, 0, 0, []), none, some (.iaload, 0, 0, []), some (.isub, 0, 0, []), some (.goto 10, 111, 0, []), none, none, some (.aload_n 0, 0, 0, []), some (.getfield 34, 1112, 12, [662]), none, none, some (.iload 5, 0, 0, []), none, some (.iaload, 0, 0, []), some (.iastore, 0, 0, []), some (.iinc 3 1, 0, 0, []), none, none, some (.aload_n 0, 0, 0, []), some (.getfield 40, 1114, 12, [664]), none, none, some (.iload 5, 0, 0, []), none, some (.iaload, 0, 0, []), some (.iconst (-1), 0, 0, []), some (.if_icmp .eq 20, 143, 0, []), none, none, some (.aload_n 0, 0, 0, []), some (.getfield 155, 1168, 12, [718]), none, none, some (.iload 4, 0, 0, []), none, some (.aload_n 0, 0, 0, []), some (.getfield 40, 1114, 12, [664]), none, none, some (.iload 5, 0, 0, []), none, some (.iaload, 0, 0, []), some (.iastore, 0, 0, []), some (.iinc 4 1, 0, 0, []), none, none, some (.aload_n 0, 0, 0, []), some (.getfield 37, 1113, 12, [663]), none, none, some (.iload 5, 0, 0, []), none, some (.iaload, 0, 0, []), some (.iconst (-1), 0, 0, []), some (.if_icmp .eq 20, 171, 0, []), none, none, some (.aload_n 0, 0, 0, []), some (.getfield 155, 1168, 12, [718]), none, none, some (.iload 4, 0, 0, []), none, some (.aload_n 0, 0, 0, []), some (.getfield 37, 1113, 12, [663]), none, none, some (.iload 5, 0, 0, []), none, some (.iaload, 0, 0, []), some (.iastore, 0, 0, []), some (.iinc 4 1, 0, 0, []), none, none, some (.goto (-159), 12, 0, []), none, none, some (.iload_n 3, 0, 0, []), some (.ireturn, 0, 0, [])]
def aM202 : List (Option aI) := [some (.aload_n 0, 0, 0, []), some (.iload_n 1, 0, 0, []), some (.invokevirtual 455, 144, 4, [731, 732, 51, 112]), none, none, some (.ifCond .ne 5, 10, 0, []), none, none, some (.iconst 0, 0, 0, []), some (.ireturn, 0, 0, []), some (.aload_n 0, 0, 0, []), some (.iconst 0, 0, 0, []), some (.invokevirtual 304, 148, 4, [739, 740, 55, 112]), none, none, some (.istore_n 2, 0, 0, []), some (.iload_n 2, 0, 0, []), some (.iconst 1, 0, 0, []), some (.if_icmp .eq 27, 45, 0, []), none, none, some (.iload_n 2, 0, 0, []), some (.bipush 25, 0, 0, []), none, some (.if_icmp .eq 21, 45, 0, []), none, none, some (.iload_n 2, 0, 0, []), some (.bipush 26, 0, 0, []), none, some (.if_icmp .eq 15, 45, 0, []), none, none, some (.iload_n 2, 0, 0, []), some (.bipush 27, 0, 0, []), none, some (.if_icmp .eq 9, 45, 0, []), none, none, some (.iload_n 2, 0, 0, []), some (.bipush 28, 0, 0, []), none, some (.if_icmp .ne 16, 58, 0, []), none, none, some (.aload_n 0, 0, 0, []), some (.dup, 0, 0, []), some (.getfield 298, 1131, 0, [681]), none, none, some (.iconst 1, 0, 0, []), some (.iadd, 0, 0, []), some (.putfield 298, 1131, 0, [681]), none, none, some (.goto 14, 69, 0, []), none, none, some (.aload_n 0, 0, 0, []), some (.iconst 2, 0, 0, []), some (.aload_n 0, 0, 0, []), some (.getfield 62, 1128, 12, [678]), none, none, some (.iconst 0, 0, 0, []), some (.iaload, 0, 0, []), some (.invokevirtual 260, 152, 6, [747, 748, 59, 112]), none, none, some (.aload_n 0, 0, 0, []), some (.bipush 7, 0, 0, []), none, some (.invokevirtual 334, 166, 4, [775, 776, 68, 112]), none, none, some (.aload_n 0, 0, 0, []), some (.getfield 221, 1122, 0, [672]), none, none, some (.ifCond .le 7, 86, 0, []), none, none, some (.iconst 0, 0, 0, []), some (.goto 7, 90, 0, []), none, none, some (.aload_n 0, 0, 0, []), some (.invokevirtual 331, 167, 2, [777, 778, 69, 112]), none, none, some (.istore_n 3, 0, 0, []), some (.aload_n 0, 0, 0, []), some (.iconst 0, 0, 0, []), some (.invokevirtual 334, 166, 4, [775, 776, 68, 112]), none, none, some (.iload_n 2, 0, 0, []), some (.iconst 1, 0, 0, []), some (.if_icmp .ne 7, 105, 0, []), none, none, some (.iconst 1, 0, 0, []), some (.goto 4, 106, 0, []), none, none, some (.iconst 0, 0, 0, []), some (.istore 4, 0, 0, []), none, some (.aload_n 0, 0, 0, []), some (.getfield 221, 1122, 0, [672]), none, none, some (.ifCond .ne 52, 164, 0, []), none, none, some (.iload 4, 0, 0, []), none, some (.ifCond .eq 26, 143, 0, []), none, none, some (.aload_n 0, 0, 0, []), some (.getfield 13, 1106, 12, [656]), none, none, some (.aload_n 0, 0, 0, []), some (.getfield 169, 1103, 0, [653]), none, none, some (.aload_n 0, 0, 0, []), some (.getfield 68, 1130, 12, [680]), none, none, some (.iconst 0, 0, 0, []), some (.invokestatic 277, 158, 8, [759, 760, 112]), none, none, some (.iconst (-1), 0, 0, []), some (.if_icmp .eq 27, 164, 0, []), none, none, some (.goto 13, 153, 0, []), none, none, some (.aload_n 0, 0, 0, []), some (.getfield 20, 1108, 12, [658]), none, none, some (.iload_n 2, 0, 0, []), some (.iaload, 0, 0, []), some (.iconst (-1), 0, 0, []), some (.if_icmp .eq 14, 164, 0, []), none, none, some (.aload_n 0, 0, 0, []), some (.iconst 4, 0, 0, []), some (.aload_n 0, 0, 0, []), some (.getfield 62, 1128, 12, [678]), none, none, some (.iconst 0, 0, 0, []), some (.iaload, 0, 0, []), some (.invokevirtual 260, 152, 6, [747, 748, 59, 112]), none, none, some (.aload_n 0, 0, 0, []), some (.getfield 169, 1103, 0, [653]), none, none, some (.bipush 112, 0, 0, []), none, some (.if_icmp .ne 15, 185, 0, []), none, none, some (.aload_n 0, 0, 0, []), some (.bipush 8, 0, 0, []), none, some (.aload_n 0, 0, 0, []), some (.getfield 62, 1128, 12, [678]), none, none, some (.iconst 0, 0, 0, []), some (.iaload, 0, 0, []), some (.invokevirtual 260, 152, 6, [747, 748, 59, 112]), none, none, some (.aload_n 0, 0, 0, []), some (.getfield 221, 1122, 0, [672]), none, none, some (.ifCond .ne 8, 197, 0, []), none, none, some (.aload_n 0, 0, 0, []), some (.iload_n 3, 0, 0, []), some (.invokevirtual 457, 183, 4, [810, 811, 81, 112]), none, none, some (.aload_n 0, 0, 0, []), some (.getfield 221, 1122, 0, [672]), none, none, some (.ifCond .le 7, 208, 0, []), none, none, some (.iconst 0, 0, 0, []), some (.goto 8, 213, 0, []), none, none, some (.aload_n 0, 0, 0, []), some (.iload_n 3, 0, 0, []), some (.invokevirtual 402, 197, 4, [838, 839, 95, 112]), none, none, some (.istore 5, 0, 0, []), none, some (.aload_n 0, 0, 0, []), some (.getfield 221, 1122, 0, [672]), none, none, some (.ifCond .le 13, 232, 0, []), none, none, some (.aload_n 0, 0, 0, []), some (.aload_n 0, 0, 0, []), some (.getfield 194, 1117, 0, [667]), none, none, some (.putfield 191, 1116, 0, [666]), none, none, some (.iconst (-1), 0, 0, []), some (.ireturn, 0, 0, []), some (.aload_n 0, 0, 0, []), some (.getfield 17, 1107, 12, [657]), none, none, some (.aload_n 0, 0, 0, []), some (.getfield 169, 1103, 0, [653]), none, none, some (.iload 5, 0, 0, []), none, some (.iastore, 0, 0, []), some (.aload_n 0, 0, 0, []), some (.aload_n 0, 0, 0, []), some (.getfield 191, 1116, 0, [666]), none, none, some (.putfield 194, 1117, 0, [667]), none, none, some (.iload 4, 0, 0, []), none, some (.ifCond .eq 22, 275, 0, []), none, none, some (.aload_n 0, 0, 0, []), some (.getfield 13, 1106, 12, [656]), none, none, some (.aload_n 0, 0, 0, []), some (.getfield 169, 1103, 0, [653]), none, none, some (.aload_n 0, 0, 0, []), some (.getfield 68, 1130, 12, [680]), none, none, some (.iconst 0, 0, 0, []), some (.invokestatic 281, 160, 8, [763, 764, 112]), none, none, some (.goto 13, 285, 0, []), none, none, some (.aload_n 0, 0, 0, []), some (.getfield 20, 1108, 12, [658]), none, none, some (.iload_n 2, 0, 0, []), some (.aload_n 0, 0, 0, []), some (.getfield 169, 1103, 0, [653]), none, none, some (.iastore, 0, 0, []), some (.aload_n 0, 0, 0, []), some (.dup, 0, 0, []), some (.getfield 169, 1103, 0, [653]), none, none, some (.iconst 1, 0, 0, []), some (.iadd, 0, 0, []), some (.putfield 169, 1103, 0, [653]), none, none, some (.aload_n 0, 0, 0, []), some (.getfield 169, 1103, 0, [653]), none, none, some (.iconst 1, 0, 0, []), some (.isub, 0, 0, []), some (.ireturn, 0, 0, [])]
def aM203 : List (Option aI) := [some (.aload_n 0, 0, 0, []), some (.iload_n 1, 0, 0, []), some (.invokevirtual 455, 144, 4, [731, 732, 51, 112]), none, none, some (.ifCond .ne 5, 10, 0, []), none, none, some (.iconst 0, 0, 0, []), some (.ireturn, 0, 0, []), some (.aload_n 0, 0, 0, []), some (.iconst 1, 0, 0, []), some (.invokevirtual 334, 166, 4, [775, 776, 68, 112]), none, none, some (.iconst 0, 0, 0, []), some (.istore_n 2, 0, 0, []), some (.iload_n 2, 0, 0, []), some (.iconst 2, 0, 0, []), some (.if_icmp .ge 35, 54, 0, []), none, none, some (.aload_n 0, 0, 0, []), some (.iconst 0, 0, 0, []), some (.invokevirtual 304, 148, 4, [739, 740, 55, 112]), none, none, some (.iconst 2, 0, 0, []), some (.if_icmp .ne 26, 54, 0, []), none, none, some (.aload_n 0, 0, 0, []), some (.getfield 221, 1122, 0, [672]), none, none, some (.ifCond .ne 19, 54, 0, []), none, none, some (.iinc 2 1, 0, 0, []), none, none, some (.aload_n 0, 0, 0, []), some (.dup, 0, 0, []), some (.getfield 298, 1131, 0, [681]), none, none, some (.iconst 1, 0, 0, []), some (.iadd, 0, 0, []), some (.putfield 298, 1131, 0, [681]), none, none, some (.goto (-34), 17, 0, []), none, none, some (.aload_n 0, 0, 0, []), some (.iconst 0, 0, 0, []), some (.invokevirtual 334, 166, 4, [775, 776, 68, 112]), none, none, some (.aload_n 0, 0, 0, []), some (.getfield 221, 1122, 0, [672]), none, none, some (.ifCond .ne 34, 97, 0, []), none, none, some (.aload_n 0, 0, 0, []), some (.getfield 23, 1109, 12, [659]), none, none, some (.aload_n 0, 0, 0, []), some (.getfield 182, 1104, 0, [654]), none, none, some (.aload_n 0, 0, 0, []), some (.getfield 68, 1130, 12, [680]), none, none, some (.iconst 0, 0, 0, []), some (.invokestatic 277, 158, 8, [759, 760, 112]), none, none, some (.iconst (-1), 0, 0, []), some (.if_icmp .eq 14, 97, 0, []), none, none, some (.aload_n 0, 0, 0, []), some (.iconst 4, 0, 0, []), some (.aload_n 0, 0, 0, []), some (.getfield 62, 1128, 12, [678]), none, none, some (.iconst 0, 0, 0, []), some (.iaload, 0, 0, []), some (.invokevirtual 260, 152, 6, [747, 748, 59, 112]), none, none, some (.aload_n 0, 0, 0, []), some (.getfield 182, 1104, 0, [654]), none, none, some (.bipush 34, 0, 0, []), none, some (.if_icmp .ne 15, 118, 0, []), none, none, some (.aload_n 0, 0, 0, []), some (.bipush 8, 0, 0, []), none, some (.aload_n 0, 0, 0, []), some (.getfield 62, 1128, 12, [678]), none, none, some (.iconst 0, 0, 0, []), some (.iaload, 0, 0, []), some (.invokevirtual 260, 152, 6, [747, 748, 59, 112]), none, none, some (.aload_n 0, 0, 0, []), some (.getfield 221, 1122, 0, [672]), none, none, some (.ifCond .le 5, 127, 0, []), none, none, some (.iconst (-1), 0, 0, []), some (.ireturn, 0, 0, []), some (.aload_n 0, 0, 0, []), some (.getfield 23, 1109, 12, [659]), none, none, some (.aload_n 0, 0, 0, []), some (.getfield 182, 1104, 0, [654]), none, none, some (.aload_n 0, 0, 0, []), some (.getfield 68, 1130, 12, [680]), none, none, some (.iconst 0, 0, 0, []), some (.invokestatic 281, 160, 8, [763, 764, 112]), none, none, some (.aload_n 0, 0, 0, []), some (.getfield 26, 1110, 12, [660]), none, none, some (.aload_n 0, 0, 0, []), some (.getfield 182, 1104, 0, [654]), none, none, some (.iload_n 2, 0, 0, []), some (.iastore, 0, 0, []), some (.aload_n 0, 0, 0, []), some (.dup, 0, 0, []), some (.getfield 182, 1104, 0, [654]), none, none, some (.iconst 1, 0, 0, []), some (.iadd, 0, 0, []), some (.putfield 182, 1104, 0, [654]), none, none, some (.aload_n 0, 0, 0, []), some (.getfield 182, 1104, 0, [654]), none, none, some (.iconst 1, 0, 0, []), some (.isub, 0, 0, []), some (.ireturn, 0, 0, [])]
def aM204 : List (Option aI) := [some (.aload_n 0, 0, 0, []), some (.iconst 0, 0, 0, []), some (.putfield 197, 1100, 0, [650]), none, none, some (.aload_n 0, 0, 0, []), some (.getfield 221, 1122, 0, [672]), none, none, some (.ireturn, 0, 0, [])]
def aM205 : List (Option aI) := [some (.aload_n 0, 0, 0, []), some (.iconst 0, 0, 0, []), some (.putfield 197, 1100, 0, [650]), none, none, some (.aload_n 0, 0, 0, []), some (.getfield 55, 1123, 0, [673]), none, none, some (.ireturn, 0, 0, [])]
def aM206 : List (Option aI) := [some (.aload_n 0, 0, 0, []), some (.iload_n 1, 0, 0, []), some (.ifCond .lt 11, 13, 0, []), none, none, some (.iload_n 1, 0, 0, []), some (.aload_n 0, 0, 0, []), some (.getfield 446, 1118, 0, [668]), none, none, some (.if_icmp .lt 7, 17, 0, []), none, none, some (.iconst 1, 0, 0, []), some (.goto 4, 18, 0, []), none, none, some (.iconst 0, 0, 0, []), some (.putfield 197, 1100, 0, [650]), none, none, some (.aload_n 0, 0, 0, []), some (.getfield 197, 1100, 0, [650]), none, none, some (.ifCond .le 7, 32, 0, []), none, none, some (.iconst 0, 0, 0, []), some (.goto 9, 38, 0, []), none, none, some (.aload_n 0, 0, 0, []), some (.getfield 46, 1119, 12, [669]), none, none, some (.iload_n 1, 0, 0, []), some (.iaload, 0, 0, []), some (.ireturn, 0, 0, [])]
def aM207 : List (Option aI) := [some (.aload_n 0, 0, 0, []), some (.iload_n 1, 0, 0, []), some (.ifCond .lt 34, 36, 0, []), none, none, some (.iload_n 1, 0, 0, []), some (.aload_n 0, 0, 0, []), some (.getfield 446, 1118, 0, [668]), none, none, some (.if_icmp .ge 26, 36, 0, []), none, none, some (.iload_n 2, 0, 0, []), some (.ifCond .lt 22, 36, 0, []), none, none, some (.iload_n 2, 0, 0, []), some (.aload_n 0, 0, 0, []), some (.getfield 49, 1120, 12, [670]), none, none, some (.iload_n 1, 0, 0, []), some (.iconst 1, 0, 0, []), some (.iadd, 0, 0, []), some (.iaload, 0, 0, []), some (.aload_n 0, 0, 0, []), some (.getfield 49, 1120, 12, [670]), none, none, some (.iload_n 1, 0, 0, []), some (.iaload, 0, 0, []), some (.isub, 0, 0, []), some (.if_icmp .lt 7, 40, 0, []), none, none, some (.iconst 1, 0, 0, []), some (.goto 4, 41, 0, []), none, none, some (.iconst 0, 0, 0, []), some (.putfield 197, 1100, 0, [650]), none, none, some (.aload_n 0, 0, 0, []), some (.getfield 197, 1100, 0, [650]), none, none, some (.ifCond .le 7, 55, 0, []), none, none, some (.iconst 0, 0, 0, []), some (.goto 16, 68, 0, []), none, none, some (.aload_n 0, 0, 0, []), some (.getfield 52, 1121, 12, [671]), none, none, some (.aload_n 0, 0, 0, []), some (.getfield 49, 1120, 12, [670]), none, none, some (.iload_n 1, 0, 0, []), some (.iaload, 0, 0, []), some (.iload_n 2, 0, 0, []), some (.iadd, 0, 0, []), some (.iaload, 0, 0, []), some (.ireturn, 0, 0, [])]
def aCix : List Nat := [129, 137, 144, 149, 201, 204, 285, 303, 349, 387, 419, 425, 445, 514, 561, 565, 569, 573, 577, 580, 585, 589, 659, 663, 667, 671, 674, 678, 682, 686, 689, 693, 697, 700, 704, 708, 712, 716, 720, 723, 727, 734, 737, 740, 743, 747, 751, 756, 760, 764, 768, 772, 781, 785, 789, 793, 797, 801, 805, 809, 814, 818, 822, 826, 830, 834, 838, 843, 847, 851, 857, 861, 871, 875, 879, 884, 888, 892, 896, 900, 905, 910, 914, 918, 923, 930, 934, 938, 942, 946, 950, 955, 959, 963, 967, 970, 974, 978, 983, 987, 991, 995, 999, 1002, 1007, 1011, 1016, 1020, 1024, 1028, 1033, 1037, 1042, 1046, 1050, 1054, 1058, 1062, 1065, 1069, 1073, 1076, 1085, 1090, 1095, 1099, 1103, 1107, 1111, 1115, 1120, 1124, 1143, 1147, 1151, 1157, 1164, 1168, 1172, 1177, 1401, 1405, 1409, 1413, 1417, 1421, 1425, 1429, 1433, 1437, 1441, 1445, 1448, 1452, 1455, 1460, 1465, 1468, 1471, 1474, 1478, 1482, 1494, 1498, 1502, 1506, 1510, 1514, 1518, 1522, 1526, 1531, 1535, 1539, 1542, 1546, 1550, 1553, 1557, 1560, 1564, 1567, 1571, 1575, 1579, 1583, 1587, 1591, 1595, 1599, 1603, 1607, 1611, 1615, 1619, 1623, 1627, 1631, 1635, 1639, 1643, 1647, 1651, 1655, 1659, 1663, 1667]
def aMs : List (List (Option aI)) := [aM0, aM1, aM2, aM3, aM4, aM5, aM6, aM7, aM8, aM9, aM10, aM11, aM12, aM13, aM14, aM15, aM16, aM17, aM18, aM19, aM20, aM21, aM22, aM23, aM24, aM25, aM26, aM27, aM28, aM29, aM30, aM31, aM32, aM33, aM34, aM35, aM36, aM37, aM38, aM39, aM40, aM41, aM42, aM43, aM44, aM45, aM46, aM47, aM48, aM49, aM50, aM51, aM52, aM53, aM54, aM55, aM56, aM57, aM58, aM59, aM60, aM61, aM62, aM63, aM64, aM65, aM66, aM67, aM68, aM69, aM70, aM71, aM72, aM73, aM74, aM75, aM76, aM77, aM78, aM79, aM80, aM81, aM82, aM83, aM84, aM85, aM86, aM87, aM88, aM89, aM90, aM91, aM92, aM93, aM94, aM95, aM96, aM97, aM98, aM99, aM100, aM101, aM102, aM103, aM104, aM105, aM106, aM107, aM108, aM109, aM110, aM111, aM112, aM113, aM114, aM115, aM116, aM117, aM118, aM119, aM120, aM121, aM122, aM123, aM124, aM125, aM126, aM127, aM128, aM129, aM130, aM131, aM132, aM133, aM134, aM135, aM136, aM137, aM138, aM139, aM140, aM141, aM142, aM143, aM144, aM145, aM146, aM147, aM148, aM149, aM150, aM151, aM152, aM153, aM154, aM155, aM156, aM157, aM158, aM159, aM160, aM161, aM162, aM163, aM164, aM165, aM166, aM167, aM168, aM169, aM170, aM171, aM172, aM173, aM174, aM175, aM176, aM177, aM178, aM179, aM180, aM181, aM182, aM183, aM184, aM185, aM186, aM187, aM188, aM189, aM190, aM191, aM192, aM193, aM194, aM195, aM196, aM197, aM198, aM199, aM200, aM201, aM202, aM203, aM204, aM205, aM206, aM207]
def aCode (y pc : Nat) : Option aI := match aMs[y]? with
  | some l => (match l[pc]? with
    | some o => o
    | none => none)
  | none => none
/-- name, code, locals, what it returns, whether it is static, how many arguments (the receiver counts), the receiver's class, whether it catches -/
abbrev aMe : Type := MethodName × ByteArray × Nat × Option FieldType × Bool × Nat × Nat × Bool
def aMeL : List aMe := [(x, code, 7, ret, true, 1, 0, false),
  (⟨"TypedTermReader", "<init>", "()V"⟩, prog_1_method_1_code, 1, none, false, 1, 0, false),
  (⟨"TypedTermReader$Text", "<init>", "()V"⟩, prog_8_method_1_code, 1, none, false, 1, 1, false),
  (⟨"TypedTermReader$NameTable", "<init>", "(IILjava/lang/String;)V"⟩, prog_3_method_1_code, 5, none, false, 4, 2, false),
  (⟨"TypedTermReader$NameTable", "addWords", "(Ljava/lang/String;)V"⟩, prog_3_method_2_code, 5, none, false, 2, 2, false),
  (⟨"TypedTermReader$NameTable", "add", "([BII)I"⟩, prog_3_method_4_code, 6, (some .int), false, 4, 2, false),
  (⟨"TypedTermReader$NameTable", "bucketOf", "([BII)I"⟩, prog_3_method_6_code, 5, (some .int), true, 3, 2, false),
  (⟨"TypedTermReader$TypeTable", "<init>", "()V"⟩, prog_11_method_1_code, 1, none, false, 1, 3, false),
  (⟨"TypedTermReader$TypePool", "<init>", "()V"⟩, prog_9_method_1_code, 1, none, false, 1, 4, false),
  (⟨"TypedTermReader$ConstantTable", "<init>", "(LTypedTermReader$TypeTable;LTypedTermReader$TypePool;)V"⟩, prog_2_method_1_code, 7, none, false, 3, 5, false),
  (⟨"TypedTermReader$TypeReader", "<init>", "(LTypedTermReader$Text;LTypedTermReader$TypeTable;LTypedTermReader$TypePool;)V"⟩, prog_10_method_1_code, 4, none, false, 4, 6, false),
  (⟨"TypedTermReader$TermReader", "<init>", "(LTypedTermReader$Text;LTypedTermReader$ConstantTable;LTypedTermReader$TypePool;LTypedTermReader$TypeReader;)V"⟩, prog_6_method_1_code, 5, none, false, 5, 7, false),
  (⟨"TypedTermReader$Scope", "<init>", "()V"⟩, prog_4_method_1_code, 1, none, false, 1, 8, false),
  (⟨"TypedTermReader$TermTree", "<init>", "(LTypedTermReader$TypePool;)V"⟩, prog_7_method_1_code, 2, none, false, 2, 9, false),
  (⟨"TypedTermReader$ShownTerm", "<init>", "()V"⟩, prog_5_method_1_code, 1, none, false, 1, 10, false),
  (⟨"TypedTermReader", "feed", "(IIIII)Z"⟩, prog_1_method_2_code, 6, (some .boolean), false, 6, 0, false),
  (⟨"TypedTermReader$Text", "isFull", "()Z"⟩, prog_8_method_2_code, 1, (some .boolean), false, 1, 1, false),
  (⟨"TypedTermReader$Text", "append", "(I)V"⟩, prog_8_method_5_code, 3, none, false, 2, 1, false),
  (⟨"TypedTermReader", "fault", "()I"⟩, prog_1_method_6_code, 1, (some .int), false, 1, 0, false),
  (⟨"TypedTermReader", "place", "()I"⟩, prog_1_method_7_code, 1, (some .int), false, 1, 0, false),
  (⟨"TypedTermReaderLaw", "term", "(LTypedTermReader;I[J)I"⟩, method_3_code, 4, (some .int), true, 3, 0, true),
  (⟨"TypedTermReader", "term", "(I)I"⟩, prog_1_method_3_code, 3, (some .int), false, 2, 0, false),
  (⟨"TypedTermReader$Text", "has", "(I)Z"⟩, prog_8_method_3_code, 2, (some .boolean), false, 2, 1, false),
  (⟨"TypedTermReader$Text", "open", "(I)V"⟩, prog_8_method_6_code, 2, none, false, 2, 1, false),
  (⟨"TypedTermReader$Text", "advance", "()V"⟩, prog_8_method_7_code, 1, none, false, 1, 1, false),
  (⟨"TypedTermReader$Text", "isRight", "()Z"⟩, prog_8_method_4_code, 1, (some .boolean), false, 1, 1, false),
  (⟨"TypedTermReader$Text", "behindBlanks", "(I)I"⟩, prog_8_method_15_code, 4, (some .int), false, 2, 1, false),
  (⟨"TypedTermReader$Text", "isBlank", "(I)Z"⟩, prog_8_method_24_code, 1, (some .boolean), true, 1, 1, false),
  (⟨"TypedTermReader$Text", "failHere", "(I)V"⟩, prog_8_method_12_code, 2, none, false, 2, 1, false),
  (⟨"TypedTermReader$Text", "fail", "(II)V"⟩, prog_8_method_14_code, 3, none, false, 3, 1, false),
  (⟨"TypedTermReader$Text", "scan", "(I)V"⟩, prog_8_method_16_code, 2, none, false, 2, 1, false),
  (⟨"TypedTermReader$Text", "isLetter", "(I)Z"⟩, prog_8_method_25_code, 1, (some .boolean), true, 1, 1, false),
  (⟨"TypedTermReader$Text", "scanName", "()V"⟩, prog_8_method_17_code, 1, none, false, 1, 1, false),
  (⟨"TypedTermReader$Text", "behindWord", "(I)I"⟩, prog_8_method_23_code, 3, (some .int), false, 2, 1, false),
  (⟨"TypedTermReader$Text", "isDigit", "(I)Z"⟩, prog_8_method_26_code, 1, (some .boolean), true, 1, 1, false),
  (⟨"TypedTermReader$Text", "isKeyword", "()Z"⟩, prog_8_method_18_code, 3, (some .boolean), false, 1, 1, false),
  (⟨"TypedTermReader$Text", "scanTypeName", "()V"⟩, prog_8_method_19_code, 2, none, false, 1, 1, false),
  (⟨"TypedTermReader$Text", "byteAt", "(I)I"⟩, prog_8_method_22_code, 2, (some .int), false, 2, 1, false),
  (⟨"TypedTermReader$NameTable", "findOrAdd", "([BII)I"⟩, prog_3_method_5_code, 5, (some .int), false, 4, 2, false),
  (⟨"TypedTermReader$NameTable", "find", "([BII)I"⟩, prog_3_method_3_code, 6, (some .int), false, 4, 2, false),
  (⟨"TypedTermReader", "sameBytes", "([BII[BI)Z"⟩, prog_1_method_18_code, 6, (some .boolean), true, 5, 0, false),
  (⟨"TypedTermReader$Text", "scanNumeral", "()V"⟩, prog_8_method_20_code, 1, none, false, 1, 1, false),
  (⟨"TypedTermReader$Text", "scanSign", "(I)V"⟩, prog_8_method_21_code, 3, none, false, 2, 1, false),
  (⟨"TypedTermReader$Text", "kindOfThree", "(III)I"⟩, prog_8_method_27_code, 3, (some .int), true, 3, 1, false),
  (⟨"TypedTermReader$Text", "kindOfTwo", "(II)I"⟩, prog_8_method_28_code, 2, (some .int), true, 2, 1, false),
  (⟨"TypedTermReader$Text", "kindOfOne", "(I)I"⟩, prog_8_method_29_code, 1, (some .int), true, 1, 1, false),
  (⟨"TypedTermReader$TypePool", "clear", "()V"⟩, prog_9_method_2_code, 1, none, false, 1, 4, false),
  (⟨"TypedTermReader$TypePool", "unknown", "()I"⟩, prog_9_method_3_code, 1, (some .int), false, 1, 4, false),
  (⟨"TypedTermReader$TypePool", "add", "(III)I"⟩, prog_9_method_5_code, 4, (some .int), false, 4, 4, false),
  (⟨"TypedTermReader$TypePool", "measure", "(I)V"⟩, prog_9_method_18_code, 4, none, false, 2, 4, false),
  (⟨"TypedTermReader$TypePool", "sizeOf", "(I)I"⟩, prog_9_method_6_code, 2, (some .int), false, 2, 4, false),
  (⟨"TypedTermReader$TypePool", "find", "(I)I"⟩, prog_9_method_14_code, 4, (some .int), false, 2, 4, false),
  (⟨"TypedTermReader$TypePool", "heightOf", "(I)I"⟩, prog_9_method_7_code, 2, (some .int), false, 2, 4, false),
  (⟨"TypedTermReader$TypePool", "setMeasures", "(III)V"⟩, prog_9_method_9_code, 4, none, false, 4, 4, false),
  (⟨"TypedTermReader$TypeReader", "clear", "()V"⟩, prog_10_method_2_code, 1, none, false, 1, 6, false),
  (⟨"TypedTermReader$TermReader", "readWhole", "()I"⟩, prog_6_method_2_code, 2, (some .int), false, 1, 7, false),
  (⟨"TypedTermReader$TermTree", "clear", "()V"⟩, prog_7_method_2_code, 1, none, false, 1, 9, false),
  (⟨"TypedTermReader$TermReader", "read", "(I)I"⟩, prog_6_method_4_code, 6, (some .int), false, 2, 7, false),
  (⟨"TypedTermReader$TermReader", "readOperand", "(I)I"⟩, prog_6_method_8_code, 5, (some .int), false, 2, 7, false),
  (⟨"TypedTermReader", "isBinder", "(I)Z"⟩, prog_1_method_15_code, 1, (some .boolean), true, 1, 0, false),
  (⟨"TypedTermReader$TermReader", "readBinder", "(I)I"⟩, prog_6_method_13_code, 5, (some .int), false, 2, 7, false),
  (⟨"TypedTermReader$Text", "failIfTooDeep", "(I)Z"⟩, prog_8_method_11_code, 2, (some .boolean), false, 2, 1, false),
  (⟨"TypedTermReader$TermReader", "readVariable", "(I)V"⟩, prog_6_method_15_code, 6, none, false, 2, 7, false),
  (⟨"TypedTermReader$Text", "expect", "(I)V"⟩, prog_8_method_9_code, 2, none, false, 2, 1, false),
  (⟨"TypedTermReader$TypeReader", "readWritten", "(I)I"⟩, prog_10_method_3_code, 3, (some .int), false, 2, 6, false),
  (⟨"TypedTermReader$TypeReader", "read", "(I)I"⟩, prog_10_method_4_code, 5, (some .int), false, 2, 6, false),
  (⟨"TypedTermReader$TypeReader", "readAtom", "(I)I"⟩, prog_10_method_6_code, 2, (some .int), false, 2, 6, false),
  (⟨"TypedTermReader$TypeReader", "readNamed", "(I)I"⟩, prog_10_method_7_code, 9, (some .int), false, 2, 6, false),
  (⟨"TypedTermReader$TypeReader", "startsPart", "(I)Z"⟩, prog_10_method_11_code, 1, (some .boolean), true, 1, 6, false),
  (⟨"TypedTermReader$TypeReader", "readLoneName", "()I"⟩, prog_10_method_8_code, 2, (some .int), false, 1, 6, false),
  (⟨"TypedTermReader$TypeTable", "takenBy", "(I)I"⟩, prog_11_method_3_code, 2, (some .int), false, 2, 3, false),
  (⟨"TypedTermReader$TypeReader", "readPart", "(I)I"⟩, prog_10_method_9_code, 3, (some .int), false, 2, 6, false),
  (⟨"TypedTermReader$TypeReader", "readInside", "(I)I"⟩, prog_10_method_10_code, 3, (some .int), false, 2, 6, false),
  (⟨"TypedTermReader$TypeReader", "putAside", "(I)V"⟩, prog_10_method_5_code, 2, none, false, 2, 6, false),
  (⟨"TypedTermReader$TypePool", "function", "(II)I"⟩, prog_9_method_4_code, 3, (some .int), false, 3, 4, false),
  (⟨"TypedTermReader$TypePool", "isLarge", "(I)Z"⟩, prog_9_method_8_code, 2, (some .boolean), false, 2, 4, false),
  (⟨"TypedTermReader$Scope", "isFull", "()Z"⟩, prog_4_method_2_code, 1, (some .boolean), false, 1, 8, false),
  (⟨"TypedTermReader$Scope", "add", "(III)V"⟩, prog_4_method_3_code, 4, none, false, 4, 8, false),
  (⟨"TypedTermReader$TermReader", "bind", "(III)I"⟩, prog_6_method_14_code, 5, (some .int), false, 4, 7, false),
  (⟨"TypedTermReader$Scope", "typeOf", "(I)I"⟩, prog_4_method_4_code, 2, (some .int), false, 2, 8, false),
  (⟨"TypedTermReader$TermTree", "abstraction", "(II)I"⟩, prog_7_method_5_code, 3, (some .int), false, 3, 9, false),
  (⟨"TypedTermReader$TermTree", "add", "(IIII)I"⟩, prog_7_method_6_code, 5, (some .int), false, 5, 9, false),
  (⟨"TypedTermReader$TermReader", "constantLeaf", "(I)I"⟩, prog_6_method_19_code, 2, (some .int), false, 2, 7, false),
  (⟨"TypedTermReader$TermReader", "constantLeaf", "(II)I"⟩, prog_6_method_20_code, 3, (some .int), false, 3, 7, false),
  (⟨"TypedTermReader$ConstantTable", "newType", "(I)I"⟩, prog_2_method_3_code, 10, (some .int), false, 2, 5, false),
  (⟨"TypedTermReader$ConstantTable", "variable", "(III)I"⟩, prog_2_method_4_code, 5, (some .int), false, 4, 5, false),
  (⟨"TypedTermReader$TermTree", "leaf", "(II)I"⟩, prog_7_method_3_code, 3, (some .int), false, 3, 9, false),
  (⟨"TypedTermReader$TermTree", "application", "(II)I"⟩, prog_7_method_4_code, 4, (some .int), false, 3, 9, false),
  (⟨"TypedTermReader$TypePool", "applied", "(II)I"⟩, prog_9_method_10_code, 5, (some .int), false, 3, 4, false),
  (⟨"TypedTermReader$TypePool", "equate", "(II)V"⟩, prog_9_method_11_code, 6, none, false, 3, 4, false),
  (⟨"TypedTermReader$TypePool", "join", "(II)V"⟩, prog_9_method_13_code, 5, none, false, 3, 4, false),
  (⟨"TypedTermReader$TypePool", "joinParts", "(II)V"⟩, prog_9_method_12_code, 3, none, false, 3, 4, false),
  (⟨"TypedTermReader$TermReader", "readApplications", "(I)I"⟩, prog_6_method_9_code, 4, (some .int), false, 2, 7, false),
  (⟨"TypedTermReader$TermReader", "readAtom", "(I)I"⟩, prog_6_method_10_code, 3, (some .int), false, 2, 7, false),
  (⟨"TypedTermReader$TermReader", "readInside", "(I)I"⟩, prog_6_method_11_code, 4, (some .int), false, 2, 7, false),
  (⟨"TypedTermReader$TermReader", "isLoneSign", "()Z"⟩, prog_6_method_12_code, 2, (some .boolean), false, 1, 7, false),
  (⟨"TypedTermReader", "strengthOf", "(I)I"⟩, prog_1_method_17_code, 1, (some .int), true, 1, 0, false),
  (⟨"TypedTermReader$Text", "isRightNext", "()Z"⟩, prog_8_method_8_code, 2, (some .boolean), false, 1, 1, false),
  (⟨"TypedTermReader$TermReader", "constantOfToken", "()I"⟩, prog_6_method_18_code, 2, (some .int), false, 1, 7, false),
  (⟨"TypedTermReader$TermReader", "numeral", "(I)I"⟩, prog_6_method_16_code, 4, (some .int), false, 2, 7, false),
  (⟨"TypedTermReader$TermReader", "nameOfToken", "()I"⟩, prog_6_method_17_code, 2, (some .int), false, 1, 7, false),
  (⟨"TypedTermReader$Scope", "find", "(LTypedTermReader$Text;)I"⟩, prog_4_method_5_code, 4, (some .int), false, 2, 8, false),
  (⟨"TypedTermReader", "startsAtom", "(I)Z"⟩, prog_1_method_16_code, 1, (some .boolean), true, 1, 0, false),
  (⟨"TypedTermReader$TermReader", "applyStronger", "(III)I"⟩, prog_6_method_6_code, 5, (some .int), false, 4, 7, false),
  (⟨"TypedTermReader$TermReader", "holdsBefore", "(II)Z"⟩, prog_6_method_7_code, 2, (some .boolean), true, 2, 7, false),
  (⟨"TypedTermReader$TermReader", "putAside", "(II)V"⟩, prog_6_method_5_code, 3, none, false, 3, 7, false),
  (⟨"TypedTermReader$Text", "expectEnd", "()V"⟩, prog_8_method_10_code, 1, none, false, 1, 1, false),
  (⟨"TypedTermReader$TermReader", "faultOf", "(I)I"⟩, prog_6_method_3_code, 2, (some .int), false, 2, 7, false),
  (⟨"TypedTermReader$TermTree", "isLarge", "(I)Z"⟩, prog_7_method_7_code, 2, (some .boolean), false, 2, 9, false),
  (⟨"TypedTermReader$TypePool", "measureAll", "()Z"⟩, prog_9_method_15_code, 3, (some .boolean), false, 1, 4, false),
  (⟨"TypedTermReader$TypePool", "measureWithParts", "(I)Z"⟩, prog_9_method_16_code, 6, (some .boolean), false, 2, 4, false),
  (⟨"TypedTermReader$TypePool", "unmeasuredPart", "(I)I"⟩, prog_9_method_17_code, 2, (some .int), false, 2, 4, false),
  (⟨"TypedTermReader$TermTree", "hasLargeType", "()Z"⟩, prog_7_method_8_code, 2, (some .boolean), false, 1, 9, false),
  (⟨"TypedTermReader$Text", "failAsWhole", "(I)V"⟩, prog_8_method_13_code, 2, none, false, 2, 1, false),
  (⟨"TypedTermReader$ShownTerm", "fill", "(LTypedTermReader$TermTree;ILTypedTermReader$TypePool;)V"⟩, prog_5_method_4_code, 6, none, false, 4, 10, false),
  (⟨"TypedTermReader$TypePool", "write", "(I[II)I"⟩, prog_9_method_19_code, 7, (some .int), false, 4, 4, false),
  (⟨"TypedTermReader$TypePool", "codeOf", "(I)I"⟩, prog_9_method_21_code, 2, (some .int), false, 2, 4, false),
  (⟨"TypedTermReader$TypePool", "putAside", "(II)I"⟩, prog_9_method_20_code, 3, (some .int), false, 3, 4, false),
  (⟨"TypedTermReader$ShownTerm", "putAside", "(II)I"⟩, prog_5_method_5_code, 3, (some .int), false, 3, 10, false),
  (⟨"TypedTermReaderLaw", "constant", "(LTypedTermReader;I[J)I"⟩, method_4_code, 4, (some .int), true, 3, 0, true),
  (⟨"TypedTermReader", "constant", "(I)I"⟩, prog_1_method_4_code, 2, (some .int), false, 2, 0, false),
  (⟨"TypedTermReader", "declareConstant", "()I"⟩, prog_1_method_10_code, 4, (some .int), false, 1, 0, false),
  (⟨"TypedTermReader", "canBeDeclared", "(I)Z"⟩, prog_1_method_14_code, 1, (some .boolean), true, 1, 0, false),
  (⟨"TypedTermReader", "faultOfConstant", "(II)I"⟩, prog_1_method_11_code, 3, (some .int), false, 3, 0, false),
  (⟨"TypedTermReader$ConstantTable", "add", "([BIII)I"⟩, prog_2_method_2_code, 6, (some .int), false, 5, 5, false),
  (⟨"TypedTermReaderLaw", "type", "(LTypedTermReader;I[J)I"⟩, method_5_code, 4, (some .int), true, 3, 0, true),
  (⟨"TypedTermReader", "type", "(I)I"⟩, prog_1_method_5_code, 2, (some .int), false, 2, 0, false),
  (⟨"TypedTermReader", "declareType", "()I"⟩, prog_1_method_12_code, 4, (some .int), false, 1, 0, false),
  (⟨"TypedTermReader", "faultOfType", "(II)I"⟩, prog_1_method_13_code, 3, (some .int), false, 3, 0, false),
  (⟨"TypedTermReader$TypeTable", "add", "([BIII)V"⟩, prog_11_method_2_code, 6, none, false, 5, 3, false),
  (⟨"TypedTermReaderLaw", "symbol", "(LTypedTermReader;I[J)I"⟩, method_6_code, 4, (some .int), true, 3, 0, true),
  (⟨"TypedTermReader", "symbol", "(I)I"⟩, prog_1_method_8_code, 2, (some .int), false, 2, 0, false),
  (⟨"TypedTermReader$ShownTerm", "has", "(I)Z"⟩, prog_5_method_2_code, 2, (some .boolean), false, 2, 10, false),
  (⟨"TypedTermReaderLaw", "typeSymbol", "(LTypedTermReader;II[J)I"⟩, method_7_code, 5, (some .int), true, 4, 0, true),
  (⟨"TypedTermReader", "typeSymbol", "(II)I"⟩, prog_1_method_9_code, 3, (some .int), false, 3, 0, false),
  (⟨"TypedTermReader$ShownTerm", "hasInType", "(II)Z"⟩, prog_5_method_3_code, 3, (some .boolean), false, 3, 10, false),
  (⟨"TypedTermReaderModel", "<init>", "()V"⟩, prog_13_method_1_code, 7, none, false, 1, 11, false),
  (⟨"TypedTermReaderModel", "node", "(III)I"⟩, prog_13_method_44_code, 4, (some .int), false, 4, 11, false),
  (⟨"TypedTermReaderModel", "function", "(II)I"⟩, prog_13_method_46_code, 3, (some .int), false, 3, 11, false),
  (⟨"TypedTermReaderModel", "spell", "([JILjava/lang/String;)V"⟩, prog_13_method_4_code, 4, none, true, 3, 11, false),
  (⟨"TypedTermReaderModel", "put", "([JIII)V"⟩, prog_13_method_3_code, 4, none, true, 4, 11, false),
  (⟨"TypedTermReaderModel", "thrown", "()I"⟩, prog_13_method_2_code, 1, (some .int), false, 1, 11, false),
  (⟨"TypedTermReaderModel", "feed", "(IIIII)Z"⟩, prog_13_method_8_code, 8, (some .boolean), false, 6, 11, false),
  (⟨"TypedTermReaderModel", "term", "(I)I"⟩, prog_13_method_66_code, 4, (some .int), false, 2, 11, false),
  (⟨"TypedTermReaderModel", "takes", "(I)Z"⟩, prog_13_method_64_code, 2, (some .boolean), false, 2, 11, false),
  (⟨"TypedTermReaderModel", "begin", "(I)V"⟩, prog_13_method_22_code, 3, none, false, 2, 11, false),
  (⟨"TypedTermReaderModel", "readTerm", "()I"⟩, prog_13_method_36_code, 5, (some .int), false, 1, 11, false),
  (⟨"TypedTermReaderModel", "readOperand", "()I"⟩, prog_13_method_37_code, 5, (some .int), false, 1, 11, false),
  (⟨"TypedTermReaderModel", "look", "(I)I"⟩, prog_13_method_20_code, 3, (some .int), false, 2, 11, false),
  (⟨"TypedTermReaderModel", "scan", "()V"⟩, prog_13_method_19_code, 2, none, false, 1, 11, false),
  (⟨"TypedTermReaderModel", "behindBlanks", "(I)I"⟩, prog_13_method_13_code, 5, (some .int), false, 2, 11, false),
  (⟨"TypedTermReaderModel", "byteAt", "(I)I"⟩, prog_13_method_12_code, 2, (some .int), false, 2, 11, false),
  (⟨"TypedTermReaderModel", "die", "(II)V"⟩, prog_13_method_9_code, 3, none, false, 3, 11, false),
  (⟨"TypedTermReaderModel", "isLetter", "(I)Z"⟩, prog_13_method_10_code, 1, (some .boolean), true, 1, 11, false),
  (⟨"TypedTermReaderModel", "scanWord", "(I)V"⟩, prog_13_method_17_code, 6, none, false, 2, 11, false),
  (⟨"TypedTermReaderModel", "isDigit", "(I)Z"⟩, prog_13_method_11_code, 1, (some .boolean), true, 1, 11, false),
  (⟨"TypedTermReaderModel", "isNext", "(ILjava/lang/String;)Z"⟩, prog_13_method_14_code, 5, (some .boolean), false, 3, 11, false),
  (⟨"TypedTermReaderModel", "sign", "(II)V"⟩, prog_13_method_15_code, 3, none, false, 3, 11, false),
  (⟨"TypedTermReaderModel", "find", "([JI[JI)I"⟩, prog_13_method_7_code, 5, (some .int), true, 4, 11, false),
  (⟨"TypedTermReaderModel", "alike", "([JI[JI)Z"⟩, prog_13_method_5_code, 4, (some .boolean), true, 4, 11, false),
  (⟨"TypedTermReaderModel", "write", "([JI[JI)V"⟩, prog_13_method_6_code, 5, none, true, 4, 11, false),
  (⟨"TypedTermReaderModel", "scanNumeral", "()V"⟩, prog_13_method_18_code, 3, none, false, 1, 11, false),
  (⟨"TypedTermReaderModel", "scanSign", "(I)V"⟩, prog_13_method_16_code, 2, none, false, 2, 11, false),
  (⟨"TypedTermReaderModel", "readBinder", "(I)I"⟩, prog_13_method_42_code, 6, (some .int), false, 2, 11, false),
  (⟨"TypedTermReaderModel", "enter", "()V"⟩, prog_13_method_23_code, 1, none, false, 1, 11, false),
  (⟨"TypedTermReaderModel", "readVariable", "()V"⟩, prog_13_method_43_code, 2, none, false, 1, 11, false),
  (⟨"TypedTermReaderModel", "need", "(I)V"⟩, prog_13_method_21_code, 2, none, false, 2, 11, false),
  (⟨"TypedTermReaderModel", "readType", "()I"⟩, prog_13_method_26_code, 9, (some .int), false, 1, 11, false),
  (⟨"TypedTermReaderModel", "readTypeAtom", "()I"⟩, prog_13_method_28_code, 7, (some .int), false, 1, 11, false),
  (⟨"TypedTermReaderModel", "readInParentheses", "()I"⟩, prog_13_method_27_code, 2, (some .int), false, 1, 11, false),
  (⟨"TypedTermReaderModel", "written", "(II)I"⟩, prog_13_method_24_code, 3, (some .int), false, 3, 11, false),
  (⟨"TypedTermReaderModel", "takesBefore", "(II)V"⟩, prog_13_method_25_code, 4, none, false, 3, 11, false),
  (⟨"TypedTermReaderModel", "part", "(IIIIII)I"⟩, prog_13_method_29_code, 7, (some .int), false, 7, 11, false),
  (⟨"TypedTermReaderModel", "constantPart", "(IZ)I"⟩, prog_13_method_31_code, 3, (some .int), false, 3, 11, false),
  (⟨"TypedTermReaderModel", "applied", "(II)I"⟩, prog_13_method_32_code, 3, (some .int), false, 3, 11, false),
  (⟨"TypedTermReaderModel", "most", "(II)I"⟩, prog_13_method_30_code, 2, (some .int), true, 2, 11, false),
  (⟨"TypedTermReaderModel", "readAtoms", "()I"⟩, prog_13_method_39_code, 3, (some .int), false, 1, 11, false),
  (⟨"TypedTermReaderModel", "readAtom", "()I"⟩, prog_13_method_40_code, 3, (some .int), false, 1, 11, false),
  (⟨"TypedTermReaderModel", "isAtom", "(I)Z"⟩, prog_13_method_38_code, 1, (some .boolean), true, 1, 11, false),
  (⟨"TypedTermReaderModel", "readOpen", "()I"⟩, prog_13_method_41_code, 5, (some .int), false, 1, 11, false),
  (⟨"TypedTermReaderModel", "isOperator", "(I)Z"⟩, prog_13_method_33_code, 1, (some .boolean), true, 1, 11, false),
  (⟨"TypedTermReaderModel", "settled", "(III)I"⟩, prog_13_method_35_code, 6, (some .int), false, 4, 11, false),
  (⟨"TypedTermReaderModel", "strength", "(I)I"⟩, prog_13_method_34_code, 1, (some .int), true, 1, 11, false),
  (⟨"TypedTermReaderModel", "measure", "(I)V"⟩, prog_13_method_65_code, 2, none, false, 2, 11, false),
  (⟨"TypedTermReaderModel", "areNamed", "(I)Z"⟩, prog_13_method_54_code, 3, (some .boolean), false, 2, 11, false),
  (⟨"TypedTermReaderModel", "boundAt", "(I)I"⟩, prog_13_method_52_code, 3, (some .int), false, 2, 11, false),
  (⟨"TypedTermReaderModel", "constantOf", "(I)I"⟩, prog_13_method_53_code, 2, (some .int), false, 2, 11, false),
  (⟨"TypedTermReaderModel", "make", "(I)I"⟩, prog_13_method_57_code, 7, (some .int), false, 2, 11, false),
  (⟨"TypedTermReaderModel", "make", "(II)I"⟩, prog_13_method_55_code, 3, (some .int), false, 3, 11, false),
  (⟨"TypedTermReaderModel", "use", "(I)I"⟩, prog_13_method_50_code, 2, (some .int), false, 2, 11, false),
  (⟨"TypedTermReaderModel", "copy", "(I)I"⟩, prog_13_method_49_code, 4, (some .int), false, 2, 11, false),
  (⟨"TypedTermReaderModel", "unknown", "()I"⟩, prog_13_method_45_code, 1, (some .int), false, 1, 11, false),
  (⟨"TypedTermReaderModel", "makeConstant", "(I)I"⟩, prog_13_method_58_code, 4, (some .int), false, 2, 11, false),
  (⟨"TypedTermReaderModel", "join", "(II)V"⟩, prog_13_method_48_code, 7, none, false, 3, 11, false),
  (⟨"TypedTermReaderModel", "last", "(I)I"⟩, prog_13_method_47_code, 3, (some .int), false, 2, 11, false),
  (⟨"TypedTermReaderModel", "makeNumeral", "(I)I"⟩, prog_13_method_56_code, 4, (some .int), false, 2, 11, false),
  (⟨"TypedTermReaderModel", "makeAbstraction", "(I)I"⟩, prog_13_method_59_code, 5, (some .int), false, 2, 11, false),
  (⟨"TypedTermReaderModel", "meant", "(I)I"⟩, prog_13_method_51_code, 6, (some .int), false, 2, 11, false),
  (⟨"TypedTermReaderModel", "weighAll", "()V"⟩, prog_13_method_61_code, 3, none, false, 1, 11, false),
  (⟨"TypedTermReaderModel", "weigh", "(I)V"⟩, prog_13_method_60_code, 7, none, false, 2, 11, false),
  (⟨"TypedTermReaderModel", "keepTerm", "()V"⟩, prog_13_method_63_code, 2, none, false, 1, 11, false),
  (⟨"TypedTermReaderModel", "writeRow", "(II)I"⟩, prog_13_method_62_code, 6, (some .int), false, 3, 11, false),
  (⟨"TypedTermReaderModel", "constant", "(I)I"⟩, prog_13_method_67_code, 6, (some .int), false, 2, 11, false),
  (⟨"TypedTermReaderModel", "type", "(I)I"⟩, prog_13_method_68_code, 3, (some .int), false, 2, 11, false),
  (⟨"TypedTermReaderModel", "fault", "()I"⟩, prog_13_method_69_code, 1, (some .int), false, 1, 11, false),
  (⟨"TypedTermReaderModel", "place", "()I"⟩, prog_13_method_70_code, 1, (some .int), false, 1, 11, false),
  (⟨"TypedTermReaderModel", "symbol", "(I)I"⟩, prog_13_method_71_code, 2, (some .int), false, 2, 11, false),
  (⟨"TypedTermReaderModel", "typeSymbol", "(II)I"⟩, prog_13_method_72_code, 3, (some .int), false, 3, 11, false)]
def aStr : List (List Nat) := [[116, 104, 101, 114, 101, 32, 97, 114, 101, 32, 110, 111, 116, 32, 115, 111, 32, 109, 97, 110, 121, 32, 98, 121, 116, 101, 115], [110, 111, 32, 115, 117, 99, 104, 32, 115, 121, 109, 98, 111, 108], [110, 111, 32, 115, 117, 99, 104, 32, 115, 121, 109, 98, 111, 108, 32, 111, 102, 32, 97, 32, 116, 121, 112, 101], [61, 32, 84, 32, 70, 32, 126, 32, 47, 92, 32, 92, 47, 32, 61, 61, 62, 32, 33, 32, 63, 32, 64, 32, 48, 32, 83, 85, 67], [], [98, 111, 111, 108, 32, 105, 110, 100, 32, 45, 62, 32, 110, 117, 109], [84], [70], [83, 85, 67], [98, 111, 111, 108], [105, 110, 100], [110, 117, 109], [60, 61, 62], [61, 61, 62], [92, 47], [47, 92], [60, 61], [60, 45], [58, 61], [45, 62], [98, 121], [105, 110]]
def aSrf : List (String × Nat × String) := [("TypedTermReader", 78, "there are not so many bytes"), ("TypedTermReader", 131, "no such symbol"), ("TypedTermReader", 142, "no such symbol of a type"), ("TypedTermReader$ConstantTable", 11, "= T F ~ /\\ \\/ ==> ! ? @ 0 SUC"), ("TypedTermReader$Text", 17, ""), ("TypedTermReader$TypeTable", 11, "bool ind -> num"), ("TypedTermReaderModel", 172, "T"), ("TypedTermReaderModel", 178, "F"), ("TypedTermReaderModel", 180, "SUC"), ("TypedTermReaderModel", 185, "bool"), ("TypedTermReaderModel", 187, "ind"), ("TypedTermReaderModel", 189, "num"), ("TypedTermReaderModel", 236, "<=>"), ("TypedTermReaderModel", 246, "==>"), ("TypedTermReaderModel", 248, "\\/"), ("TypedTermReaderModel", 250, "/\\"), ("TypedTermReaderModel", 252, "<="), ("TypedTermReaderModel", 254, "<-"), ("TypedTermReaderModel", 256, ":="), ("TypedTermReaderModel", 258, "->"), ("TypedTermReaderModel", 270, "by"), ("TypedTermReaderModel", 272, "in")]
def aTab : List Int32 := [5, 2, -1000, 2, -1000, 0, 1, 0, 1, 0, 3, 2, 0, 0, 5, 2, 0, 2, 0, 0, 5, 2, 0, 2, 0, 0, 5, 2, 0, 2, 0, 0, 5, 2, 2, -1000, 0, 0, 5, 2, 2, -1000, 0, 0, 5, 2, 2, -1000, 0, -1000, 1, 3, 3, 2, 3, 3]
def aNf (c : Nat) : Nat := match aCl[c]? with
  | some q => q.2.2
  | none => 0
end
section
/-! WHAT A PROGRAM CHECKS of the tables: the code is the bytes', the words are the Statement's -/
def a_il (i : Instr) : Nat := match i with
  | .bipush _ => 2
  | .newarray _ => 2
  | .ldc _ => 2
  | .iload _ => 2
  | .aload _ => 2
  | .istore _ => 2
  | .astore _ => 2
  | .sipush _ => 3
  | .ldc_w _ => 3
  | .iinc _ _ => 3
  | .if_icmp _ _ => 3
  | .ifCond _ _ => 3
  | .goto _ => 3
  | .getfield _ => 3
  | .putfield _ => 3
  | .getstatic _ => 3
  | .new _ => 3
  | .invokespecial _ => 3
  | .invokevirtual _ => 3
  | .invokestatic _ => 3
  | _ => 1
def a_sw (i : Instr) : Bool := match i with
  | .tableswitch _ _ _ _ => true
  | .lookupswitch _ _ => true
  | _ => false
def a_dk (b : ByteArray) (pc : Nat) (i : Instr) : Bool := match decode b pc with
  | .ok (j, n) => decide (j = i) && (a_sw i || decide (n = a_il i))
  | .error _ => false
/-- the targets of jumps -/
def a_br (pc : Nat) (ai : aI) : Bool := match ai.1 with
  | .goto o => decide ((pc : Int) + o = (ai.2.1 : Int))
  | .if_icmp _ o => decide ((pc : Int) + o = (ai.2.1 : Int))
  | .ifCond _ o => decide ((pc : Int) + o = (ai.2.1 : Int))
  | .tableswitch d lo hi offs => decide (0 ≤ (pc : Int) + d) && offs.toList.all (fun o => decide (0 ≤ (pc : Int) + o)) && decide (lo ≤ hi) && decide ((hi - lo + 1).toNat = offs.size)
  | .lookupswitch d ps => decide (0 ≤ (pc : Int) + d) && ps.toList.all (fun q => decide (0 ≤ (pc : Int) + q.2)) && (ps.toList.zip (ps.toList.drop 1)).all (fun (a, next) => a.1 < next.1)
  | _ => true
def a_cn (c : Nat) : vw_C := aCl.getD c ("", aT12, 0)
def a_lnk (own : String) (i : Nat) (y : MethodName) (b : Nat) : Cond := if b % 2 = 1 then .methodLinkNest own i y "TypedTermReader" else .methodLink own i y
def a_need (my : aMe) (ai : aI) : List Cond := match ai.1 with
  | .getfield i => [.fieldLink my.1.cls i (a_cn (ai.2.1 / 100)).1 ((a_cn (ai.2.1 / 100)).2.1 (ai.2.1 % 100)).2.1 ((a_cn (ai.2.1 / 100)).2.1 (ai.2.1 % 100)).2.2.1]
  | .putfield i => [.fieldLink my.1.cls i (a_cn (ai.2.1 / 100)).1 ((a_cn (ai.2.1 / 100)).2.1 (ai.2.1 % 100)).2.1 ((a_cn (ai.2.1 / 100)).2.1 (ai.2.1 % 100)).2.2.1]
  | .new i => if ai.2.2.1 = 0 then [.classLink my.1.cls i (a_cn ai.2.1).1, .instantiable (a_cn ai.2.1).1 (a_cn ai.2.1).2.2, .initialized (a_cn ai.2.1).1] else []
  | .newarray t => [.arrayClass (newarray.typeOf t)]
  | .ldc i => if ai.2.2.1 = 0 then [.constant my.1.cls i (Int32.ofNat ai.2.1)] else []
  | .ldc_w i => if ai.2.2.1 = 0 then [.constant my.1.cls i (Int32.ofNat ai.2.1)] else []
  | .invokespecial i => if ai.2.1 = 1000 then [.methodLink my.1.cls i objectInit] else (match aMeL[ai.2.1]? with
    | some mz => [a_lnk my.1.cls i mz.1 ai.2.2.1, .instanceMethod mz.1, .initialized mz.1.cls]
    | none => [])
  | .invokevirtual i => (match aMeL[ai.2.1]? with
    | some mz => [a_lnk my.1.cls i mz.1 ai.2.2.1, .instanceMethod mz.1, .selects mz.1.cls mz.1 mz.1, .initialized mz.1.cls]
    | none => [])
  | .invokestatic i => (match aMeL[ai.2.1]? with
    | some mz => [a_lnk my.1.cls i mz.1 ai.2.2.1, .static mz.1, .initialized mz.1.cls]
    | none => [])
  | _ => []
/-- of a field: its own class declares it, its type's code is right; a final one is written in its class's constructor -/
def a_fok (my : aMe) (ai : aI) : Bool := match ai.1 with
  | .getfield _ => decide (ai.2.1 / 100 < 12 ∧ ai.2.1 % 100 < (a_cn (ai.2.1 / 100)).2.2 ∧ ((a_cn (ai.2.1 / 100)).2.1 (ai.2.1 % 100)).1 = (a_cn (ai.2.1 / 100)).1 ∧ ai.2.2.1 / 2 = aFt (ai.2.1 / 100) (ai.2.1 % 100))
  | .putfield _ => decide (ai.2.1 / 100 < 12 ∧ ai.2.1 % 100 < (a_cn (ai.2.1 / 100)).2.2 ∧ ((a_cn (ai.2.1 / 100)).2.1 (ai.2.1 % 100)).1 = (a_cn (ai.2.1 / 100)).1 ∧ ai.2.2.1 / 2 = aFt (ai.2.1 / 100) (ai.2.1 % 100) ∧ (((a_cn (ai.2.1 / 100)).2.1 (ai.2.1 % 100)).2.2.2 = true → (my.1.name = "<init>" ∧ my.1.cls = (a_cn (ai.2.1 / 100)).1)))
  | .new _ => decide (ai.2.2.1 = 1 ∨ (ai.2.1 < 12 ∧ ai.2.2.1 = 0))
  | .invokespecial _ => (match aMeL[ai.2.1]? with
    | some mz => decide (mz.1.name = "<init>" ∧ mz.2.2.2.2.1 = false ∧ mz.2.2.2.2.2.1 = ai.2.2.1 / 2)
    | none => decide (ai.2.1 = 1000 ∨ ai.2.1 = 1100))
  | .invokevirtual _ => (match aMeL[ai.2.1]? with
    | some mz => decide (mz.2.2.2.2.1 = false ∧ mz.2.2.2.2.2.1 = ai.2.2.1 / 2)
    | none => decide (ai.2.1 = 1003 ∨ ai.2.1 = 1004))
  | .invokestatic _ => (match aMeL[ai.2.1]? with
    | some mz => decide (mz.2.2.2.2.1 = true ∧ mz.2.2.2.2.2.1 = ai.2.2.1 / 2)
    | none => decide (ai.2.1 = 1001 ∨ ai.2.1 = 1002 ∨ ai.2.1 = 1005))
  | _ => true
def a_wok (ws : List Cond) (is : List Nat) : Bool := decide (ws.length = is.length) && (ws.zip is).all (fun q => match aWs[q.2 / 32]? with
  | some l => (match l[q.2 % 32]? with
    | some w => decide (w = q.1)
    | none => false)
  | none => false)
def a_ck1 (my : aMe) (pc : Nat) (ai : aI) : Bool := a_dk my.2.1 pc ai.1 && a_br pc ai && a_fok my ai && a_wok (a_need my ai) ai.2.2.2
def a_ckL (my : aMe) : Nat → List (Option aI) → Bool
  | _, [] => true
  | pc, none :: l => a_ckL my (pc + 1) l
  | pc, some ai :: l => a_ck1 my pc ai && a_ckL my (pc + 1) l
def a_ckM (y : Nat) : Bool := match aMeL[y]?, aMs[y]? with
  | some my, some l => a_ckL my 0 l
  | _, _ => false
def a_subl : List Cond → List Cond → Bool
  | [], _ => true
  | _ :: _, [] => false
  | w :: l, v :: r => if w = v then a_subl l r else a_subl (w :: l) r
theorem a_subl_mem : ∀ (big D : List Cond), a_subl D big = true → ∀ w ∈ D, w ∈ big
  | _, [], _, w, h => by cases h
  | [], _ :: _, h, _, _ => by cases h
  | v :: r, u :: l, h, w, hw => by
    unfold a_subl at h
    by_cases e : u = v
    · rw [if_pos e] at h
      rcases List.mem_cons.mp hw with rfl | hw
      · rw [e]; exact List.mem_cons_self
      · exact List.mem_cons_of_mem _ (a_subl_mem r l h w hw)
    · rw [if_neg e] at h
      exact List.mem_cons_of_mem _ (a_subl_mem r (u :: l) h w hw)
set_option maxRecDepth 100000 in
theorem a_ws_ok : a_subl aWs.flatten lw_tbl = true := by decide +kernel
end
section
/-! the tables are right, method by method (printed) -/
set_option maxRecDepth 100000 in
theorem a_ckg0 : ∀ k, k < 4 → a_ckM (k + 0) = true := by decide +kernel
set_option maxRecDepth 100000 in
theorem a_ckg4 : ∀ k, k < 12 → a_ckM (k + 4) = true := by decide +kernel
set_option maxRecDepth 100000 in
theorem a_ckg16 : ∀ k, k < 20 → a_ckM (k + 16) = true := by decide +kernel
set_option maxRecDepth 100000 in
theorem a_ckg36 : ∀ k, k < 12 → a_ckM (k + 36) = true := by decide +kernel
set_option maxRecDepth 100000 in
theorem a_ckg48 : ∀ k, k < 14 → a_ckM (k + 48) = true := by decide +kernel
set_option maxRecDepth 100000 in
theorem a_ckg62 : ∀ k, k < 13 → a_ckM (k + 62) = true := by decide +kernel
end
section
/-! the tables are right, method by method (printed) -/
set_option maxRecDepth 100000 in
theorem a_ckg75 : ∀ k, k < 14 → a_ckM (k + 75) = true := by decide +kernel
set_option maxRecDepth 100000 in
theorem a_ckg89 : ∀ k, k < 11 → a_ckM (k + 89) = true := by decide +kernel
set_option maxRecDepth 100000 in
theorem a_ckg100 : ∀ k, k < 14 → a_ckM (k + 100) = true := by decide +kernel
set_option maxRecDepth 100000 in
theorem a_ckg114 : ∀ k, k < 13 → a_ckM (k + 114) = true := by decide +kernel
set_option maxRecDepth 100000 in
theorem a_ckg127 : ∀ k, k < 9 → a_ckM (k + 127) = true := by decide +kernel
set_option maxRecDepth 100000 in
theorem a_ckg136 : ∀ k, k < 3 → a_ckM (k + 136) = true := by decide +kernel
end
section
/-! the tables are right, method by method (printed) -/
set_option maxRecDepth 100000 in
theorem a_ckg139 : ∀ k, k < 8 → a_ckM (k + 139) = true := by decide +kernel
set_option maxRecDepth 100000 in
theorem a_ckg147 : ∀ k, k < 7 → a_ckM (k + 147) = true := by decide +kernel
set_option maxRecDepth 100000 in
theorem a_ckg154 : ∀ k, k < 8 → a_ckM (k + 154) = true := by decide +kernel
set_option maxRecDepth 100000 in
theorem a_ckg162 : ∀ k, k < 3 → a_ckM (k + 162) = true := by decide +kernel
set_option maxRecDepth 100000 in
theorem a_ckg165 : ∀ k, k < 6 → a_ckM (k + 165) = true := by decide +kernel
set_option maxRecDepth 100000 in
theorem a_ckg171 : ∀ k, k < 8 → a_ckM (k + 171) = true := by decide +kernel
end
section
/-! the tables are right, method by method (printed) -/
set_option maxRecDepth 100000 in
theorem a_ckg179 : ∀ k, k < 8 → a_ckM (k + 179) = true := by decide +kernel
set_option maxRecDepth 100000 in
theorem a_ckg187 : ∀ k, k < 6 → a_ckM (k + 187) = true := by decide +kernel
set_option maxRecDepth 100000 in
theorem a_ckg193 : ∀ k, k < 5 → a_ckM (k + 193) = true := by decide +kernel
set_option maxRecDepth 100000 in
theorem a_ckg198 : ∀ k, k < 3 → a_ckM (k + 198) = true := by decide +kernel
set_option maxRecDepth 100000 in
theorem a_ckg201 : ∀ k, k < 6 → a_ckM (k + 201) = true := by decide +kernel
set_option maxRecDepth 100000 in
theorem a_ckg207 : ∀ k, k < 1 → a_ckM (k + 207) = true := by decide +kernel
end
section
theorem a_ckA : ∀ y, y < 208 → a_ckM y = true := by
  intro y hy
  by_cases h0 : y < 4
  · have := a_ckg0 (y - 0) (by omega); rwa [show y - 0 + 0 = y by omega] at this
  by_cases h4 : y < 16
  · have := a_ckg4 (y - 4) (by omega); rwa [show y - 4 + 4 = y by omega] at this
  by_cases h16 : y < 36
  · have := a_ckg16 (y - 16) (by omega); rwa [show y - 16 + 16 = y by omega] at this
  by_cases h36 : y < 48
  · have := a_ckg36 (y - 36) (by omega); rwa [show y - 36 + 36 = y by omega] at this
  by_cases h48 : y < 62
  · have := a_ckg48 (y - 48) (by omega); rwa [show y - 48 + 48 = y by omega] at this
  by_cases h62 : y < 75
  · have := a_ckg62 (y - 62) (by omega); rwa [show y - 62 + 62 = y by omega] at this
  by_cases h75 : y < 89
  · have := a_ckg75 (y - 75) (by omega); rwa [show y - 75 + 75 = y by omega] at this
  by_cases h89 : y < 100
  · have := a_ckg89 (y - 89) (by omega); rwa [show y - 89 + 89 = y by omega] at this
  by_cases h100 : y < 114
  · have := a_ckg100 (y - 100) (by omega); rwa [show y - 100 + 100 = y by omega] at this
  by_cases h114 : y < 127
  · have := a_ckg114 (y - 114) (by omega); rwa [show y - 114 + 114 = y by omega] at this
  by_cases h127 : y < 136
  · have := a_ckg127 (y - 127) (by omega); rwa [show y - 127 + 127 = y by omega] at this
  by_cases h136 : y < 139
  · have := a_ckg136 (y - 136) (by omega); rwa [show y - 136 + 136 = y by omega] at this
  by_cases h139 : y < 147
  · have := a_ckg139 (y - 139) (by omega); rwa [show y - 139 + 139 = y by omega] at this
  by_cases h147 : y < 154
  · have := a_ckg147 (y - 147) (by omega); rwa [show y - 147 + 147 = y by omega] at this
  by_cases h154 : y < 162
  · have := a_ckg154 (y - 154) (by omega); rwa [show y - 154 + 154 = y by omega] at this
  by_cases h162 : y < 165
  · have := a_ckg162 (y - 162) (by omega); rwa [show y - 162 + 162 = y by omega] at this
  by_cases h165 : y < 171
  · have := a_ckg165 (y - 165) (by omega); rwa [show y - 165 + 165 = y by omega] at this
  by_cases h171 : y < 179
  · have := a_ckg171 (y - 171) (by omega); rwa [show y - 171 + 171 = y by omega] at this
  by_cases h179 : y < 187
  · have := a_ckg179 (y - 179) (by omega); rwa [show y - 179 + 179 = y by omega] at this
  by_cases h187 : y < 193
  · have := a_ckg187 (y - 187) (by omega); rwa [show y - 187 + 187 = y by omega] at this
  by_cases h193 : y < 198
  · have := a_ckg193 (y - 193) (by omega); rwa [show y - 193 + 193 = y by omega] at this
  by_cases h198 : y < 201
  · have := a_ckg198 (y - 198) (by omega); rwa [show y - 198 + 198 = y by omega] at this
  by_cases h201 : y < 207
  · have := a_ckg201 (y - 201) (by omega); rwa [show y - 201 + 201 = y by omega] at this
  have := a_ckg207 (y - 207) (by omega); rwa [show y - 207 + 207 = y by omega] at this
end
section
/-! the words that keep: they go down to every callee; the nest's links go by the state -/
def a_isN (w : Cond) : Bool := match w with
  | .methodLinkNest _ _ _ _ => true
  | .fieldLinkNest _ _ _ _ _ _ => true
  | _ => false
def lw_good : List Cond := lw_tbl.filter goodWord
theorem lw_good_in {w : Cond} (h : w ∈ lw_tbl) (g : goodWord w = true) : w ∈ lw_good := List.mem_filter.mpr ⟨h, g⟩
theorem lw_good_tbl {w : Cond} (h : w ∈ lw_good) : w ∈ lw_tbl := (List.mem_filter.mp h).1
theorem lw_good_ok : GoodIn lw_good lw_good := fun w h => ⟨h, good_of_word (List.mem_filter.mp h).2⟩
set_option maxRecDepth 100000 in
theorem a_ws_good : aWs.flatten.all (fun w => goodWord w || a_isN w) = true := by decide +kernel
/-- a word that an instruction needs -/
theorem a_ws_at {ws : List Cond} {is : List Nat} (h : a_wok ws is = true) : ∀ w ∈ ws, w ∈ lw_tbl ∧ (goodWord w = true ∨ a_isN w = true) := by
  intro w hw
  unfold a_wok at h
  rw [Bool.and_eq_true] at h
  obtain ⟨h1, h2⟩ := h
  have hl : ws.length = is.length := by simpa using h1
  obtain ⟨k, hk, rfl⟩ := List.mem_iff_getElem.mp hw
  have hz : (ws[k], is[k]'(by omega)) ∈ ws.zip is := by
    rw [List.mem_iff_getElem]
    exact ⟨k, by simp; omega, by simp⟩
  have h3 := List.all_eq_true.mp h2 _ hz
  dsimp only at h3
  cases ha : aWs[is[k]'(by omega) / 32]? with
  | none => rw [ha] at h3; cases h3
  | some l =>
    rw [ha] at h3
    dsimp only at h3
    cases hb : l[is[k]'(by omega) % 32]? with
    | none => rw [hb] at h3; cases h3
    | some v =>
      rw [hb] at h3
      have e : v = ws[k] := by simpa using h3
      have hm : ws[k] ∈ aWs.flatten := List.mem_flatten.mpr ⟨l, List.mem_of_getElem? ha, by rw [← e]; exact List.mem_of_getElem? hb⟩
      refine ⟨a_subl_mem _ _ a_ws_ok _ hm, ?_⟩
      have g := List.all_eq_true.mp a_ws_good _ hm
      rcases Bool.or_eq_true_iff.mp g with g | g
      · exact Or.inl g
      · exact Or.inr g
/-- what the check says of one instruction -/
theorem a_ckL_at {my : aMe} : ∀ (l : List (Option aI)) (p0 k : Nat) (ai : aI), a_ckL my p0 l = true → l[k]? = some (some ai) → a_ck1 my (p0 + k) ai = true
  | [], _, k, ai, _, h => by simp at h
  | none :: l, p0, 0, ai, _, h => by cases h
  | none :: l, p0, k + 1, ai, hc, h => by
    have := a_ckL_at l (p0 + 1) k ai hc h
    rwa [show p0 + 1 + k = p0 + (k + 1) by omega] at this
  | some x :: l, p0, 0, ai, hc, h => by
    cases h
    unfold a_ckL at hc
    rw [Bool.and_eq_true] at hc
    exact hc.1
  | some x :: l, p0, k + 1, ai, hc, h => by
    unfold a_ckL at hc
    rw [Bool.and_eq_true] at hc
    have := a_ckL_at l (p0 + 1) k ai hc.2 h
    rwa [show p0 + 1 + k = p0 + (k + 1) by omega] at this
theorem aMs_len : aMs.length = 208 := by decide +kernel
theorem a_code_ok {y pc : Nat} {ai : aI} (h : aCode y pc = some ai) : ∃ my, aMeL[y]? = some my ∧ a_ck1 my pc ai = true := by
  unfold aCode at h
  cases hl : aMs[y]? with
  | none => rw [hl] at h; cases h
  | some l =>
    rw [hl] at h
    dsimp only at h
    have hy : y < 208 := by rw [← aMs_len]; exact (List.getElem?_eq_some_iff.mp hl).1
    have hc := a_ckA y hy
    unfold a_ckM at hc
    rw [hl] at hc
    cases hm : aMeL[y]? with
    | none => rw [hm] at hc; cases hc
    | some my =>
      rw [hm] at hc
      dsimp only at hc
      cases hp : l[pc]? with
      | none => rw [hp] at h; cases h
      | some o =>
        rw [hp] at h
        dsimp only at h
        subst h
        have := a_ckL_at l 0 pc ai hc hp
        rw [Nat.zero_add] at this
        exact ⟨my, rfl, this⟩
theorem a_dk_ok {b : ByteArray} {pc : Nat} {i : Instr} (h : a_dk b pc i = true) : ∃ n, decode b pc = .ok (i, n) ∧ (a_sw i = true ∨ n = a_il i) := by
  unfold a_dk at h
  split at h
  · rename_i j n hd
    rw [Bool.and_eq_true, Bool.or_eq_true] at h
    have e : j = i := by simpa using h.1
    subst e
    exact ⟨n, hd, h.2.imp id (fun q => by simpa using q)⟩
  · cases h
end
section
/-! THE CLASSES' TABLES, and the steps that touch the heap -/
def aYs : List (Nat → FieldType) := [aY0, aY1, aY2, aY3, aY4, aY5, aY6, aY7, aY8, aY9, aY10, aY11, aY12, aY13]
def a_yt (c : Nat) : Nat → FieldType := aYs.getD c aY12
def a_tcode (t : FieldType) : Nat := match t with
  | .int => 0
  | .boolean => 1
  | .byte => 2
  | .char => 3
  | .short => 4
  | .long => 5
  | .object _ => 6
  | .array _ => 6
  | _ => 7
def a_clk (c : Nat) : Bool := (a_subl (u_ws (a_cn c).1 (a_cn c).2.1 (a_cn c).2.2) lw_tbl && (u_ws (a_cn c).1 (a_cn c).2.1 (a_cn c).2.2).all goodWord) && (List.range (a_cn c).2.2).all (fun k => decide (parseFieldDescriptor ((a_cn c).2.1 k).2.2.1 = some (a_yt c k)) && decide (aFt c k = a_tcode (a_yt c k)))
def a_cld (c : Nat) : Bool := (List.range (a_cn c).2.2).all (fun i => (List.range (a_cn c).2.2).all (fun j => decide (i = j) || decide (((a_cn c).2.1 i).2.1 ≠ ((a_cn c).2.1 j).2.1)))
set_option maxRecDepth 100000 in
theorem a_clk0 : a_clk 0 = true := by decide +kernel
set_option maxRecDepth 100000 in
theorem a_cld0 : a_cld 0 = true := by decide +kernel
set_option maxRecDepth 100000 in
theorem a_clk1 : a_clk 1 = true := by decide +kernel
set_option maxRecDepth 100000 in
theorem a_cld1 : a_cld 1 = true := by decide +kernel
set_option maxRecDepth 100000 in
theorem a_clk2 : a_clk 2 = true := by decide +kernel
set_option maxRecDepth 100000 in
theorem a_cld2 : a_cld 2 = true := by decide +kernel
set_option maxRecDepth 100000 in
theorem a_clk3 : a_clk 3 = true := by decide +kernel
set_option maxRecDepth 100000 in
theorem a_cld3 : a_cld 3 = true := by decide +kernel
set_option maxRecDepth 100000 in
theorem a_clk4 : a_clk 4 = true := by decide +kernel
set_option maxRecDepth 100000 in
theorem a_cld4 : a_cld 4 = true := by decide +kernel
set_option maxRecDepth 100000 in
theorem a_clk5 : a_clk 5 = true := by decide +kernel
set_option maxRecDepth 100000 in
theorem a_cld5 : a_cld 5 = true := by decide +kernel
set_option maxRecDepth 100000 in
theorem a_clk6 : a_clk 6 = true := by decide +kernel
set_option maxRecDepth 100000 in
theorem a_cld6 : a_cld 6 = true := by decide +kernel
set_option maxRecDepth 100000 in
theorem a_clk7 : a_clk 7 = true := by decide +kernel
set_option maxRecDepth 100000 in
theorem a_cld7 : a_cld 7 = true := by decide +kernel
set_option maxRecDepth 100000 in
theorem a_clk8 : a_clk 8 = true := by decide +kernel
set_option maxRecDepth 100000 in
theorem a_cld8 : a_cld 8 = true := by decide +kernel
set_option maxRecDepth 100000 in
theorem a_clk9 : a_clk 9 = true := by decide +kernel
set_option maxRecDepth 100000 in
theorem a_cld9 : a_cld 9 = true := by decide +kernel
set_option maxRecDepth 100000 in
theorem a_clk10 : a_clk 10 = true := by decide +kernel
set_option maxRecDepth 100000 in
theorem a_cld10 : a_cld 10 = true := by decide +kernel
set_option maxRecDepth 100000 in
theorem a_clk11 : a_clk 11 = true := by decide +kernel
set_option maxRecDepth 100000 in
theorem a_cld11 : a_cld 11 = true := by decide +kernel
theorem a_cl_all : ∀ c, c < 12 → a_clk c = true ∧ a_cld c = true
  | 0, _ => ⟨a_clk0, a_cld0⟩
  | 1, _ => ⟨a_clk1, a_cld1⟩
  | 2, _ => ⟨a_clk2, a_cld2⟩
  | 3, _ => ⟨a_clk3, a_cld3⟩
  | 4, _ => ⟨a_clk4, a_cld4⟩
  | 5, _ => ⟨a_clk5, a_cld5⟩
  | 6, _ => ⟨a_clk6, a_cld6⟩
  | 7, _ => ⟨a_clk7, a_cld7⟩
  | 8, _ => ⟨a_clk8, a_cld8⟩
  | 9, _ => ⟨a_clk9, a_cld9⟩
  | 10, _ => ⟨a_clk10, a_cld10⟩
  | 11, _ => ⟨a_clk11, a_cld11⟩
  | n + 12, h => absurd h (by omega)
theorem a_cl_at : ∀ c, c < 12 → aCl[c]? = some (a_cn c)
  | 0, _ => rfl
  | 1, _ => rfl
  | 2, _ => rfl
  | 3, _ => rfl
  | 4, _ => rfl
  | 5, _ => rfl
  | 6, _ => rfl
  | 7, _ => rfl
  | 8, _ => rfl
  | 9, _ => rfl
  | 10, _ => rfl
  | 11, _ => rfl
  | n + 12, h => absurd h (by omega)
theorem a_cl_in {c : Nat} (h : c < 12) : ∀ w ∈ u_ws (a_cn c).1 (a_cn c).2.1 (a_cn c).2.2, w ∈ lw_good := by
  have h1 := (a_cl_all c h).1
  unfold a_clk at h1
  rw [Bool.and_eq_true, Bool.and_eq_true] at h1
  exact fun w hw => lw_good_in (a_subl_mem _ _ h1.1.1 w hw) (List.all_eq_true.mp h1.1.2 w hw)
theorem a_cl_ty {c : Nat} (h : c < 12) : ∀ k, k < (a_cn c).2.2 → parseFieldDescriptor ((a_cn c).2.1 k).2.2.1 = some (a_yt c k) ∧ aFt c k = a_tcode (a_yt c k) := by
  intro k hk
  have h1 := (a_cl_all c h).1
  unfold a_clk at h1
  rw [Bool.and_eq_true] at h1
  have h2 := List.all_eq_true.mp h1.2 k (List.mem_range.mpr hk)
  simpa using h2
theorem a_cl_nm {c : Nat} (h : c < 12) : ∀ a, a < (a_cn c).2.2 → ∀ b, b < (a_cn c).2.2 → a ≠ b → ((a_cn c).2.1 a).2.1 ≠ ((a_cn c).2.1 b).2.1 := by
  intro a ha b hb hab
  have h1 := (a_cl_all c h).2
  unfold a_cld at h1
  have h2 := List.all_eq_true.mp (List.all_eq_true.mp h1 a (List.mem_range.mpr ha)) b (List.mem_range.mpr hb)
  simpa [hab] using h2
end
section
/-! THE METHODS' OWN WORDS -/
def a_cw (y : Nat) : Cond := match aMeL[y]? with
  | some m => .code m.1 m.2.1 m.2.2.1 m.2.2.2.1
  | none => .tt
def a_mok (y : Nat) : Bool := match aMeL[y]? with
  | some m => plainName m.1.cls && decide (m.1.cls ≠ "java/lang/invoke/MethodHandle" ∧ m.1.cls ≠ "java/lang/invoke/VarHandle") && decide ((parseMethodDescriptor m.1.desc).map (fun d => d.parameters.length) = some (if m.2.2.2.2.1 = true then m.2.2.2.2.2.1 else m.2.2.2.2.2.1 - 1)) && decide (m.2.2.1 ≤ 40) && (m.2.2.2.2.1 || (decide (1 ≤ m.2.2.2.2.2.1) && decide (m.2.2.2.2.2.2.1 < 12) && decide ((a_cn m.2.2.2.2.2.2.1).1 = m.1.cls)))
  | none => false
set_option maxRecDepth 100000 in
theorem a_mokA : ∀ y, y < 208 → a_mok y = true := by decide +kernel
def a_plain (y : Nat) : Bool := decide (1 ≤ y ∧ y < 208) && (match aMeL[y]? with
  | some m => !m.2.2.2.2.2.2.2
  | none => false)
set_option maxRecDepth 100000 in
theorem a_cws0 : [1, 2, 3, 4, 5, 6, 7, 8, 9, 10, 11, 12, 13, 14, 15, 16, 17, 18, 19, 21, 22, 23, 24, 25].map a_cw = [129, 137, 144, 149, 201, 204, 285, 303, 349, 387, 419, 425, 445, 514, 561, 565, 569, 573, 577, 585, 589, 659, 663, 667].filterMap (fun i => lw_tbl[i]?) := rfl
set_option maxRecDepth 100000 in
theorem a_cws1 : [26, 27, 28, 29, 30, 31, 32, 33, 34, 35, 36, 37, 38, 39, 40, 41, 42, 43, 44, 45, 46, 47, 48, 49].map a_cw = [671, 674, 678, 682, 686, 689, 693, 697, 700, 704, 708, 712, 716, 720, 723, 727, 734, 737, 740, 743, 747, 751, 756, 760].filterMap (fun i => lw_tbl[i]?) := rfl
set_option maxRecDepth 100000 in
theorem a_cws2 : [50, 51, 52, 53, 54, 55, 56, 57, 58, 59, 60, 61, 62, 63, 64, 65, 66, 67, 68, 69, 70, 71, 72, 73].map a_cw = [764, 768, 772, 781, 785, 789, 793, 797, 801, 805, 809, 814, 818, 822, 826, 830, 834, 838, 843, 847, 851, 857, 861, 871].filterMap (fun i => lw_tbl[i]?) := rfl
set_option maxRecDepth 100000 in
theorem a_cws3 : [74, 75, 76, 77, 78, 79, 80, 81, 82, 83, 84, 85, 86, 87, 88, 89, 90, 91, 92, 93, 94, 95, 96, 97].map a_cw = [875, 879, 884, 888, 892, 896, 900, 905, 910, 914, 918, 923, 930, 934, 938, 942, 946, 950, 955, 959, 963, 967, 970, 974].filterMap (fun i => lw_tbl[i]?) := rfl
set_option maxRecDepth 100000 in
theorem a_cws4 : [98, 99, 100, 101, 102, 103, 104, 105, 106, 107, 108, 109, 110, 111, 112, 113, 114, 115, 116, 117, 118, 120, 121, 122].map a_cw = [978, 983, 987, 991, 995, 999, 1002, 1007, 1011, 1016, 1020, 1024, 1028, 1033, 1037, 1042, 1046, 1050, 1054, 1058, 1062, 1069, 1073, 1076].filterMap (fun i => lw_tbl[i]?) := rfl
set_option maxRecDepth 100000 in
theorem a_cws5 : [123, 124, 126, 127, 128, 129, 131, 132, 134, 135, 136, 137, 138, 139, 140, 141, 142, 143, 144, 145, 146, 147, 148, 149].map a_cw = [1085, 1090, 1099, 1103, 1107, 1111, 1120, 1124, 1147, 1151, 1157, 1164, 1168, 1172, 1177, 1401, 1405, 1409, 1413, 1417, 1421, 1425, 1429, 1433].filterMap (fun i => lw_tbl[i]?) := rfl
set_option maxRecDepth 100000 in
theorem a_cws6 : [150, 151, 152, 153, 154, 155, 156, 157, 158, 159, 160, 161, 162, 163, 164, 165, 166, 167, 168, 169, 170, 171, 172, 173].map a_cw = [1437, 1441, 1445, 1448, 1452, 1455, 1460, 1465, 1468, 1471, 1474, 1478, 1482, 1494, 1498, 1502, 1506, 1510, 1514, 1518, 1522, 1526, 1531, 1535].filterMap (fun i => lw_tbl[i]?) := rfl
set_option maxRecDepth 100000 in
theorem a_cws7 : [174, 175, 176, 177, 178, 179, 180, 181, 182, 183, 184, 185, 186, 187, 188, 189, 190, 191, 192, 193, 194, 195, 196, 197].map a_cw = [1539, 1542, 1546, 1550, 1553, 1557, 1560, 1564, 1567, 1571, 1575, 1579, 1583, 1587, 1591, 1595, 1599, 1603, 1607, 1611, 1615, 1619, 1623, 1627].filterMap (fun i => lw_tbl[i]?) := rfl
set_option maxRecDepth 100000 in
theorem a_cws8 : [198, 199, 200, 201, 202, 203, 204, 205, 206, 207].map a_cw = [1631, 1635, 1639, 1643, 1647, 1651, 1655, 1659, 1663, 1667].filterMap (fun i => lw_tbl[i]?) := rfl
theorem a_cw_mem {l ix : List Nat} (h : l.map a_cw = ix.filterMap (fun i => lw_tbl[i]?)) : ∀ y ∈ l, a_cw y ∈ lw_tbl := by
  intro y hy
  have h1 : a_cw y ∈ l.map a_cw := List.mem_map.mpr ⟨y, hy, rfl⟩
  rw [h] at h1
  obtain ⟨i, -, hi⟩ := List.mem_filterMap.mp h1
  exact List.mem_of_getElem? hi
def a_plains : List Nat := [1, 2, 3, 4, 5, 6, 7, 8, 9, 10, 11, 12, 13, 14, 15, 16, 17, 18, 19, 21, 22, 23, 24, 25] ++ [26, 27, 28, 29, 30, 31, 32, 33, 34, 35, 36, 37, 38, 39, 40, 41, 42, 43, 44, 45, 46, 47, 48, 49] ++ [50, 51, 52, 53, 54, 55, 56, 57, 58, 59, 60, 61, 62, 63, 64, 65, 66, 67, 68, 69, 70, 71, 72, 73] ++ [74, 75, 76, 77, 78, 79, 80, 81, 82, 83, 84, 85, 86, 87, 88, 89, 90, 91, 92, 93, 94, 95, 96, 97] ++ [98, 99, 100, 101, 102, 103, 104, 105, 106, 107, 108, 109, 110, 111, 112, 113, 114, 115, 116, 117, 118, 120, 121, 122] ++ [123, 124, 126, 127, 128, 129, 131, 132, 134, 135, 136, 137, 138, 139, 140, 141, 142, 143, 144, 145, 146, 147, 148, 149] ++ [150, 151, 152, 153, 154, 155, 156, 157, 158, 159, 160, 161, 162, 163, 164, 165, 166, 167, 168, 169, 170, 171, 172, 173] ++ [174, 175, 176, 177, 178, 179, 180, 181, 182, 183, 184, 185, 186, 187, 188, 189, 190, 191, 192, 193, 194, 195, 196, 197] ++ [198, 199, 200, 201, 202, 203, 204, 205, 206, 207]
set_option maxRecDepth 100000 in
theorem a_plains_all : ∀ y, y < 208 → a_plain y = true → y ∈ a_plains := by decide +kernel
theorem a_cw_plain : ∀ y ∈ a_plains, a_cw y ∈ lw_tbl := by
  intro y hy
  unfold a_plains at hy
  simp only [List.mem_append] at hy
  rcases hy with (((((((h | h) | h) | h) | h) | h) | h) | h) | h
  · exact a_cw_mem a_cws0 y h
  · exact a_cw_mem a_cws1 y h
  · exact a_cw_mem a_cws2 y h
  · exact a_cw_mem a_cws3 y h
  · exact a_cw_mem a_cws4 y h
  · exact a_cw_mem a_cws5 y h
  · exact a_cw_mem a_cws6 y h
  · exact a_cw_mem a_cws7 y h
  · exact a_cw_mem a_cws8 y h
theorem a_code_in {y : Nat} (h : a_plain y = true) : a_cw y ∈ lw_good := by
  have hy : y < 208 := by
    unfold a_plain at h
    rw [Bool.and_eq_true] at h
    have := h.1
    simp at this
    exact this.2
  refine lw_good_in (a_cw_plain y (a_plains_all y hy h)) ?_
  unfold a_cw
  split <;> rfl
end
section
/-! AN ABSTRACT MACHINE over this claim's methods: positions for addresses, one function of numbers for the cells. What it answers, the real one answers (parts behind). -/
/-- number of cells; cells and slots made; kind and length of each cell; ints; longs; references (positions) -/
abbrev aH : Type := Nat × (Nat × Nat) × (Nat → Nat × Nat) × (Nat → Nat → Int32) × (Nat → Nat → Int64) × (Nat → Nat → Option Nat)
abbrev aS : Type := Nat × List Value × List Value × aH
abbrev aR : Type := (Option Value ⊕ Nat) × aH
/-- the script's place; from aC0 on: the static table, then the texts -/
def aSc : Nat := 1048575
def aC0 : Nat := 1048576
def a_up {α : Type} (f : Nat → Nat → α) (k i : Nat) (v : α) : Nat → Nat → α := fun a => if a = k then (fun b => if b = i then v else f k b) else f a
def a_new {α : Type} (f : Nat → Nat → α) (k : Nat) (v : α) : Nat → Nat → α := fun a => if a = k then (fun _ => v) else f a
def a_kup (f : Nat → Nat × Nat) (k : Nat) (v : Nat × Nat) : Nat → Nat × Nat := fun a => if a = k then v else f a
/-- a new cell of a kind, with so many slots, that count n -/
def a_mk (c len : Nat) (h : aH) : aH := (h.1 + 1, (h.2.1.1 + 1, h.2.1.2 + len), a_kup h.2.2.1 h.1 (c, len), a_new h.2.2.2.1 h.1 0, a_new h.2.2.2.2.1 h.1 0, a_new h.2.2.2.2.2 h.1 none)
def a_setI (h : aH) (k j : Nat) (x : Int32) : aH := (h.1, h.2.1, h.2.2.1, a_up h.2.2.2.1 k j x, h.2.2.2.2.1, h.2.2.2.2.2)
def a_setL (h : aH) (k j : Nat) (x : Int64) : aH := (h.1, h.2.1, h.2.2.1, h.2.2.2.1, a_up h.2.2.2.2.1 k j x, h.2.2.2.2.2)
def a_setR (h : aH) (k j : Nat) (x : Option Nat) : aH := (h.1, h.2.1, h.2.2.1, h.2.2.2.1, h.2.2.2.2.1, a_up h.2.2.2.2.2 k j x)
/-- a slot's content, by its type's code: 5 a long, 6 a reference, else an int -/
def a_slot (h : aH) (k j t : Nat) : Value := if t = 5 then .long (h.2.2.2.2.1 k j) else if t = 6 then va_rf (h.2.2.2.2.2 k j) else .int (h.2.2.2.1 k j)
def a_un (f : Int32 → Int32) (st : List Value) : Option (List Value) := match st with
  | .int x :: st => some (.int (f x) :: st)
  | _ => none
def a_bin (f : Int32 → Int32 → Int32) (st : List Value) : Option (List Value) := match st with
  | .int y :: .int x :: st => some (.int (f x y) :: st)
  | _ => none
def a_go (pc : Nat) (ls : List Value) (h : aH) (o : Option (List Value)) : Option (aS ⊕ aR) := match o with
  | some st => some (.inl (pc, ls, st, h))
  | none => none
def a_cnd (c : ClassFile.Cond) (x y : Int32) : Bool := match c with
  | .eq => decide (x = y)
  | .ne => decide (¬ x = y)
  | .lt => decide (x < y)
  | .ge => decide (y ≤ x)
  | .gt => decide (y < x)
  | .le => decide (x ≤ y)
def a_ldi (ls st : List Value) (i : Nat) : Option (List Value) := match ls[i]? with
  | some (.int x) => some (.int x :: st)
  | _ => none
def a_lda (ls st : List Value) (i : Nat) : Option (List Value) := match ls[i]? with
  | some (.ref k) => some (.ref k :: st)
  | some .null => some (.null :: st)
  | _ => none
def a_sti (pc : Nat) (ls st : List Value) (i : Nat) (h : aH) : Option (aS ⊕ aR) := match st with
  | .int x :: st => if i < ls.length then some (.inl (pc, ls.set i (.int x), st, h)) else none
  | _ => none
def a_sta (pc : Nat) (ls st : List Value) (i : Nat) (h : aH) : Option (aS ⊕ aR) := match st with
  | .ref k :: st => if i < ls.length then some (.inl (pc, ls.set i (.ref k), st, h)) else none
  | .null :: st => if i < ls.length then some (.inl (pc, ls.set i .null, st, h)) else none
  | _ => none
def a_inc (pc : Nat) (ls st : List Value) (i : Nat) (n : Int) (h : aH) : Option (aS ⊕ aR) := match ls[i]? with
  | some (.int x) => some (.inl (pc, ls.set i (.int (x + Int32.ofInt n)), st, h))
  | _ => none
def a_dup (st : List Value) : Option (List Value) := match st with
  | .int x :: st => some (.int x :: .int x :: st)
  | .ref k :: st => some (.ref k :: .ref k :: st)
  | _ => none
def a_pop (st : List Value) : Option (List Value) := match st with
  | .int _ :: st => some st
  | .ref _ :: st => some st
  | _ => none
/-- getfield: the object's class is c, the slot j, its type's code t -/
def a_getf (c j t : Nat) (st : List Value) (h : aH) : Option (List Value) := match st with
  | .ref k :: st => if k < h.1 ∧ (h.2.2.1 k).1 = c ∧ j < (h.2.2.1 k).2 then some (a_slot h k j t :: st) else none
  | _ => none
/-- what a small type keeps as it is -/
def a_fit (t : Nat) (x : Int32) : Bool := if t = 0 then true else if t = 1 then (x == 0 || x == 1) else false
def a_putf (pc c j t : Nat) (ls st : List Value) (h : aH) : Option (aS ⊕ aR) := match st with
  | .int x :: .ref k :: st => if (k < h.1 ∧ (h.2.2.1 k).1 = c ∧ j < (h.2.2.1 k).2) ∧ t < 5 ∧ a_fit t x = true then some (.inl (pc, ls, st, a_setI h k j x)) else none
  | .ref v :: .ref k :: st => if (k < h.1 ∧ (h.2.2.1 k).1 = c ∧ j < (h.2.2.1 k).2) ∧ t = 6 then some (.inl (pc, ls, st, a_setR h k j (some v))) else none
  | _ => none
def a_in (i : Int32) (n : Nat) : Bool := decide (¬ (i < 0 ∨ n ≤ i.toNatClampNeg))
/-- an int of an array of this kind; the constants' arrays lie from aC0 on -/
def a_ald (c : Nat) (st : List Value) (h : aH) : Option (List Value) := match st with
  | .int i :: .ref k :: st => if (k < h.1 ∨ (k = aSc ∧ c = 1000)) ∧ (h.2.2.1 k).1 = c ∧ a_in i (h.2.2.1 k).2 = true then some (.int (h.2.2.2.1 k i.toNatClampNeg) :: st) else if k = aC0 ∧ c = 1000 ∧ a_in i aTab.length = true then some (.int (aTab.getD i.toNatClampNeg 0) :: st) else none
  | _ => none
def a_aldL (st : List Value) (h : aH) : Option (List Value) := match st with
  | .int i :: .ref k :: st => if k < h.1 ∧ (h.2.2.1 k).1 = 1004 ∧ a_in i (h.2.2.1 k).2 = true then some (.long (h.2.2.2.2.1 k i.toNatClampNeg) :: st) else none
  | _ => none
def a_ast (c : Nat) (f : Int32 → Int32) (pc : Nat) (ls st : List Value) (h : aH) : Option (aS ⊕ aR) := match st with
  | .int x :: .int i :: .ref k :: st => if k < h.1 ∧ (h.2.2.1 k).1 = c ∧ a_in i (h.2.2.1 k).2 = true then some (.inl (pc, ls, st, a_setI h k i.toNatClampNeg (f x))) else none
  | _ => none
def a_astL (pc : Nat) (ls st : List Value) (h : aH) : Option (aS ⊕ aR) := match st with
  | .long x :: .int i :: .ref k :: st => if k < h.1 ∧ (h.2.2.1 k).1 = 1004 ∧ a_in i (h.2.2.1 k).2 = true then some (.inl (pc, ls, st, a_setL h k i.toNatClampNeg x)) else none
  | _ => none
def a_len (st : List Value) (h : aH) : Option (List Value) := match st with
  | .ref k :: st => if (k < h.1 ∧ ((h.2.2.1 k).1 = 1000 ∨ (h.2.2.1 k).1 = 1001 ∨ (h.2.2.1 k).1 = 1004)) ∨ (k = aSc ∧ (h.2.2.1 k).1 = 1000) then some (.int (Int32.ofNat (h.2.2.1 k).2) :: st) else none
  | _ => none
def a_acode (t : ArrayType) : Nat := match t with
  | .int => 1000
  | .byte => 1001
  | .long => 1004
  | _ => 1006
def a_newa (t : ArrayType) (pc : Nat) (ls st : List Value) (h : aH) : Option (aS ⊕ aR) := match st with
  | .int x :: st => if ¬ x < 0 ∧ x.toNatClampNeg ≤ 1000000 ∧ h.1 + 1 < aSc ∧ a_acode t < 1006 then some (.inl (pc, ls, .ref h.1 :: st, a_mk (a_acode t) x.toNatClampNeg h)) else none
  | _ => none
/-- a call: its arguments are the upper b of the stack; what lies below is small -/
def a_inv (call : Nat → List Value → aH → Option aR) (ct : Bool) (a b pc : Nat) (ls st : List Value) (h : aH) : Option (aS ⊕ aR) :=
  if b ≤ st.length ∧ ((st.drop b).map fun v => v.category).sum ≤ 8 then
    match call a (st.take b).reverse h with
    | some (.inl v, h') => some (.inl (pc, ls, v.toList ++ st.drop b, h'))
    | some (.inr _, h') => if ct = true then some (.inr (.inl (some (.int 1)), h')) else none
    | none => none
  else none
def a_setS (pc : Nat) (ls st : List Value) (h : aH) : Option (aS ⊕ aR) := some (.inl (pc, ls, st, h))
/-- the texts that the class and the reference name; from aC0 + 1 on -/
def a_chr (k : Nat) (i : Int32) : Option Int32 := if k < aC0 + 1 then none else match aStr[k - (aC0 + 1)]? with
  | some l => if a_in i l.length = true then some (Int32.ofNat (l.getD i.toNatClampNeg 0)) else none
  | none => none
/-- the JDK's own methods that are called: Math.max, Math.min, String.length, String.charAt, System.arraycopy -/
def a_jdk (y : Nat) (as : List Value) (h : aH) : Option aR := match as with
  | [.int x, .int z] => if y = 1001 then some (.inl (some (.int (if x < z then z else x))), h) else if y = 1002 then some (.inl (some (.int (if z < x then z else x))), h) else none
  | [.ref k] => if y = 1003 ∧ aC0 < k then (match aStr[k - (aC0 + 1)]? with
    | some l => some (.inl (some (.int (Int32.ofNat l.length))), h)
    | none => none) else none
  | [.ref k, .int i] => if y = 1004 then (match a_chr k i with
    | some v => some (.inl (some (.int v)), h)
    | none => none) else none
  | [.ref k, .int sp, .ref k2, .int dp, .int n] => if y = 1005 ∧ k = aC0 ∧ k2 < h.1 ∧ (h.2.2.1 k2).1 = 1000 ∧ ¬ sp < 0 ∧ ¬ dp < 0 ∧ ¬ n < 0 ∧ sp.toNatClampNeg + n.toNatClampNeg ≤ aTab.length ∧ dp.toNatClampNeg + n.toNatClampNeg ≤ (h.2.2.1 k2).2 then
      some (.inl none, (h.1, h.2.1, h.2.2.1, (fun a => if a = k2 then va_cpy (fun j => aTab.getD j 0) (h.2.2.2.1 k2) sp.toNatClampNeg dp.toNatClampNeg n.toNatClampNeg else h.2.2.2.1 a), h.2.2.2.2.1, h.2.2.2.2.2)) else none
  | _ => none
def a_lk (ps : List (Int × Int)) (d : Int) (x : Int) : Int := Op.lookupswitch.offset ps d x
/-- one instruction, with what its two numbers say of the constant pool -/
def a_step (call : Nat → List Value → aH → Option aR) (ct : Bool) (pc : Nat) (i : Instr) (a b : Nat) (ls st : List Value) (h : aH) : Option (aS ⊕ aR) := match i with
  | .iconst n => some (.inl (pc + 1, ls, .int (Int32.ofInt n) :: st, h))
  | .bipush n => some (.inl (pc + 2, ls, .int (Int8.ofInt n).toInt32 :: st, h))
  | .sipush n => some (.inl (pc + 3, ls, .int (Int16.ofInt n).toInt32 :: st, h))
  | .lconst n => some (.inl (pc + 1, ls, .long (Int64.ofNat n.val) :: st, h))
  | .ldc _ => if b = 0 then some (.inl (pc + 2, ls, .int (Int32.ofNat a) :: st, h)) else some (.inl (pc + 2, ls, .ref (aC0 + a) :: st, h))
  | .ldc_w _ => if b = 0 then some (.inl (pc + 3, ls, .int (Int32.ofNat a) :: st, h)) else some (.inl (pc + 3, ls, .ref (aC0 + a) :: st, h))
  | .iload n => a_go (pc + 2) ls h (a_ldi ls st n)
  | .iload_n n => a_go (pc + 1) ls h (a_ldi ls st n.val)
  | .aload n => a_go (pc + 2) ls h (a_lda ls st n)
  | .aload_n n => a_go (pc + 1) ls h (a_lda ls st n.val)
  | .istore n => a_sti (pc + 2) ls st n h
  | .istore_n n => a_sti (pc + 1) ls st n.val h
  | .astore n => a_sta (pc + 2) ls st n h
  | .astore_n n => a_sta (pc + 1) ls st n.val h
  | .iinc n k => a_inc (pc + 3) ls st n k h
  | .iadd => a_go (pc + 1) ls h (a_bin (fun x y => x + y) st)
  | .isub => a_go (pc + 1) ls h (a_bin (fun x y => x - y) st)
  | .imul => a_go (pc + 1) ls h (a_bin (fun x y => x * y) st)
  | .iand => a_go (pc + 1) ls h (a_bin (fun x y => x &&& y) st)
  | .iushr => a_go (pc + 1) ls h (a_bin (fun x y => (x.toUInt32 >>> (y.toUInt32 &&& Int32.toUInt32 31)).toInt32) st)
  | .ishr => a_go (pc + 1) ls h (a_bin (fun x y => x >>> (y &&& 31)) st)
  | .idiv => (match st with
    | .int y :: .int x :: st => if y = 0 then none else some (.inl (pc + 1, ls, .int (x / y) :: st, h))
    | _ => none)
  | .irem => (match st with
    | .int y :: .int x :: st => if y = 0 then none else some (.inl (pc + 1, ls, .int (x - x / y * y) :: st, h))
    | _ => none)
  | .i2b => a_go (pc + 1) ls h (a_un (fun x => x.toInt8.toInt32) st)
  | .i2l => (match st with
    | .int x :: st => some (.inl (pc + 1, ls, .long x.toInt64 :: st, h))
    | _ => none)
  | .lor => (match st with
    | .long y :: .long x :: st => some (.inl (pc + 1, ls, .long (x ||| y) :: st, h))
    | _ => none)
  | .lshl => (match st with
    | .int y :: .long x :: st => some (.inl (pc + 1, ls, .long (x <<< (y.toInt64 &&& 63)) :: st, h))
    | _ => none)
  | .lcmp => (match st with
    | .long y :: .long x :: st => some (.inl (pc + 1, ls, .int (lg_cmp x y) :: st, h))
    | _ => none)
  | .dup => a_go (pc + 1) ls h (a_dup st)
  | .dup2 => (match st with
    | .int y :: .ref k :: st => some (.inl (pc + 1, ls, .int y :: .ref k :: .int y :: .ref k :: st, h))
    | _ => none)
  | .pop => a_go (pc + 1) ls h (a_pop st)
  | .goto _ => some (.inl (a, ls, st, h))
  | .if_icmp c _ => (match st with
    | .int y :: .int x :: st => some (.inl (if a_cnd c x y = true then a else pc + 3, ls, st, h))
    | _ => none)
  | .ifCond c _ => (match st with
    | .int x :: st => some (.inl (if a_cnd c x 0 = true then a else pc + 3, ls, st, h))
    | _ => none)
  | .tableswitch d lo hi offs => (match st with
    | .int x :: st => if x.toInt < lo ∨ hi < x.toInt then some (.inl (((pc : Int) + d).toNat, ls, st, h)) else (match offs[(x.toInt - lo).toNat]? with
      | some o => some (.inl (((pc : Int) + o).toNat, ls, st, h))
      | none => none)
    | _ => none)
  | .lookupswitch d ps => (match st with
    | .int x :: st => some (.inl (((pc : Int) + a_lk ps.toList d x.toInt).toNat, ls, st, h))
    | _ => none)
  | .getfield _ => a_go (pc + 3) ls h (a_getf (a / 100) (a % 100) (b / 2) st h)
  | .putfield _ => a_putf (pc + 3) (a / 100) (a % 100) (b / 2) ls st h
  | .getstatic _ => some (.inl (pc + 3, ls, .ref aC0 :: st, h))
  | .iaload => a_go (pc + 1) ls h (a_ald 1000 st h)
  | .baload => a_go (pc + 1) ls h (a_ald 1001 st h)
  | .laload => a_go (pc + 1) ls h (a_aldL st h)
  | .iastore => a_ast 1000 (fun x => x) (pc + 1) ls st h
  | .bastore => a_ast 1001 (fun x => vp_nar .byte x) (pc + 1) ls st h
  | .lastore => a_astL (pc + 1) ls st h
  | .arraylength => a_go (pc + 1) ls h (a_len st h)
  | .newarray t => a_newa t (pc + 2) ls st h
  | .new _ => if b = 1 then (if h.1 + 1 < aSc ∧ st.isEmpty = true then some (.inr (.inr a, a_mk a 6 h)) else none) else if h.1 + 1 < aSc then some (.inl (pc + 3, ls, .ref h.1 :: st, a_mk a (aNf a) h)) else none
  | .invokespecial _ => if a = 1000 then (match st with
    | .ref _ :: r => if (r.map fun v => v.category).sum ≤ 8 then some (.inl (pc + 3, ls, r, h)) else none
    | _ => none) else a_inv call ct a (b / 2) (pc + 3) ls st h
  | .invokevirtual _ => a_inv call ct a (b / 2) (pc + 3) ls st h
  | .invokestatic _ => a_inv call ct a (b / 2) (pc + 3) ls st h
  | .ireturn => (match st with
    | [.int x] => some (.inr (.inl (some (.int x)), h))
    | _ => none)
  | .return_ => (match st with
    | [] => some (.inr (.inl none, h))
    | _ => none)
  | _ => none
/-- may the method be entered so: the number of its arguments, its receiver's class -/
def a_ok (m : aMe) (as : List Value) (h : aH) : Bool := decide (as.length = m.2.2.2.2.2.1 ∧ as.length ≤ m.2.2.1) && as.all (fun v => decide (v.category = 1)) && (m.2.2.2.2.1 || (match as with
  | .ref k :: _ => decide (k < h.1 ∧ (h.2.2.1 k).1 = m.2.2.2.2.2.2.1)
  | _ => false))
def a_loc (m : aMe) (as : List Value) : List Value := as ++ List.replicate (m.2.2.1 - as.length) (.retAddr 0)
/-- what the method returns is of its type -/
def a_rok (y : Nat) (r : aR) : Bool := match aMeL[y]? with
  | some my => (match my.2.2.2.1, r.1 with
    | some .int, .inl (some (.int _)) => true
    | some .boolean, .inl (some (.int x)) => x == 0 || x == 1
    | none, .inl none => true
    | _, .inr _ => true
    | _, _ => false)
  | none => false
/-- the run: fuel, depth, method, place, locals, stack, heap -/
def a_run (n : Nat) : Nat → Nat → Nat → List Value → List Value → aH → Option aR := Nat.rec (fun _ _ _ _ _ _ => none)
  (fun _ ih d y pc ls st h => match aCode y pc with
    | none => none
    | some ai => match a_step (fun z as g => match d with
        | 0 => none
        | d' + 1 => match aMeL[z]? with
          | some mz => if a_ok mz as g = true then ih d' z 0 (a_loc mz as) [] g else none
          | none => a_jdk z as g) (match aMeL[y]? with
        | some my => my.2.2.2.2.2.2.2
        | none => false) pc ai.1 ai.2.1 ai.2.2.1 ls st h with
      | some (.inl (pc', ls', st', h')) => ih d y pc' ls' st' h'
      | some (.inr r) => if a_rok y r = true then some r else none
      | none => none) n
end
section
/-! THE ABSTRACT HEAP AND THE REAL ONE -/
def a_ad (base : Nat) (cs : Nat → Nat) (k : Nat) : Nat := if k < aSc then base + k else cs (k - aSc)
def a_cv (base : Nat) (cs : Nat → Nat) (v : Value) : Value := match v with
  | .ref k => .ref (a_ad base cs k)
  | .int x => .int x
  | .long x => .long x
  | .null => .null
  | .float x => .float x
  | .double x => .double x
  | .retAddr x => .retAddr x
theorem a_cv_cat (base : Nat) (cs : Nat → Nat) (v : Value) : (a_cv base cs v).category = v.category := by cases v <;> rfl
theorem a_cv_rf (base : Nat) (cs : Nat → Nat) (r : Option Nat) : a_cv base cs (va_rf r) = va_rf (r.map (a_ad base cs)) := by cases r <;> rfl
theorem a_ad_lt {base : Nat} {cs : Nat → Nat} {k : Nat} (h : k < aSc) : a_ad base cs k = base + k := if_pos h
/-- what a cell holds, as the kit has it -/
def a_E (base : Nat) (cs : Nat → Nat) (cA : Nat → ClassId) (h : aH) (k : Nat) : va_E :=
  if (h.2.2.1 k).1 < 1000 then .inr ((h.2.2.1 k).1, (List.range (h.2.2.1 k).2).map (fun j => a_cv base cs (a_slot h k j (aFt (h.2.2.1 k).1 j))))
  else if (h.2.2.1 k).1 = 1004 then .inl (cA 1004, (h.2.2.1 k).2, .inr (.inl (h.2.2.2.2.1 k)))
  else .inl (cA (h.2.2.1 k).1, (h.2.2.1 k).2, .inl (h.2.2.2.1 k))
def a_Sim (base : Nat) (cs : Nat → Nat) (D : va_G) (cA : Nat → ClassId) (h : aH) (H : Heap) : Prop := H.size = base + h.1 ∧ h.1 < aSc ∧ ∀ k, k < h.1 → va_at D aCl (base + k, a_E base cs cA h k) H
def a_tys (cA : Nat → ClassId) : List (ClassId × FieldType) := [(cA 1000, .int), (cA 1001, .byte), (cA 1004, .long)]
/-- the locals: an unset one is .retAddr 0 -/
def a_ls (base : Nat) (cs : Nat → Nat) (nL : Nat) (ls : List Value) (lsA : Array Slot) : Prop := lsA.size = nL ∧ lv_wf lsA ∧ ls.length = nL ∧ ∀ (i : Nat) (v : Value), ls[i]? = some v → v = .retAddr 0 ∨ (v.category = 1 ∧ lsA[i]? = some (.val (a_cv base cs v)))
theorem a_ls_at {base : Nat} {cs : Nat → Nat} {nL : Nat} {ls : List Value} {lsA : Array Slot} (h : a_ls base cs nL ls lsA) {i : Nat} {v : Value} (hv : ls[i]? = some v) (hn : v ≠ .retAddr 0) : lsA[i]? = some (.val (a_cv base cs v)) := ((h.2.2.2 i v hv).resolve_left hn).2
def a_prs (base : Nat) (cs : Nat → Nat) (ls : List Value) : List (Nat × Value) := (List.range ls.length).filterMap (fun j => match ls[j]? with
  | some v => if v = .retAddr 0 then none else some (j, a_cv base cs v)
  | none => none)
theorem a_prs_mem {base : Nat} {cs : Nat → Nat} {ls : List Value} {q : Nat × Value} (h : q ∈ a_prs base cs ls) : ∃ v, ls[q.1]? = some v ∧ v ≠ .retAddr 0 ∧ q.2 = a_cv base cs v := by
  obtain ⟨j, hj, hq⟩ := List.mem_filterMap.mp h
  cases hv : ls[j]? with
  | none => rw [hv] at hq; cases hq
  | some v =>
    rw [hv] at hq
    dsimp only at hq
    by_cases hr : v = .retAddr 0
    · rw [if_pos hr] at hq; cases hq
    · rw [if_neg hr] at hq
      cases hq
      exact ⟨v, hv, hr, rfl⟩
theorem a_prs_in {base : Nat} {cs : Nat → Nat} {ls : List Value} {j : Nat} {v : Value} (hv : ls[j]? = some v) (hr : v ≠ .retAddr 0) : (j, a_cv base cs v) ∈ a_prs base cs ls := by
  refine List.mem_filterMap.mpr ⟨j, List.mem_range.mpr (List.getElem?_eq_some_iff.mp hv).1, ?_⟩
  rw [hv]
  dsimp only
  rw [if_neg hr]
theorem a_ls_has {base : Nat} {cs : Nat → Nat} {nL : Nat} {ls : List Value} {lsA : Array Slot} (h : a_ls base cs nL ls lsA) : lv_has lsA nL (a_prs base cs ls) := by
  refine ⟨h.1, h.2.1, fun q hq => ?_⟩
  obtain ⟨v, h1, h2, h3⟩ := a_prs_mem hq
  rw [h3]
  exact a_ls_at h h1 h2
/-- a store of a value of one slot -/
theorem a_ls_set {base : Nat} {cs : Nat → Nat} {nL : Nat} {ls : List Value} {lsA lsB : Array Slot} {i : Nat} {v : Value} (h : a_ls base cs nL ls lsA) (hc : v.category = 1) (hi : i < nL)
    (hb : lv_has lsB nL ((i, a_cv base cs v) :: (a_prs base cs ls).filter (fun q => !(q.1 == i) && !(q.1 + 1 == i && q.2.category == 2)))) : a_ls base cs nL (ls.set i v) lsB := by
  refine ⟨hb.1, hb.2.1, by rw [List.length_set]; exact h.2.2.1, fun j w hj => ?_⟩
  by_cases hji : j = i
  · subst hji
    rw [List.getElem?_set_self (by rw [h.2.2.1]; exact hi)] at hj
    cases hj
    exact Or.inr ⟨hc, hb.2.2 (j, a_cv base cs v) List.mem_cons_self⟩
  · rw [List.getElem?_set_ne (Ne.symm hji)] at hj
    by_cases hw : w = .retAddr 0
    · exact Or.inl hw
    · have h1 := (h.2.2.2 j w hj).resolve_left hw
      refine Or.inr ⟨h1.1, hb.2.2 (j, a_cv base cs w) (List.mem_cons_of_mem _ (List.mem_filter.mpr ⟨a_prs_in hj hw, ?_⟩))⟩
      simp [hji, a_cv_cat, h1.1]
theorem a_E_obj {base : Nat} {cs : Nat → Nat} {cA : Nat → ClassId} {h : aH} {k c : Nat} (hc : (h.2.2.1 k).1 = c) (hl : c < 1000) : a_E base cs cA h k = .inr (c, (List.range (h.2.2.1 k).2).map (fun j => a_cv base cs (a_slot h k j (aFt c j)))) := by
  unfold a_E
  rw [hc, if_pos hl]
theorem a_E_arr {base : Nat} {cs : Nat → Nat} {cA : Nat → ClassId} {h : aH} {k c : Nat} (hc : (h.2.2.1 k).1 = c) (hl : ¬ c < 1000) (h4 : ¬ c = 1004) : a_E base cs cA h k = .inl (cA c, (h.2.2.1 k).2, .inl (h.2.2.2.1 k)) := by
  unfold a_E
  rw [hc, if_neg hl, if_neg h4]
theorem a_E_arl {base : Nat} {cs : Nat → Nat} {cA : Nat → ClassId} {h : aH} {k : Nat} (hc : (h.2.2.1 k).1 = 1004) : a_E base cs cA h k = .inl (cA 1004, (h.2.2.1 k).2, .inr (.inl (h.2.2.2.2.1 k))) := by
  unfold a_E
  rw [hc, if_neg (by decide), if_pos rfl]
theorem a_up_ne {α : Type} (f : Nat → Nat → α) {k a : Nat} (i : Nat) (v : α) (h : a ≠ k) : a_up f k i v a = f a := if_neg h
theorem a_up_eq {α : Type} (f : Nat → Nat → α) (k i : Nat) (v : α) : a_up f k i v k = fun b => if b = i then v else f k b := if_pos rfl
/-- a cell's picture comes of its own rows alone -/
theorem a_E_ext {base : Nat} {cs : Nat → Nat} {cA : Nat → ClassId} {h h' : aH} {a : Nat} (h1 : h'.2.2.1 a = h.2.2.1 a) (h2 : h'.2.2.2.1 a = h.2.2.2.1 a) (h3 : h'.2.2.2.2.1 a = h.2.2.2.2.1 a) (h4 : h'.2.2.2.2.2 a = h.2.2.2.2.2 a) : a_E base cs cA h' a = a_E base cs cA h a := by
  have hs : ∀ j t, a_slot h' a j t = a_slot h a j t := fun j t => by unfold a_slot; rw [h2, h3, h4]
  unfold a_E
  rw [h1, h2, h3]
  simp only [hs]
theorem a_E_setI {base : Nat} {cs : Nat → Nat} {cA : Nat → ClassId} {h : aH} {k a : Nat} (j : Nat) (x : Int32) (ha : a ≠ k) : a_E base cs cA (a_setI h k j x) a = a_E base cs cA h a := a_E_ext rfl (a_up_ne _ _ _ ha) rfl rfl
theorem a_E_setL {base : Nat} {cs : Nat → Nat} {cA : Nat → ClassId} {h : aH} {k a : Nat} (j : Nat) (x : Int64) (ha : a ≠ k) : a_E base cs cA (a_setL h k j x) a = a_E base cs cA h a := a_E_ext rfl rfl (a_up_ne _ _ _ ha) rfl
theorem a_E_setR {base : Nat} {cs : Nat → Nat} {cA : Nat → ClassId} {h : aH} {k a : Nat} (j : Nat) (x : Option Nat) (ha : a ≠ k) : a_E base cs cA (a_setR h k j x) a = a_E base cs cA h a := a_E_ext rfl rfl rfl (a_up_ne _ _ _ ha)
theorem a_E_mk {base : Nat} {cs : Nat → Nat} {cA : Nat → ClassId} {h : aH} {a : Nat} (c len : Nat) (ha : a ≠ h.1) : a_E base cs cA (a_mk c len h) a = a_E base cs cA h a := a_E_ext (if_neg ha) (if_neg ha) (if_neg ha) (if_neg ha)
/-- one cell is written, the others stay -/
theorem a_Sim.put {base : Nat} {cs : Nat → Nat} {D : va_G} {cA : Nat → ClassId} {h h' : aH} {H H1 : Heap} {k : Nat} (S : a_Sim base cs D cA h H) (hn : h'.1 = h.1) (z : H1.size = H.size) (oq : ∀ q : Nat, q ≠ base + k → H1[q]? = H[q]?)
    (he : ∀ a, a ≠ k → a_E base cs cA h' a = a_E base cs cA h a) (hk : va_at D aCl (base + k, a_E base cs cA h' k) H1) : a_Sim base cs D cA h' H1 := by
  refine ⟨by rw [z, hn]; exact S.1, by rw [hn]; exact S.2.1, fun a ha => ?_⟩
  by_cases hak : a = k
  · subst hak
    exact hk
  · rw [he a hak]
    rw [hn] at ha
    exact (S.2.2 a ha).kept (oq (base + a) (by omega))
/-- a cell is made -/
theorem a_Sim.mk {base : Nat} {cs : Nat → Nat} {D : va_G} {cA : Nat → ClassId} {h : aH} {H H1 : Heap} {c len : Nat} (S : a_Sim base cs D cA h H) (hl : h.1 + 1 < aSc) (z : H1.size = H.size + 1) (oq : ∀ q : Nat, q < H.size → H1[q]? = H[q]?)
    (hk : va_at D aCl (base + h.1, a_E base cs cA (a_mk c len h) h.1) H1) : a_Sim base cs D cA (a_mk c len h) H1 := by
  refine ⟨by rw [z, S.1]; show base + h.1 + 1 = base + (h.1 + 1); omega, hl, fun a ha => ?_⟩
  have ha2 : a < h.1 + 1 := ha
  by_cases hak : a = h.1
  · subst hak
    exact hk
  · rw [a_E_mk c len hak]
    have ha3 : a < h.1 := by omega
    exact (S.2.2 a ha3).kept (oq (base + a) (by rw [S.1]; omega))
end
section
/-! ONE STEP: what the abstract machine does, the real one does. First what needs no words of the tables -/
def a_Fx (my : aMe) (p : Program) (R : Room) (s : State) (m : MethodId) (args : Array Value) (meth : Method) (c : Code) (d : Nat) : Prop :=
  p.tables.exec = Jvm.exec ∧ c.code = my.2.1 ∧ c.maxLocals = my.2.2.1 ∧ s.vm.findClass my.1.cls = some m.cls ∧ (∀ w ∈ lw_good, w.before args s = true) ∧ meth.sig.returnType = my.2.2.2.1 ∧ meth.locks = false ∧ (my.1.name = "<init>" → meth.name = "<init>") ∧ d + 16 ≤ R.frames ∧ d * 64 + 1000 ≤ R.locals ∧ (∀ w ∈ lw_tbl, a_isN w = true → va_Nw w s)
def a_Sx (base : Nat) (cs : Nat → Nat) (s : State) (h : aH) : Prop := (h.2.2.1 aSc).1 = 1000 → va_X (cs 0) (h.2.2.1 aSc).2 (h.2.2.2.1 aSc) s s.heap ∧ cs 0 < base
def a_M (base : Nat) (cs : Nat → Nat) (D : va_G) (cA : Nat → ClassId) (s : State) (my : aMe) (c0 : Nat × Nat) (ls : List Value) (h : aH) (H : Heap) (locs : List Loc) (cells slots : Nat) (lsA : Array Slot) : Prop :=
  a_Sim base cs D cA h H ∧ (base ≤ s.heap.size ∧ ∀ q, q < base → H[q]? = s.heap[q]?) ∧ (∀ x ∈ locs, base ≤ x.base) ∧ a_ls base cs my.2.2.1 ls lsA ∧ (c0.1 + cells = h.2.1.1 ∧ c0.2 + slots = h.2.1.2) ∧ a_Sx base cs s h
/-- from here the real machine comes to Q, in every heap that is as the abstract one says -/
def a_G (base : Nat) (cs : Nat → Nat) (D : va_G) (cA : Nat → ClassId) (my : aMe) (c0 : Nat × Nat) (p : Program) (l : Launch) (e : Env) (R : Room) (s : State) (m : MethodId) (args : Array Value) (below : List Frame) (meth : Method) (c : Code) (Q : State → Prop) (pc : Nat) (ls st : List Value) (h : aH) : Prop :=
  ∀ (H : Heap) (locs : List Loc) (cells slots : Nat) (lsA : Array Slot), a_M base cs D cA s my c0 ls h H locs cells slots lsA → W p l e R s m args below meth c H locs cells slots Q (F0 m pc lsA (st.map (a_cv base cs)))
theorem a_go_inv {pc pc' : Nat} {ls ls' st' : List Value} {h h' : aH} {o : Option (List Value)} (hs : a_go pc ls h o = some (.inl (pc', ls', st', h'))) : o = some st' ∧ pc' = pc ∧ ls' = ls ∧ h' = h := by
  cases o with
  | none => cases hs
  | some st => cases hs; exact ⟨rfl, rfl, rfl, rfl⟩
theorem a_bin_inv {f : Int32 → Int32 → Int32} {st st' : List Value} (hs : a_bin f st = some st') : ∃ x y r, st = .int y :: .int x :: r ∧ st' = .int (f x y) :: r := by
  unfold a_bin at hs
  split at hs
  · cases hs; exact ⟨_, _, _, rfl, rfl⟩
  · cases hs
theorem a_un_inv {f : Int32 → Int32} {st st' : List Value} (hs : a_un f st = some st') : ∃ x r, st = .int x :: r ∧ st' = .int (f x) :: r := by
  unfold a_un at hs
  split at hs
  · cases hs; exact ⟨_, _, rfl, rfl⟩
  · cases hs
theorem a_ldi_inv {ls st st' : List Value} {i : Nat} (hs : a_ldi ls st i = some st') : ∃ x, ls[i]? = some (.int x) ∧ st' = .int x :: st := by
  unfold a_ldi at hs
  split at hs
  · rename_i x hx; cases hs; exact ⟨x, hx, rfl⟩
  · cases hs
theorem a_lda_inv {ls st st' : List Value} {i : Nat} (hs : a_lda ls st i = some st') : (∃ k, ls[i]? = some (.ref k) ∧ st' = .ref k :: st) ∨ (ls[i]? = some .null ∧ st' = .null :: st) := by
  unfold a_lda at hs
  split at hs
  · rename_i k hx; cases hs; exact Or.inl ⟨k, hx, rfl⟩
  · rename_i hx; cases hs; exact Or.inr ⟨hx, rfl⟩
  · cases hs
section AG1
variable {base : Nat} {cs : Nat → Nat} {D : va_G} {cA : Nat → ClassId} {my : aMe} {c0 : Nat × Nat} {p : Program} {l : Launch} {e : Env} {R : Room} {s : State} {m : MethodId} {args : Array Value} {below : List Frame} {meth : Method} {c : Code} {Q : State → Prop} {pc pc' : Nat} {ls st ls' st' : List Value} {h h' : aH} {d : Nat}
theorem s_iconst {n : Int} (F : a_Fx my p R s m args meth c d) (hd : decode my.2.1 pc = .ok (.iconst n, 1)) (k : a_G base cs D cA my c0 p l e R s m args below meth c Q (pc + 1) ls (.int (Int32.ofInt n) :: st) h) : a_G base cs D cA my c0 p l e R s m args below meth c Q pc ls st h :=
  fun H locs cells slots lsA M => lv_iconst F.1 F.2.1 hd rfl (k H locs cells slots lsA M)
theorem s_bipush {n : Int} (F : a_Fx my p R s m args meth c d) (hd : decode my.2.1 pc = .ok (.bipush n, 2)) (k : a_G base cs D cA my c0 p l e R s m args below meth c Q (pc + 2) ls (.int (Int8.ofInt n).toInt32 :: st) h) : a_G base cs D cA my c0 p l e R s m args below meth c Q pc ls st h :=
  fun H locs cells slots lsA M => lv_bipush F.1 F.2.1 hd rfl (k H locs cells slots lsA M)
theorem s_sipush {n : Int} (F : a_Fx my p R s m args meth c d) (hd : decode my.2.1 pc = .ok (.sipush n, 3)) (k : a_G base cs D cA my c0 p l e R s m args below meth c Q (pc + 3) ls (.int (Int16.ofInt n).toInt32 :: st) h) : a_G base cs D cA my c0 p l e R s m args below meth c Q pc ls st h :=
  fun H locs cells slots lsA M => lv_sipush F.1 F.2.1 hd rfl (k H locs cells slots lsA M)
theorem s_lconst {n : Fin 2} (F : a_Fx my p R s m args meth c d) (hd : decode my.2.1 pc = .ok (.lconst n, 1)) (k : a_G base cs D cA my c0 p l e R s m args below meth c Q (pc + 1) ls (.long (Int64.ofNat n.val) :: st) h) : a_G base cs D cA my c0 p l e R s m args below meth c Q pc ls st h :=
  fun H locs cells slots lsA M => lv_lconst F.1 F.2.1 hd rfl (k H locs cells slots lsA M)
theorem s_iload {n : Nat} (F : a_Fx my p R s m args meth c d) (hd : decode my.2.1 pc = .ok (.iload n, 2)) (hs : a_ldi ls st n = some st') (k : a_G base cs D cA my c0 p l e R s m args below meth c Q (pc + 2) ls st' h) : a_G base cs D cA my c0 p l e R s m args below meth c Q pc ls st h := by
  obtain ⟨x, hx, rfl⟩ := a_ldi_inv hs
  exact fun H locs cells slots lsA M => lv_iload F.1 F.2.1 hd (a_ls_at M.2.2.2.1 hx (fun q => by cases q)) (k H locs cells slots lsA M)
theorem s_iload_n {n : Fin 4} (F : a_Fx my p R s m args meth c d) (hd : decode my.2.1 pc = .ok (.iload_n n, 1)) (hs : a_ldi ls st n.val = some st') (k : a_G base cs D cA my c0 p l e R s m args below meth c Q (pc + 1) ls st' h) : a_G base cs D cA my c0 p l e R s m args below meth c Q pc ls st h := by
  obtain ⟨x, hx, rfl⟩ := a_ldi_inv hs
  exact fun H locs cells slots lsA M => lv_iload_n F.1 F.2.1 hd rfl (a_ls_at M.2.2.2.1 hx (fun q => by cases q)) (k H locs cells slots lsA M)
theorem s_aload {n : Nat} (F : a_Fx my p R s m args meth c d) (hd : decode my.2.1 pc = .ok (.aload n, 2)) (hs : a_lda ls st n = some st') (k : a_G base cs D cA my c0 p l e R s m args below meth c Q (pc + 2) ls st' h) : a_G base cs D cA my c0 p l e R s m args below meth c Q pc ls st h := by
  rcases a_lda_inv hs with ⟨x, hx, rfl⟩ | ⟨hx, rfl⟩
  · exact fun H locs cells slots lsA M => lv_aload F.1 F.2.1 hd (a_ls_at M.2.2.2.1 hx (fun q => by cases q)) (k H locs cells slots lsA M)
  · exact fun H locs cells slots lsA M => lv_aloadN F.1 F.2.1 hd (a_ls_at M.2.2.2.1 hx (fun q => by cases q)) (k H locs cells slots lsA M)
theorem s_aload_n {n : Fin 4} (F : a_Fx my p R s m args meth c d) (hd : decode my.2.1 pc = .ok (.aload_n n, 1)) (hs : a_lda ls st n.val = some st') (k : a_G base cs D cA my c0 p l e R s m args below meth c Q (pc + 1) ls st' h) : a_G base cs D cA my c0 p l e R s m args below meth c Q pc ls st h := by
  rcases a_lda_inv hs with ⟨x, hx, rfl⟩ | ⟨hx, rfl⟩
  · exact fun H locs cells slots lsA M => lv_aload_n F.1 F.2.1 hd rfl (a_ls_at M.2.2.2.1 hx (fun q => by cases q)) (k H locs cells slots lsA M)
  · exact fun H locs cells slots lsA M => lv_aload_nN F.1 F.2.1 hd rfl (a_ls_at M.2.2.2.1 hx (fun q => by cases q)) (k H locs cells slots lsA M)
/-- locals are stored -/
theorem a_M.set {i : Nat} {v : Value} {H : Heap} {locs : List Loc} {cells slots : Nat} {lsA lsB : Array Slot} (M : a_M base cs D cA s my c0 ls h H locs cells slots lsA) (hc : v.category = 1) (hi : i < my.2.2.1)
    (hb : lv_has lsB my.2.2.1 ((i, a_cv base cs v) :: (a_prs base cs ls).filter (fun q => !(q.1 == i) && !(q.1 + 1 == i && q.2.category == 2)))) : a_M base cs D cA s my c0 (ls.set i v) h H locs cells slots lsB :=
  ⟨M.1, M.2.1, M.2.2.1, a_ls_set M.2.2.2.1 hc hi hb, M.2.2.2.2⟩
theorem a_sti_inv {i : Nat} (hs : a_sti pc ls st i h = some (.inl (pc', ls', st', h'))) : ∃ x, st = .int x :: st' ∧ i < ls.length ∧ pc' = pc ∧ ls' = ls.set i (.int x) ∧ h' = h := by
  unfold a_sti at hs
  split at hs
  · split at hs
    · rename_i hi; cases hs; exact ⟨_, rfl, hi, rfl, rfl, rfl⟩
    · cases hs
  · cases hs
theorem a_sta_inv {i : Nat} (hs : a_sta pc ls st i h = some (.inl (pc', ls', st', h'))) : (∃ x, st = .ref x :: st' ∧ i < ls.length ∧ pc' = pc ∧ ls' = ls.set i (.ref x) ∧ h' = h) ∨ (st = .null :: st' ∧ i < ls.length ∧ pc' = pc ∧ ls' = ls.set i .null ∧ h' = h) := by
  unfold a_sta at hs
  split at hs
  · split at hs
    · rename_i hi; cases hs; exact Or.inl ⟨_, rfl, hi, rfl, rfl, rfl⟩
    · cases hs
  · split at hs
    · rename_i hi; cases hs; exact Or.inr ⟨rfl, hi, rfl, rfl, rfl⟩
    · cases hs
  · cases hs
theorem s_istore {n : Nat} (F : a_Fx my p R s m args meth c d) (hd : decode my.2.1 pc = .ok (.istore n, 2)) (hs : a_sti (pc + 2) ls st n h = some (.inl (pc', ls', st', h'))) (k : a_G base cs D cA my c0 p l e R s m args below meth c Q pc' ls' st' h') : a_G base cs D cA my c0 p l e R s m args below meth c Q pc ls st h := by
  obtain ⟨x, rfl, hi, rfl, rfl, rfl⟩ := a_sti_inv hs
  exact fun H locs cells slots lsA M => lv_istore F.1 F.2.1 hd (a_ls_has M.2.2.2.1) (by rw [← M.2.2.2.1.2.2.1]; exact hi) rfl (fun lsB hb => k H locs cells slots lsB (M.set (v := .int x) rfl (by rw [← M.2.2.2.1.2.2.1]; exact hi) hb))
theorem s_istore_n {n : Fin 4} (F : a_Fx my p R s m args meth c d) (hd : decode my.2.1 pc = .ok (.istore_n n, 1)) (hs : a_sti (pc + 1) ls st n.val h = some (.inl (pc', ls', st', h'))) (k : a_G base cs D cA my c0 p l e R s m args below meth c Q pc' ls' st' h') : a_G base cs D cA my c0 p l e R s m args below meth c Q pc ls st h := by
  obtain ⟨x, rfl, hi, rfl, rfl, rfl⟩ := a_sti_inv hs
  exact fun H locs cells slots lsA M => lv_istore_n F.1 F.2.1 hd rfl (a_ls_has M.2.2.2.1) (by rw [← M.2.2.2.1.2.2.1]; exact hi) rfl (fun lsB hb => k H locs cells slots lsB (M.set (v := .int x) rfl (by rw [← M.2.2.2.1.2.2.1]; exact hi) hb))
theorem s_astore {n : Nat} (F : a_Fx my p R s m args meth c d) (hd : decode my.2.1 pc = .ok (.astore n, 2)) (hs : a_sta (pc + 2) ls st n h = some (.inl (pc', ls', st', h'))) (k : a_G base cs D cA my c0 p l e R s m args below meth c Q pc' ls' st' h') : a_G base cs D cA my c0 p l e R s m args below meth c Q pc ls st h := by
  rcases a_sta_inv hs with ⟨x, rfl, hi, rfl, rfl, rfl⟩ | ⟨rfl, hi, rfl, rfl, rfl⟩
  · exact fun H locs cells slots lsA M => lv_astore F.1 F.2.1 hd (a_ls_has M.2.2.2.1) (by rw [← M.2.2.2.1.2.2.1]; exact hi) rfl (fun lsB hb => k H locs cells slots lsB (M.set (v := .ref x) rfl (by rw [← M.2.2.2.1.2.2.1]; exact hi) hb))
  · exact fun H locs cells slots lsA M => lv_astoreN F.1 F.2.1 hd (a_ls_has M.2.2.2.1) (by rw [← M.2.2.2.1.2.2.1]; exact hi) rfl (fun lsB hb => k H locs cells slots lsB (M.set (v := .null) rfl (by rw [← M.2.2.2.1.2.2.1]; exact hi) hb))
theorem s_astore_n {n : Fin 4} (F : a_Fx my p R s m args meth c d) (hd : decode my.2.1 pc = .ok (.astore_n n, 1)) (hs : a_sta (pc + 1) ls st n.val h = some (.inl (pc', ls', st', h'))) (k : a_G base cs D cA my c0 p l e R s m args below meth c Q pc' ls' st' h') : a_G base cs D cA my c0 p l e R s m args below meth c Q pc ls st h := by
  rcases a_sta_inv hs with ⟨x, rfl, hi, rfl, rfl, rfl⟩ | ⟨rfl, hi, rfl, rfl, rfl⟩
  · exact fun H locs cells slots lsA M => lv_astore_n F.1 F.2.1 hd rfl (a_ls_has M.2.2.2.1) (by rw [← M.2.2.2.1.2.2.1]; exact hi) rfl (fun lsB hb => k H locs cells slots lsB (M.set (v := .ref x) rfl (by rw [← M.2.2.2.1.2.2.1]; exact hi) hb))
  · exact fun H locs cells slots lsA M => lv_astore_nN F.1 F.2.1 hd rfl (a_ls_has M.2.2.2.1) (by rw [← M.2.2.2.1.2.2.1]; exact hi) rfl (fun lsB hb => k H locs cells slots lsB (M.set (v := .null) rfl (by rw [← M.2.2.2.1.2.2.1]; exact hi) hb))
theorem s_iinc {n : Nat} {z : Int} (F : a_Fx my p R s m args meth c d) (hd : decode my.2.1 pc = .ok (.iinc n z, 3)) (hs : a_inc (pc + 3) ls st n z h = some (.inl (pc', ls', st', h'))) (k : a_G base cs D cA my c0 p l e R s m args below meth c Q pc' ls' st' h') : a_G base cs D cA my c0 p l e R s m args below meth c Q pc ls st h := by
  unfold a_inc at hs
  split at hs
  · rename_i x hx
    cases hs
    intro H locs cells slots lsA M
    have hi : n < my.2.2.1 := by rw [← M.2.2.2.1.2.2.1]; exact (List.getElem?_eq_some_iff.mp hx).1
    obtain ⟨j, hj⟩ := List.getElem?_of_mem (a_prs_in (base := base) (cs := cs) hx (fun q => by cases q))
    exact lv_iinc F.1 F.2.1 hd (a_ls_has M.2.2.2.1) hj rfl hi rfl (fun lsB hb => k H locs cells slots lsB (M.set (v := .int (x + Int32.ofInt z)) rfl hi hb))
  · cases hs
theorem s_iadd (F : a_Fx my p R s m args meth c d) (hd : decode my.2.1 pc = .ok (.iadd, 1)) (hs : a_bin (fun x y => x + y) st = some st') (k : a_G base cs D cA my c0 p l e R s m args below meth c Q (pc + 1) ls st' h) : a_G base cs D cA my c0 p l e R s m args below meth c Q pc ls st h := by
  obtain ⟨x, y, r, rfl, rfl⟩ := a_bin_inv hs
  exact fun H locs cells slots lsA M => lv_iadd F.1 F.2.1 hd (k H locs cells slots lsA M)
theorem s_isub (F : a_Fx my p R s m args meth c d) (hd : decode my.2.1 pc = .ok (.isub, 1)) (hs : a_bin (fun x y => x - y) st = some st') (k : a_G base cs D cA my c0 p l e R s m args below meth c Q (pc + 1) ls st' h) : a_G base cs D cA my c0 p l e R s m args below meth c Q pc ls st h := by
  obtain ⟨x, y, r, rfl, rfl⟩ := a_bin_inv hs
  exact fun H locs cells slots lsA M => lv_isub F.1 F.2.1 hd (k H locs cells slots lsA M)
theorem s_imul (F : a_Fx my p R s m args meth c d) (hd : decode my.2.1 pc = .ok (.imul, 1)) (hs : a_bin (fun x y => x * y) st = some st') (k : a_G base cs D cA my c0 p l e R s m args below meth c Q (pc + 1) ls st' h) : a_G base cs D cA my c0 p l e R s m args below meth c Q pc ls st h := by
  obtain ⟨x, y, r, rfl, rfl⟩ := a_bin_inv hs
  exact fun H locs cells slots lsA M => lv_imul F.1 F.2.1 hd (k H locs cells slots lsA M)
theorem s_iand (F : a_Fx my p R s m args meth c d) (hd : decode my.2.1 pc = .ok (.iand, 1)) (hs : a_bin (fun x y => x &&& y) st = some st') (k : a_G base cs D cA my c0 p l e R s m args below meth c Q (pc + 1) ls st' h) : a_G base cs D cA my c0 p l e R s m args below meth c Q pc ls st h := by
  obtain ⟨x, y, r, rfl, rfl⟩ := a_bin_inv hs
  exact fun H locs cells slots lsA M => lv_iand F.1 F.2.1 hd (k H locs cells slots lsA M)
theorem s_iushr (F : a_Fx my p R s m args meth c d) (hd : decode my.2.1 pc = .ok (.iushr, 1)) (hs : a_bin (fun x y => (x.toUInt32 >>> (y.toUInt32 &&& Int32.toUInt32 31)).toInt32) st = some st') (k : a_G base cs D cA my c0 p l e R s m args below meth c Q (pc + 1) ls st' h) : a_G base cs D cA my c0 p l e R s m args below meth c Q pc ls st h := by
  obtain ⟨x, y, r, rfl, rfl⟩ := a_bin_inv hs
  exact fun H locs cells slots lsA M => lv_iushr F.1 F.2.1 hd rfl (k H locs cells slots lsA M)
theorem s_ishr (F : a_Fx my p R s m args meth c d) (hd : decode my.2.1 pc = .ok (.ishr, 1)) (hs : a_bin (fun x y => x >>> (y &&& 31)) st = some st') (k : a_G base cs D cA my c0 p l e R s m args below meth c Q (pc + 1) ls st' h) : a_G base cs D cA my c0 p l e R s m args below meth c Q pc ls st h := by
  obtain ⟨x, y, r, rfl, rfl⟩ := a_bin_inv hs
  exact fun H locs cells slots lsA M => lv_ishr F.1 F.2.1 hd (k H locs cells slots lsA M)
theorem s_i2b (F : a_Fx my p R s m args meth c d) (hd : decode my.2.1 pc = .ok (.i2b, 1)) (hs : a_un (fun x => x.toInt8.toInt32) st = some st') (k : a_G base cs D cA my c0 p l e R s m args below meth c Q (pc + 1) ls st' h) : a_G base cs D cA my c0 p l e R s m args below meth c Q pc ls st h := by
  obtain ⟨x, r, rfl, rfl⟩ := a_un_inv hs
  exact fun H locs cells slots lsA M => lv_i2b F.1 F.2.1 hd rfl (k H locs cells slots lsA M)
theorem s_idiv {x y : Int32} (F : a_Fx my p R s m args meth c d) (hd : decode my.2.1 pc = .ok (.idiv, 1)) (hn : ¬ y = 0) (k : a_G base cs D cA my c0 p l e R s m args below meth c Q (pc + 1) ls (.int (x / y) :: st) h) : a_G base cs D cA my c0 p l e R s m args below meth c Q pc ls (.int y :: .int x :: st) h :=
  fun H locs cells slots lsA M => lv_idiv F.1 F.2.1 hd hn (k H locs cells slots lsA M)
theorem s_irem {x y : Int32} (F : a_Fx my p R s m args meth c d) (hd : decode my.2.1 pc = .ok (.irem, 1)) (hn : ¬ y = 0) (k : a_G base cs D cA my c0 p l e R s m args below meth c Q (pc + 1) ls (.int (x - x / y * y) :: st) h) : a_G base cs D cA my c0 p l e R s m args below meth c Q pc ls (.int y :: .int x :: st) h :=
  fun H locs cells slots lsA M => lv_irem F.1 F.2.1 hd hn (k H locs cells slots lsA M)
theorem s_i2l {x : Int32} (F : a_Fx my p R s m args meth c d) (hd : decode my.2.1 pc = .ok (.i2l, 1)) (k : a_G base cs D cA my c0 p l e R s m args below meth c Q (pc + 1) ls (.long x.toInt64 :: st) h) : a_G base cs D cA my c0 p l e R s m args below meth c Q pc ls (.int x :: st) h :=
  fun H locs cells slots lsA M => lv_i2l F.1 F.2.1 hd rfl (k H locs cells slots lsA M)
theorem s_lor {x y : Int64} (F : a_Fx my p R s m args meth c d) (hd : decode my.2.1 pc = .ok (.lor, 1)) (k : a_G base cs D cA my c0 p l e R s m args below meth c Q (pc + 1) ls (.long (x ||| y) :: st) h) : a_G base cs D cA my c0 p l e R s m args below meth c Q pc ls (.long y :: .long x :: st) h :=
  fun H locs cells slots lsA M => lv_lor F.1 F.2.1 hd (k H locs cells slots lsA M)
theorem s_lshl {x : Int64} {y : Int32} (F : a_Fx my p R s m args meth c d) (hd : decode my.2.1 pc = .ok (.lshl, 1)) (k : a_G base cs D cA my c0 p l e R s m args below meth c Q (pc + 1) ls (.long (x <<< (y.toInt64 &&& 63)) :: st) h) : a_G base cs D cA my c0 p l e R s m args below meth c Q pc ls (.int y :: .long x :: st) h :=
  fun H locs cells slots lsA M => lv_lshl F.1 F.2.1 hd rfl (k H locs cells slots lsA M)
theorem s_dup_i {x : Int32} (F : a_Fx my p R s m args meth c d) (hd : decode my.2.1 pc = .ok (.dup, 1)) (k : a_G base cs D cA my c0 p l e R s m args below meth c Q (pc + 1) ls (.int x :: .int x :: st) h) : a_G base cs D cA my c0 p l e R s m args below meth c Q pc ls (.int x :: st) h :=
  fun H locs cells slots lsA M => lv_dup F.1 F.2.1 hd rfl (k H locs cells slots lsA M)
theorem s_dup_r {x : Nat} (F : a_Fx my p R s m args meth c d) (hd : decode my.2.1 pc = .ok (.dup, 1)) (k : a_G base cs D cA my c0 p l e R s m args below meth c Q (pc + 1) ls (.ref x :: .ref x :: st) h) : a_G base cs D cA my c0 p l e R s m args below meth c Q pc ls (.ref x :: st) h :=
  fun H locs cells slots lsA M => lv_dup F.1 F.2.1 hd rfl (k H locs cells slots lsA M)
theorem s_dup2 {y : Int32} {x : Nat} (F : a_Fx my p R s m args meth c d) (hd : decode my.2.1 pc = .ok (.dup2, 1)) (k : a_G base cs D cA my c0 p l e R s m args below meth c Q (pc + 1) ls (.int y :: .ref x :: .int y :: .ref x :: st) h) : a_G base cs D cA my c0 p l e R s m args below meth c Q pc ls (.int y :: .ref x :: st) h :=
  fun H locs cells slots lsA M => lv_dup2_11 F.1 F.2.1 hd rfl rfl (k H locs cells slots lsA M)
theorem s_pop_i {x : Int32} (F : a_Fx my p R s m args meth c d) (hd : decode my.2.1 pc = .ok (.pop, 1)) (k : a_G base cs D cA my c0 p l e R s m args below meth c Q (pc + 1) ls (st) h) : a_G base cs D cA my c0 p l e R s m args below meth c Q pc ls (.int x :: st) h :=
  fun H locs cells slots lsA M => lv_pop F.1 F.2.1 hd rfl (k H locs cells slots lsA M)
theorem s_pop_r {x : Nat} (F : a_Fx my p R s m args meth c d) (hd : decode my.2.1 pc = .ok (.pop, 1)) (k : a_G base cs D cA my c0 p l e R s m args below meth c Q (pc + 1) ls (st) h) : a_G base cs D cA my c0 p l e R s m args below meth c Q pc ls (.ref x :: st) h :=
  fun H locs cells slots lsA M => lv_pop F.1 F.2.1 hd rfl (k H locs cells slots lsA M)
theorem s_goto {o : Int} {t : Nat} (F : a_Fx my p R s m args meth c d) (hd : decode my.2.1 pc = .ok (.goto o, 3)) (ht : (pc : Int) + o = (t : Int)) (k : a_G base cs D cA my c0 p l e R s m args below meth c Q t ls st h) : a_G base cs D cA my c0 p l e R s m args below meth c Q pc ls st h :=
  fun H locs cells slots lsA M => lv_goto F.1 F.2.1 hd ht (k H locs cells slots lsA M)
theorem s_lcmp {x y : Int64} (F : a_Fx my p R s m args meth c d) (hd : decode my.2.1 pc = .ok (.lcmp, 1)) (k : a_G base cs D cA my c0 p l e R s m args below meth c Q (pc + 1) ls (.int (lg_cmp x y) :: st) h) : a_G base cs D cA my c0 p l e R s m args below meth c Q pc ls (.long y :: .long x :: st) h :=
  fun H locs cells slots lsA M => W.lcmp F.1 F.2.1 hd (k H locs cells slots lsA M)
theorem s_icmp {cc : ClassFile.Cond} {o : Int} {t : Nat} {x y : Int32} (F : a_Fx my p R s m args meth c d) (hd : decode my.2.1 pc = .ok (.if_icmp cc o, 3)) (ht : (pc : Int) + o = (t : Int)) (k : a_G base cs D cA my c0 p l e R s m args below meth c Q (if a_cnd cc x y = true then t else pc + 3) ls st h) : a_G base cs D cA my c0 p l e R s m args below meth c Q pc ls (.int y :: .int x :: st) h := by
  intro H locs cells slots lsA M
  have k := k H locs cells slots lsA M
  cases cc
  · refine lv_icmp_eq F.1 F.2.1 hd ht (fun q => ?_) (fun q => ?_)
    · rw [if_pos (by simpa [a_cnd] using q)] at k; exact k
    · rw [if_neg (by simpa [a_cnd] using q)] at k; exact k
  · refine lv_icmp_ne F.1 F.2.1 hd ht (fun q => ?_) (fun q => ?_)
    · rw [if_pos (by simpa [a_cnd] using q)] at k; exact k
    · rw [if_neg (by simpa [a_cnd] using q)] at k; exact k
  · refine lv_icmp_lt F.1 F.2.1 hd ht (fun q => ?_) (fun q => ?_)
    · rw [if_pos (by simpa [a_cnd] using q)] at k; exact k
    · rw [if_neg (by simpa [a_cnd] using q)] at k; exact k
  · refine lv_icmp_ge F.1 F.2.1 hd ht (fun q => ?_) (fun q => ?_)
    · rw [if_pos (by simpa [a_cnd] using q)] at k; exact k
    · rw [if_neg (by simpa [a_cnd] using q)] at k; exact k
  · refine lv_icmp_gt F.1 F.2.1 hd ht (fun q => ?_) (fun q => ?_)
    · rw [if_pos (by simpa [a_cnd] using q)] at k; exact k
    · rw [if_neg (by simpa [a_cnd] using q)] at k; exact k
  · refine lv_icmp_le F.1 F.2.1 hd ht (fun q => ?_) (fun q => ?_)
    · rw [if_pos (by simpa [a_cnd] using q)] at k; exact k
    · rw [if_neg (by simpa [a_cnd] using q)] at k; exact k
theorem s_ifc {cc : ClassFile.Cond} {o : Int} {t : Nat} {x : Int32} (F : a_Fx my p R s m args meth c d) (hd : decode my.2.1 pc = .ok (.ifCond cc o, 3)) (ht : (pc : Int) + o = (t : Int)) (k : a_G base cs D cA my c0 p l e R s m args below meth c Q (if a_cnd cc x 0 = true then t else pc + 3) ls st h) : a_G base cs D cA my c0 p l e R s m args below meth c Q pc ls (.int x :: st) h := by
  intro H locs cells slots lsA M
  have k := k H locs cells slots lsA M
  cases cc
  · refine lv_if_eq F.1 F.2.1 hd ht (fun q => ?_) (fun q => ?_)
    · rw [if_pos (by simpa [a_cnd] using q)] at k; exact k
    · rw [if_neg (by simpa [a_cnd] using q)] at k; exact k
  · refine lv_if_ne F.1 F.2.1 hd ht (fun q => ?_) (fun q => ?_)
    · rw [if_pos (by simpa [a_cnd] using q)] at k; exact k
    · rw [if_neg (by simpa [a_cnd] using q)] at k; exact k
  · refine lv_if_lt F.1 F.2.1 hd ht (fun q => ?_) (fun q => ?_)
    · rw [if_pos (by simpa [a_cnd] using q)] at k; exact k
    · rw [if_neg (by simpa [a_cnd] using q)] at k; exact k
  · refine lv_if_ge F.1 F.2.1 hd ht (fun q => ?_) (fun q => ?_)
    · rw [if_pos (by simpa [a_cnd] using q)] at k; exact k
    · rw [if_neg (by simpa [a_cnd] using q)] at k; exact k
  · refine lv_if_gt F.1 F.2.1 hd ht (fun q => ?_) (fun q => ?_)
    · rw [if_pos (by simpa [a_cnd] using q)] at k; exact k
    · rw [if_neg (by simpa [a_cnd] using q)] at k; exact k
  · refine lv_if_le F.1 F.2.1 hd ht (fun q => ?_) (fun q => ?_)
    · rw [if_pos (by simpa [a_cnd] using q)] at k; exact k
    · rw [if_neg (by simpa [a_cnd] using q)] at k; exact k
theorem s_tabO {n : Nat} {df lo hi : Int} {offs : Array Int} {x : Int32} (F : a_Fx my p R s m args meth c d) (hd : decode my.2.1 pc = .ok (.tableswitch df lo hi offs, n)) (h0 : 0 ≤ (pc : Int) + df) (hx : x.toInt < lo ∨ hi < x.toInt) (k : a_G base cs D cA my c0 p l e R s m args below meth c Q ((pc : Int) + df).toNat ls st h) : a_G base cs D cA my c0 p l e R s m args below meth c Q pc ls (.int x :: st) h :=
  fun H locs cells slots lsA M => lv_tableOut F.1 F.2.1 hd hx (Int.toNat_of_nonneg h0).symm (k H locs cells slots lsA M)
theorem s_tabI {n : Nat} {df lo hi of : Int} {offs : Array Int} {x : Int32} (F : a_Fx my p R s m args meth c d) (hd : decode my.2.1 pc = .ok (.tableswitch df lo hi offs, n)) (h0 : 0 ≤ (pc : Int) + of) (hx : ¬ (x.toInt < lo ∨ hi < x.toInt)) (ho : offs[(x.toInt - lo).toNat]? = some of) (k : a_G base cs D cA my c0 p l e R s m args below meth c Q ((pc : Int) + of).toNat ls st h) : a_G base cs D cA my c0 p l e R s m args below meth c Q pc ls (.int x :: st) h :=
  fun H locs cells slots lsA M => lv_tableIn F.1 F.2.1 hd (fun q => hx (Or.inl q)) (fun q => hx (Or.inr q)) ho (Int.toNat_of_nonneg h0).symm (k H locs cells slots lsA M)
theorem s_look {n : Nat} {df : Int} {ps : Array (Int × Int)} {x : Int32} (F : a_Fx my p R s m args meth c d) (hd : decode my.2.1 pc = .ok (.lookupswitch df ps, n)) (h0 : 0 ≤ (pc : Int) + a_lk ps.toList df x.toInt) (hp : (ps.toList.zip (ps.toList.drop 1)).all (fun (a, next) => a.1 < next.1) = true) (k : a_G base cs D cA my c0 p l e R s m args below meth c Q ((pc : Int) + a_lk ps.toList df x.toInt).toNat ls st h) : a_G base cs D cA my c0 p l e R s m args below meth c Q pc ls (.int x :: st) h :=
  fun H locs cells slots lsA M => lv_lookup F.1 F.2.1 hd hp rfl (Int.toNat_of_nonneg h0).symm (k H locs cells slots lsA M)
end AG1
end
section
/-! STEPS THAT TOUCH THE HEAP -/
theorem a_P1 {D : va_G} {cl : List vw_C} {q : Nat × va_E} {H : Heap} (h : va_at D cl q H) : va_P D cl [q] H := by
  intro k x hk
  cases k with
  | zero => cases hk; exact h
  | succ k => simp at hk
theorem a_getf_inv {c j t : Nat} {st st' : List Value} {h : aH} (hs : a_getf c j t st h = some st') : ∃ k r, st = .ref k :: r ∧ k < h.1 ∧ (h.2.2.1 k).1 = c ∧ j < (h.2.2.1 k).2 ∧ st' = a_slot h k j t :: r := by
  unfold a_getf at hs
  split at hs
  · split at hs
    · rename_i hk; cases hs; exact ⟨_, _, rfl, hk.1, hk.2.1, hk.2.2, rfl⟩
    · cases hs
  · cases hs
/-- the list of an object's values with one of them changed -/
theorem a_fs_upd {base : Nat} {cs : Nat → Nat} {h h' : aH} {k c j n : Nat} {v : Value} (hj : j < n) (he : a_cv base cs (a_slot h' k j (aFt c j)) = v) (ho : ∀ i, i ≠ j → ∀ t, a_slot h' k i t = a_slot h k i t) (i : Nat) :
    updV (vp_V ((List.range n).map (fun j => a_cv base cs (a_slot h k j (aFt c j))))) j v i = vp_V ((List.range n).map (fun j => a_cv base cs (a_slot h' k j (aFt c j)))) i := by
  unfold updV vp_V
  by_cases hi : i = j
  · subst hi
    rw [if_pos rfl]
    simp [List.getD, hj, he]
  · rw [if_neg hi]
    by_cases hn : i < n
    · simp [List.getD, hn, ho i hi]
    · simp [List.getD, hn]
theorem a_slot_setI {h : aH} {k j t : Nat} {x : Int32} (ht : t < 5) : a_slot (a_setI h k j x) k j t = .int x := by
  unfold a_slot
  rw [if_neg (by omega), if_neg (by omega)]
  simp [a_setI, a_up]
theorem a_slot_setI_ne {h : aH} {k j : Nat} {x : Int32} (i : Nat) (hi : i ≠ j) (t : Nat) : a_slot (a_setI h k j x) k i t = a_slot h k i t := by
  unfold a_slot
  simp [a_setI, a_up, hi]
theorem a_slot_setR {h : aH} {k j : Nat} {x : Option Nat} : a_slot (a_setR h k j x) k j 6 = va_rf x := by
  unfold a_slot
  rw [if_neg (by decide), if_pos rfl]
  simp [a_setR, a_up]
theorem a_slot_setR_ne {h : aH} {k j : Nat} {x : Option Nat} (i : Nat) (hi : i ≠ j) (t : Nat) : a_slot (a_setR h k j x) k i t = a_slot h k i t := by
  unfold a_slot
  simp [a_setR, a_up, hi]
section AG2
variable {base : Nat} {cs : Nat → Nat} {D : va_G} {cA : Nat → ClassId} {my : aMe} {c0 : Nat × Nat} {p : Program} {l : Launch} {e : Env} {R : Room} {s : State} {m : MethodId} {args : Array Value} {below : List Frame} {meth : Method} {c : Code} {Q : State → Prop} {pc pc' : Nat} {ls st ls' st' : List Value} {h h' : aH} {d : Nat}
theorem s_getf {i cc j t : Nat} (F : a_Fx my p R s m args meth c d) (K : va_K D aCl (a_tys cA) s) (hd : decode my.2.1 pc = .ok (.getfield i, 3)) (hc : cc < 12) (hj : j < (a_cn cc).2.2) (hdecl : ((a_cn cc).2.1 j).1 = (a_cn cc).1) (ht : t = aFt cc j)
    (hw : Cond.fieldLink my.1.cls i (a_cn cc).1 ((a_cn cc).2.1 j).2.1 ((a_cn cc).2.1 j).2.2.1 ∈ lw_good) (hs : a_getf cc j t st h = some st') (k : a_G base cs D cA my c0 p l e R s m args below meth c Q (pc + 3) ls st' h) : a_G base cs D cA my c0 p l e R s m args below meth c Q pc ls st h := by
  obtain ⟨q, r, rfl, hq, hk, hl, rfl⟩ := a_getf_inv hs
  intro H locs cells slots lsA M
  have hA := M.1.2.2 q hq
  rw [a_E_obj hk (by omega)] at hA
  show W p l e R s m args below meth c H locs cells slots Q (F0 m pc lsA (.ref (a_ad base cs q) :: r.map (a_cv base cs)))
  rw [a_ad_lt (Nat.lt_trans hq M.1.2.1)]
  refine va_get (ci := cc) F.1 F.2.1 F.2.2.2.2.1 (a_cl_in hc) F.2.2.2.1 K (a_P1 hA) 0 rfl (a_cl_at cc hc) j hj (F.2.2.2.2.1 _ hw) (fun x hx => by rw [← hdecl]; exact hx) (v := a_cv base cs (a_slot h q j t)) ?_ hd (k H locs cells slots lsA M)
  rw [ht]
  simp [hl]
/-- the heap with one cell changed -/
theorem a_M.put {q i : Nat} {H H1 : Heap} {locs : List Loc} {cells slots : Nat} {lsA : Array Slot} (M : a_M base cs D cA s my c0 ls h H locs cells slots lsA) (hq : q < h.1) (hn : h'.1 = h.1) (hct : h'.2.1 = h.2.1) (z : H1.size = H.size) (oq : ∀ x : Nat, x ≠ base + q → H1[x]? = H[x]?)
    (he : ∀ a, a ≠ q → a_E base cs cA h' a = a_E base cs cA h a) (hsc : h'.2.2.1 aSc = h.2.2.1 aSc ∧ h'.2.2.2.1 aSc = h.2.2.2.1 aSc) (hk : va_at D aCl (base + q, a_E base cs cA h' q) H1) : a_M base cs D cA s my c0 ls h' H1 (locs ++ [⟨base + q, i⟩]) cells slots lsA := by
  refine ⟨M.1.put hn z oq he hk, ⟨M.2.1.1, fun x hx => ?_⟩, fun x hx => ?_, M.2.2.2.1, by rw [hct]; exact M.2.2.2.2.1, ?_⟩
  · rw [oq x (by omega)]
    exact M.2.1.2 x hx
  · rcases List.mem_append.mp hx with h1 | h1
    · exact M.2.2.1 x h1
    · rw [List.mem_singleton.mp h1]
      exact Nat.le_add_right _ _
  · unfold a_Sx
    rw [hsc.1, hsc.2]
    exact M.2.2.2.2.2
theorem s_put0 {i cc j q : Nat} {v : Value} (F : a_Fx my p R s m args meth c d) (K : va_K D aCl (a_tys cA) s) (hd : decode my.2.1 pc = .ok (.putfield i, 3)) (hc : cc < 12) (hj : j < (a_cn cc).2.2) (hdecl : ((a_cn cc).2.1 j).1 = (a_cn cc).1)
    (hfin : ((a_cn cc).2.1 j).2.2.2 = true → (my.1.name = "<init>" ∧ my.1.cls = (a_cn cc).1)) (hw : Cond.fieldLink my.1.cls i (a_cn cc).1 ((a_cn cc).2.1 j).2.1 ((a_cn cc).2.1 j).2.2.1 ∈ lw_good) (hn : narrow (a_yt cc j) (a_cv base cs v) = a_cv base cs v) (hfit : fits (a_yt cc j) (a_cv base cs v) = true)
    (hq : q < h.1) (hk : (h.2.2.1 q).1 = cc) (hl : j < (h.2.2.1 q).2) (hn1 : h'.1 = h.1) (hct : h'.2.1 = h.2.1) (hkk : h'.2.2.1 = h.2.2.1) (hsc : h'.2.2.2.1 aSc = h.2.2.2.1 aSc) (he : ∀ a, a ≠ q → a_E base cs cA h' a = a_E base cs cA h a) (hv : a_cv base cs (a_slot h' q j (aFt cc j)) = a_cv base cs v) (ho : ∀ i, i ≠ j → ∀ t, a_slot h' q i t = a_slot h q i t)
    (k : a_G base cs D cA my c0 p l e R s m args below meth c Q (pc + 3) ls st h') : a_G base cs D cA my c0 p l e R s m args below meth c Q pc ls (v :: .ref q :: st) h := by
  intro H locs cells slots lsA M
  have hA := M.1.2.2 q hq
  rw [a_E_obj hk (by omega)] at hA
  show W p l e R s m args below meth c H locs cells slots Q (F0 m pc lsA (a_cv base cs v :: .ref (a_ad base cs q) :: st.map (a_cv base cs)))
  rw [a_ad_lt (Nat.lt_trans hq M.1.2.1)]
  have hap := va_apart (own := my.1.cls) F.2.2.2.2.1 (a_cl_in hc) (a_yt cc) (fun k hk => (a_cl_ty hc k hk).1) (a_cl_nm hc) K (a_cl_at cc hc)
  obtain ⟨r, h1, cell, q1, q2, q3, q4⟩ := hA
  have hr : r = a_cn cc := Option.some.inj (h1.symm.trans (a_cl_at cc hc))
  subst hr
  obtain ⟨hS, hfc, kC, hkC, hkind⟩ := K.1 cc _ (a_cl_at cc hc)
  obtain ⟨cf, kf, fi, f, hi, hsl⟩ := hS j hj
  have hlay := F.2.2.2.2.1 _ (a_cl_in hc _ (u_in_lay hj))
  have hst := (u_facts hfc hkC (u_lays F.2.2.2.2.1 (a_cl_in hc) hj) hi).1
  have hi2 : s.fieldFound? (a_cn cc).1 ((a_cn cc).2.1 j).2.1 ((a_cn cc).2.1 j).2.2.1 = some (cf, kf, fi, f) := by rw [← hdecl]; exact hi
  have fin : ∀ H' : Heap, H'[base + q]? = some (cell.setSlot f.slot (a_cv base cs v)) → H'.size = H.size → (∀ x, x ≠ base + q → H'[x]? = H[x]?) → W p l e R s m args below meth c H' (locs ++ [⟨base + q, f.slot⟩]) cells slots Q (F0 m (pc + 3) lsA (st.map (a_cv base cs))) := by
    intro H' e1 e2 e3
    refine k H' _ cells slots lsA (M.put hq hn1 hct e2 e3 he ⟨by rw [hkk], hsc⟩ ?_)
    have hk' : (h'.2.2.1 q).1 = cc := by rw [hkk]; exact hk
    rw [a_E_obj hk' (by omega), hkk]
    refine ⟨_, a_cl_at cc hc, t_OB.to (V := updV (vp_V ((List.range (h.2.2.1 q).2).map (fun j => a_cv base cs (a_slot h q j (aFt cc j))))) j (a_cv base cs v)) ⟨_, e1, q2, q3, ?_⟩ (fun x _ => a_fs_upd hl hv ho x)⟩
    rw [hsl]
    exact t_set q4 hap hj _
  unfold u_lay at hlay
  by_cases hf : ((a_cn cc).2.1 j).2.2.2 = true
  · rw [if_pos hf] at hlay
    have hcf : m.cls = cf := by
      obtain ⟨_, _, c', _, _, _, -, -, hf', -, -, -, hown2, -⟩ := Cond.laysFinal_spec hlay
      have e1 : c' = cf := by have := hi.symm.trans hf'; simp at this; exact this.1.symm
      rw [hdecl, ← (hfin hf).2] at hown2
      rw [← e1]; exact Option.some.inj (F.2.2.2.1.symm.trans hown2)
    have h6 := u_fits hfc hkC hkind (Or.inr hlay) hi (a_cl_ty hc j hj).1 hn hfit
    exact W.putFinK F.1 F.2.1 F.2.2.2.1 (F.2.2.2.2.1 _ hw) hi2 hst hcf (F.2.2.2.2.2.2.2.1 (hfin hf).1) (by rw [q2]; exact h6) q1 q3 (by rw [hsl]; exact k2_hasslot (q4 j hj)) rfl rfl hd fin
  · rw [if_neg hf] at hlay
    have h6 := u_store hfc hkC hkind hlay hi (a_cl_ty hc j hj).1 hn hfit
    exact W.putK F.1 F.2.1 (f := f) ⟨F.2.2.2.1, F.2.2.2.2.1 _ hw, ⟨_, _, _, hi2⟩, hst⟩ (by rw [q2]; exact h6) q1 q3 (by rw [hsl]; exact k2_hasslot (q4 j hj)) rfl rfl hd fin
theorem a_fit_ok {t : FieldType} {x : Int32} (ht : a_tcode t < 5) (hf : a_fit (a_tcode t) x = true) : narrow t (.int x) = .int x ∧ fits t (.int x) = true := by
  cases t with
  | int => exact ⟨rfl, rfl⟩
  | boolean =>
    have : x = 0 ∨ x = 1 := by simpa [a_fit, a_tcode] using hf
    rcases this with rfl | rfl <;> decide
  | byte => simp [a_fit, a_tcode] at hf
  | char => simp [a_fit, a_tcode] at hf
  | short => simp [a_fit, a_tcode] at hf
  | _ => simp [a_tcode] at ht
theorem a_ref_ok {t : FieldType} (ht : a_tcode t = 6) (q : Nat) : narrow t (.ref q) = .ref q ∧ fits t (.ref q) = true := by
  cases t with
  | object c => exact ⟨rfl, rfl⟩
  | array c => exact ⟨rfl, rfl⟩
  | _ => simp [a_tcode] at ht
theorem s_putf {i cc j t : Nat} (F : a_Fx my p R s m args meth c d) (K : va_K D aCl (a_tys cA) s) (hd : decode my.2.1 pc = .ok (.putfield i, 3)) (hc : cc < 12) (hj : j < (a_cn cc).2.2) (hdecl : ((a_cn cc).2.1 j).1 = (a_cn cc).1) (ht : t = aFt cc j)
    (hfin : ((a_cn cc).2.1 j).2.2.2 = true → (my.1.name = "<init>" ∧ my.1.cls = (a_cn cc).1)) (hw : Cond.fieldLink my.1.cls i (a_cn cc).1 ((a_cn cc).2.1 j).2.1 ((a_cn cc).2.1 j).2.2.1 ∈ lw_good)
    (hs : a_putf (pc + 3) cc j t ls st h = some (.inl (pc', ls', st', h'))) (hsc : h.1 < aSc) (k : a_G base cs D cA my c0 p l e R s m args below meth c Q pc' ls' st' h') : a_G base cs D cA my c0 p l e R s m args below meth c Q pc ls st h := by
  have hty := (a_cl_ty hc j hj).2
  unfold a_putf at hs
  split at hs
  · rename_i x q r
    split at hs
    · rename_i hq
      obtain ⟨⟨h1, h2, h3⟩, h4, h5⟩ := hq
      cases hs
      rw [ht, hty] at h4 h5
      obtain ⟨f1, f2⟩ := a_fit_ok h4 h5
      have hne : aSc ≠ q := fun z => absurd (Nat.lt_trans h1 hsc) (by rw [z]; exact Nat.lt_irrefl _)
      exact s_put0 (v := .int x) (h' := a_setI h q j x) F K hd hc hj hdecl hfin hw f1 f2 h1 h2 h3 rfl rfl rfl (a_up_ne _ _ _ hne) (fun a ha => a_E_setI j x ha) (by rw [a_slot_setI (by rw [hty]; exact h4)]) (fun i hi t => a_slot_setI_ne i hi t) k
    · cases hs
  · rename_i x q r
    split at hs
    · rename_i hq
      obtain ⟨⟨h1, h2, h3⟩, h4⟩ := hq
      cases hs
      rw [ht, hty] at h4
      obtain ⟨f1, f2⟩ := a_ref_ok h4 (a_ad base cs x)
      exact s_put0 (v := .ref x) (h' := a_setR h q j (some x)) F K hd hc hj hdecl hfin hw f1 f2 h1 h2 h3 rfl rfl rfl rfl (fun a ha => a_E_setR j _ ha) (by rw [hty, h4, a_slot_setR]; rfl) (fun i hi t => a_slot_setR_ne i hi t) k
    · cases hs
  · cases hs
end AG2
end
section
/-! ARRAYS, NEW CELLS -/
theorem a_in_ok {i : Int32} {n : Nat} (h : a_in i n = true) : vp_in i n := by simpa [a_in, vp_in] using h
theorem a_ald_inv {c : Nat} {st st' : List Value} {h : aH} (hs : a_ald c st h = some st') : ∃ i k r, st = .int i :: .ref k :: r ∧ (((k < h.1 ∨ (k = aSc ∧ c = 1000)) ∧ (h.2.2.1 k).1 = c ∧ a_in i (h.2.2.1 k).2 = true ∧ st' = .int (h.2.2.2.1 k i.toNatClampNeg) :: r) ∨ (k = aC0 ∧ c = 1000 ∧ a_in i aTab.length = true ∧ st' = .int (aTab.getD i.toNatClampNeg 0) :: r)) := by
  unfold a_ald at hs
  split at hs
  · split at hs
    · rename_i hk; cases hs; exact ⟨_, _, _, rfl, Or.inl ⟨hk.1, hk.2.1, hk.2.2, rfl⟩⟩
    · split at hs
      · rename_i hk; cases hs; exact ⟨_, _, _, rfl, Or.inr ⟨hk.1, hk.2.1, hk.2.2, rfl⟩⟩
      · cases hs
  · cases hs
theorem a_aldL_inv {st st' : List Value} {h : aH} (hs : a_aldL st h = some st') : ∃ i k r, st = .int i :: .ref k :: r ∧ k < h.1 ∧ (h.2.2.1 k).1 = 1004 ∧ a_in i (h.2.2.1 k).2 = true ∧ st' = .long (h.2.2.2.2.1 k i.toNatClampNeg) :: r := by
  unfold a_aldL at hs
  split at hs
  · split at hs
    · rename_i hk; cases hs; exact ⟨_, _, _, rfl, hk.1, hk.2.1, hk.2.2, rfl⟩
    · cases hs
  · cases hs
theorem a_ast_inv {c pc pc' : Nat} {f : Int32 → Int32} {ls st ls' st' : List Value} {h h' : aH} (hs : a_ast c f pc ls st h = some (.inl (pc', ls', st', h'))) : ∃ x i k, st = .int x :: .int i :: .ref k :: st' ∧ k < h.1 ∧ (h.2.2.1 k).1 = c ∧ a_in i (h.2.2.1 k).2 = true ∧ pc' = pc ∧ ls' = ls ∧ h' = a_setI h k i.toNatClampNeg (f x) := by
  unfold a_ast at hs
  split at hs
  · split at hs
    · rename_i hk; cases hs; exact ⟨_, _, _, rfl, hk.1, hk.2.1, hk.2.2, rfl, rfl, rfl⟩
    · cases hs
  · cases hs
theorem a_astL_inv {pc pc' : Nat} {ls st ls' st' : List Value} {h h' : aH} (hs : a_astL pc ls st h = some (.inl (pc', ls', st', h'))) : ∃ x i k, st = .long x :: .int i :: .ref k :: st' ∧ k < h.1 ∧ (h.2.2.1 k).1 = 1004 ∧ a_in i (h.2.2.1 k).2 = true ∧ pc' = pc ∧ ls' = ls ∧ h' = a_setL h k i.toNatClampNeg x := by
  unfold a_astL at hs
  split at hs
  · split at hs
    · rename_i hk; cases hs; exact ⟨_, _, _, rfl, hk.1, hk.2.1, hk.2.2, rfl, rfl, rfl⟩
    · cases hs
  · cases hs
theorem a_len_inv {st st' : List Value} {h : aH} (hs : a_len st h = some st') : ∃ k r, st = .ref k :: r ∧ ((k < h.1 ∧ ((h.2.2.1 k).1 = 1000 ∨ (h.2.2.1 k).1 = 1001 ∨ (h.2.2.1 k).1 = 1004)) ∨ (k = aSc ∧ (h.2.2.1 k).1 = 1000)) ∧ st' = .int (Int32.ofNat (h.2.2.1 k).2) :: r := by
  unfold a_len at hs
  split at hs
  · split at hs
    · rename_i hk; cases hs; exact ⟨_, _, rfl, hk, rfl⟩
    · cases hs
  · cases hs
/-- the static table, and the field that holds it -/
def a_Tb (base : Nat) (cs : Nat → Nat) (s : State) : Prop := va_T .int (cs 1) aTab.length (fun j => .int (aTab.getD j 0)) (fun q => base ≤ q) s s.heap ∧ va_Z "TypedTermReader" "CONSTANT_TYPES" "[I" (.ref (cs 1)) (fun q => base ≤ q) s s.heap
section AG3
variable {base : Nat} {cs : Nat → Nat} {D : va_G} {cA : Nat → ClassId} {my : aMe} {c0 : Nat × Nat} {p : Program} {l : Launch} {e : Env} {R : Room} {s : State} {m : MethodId} {args : Array Value} {below : List Frame} {meth : Method} {c : Code} {Q : State → Prop} {pc pc' : Nat} {ls st ls' st' : List Value} {h h' : aH} {d : Nat}
theorem a_M.S {H : Heap} {locs : List Loc} {cells slots : Nat} {lsA : Array Slot} (M : a_M base cs D cA s my c0 ls h H locs cells slots lsA) (hz : s.heap.size ≤ H.size) : va_S (fun q => base ≤ q) s.heap H locs := ⟨hz, fun q _ h2 => M.2.1.2 q (Nat.not_le.mp h2), M.2.2.1⟩
/-- an int of an int array: a cell, the script, the static table -/
theorem s_iald (F : a_Fx my p R s m args meth c d) (K : va_K D aCl (a_tys cA) s) (T : a_Tb base cs s) (hd : decode my.2.1 pc = .ok (.iaload, 1)) (hs : a_ald 1000 st h = some st') (k : a_G base cs D cA my c0 p l e R s m args below meth c Q (pc + 1) ls st' h) : a_G base cs D cA my c0 p l e R s m args below meth c Q pc ls st h := by
  obtain ⟨i, q, r, rfl, hq⟩ := a_ald_inv hs
  intro H locs cells slots lsA M
  rcases hq with ⟨hq, hk, hin, rfl⟩ | ⟨rfl, -, hin, rfl⟩
  · have k := k H locs cells slots lsA M
    show W p l e R s m args below meth c H locs cells slots Q (F0 m pc lsA (.int i :: .ref (a_ad base cs q) :: r.map (a_cv base cs)))
    rcases hq with hq | ⟨rfl, -⟩
    · have hA := M.1.2.2 q hq
      rw [a_E_arr hk (by omega) (by omega)] at hA
      rw [a_ad_lt (Nat.lt_trans hq M.1.2.1)]
      exact va_iald F.1 F.2.1 K (a_P1 hA) 0 0 rfl rfl (a_in_ok hin) hd k
    · obtain ⟨⟨scr, x1, x2, x3, x4, x5⟩, hb⟩ := M.2.2.2.2.2 hk
      have e0 : a_ad base cs aSc = cs 0 := rfl
      rw [e0]
      have hlt : i.toNatClampNeg < (h.2.2.1 aSc).2 := Nat.not_le.mp fun z => (a_in_ok hin) (Or.inr z)
      exact W.iald F.1 F.2.1 (by rw [M.2.1.2 _ hb]; exact x1) x2 x3 (by rw [x4]; exact a_in_ok hin) (x5 _ hlt) rfl rfl hd k
  · have k := k H locs cells slots lsA M
    show W p l e R s m args below meth c H locs cells slots Q (F0 m pc lsA (.int i :: .ref (a_ad base cs aC0) :: r.map (a_cv base cs)))
    have e1 : a_ad base cs aC0 = cs 1 := rfl
    rw [e1]
    obtain ⟨cell, h1, h2, h3, h4, h5, h6, h7⟩ := T.1
    have hlt : i.toNatClampNeg < aTab.length := Nat.not_le.mp fun z => (a_in_ok hin) (Or.inr z)
    refine W.iald F.1 F.2.1 (by rw [M.2.1.2 _ (Nat.not_le.mp h7)]; exact h1) h2 h3 ?_ (h6 _ hlt) rfl rfl hd k
    rintro (z | z)
    · exact (a_in_ok hin) (Or.inl z)
    · omega
theorem s_bald (F : a_Fx my p R s m args meth c d) (K : va_K D aCl (a_tys cA) s) (hd : decode my.2.1 pc = .ok (.baload, 1)) (hs : a_ald 1001 st h = some st') (k : a_G base cs D cA my c0 p l e R s m args below meth c Q (pc + 1) ls st' h) : a_G base cs D cA my c0 p l e R s m args below meth c Q pc ls st h := by
  obtain ⟨i, q, r, rfl, hq⟩ := a_ald_inv hs
  intro H locs cells slots lsA M
  rcases hq with ⟨hq, hk, hin, rfl⟩ | ⟨-, hz, -⟩
  · have k := k H locs cells slots lsA M
    show W p l e R s m args below meth c H locs cells slots Q (F0 m pc lsA (.int i :: .ref (a_ad base cs q) :: r.map (a_cv base cs)))
    rcases hq with hq | ⟨-, hz⟩
    · have hA := M.1.2.2 q hq
      rw [a_E_arr hk (by omega) (by omega)] at hA
      rw [a_ad_lt (Nat.lt_trans hq M.1.2.1)]
      exact va_bald F.1 F.2.1 K (a_P1 hA) 0 1 rfl rfl (a_in_ok hin) hd k
    · exact absurd hz (by decide)
  · exact absurd hz (by decide)
theorem s_lald (F : a_Fx my p R s m args meth c d) (K : va_K D aCl (a_tys cA) s) (hd : decode my.2.1 pc = .ok (.laload, 1)) (hs : a_aldL st h = some st') (k : a_G base cs D cA my c0 p l e R s m args below meth c Q (pc + 1) ls st' h) : a_G base cs D cA my c0 p l e R s m args below meth c Q pc ls st h := by
  obtain ⟨i, q, r, rfl, hq, hk, hin, rfl⟩ := a_aldL_inv hs
  intro H locs cells slots lsA M
  have k := k H locs cells slots lsA M
  show W p l e R s m args below meth c H locs cells slots Q (F0 m pc lsA (.int i :: .ref (a_ad base cs q) :: r.map (a_cv base cs)))
  have hA := M.1.2.2 q hq
  rw [a_E_arl hk] at hA
  rw [a_ad_lt (Nat.lt_trans hq M.1.2.1)]
  exact va_lald F.1 F.2.1 K (a_P1 hA) 0 2 rfl rfl (a_in_ok hin) hd k
theorem s_alen (F : a_Fx my p R s m args meth c d) (K : va_K D aCl (a_tys cA) s) (hd : decode my.2.1 pc = .ok (.arraylength, 1)) (hs : a_len st h = some st') (k : a_G base cs D cA my c0 p l e R s m args below meth c Q (pc + 1) ls st' h) : a_G base cs D cA my c0 p l e R s m args below meth c Q pc ls st h := by
  obtain ⟨q, r, rfl, hq, rfl⟩ := a_len_inv hs
  intro H locs cells slots lsA M
  have k := k H locs cells slots lsA M
  show W p l e R s m args below meth c H locs cells slots Q (F0 m pc lsA (.ref (a_ad base cs q) :: r.map (a_cv base cs)))
  rcases hq with ⟨hq, hk⟩ | ⟨rfl, hk⟩
  · have hA := M.1.2.2 q hq
    rw [a_ad_lt (Nat.lt_trans hq M.1.2.1)]
    rcases hk with e1 | e1 | e1
    · rw [a_E_arr e1 (by omega) (by omega)] at hA
      exact va_alen F.1 F.2.1 K (a_P1 hA) 0 0 rfl rfl rfl hd k
    · rw [a_E_arr e1 (by omega) (by omega)] at hA
      exact va_alen F.1 F.2.1 K (a_P1 hA) 0 1 rfl rfl rfl hd k
    · rw [a_E_arl e1] at hA
      exact va_alen F.1 F.2.1 K (a_P1 hA) 0 2 rfl rfl rfl hd k
  · obtain ⟨⟨scr, x1, x2, x3, x4, x5⟩, hb⟩ := M.2.2.2.2.2 hk
    have e0 : a_ad base cs aSc = cs 0 := rfl
    rw [e0]
    exact W.alen F.1 F.2.1 (by rw [M.2.1.2 _ hb]; exact x1) x2 (by rw [x4] <;> rfl) rfl rfl hd k
theorem a_cell_i (cA : ClassId) (n k : Nat) (f : Nat → Int32) (x : Int32) : (vp_cell cA (n, .inl f)).setSlot k (.int x) = vp_cell cA (n, .inl (fun j => if j = k then x else f j)) := by
  rw [vp_cell_i, vp_cell_i, arrV_store]
  congr 1
  funext j
  by_cases hj : j = k
  · simp [updV, hj]
  · simp [updV, hj]
theorem a_cell_l (cA : ClassId) (n k : Nat) (f : Nat → Int64) (x : Int64) : (vp_cell cA (n, .inr (.inl f))).setSlot k (.long x) = vp_cell cA (n, .inr (.inl (fun j => if j = k then x else f j))) := by
  rw [vp_cell_l, vp_cell_l, arrV_store]
  congr 1
  funext j
  by_cases hj : j = k
  · simp [updV, hj]
  · simp [updV, hj]
theorem s_iast (F : a_Fx my p R s m args meth c d) (K : va_K D aCl (a_tys cA) s) (hd : decode my.2.1 pc = .ok (.iastore, 1)) (hsc : h.1 < aSc) (hs : a_ast 1000 (fun x => x) (pc + 1) ls st h = some (.inl (pc', ls', st', h'))) (k : a_G base cs D cA my c0 p l e R s m args below meth c Q pc' ls' st' h') : a_G base cs D cA my c0 p l e R s m args below meth c Q pc ls st h := by
  obtain ⟨x, i, q, rfl, hq, hk, hin, rfl, rfl, rfl⟩ := a_ast_inv hs
  intro H locs cells slots lsA M
  have hne : aSc ≠ q := fun z => absurd (Nat.lt_trans hq hsc) (by rw [z]; exact Nat.lt_irrefl _)
  have hA := M.1.2.2 q hq
  rw [a_E_arr hk (by omega) (by omega)] at hA
  show W p l e R s m args below meth c H locs cells slots Q (F0 m pc lsA (.int x :: .int i :: .ref (a_ad base cs q) :: st'.map (a_cv base cs)))
  rw [a_ad_lt (Nat.lt_trans hq M.1.2.1)]
  refine W.iast F.1 F.2.1 hA ((K.2 0 _ rfl).1 _ (fun j => .int (h.2.2.2.1 q j))) (fun z => by cases z) (by show ¬ (i < 0 ∨ (arrV _ _ _).slots.size ≤ _); rw [arrV_size]; exact a_in_ok hin) rfl rfl hd fun H1 e1 z1 o1 => ?_
  refine k H1 _ cells slots lsA (M.put hq rfl rfl z1 o1 (fun a ha => a_E_setI _ _ ha) ⟨rfl, a_up_ne _ _ _ hne⟩ ?_)
  rw [a_E_arr (h := a_setI h q i.toNatClampNeg x) hk (by omega) (by omega)]
  show H1[base + q]? = some (vp_cell _ _)
  rw [e1, a_cell_i]
  simp [a_setI, a_up]
theorem s_bast (F : a_Fx my p R s m args meth c d) (K : va_K D aCl (a_tys cA) s) (hd : decode my.2.1 pc = .ok (.bastore, 1)) (hsc : h.1 < aSc) (hs : a_ast 1001 (fun x => vp_nar .byte x) (pc + 1) ls st h = some (.inl (pc', ls', st', h'))) (k : a_G base cs D cA my c0 p l e R s m args below meth c Q pc' ls' st' h') : a_G base cs D cA my c0 p l e R s m args below meth c Q pc ls st h := by
  obtain ⟨x, i, q, rfl, hq, hk, hin, rfl, rfl, rfl⟩ := a_ast_inv hs
  intro H locs cells slots lsA M
  have hne : aSc ≠ q := fun z => absurd (Nat.lt_trans hq hsc) (by rw [z]; exact Nat.lt_irrefl _)
  have hA := M.1.2.2 q hq
  rw [a_E_arr hk (by omega) (by omega)] at hA
  show W p l e R s m args below meth c H locs cells slots Q (F0 m pc lsA (.int x :: .int i :: .ref (a_ad base cs q) :: st'.map (a_cv base cs)))
  rw [a_ad_lt (Nat.lt_trans hq M.1.2.1)]
  refine W.bast F.1 F.2.1 hA ((K.2 1 _ rfl).1 _ (fun j => .int (h.2.2.2.1 q j))) (fun z => by cases z) (by show ¬ (i < 0 ∨ (arrV _ _ _).slots.size ≤ _); rw [arrV_size]; exact a_in_ok hin) rfl rfl hd fun H1 e1 z1 o1 => ?_
  refine k H1 _ cells slots lsA (M.put hq rfl rfl z1 o1 (fun a ha => a_E_setI _ _ ha) ⟨rfl, a_up_ne _ _ _ hne⟩ ?_)
  rw [a_E_arr (h := a_setI h q i.toNatClampNeg (vp_nar .byte x)) hk (by omega) (by omega)]
  show H1[base + q]? = some (vp_cell _ _)
  rw [e1, narrow_byte, a_cell_i]
  simp [a_setI, a_up, vp_nar_byte]
theorem s_last (F : a_Fx my p R s m args meth c d) (K : va_K D aCl (a_tys cA) s) (hd : decode my.2.1 pc = .ok (.lastore, 1)) (hs : a_astL (pc + 1) ls st h = some (.inl (pc', ls', st', h'))) (k : a_G base cs D cA my c0 p l e R s m args below meth c Q pc' ls' st' h') : a_G base cs D cA my c0 p l e R s m args below meth c Q pc ls st h := by
  obtain ⟨x, i, q, rfl, hq, hk, hin, rfl, rfl, rfl⟩ := a_astL_inv hs
  intro H locs cells slots lsA M
  have hA := M.1.2.2 q hq
  rw [a_E_arl hk] at hA
  show W p l e R s m args below meth c H locs cells slots Q (F0 m pc lsA (.long x :: .int i :: .ref (a_ad base cs q) :: st'.map (a_cv base cs)))
  rw [a_ad_lt (Nat.lt_trans hq M.1.2.1)]
  refine W.last F.1 F.2.1 hA ((K.2 2 _ rfl).1 _ (fun j => .long (h.2.2.2.2.1 q j))) (fun z => by cases z) (by show ¬ (i < 0 ∨ (arrV _ _ _).slots.size ≤ _); rw [arrV_size]; exact a_in_ok hin) rfl rfl hd fun H1 e1 z1 o1 => ?_
  refine k H1 _ cells slots lsA (M.put hq rfl rfl z1 o1 (fun a ha => a_E_setL _ _ ha) ⟨rfl, rfl⟩ ?_)
  rw [a_E_arl (h := a_setL h q i.toNatClampNeg x) hk]
  show H1[base + q]? = some (vp_cell _ _)
  rw [e1, a_cell_l]
  simp [a_setL, a_up]
end AG3
end
section
/-! NEW CELLS, CONSTANTS, Object.<init> -/
theorem a_newa_inv {t : ArrayType} {pc pc' : Nat} {ls st ls' st' : List Value} {h h' : aH} (hs : a_newa t pc ls st h = some (.inl (pc', ls', st', h'))) : ∃ x r, st = .int x :: r ∧ ¬ x < 0 ∧ x.toNatClampNeg ≤ 1000000 ∧ h.1 + 1 < aSc ∧ (t = .int ∨ t = .byte ∨ t = .long) ∧ pc' = pc ∧ ls' = ls ∧ st' = .ref h.1 :: r ∧ h' = a_mk (a_acode t) x.toNatClampNeg h := by
  unfold a_newa at hs
  split at hs
  · split at hs
    · rename_i hk
      cases hs
      refine ⟨_, _, rfl, hk.1, hk.2.1, hk.2.2.1, ?_, rfl, rfl, rfl, rfl⟩
      have h4 := hk.2.2.2
      cases t <;> simp [a_acode] at h4 ⊢
    · cases hs
  · cases hs
section AG4
variable {base : Nat} {cs : Nat → Nat} {D : va_G} {cA : Nat → ClassId} {my : aMe} {c0 : Nat × Nat} {p : Program} {l : Launch} {e : Env} {R : Room} {s : State} {m : MethodId} {args : Array Value} {below : List Frame} {meth : Method} {c : Code} {Q : State → Prop} {pc pc' : Nat} {ls st ls' st' : List Value} {h h' : aH} {d : Nat}
theorem a_M.mk {cc len : Nat} {H H1 : Heap} {locs : List Loc} {cells slots : Nat} {lsA : Array Slot} (M : a_M base cs D cA s my c0 ls h H locs cells slots lsA) (hl : h.1 + 1 < aSc) (z : H1.size = H.size + 1) (oq : ∀ q : Nat, q < H.size → H1[q]? = H[q]?)
    (hk : va_at D aCl (base + h.1, a_E base cs cA (a_mk cc len h) h.1) H1) : a_M base cs D cA s my c0 ls (a_mk cc len h) H1 locs (cells + 1) (slots + len) lsA := by
  have hb : base ≤ H.size := by rw [M.1.1]; exact Nat.le_add_right _ _
  refine ⟨M.1.mk hl z oq hk, ⟨M.2.1.1, fun x hx => ?_⟩, M.2.2.1, M.2.2.2.1, ⟨?_, ?_⟩, ?_⟩
  · rw [oq x (by omega)]
    exact M.2.1.2 x hx
  · have := M.2.2.2.2.1.1
    show c0.1 + (cells + 1) = h.2.1.1 + 1
    omega
  · have := M.2.2.2.2.1.2
    show c0.2 + (slots + len) = h.2.1.2 + len
    omega
  · have hne : aSc ≠ h.1 := by have := M.1.2.1; omega
    have e1 : (a_mk cc len h).2.2.1 aSc = h.2.2.1 aSc := if_neg hne
    have e2 : (a_mk cc len h).2.2.2.1 aSc = h.2.2.2.1 aSc := if_neg hne
    unfold a_Sx
    rw [e1, e2]
    exact M.2.2.2.2.2
theorem a_new_eq {α : Type} (f : Nat → Nat → α) (k : Nat) (v : α) : a_new f k v k = fun _ => v := if_pos rfl
theorem s_newa {t : ArrayType} (F : a_Fx my p R s m args meth c d) (K : va_K D aCl (a_tys cA) s) (hd : decode my.2.1 pc = .ok (.newarray t, 2)) (hw : Cond.arrayClass (newarray.typeOf t) ∈ lw_good) (hs : a_newa t (pc + 2) ls st h = some (.inl (pc', ls', st', h'))) (hR : h'.2.1.1 ≤ c0.1 + R.cells ∧ h'.2.1.2 ≤ c0.2 + R.slots)
    (k : a_G base cs D cA my c0 p l e R s m args below meth c Q pc' ls' st' h') : a_G base cs D cA my c0 p l e R s m args below meth c Q pc ls st h := by
  obtain ⟨x, r, rfl, hx, hx2, hl, ht, rfl, rfl, rfl, rfl⟩ := a_newa_inv hs
  intro H locs cells slots lsA M
  have hR1 : h.2.1.1 + 1 ≤ c0.1 + R.cells := hR.1
  have hR2 : h.2.1.2 + x.toNatClampNeg ≤ c0.2 + R.slots := hR.2
  have hM := M.2.2.2.2.1
  refine va_newaK F.1 F.2.1 (F.2.2.2.2.1 _ hw) rfl hd rfl hx rfl ?_ (by omega) (by omega) rfl fun H1 cN e1 z1 o1 hAr hNm => ?_
  · rcases ht with rfl | rfl | rfl <;> simp [newarray.typeOf, componentBytes] <;> omega
  · have hk : va_at D aCl (base + h.1, a_E base cs cA (a_mk (a_acode t) x.toNatClampNeg h) h.1) H1 := by
      have ek : ((a_mk (a_acode t) x.toNatClampNeg h).2.2.1 h.1) = (a_acode t, x.toNatClampNeg) := if_pos rfl
      rw [← M.1.1]
      rcases ht with rfl | rfl | rfl
      · have hc : cN = cA 1000 := Option.some.inj (hNm.symm.trans (K.2 0 _ rfl).2)
        rw [a_E_arr (c := 1000) (by rw [ek]; rfl) (by decide) (by decide), ek]
        show H1[H.size]? = some (vp_cell _ _)
        rw [e1, hc]
        show _ = some (vp_cell (cA 1000) (x.toNatClampNeg, .inl (a_new h.2.2.2.1 h.1 0 h.1)))
        rw [a_new_eq]
        rfl
      · have hc : cN = cA 1001 := Option.some.inj (hNm.symm.trans (K.2 1 _ rfl).2)
        rw [a_E_arr (c := 1001) (by rw [ek]; rfl) (by decide) (by decide), ek]
        show H1[H.size]? = some (vp_cell _ _)
        rw [e1, hc]
        show _ = some (vp_cell (cA 1001) (x.toNatClampNeg, .inl (a_new h.2.2.2.1 h.1 0 h.1)))
        rw [a_new_eq]
        rfl
      · have hc : cN = cA 1004 := Option.some.inj (hNm.symm.trans (K.2 2 _ rfl).2)
        rw [a_E_arl (by rw [ek]; rfl), ek]
        show H1[H.size]? = some (vp_cell _ _)
        rw [e1, hc]
        show _ = some (vp_cell (cA 1004) (x.toNatClampNeg, .inr (.inl (a_new h.2.2.2.2.1 h.1 0 h.1))))
        rw [a_new_eq]
        rfl
    have kk := k H1 locs (cells + 1) (slots + x.toNatClampNeg) lsA (M.mk hl z1 o1 hk)
    have ea : a_ad base cs h.1 = H.size := by rw [a_ad_lt (by omega), M.1.1]
    have kk2 : W p l e R s m args below meth c H1 locs (cells + 1) (slots + x.toNatClampNeg) Q (F0 m (pc + 2) lsA (.ref (a_ad base cs h.1) :: r.map (a_cv base cs))) := kk
    rw [ea] at kk2
    exact kk2
theorem a_slot_mk {h : aH} {c len j t : Nat} : a_slot (a_mk c len h) h.1 j t = if t = 5 then .long 0 else if t = 6 then .null else .int 0 := by
  unfold a_slot a_mk
  simp only [a_new_eq]
  rfl
theorem a_def_ok {t : FieldType} (ht : a_tcode t < 7) : defaultValue t = (if a_tcode t = 5 then .long 0 else if a_tcode t = 6 then .null else .int 0) := by
  cases t with
  | int => rfl
  | boolean => rfl
  | byte => rfl
  | char => rfl
  | short => rfl
  | long => rfl
  | object c => rfl
  | array c => rfl
  | _ => simp [a_tcode] at ht
theorem aFt_lt : ∀ l ∈ aFts, ∀ t ∈ l, t < 7 := by decide +kernel
theorem a_getD_lt {l : List Nat} (h : ∀ t ∈ l, t < 7) (j : Nat) : l.getD j 0 < 7 := by
  rw [List.getD_eq_getElem?_getD]
  cases hj : l[j]? with
  | none => exact Nat.zero_lt_succ _
  | some t => exact h t (List.mem_of_getElem? hj)
theorem aFt_le (c j : Nat) : aFt c j < 7 := by
  unfold aFt
  refine a_getD_lt (fun t ht => ?_) j
  rw [List.getD_eq_getElem?_getD] at ht
  cases hc : aFts[c]? with
  | none => rw [hc] at ht; cases ht
  | some l => rw [hc] at ht; exact aFt_lt l (List.mem_of_getElem? hc) t ht
theorem s_new {i cc : Nat} (F : a_Fx my p R s m args meth c d) (K : va_K D aCl (a_tys cA) s) (hd : decode my.2.1 pc = .ok (.new i, 3)) (hc : cc < 12) (hw : Cond.classLink my.1.cls i (a_cn cc).1 ∈ lw_good ∧ Cond.instantiable (a_cn cc).1 (a_cn cc).2.2 ∈ lw_good ∧ Cond.initialized (a_cn cc).1 ∈ lw_good) (hl : h.1 + 1 < aSc) (hR : h.2.1.1 + 1 ≤ c0.1 + R.cells ∧ h.2.1.2 + aNf cc ≤ c0.2 + R.slots)
    (k : a_G base cs D cA my c0 p l e R s m args below meth c Q (pc + 3) ls (.ref h.1 :: st) (a_mk cc (aNf cc) h)) : a_G base cs D cA my c0 p l e R s m args below meth c Q pc ls st h := by
  intro H locs cells slots lsA M
  have hM := M.2.2.2.2.1
  have hnf : aNf cc = (a_cn cc).2.2 := by unfold aNf; rw [a_cl_at cc hc]
  have hKn := K.1 cc _ (a_cl_at cc hc)
  rw [hnf] at k hR
  refine W.newcK F.1 F.2.1 F.2.2.2.1 (F.2.2.2.2.1 _ hw.1) (F.2.2.2.2.1 _ hw.2.1) (F.2.2.2.2.1 _ hw.2.2) rfl hd (by omega) (by omega) hKn.2.1 rfl fun H1 kC hkC e1 z1 o1 => ?_
  have ek : ((a_mk cc (a_cn cc).2.2 h).2.2.1 h.1) = (cc, (a_cn cc).2.2) := if_pos rfl
  have hk : va_at D aCl (base + h.1, a_E base cs cA (a_mk cc (a_cn cc).2.2 h) h.1) H1 := by
    rw [a_E_obj (c := cc) (by rw [ek]) (by omega), ek, ← M.1.1]
    refine ⟨_, a_cl_at cc hc, (u_born (a_yt cc) F.2.2.2.2.1 (a_cl_in hc) hKn hkC e1 (fun k hk => (a_cl_ty hc k hk).1)).to (fun j hj => ?_)⟩
    have h7 : a_tcode (a_yt cc j) < 7 := by rw [← (a_cl_ty hc j hj).2]; exact aFt_le cc j
    rw [a_def_ok h7]
    unfold vp_V
    simp only [List.getD, List.getElem?_map, List.getElem?_range hj, Option.map_some, Option.getD_some, a_slot_mk, (a_cl_ty hc j hj).2]
    split
    · rfl
    · split <;> rfl
  have kk := k H1 locs (cells + 1) (slots + (a_cn cc).2.2) lsA (M.mk hl z1 o1 hk)
  have ea : a_ad base cs h.1 = H.size := by rw [a_ad_lt (by omega), M.1.1]
  have kk2 : W p l e R s m args below meth c H1 locs (cells + 1) (slots + (a_cn cc).2.2) Q (F0 m (pc + 3) lsA (.ref (a_ad base cs h.1) :: st.map (a_cv base cs))) := kk
  rw [ea] at kk2
  exact kk2
theorem s_ldc {i a : Nat} (F : a_Fx my p R s m args meth c d) (hd : decode my.2.1 pc = .ok (.ldc i, 2)) (hw : Cond.constant my.1.cls i (Int32.ofNat a) ∈ lw_good) (k : a_G base cs D cA my c0 p l e R s m args below meth c Q (pc + 2) ls (.int (Int32.ofNat a) :: st) h) : a_G base cs D cA my c0 p l e R s m args below meth c Q pc ls st h :=
  fun H locs cells slots lsA M => lv_ldc F.1 F.2.1 F.2.2.2.1 (F.2.2.2.2.1 _ hw) hd (k H locs cells slots lsA M)
theorem s_ldcw {i a : Nat} (F : a_Fx my p R s m args meth c d) (hd : decode my.2.1 pc = .ok (.ldc_w i, 3)) (hw : Cond.constant my.1.cls i (Int32.ofNat a) ∈ lw_good) (k : a_G base cs D cA my c0 p l e R s m args below meth c Q (pc + 3) ls (.int (Int32.ofNat a) :: st) h) : a_G base cs D cA my c0 p l e R s m args below meth c Q pc ls st h :=
  fun H locs cells slots lsA M => lv_ldcw F.1 F.2.1 F.2.2.2.1 (F.2.2.2.2.1 _ hw) hd (k H locs cells slots lsA M)
theorem s_objI {i : Nat} {q : Nat} (F : a_Fx my p R s m args meth c d) (hd : decode my.2.1 pc = .ok (.invokespecial i, 3)) (hw : Cond.methodLink my.1.cls i objectInit ∈ lw_good) (hw2 : Cond.instanceMethod objectInit ∈ lw_good ∧ Cond.code objectInit ⟨#[0xb1]⟩ 1 none ∈ lw_good) (hst : (st.map fun v => v.category).sum ≤ 8)
    (k : a_G base cs D cA my c0 p l e R s m args below meth c Q (pc + 3) ls st h) : a_G base cs D cA my c0 p l e R s m args below meth c Q pc ls (.ref q :: st) h := by
  intro H locs cells slots lsA M
  have hf := F.2.2.2.2.2.2.2.2
  refine W.objInit F.1 F.2.1 F.2.2.2.1 (F.2.2.2.2.1 _ hw) (F.2.2.2.2.1 _ hw2.1) (F.2.2.2.2.1 _ hw2.2) rfl (by rw [F.2.2.1]; exact M.2.2.2.1.1) (a := a_ad base cs q) (rest := st.map (a_cv base cs)) rfl hd (by omega) ?_ (k H locs cells slots lsA M)
  have e1 : ((st.map (a_cv base cs)).map fun v => v.category) = st.map fun v => v.category := by
    rw [List.map_map]
    exact List.map_congr_left (fun v _ => a_cv_cat base cs v)
  have e2 : (F0 m pc lsA ((.ref q :: st).map (a_cv base cs))).monitorRoom = 0 := rfl
  rw [e1]
  omega
end AG4
end
section
/-! WHAT A RUN KEEPS: cells only grow, the script stays -/
def a_ge (h h' : aH) : Prop := h.1 ≤ h'.1 ∧ h'.1 < aSc ∧ h.2.1.1 ≤ h'.2.1.1 ∧ h.2.1.2 ≤ h'.2.1.2 ∧ h'.2.2.1 aSc = h.2.2.1 aSc ∧ h'.2.2.2.1 aSc = h.2.2.2.1 aSc
theorem a_ge.rf {h : aH} (hl : h.1 < aSc) : a_ge h h := ⟨Nat.le_refl _, hl, Nat.le_refl _, Nat.le_refl _, rfl, rfl⟩
theorem a_ge.tr {h1 h2 h3 : aH} (a : a_ge h1 h2) (b : a_ge h2 h3) : a_ge h1 h3 := ⟨Nat.le_trans a.1 b.1, b.2.1, Nat.le_trans a.2.2.1 b.2.2.1, Nat.le_trans a.2.2.2.1 b.2.2.2.1, b.2.2.2.2.1.trans a.2.2.2.2.1, b.2.2.2.2.2.trans a.2.2.2.2.2⟩
theorem a_ge_mk {h : aH} {c len : Nat} (hl : h.1 + 1 < aSc) : a_ge h (a_mk c len h) := by
  have hne : aSc ≠ h.1 := by omega
  exact ⟨Nat.le_succ _, hl, Nat.le_succ _, Nat.le_add_right _ _, if_neg hne, if_neg hne⟩
theorem a_ge_setI {h : aH} {k j : Nat} {x : Int32} (hk : k < h.1) (hl : h.1 < aSc) : a_ge h (a_setI h k j x) := by
  have hne : aSc ≠ k := by omega
  exact ⟨Nat.le_refl _, hl, Nat.le_refl _, Nat.le_refl _, rfl, a_up_ne _ _ _ hne⟩
theorem a_ge_setL {h : aH} {k j : Nat} {x : Int64} (hl : h.1 < aSc) : a_ge h (a_setL h k j x) := ⟨Nat.le_refl _, hl, Nat.le_refl _, Nat.le_refl _, rfl, rfl⟩
theorem a_ge_setR {h : aH} {k j : Nat} {x : Option Nat} (hl : h.1 < aSc) : a_ge h (a_setR h k j x) := ⟨Nat.le_refl _, hl, Nat.le_refl _, Nat.le_refl _, rfl, rfl⟩
theorem a_ge_jdk {y : Nat} {as : List Value} {h : aH} {r : aR} (hs : a_jdk y as h = some r) (hl : h.1 < aSc) : a_ge h r.2 := by
  unfold a_jdk at hs
  split at hs
  · split at hs
    · cases hs; exact a_ge.rf hl
    · split at hs
      · cases hs; exact a_ge.rf hl
      · cases hs
  · split at hs
    · split at hs
      · cases hs; exact a_ge.rf hl
      · cases hs
    · cases hs
  · split at hs
    · split at hs
      · cases hs; exact a_ge.rf hl
      · cases hs
    · cases hs
  · split at hs
    · rename_i hk
      cases hs
      have hne : aSc ≠ _ := fun z => absurd (Nat.lt_trans hk.2.2.1 hl) (by rw [z]; exact Nat.lt_irrefl _)
      exact ⟨Nat.le_refl _, hl, Nat.le_refl _, Nat.le_refl _, rfl, if_neg hne⟩
    · cases hs
  · cases hs
def a_nh (o : aS ⊕ aR) : aH := match o with
  | .inl s => s.2.2.2
  | .inr r => r.2
theorem a_ge_go {pc : Nat} {ls : List Value} {h : aH} {o : Option (List Value)} {q : aS ⊕ aR} (hs : a_go pc ls h o = some q) (hl : h.1 < aSc) : a_ge h (a_nh q) := by
  unfold a_go at hs
  split at hs
  · cases hs; exact a_ge.rf hl
  · cases hs
theorem a_ge_inv {call : Nat → List Value → aH → Option aR} {ct : Bool} {a b pc : Nat} {ls st : List Value} {h : aH} {q : aS ⊕ aR} (hc : ∀ z as g r, g.1 < aSc → call z as g = some r → a_ge g r.2) (hs : a_inv call ct a b pc ls st h = some q) (hl : h.1 < aSc) : a_ge h (a_nh q) := by
  unfold a_inv at hs
  split at hs
  · split at hs
    · rename_i v h' he
      cases hs
      exact hc _ _ _ _ hl he
    · rename_i v h' he
      split at hs
      · cases hs
        exact hc _ _ _ (.inr v, h') hl he
      · cases hs
    · cases hs
  · cases hs
set_option maxHeartbeats 4000000 in
theorem a_ge_step {call : Nat → List Value → aH → Option aR} {ct : Bool} {pc : Nat} {i : Instr} {a b : Nat} {ls st : List Value} {h : aH} {q : aS ⊕ aR} (hc : ∀ z as g r, g.1 < aSc → call z as g = some r → a_ge g r.2) (hs : a_step call ct pc i a b ls st h = some q) (hl : h.1 < aSc) : a_ge h (a_nh q) := by
  unfold a_step at hs
  split at hs
  all_goals first
    | (cases hs; done)
    | (cases hs; exact a_ge.rf hl)
    | exact a_ge_go hs hl
    | exact a_ge_inv hc hs hl
    | skip
  all_goals (try unfold a_sti at hs)
  all_goals (try unfold a_sta at hs)
  all_goals (try unfold a_inc at hs)
  all_goals (try unfold a_putf at hs)
  all_goals (try unfold a_ast at hs)
  all_goals (try unfold a_astL at hs)
  all_goals (try unfold a_newa at hs)
  all_goals (repeat' (split at hs))
  all_goals first
    | (cases hs; done)
    | (cases hs; exact a_ge.rf hl)
    | exact a_ge_inv hc hs hl
    | (rename_i hk; cases hs; exact a_ge_setI hk.1.1 hl)
    | (rename_i hk; cases hs; exact a_ge_setI hk.1 hl)
    | (cases hs; exact a_ge_setR hl)
    | (cases hs; exact a_ge_setL hl)
    | (rename_i hk; cases hs; exact a_ge_mk hk.2.2.1)
    | (rename_i hk; cases hs; exact a_ge_mk hk)
    | (rename_i hk; cases hs; exact a_ge_mk hk.1)
theorem a_run_zero {d y pc : Nat} {ls st : List Value} {h : aH} : a_run 0 d y pc ls st h = none := rfl
/-- the call that a run makes -/
def a_call (n d z : Nat) (as : List Value) (g : aH) : Option aR := match d with
  | 0 => none
  | d' + 1 => match aMeL[z]? with
    | some mz => if a_ok mz as g = true then a_run n d' z 0 (a_loc mz as) [] g else none
    | none => a_jdk z as g
def a_ctch (y : Nat) : Bool := match aMeL[y]? with
  | some my => my.2.2.2.2.2.2.2
  | none => false
theorem a_run_succ (n d y pc : Nat) (ls st : List Value) (h : aH) : a_run (n + 1) d y pc ls st h = (match aCode y pc with
    | none => none
    | some ai => match a_step (a_call n d) (a_ctch y) pc ai.1 ai.2.1 ai.2.2.1 ls st h with
      | some (.inl (pc', ls', st', h')) => a_run n d y pc' ls' st' h'
      | some (.inr r) => if a_rok y r = true then some r else none
      | none => none) := rfl
theorem a_ge_run : ∀ (n d y pc : Nat) (ls st : List Value) (h : aH) (r : aR), a_run n d y pc ls st h = some r → h.1 < aSc → a_ge h r.2 := by
  intro n
  induction n with
  | zero => intro d y pc ls st h r hs; cases hs
  | succ n ih =>
    intro d y pc ls st h r hs hl
    have hc : ∀ z as g r, g.1 < aSc → a_call n d z as g = some r → a_ge g r.2 := by
      intro z as g r hg hz
      unfold a_call at hz
      split at hz
      · cases hz
      · split at hz
        · split at hz
          · exact ih _ _ _ _ _ _ _ hz hg
          · cases hz
        · exact a_ge_jdk hz hg
    rw [a_run_succ] at hs
    split at hs
    · cases hs
    · split at hs
      · rename_i hst
        have h1 := a_ge_step hc hst hl
        exact h1.tr (ih _ _ _ _ _ _ _ hs h1.2.1)
      · rename_i hst
        have h1 := a_ge_step hc hst hl
        split at hs
        · cases hs
          exact h1
        · cases hs
      · cases hs
end
section
/-! THE CONTEXT of every frame: tables, the static table, the texts, the script; a method's start and end in these words -/
def a_Ss (base : Nat) (cs adV : Nat → Nat) (U : State) : Prop := vk_S 22 (aStr.map List.length) (aStr.map (fun l => l.map Int32.ofNat)) (fun i => cs (i + 2)) adV (fun q => base ≤ q) U U.heap ∧ (∀ (i : Nat) (q : String × Nat × String), aSrf[i]? = some q → vk_R q.1 q.2.1 q.2.2 (cs (i + 2)) U) ∧ va_Z "java/lang/String" "COMPACT_STRINGS" "Z" (.int 1) (fun q => base ≤ q) U U.heap ∧ va_Zq "jdk/internal/util/Preconditions" "SIOOBE_FORMATTER" "Ljava/util/function/BiFunction;" (fun q => base ≤ q) U U.heap
/-- a static field that lies there and holds a reference or null -/
def a_LSt (base : Nat) (C n d : String) (U : State) : Prop := ∃ (c : ClassId) (k : Class) (i : Nat) (f : Field) (a : Nat) (cell : Cell), U.vm.findClass C = some c ∧ U.fieldFound? C n d = some (c, k, i, f) ∧ f.isStatic = true ∧ k.statics = some a ∧ U.heap[a]? = some cell ∧ cell.vm.isStatics = true ∧ cell.cls = c ∧ f.slot < cell.slots.size ∧ k.staticTypes[f.slot]? = some f.type ∧ a < base ∧ ∃ v : Value, cell.slots[f.slot]? = some v ∧ (v = .null ∨ ∃ t, v = .ref t)
theorem a_LSt.go {base : Nat} {C n d : String} {s U : State} (h : a_LSt base C n d s) (hW : s.WarmedH U.vm) (hq : ∀ q, q < base → U.heap[q]? = s.heap[q]?) : a_LSt base C n d U := by
  obtain ⟨c, k, i, f, a, cell, h1, h2, h3, h4, h5, h6, h7, h8, h9, h10, h11⟩ := h
  obtain ⟨k', hi', he⟩ := State.fieldFound?_setVm hW.alike h2
  exact ⟨c, k', i, f, a, cell, by rw [hW.alike.findClass]; exact h1, hi', h3, by rw [he]; exact h4, by rw [hq a h10]; exact h5, h6, h7, h8, by rw [he]; exact h9, h10, h11⟩
theorem a_LSt.lays {base : Nat} {C n d : String} {U : State} {args : Array Value} (h : a_LSt base C n d U) : (Cond.laysStatic C n d).before args U = true := by
  obtain ⟨c, k, i, f, a, cell, h1, h2, h3, h4, h5, h6, h7, h8, h9, h10, h11⟩ := h
  exact Cond.laysStatic_of h1 h2 h3 h4 h5 h6 h7 h8 h9
theorem a_LSt.isref {base : Nat} {C n d : String} {U : State} {args : Array Value} (h : a_LSt base C n d U) : (Cond.isRef (.static C n d)).before args U = true := by
  obtain ⟨c, k, i, f, a, cell, h1, h2, h3, h4, h5, h6, h7, h8, h9, h10, v, h11, h12⟩ := h
  have hv := Term.static_eval (s := U) (args := args) (first := U) (o := none) (idx := []) h2 h3 h4 h5 h6 h11
  rcases h12 with rfl | ⟨t, rfl⟩ <;> simp [Cond.before, Cond.holds, Cond.value, hv]
theorem a_Nw_face {w : Cond} {s U : State} (hW : s.WarmedH U.vm) (hk : w.keepsFace = true) (ht : w.onTables = true) (h : va_Nw w s) : va_Nw w U := va_tabs ht (rfl : (s.setVm U.vm).vm = U.vm) (Cond.before_shiftedFace (State.Shifted.of_warmed hW) w hk h)
def a_Th (base : Nat) (U : State) : Prop := a_LSt base "java/lang/Throwable" "UNASSIGNED_STACK" "[Ljava/lang/StackTraceElement;" U ∧ a_LSt base "java/lang/Throwable" "SUPPRESSED_SENTINEL" "Ljava/util/List;" U ∧ ∀ w ∈ lw_tbl, w.keepsFace = true → w.onTables = true → va_Nw w U
def a_Cx (base : Nat) (cs : Nat → Nat) (D : va_G) (cA : Nat → ClassId) (h : aH) (U : State) : Prop := va_K D aCl (a_tys cA) U ∧ (∀ w ∈ lw_tbl, a_isN w = true → va_Nw w U) ∧ a_Tb base cs U ∧ a_Sx base cs U h ∧ (∃ adV, a_Ss base cs adV U) ∧ a_Th base U
theorem a_Nw_warm {w : Cond} {s U : State} (hW : s.WarmedH U.vm) (hn : a_isN w = true) (h : va_Nw w s) : va_Nw w U := by
  cases w with
  | methodLinkNest a i x b => exact va_Nw.warmM hW h
  | fieldLinkNest a i b n d h2 => exact va_Nw.warmF hW h
  | _ => cases hn
theorem a_Cx.go {base : Nat} {cs : Nat → Nat} {D : va_G} {cA : Nat → ClassId} {h h2 : aH} {s U : State} (C : a_Cx base cs D cA h s) (hW : s.WarmedH U.vm) (hq : ∀ q, q < base → U.heap[q]? = s.heap[q]?) (hsc : h2.2.2.1 aSc = h.2.2.1 aSc ∧ h2.2.2.2.1 aSc = h.2.2.2.1 aSc) : a_Cx base cs D cA h2 U := by
  obtain ⟨K, N, T, S, ⟨adV, X1, X2, X3, X4⟩, H1, H2, H3⟩ := C
  have hk : ∀ a : Nat, a < s.heap.size → ¬ (fun q => base ≤ q) a → U.heap[a]? = s.heap[a]? := fun a _ ha => hq a (Nat.not_le.mp ha)
  refine ⟨va_K.moved hW.alike K, fun w hw hn => a_Nw_warm hW hn (N w hw hn), ⟨(T.1.moved hW.alike).kept hk, (T.2.moved hW.alike).kept hk⟩, ?_, ⟨adV, (X1.moved hW.alike).kept hk, fun i q hi => (X2 i q hi).warm hW, (X3.moved hW.alike).kept hk, (X4.moved hW.alike).kept hk⟩, H1.go hW hq, H2.go hW hq, fun w hw hk ht => a_Nw_face hW hk ht (H3 w hw hk ht)⟩
  intro hz
  rw [hsc.1] at hz
  obtain ⟨hX, hb⟩ := S hz
  rw [hsc.1, hsc.2]
  exact ⟨(hX.moved hW.alike).kept (hq _ hb), hb⟩
def a_Pc (base : Nat) (cs : Nat → Nat) (D : va_G) (cA : Nat → ClassId) (h : aH) (as : List Value) : Array Value → State → Prop := fun v U => v = (as.map (a_cv base cs)).toArray ∧ a_Sim base cs D cA h U.heap ∧ a_Cx base cs D cA h U
def a_Qc (base : Nat) (cs : Nat → Nat) (D : va_G) (cA : Nat → ClassId) (v : Option Value) (h' : aH) : Array Value → State → Outcome → State → Prop := fun _ st oc t => oc = .returned (v.map (a_cv base cs)) ∧ a_Sim base cs D cA h' t.heap ∧ ∀ q, q < base → t.heap[q]? = st.heap[q]?
theorem a_blind (base : Nat) (cs : Nat → Nat) (D : va_G) (cA : Nat → ClassId) (h : aH) (as : List Value) : FrameBlind (a_Pc base cs D cA h as) := by
  intro a U g mk q
  obtain ⟨q1, q2, q3⟩ := q
  exact ⟨q1, q2, q3.go (U := U.calling g mk a) (State.WarmedH.refl U) (fun _ _ => rfl) ⟨rfl, rfl⟩⟩
section AG5
variable {base : Nat} {cs : Nat → Nat} {D : va_G} {cA : Nat → ClassId} {my : aMe} {c0 : Nat × Nat} {p : Program} {l : Launch} {e : Env} {R : Room} {s : State} {m : MethodId} {args : Array Value} {below : List Frame} {meth : Method} {c : Code} {Q : State → Prop} {pc pc' : Nat} {ls st ls' st' : List Value} {h h' : aH} {d : Nat}
/-- behind a call -/
theorem a_cont {H : Heap} {locs : List Loc} {cells slots mc ms : Nat} {lsA : Array Slot} {v : Option Value} {a : Array Value} {st0 : List Value} (hr : va_Run p l e R s m args below meth c H locs cells slots mc ms (F0 m pc lsA st0) (st.map (a_cv base cs)) (a_Qc base cs D cA v h' a) (fun q => base ≤ q))
    (M : a_M base cs D cA s my c0 ls h H locs cells slots lsA) (hg : a_ge h h') (hmc : h.2.1.1 + mc = h'.2.1.1 ∧ h.2.1.2 + ms = h'.2.1.2)
    (k : a_G base cs D cA my c0 p l e R s m args below meth c Q (pc + 3) ls (v.toList ++ st) h') : W p l e R s m args below meth c H locs cells slots Q (F0 m pc lsA st0) := by
  intro T hT X
  obtain ⟨v', st₀, t, T', L, h0, X', hL, e1, e2, ⟨hv, hS, hold⟩, go⟩ := hr T hT X
  have hv2 : v' = v.map (a_cv base cs) := by cases hv; rfl
  subst hv2
  have hM := M.2.2.2.2.1
  have M2 : a_M base cs D cA s my c0 ls h' T'.heap (locs ++ L) (cells + mc) (slots + ms) lsA := by
    refine ⟨by rw [e1]; exact hS, ⟨M.2.1.1, fun q hq => ?_⟩, fun x hx => ?_, M.2.2.2.1, ⟨by omega, by omega⟩, ?_⟩
    · rw [e1, hold q hq, h0]
      exact M.2.1.2 q hq
    · rcases List.mem_append.mp hx with h1 | h1
      · exact M.2.2.1 x h1
      · exact hL x h1
    · unfold a_Sx
      rw [hg.2.2.2.2.1, hg.2.2.2.2.2]
      exact M.2.2.2.2.2
  obtain ⟨t2, a1, b1⟩ := k T'.heap (locs ++ L) (cells + mc) (slots + ms) lsA M2 T' rfl X'
  refine ⟨t2, go t2 ?_, b1⟩
  have ev : ((v.toList ++ st).map (a_cv base cs)) = (v.map (a_cv base cs)).toList ++ st.map (a_cv base cs) := by cases v <;> simp
  rw [ev] at a1
  exact a1
end AG5
end
section
/-! A METHOD'S ENTRY, AND A CALL OF A METHOD OF OURS -/
/-- the locals at the entry -/
theorem a_ls_entry {base : Nat} {cs : Nat → Nat} {mz : aMe} {as : List Value} (hc : ∀ v ∈ as, v.category = 1) (hl : as.length ≤ mz.2.2.1) :
    a_ls base cs mz.2.2.1 (a_loc mz as) ((lg_sl (as.map (a_cv base cs)) ++ List.replicate (mz.2.2.1 - (lg_sl (as.map (a_cv base cs))).length) Slot.unset).toArray) := by
  have hsl : ∀ l : List Value, (∀ v ∈ l, v.category = 1) → lg_sl l = l.map Slot.val := by
    intro l
    induction l with
    | nil => intro _; rfl
    | cons a l ih =>
      intro h
      have h1 := h a List.mem_cons_self
      have h2 := ih (fun v hv => h v (List.mem_cons_of_mem _ hv))
      unfold lg_sl at h2 ⊢
      rw [List.flatMap_cons, h2, h1]
      rfl
  have e1 : lg_sl (as.map (a_cv base cs)) = as.map (fun v => Slot.val (a_cv base cs v)) := by
    rw [hsl _ (fun v hv => by obtain ⟨w, hw, rfl⟩ := List.mem_map.mp hv; rw [a_cv_cat]; exact hc w hw), List.map_map]
    rfl
  have hll : (lg_sl (as.map (a_cv base cs))).length = as.length := by rw [e1, List.length_map]
  have hh := lv_entry (as.map (a_cv base cs)) (n := mz.2.2.1) (by rw [hll]; exact hl)
  refine ⟨hh.1, hh.2.1, ?_, fun i v hi => ?_⟩
  · unfold a_loc
    rw [List.length_append, List.length_replicate]
    omega
  · unfold a_loc at hi
    by_cases hk : i < as.length
    · rw [List.getElem?_append_left hk] at hi
      refine Or.inr ⟨hc v (List.mem_of_getElem? hi), ?_⟩
      rw [e1]
      have : (as.map (fun v => Slot.val (a_cv base cs v)))[i]? = some (Slot.val (a_cv base cs v)) := by rw [List.getElem?_map, hi]; rfl
      rw [List.getElem?_toArray, List.getElem?_append_left (by rw [List.length_map]; exact hk)]
      exact this
    · rw [List.getElem?_append_right (by omega)] at hi
      exact Or.inl (List.eq_of_mem_replicate (List.mem_of_getElem? hi))
def a_rm (d mc ms : Nat) : Room := { frames := d + 16, cells := mc, slots := ms, locals := d * 64 + 1000 }
/-- soundness of a run of n steps, for a method that doesn't catch, at its normal end -/
def a_RunS (l : Launch) (n : Nat) : Prop := ∀ (d y pc : Nat) (ls st : List Value) (h : aH) (v : Option Value) (hf : aH) (my : aMe), a_run n d y pc ls st h = some (.inl v, hf) → aMeL[y]? = some my → my.2.2.2.2.2.2.2 = false →
  ∀ (base : Nat) (cs : Nat → Nat) (D : va_G) (cA : Nat → ClassId) (c0 : Nat × Nat) (p : Program) (e : Env) (R : Room) (s : State) (m : MethodId) (args : Array Value) (below : List Frame) (meth : Method) (c : Code) (Q : State → Prop),
  a_Fx my p R s m args meth c d → a_Cx base cs D cA h s → h.1 < aSc → hf.2.1.1 ≤ c0.1 + R.cells → hf.2.1.2 ≤ c0.2 + R.slots →
  (∀ (pc' : Nat) (ls' : List Value) (x : Int32), v = some (.int x) → decode my.2.1 pc' = .ok (.ireturn, 1) → (my.2.2.2.1 = some .int ∨ (my.2.2.2.1 = some .boolean ∧ (x = 0 ∨ x = 1))) → a_G base cs D cA my c0 p l e R s m args below meth c Q pc' ls' [.int x] hf) →
  (∀ (pc' : Nat) (ls' : List Value), v = none → decode my.2.1 pc' = .ok (.return_, 1) → my.2.2.2.1 = none → a_G base cs D cA my c0 p l e R s m args below meth c Q pc' ls' [] hf) →
  a_G base cs D cA my c0 p l e R s m args below meth c Q pc ls st h
theorem a_plain_me {y : Nat} {my : aMe} (hm : aMeL[y]? = some my) (h1 : 1 ≤ y) (hc : my.2.2.2.2.2.2.2 = false) : a_plain y = true := by
  unfold a_plain
  rw [hm, Bool.and_eq_true]
  have hl : aMeL.length = 208 := by decide +kernel
  refine ⟨?_, by show (!my.2.2.2.2.2.2.2) = true; rw [hc]; rfl⟩
  simp only [decide_eq_true_eq]
  exact ⟨h1, by rw [← hl]; exact (List.getElem?_eq_some_iff.mp hm).1⟩
/-- the contract of a method of ours, out of a run of the abstract machine -/
theorem a_met {n : Nat} {l : Launch} (hR : a_RunS l n) {d z : Nat} {as : List Value} {g h' : aH} {v : Option Value} {mz : aMe} (hz : aMeL[z]? = some mz) (h1 : 1 ≤ z) (hc : mz.2.2.2.2.2.2.2 = false) (hok : a_ok mz as g = true) (hrun : a_run n d z 0 (a_loc mz as) [] g = some (.inl v, h')) (hg : g.1 < aSc)
    (base : Nat) (cs : Nat → Nat) (D : va_G) (cA : Nat → ClassId) :
    Met l mz.1 (Cond.code mz.1 mz.2.1 mz.2.2.1 mz.2.2.2.1 :: lw_good) (a_rm d (h'.2.1.1 - g.2.1.1) (h'.2.1.2 - g.2.1.2)) (a_Pc base cs D cA g as) (a_Qc base cs D cA v h') (h'.2.1.1 - g.2.1.1) (h'.2.1.2 - g.2.1.2) (fun q => base ≤ q) := by
  have hge := a_ge_run _ _ _ _ _ _ _ _ hrun hg
  have hy : z < 208 := by
    have hl : aMeL.length = 208 := by decide +kernel
    rw [← hl]; exact (List.getElem?_eq_some_iff.mp hz).1
  have hmk := a_mokA z hy
  unfold a_mok at hmk
  rw [hz] at hmk
  simp only [Bool.and_eq_true, decide_eq_true_eq] at hmk
  have hok2 := hok
  unfold a_ok at hok2
  simp only [Bool.and_eq_true, decide_eq_true_eq, List.all_eq_true] at hok2
  refine Met.ofW (cc := mz.2.1) (maxL := mz.2.2.1) (ret := mz.2.2.2.1) hmk.1.1.1.1 rfl ?_
  intro p e s m args below meth c s₁ B hml hv
  obtain ⟨rfl, hS, hC⟩ := hv
  have hts := atoms_spec (ws := Cond.code mz.1 mz.2.1 mz.2.2.1 mz.2.2.2.1 :: lw_good) B.pre
  have F : a_Fx mz p (a_rm d (h'.2.1.1 - g.2.1.1) (h'.2.1.2 - g.2.1.2)) s m ((as.map (a_cv base cs)).toArray) meth c d :=
    ⟨B.exec, B.bytes, hml, findClass_of_methodNamed B.named, fun w hw => hts w (List.mem_cons_of_mem _ hw), B.returns, B.notSynchronized, fun hi => by rw [(name_of_methodNamed B.named B.method).1]; exact hi, Nat.le_refl _, Nat.le_refl _, hC.2.1⟩
  rw [lg_entry_eq]
  have hb : base ≤ s.heap.size := by rw [hS.1]; exact Nat.le_add_right _ _
  have M0 : a_M base cs D cA s mz g.2.1 (a_loc mz as) g s.heap [] 0 0 ((lg_sl (as.map (a_cv base cs)) ++ List.replicate (mz.2.2.1 - (lg_sl (as.map (a_cv base cs))).length) Slot.unset).toArray) :=
    ⟨hS, ⟨hb, fun _ _ => rfl⟩, fun x hx => (by cases hx), a_ls_entry (fun v hv => hok2.1.2 v hv) hok2.1.1.2, ⟨rfl, rfl⟩, hC.2.2.2.1⟩
  refine hR d z 0 (a_loc mz as) [] g v h' mz hrun hz hc base cs D cA g.2.1 p e _ s m _ below meth c _ F hC hg ?_ ?_ ?_ ?_ s.heap [] 0 0 _ M0
  · show h'.2.1.1 ≤ g.2.1.1 + (h'.2.1.1 - g.2.1.1)
    have := hge.2.2.1
    omega
  · show h'.2.1.2 ≤ g.2.1.2 + (h'.2.1.2 - g.2.1.2)
    have := hge.2.2.2.1
    omega
  · intro pc' ls' x hx hd ht H locs cells slots lsA M
    have e1 : cells = h'.2.1.1 - g.2.1.1 := by have := M.2.2.2.2.1.1; omega
    have e2 : slots = h'.2.1.2 - g.2.1.2 := by have := M.2.2.2.2.1.2; omega
    subst e1
    subst e2
    subst hx
    have hq : ∀ t : State, t.heap = H → s.WarmedH t.vm → a_Qc base cs D cA (some (.int x)) h' (as.map (a_cv base cs)).toArray s (.returned (some (.int x))) t := fun t ht _ => ⟨rfl, by rw [ht]; exact M.1, fun q hq => by rw [ht]; exact M.2.1.2 q hq⟩
    rcases ht with ht | ⟨ht, hx01⟩
    · exact W.iret F.1 F.2.1 (by rw [F.2.2.2.2.2.1]; exact ht) hq M.2.2.1 hd F.2.2.2.2.2.2.1
    · exact W.zret (ty := .boolean) F.1 F.2.1 (by rw [F.2.2.2.2.2.1]; exact ht) (by rcases hx01 with rfl | rfl <;> decide) hq M.2.2.1 hd F.2.2.2.2.2.2.1
  · intro pc' ls' hx hd ht H locs cells slots lsA M
    have e1 : cells = h'.2.1.1 - g.2.1.1 := by have := M.2.2.2.2.1.1; omega
    have e2 : slots = h'.2.1.2 - g.2.1.2 := by have := M.2.2.2.2.1.2; omega
    subst e1
    subst e2
    subst hx
    exact W.vret F.1 F.2.1 (by rw [F.2.2.2.2.2.1]; exact ht) (fun t ht _ => ⟨rfl, by rw [ht]; exact M.1, fun q hq => by rw [ht]; exact M.2.1.2 q hq⟩) M.2.2.1 hd F.2.2.2.2.2.2.1
end
section
/-! THE THREE CALLS -/
theorem a_sum_cv (base : Nat) (cs : Nat → Nat) (l : List Value) : ((l.map (a_cv base cs)).map fun v => v.category).sum = (l.map fun v => v.category).sum := by
  rw [List.map_map]
  congr 1
  exact List.map_congr_left (fun v _ => a_cv_cat base cs v)
section AG6
variable {base : Nat} {cs : Nat → Nat} {D : va_G} {cA : Nat → ClassId} {my mz : aMe} {c0 : Nat × Nat} {p : Program} {l : Launch} {e : Env} {R : Room} {s : State} {m : MethodId} {args : Array Value} {below : List Frame} {meth : Method} {c : Code} {Q : State → Prop} {pc n d z i b : Nat} {ls as st : List Value} {h h' : aH} {v : Option Value}
/-- what a call of ours rests on -/
def a_CA (my mz : aMe) (i b z : Nat) : Prop := aMeL[z]? = some mz ∧ 1 ≤ z ∧ mz.2.2.2.2.2.2.2 = false ∧ (a_lnk my.1.cls i mz.1 b ∈ lw_tbl ∧ (goodWord (a_lnk my.1.cls i mz.1 b) = true ∨ a_isN (a_lnk my.1.cls i mz.1 b) = true)) ∧ Cond.initialized mz.1.cls ∈ lw_good
theorem a_mz {y : Nat} (hz : aMeL[y]? = some mz) : plainName mz.1.cls = true ∧ (mz.1.cls ≠ "java/lang/invoke/MethodHandle" ∧ mz.1.cls ≠ "java/lang/invoke/VarHandle") ∧ (parseMethodDescriptor mz.1.desc).map (fun d => d.parameters.length) = some (if mz.2.2.2.2.1 = true then mz.2.2.2.2.2.1 else mz.2.2.2.2.2.1 - 1) ∧ mz.2.2.1 ≤ 40 ∧ (mz.2.2.2.2.1 = true ∨ (1 ≤ mz.2.2.2.2.2.1 ∧ mz.2.2.2.2.2.2.1 < 12 ∧ (a_cn mz.2.2.2.2.2.2.1).1 = mz.1.cls)) := by
  have hl : aMeL.length = 208 := by decide +kernel
  have hmk := a_mokA y (by rw [← hl]; exact (List.getElem?_eq_some_iff.mp hz).1)
  unfold a_mok at hmk
  rw [hz] at hmk
  simp only [Bool.and_eq_true, decide_eq_true_eq, Bool.or_eq_true] at hmk
  exact ⟨hmk.1.1.1.1, hmk.1.1.1.2, hmk.1.1.2, hmk.1.2, hmk.2.imp id (fun q => ⟨q.1.1, q.1.2, q.2⟩)⟩
theorem a_mz_code (A : a_CA my mz i b z) : Cond.code mz.1 mz.2.1 mz.2.2.1 mz.2.2.2.1 ∈ lw_good := by
  have h := a_code_in (a_plain_me A.1 A.2.1 A.2.2.1)
  unfold a_cw at h
  rw [A.1] at h
  exact h
theorem a_good_ws (A : a_CA my mz i b z) : GoodIn lw_good (Cond.code mz.1 mz.2.1 mz.2.2.1 mz.2.2.2.1 :: lw_good) := by
  intro w hw
  rcases List.mem_cons.mp hw with rfl | hw
  · exact lw_good_ok _ (a_mz_code A)
  · exact lw_good_ok _ hw
theorem a_pcU {H : Heap} {locs : List Loc} {cells slots : Nat} {lsA : Array Slot} (hC : a_Cx base cs D cA h s) (M : a_M base cs D cA s my c0 ls h H locs cells slots lsA) : ∀ U : State, U.heap = H → s.WarmedH U.vm → a_Pc base cs D cA h as (as.map (a_cv base cs)).toArray U :=
  fun U hU hW => ⟨rfl, by rw [hU]; exact M.1, hC.go hW (fun q hq => by rw [hU]; exact M.2.1.2 q hq) ⟨rfl, rfl⟩⟩
/-- link words: plain or of the nest -/
theorem a_lnk0 (A : a_CA my mz i b z) (hb : ¬ b % 2 = 1) : Cond.methodLink my.1.cls i mz.1 ∈ lw_good := by
  have h1 := A.2.2.2.1
  unfold a_lnk at h1
  rw [if_neg hb] at h1
  refine lw_good_in h1.1 ?_
  rcases h1.2 with h2 | h2
  · exact h2
  · cases h2
theorem a_lnk1 (A : a_CA my mz i b z) (hb : b % 2 = 1) : Cond.methodLinkNest my.1.cls i mz.1 "TypedTermReader" ∈ lw_tbl := by
  have h1 := A.2.2.2.1.1
  unfold a_lnk at h1
  rw [if_pos hb] at h1
  exact h1
theorem s_callS (hR : a_RunS l n) (F : a_Fx my p R s m args meth c (d + 1)) (hC : a_Cx base cs D cA h s) (A : a_CA my mz i b z) (hst : mz.2.2.2.2.1 = true) (hw : Cond.static mz.1 ∈ lw_good) (hd : decode my.2.1 pc = .ok (.invokestatic i, 3)) (hok : a_ok mz as h = true) (hrun : a_run n d z 0 (a_loc mz as) [] h = some (.inl v, h')) (hsum : (st.map fun v => v.category).sum ≤ 8) (hg : h.1 < aSc)
    (hR1 : h'.2.1.1 ≤ c0.1 + R.cells) (hR2 : h'.2.1.2 ≤ c0.2 + R.slots) (k : a_G base cs D cA my c0 p l e R s m args below meth c Q (pc + 3) ls (v.toList ++ st) h') : a_G base cs D cA my c0 p l e R s m args below meth c Q pc ls (as.reverse ++ st) h := by
  intro H locs cells slots lsA M
  have hge : a_ge h h' := a_ge_run _ _ _ _ _ _ _ _ hrun hg
  obtain ⟨m1, m2, m3, m4, m5⟩ := a_mz A.1
  rw [if_pos hst] at m3
  have hok2 := hok
  unfold a_ok at hok2
  simp only [Bool.and_eq_true, decide_eq_true_eq, List.all_eq_true] at hok2
  have hMt := a_met hR A.1 A.2.1 A.2.2.1 hok hrun hg base cs D cA
  have hF := F.2.2.2.2.2.2.2.2
  have hMM := M.2.2.2.2.1
  have hfr : (a_rm d (h'.2.1.1 - h.2.1.1) (h'.2.1.2 - h.2.1.2)).frames + 1 ≤ R.frames ∧ 8 + (mz.2.2.1 + 11) + (a_rm d (h'.2.1.1 - h.2.1.1) (h'.2.1.2 - h.2.1.2)).locals ≤ R.locals := ⟨by show d + 16 + 1 ≤ _; omega, by show 8 + (mz.2.2.1 + 11) + (d * 64 + 1000) ≤ _; omega⟩
  have hpre : PreS s H (a_Pc base cs D cA h as) (as.map (a_cv base cs)) := ⟨a_blind base cs D cA h as, a_pcU hC M⟩
  have es : ((as.reverse ++ st).map (a_cv base cs)) = (as.map (a_cv base cs)).reverse ++ st.map (a_cv base cs) := by rw [List.map_append, List.map_reverse]
  rw [es]
  have hcs : cells + (h'.2.1.1 - h.2.1.1) ≤ R.cells ∧ slots + (h'.2.1.2 - h.2.1.2) ≤ R.slots := by
    have := hge.2.2.1; have := hge.2.2.2.1; omega
  have hsm : 2 * (F0 m pc lsA ((as.map (a_cv base cs)).reverse ++ st.map (a_cv base cs))).monitorRoom + ((st.map (a_cv base cs)).map fun v => v.category).sum ≤ 8 := lv_room (by rw [a_sum_cv]; exact hsum)
  have S : CallFix p m c my.2.1 my.2.2.1 s args lw_good my.1.cls := ⟨F.1, F.2.1, F.2.2.1, F.2.2.2.1, F.2.2.2.2.1⟩
  have hlen : (as.map (a_cv base cs)).length = mz.2.2.2.2.2.1 := by rw [List.length_map]; exact hok2.1.1.1
  by_cases hb : b % 2 = 1
  · have hN := hF.2.2 _ (a_lnk1 A hb) rfl
    exact a_cont (va_runSN S hMt ⟨va_cnB mz.2.2.2.2.2.1 F.2.2.2.2.1 (a_good_ws A) rfl rfl rfl hN (F.2.2.2.2.1 _ A.2.2.2.2) ⟨m2.1, m2.2, m3⟩ hfr, F.2.2.2.2.1 _ hw, trivial⟩ hpre rfl hlen M.2.2.2.1.1 rfl hsm hd hcs) M hge ⟨by have := hge.2.2.1; omega, by have := hge.2.2.2.1; omega⟩ k
  · exact a_cont (va_runS S hMt ⟨callB_of mz.2.2.2.2.2.1 F.2.2.2.2.1 (a_good_ws A) rfl rfl rfl (F.2.2.2.2.1 _ A.2.2.2.2) (F.2.2.2.2.1 _ (a_lnk0 A hb)) ⟨m2.1, m2.2, m3⟩ hfr, F.2.2.2.2.1 _ hw⟩ hpre rfl hlen M.2.2.2.1.1 rfl hsm hd hcs) M hge ⟨by have := hge.2.2.1; omega, by have := hge.2.2.2.1; omega⟩ k
theorem s_callVI (hR : a_RunS l n) (F : a_Fx my p R s m args meth c (d + 1)) (hC : a_Cx base cs D cA h s) (A : a_CA my mz i b z) (hst : mz.2.2.2.2.1 = false) (hw : Cond.instanceMethod mz.1 ∈ lw_good) (hd : (decode my.2.1 pc = .ok (.invokevirtual i, 3) ∧ Cond.selects mz.1.cls mz.1 mz.1 ∈ lw_good) ∨ (decode my.2.1 pc = .ok (.invokespecial i, 3) ∧ mz.1.name = "<init>" ∧ mz.2.2.2.1 = none)) (hok : a_ok mz as h = true) (hrun : a_run n d z 0 (a_loc mz as) [] h = some (.inl v, h')) (hsum : (st.map fun v => v.category).sum ≤ 8) (hg : h.1 < aSc)
    (hR1 : h'.2.1.1 ≤ c0.1 + R.cells) (hR2 : h'.2.1.2 ≤ c0.2 + R.slots) (k : a_G base cs D cA my c0 p l e R s m args below meth c Q (pc + 3) ls (v.toList ++ st) h') : a_G base cs D cA my c0 p l e R s m args below meth c Q pc ls (as.reverse ++ st) h := by
  intro H locs cells slots lsA M
  have hge : a_ge h h' := a_ge_run _ _ _ _ _ _ _ _ hrun hg
  obtain ⟨m1, m2, m3, m4, m5⟩ := a_mz A.1
  rw [if_neg (by rw [hst]; decide)] at m3
  obtain ⟨m6, m7, m8⟩ := m5.resolve_left (by rw [hst]; decide)
  have hok2 := hok
  unfold a_ok at hok2
  rw [hst] at hok2
  simp only [Bool.and_eq_true, decide_eq_true_eq, List.all_eq_true, Bool.false_or] at hok2
  have hMt := a_met hR A.1 A.2.1 A.2.2.1 hok hrun hg base cs D cA
  have hF := F.2.2.2.2.2.2.2.2
  have hMM := M.2.2.2.2.1
  cases as with
  | nil => exact (Bool.false_ne_true hok2.2).elim
  | cons w tl =>
    cases w with
    | ref q =>
      have hq : q < h.1 ∧ (h.2.2.1 q).1 = mz.2.2.2.2.2.2.1 := by simpa using hok2.2
      have hfr : (a_rm d (h'.2.1.1 - h.2.1.1) (h'.2.1.2 - h.2.1.2)).frames + 1 ≤ R.frames ∧ 8 + (mz.2.2.1 + 11) + (a_rm d (h'.2.1.1 - h.2.1.1) (h'.2.1.2 - h.2.1.2)).locals ≤ R.locals := ⟨by show d + 16 + 1 ≤ _; omega, by show 8 + (mz.2.2.1 + 11) + (d * 64 + 1000) ≤ _; omega⟩
      have hpcU := a_pcU (as := .ref q :: tl) hC M
      have es : (((Value.ref q :: tl).reverse ++ st).map (a_cv base cs)) = (tl.map (a_cv base cs)).reverse ++ .ref (a_ad base cs q) :: st.map (a_cv base cs) := by
        rw [List.map_append, List.map_reverse]
        simp [a_cv]
      rw [es]
      have hcs : cells + (h'.2.1.1 - h.2.1.1) ≤ R.cells ∧ slots + (h'.2.1.2 - h.2.1.2) ≤ R.slots := by
        have := hge.2.2.1; have := hge.2.2.2.1; omega
      have hsm : 2 * (F0 m pc lsA ((tl.map (a_cv base cs)).reverse ++ .ref (a_ad base cs q) :: st.map (a_cv base cs))).monitorRoom + ((st.map (a_cv base cs)).map fun v => v.category).sum ≤ 8 := lv_room (by rw [a_sum_cv]; exact hsum)
      have S : CallFix p m c my.2.1 my.2.2.1 s args lw_good my.1.cls := ⟨F.1, F.2.1, F.2.2.1, F.2.2.2.1, F.2.2.2.2.1⟩
      have hlen : (tl.map (a_cv base cs)).length = mz.2.2.2.2.2.1 - 1 := by
        have := hok2.1.1.1
        rw [List.length_cons] at this
        rw [List.length_map]; omega
      have hA := M.1.2.2 q hq.1
      rw [a_E_obj hq.2 (by omega)] at hA
      have hrc := va_recv hC.1 (a_P1 hA) (a_cl_at _ m7) (q0 := 0) rfl
      rw [m8] at hrc
      have ea : a_ad base cs q = base + q := a_ad_lt (Nat.lt_trans hq.1 hg)
      have hrc2 : ∃ cell : Cell, H[a_ad base cs q]? = some cell ∧ cell.vm.isStatics = false ∧ s.vm.findClass mz.1.cls = some cell.cls := by rw [ea]; exact hrc
      rcases hd with ⟨hd, hsel⟩ | ⟨hd, hni, hnr⟩
      · have hpre : PreV s H mz.1.cls (a_ad base cs q) (a_Pc base cs D cA h (.ref q :: tl)) (tl.map (a_cv base cs)) := ⟨a_blind base cs D cA h _, hrc2, hpcU⟩
        by_cases hb : b % 2 = 1
        · have hN := hF.2.2 _ (a_lnk1 A hb) rfl
          exact a_cont (va_runVN S hMt ⟨va_cnB (mz.2.2.2.2.2.1 - 1) F.2.2.2.2.1 (a_good_ws A) rfl rfl rfl hN (F.2.2.2.2.1 _ A.2.2.2.2) ⟨m2.1, m2.2, m3⟩ hfr, F.2.2.2.2.1 _ hw, F.2.2.2.2.1 _ hsel⟩ hpre rfl hlen M.2.2.2.1.1 rfl hsm hd hcs) M hge ⟨by have := hge.2.2.1; omega, by have := hge.2.2.2.1; omega⟩ k
        · exact a_cont (va_runV S hMt ⟨callB_of (mz.2.2.2.2.2.1 - 1) F.2.2.2.2.1 (a_good_ws A) rfl rfl rfl (F.2.2.2.2.1 _ A.2.2.2.2) (F.2.2.2.2.1 _ (a_lnk0 A hb)) ⟨m2.1, m2.2, m3⟩ hfr, F.2.2.2.2.1 _ hw, F.2.2.2.2.1 _ hsel⟩ hpre rfl hlen M.2.2.2.1.1 rfl hsm hd hcs) M hge ⟨by have := hge.2.2.1; omega, by have := hge.2.2.2.1; omega⟩ k
      · have hpre : PreS s H (a_Pc base cs D cA h (.ref q :: tl)) (.ref (a_ad base cs q) :: tl.map (a_cv base cs)) := ⟨a_blind base cs D cA h _, hpcU⟩
        rw [hnr] at hMt
        have hgw := a_good_ws A
        rw [hnr] at hgw
        by_cases hb : b % 2 = 1
        · have hN := hF.2.2 _ (a_lnk1 A hb) rfl
          exact a_cont (va_runIN S hMt ⟨va_cnB (mz.2.2.2.2.2.1 - 1) F.2.2.2.2.1 hgw rfl rfl rfl hN (F.2.2.2.2.1 _ A.2.2.2.2) ⟨m2.1, m2.2, m3⟩ hfr, hni, F.2.2.2.2.1 _ hw⟩ hpre rfl hlen M.2.2.2.1.1 rfl hsm hd hcs) M hge ⟨by have := hge.2.2.1; omega, by have := hge.2.2.2.1; omega⟩ k
        · exact a_cont (va_runI S hMt ⟨callB_of (mz.2.2.2.2.2.1 - 1) F.2.2.2.2.1 hgw rfl rfl rfl (F.2.2.2.2.1 _ A.2.2.2.2) (F.2.2.2.2.1 _ (a_lnk0 A hb)) ⟨m2.1, m2.2, m3⟩ hfr, hni, F.2.2.2.2.1 _ hw⟩ hpre rfl hlen M.2.2.2.1.1 rfl hsm hd hcs) M hge ⟨by have := hge.2.2.1; omega, by have := hge.2.2.2.1; omega⟩ k
    | _ => exact (Bool.false_ne_true hok2.2).elim
end AG6
end
section
/-! THE RUN IS SOUND, but for three things that have parts of their own: the JDK's methods, the law's helpers that catch, the texts of ldc (their soundness comes as hypotheses here, and is proved behind) -/
/-- calls of the JDK's methods -/
def a_JS : Prop := ∀ (base : Nat) (cs : Nat → Nat) (D : va_G) (cA : Nat → ClassId) (my : aMe) (c0 : Nat × Nat) (p : Program) (l : Launch) (e : Env) (R : Room) (s : State) (m : MethodId) (args : Array Value) (below : List Frame) (meth : Method) (c : Code) (Q : State → Prop) (pc d : Nat) (ls as st : List Value) (h h' : aH) (v : Option Value) (y : Nat) (i : Instr) (z b : Nat) (w : List Nat), a_Fx my p R s m args meth c (d + 1) → a_Cx base cs D cA h s → aMeL[y]? = some my → aCode y pc = some (i, z, b, w) → a_ck1 my pc (i, z, b, w) = true → (∃ j, i = .invokevirtual j ∨ i = .invokestatic j) → decode my.2.1 pc = .ok (i, 3) → aMeL[z]? = none → a_jdk z as h = some (.inl v, h') → (st.map fun v => v.category).sum ≤ 8 → h.1 < aSc → h.2.1.1 ≤ c0.1 + R.cells → h.2.1.2 ≤ c0.2 + R.slots → a_G base cs D cA my c0 p l e R s m args below meth c Q (pc + 3) ls (v.toList ++ st) h' → a_G base cs D cA my c0 p l e R s m args below meth c Q pc ls (as.reverse ++ st) h
/-- soundness of a run of n steps, whatever its end: a return, a throw of its own, a catch -/
def a_RunG (l : Launch) (n : Nat) : Prop := ∀ (d y pc : Nat) (ls st : List Value) (h : aH) (r : aR) (my : aMe), a_run n d y pc ls st h = some r → aMeL[y]? = some my →
  ∀ (base : Nat) (cs : Nat → Nat) (D : va_G) (cA : Nat → ClassId) (c0 : Nat × Nat) (p : Program) (e : Env) (R : Room) (s : State) (m : MethodId) (args : Array Value) (below : List Frame) (meth : Method) (c : Code) (Q : State → Prop),
  a_Fx my p R s m args meth c d → a_Cx base cs D cA h s → h.1 < aSc → r.2.2.1.1 ≤ c0.1 + R.cells → r.2.2.1.2 ≤ c0.2 + R.slots →
  (∀ (pc' : Nat) (ls' : List Value) (x : Int32), r.1 = .inl (some (.int x)) → decode my.2.1 pc' = .ok (.ireturn, 1) → (my.2.2.2.1 = some .int ∨ (my.2.2.2.1 = some .boolean ∧ (x = 0 ∨ x = 1))) → a_G base cs D cA my c0 p l e R s m args below meth c Q pc' ls' [.int x] r.2) →
  (∀ (pc' : Nat) (ls' : List Value), r.1 = .inl none → decode my.2.1 pc' = .ok (.return_, 1) → my.2.2.2.1 = none → a_G base cs D cA my c0 p l e R s m args below meth c Q pc' ls' [] r.2) →
  (my.2.2.2.2.2.2.2 = true → ∀ (k pc' : Nat) (ls' st' : List Value) (h2 : aH) (i : Instr) (j z b ci : Nat) (w : List Nat), k < n → aCode y pc' = some (i, z, b, w) → (i = .invokevirtual j ∨ i = .invokestatic j ∨ i = .invokespecial j) → h2.1 < aSc → a_Cx base cs D cA h2 s → b / 2 ≤ st'.length → ((st'.drop (b / 2)).map fun v => v.category).sum ≤ 8 → a_call k d z (st'.take (b / 2)).reverse h2 = some (.inr ci, r.2) → r.1 = .inl (some (.int 1)) → decode my.2.1 pc' = .ok (i, 3) → a_G base cs D cA my c0 p l e R s m args below meth c Q pc' ls' st' h2) →
  (∀ (pc' : Nat) (ls' : List Value) (h2 : aH) (j ci : Nat) (w : List Nat), aCode y pc' = some (.new j, ci, 1, w) → h2.1 + 1 < aSc → a_Cx base cs D cA h2 s → r = (.inr ci, a_mk ci 6 h2) → decode my.2.1 pc' = .ok (.new j, 3) → a_G base cs D cA my c0 p l e R s m args below meth c Q pc' ls' [] h2) →
  a_G base cs D cA my c0 p l e R s m args below meth c Q pc ls st h
theorem a_RunG.S {l : Launch} {n : Nat} (h : a_RunG l n) : a_RunS l n := by
  intro d y pc ls st g v hf my hs hmy hcat base cs D cA c0 p e R s m args below meth c Q F hC hsz hR1 hR2 hE1 hE2
  refine h d y pc ls st g (.inl v, hf) my hs hmy base cs D cA c0 p e R s m args below meth c Q F hC hsz hR1 hR2 (fun pc' ls' x hx => hE1 pc' ls' x (by cases hx; rfl)) (fun pc' ls' hx => hE2 pc' ls' (by cases hx; rfl)) (fun hc => ?_) (fun _ _ _ _ _ _ _ _ _ hr => by cases hr)
  rw [hcat] at hc
  cases hc
/-- calls of the law's helpers -/
def a_HS (l : Launch) : Prop := ∀ (n : Nat), (∀ k, k ≤ n → a_RunG l k) → ∀ (base : Nat) (cs : Nat → Nat) (D : va_G) (cA : Nat → ClassId) (my : aMe) (c0 : Nat × Nat) (p : Program) (e : Env) (R : Room) (s : State) (m : MethodId) (args : Array Value) (below : List Frame) (meth : Method) (c : Code) (Q : State → Prop) (pc d : Nat) (ls as st : List Value) (h h' : aH) (v : Option Value) (i z b : Nat) (w : List Nat) (mz : aMe), a_Fx my p R s m args meth c (d + 1) → a_Cx base cs D cA h s → a_ck1 my pc (.invokestatic i, z, b, w) = true → decode my.2.1 pc = .ok (.invokestatic i, 3) → aMeL[z]? = some mz → mz.2.2.2.2.2.2.2 = true → a_ok mz as h = true → a_run n d z 0 (a_loc mz as) [] h = some (.inl v, h') → (st.map fun v => v.category).sum ≤ 8 → h.1 < aSc → h'.2.1.1 ≤ c0.1 + R.cells → h'.2.1.2 ≤ c0.2 + R.slots → a_G base cs D cA my c0 p l e R s m args below meth c Q (pc + 3) ls (v.toList ++ st) h' → a_G base cs D cA my c0 p l e R s m args below meth c Q pc ls (as.reverse ++ st) h
/-- texts -/
def a_LS : Prop := ∀ (base : Nat) (cs : Nat → Nat) (D : va_G) (cA : Nat → ClassId) (my : aMe) (c0 : Nat × Nat) (p : Program) (l : Launch) (e : Env) (R : Room) (s : State) (m : MethodId) (args : Array Value) (below : List Frame) (meth : Method) (c : Code) (Q : State → Prop) (pc d y a b j : Nat) (w : List Nat) (ls st : List Value) (h : aH) (i : Instr), a_Fx my p R s m args meth c d → a_Cx base cs D cA h s → aMeL[y]? = some my → aCode y pc = some (i, a, b, w) → ¬ b = 0 → (i = .ldc j ∨ i = .ldc_w j) → decode my.2.1 pc = .ok (i, a_il i) → a_G base cs D cA my c0 p l e R s m args below meth c Q (pc + a_il i) ls (.ref (aC0 + a) :: st) h → a_G base cs D cA my c0 p l e R s m args below meth c Q pc ls st h
theorem a_objI : Cond.instanceMethod objectInit ∈ lw_good ∧ Cond.code objectInit ⟨#[0xb1]⟩ 1 none ∈ lw_good := ⟨lw_good_in (by decide +kernel) rfl, lw_good_in (by decide +kernel) rfl⟩
theorem a_getst : Cond.fieldLinkNest "TypedTermReader$ConstantTable" 47 "TypedTermReader" "CONSTANT_TYPES" "[I" "TypedTermReader" ∈ lw_tbl := by decide +kernel
def a_gstB (my : aMe) (l : List (Option aI)) : Bool := l.all (fun o => match o with
  | some (.getstatic j, _) => decide (my.1.cls = "TypedTermReader$ConstantTable" ∧ j = 47)
  | _ => true)
set_option maxRecDepth 100000 in
theorem a_gstA : (aMeL.zip aMs).all (fun q => a_gstB q.1 q.2) = true := by decide +kernel
theorem a_gst {y pc j a b : Nat} {w : List Nat} {my : aMe} (hm : aMeL[y]? = some my) (hc : aCode y pc = some (.getstatic j, a, b, w)) : my.1.cls = "TypedTermReader$ConstantTable" ∧ j = 47 := by
  unfold aCode at hc
  cases hl : aMs[y]? with
  | none => rw [hl] at hc; cases hc
  | some l =>
    rw [hl] at hc
    dsimp only at hc
    cases hp : l[pc]? with
    | none => rw [hp] at hc; cases hc
    | some o =>
      rw [hp] at hc
      dsimp only at hc
      subst hc
      have hz : (my, l) ∈ aMeL.zip aMs := by
        refine List.mem_of_getElem? (i := y) ?_
        rw [List.getElem?_zip_eq_some]
        exact ⟨hm, hl⟩
      have h1 := List.all_eq_true.mp a_gstA _ hz
      have h2 := List.all_eq_true.mp h1 _ (List.mem_of_getElem? hp)
      simpa using h2
end
section
/-! SOUNDNESS: by induction on the steps -/
theorem a_ws1 {ws : List Cond} {is : List Nat} {w : Cond} (h : a_wok ws is = true) (hw : w ∈ ws) (hg : a_isN w = false) : w ∈ lw_good := by
  obtain ⟨h1, h2⟩ := a_ws_at h w hw
  refine lw_good_in h1 (h2.resolve_right ?_)
  rw [hg]
  decide
theorem a_take_drop {st : List Value} {b : Nat} : ((st.take b).reverse).reverse ++ st.drop b = st := by rw [List.reverse_reverse, List.take_append_drop]
set_option maxHeartbeats 4000000 in
theorem a_step_ret {call : Nat → List Value → aH → Option aR} {ct : Bool} {pc : Nat} {i : Instr} {a b : Nat} {ls st : List Value} {h : aH} {r : aR} (hs : a_step call ct pc i a b ls st h = some (.inr r)) : (i = .ireturn ∧ ∃ x, st = [.int x] ∧ r = (.inl (some (.int x)), h)) ∨ (i = .return_ ∧ st = [] ∧ r = (.inl none, h)) ∨ (∃ j, i = .new j ∧ b = 1 ∧ (h.1 + 1 < aSc ∧ st.isEmpty = true) ∧ r = (.inr a, a_mk a 6 h)) ∨ (∃ j, (i = .invokevirtual j ∨ i = .invokestatic j ∨ i = .invokespecial j) ∧ ct = true ∧ b / 2 ≤ st.length ∧ ((st.drop (b / 2)).map fun v => v.category).sum ≤ 8 ∧ ∃ ci, call a (st.take (b / 2)).reverse h = some (.inr ci, r.2) ∧ r.1 = .inl (some (.int 1))) := by
  unfold a_step at hs
  split at hs
  all_goals (try unfold a_go at hs)
  all_goals (try unfold a_sti at hs)
  all_goals (try unfold a_sta at hs)
  all_goals (try unfold a_inc at hs)
  all_goals (try unfold a_putf at hs)
  all_goals (try unfold a_ast at hs)
  all_goals (try unfold a_astL at hs)
  all_goals (try unfold a_newa at hs)
  all_goals (try unfold a_inv at hs)
  all_goals (repeat' (split at hs))
  all_goals first
    | (cases hs; done)
    | (cases hs; exact Or.inl ⟨rfl, _, rfl, rfl⟩)
    | (cases hs; exact Or.inr (Or.inl ⟨rfl, rfl, rfl⟩))
    | (rename_i hb hl; cases hs; exact Or.inr (Or.inr (Or.inl ⟨_, rfl, hb, hl, rfl⟩)))
    | (rename_i hb _ ci h2 hc hct; cases hs; exact Or.inr (Or.inr (Or.inr ⟨_, Or.inl rfl, hct, hb.1, hb.2, ci, hc, rfl⟩)))
    | (rename_i hb _ ci h2 hc hct; cases hs; exact Or.inr (Or.inr (Or.inr ⟨_, Or.inr (Or.inl rfl), hct, hb.1, hb.2, ci, hc, rfl⟩)))
    | (rename_i hb _ ci h2 hc hct; cases hs; exact Or.inr (Or.inr (Or.inr ⟨_, Or.inr (Or.inr rfl), hct, hb.1, hb.2, ci, hc, rfl⟩)))
theorem a_lk_ok {pc : Nat} {d x : Int} : ∀ {ps : List (Int × Int)}, (∀ q ∈ ps, 0 ≤ (pc : Int) + q.2) → 0 ≤ (pc : Int) + d → 0 ≤ (pc : Int) + a_lk ps d x := by
  intro ps h hd
  unfold a_lk
  induction ps with
  | nil => exact hd
  | cons q r ih =>
    unfold Op.lookupswitch.offset
    split
    · exact h q List.mem_cons_self
    · exact ih (fun z hz => h z (List.mem_cons_of_mem _ hz))
theorem a_jdk_1100 (as : List Value) (h : aH) (r : aR) : ¬ a_jdk 1100 as h = some r := by
  intro hs
  unfold a_jdk at hs
  split at hs <;> simp at hs
/-- a check of every instruction -/
theorem a_allAI (P : aMe → aI → Bool) (h : (aMeL.zip aMs).all (fun q => q.2.all (fun o => match o with
    | some ai => P q.1 ai
    | none => true)) = true) {y pc : Nat} {ai : aI} {my : aMe} (hm : aMeL[y]? = some my) (hc : aCode y pc = some ai) : P my ai = true := by
  unfold aCode at hc
  cases hl : aMs[y]? with
  | none => rw [hl] at hc; cases hc
  | some l =>
    rw [hl] at hc
    dsimp only at hc
    cases hp : l[pc]? with
    | none => rw [hp] at hc; cases hc
    | some o =>
      rw [hp] at hc
      dsimp only at hc
      subst hc
      have hz : (my, l) ∈ aMeL.zip aMs := by
        refine List.mem_of_getElem? (i := y) ?_
        rw [List.getElem?_zip_eq_some]
        exact ⟨hm, hl⟩
      exact List.all_eq_true.mp (List.all_eq_true.mp h _ hz) _ (List.mem_of_getElem? hp)
def a_P1k (_ : aMe) (ai : aI) : Bool := match ai.1 with
  | .invokevirtual _ => decide (1 ≤ ai.2.1)
  | .invokestatic _ => decide (1 ≤ ai.2.1)
  | .invokespecial _ => decide (1 ≤ ai.2.1) && (match aMeL[ai.2.1]? with
    | some mz => decide (mz.2.2.2.1 = none)
    | none => true)
  | _ => true
set_option maxRecDepth 100000 in
theorem a_P1kA : (aMeL.zip aMs).all (fun q => q.2.all (fun o => match o with
    | some ai => a_P1k q.1 ai
    | none => true)) = true := by decide +kernel
set_option maxRecDepth 100000 in
theorem a_catS : aMeL.all (fun m => !m.2.2.2.2.2.2.2 || m.2.2.2.2.1) = true := by decide +kernel
theorem a_inv_inv {call : Nat → List Value → aH → Option aR} {ct : Bool} {a b pc pc' : Nat} {ls st ls' st' : List Value} {h h' : aH} (hs : a_inv call ct a b pc ls st h = some (.inl (pc', ls', st', h'))) : ∃ v, b ≤ st.length ∧ ((st.drop b).map fun v => v.category).sum ≤ 8 ∧ call a (st.take b).reverse h = some (.inl v, h') ∧ pc' = pc ∧ ls' = ls ∧ st' = v.toList ++ st.drop b := by
  unfold a_inv at hs
  split at hs
  · rename_i hb
    split at hs
    · rename_i v h2 he
      cases hs
      exact ⟨v, hb.1, hb.2, he, rfl, rfl, rfl⟩
    · split at hs <;> cases hs
    · cases hs
  · cases hs
theorem a_call_inv {n d z : Nat} {as : List Value} {g : aH} {r : aR} (hs : a_call n d z as g = some r) : ∃ d', d = d' + 1 ∧ ((∃ mz, aMeL[z]? = some mz ∧ a_ok mz as g = true ∧ a_run n d' z 0 (a_loc mz as) [] g = some r) ∨ (aMeL[z]? = none ∧ a_jdk z as g = some r)) := by
  unfold a_call at hs
  split at hs
  · cases hs
  · rename_i d'
    refine ⟨d', rfl, ?_⟩
    split at hs
    · rename_i mz hz
      split at hs
      · rename_i hok
        exact Or.inl ⟨mz, hz, hok, hs⟩
      · cases hs
    · rename_i hz
      exact Or.inr ⟨hz, hs⟩
set_option maxHeartbeats 8000000 in
set_option maxRecDepth 100000 in
theorem a_snd {l : Launch} (hJ : a_JS) (hH : a_HS l) (hL : a_LS) : ∀ n, ∀ k, k ≤ n → a_RunG l k := by
  intro n
  induction n with
  | zero =>
    intro k hk
    have : k = 0 := by omega
    subst this
    intro d y pc ls st h r my hs
    cases hs
  | succ n ih =>
    intro k hk
    rcases Nat.lt_or_ge k (n + 1) with hlt | hge
    · exact ih k (by omega)
    have : k = n + 1 := by omega
    subst this
    intro d y pc ls st h r my hs hmy base cs D cA c0 p e R s m args below meth c Q F hC hsz hR1 hR2 hE1 hE2 hE3 hE4
    rw [a_run_succ] at hs
    cases hai : aCode y pc with
    | none => rw [hai] at hs; cases hs
    | some ai =>
    rw [hai] at hs
    obtain ⟨my2, hmy2, hck⟩ := a_code_ok hai
    cases hmy.symm.trans hmy2
    obtain ⟨i, a, b, w⟩ := ai
    dsimp only at hs
    have hck' := hck
    unfold a_ck1 at hck
    simp only [Bool.and_eq_true] at hck
    obtain ⟨⟨⟨hdk, hbr⟩, hfo⟩, hwo⟩ := hck
    obtain ⟨nn, hd, hsw⟩ := a_dk_ok hdk
    have hcc : ∀ z as g r, g.1 < aSc → a_call n d z as g = some r → a_ge g r.2 := by
      intro z as g r hg hz
      unfold a_call at hz
      split at hz
      · cases hz
      · split at hz
        · split at hz
          · exact a_ge_run _ _ _ _ _ _ _ _ hz hg
          · cases hz
        · exact a_ge_jdk hz hg
    cases hst : a_step (a_call n d) (a_ctch y) pc i a b ls st h with
    | none => rw [hst] at hs; cases hs
    | some o =>
    rw [hst] at hs
    have hgs := a_ge_step hcc hst hsz
    cases o with
    | inr r0 =>
      dsimp only at hs
      have hrk : a_rok y r0 = true := by
        by_cases hq : a_rok y r0 = true
        · exact hq
        · rw [if_neg hq] at hs; cases hs
      rw [if_pos hrk] at hs
      cases hs
      unfold a_rok at hrk
      rw [hmy] at hrk
      dsimp only at hrk
      rcases a_step_ret hst with ⟨rfl, x, rfl, rfl⟩ | ⟨rfl, rfl, rfl⟩ | ⟨j, rfl, rfl, hl9, rfl⟩ | ⟨j, hi9, hct, hb9, hs9, ci, hc9, hr9⟩
      · have e1 : nn = 1 := hsw.resolve_left Bool.false_ne_true
        subst e1
        refine hE1 pc ls x rfl hd ?_
        split at hrk
        · rename_i ht _; exact Or.inl ht
        · rename_i x2 ht hx
          cases hx
          exact Or.inr ⟨ht, by simpa using hrk⟩
        · rename_i hx; cases hx
        · rename_i hx; cases hx
        · cases hrk
      · have e1 : nn = 1 := hsw.resolve_left Bool.false_ne_true
        subst e1
        refine hE2 pc ls rfl hd ?_
        split at hrk
        · rename_i hx; cases hx
        · rename_i hx; cases hx
        · rename_i ht _; exact ht
        · rename_i hx; cases hx
        · cases hrk
      · have e1 : nn = 3 := hsw.resolve_left Bool.false_ne_true
        subst e1
        rw [List.isEmpty_iff.mp hl9.2]
        exact hE4 pc ls h j a w hai hl9.1 hC rfl hd
      · have e1 : nn = 3 := by
          rcases hi9 with rfl | rfl | rfl <;> exact hsw.resolve_left Bool.false_ne_true
        subst e1
        have hcat : my.2.2.2.2.2.2.2 = true := by unfold a_ctch at hct; rw [hmy] at hct; exact hct
        exact hE3 hcat n pc ls st h i j a b ci w (Nat.lt_succ_self n) hai hi9 hsz hC hb9 hs9 hc9 hr9 hd
    | inl q =>
      obtain ⟨pc', ls', st', h'⟩ := q
      dsimp only at hs
      have hgr : a_ge h' r.2 := a_ge_run _ _ _ _ _ _ _ _ hs hgs.2.1
      have hgh : a_ge h h' := hgs
      have hC' : a_Cx base cs D cA h' s := hC.go (State.WarmedH.refl s) (fun _ _ => rfl) ⟨hgh.2.2.2.2.1, hgh.2.2.2.2.2⟩
      have kk := ih n (Nat.le_refl n) d y pc' ls' st' h' r my hs hmy base cs D cA c0 p e R s m args below meth c Q F hC' hgh.2.1 hR1 hR2 hE1 hE2 (fun hc k2 => fun pc2 ls2 st2 h2 i2 j2 z2 b2 ci2 w2 hk2 => hE3 hc k2 pc2 ls2 st2 h2 i2 j2 z2 b2 ci2 w2 (Nat.lt_succ_of_lt hk2)) hE4
      have hR1' : h'.2.1.1 ≤ c0.1 + R.cells := Nat.le_trans hgr.2.2.1 hR1
      have hR2' : h'.2.1.2 ≤ c0.2 + R.slots := Nat.le_trans hgr.2.2.2.1 hR2
      clear hs
      cases i with
      | iconst z =>
        have e1 : nn = 1 := hsw.resolve_left Bool.false_ne_true
        subst e1
        cases hst
        exact s_iconst F hd kk
      | bipush z =>
        have e1 : nn = 2 := hsw.resolve_left Bool.false_ne_true
        subst e1
        cases hst
        exact s_bipush F hd kk
      | sipush z =>
        have e1 : nn = 3 := hsw.resolve_left Bool.false_ne_true
        subst e1
        cases hst
        exact s_sipush F hd kk
      | lconst z =>
        have e1 : nn = 1 := hsw.resolve_left Bool.false_ne_true
        subst e1
        cases hst
        exact s_lconst F hd kk
      | iload z =>
        have e1 : nn = 2 := hsw.resolve_left Bool.false_ne_true
        subst e1
        obtain ⟨q1, rfl, rfl, rfl⟩ := a_go_inv hst
        exact s_iload F hd q1 kk
      | iload_n z =>
        have e1 : nn = 1 := hsw.resolve_left Bool.false_ne_true
        subst e1
        obtain ⟨q1, rfl, rfl, rfl⟩ := a_go_inv hst
        exact s_iload_n F hd q1 kk
      | aload z =>
        have e1 : nn = 2 := hsw.resolve_left Bool.false_ne_true
        subst e1
        obtain ⟨q1, rfl, rfl, rfl⟩ := a_go_inv hst
        exact s_aload F hd q1 kk
      | aload_n z =>
        have e1 : nn = 1 := hsw.resolve_left Bool.false_ne_true
        subst e1
        obtain ⟨q1, rfl, rfl, rfl⟩ := a_go_inv hst
        exact s_aload_n F hd q1 kk
      | istore z =>
        have e1 : nn = 2 := hsw.resolve_left Bool.false_ne_true
        subst e1
        exact s_istore F hd hst kk
      | istore_n z =>
        have e1 : nn = 1 := hsw.resolve_left Bool.false_ne_true
        subst e1
        exact s_istore_n F hd hst kk
      | astore z =>
        have e1 : nn = 2 := hsw.resolve_left Bool.false_ne_true
        subst e1
        exact s_astore F hd hst kk
      | astore_n z =>
        have e1 : nn = 1 := hsw.resolve_left Bool.false_ne_true
        subst e1
        exact s_astore_n F hd hst kk
      | iinc z1 z2 =>
        have e1 : nn = 3 := hsw.resolve_left Bool.false_ne_true
        subst e1
        exact s_iinc F hd hst kk
      | iadd =>
        have e1 : nn = 1 := hsw.resolve_left Bool.false_ne_true
        subst e1
        obtain ⟨q1, rfl, rfl, rfl⟩ := a_go_inv hst
        exact s_iadd F hd q1 kk
      | isub =>
        have e1 : nn = 1 := hsw.resolve_left Bool.false_ne_true
        subst e1
        obtain ⟨q1, rfl, rfl, rfl⟩ := a_go_inv hst
        exact s_isub F hd q1 kk
      | imul =>
        have e1 : nn = 1 := hsw.resolve_left Bool.false_ne_true
        subst e1
        obtain ⟨q1, rfl, rfl, rfl⟩ := a_go_inv hst
        exact s_imul F hd q1 kk
      | iand =>
        have e1 : nn = 1 := hsw.resolve_left Bool.false_ne_true
        subst e1
        obtain ⟨q1, rfl, rfl, rfl⟩ := a_go_inv hst
        exact s_iand F hd q1 kk
      | iushr =>
        have e1 : nn = 1 := hsw.resolve_left Bool.false_ne_true
        subst e1
        obtain ⟨q1, rfl, rfl, rfl⟩ := a_go_inv hst
        exact s_iushr F hd q1 kk
      | ishr =>
        have e1 : nn = 1 := hsw.resolve_left Bool.false_ne_true
        subst e1
        obtain ⟨q1, rfl, rfl, rfl⟩ := a_go_inv hst
        exact s_ishr F hd q1 kk
      | i2b =>
        have e1 : nn = 1 := hsw.resolve_left Bool.false_ne_true
        subst e1
        obtain ⟨q1, rfl, rfl, rfl⟩ := a_go_inv hst
        exact s_i2b F hd q1 kk
      | idiv =>
        have e1 : nn = 1 := hsw.resolve_left Bool.false_ne_true
        subst e1
        have hst2 := hst
        unfold a_step at hst2
        dsimp only at hst2
        split at hst2
        · split at hst2
          · cases hst2
          · rename_i hn
            cases hst2
            exact s_idiv F hd hn kk
        · cases hst2
      | irem =>
        have e1 : nn = 1 := hsw.resolve_left Bool.false_ne_true
        subst e1
        have hst2 := hst
        unfold a_step at hst2
        dsimp only at hst2
        split at hst2
        · split at hst2
          · cases hst2
          · rename_i hn
            cases hst2
            exact s_irem F hd hn kk
        · cases hst2
      | i2l =>
        have e1 : nn = 1 := hsw.resolve_left Bool.false_ne_true
        subst e1
        have hst2 := hst
        unfold a_step at hst2
        dsimp only at hst2
        split at hst2
        · cases hst2
          exact s_i2l F hd kk
        · cases hst2
      | lor =>
        have e1 : nn = 1 := hsw.resolve_left Bool.false_ne_true
        subst e1
        have hst2 := hst
        unfold a_step at hst2
        dsimp only at hst2
        split at hst2
        · cases hst2
          exact s_lor F hd kk
        · cases hst2
      | lshl =>
        have e1 : nn = 1 := hsw.resolve_left Bool.false_ne_true
        subst e1
        have hst2 := hst
        unfold a_step at hst2
        dsimp only at hst2
        split at hst2
        · cases hst2
          exact s_lshl F hd kk
        · cases hst2
      | lcmp =>
        have e1 : nn = 1 := hsw.resolve_left Bool.false_ne_true
        subst e1
        have hst2 := hst
        unfold a_step at hst2
        dsimp only at hst2
        split at hst2
        · cases hst2
          exact s_lcmp F hd kk
        · cases hst2
      | dup2 =>
        have e1 : nn = 1 := hsw.resolve_left Bool.false_ne_true
        subst e1
        have hst2 := hst
        unfold a_step at hst2
        dsimp only at hst2
        split at hst2
        · cases hst2
          exact s_dup2 F hd kk
        · cases hst2
      | dup =>
        have e1 : nn = 1 := hsw.resolve_left Bool.false_ne_true
        subst e1
        obtain ⟨q1, rfl, rfl, rfl⟩ := a_go_inv hst
        unfold a_dup at q1
        split at q1
        · cases q1
          exact s_dup_i F hd kk
        · cases q1
          exact s_dup_r F hd kk
        · cases q1
      | pop =>
        have e1 : nn = 1 := hsw.resolve_left Bool.false_ne_true
        subst e1
        obtain ⟨q1, rfl, rfl, rfl⟩ := a_go_inv hst
        unfold a_pop at q1
        split at q1
        · cases q1
          exact s_pop_i F hd kk
        · cases q1
          exact s_pop_r F hd kk
        · cases q1
      | goto z =>
        have e1 : nn = 3 := hsw.resolve_left Bool.false_ne_true
        subst e1
        have ht : (pc : Int) + z = (a : Int) := by simpa [a_br] using hbr
        cases hst
        exact s_goto F hd ht kk
      | if_icmp cc z =>
        have e1 : nn = 3 := hsw.resolve_left Bool.false_ne_true
        subst e1
        have ht : (pc : Int) + z = (a : Int) := by simpa [a_br] using hbr
        have hst2 := hst
        unfold a_step at hst2
        dsimp only at hst2
        split at hst2
        · cases hst2
          exact s_icmp F hd ht kk
        · cases hst2
      | ifCond cc z =>
        have e1 : nn = 3 := hsw.resolve_left Bool.false_ne_true
        subst e1
        have ht : (pc : Int) + z = (a : Int) := by simpa [a_br] using hbr
        have hst2 := hst
        unfold a_step at hst2
        dsimp only at hst2
        split at hst2
        · cases hst2
          exact s_ifc F hd ht kk
        · cases hst2
      | tableswitch df lo hi offs =>
        unfold a_br at hbr
        simp only [Bool.and_eq_true, decide_eq_true_eq, List.all_eq_true] at hbr
        have hst2 := hst
        unfold a_step at hst2
        dsimp only at hst2
        split at hst2
        · split at hst2
          · rename_i hx
            cases hst2
            exact s_tabO F hd hbr.1.1.1 hx kk
          · rename_i hx
            split at hst2
            · rename_i of ho
              cases hst2
              exact s_tabI F hd (hbr.1.1.2 _ (Array.mem_toList_iff.mpr (Array.mem_of_getElem? ho))) hx ho kk
            · cases hst2
        · cases hst2
      | lookupswitch df ps =>
        unfold a_br at hbr
        simp only [Bool.and_eq_true, decide_eq_true_eq] at hbr
        have hst2 := hst
        unfold a_step at hst2
        dsimp only at hst2
        split at hst2
        · rename_i x r
          cases hst2
          exact s_look F hd (a_lk_ok (fun o ho => by have := List.all_eq_true.mp hbr.1.2 _ ho; simpa using this) hbr.1.1) hbr.2 kk
        · cases hst2
      | getfield z =>
        have e1 : nn = 3 := hsw.resolve_left Bool.false_ne_true
        subst e1
        obtain ⟨q1, rfl, rfl, rfl⟩ := a_go_inv hst
        unfold a_fok at hfo
        simp only [decide_eq_true_eq] at hfo
        exact s_getf F hC.1 hd hfo.1 hfo.2.1 hfo.2.2.1 hfo.2.2.2 (a_ws1 hwo List.mem_cons_self rfl) q1 kk
      | putfield z =>
        have e1 : nn = 3 := hsw.resolve_left Bool.false_ne_true
        subst e1
        unfold a_fok at hfo
        simp only [decide_eq_true_eq] at hfo
        exact s_putf F hC.1 hd hfo.1 hfo.2.1 hfo.2.2.1 hfo.2.2.2.1 hfo.2.2.2.2 (a_ws1 hwo List.mem_cons_self rfl) hst hsz kk
      | getstatic z =>
        have e1 : nn = 3 := hsw.resolve_left Bool.false_ne_true
        subst e1
        cases hst
        obtain ⟨g1, g2⟩ := a_gst hmy hai
        subst g2
        intro H locs cells slots lsA M
        have kk2 : W p l e R s m args below meth c H locs cells slots Q (F0 m (pc + 3) lsA (.ref (cs 1) :: st.map (a_cv base cs))) := kk H locs cells slots lsA M
        obtain ⟨cf, kf, fi, f, ad, cell, h1, h2, h3, h4, h5, h6, h7, h8⟩ := hC.2.2.1.2
        have hN := F.2.2.2.2.2.2.2.2.2.2 _ a_getst rfl
        exact va_WgetsN F.1 F.2.1 F.2.2.2.1 (by rw [g1]; exact hN.use rfl) h1 h2 h3 h4 (by rw [M.2.1.2 ad (Nat.not_le.mp h8)]; exact h5) (fun e => by rw [e] at h6; cases h6) h7 rfl hd kk2
      | iaload =>
        have e1 : nn = 1 := hsw.resolve_left Bool.false_ne_true
        subst e1
        obtain ⟨q1, rfl, rfl, rfl⟩ := a_go_inv hst
        exact s_iald F hC.1 hC.2.2.1 hd q1 kk
      | baload =>
        have e1 : nn = 1 := hsw.resolve_left Bool.false_ne_true
        subst e1
        obtain ⟨q1, rfl, rfl, rfl⟩ := a_go_inv hst
        exact s_bald F hC.1 hd q1 kk
      | laload =>
        have e1 : nn = 1 := hsw.resolve_left Bool.false_ne_true
        subst e1
        obtain ⟨q1, rfl, rfl, rfl⟩ := a_go_inv hst
        exact s_lald F hC.1 hd q1 kk
      | arraylength =>
        have e1 : nn = 1 := hsw.resolve_left Bool.false_ne_true
        subst e1
        obtain ⟨q1, rfl, rfl, rfl⟩ := a_go_inv hst
        exact s_alen F hC.1 hd q1 kk
      | iastore =>
        have e1 : nn = 1 := hsw.resolve_left Bool.false_ne_true
        subst e1
        exact s_iast F hC.1 hd hsz hst kk
      | bastore =>
        have e1 : nn = 1 := hsw.resolve_left Bool.false_ne_true
        subst e1
        exact s_bast F hC.1 hd hsz hst kk
      | lastore =>
        have e1 : nn = 1 := hsw.resolve_left Bool.false_ne_true
        subst e1
        exact s_last F hC.1 hd hst kk
      | newarray t =>
        have e1 : nn = 2 := hsw.resolve_left Bool.false_ne_true
        subst e1
        exact s_newa F hC.1 hd (a_ws1 hwo List.mem_cons_self rfl) hst ⟨hR1', hR2'⟩ kk
      | new z =>
        have e1 : nn = 3 := hsw.resolve_left Bool.false_ne_true
        subst e1
        have hst2 : ((if b = 1 then (if h.1 + 1 < aSc ∧ st.isEmpty = true then some (.inr (.inr a, a_mk a 6 h)) else none) else if h.1 + 1 < aSc then some (.inl (pc + 3, ls, .ref h.1 :: st, a_mk a (aNf a) h)) else none) : Option (aS ⊕ aR)) = some (.inl (pc', ls', st', h')) := hst
        by_cases hb : b = 1
        · rw [if_pos hb] at hst2
          split at hst2 <;> cases hst2
        · rw [if_neg hb] at hst2
          split at hst2
          · rename_i hl
            cases hst2
            unfold a_fok at hfo
            simp only [decide_eq_true_eq] at hfo
            obtain ⟨f1, f2⟩ := hfo.resolve_left hb
            unfold a_need at hwo
            dsimp only at hwo
            rw [if_pos f2] at hwo
            exact s_new F hC.1 hd f1 ⟨a_ws1 hwo List.mem_cons_self rfl, a_ws1 hwo (List.mem_cons_of_mem _ List.mem_cons_self) rfl, a_ws1 hwo (List.mem_cons_of_mem _ (List.mem_cons_of_mem _ List.mem_cons_self)) rfl⟩ hl ⟨hR1', hR2'⟩ kk
          · cases hst2
      | ldc z =>
        have e1 : nn = 2 := hsw.resolve_left Bool.false_ne_true
        subst e1
        have hst2 : (if b = 0 then some (.inl (pc + 2, ls, .int (Int32.ofNat a) :: st, h)) else some (.inl (pc + 2, ls, .ref (aC0 + a) :: st, h))) = (some (.inl (pc', ls', st', h')) : Option (aS ⊕ aR)) := hst
        by_cases hb : b = 0
        · rw [if_pos hb] at hst2
          cases hst2
          unfold a_need at hwo
          dsimp only at hwo
          rw [if_pos hb] at hwo
          exact s_ldc F hd (a_ws1 hwo List.mem_cons_self rfl) kk
        · rw [if_neg hb] at hst2
          cases hst2
          exact hL base cs D cA my c0 p l e R s m args below meth c Q pc d y a b z w ls st h (.ldc z) F hC hmy hai hb (Or.inl rfl) hd kk
      | ldc_w z =>
        have e1 : nn = 3 := hsw.resolve_left Bool.false_ne_true
        subst e1
        have hst2 : (if b = 0 then some (.inl (pc + 3, ls, .int (Int32.ofNat a) :: st, h)) else some (.inl (pc + 3, ls, .ref (aC0 + a) :: st, h))) = (some (.inl (pc', ls', st', h')) : Option (aS ⊕ aR)) := hst
        by_cases hb : b = 0
        · rw [if_pos hb] at hst2
          cases hst2
          unfold a_need at hwo
          dsimp only at hwo
          rw [if_pos hb] at hwo
          exact s_ldcw F hd (a_ws1 hwo List.mem_cons_self rfl) kk
        · rw [if_neg hb] at hst2
          cases hst2
          exact hL base cs D cA my c0 p l e R s m args below meth c Q pc d y a b z w ls st h (.ldc_w z) F hC hmy hai hb (Or.inr rfl) hd kk
      | invokespecial z =>
        have e1 : nn = 3 := hsw.resolve_left Bool.false_ne_true
        subst e1
        have hP1 := a_allAI a_P1k a_P1kA hmy hai
        by_cases ha : a = 1000
        · subst ha
          have hst2 := hst
          unfold a_step at hst2
          dsimp only at hst2
          rw [if_pos rfl] at hst2
          split at hst2
          · split at hst2
            · rename_i hsum
              cases hst2
              unfold a_need at hwo
              dsimp only at hwo
              rw [if_pos rfl] at hwo
              exact s_objI F hd (a_ws1 hwo List.mem_cons_self rfl) a_objI hsum kk
            · cases hst2
          · cases hst2
        · have hst2 : a_inv (a_call n d) (a_ctch y) a (b / 2) (pc + 3) ls st h = some (.inl (pc', ls', st', h')) := by
            have := hst
            unfold a_step at this
            dsimp only at this
            rwa [if_neg ha] at this
          obtain ⟨v1, hb, hsum, hcl, rfl, rfl, rfl⟩ := a_inv_inv hst2
          obtain ⟨d', rfl, ⟨mz, hz, hok, hrun⟩ | ⟨hz, hj⟩⟩ := a_call_inv hcl
          · unfold a_P1k at hP1
            unfold a_fok at hfo
            unfold a_need at hwo
            dsimp only at hP1 hfo hwo
            rw [hz] at hP1 hfo hwo
            rw [if_neg ha] at hwo
            dsimp only at hP1 hfo hwo
            simp only [Bool.and_eq_true, decide_eq_true_eq] at hP1 hfo
            have hcf : mz.2.2.2.2.2.2.2 = false := by
              have hk := List.all_eq_true.mp a_catS _ (List.mem_of_getElem? hz)
              rw [hfo.2.1] at hk
              cases hq : mz.2.2.2.2.2.2.2 with
              | false => rfl
              | true => rw [hq] at hk; cases hk
            have A : a_CA my mz z b a := ⟨hz, hP1.1, hcf, a_ws_at hwo _ List.mem_cons_self, a_ws1 hwo (List.mem_cons_of_mem _ (List.mem_cons_of_mem _ List.mem_cons_self)) rfl⟩
            have kkc := s_callVI (ih n (Nat.le_refl n)).S F hC A hfo.2.1 (a_ws1 hwo (List.mem_cons_of_mem _ List.mem_cons_self) rfl) (Or.inr ⟨hd, hfo.1, hP1.2⟩) hok hrun hsum hsz hR1' hR2' kk
            rw [a_take_drop] at kkc
            exact kkc
          · unfold a_fok at hfo
            dsimp only at hfo
            rw [hz] at hfo
            dsimp only at hfo
            simp only [decide_eq_true_eq] at hfo
            have h11 : a = 1100 := hfo.resolve_left ha
            subst h11
            exact absurd hj (a_jdk_1100 _ _ _)
      | invokevirtual z =>
        have e1 : nn = 3 := hsw.resolve_left Bool.false_ne_true
        subst e1
        have hP1 := a_allAI a_P1k a_P1kA hmy hai
        obtain ⟨v1, hb, hsum, hcl, rfl, rfl, rfl⟩ := a_inv_inv hst
        obtain ⟨d', rfl, ⟨mz, hz, hok, hrun⟩ | ⟨hz, hj⟩⟩ := a_call_inv hcl
        · unfold a_P1k at hP1
          unfold a_fok at hfo
          unfold a_need at hwo
          dsimp only at hP1 hfo hwo
          rw [hz] at hfo hwo
          dsimp only at hfo hwo
          simp only [decide_eq_true_eq] at hP1 hfo
          have hcf : mz.2.2.2.2.2.2.2 = false := by
            have hk := List.all_eq_true.mp a_catS _ (List.mem_of_getElem? hz)
            rw [hfo.1] at hk
            cases hq : mz.2.2.2.2.2.2.2 with
            | false => rfl
            | true => rw [hq] at hk; cases hk
          have A : a_CA my mz z b a := ⟨hz, hP1, hcf, a_ws_at hwo _ List.mem_cons_self, a_ws1 hwo (List.mem_cons_of_mem _ (List.mem_cons_of_mem _ (List.mem_cons_of_mem _ List.mem_cons_self))) rfl⟩
          have kkc := s_callVI (ih n (Nat.le_refl n)).S F hC A hfo.1 (a_ws1 hwo (List.mem_cons_of_mem _ List.mem_cons_self) rfl) (Or.inl ⟨hd, a_ws1 hwo (List.mem_cons_of_mem _ (List.mem_cons_of_mem _ List.mem_cons_self)) rfl⟩) hok hrun hsum hsz hR1' hR2' kk
          rw [a_take_drop] at kkc
          exact kkc
        · have kkc := hJ base cs D cA my c0 p l e R s m args below meth c Q pc d' ls' _ _ h h' v1 y (.invokevirtual z) a b w F hC hmy hai hck' ⟨z, Or.inl rfl⟩ hd hz hj hsum hsz (Nat.le_trans hgh.2.2.1 hR1') (Nat.le_trans hgh.2.2.2.1 hR2') kk
          rw [a_take_drop] at kkc
          exact kkc
      | invokestatic z =>
        have e1 : nn = 3 := hsw.resolve_left Bool.false_ne_true
        subst e1
        have hP1 := a_allAI a_P1k a_P1kA hmy hai
        obtain ⟨v1, hb, hsum, hcl, rfl, rfl, rfl⟩ := a_inv_inv hst
        obtain ⟨d', rfl, ⟨mz, hz, hok, hrun⟩ | ⟨hz, hj⟩⟩ := a_call_inv hcl
        · cases hcf : mz.2.2.2.2.2.2.2 with
          | true =>
            have kkc := hH n ih base cs D cA my c0 p e R s m args below meth c Q pc d' ls' _ _ h h' v1 z a b w mz F hC hck' hd hz hcf hok hrun hsum hsz hR1' hR2' kk
            rw [a_take_drop] at kkc
            exact kkc
          | false =>
            unfold a_P1k at hP1
            unfold a_fok at hfo
            unfold a_need at hwo
            dsimp only at hP1 hfo hwo
            rw [hz] at hfo hwo
            dsimp only at hfo hwo
            simp only [decide_eq_true_eq] at hP1 hfo
            have A : a_CA my mz z b a := ⟨hz, hP1, hcf, a_ws_at hwo _ List.mem_cons_self, a_ws1 hwo (List.mem_cons_of_mem _ (List.mem_cons_of_mem _ List.mem_cons_self)) rfl⟩
            have kkc := s_callS (ih n (Nat.le_refl n)).S F hC A hfo.1 (a_ws1 hwo (List.mem_cons_of_mem _ List.mem_cons_self) rfl) hd hok hrun hsum hsz hR1' hR2' kk
            rw [a_take_drop] at kkc
            exact kkc
        · have kkc := hJ base cs D cA my c0 p l e R s m args below meth c Q pc d' ls' _ _ h h' v1 y (.invokestatic z) a b w F hC hmy hai hck' ⟨z, Or.inr rfl⟩ hd hz hj hsum hsz (Nat.le_trans hgh.2.2.1 hR1') (Nat.le_trans hgh.2.2.2.1 hR2') kk
          rw [a_take_drop] at kkc
          exact kkc
      | ireturn =>
        have hst2 := hst
        unfold a_step at hst2
        dsimp only at hst2
        split at hst2 <;> cases hst2
      | return_ =>
        have hst2 := hst
        unfold a_step at hst2
        dsimp only at hst2
        split at hst2 <;> cases hst2
      | _ =>
        exact absurd hst (by simp [a_step])
end
section
/-! TEXTS: ldc and ldc_w of a String constant -/
def a_P2k (my : aMe) (ai : aI) : Bool := match ai.1 with
  | .ldc j => decide (ai.2.2.1 = 0) || (decide (1 ≤ ai.2.1) && (match aSrf[ai.2.1 - 1]? with
    | some q => decide (q.1 = my.1.cls ∧ q.2.1 = j)
    | none => false))
  | .ldc_w j => decide (ai.2.2.1 = 0) || (decide (1 ≤ ai.2.1) && (match aSrf[ai.2.1 - 1]? with
    | some q => decide (q.1 = my.1.cls ∧ q.2.1 = j)
    | none => false))
  | _ => true
set_option maxRecDepth 100000 in
theorem a_P2kA : (aMeL.zip aMs).all (fun q => q.2.all (fun o => match o with
    | some ai => a_P2k q.1 ai
    | none => true)) = true := by decide +kernel
theorem a_P2_at {my : aMe} {a j : Nat} (h : (decide (1 ≤ a) && (match aSrf[a - 1]? with
    | some q => decide (q.1 = my.1.cls ∧ q.2.1 = j)
    | none => false)) = true) : ∃ q, aSrf[a - 1]? = some q ∧ 1 ≤ a ∧ q.1 = my.1.cls ∧ q.2.1 = j := by
  rw [Bool.and_eq_true] at h
  cases hq : aSrf[a - 1]? with
  | none => rw [hq] at h; exact (Bool.false_ne_true h.2).elim
  | some q =>
    rw [hq] at h
    have h1 : 1 ≤ a := by simpa using h.1
    have h2 : q.1 = my.1.cls ∧ q.2.1 = j := by simpa using h.2
    exact ⟨q, rfl, h1, h2.1, h2.2⟩
theorem a_ls_ok : a_LS := by
  intro base cs D cA my c0 p l e R s m args below meth c Q pc d y a b j w ls st h i F hC hmy hai hb hi hd k
  have hP := a_allAI a_P2k a_P2kA hmy hai
  obtain ⟨adV, -, hR, -⟩ := hC.2.2.2.2.1
  have ea : 1 ≤ a → a_ad base cs (aC0 + a) = cs (a - 1 + 2) := by
    intro h1
    have e1 : ¬ aC0 + a < aSc := by unfold aC0 aSc; omega
    unfold a_ad
    rw [if_neg e1]
    have e2 : aC0 + a - aSc = a - 1 + 2 := by unfold aC0 aSc; omega
    rw [e2]
  rcases hi with rfl | rfl
  · unfold a_P2k at hP
    dsimp only at hP
    rw [Bool.or_eq_true] at hP
    obtain ⟨q, hq, h1, g1, g2⟩ := a_P2_at (hP.resolve_left (by simpa using hb))
    intro H locs cells slots lsA M
    have kk : W p l e R s m args below meth c H locs cells slots Q (F0 m (pc + 2) lsA (.ref (a_ad base cs (aC0 + a)) :: st.map (a_cv base cs))) := k H locs cells slots lsA M
    rw [ea h1] at kk
    have hv := hR _ _ hq
    rw [g1, g2] at hv
    exact va_ldcS F.1 F.2.1 F.2.2.2.1 hv hd kk
  · unfold a_P2k at hP
    dsimp only at hP
    rw [Bool.or_eq_true] at hP
    obtain ⟨q, hq, h1, g1, g2⟩ := a_P2_at (hP.resolve_left (by simpa using hb))
    intro H locs cells slots lsA M
    have kk : W p l e R s m args below meth c H locs cells slots Q (F0 m (pc + 3) lsA (.ref (a_ad base cs (aC0 + a)) :: st.map (a_cv base cs))) := k H locs cells slots lsA M
    rw [ea h1] at kk
    have hv := hR _ _ hq
    rw [g1, g2] at hv
    intro T hT X
    obtain ⟨t, a1, b1⟩ := kk T hT X
    exact ⟨t, X.ldcStringW F.1 F.2.2.2.1 (text := q.2.2) (a := cs (a - 1 + 2)) hv.1 hv.2 (g := F0 m pc lsA (st.map (a_cv base cs))) rfl (by rw [F.2.1]; exact hd) t a1, b1⟩
end
section
/-! THE JDK'S OWN: String.length, String.charAt over the texts; Math.max, Math.min; System.arraycopy of the static table -/
theorem a_Ss.go {base : Nat} {cs adV : Nat → Nat} {s U : State} (X : a_Ss base cs adV s) (hW : s.WarmedH U.vm) (hq : ∀ q, q < base → U.heap[q]? = s.heap[q]?) : a_Ss base cs adV U := by
  obtain ⟨X1, X2, X3, X4⟩ := X
  have hk : ∀ a : Nat, a < s.heap.size → ¬ (fun q => base ≤ q) a → U.heap[a]? = s.heap[a]? := fun a _ ha => hq a (Nat.not_le.mp ha)
  exact ⟨(X1.moved hW.alike).kept hk, fun i q hi => (X2 i q hi).warm hW, (X3.moved hW.alike).kept hk, (X4.moved hW.alike).kept hk⟩
def j_rm (k : Nat) : Room := { frames := k, cells := 0, slots := 0, locals := k * 64 }
def j_Pc (base : Nat) (cs adV : Nat → Nat) (vs : List Value) : Array Value → State → Prop := fun v U => v = vs.toArray ∧ a_Ss base cs adV U
theorem j_blind (base : Nat) (cs adV : Nat → Nat) (vs : List Value) : FrameBlind (j_Pc base cs adV vs) := fun a U g mk q => ⟨q.1, q.2.go (U := U.calling g mk a) (State.WarmedH.refl U) (fun _ _ => rfl)⟩
def y_coder : MethodName := ⟨"java/lang/String", "coder", "()B"⟩
def y_isL1 : MethodName := ⟨"java/lang/String", "isLatin1", "()Z"⟩
def y_len : MethodName := ⟨"java/lang/String", "length", "()I"⟩
def y_chr : MethodName := ⟨"java/lang/String", "charAt", "(I)C"⟩
def y_l1c : MethodName := ⟨"java/lang/StringLatin1", "charAt", "([BI)C"⟩
def y_ckS : MethodName := ⟨"java/lang/String", "checkIndex", "(II)V"⟩
def y_ckP : MethodName := ⟨"jdk/internal/util/Preconditions", "checkIndex", "(IILjava/util/function/BiFunction;)I"⟩
abbrev j_cw (y : MethodName) (b : ByteArray) (n : Nat) (r : Option FieldType) : List Cond := Cond.code y b n r :: lw_good
theorem jw_coder : Cond.code y_coder prog_19_method_152_code 1 (some .byte) ∈ lw_good := lw_good_in (List.mem_of_getElem? (i := 157) rfl) rfl
theorem jw_isL1 : Cond.code y_isL1 prog_19_method_154_code 1 (some .boolean) ∈ lw_good := lw_good_in (List.mem_of_getElem? (i := 167) rfl) rfl
theorem jw_len : Cond.code y_len prog_19_method_54_code 1 (some .int) ∈ lw_good := lw_good_in (List.mem_of_getElem? (i := 153) rfl) rfl
theorem jw_chr : Cond.code y_chr prog_19_method_56_code 2 (some .char) ∈ lw_good := lw_good_in (List.mem_of_getElem? (i := 163) rfl) rfl
theorem jw_l1c : Cond.code y_l1c prog_20_method_2_code 2 (some .char) ∈ lw_good := lw_good_in (List.mem_of_getElem? (i := 170) rfl) rfl
theorem jw_ckS : Cond.code y_ckS prog_19_method_155_code 2 none ∈ lw_good := lw_good_in (List.mem_of_getElem? (i := 173) rfl) rfl
theorem jw_ckP : Cond.code y_ckP prog_24_method_11_code 3 (some .int) ∈ lw_good := lw_good_in (List.mem_of_getElem? (i := 178) rfl) rfl
theorem j_good {w : Cond} (h : w ∈ lw_good) : GoodIn lw_good (w :: lw_good) := fun v hv => by
  rcases List.mem_cons.mp hv with rfl | hv
  · exact lw_good_ok _ h
  · exact lw_good_ok _ hv
def jL : List Cond := [Cond.methodLink "java/lang/String" 335 y_coder, .instanceMethod y_coder, .selects "java/lang/String" y_coder y_coder, .initialized "java/lang/String", .fieldLink "java/lang/String" 38 "java/lang/String" "COMPACT_STRINGS" "Z", .fieldLink "java/lang/String" 9 "java/lang/String" "value" "[B", .fieldLink "java/lang/String" 15 "java/lang/String" "coder" "B", .methodLink "java/lang/String" 492 y_isL1, .instanceMethod y_isL1, .selects "java/lang/String" y_isL1 y_isL1, .methodLink "java/lang/String" 495 y_l1c, .static y_l1c, .initialized "java/lang/StringLatin1", .methodLink "java/lang/StringLatin1" 9 y_ckS, .static y_ckS, .fieldLink "java/lang/String" 1053 "jdk/internal/util/Preconditions" "SIOOBE_FORMATTER" "Ljava/util/function/BiFunction;", .methodLink "java/lang/String" 1059 y_ckP, .static y_ckP, .initialized "jdk/internal/util/Preconditions", .instanceMethod y_len, .selects "java/lang/String" y_len y_len, .instanceMethod y_chr, .selects "java/lang/String" y_chr y_chr]
set_option maxRecDepth 100000 in
theorem jw_all : jL.all (fun w => decide (w ∈ lw_tbl) && goodWord w) = true := by decide +kernel
theorem jwi (k : Nat) {w : Cond} (h : jL[k]? = some w) : w ∈ lw_good := by
  have h1 := List.all_eq_true.mp jw_all w (List.mem_of_getElem? h)
  rw [Bool.and_eq_true] at h1
  exact lw_good_in (by simpa using h1.1) h1.2
section JD1
variable {p : Program} {l : Launch} {e : Env} {R : Room} {s : State} {m : MethodId} {args : Array Value} {below : List Frame} {meth : Method} {c : Code} {H : Heap} {locs : List Loc} {cells slots : Nat} {Q : State → Prop}
variable {pc : Nat} {ls : Array Slot} {rest st0 : List Value} {a : Array Value}
theorem j_csi {v : Int32} (hr : va_Run p l e R s m args below meth c H locs cells slots 0 0 (F0 m pc ls st0) rest (vp_Si (fun r => r = v) a) (fun _ => False))
    (kk : W p l e R s m args below meth c H locs cells slots Q (F0 m (pc + 3) ls (.int v :: rest))) : W p l e R s m args below meth c H locs cells slots Q (F0 m pc ls st0) := by
  intro T hT X
  obtain ⟨v', st₀, t, T', L, h0, X', hL, e1, -, ⟨r, hv, hp, hh⟩, st⟩ := hr T hT X
  cases hv
  subst hp
  obtain ⟨t2, a1, b1⟩ := kk T' (by rw [e1, hh, h0]) (Stand.forget X' (fun q h => (hL q h).elim))
  exact ⟨t2, st t2 a1, b1⟩
theorem j_csv (hr : va_Run p l e R s m args below meth c H locs cells slots 0 0 (F0 m pc ls st0) rest (va_Sv (fun _ => True) a) (fun _ => False))
    (kk : W p l e R s m args below meth c H locs cells slots Q (F0 m (pc + 3) ls rest)) : W p l e R s m args below meth c H locs cells slots Q (F0 m pc ls st0) := by
  intro T hT X
  obtain ⟨v', st₀, t, T', L, h0, X', hL, e1, -, ⟨hv, -, hh⟩, st⟩ := hr T hT X
  cases hv
  obtain ⟨t2, a1, b1⟩ := kk T' (by rw [e1, hh, h0]) (Stand.forget X' (fun q h => (hL q h).elim))
  exact ⟨t2, st t2 a1, b1⟩
end JD1

theorem a_len_small : ∀ l ∈ aStr, l.length < 100 ∧ ∀ c ∈ l, c < 128 := by decide +kernel
theorem a_len_lt (i : Nat) : (aStr.map List.length).getD i 0 < 2 ^ 31 := by
  rw [List.getD_eq_getElem?_getD, List.getElem?_map]
  cases h : aStr[i]? with
  | none => exact (by decide : (0 : Nat) < 2 ^ 31)
  | some l => exact Nat.lt_trans (a_len_small l (List.mem_of_getElem? h)).1 (by decide)
theorem a_chr_lt (i j : Nat) : (aStr.getD i []).getD j 0 < 128 := by
  rw [List.getD_eq_getElem?_getD, List.getD_eq_getElem?_getD]
  cases h : aStr[i]? with
  | none => exact (by simp)
  | some l =>
    cases h2 : l[j]? with
    | none => rw [show (some l).getD [] = l from rfl, h2]; decide
    | some c => rw [show (some l).getD [] = l from rfl, h2]; exact (a_len_small l (List.mem_of_getElem? h)).2 c (List.mem_of_getElem? h2)
theorem a_byt_eq (i j : Nat) : (((aStr.map (fun l => l.map Int32.ofNat)).getD i []).getD j 0) = Int32.ofNat ((aStr.getD i []).getD j 0) := by
  rw [List.getD_eq_getElem?_getD, List.getD_eq_getElem?_getD, List.getD_eq_getElem?_getD, List.getD_eq_getElem?_getD, List.getElem?_map]
  cases h : aStr[i]? with
  | none => rfl
  | some l =>
    show ((l.map Int32.ofNat)[j]?).getD 0 = Int32.ofNat ((l[j]?).getD 0)
    rw [List.getElem?_map]
    cases h2 : l[j]? with
    | none => rfl
    | some c => rfl
theorem a_c128 : ∀ n, n < 128 → ((Int32.ofNat n &&& 255).toUInt32 % 65536).toInt32 = Int32.ofNat n ∧ narrow .char (.int (Int32.ofNat n)) = .int (Int32.ofNat n) := by decide +kernel
theorem a_chr_ok (i j : Nat) : (((((aStr.map (fun l => l.map Int32.ofNat)).getD i []).getD j 0) &&& 255).toUInt32 % 65536).toInt32 = Int32.ofNat ((aStr.getD i []).getD j 0) ∧ narrow .char (.int (((((aStr.map (fun l => l.map Int32.ofNat)).getD i []).getD j 0) &&& 255).toUInt32 % 65536).toInt32) = .int (((((aStr.map (fun l => l.map Int32.ofNat)).getD i []).getD j 0) &&& 255).toUInt32 % 65536).toInt32 := by
  rw [a_byt_eq, (a_c128 _ (a_chr_lt i j)).1]
  exact ⟨rfl, (a_c128 _ (a_chr_lt i j)).2⟩
theorem a_chr_ok2 (i j : Nat) : narrow .char (.int (Int32.ofNat ((aStr.getD i []).getD j 0))) = .int (Int32.ofNat ((aStr.getD i []).getD j 0)) := (a_c128 _ (a_chr_lt i j)).2
theorem jd_coder_0 : decode prog_19_method_152_code 0 = .ok (.getstatic 38, 3) := by decide +kernel
theorem jd_coder_3 : decode prog_19_method_152_code 3 = .ok (.ifCond .eq 10, 3) := by decide +kernel
theorem jd_coder_6 : decode prog_19_method_152_code 6 = .ok (.aload_n 0, 1) := by decide +kernel
theorem jd_coder_7 : decode prog_19_method_152_code 7 = .ok (.getfield 15, 3) := by decide +kernel
theorem jd_coder_10 : decode prog_19_method_152_code 10 = .ok (.goto 4, 3) := by decide +kernel
theorem jd_coder_14 : decode prog_19_method_152_code 14 = .ok (.ireturn, 1) := by decide +kernel
theorem jd_isL1_0 : decode prog_19_method_154_code 0 = .ok (.getstatic 38, 3) := by decide +kernel
theorem jd_isL1_3 : decode prog_19_method_154_code 3 = .ok (.ifCond .eq 14, 3) := by decide +kernel
theorem jd_isL1_6 : decode prog_19_method_154_code 6 = .ok (.aload_n 0, 1) := by decide +kernel
theorem jd_isL1_7 : decode prog_19_method_154_code 7 = .ok (.getfield 15, 3) := by decide +kernel
theorem jd_isL1_10 : decode prog_19_method_154_code 10 = .ok (.ifCond .ne 7, 3) := by decide +kernel
theorem jd_isL1_13 : decode prog_19_method_154_code 13 = .ok (.iconst 1, 1) := by decide +kernel
theorem jd_isL1_14 : decode prog_19_method_154_code 14 = .ok (.goto 4, 3) := by decide +kernel
theorem jd_isL1_18 : decode prog_19_method_154_code 18 = .ok (.ireturn, 1) := by decide +kernel
theorem jd_len_0 : decode prog_19_method_54_code 0 = .ok (.aload_n 0, 1) := by decide +kernel
theorem jd_len_1 : decode prog_19_method_54_code 1 = .ok (.getfield 9, 3) := by decide +kernel
theorem jd_len_4 : decode prog_19_method_54_code 4 = .ok (.arraylength, 1) := by decide +kernel
theorem jd_len_5 : decode prog_19_method_54_code 5 = .ok (.aload_n 0, 1) := by decide +kernel
theorem jd_len_6 : decode prog_19_method_54_code 6 = .ok (.invokevirtual 335, 3) := by decide +kernel
theorem jd_len_9 : decode prog_19_method_54_code 9 = .ok (.ishr, 1) := by decide +kernel
theorem jd_len_10 : decode prog_19_method_54_code 10 = .ok (.ireturn, 1) := by decide +kernel
theorem jd_chr_0 : decode prog_19_method_56_code 0 = .ok (.aload_n 0, 1) := by decide +kernel
theorem jd_chr_1 : decode prog_19_method_56_code 1 = .ok (.invokevirtual 492, 3) := by decide +kernel
theorem jd_chr_4 : decode prog_19_method_56_code 4 = .ok (.ifCond .eq 12, 3) := by decide +kernel
theorem jd_chr_7 : decode prog_19_method_56_code 7 = .ok (.aload_n 0, 1) := by decide +kernel
theorem jd_chr_8 : decode prog_19_method_56_code 8 = .ok (.getfield 9, 3) := by decide +kernel
theorem jd_chr_11 : decode prog_19_method_56_code 11 = .ok (.iload_n 1, 1) := by decide +kernel
theorem jd_chr_12 : decode prog_19_method_56_code 12 = .ok (.invokestatic 495, 3) := by decide +kernel
theorem jd_chr_15 : decode prog_19_method_56_code 15 = .ok (.ireturn, 1) := by decide +kernel
theorem jd_l1c_0 : decode prog_20_method_2_code 0 = .ok (.iload_n 1, 1) := by decide +kernel
theorem jd_l1c_1 : decode prog_20_method_2_code 1 = .ok (.aload_n 0, 1) := by decide +kernel
theorem jd_l1c_2 : decode prog_20_method_2_code 2 = .ok (.arraylength, 1) := by decide +kernel
theorem jd_l1c_3 : decode prog_20_method_2_code 3 = .ok (.invokestatic 9, 3) := by decide +kernel
theorem jd_l1c_6 : decode prog_20_method_2_code 6 = .ok (.aload_n 0, 1) := by decide +kernel
theorem jd_l1c_7 : decode prog_20_method_2_code 7 = .ok (.iload_n 1, 1) := by decide +kernel
theorem jd_l1c_8 : decode prog_20_method_2_code 8 = .ok (.baload, 1) := by decide +kernel
theorem jd_l1c_9 : decode prog_20_method_2_code 9 = .ok (.sipush 255, 3) := by decide +kernel
theorem jd_l1c_12 : decode prog_20_method_2_code 12 = .ok (.iand, 1) := by decide +kernel
theorem jd_l1c_13 : decode prog_20_method_2_code 13 = .ok (.i2c, 1) := by decide +kernel
theorem jd_l1c_14 : decode prog_20_method_2_code 14 = .ok (.ireturn, 1) := by decide +kernel
theorem jd_ckS_0 : decode prog_19_method_155_code 0 = .ok (.iload_n 0, 1) := by decide +kernel
theorem jd_ckS_1 : decode prog_19_method_155_code 1 = .ok (.iload_n 1, 1) := by decide +kernel
theorem jd_ckS_2 : decode prog_19_method_155_code 2 = .ok (.getstatic 1053, 3) := by decide +kernel
theorem jd_ckS_5 : decode prog_19_method_155_code 5 = .ok (.invokestatic 1059, 3) := by decide +kernel
theorem jd_ckS_8 : decode prog_19_method_155_code 8 = .ok (.pop, 1) := by decide +kernel
theorem jd_ckS_9 : decode prog_19_method_155_code 9 = .ok (.return_, 1) := by decide +kernel
theorem jd_ckP_0 : decode prog_24_method_11_code 0 = .ok (.iload_n 0, 1) := by decide +kernel
theorem jd_ckP_1 : decode prog_24_method_11_code 1 = .ok (.ifCond .lt 8, 3) := by decide +kernel
theorem jd_ckP_4 : decode prog_24_method_11_code 4 = .ok (.iload_n 0, 1) := by decide +kernel
theorem jd_ckP_5 : decode prog_24_method_11_code 5 = .ok (.iload_n 1, 1) := by decide +kernel
theorem jd_ckP_6 : decode prog_24_method_11_code 6 = .ok (.if_icmp .lt 10, 3) := by decide +kernel
theorem jd_ckP_16 : decode prog_24_method_11_code 16 = .ok (.iload_n 0, 1) := by decide +kernel
theorem jd_ckP_17 : decode prog_24_method_11_code 17 = .ok (.ireturn, 1) := by decide +kernel
set_option maxHeartbeats 4000000 in
theorem j_coder (l : Launch) (base : Nat) (cs adV : Nat → Nat) {i : Nat} (hi : i < 22) : Met l y_coder (j_cw y_coder prog_19_method_152_code 1 (some .byte)) (j_rm 0) (j_Pc base cs adV ([Value.ref (cs (i + 2))])) (vp_Si (fun r => r = 0)) 0 0 (fun _ => False) := by
  refine va_MetF (cc := prog_19_method_152_code) (maxL := 1) (ret := (some .byte)) (by decide +kernel) rfl ?_
  intro p e s m args below meth c s₁ B hml hv
  obtain ⟨rfl, X⟩ := hv
  have hx := B.exec
  have hb := B.bytes
  have hr := B.returns
  have hlocks := B.notSynchronized
  have hts0 := atoms_spec (ws := j_cw y_coder prog_19_method_152_code 1 (some .byte)) B.pre
  have hts : ∀ w ∈ lw_good, w.before ([Value.ref (cs (i + 2))]).toArray s = true := fun w hw => hts0 w (List.mem_cons_of_mem _ hw)
  have hown : s.vm.findClass "java/lang/String" = some m.cls := findClass_of_methodNamed B.named
  have hS : va_S (fun q => base ≤ q) s.heap s.heap [] := va_S.rf
  have hl := lv_entry ([Value.ref (cs (i + 2))]) (n := 1) (Nat.le_of_ble_eq_true rfl)
  rw [lg_entry_eq]
  generalize (lg_sl ([Value.ref (cs (i + 2))]) ++ List.replicate (1 - (lg_sl ([Value.ref (cs (i + 2))])).length) Slot.unset).toArray = ls at hl ⊢
  have hl : lv_has ls 1 [(0, .ref (cs (i + 2)))] := hl
  refine va_gets hx hb X.2.2.1 hS hown (hts _ (jwi 4 rfl)) (fun _ h => h) jd_coder_0 ?_
  refine lv_if_eq (tgt := 13) hx hb jd_coder_3 (by decide) (fun q => absurd q (by decide)) (fun _ => ?_)
  refine lv_aload_n hx hb jd_coder_6 rfl (lv_at hl 0 rfl) ?_
  refine vk_getf hx hb (X.1.1 i hi).2.1 hS hown (hts _ (jwi 6 rfl)) (fun _ h => h) jd_coder_7 ?_
  refine lv_goto (tgt := 14) hx hb jd_coder_10 (by decide) ?_
  exact W.zret (ty := .byte) hx hb hr (by decide) (fun t ht _ => ⟨0, rfl, rfl, ht⟩) (fun q h => by cases h) jd_coder_14 hlocks
set_option maxHeartbeats 4000000 in
theorem j_isL1 (l : Launch) (base : Nat) (cs adV : Nat → Nat) {i : Nat} (hi : i < 22) : Met l y_isL1 (j_cw y_isL1 prog_19_method_154_code 1 (some .boolean)) (j_rm 0) (j_Pc base cs adV ([Value.ref (cs (i + 2))])) (vp_Si (fun r => r = 1)) 0 0 (fun _ => False) := by
  refine va_MetF (cc := prog_19_method_154_code) (maxL := 1) (ret := (some .boolean)) (by decide +kernel) rfl ?_
  intro p e s m args below meth c s₁ B hml hv
  obtain ⟨rfl, X⟩ := hv
  have hx := B.exec
  have hb := B.bytes
  have hr := B.returns
  have hlocks := B.notSynchronized
  have hts0 := atoms_spec (ws := j_cw y_isL1 prog_19_method_154_code 1 (some .boolean)) B.pre
  have hts : ∀ w ∈ lw_good, w.before ([Value.ref (cs (i + 2))]).toArray s = true := fun w hw => hts0 w (List.mem_cons_of_mem _ hw)
  have hown : s.vm.findClass "java/lang/String" = some m.cls := findClass_of_methodNamed B.named
  have hS : va_S (fun q => base ≤ q) s.heap s.heap [] := va_S.rf
  have hl := lv_entry ([Value.ref (cs (i + 2))]) (n := 1) (Nat.le_of_ble_eq_true rfl)
  rw [lg_entry_eq]
  generalize (lg_sl ([Value.ref (cs (i + 2))]) ++ List.replicate (1 - (lg_sl ([Value.ref (cs (i + 2))])).length) Slot.unset).toArray = ls at hl ⊢
  have hl : lv_has ls 1 [(0, .ref (cs (i + 2)))] := hl
  refine va_gets hx hb X.2.2.1 hS hown (hts _ (jwi 4 rfl)) (fun _ h => h) jd_isL1_0 ?_
  refine lv_if_eq (tgt := 17) hx hb jd_isL1_3 (by decide) (fun q => absurd q (by decide)) (fun _ => ?_)
  refine lv_aload_n hx hb jd_isL1_6 rfl (lv_at hl 0 rfl) ?_
  refine vk_getf hx hb (X.1.1 i hi).2.1 hS hown (hts _ (jwi 6 rfl)) (fun _ h => h) jd_isL1_7 ?_
  refine lv_if_ne (tgt := 17) hx hb jd_isL1_10 (by decide) (fun q => absurd rfl q) (fun _ => ?_)
  refine lv_iconst (v := 1) hx hb jd_isL1_13 (by decide) ?_
  refine lv_goto (tgt := 18) hx hb jd_isL1_14 (by decide) ?_
  exact W.zret (ty := .boolean) hx hb hr (by decide) (fun t ht _ => ⟨1, rfl, rfl, ht⟩) (fun q h => by cases h) jd_isL1_18 hlocks
set_option maxHeartbeats 4000000 in
theorem j_len (l : Launch) (base : Nat) (cs adV : Nat → Nat) {i : Nat} (hi : i < 22) : Met l y_len (j_cw y_len prog_19_method_54_code 1 (some .int)) (j_rm 2) (j_Pc base cs adV ([Value.ref (cs (i + 2))])) (vp_Si (fun r => r = Int32.ofNat ((aStr.map List.length).getD i 0))) 0 0 (fun _ => False) := by
  refine va_MetF (cc := prog_19_method_54_code) (maxL := 1) (ret := (some .int)) (by decide +kernel) rfl ?_
  intro p e s m args below meth c s₁ B hml hv
  obtain ⟨rfl, X⟩ := hv
  have hx := B.exec
  have hb := B.bytes
  have hr := B.returns
  have hlocks := B.notSynchronized
  have hts0 := atoms_spec (ws := j_cw y_len prog_19_method_54_code 1 (some .int)) B.pre
  have hts : ∀ w ∈ lw_good, w.before ([Value.ref (cs (i + 2))]).toArray s = true := fun w hw => hts0 w (List.mem_cons_of_mem _ hw)
  have hown : s.vm.findClass "java/lang/String" = some m.cls := findClass_of_methodNamed B.named
  have hS : va_S (fun q => base ≤ q) s.heap s.heap [] := va_S.rf
  have hl := lv_entry ([Value.ref (cs (i + 2))]) (n := 1) (Nat.le_of_ble_eq_true rfl)
  rw [lg_entry_eq]
  generalize (lg_sl ([Value.ref (cs (i + 2))]) ++ List.replicate (1 - (lg_sl ([Value.ref (cs (i + 2))])).length) Slot.unset).toArray = ls at hl ⊢
  have hl : lv_has ls 1 [(0, .ref (cs (i + 2)))] := hl
  refine lv_aload_n hx hb jd_len_0 rfl (lv_at hl 0 rfl) ?_
  refine vk_getf hx hb (X.1.1 i hi).2.2.1 hS hown (hts _ (jwi 5 rfl)) (fun _ h => h) jd_len_1 ?_
  refine va_tlen hx hb (X.1.1 i hi).2.2.2 hS rfl jd_len_4 ?_
  refine lv_aload_n hx hb jd_len_5 rfl (lv_at hl 0 rfl) ?_
  refine j_csi (va_runV (As := []) (rest := [.int _]) ⟨hx, hb, hml, hown, hts⟩ (j_coder l base cs adV hi) ⟨callB_of 0 hts (j_good jw_coder) rfl rfl rfl (hts _ (jwi 3 rfl)) (hts _ (jwi 0 rfl)) (by decide +kernel) ⟨Nat.le_of_ble_eq_true rfl, Nat.le_of_ble_eq_true rfl⟩, hts _ (jwi 1 rfl), hts _ (jwi 2 rfl)⟩ ⟨j_blind _ _ _ _, vk_recv X.1 hi hS, fun U hU hW => ⟨rfl, X.go hW (fun q _ => by rw [hU])⟩⟩ rfl rfl hl.1 rfl (lv_room (Nat.le_of_ble_eq_true rfl)) jd_len_6 ⟨Nat.le_refl _, Nat.le_refl _⟩) ?_
  refine lv_ishr hx hb jd_len_9 ?_
  exact W.iret hx hb hr (fun t ht _ => ⟨_, rfl, sb_shr0 _, ht⟩) (fun q h => by cases h) jd_len_10 hlocks
set_option maxHeartbeats 4000000 in
theorem j_ckP (l : Launch) (base : Nat) (cs adV : Nat → Nat) {x n : Int32} (r : Option Nat) (h0 : ¬ x < 0) (hn : x < n) : Met l y_ckP (j_cw y_ckP prog_24_method_11_code 3 (some .int)) (j_rm 0) (j_Pc base cs adV ([Value.int x, .int n, va_rf r])) (vp_Si (fun r => r = x)) 0 0 (fun _ => False) := by
  refine va_MetF (cc := prog_24_method_11_code) (maxL := 3) (ret := (some .int)) (by decide +kernel) rfl ?_
  intro p e s m args below meth c s₁ B hml hv
  obtain ⟨rfl, X⟩ := hv
  have hx := B.exec
  have hb := B.bytes
  have hr := B.returns
  have hlocks := B.notSynchronized
  have hts0 := atoms_spec (ws := j_cw y_ckP prog_24_method_11_code 3 (some .int)) B.pre
  have hts : ∀ w ∈ lw_good, w.before ([Value.int x, .int n, va_rf r]).toArray s = true := fun w hw => hts0 w (List.mem_cons_of_mem _ hw)
  have hown : s.vm.findClass "jdk/internal/util/Preconditions" = some m.cls := findClass_of_methodNamed B.named
  have hS : va_S (fun q => base ≤ q) s.heap s.heap [] := va_S.rf
  have hl := lv_entry ([Value.int x, .int n, va_rf r]) (n := 3) (by cases r <;> exact Nat.le_of_ble_eq_true rfl)
  rw [lg_entry_eq]
  generalize (lg_sl ([Value.int x, .int n, va_rf r]) ++ List.replicate (3 - (lg_sl ([Value.int x, .int n, va_rf r])).length) Slot.unset).toArray = ls at hl ⊢
  have hl : lv_has ls 3 (lv_args 0 [Value.int x, .int n, va_rf r]) := hl
  refine lv_iload_n hx hb jd_ckP_0 rfl (lv_at hl 0 rfl) ?_
  refine lv_if_lt (tgt := 9) hx hb jd_ckP_1 (by decide) (fun q => absurd q h0) (fun _ => ?_)
  refine lv_iload_n hx hb jd_ckP_4 rfl (lv_at hl 0 rfl) ?_
  refine lv_iload_n hx hb jd_ckP_5 rfl (lv_at hl 1 rfl) ?_
  refine lv_icmp_lt (tgt := 16) hx hb jd_ckP_6 (by decide) (fun _ => ?_) (fun q => absurd hn q)
  refine lv_iload_n hx hb jd_ckP_16 rfl (lv_at hl 0 rfl) ?_
  exact W.iret hx hb hr (fun t ht _ => ⟨_, rfl, rfl, ht⟩) (fun q h => by cases h) jd_ckP_17 hlocks
set_option maxHeartbeats 4000000 in
theorem j_ckS (l : Launch) (base : Nat) (cs adV : Nat → Nat) {x n : Int32} (h0 : ¬ x < 0) (hn : x < n) : Met l y_ckS (j_cw y_ckS prog_19_method_155_code 2 none) (j_rm 2) (j_Pc base cs adV ([Value.int x, .int n])) (va_Sv (fun _ => True)) 0 0 (fun _ => False) := by
  refine va_MetF (cc := prog_19_method_155_code) (maxL := 2) (ret := none) (by decide +kernel) rfl ?_
  intro p e s m args below meth c s₁ B hml hv
  obtain ⟨rfl, X⟩ := hv
  have hx := B.exec
  have hb := B.bytes
  have hr := B.returns
  have hlocks := B.notSynchronized
  have hts0 := atoms_spec (ws := j_cw y_ckS prog_19_method_155_code 2 none) B.pre
  have hts : ∀ w ∈ lw_good, w.before ([Value.int x, .int n]).toArray s = true := fun w hw => hts0 w (List.mem_cons_of_mem _ hw)
  have hown : s.vm.findClass "java/lang/String" = some m.cls := findClass_of_methodNamed B.named
  have hS : va_S (fun q => base ≤ q) s.heap s.heap [] := va_S.rf
  have hl := lv_entry ([Value.int x, .int n]) (n := 2) (Nat.le_of_ble_eq_true rfl)
  rw [lg_entry_eq]
  generalize (lg_sl ([Value.int x, .int n]) ++ List.replicate (2 - (lg_sl ([Value.int x, .int n])).length) Slot.unset).toArray = ls at hl ⊢
  have hl : lv_has ls 2 [(0, .int x), (1, .int n)] := hl
  refine lv_iload_n hx hb jd_ckS_0 rfl (lv_at hl 0 rfl) ?_
  refine lv_iload_n hx hb jd_ckS_1 rfl (lv_at hl 1 rfl) ?_
  rcases X.2.2.2 with hz | ⟨t0, hz⟩
  · refine va_gets hx hb hz hS hown (hts _ (jwi 15 rfl)) (fun _ h => h) jd_ckS_2 ?_
    refine j_csi (v := x) (va_runS (As := [.int x, .int n, .null]) (rest := []) ⟨hx, hb, hml, hown, hts⟩ (j_ckP l base cs adV none h0 hn) ⟨callB_of 3 hts (j_good jw_ckP) rfl rfl rfl (hts _ (jwi 18 rfl)) (hts _ (jwi 16 rfl)) (by decide +kernel) ⟨Nat.le_of_ble_eq_true rfl, Nat.le_of_ble_eq_true rfl⟩, hts _ (jwi 17 rfl)⟩ ⟨j_blind _ _ _ _, fun U hU hW => ⟨rfl, X.go hW (fun q _ => by rw [hU])⟩⟩ rfl rfl hl.1 rfl (lv_room (Nat.le_of_ble_eq_true rfl)) jd_ckS_5 ⟨Nat.le_refl _, Nat.le_refl _⟩) ?_
    refine lv_pop hx hb jd_ckS_8 rfl ?_
    exact W.vret hx hb hr (fun t ht _ => ⟨rfl, trivial, ht⟩) (fun q h => by cases h) jd_ckS_9 hlocks
  · refine va_gets hx hb hz hS hown (hts _ (jwi 15 rfl)) (fun _ h => h) jd_ckS_2 ?_
    refine j_csi (v := x) (va_runS (As := [.int x, .int n, .ref t0]) (rest := []) ⟨hx, hb, hml, hown, hts⟩ (j_ckP l base cs adV (some t0) h0 hn) ⟨callB_of 3 hts (j_good jw_ckP) rfl rfl rfl (hts _ (jwi 18 rfl)) (hts _ (jwi 16 rfl)) (by decide +kernel) ⟨Nat.le_of_ble_eq_true rfl, Nat.le_of_ble_eq_true rfl⟩, hts _ (jwi 17 rfl)⟩ ⟨j_blind _ _ _ _, fun U hU hW => ⟨rfl, X.go hW (fun q _ => by rw [hU])⟩⟩ rfl rfl hl.1 rfl (lv_room (Nat.le_of_ble_eq_true rfl)) jd_ckS_5 ⟨Nat.le_refl _, Nat.le_refl _⟩) ?_
    refine lv_pop hx hb jd_ckS_8 rfl ?_
    exact W.vret hx hb hr (fun t ht _ => ⟨rfl, trivial, ht⟩) (fun q h => by cases h) jd_ckS_9 hlocks

set_option maxHeartbeats 4000000 in
theorem j_l1c (l : Launch) (base : Nat) (cs adV : Nat → Nat) {i : Nat} (hi : i < 22) {x : Int32} (hin : vp_in x ((aStr.map List.length).getD i 0)) : Met l y_l1c (j_cw y_l1c prog_20_method_2_code 2 (some .char)) (j_rm 4) (j_Pc base cs adV ([Value.ref (adV i), .int x])) (vp_Si (fun r => r = Int32.ofNat ((aStr.getD i []).getD x.toNatClampNeg 0))) 0 0 (fun _ => False) := by
  refine va_MetF (cc := prog_20_method_2_code) (maxL := 2) (ret := (some .char)) (by decide +kernel) rfl ?_
  intro p e s m args below meth c s₁ B hml hv
  obtain ⟨rfl, X⟩ := hv
  have hx := B.exec
  have hb := B.bytes
  have hr := B.returns
  have hlocks := B.notSynchronized
  have hts0 := atoms_spec (ws := j_cw y_l1c prog_20_method_2_code 2 (some .char)) B.pre
  have hts : ∀ w ∈ lw_good, w.before ([Value.ref (adV i), .int x]).toArray s = true := fun w hw => hts0 w (List.mem_cons_of_mem _ hw)
  have hown : s.vm.findClass "java/lang/StringLatin1" = some m.cls := findClass_of_methodNamed B.named
  have hS : va_S (fun q => base ≤ q) s.heap s.heap [] := va_S.rf
  have hl := lv_entry ([Value.ref (adV i), .int x]) (n := 2) (Nat.le_of_ble_eq_true rfl)
  rw [lg_entry_eq]
  generalize (lg_sl ([Value.ref (adV i), .int x]) ++ List.replicate (2 - (lg_sl ([Value.ref (adV i), .int x])).length) Slot.unset).toArray = ls at hl ⊢
  have hl : lv_has ls 2 [(0, .ref (adV i)), (1, .int x)] := hl
  refine lv_iload_n hx hb jd_l1c_0 rfl (lv_at hl 1 rfl) ?_
  refine lv_aload_n hx hb jd_l1c_1 rfl (lv_at hl 0 rfl) ?_
  refine va_tlen hx hb (X.1.1 i hi).2.2.2 hS rfl jd_l1c_2 ?_
  obtain ⟨j, hj, ex⟩ := vp_in_of hin (a_len_lt i)
  have h0 : ¬ x < 0 := by rw [ex]; exact nI_pos (Nat.lt_trans hj (a_len_lt i))
  have hn : x < Int32.ofNat ((aStr.map List.length).getD i 0) := by rw [ex]; exact nI_lt hj (a_len_lt i)
  refine j_csv (va_runS (As := [.int x, .int _]) (rest := []) ⟨hx, hb, hml, hown, hts⟩ (j_ckS l base cs adV h0 hn) ⟨callB_of 2 hts (j_good jw_ckS) rfl rfl rfl (hts _ (jwi 3 rfl)) (hts _ (jwi 13 rfl)) (by decide +kernel) ⟨Nat.le_of_ble_eq_true rfl, Nat.le_of_ble_eq_true rfl⟩, hts _ (jwi 14 rfl)⟩ ⟨j_blind _ _ _ _, fun U hU hW => ⟨rfl, X.go hW (fun q _ => by rw [hU])⟩⟩ rfl rfl hl.1 rfl (lv_room (Nat.le_of_ble_eq_true rfl)) jd_l1c_3 ⟨Nat.le_refl _, Nat.le_refl _⟩) ?_
  refine lv_aload_n hx hb jd_l1c_6 rfl (lv_at hl 0 rfl) ?_
  refine lv_iload_n hx hb jd_l1c_7 rfl (lv_at hl 1 rfl) ?_
  refine va_tb hx hb (X.1.1 i hi).2.2.2 hS hin rfl jd_l1c_8 ?_
  refine lv_sipush (v := 255) hx hb jd_l1c_9 (by decide) ?_
  refine lv_iand hx hb jd_l1c_12 ?_
  refine lv_i2c hx hb jd_l1c_13 rfl ?_
  have hc := a_chr_ok i x.toNatClampNeg
  exact W.zret (ty := .char) hx hb hr hc.2 (fun t ht _ => ⟨_, rfl, hc.1, ht⟩) (fun q h => by cases h) jd_l1c_14 hlocks
set_option maxHeartbeats 4000000 in
theorem j_chr (l : Launch) (base : Nat) (cs adV : Nat → Nat) {i : Nat} (hi : i < 22) {x : Int32} (hin : vp_in x ((aStr.map List.length).getD i 0)) : Met l y_chr (j_cw y_chr prog_19_method_56_code 2 (some .char)) (j_rm 6) (j_Pc base cs adV ([Value.ref (cs (i + 2)), .int x])) (vp_Si (fun r => r = Int32.ofNat ((aStr.getD i []).getD x.toNatClampNeg 0))) 0 0 (fun _ => False) := by
  refine va_MetF (cc := prog_19_method_56_code) (maxL := 2) (ret := (some .char)) (by decide +kernel) rfl ?_
  intro p e s m args below meth c s₁ B hml hv
  obtain ⟨rfl, X⟩ := hv
  have hx := B.exec
  have hb := B.bytes
  have hr := B.returns
  have hlocks := B.notSynchronized
  have hts0 := atoms_spec (ws := j_cw y_chr prog_19_method_56_code 2 (some .char)) B.pre
  have hts : ∀ w ∈ lw_good, w.before ([Value.ref (cs (i + 2)), .int x]).toArray s = true := fun w hw => hts0 w (List.mem_cons_of_mem _ hw)
  have hown : s.vm.findClass "java/lang/String" = some m.cls := findClass_of_methodNamed B.named
  have hS : va_S (fun q => base ≤ q) s.heap s.heap [] := va_S.rf
  have hl := lv_entry ([Value.ref (cs (i + 2)), .int x]) (n := 2) (Nat.le_of_ble_eq_true rfl)
  rw [lg_entry_eq]
  generalize (lg_sl ([Value.ref (cs (i + 2)), .int x]) ++ List.replicate (2 - (lg_sl ([Value.ref (cs (i + 2)), .int x])).length) Slot.unset).toArray = ls at hl ⊢
  have hl : lv_has ls 2 [(0, .ref (cs (i + 2))), (1, .int x)] := hl
  refine lv_aload_n hx hb jd_chr_0 rfl (lv_at hl 0 rfl) ?_
  refine j_csi (va_runV (As := []) (rest := []) ⟨hx, hb, hml, hown, hts⟩ (j_isL1 l base cs adV hi) ⟨callB_of 0 hts (j_good jw_isL1) rfl rfl rfl (hts _ (jwi 3 rfl)) (hts _ (jwi 7 rfl)) (by decide +kernel) ⟨Nat.le_of_ble_eq_true rfl, Nat.le_of_ble_eq_true rfl⟩, hts _ (jwi 8 rfl), hts _ (jwi 9 rfl)⟩ ⟨j_blind _ _ _ _, vk_recv X.1 hi hS, fun U hU hW => ⟨rfl, X.go hW (fun q _ => by rw [hU])⟩⟩ rfl rfl hl.1 rfl (lv_room (Nat.le_of_ble_eq_true rfl)) jd_chr_1 ⟨Nat.le_refl _, Nat.le_refl _⟩) ?_
  refine lv_if_eq (tgt := 16) hx hb jd_chr_4 (by decide) (fun q => absurd q (by decide)) (fun _ => ?_)
  refine lv_aload_n hx hb jd_chr_7 rfl (lv_at hl 0 rfl) ?_
  refine vk_getf hx hb (X.1.1 i hi).2.2.1 hS hown (hts _ (jwi 5 rfl)) (fun _ h => h) jd_chr_8 ?_
  refine lv_iload_n hx hb jd_chr_11 rfl (lv_at hl 1 rfl) ?_
  refine j_csi (va_runS (As := [.ref (adV i), .int x]) (rest := []) ⟨hx, hb, hml, hown, hts⟩ (j_l1c l base cs adV hi hin) ⟨callB_of 2 hts (j_good jw_l1c) rfl rfl rfl (hts _ (jwi 12 rfl)) (hts _ (jwi 10 rfl)) (by decide +kernel) ⟨Nat.le_of_ble_eq_true rfl, Nat.le_of_ble_eq_true rfl⟩, hts _ (jwi 11 rfl)⟩ ⟨j_blind _ _ _ _, fun U hU hW => ⟨rfl, X.go hW (fun q _ => by rw [hU])⟩⟩ rfl rfl hl.1 rfl (lv_room (Nat.le_of_ble_eq_true rfl)) jd_chr_12 ⟨Nat.le_refl _, Nat.le_refl _⟩) ?_
  have hc := a_chr_ok2 i x.toNatClampNeg
  exact W.zret (ty := .char) hx hb hr hc (fun t ht _ => ⟨_, rfl, rfl, ht⟩) (fun q h => by cases h) jd_chr_15 hlocks
end
section
/-! CALLS OF THE JDK'S METHODS -/
def a_P3k (my : aMe) (ai : aI) : Bool := match ai.1 with
  | .invokestatic j => if ai.2.1 = 1001 then decide (Cond.methodLink my.1.cls j Lib.Math.max.name ∈ lw_tbl) else if ai.2.1 = 1002 then decide (Cond.methodLink my.1.cls j Lib.Math.min.name ∈ lw_tbl) else if ai.2.1 = 1005 then decide (Cond.methodLink my.1.cls j arraycopyName ∈ lw_tbl) else true
  | .invokevirtual j => if ai.2.1 = 1003 then decide (Cond.methodLink my.1.cls j y_len ∈ lw_tbl) else if ai.2.1 = 1004 then decide (Cond.methodLink my.1.cls j y_chr ∈ lw_tbl) else true
  | _ => true
set_option maxRecDepth 100000 in
theorem a_P3kA : (aMeL.zip aMs).all (fun q => q.2.all (fun o => match o with
    | some ai => a_P3k q.1 ai
    | none => true)) = true := by decide +kernel
theorem a_link_good {own : String} {j : Nat} {y : MethodName} (h : Cond.methodLink own j y ∈ lw_tbl) : Cond.methodLink own j y ∈ lw_good := lw_good_in h rfl
theorem jw_max : Cond.static Lib.Math.max.name ∈ lw_good ∧ Cond.initialized "java/lang/Math" ∈ lw_good ∧ Cond.code Lib.Math.max.name Lib.Math.max.code 2 (some .int) ∈ lw_good := ⟨lw_good_in (by decide +kernel) rfl, lw_good_in (by decide +kernel) rfl, lw_good_in (by decide +kernel) rfl⟩
theorem jw_min : Cond.static Lib.Math.min.name ∈ lw_good ∧ Cond.code Lib.Math.min.name Lib.Math.min.code 2 (some .int) ∈ lw_good := ⟨lw_good_in (by decide +kernel) rfl, lw_good_in (by decide +kernel) rfl⟩
theorem jw_cpy : Cond.native arraycopyName ∈ lw_good ∧ Cond.static arraycopyName ∈ lw_good ∧ Cond.initialized "java/lang/System" ∈ lw_good := ⟨lw_good_in (by decide +kernel) rfl, lw_good_in (by decide +kernel) rfl, lw_good_in (by decide +kernel) rfl⟩
theorem a_str_ad {base : Nat} {cs : Nat → Nat} {k : Nat} (h : aC0 < k) : a_ad base cs k = cs (k - (aC0 + 1) + 2) := by
  have e1 : ¬ k < aSc := by unfold aC0 at h; unfold aSc; omega
  unfold a_ad
  rw [if_neg e1]
  have e2 : k - aSc = k - (aC0 + 1) + 2 := by unfold aC0 at h ⊢; unfold aSc; omega
  rw [e2]
theorem aStr_len : aStr.length = 22 := by decide +kernel
theorem a_js_ok : a_JS := by
  intro base cs D cA my c0 p l e R s m args below meth c Q pc d ls as st h h' v y i z b w F hC hmy hai hck hi hd hz hj hsum hsz hr1 hr2 k
  have hP := a_allAI a_P3k a_P3kA hmy hai
  have hF := F.2.2.2.2.2.2.2.2
  have hfo : a_fok my (i, z, b, w) = true := by
    unfold a_ck1 at hck
    simp only [Bool.and_eq_true] at hck
    exact hck.1.2
  unfold a_jdk at hj
  split at hj
  · -- Math
    rename_i x x2
    have hst : ∃ j, i = .invokestatic j ∧ (z = 1001 ∨ z = 1002) := by
      rcases hi with ⟨j, rfl | rfl⟩
      · unfold a_fok at hfo
        dsimp only at hfo
        rw [hz] at hfo
        have h1 : z = 1003 ∨ z = 1004 := by simpa using hfo
        rcases h1 with rfl | rfl <;> simp at hj
      · refine ⟨j, rfl, ?_⟩
        by_cases q1 : z = 1001
        · exact Or.inl q1
        · by_cases q2 : z = 1002
          · exact Or.inr q2
          · rw [if_neg q1, if_neg q2] at hj; cases hj
    obtain ⟨j, rfl, hzz⟩ := hst
    unfold a_P3k at hP
    dsimp only at hP
    intro H locs cells slots lsA M
    have hMM := M.2.2.2.2.1
    have hml : c.maxLocals = lsA.size := by rw [F.2.2.1]; exact M.2.2.2.1.1.symm
    have hlo : ((st.map (a_cv base cs)).map fun v => v.category).sum + 13 ≤ R.locals := by rw [a_sum_cv]; omega
    rcases hzz with rfl | rfl
    · rw [if_pos rfl] at hj hP
      cases hj
      have hw : Cond.methodLink my.1.cls j Lib.Math.max.name ∈ lw_good := a_link_good (by simpa using hP)
      exact va_mmax F.1 F.2.1 hml F.2.2.2.1 (F.2.2.2.2.1 _ hw) (F.2.2.2.2.1 _ jw_max.1) (F.2.2.2.2.1 _ jw_max.2.1) (F.2.2.2.2.1 _ jw_max.2.2) (by omega) hlo (by omega) (by omega) hd (k H locs cells slots lsA M)
    · rw [if_neg (by decide), if_pos rfl] at hj hP
      cases hj
      have hw : Cond.methodLink my.1.cls j Lib.Math.min.name ∈ lw_good := a_link_good (by simpa using hP)
      exact va_mmin F.1 F.2.1 hml F.2.2.2.1 (F.2.2.2.2.1 _ hw) (F.2.2.2.2.1 _ jw_min.1) (F.2.2.2.2.1 _ jw_max.2.1) (F.2.2.2.2.1 _ jw_min.2) (by omega) hlo (by omega) (by omega) hd (k H locs cells slots lsA M)
  · -- String.length
    rename_i q
    split at hj
    · rename_i hq
      obtain ⟨rfl, hq⟩ := hq
      split at hj
      · rename_i tx htx
        cases hj
        have hi22 : q - (aC0 + 1) < 22 := by rw [← aStr_len]; exact (List.getElem?_eq_some_iff.mp htx).1
        have hst : ∃ j, i = .invokevirtual j := by
          rcases hi with ⟨j, rfl | rfl⟩
          · exact ⟨j, rfl⟩
          · unfold a_fok at hfo
            dsimp only at hfo
            rw [hz] at hfo
            simp at hfo
        obtain ⟨j, rfl⟩ := hst
        unfold a_P3k at hP
        dsimp only at hP
        rw [if_pos rfl] at hP
        have hw : Cond.methodLink my.1.cls j y_len ∈ lw_good := a_link_good (by simpa using hP)
        obtain ⟨adV, X⟩ := hC.2.2.2.2.1
        intro H locs cells slots lsA M
        have hMM := M.2.2.2.2.1
        have hn : (aStr.map List.length).getD (q - (aC0 + 1)) 0 = tx.length := by rw [List.getD_eq_getElem?_getD, List.getElem?_map, htx]; rfl
        have kk : W p l e R s m args below meth c H locs cells slots Q (F0 m (pc + 3) lsA (.int (Int32.ofNat tx.length) :: st.map (a_cv base cs))) := k H locs cells slots lsA M
        rw [← hn] at kk
        show W p l e R s m args below meth c H locs cells slots Q (F0 m pc lsA (.ref (a_ad base cs q) :: st.map (a_cv base cs)))
        rw [a_str_ad hq]
        obtain ⟨cB, r1, r2, r3, r4⟩ := (X.1.1 _ hi22).1
        exact j_csi (va_runV (As := []) (rest := st.map (a_cv base cs)) ⟨F.1, F.2.1, F.2.2.1, F.2.2.2.1, F.2.2.2.2.1⟩ (j_len l base cs adV hi22) ⟨callB_of 0 F.2.2.2.2.1 (j_good jw_len) rfl rfl rfl (F.2.2.2.2.1 _ (jwi 3 rfl)) (F.2.2.2.2.1 _ hw) (by decide +kernel) ⟨by show 2 + 1 ≤ _; omega, by show 8 + (1 + 11) + 2 * 64 ≤ _; omega⟩, F.2.2.2.2.1 _ (jwi 19 rfl), F.2.2.2.2.1 _ (jwi 20 rfl)⟩ ⟨j_blind _ _ _ _, ⟨cB, by rw [M.2.1.2 _ (Nat.not_le.mp r4)]; exact r1, r2, r3⟩, fun U hU hW => ⟨rfl, X.go hW (fun q hq => by rw [hU]; exact M.2.1.2 q hq)⟩⟩ rfl rfl M.2.2.2.1.1 rfl (lv_room (by rw [a_sum_cv]; exact hsum)) hd ⟨by omega, by omega⟩) kk
      · cases hj
    · cases hj
  · -- String.charAt
    rename_i q x
    split at hj
    · rename_i hq
      subst hq
      split at hj
      · rename_i ch hch
        cases hj
        unfold a_chr at hch
        split at hch
        · cases hch
        · rename_i hq
          split at hch
          · rename_i tx htx
            split at hch
            · rename_i hin
              cases hch
              have hi22 : q - (aC0 + 1) < 22 := by rw [← aStr_len]; exact (List.getElem?_eq_some_iff.mp htx).1
              have hst : ∃ j, i = .invokevirtual j := by
                rcases hi with ⟨j, rfl | rfl⟩
                · exact ⟨j, rfl⟩
                · unfold a_fok at hfo
                  dsimp only at hfo
                  rw [hz] at hfo
                  simp at hfo
              obtain ⟨j, rfl⟩ := hst
              unfold a_P3k at hP
              dsimp only at hP
              rw [if_neg (by decide), if_pos rfl] at hP
              have hw : Cond.methodLink my.1.cls j y_chr ∈ lw_good := a_link_good (by simpa using hP)
              obtain ⟨adV, X⟩ := hC.2.2.2.2.1
              have hn : (aStr.map List.length).getD (q - (aC0 + 1)) 0 = tx.length := by rw [List.getD_eq_getElem?_getD, List.getElem?_map, htx]; rfl
              have ht : aStr.getD (q - (aC0 + 1)) [] = tx := by rw [List.getD_eq_getElem?_getD, htx]; rfl
              have hin2 : vp_in x ((aStr.map List.length).getD (q - (aC0 + 1)) 0) := by rw [hn]; exact a_in_ok hin
              intro H locs cells slots lsA M
              have hMM := M.2.2.2.2.1
              have kk : W p l e R s m args below meth c H locs cells slots Q (F0 m (pc + 3) lsA (.int (Int32.ofNat (tx.getD x.toNatClampNeg 0)) :: st.map (a_cv base cs))) := k H locs cells slots lsA M
              rw [← ht] at kk
              show W p l e R s m args below meth c H locs cells slots Q (F0 m pc lsA (.int x :: .ref (a_ad base cs q) :: st.map (a_cv base cs)))
              rw [a_str_ad (by omega)]
              obtain ⟨cB, r1, r2, r3, r4⟩ := (X.1.1 _ hi22).1
              exact j_csi (va_runV (As := [.int x]) (rest := st.map (a_cv base cs)) ⟨F.1, F.2.1, F.2.2.1, F.2.2.2.1, F.2.2.2.2.1⟩ (j_chr l base cs adV hi22 hin2) ⟨callB_of 1 F.2.2.2.2.1 (j_good jw_chr) rfl rfl rfl (F.2.2.2.2.1 _ (jwi 3 rfl)) (F.2.2.2.2.1 _ hw) (by decide +kernel) ⟨by show 6 + 1 ≤ _; omega, by show 8 + (2 + 11) + 6 * 64 ≤ _; omega⟩, F.2.2.2.2.1 _ (jwi 21 rfl), F.2.2.2.2.1 _ (jwi 22 rfl)⟩ ⟨j_blind _ _ _ _, ⟨cB, by rw [M.2.1.2 _ (Nat.not_le.mp r4)]; exact r1, r2, r3⟩, fun U hU hW => ⟨rfl, X.go hW (fun q hq => by rw [hU]; exact M.2.1.2 q hq)⟩⟩ rfl rfl M.2.2.2.1.1 rfl (lv_room (by rw [a_sum_cv]; exact hsum)) hd ⟨by omega, by omega⟩) kk
            · cases hch
          · cases hch
      · cases hj
    · cases hj
  · -- System.arraycopy
    rename_i q sp q2 dp n
    split at hj
    · rename_i hq
      obtain ⟨rfl, rfl, g1, g2, h1, h2, h3, h4, h5⟩ := hq
      cases hj
      have hst : ∃ j, i = .invokestatic j := by
        rcases hi with ⟨j, rfl | rfl⟩
        · unfold a_fok at hfo
          dsimp only at hfo
          rw [hz] at hfo
          simp at hfo
        · exact ⟨j, rfl⟩
      obtain ⟨j, rfl⟩ := hst
      unfold a_P3k at hP
      dsimp only at hP
      rw [if_neg (by decide), if_neg (by decide), if_pos rfl] at hP
      have hw : Cond.methodLink my.1.cls j arraycopyName ∈ lw_good := a_link_good (by simpa using hP)
      intro H locs cells slots lsA M
      have hml : c.maxLocals = lsA.size := by rw [F.2.2.1]; exact M.2.2.2.1.1.symm
      have hA := M.1.2.2 q2 g1
      rw [a_E_arr g2 (by omega) (by omega)] at hA
      have hc1 : H[base + q2]? = some (vp_cell (cA 1000) ((h.2.2.1 q2).2, .inl (h.2.2.2.1 q2))) := hA
      obtain ⟨scr, t1, t2, t3, t4, t5, t6, t7⟩ := hC.2.2.1.1
      have hc0 : H[cs 1]? = some scr := by rw [M.2.1.2 _ (Nat.not_le.mp t7)]; exact t1
      show W p l e R s m args below meth c H locs cells slots Q (F0 m pc lsA (.int n :: .int dp :: .ref (a_ad base cs q2) :: .int sp :: .ref (cs 1) :: st.map (a_cv base cs)))
      rw [a_ad_lt (Nat.lt_trans g1 hsz)]
      have nn : ∀ z : Int32, ¬ z < 0 → z.toInt = (z.toNatClampNeg : Int) := by
        intro z hz
        have hz0 : (0 : Int) ≤ z.toInt := by
          have := Int32.not_lt.mp hz
          simpa using Int32.le_iff_toInt_le.mp this
        show z.toInt = ((z.toInt.toNat : Nat) : Int)
        omega
      have hnf : nativeFrameWords "java/lang/System" "arraycopy" 5 ≤ 200 := by decide +kernel
      intro T hT X
      obtain ⟨u6, k0, hk0, cm0, hkk0⟩ := t2
      obtain ⟨-, k1, hk1, cm1, hkk1⟩ := (hC.1.2 0 _ rfl).1 (h.2.2.1 q2).2 (fun j => .int (h.2.2.2.1 q2 j))
      obtain ⟨vm', X', step⟩ := X.arraycopy F.1 F.2.2.2.1 (F.2.2.2.2.1 _ hw) (F.2.2.2.2.1 _ jw_cpy.1) (F.2.2.2.2.1 _ jw_cpy.2.1) (F.2.2.2.2.1 _ jw_cpy.2.2) (src := cs 1) (dst := base + q2) (cs := scr) (cd := vp_cell (cA 1000) ((h.2.2.1 q2).2, .inl (h.2.2.2.1 q2))) (srcPos := sp) (destPos := dp) (n := n) (by rw [hT]; exact hc0) (by rw [hT]; exact hc1)
        u6 (fun _ h => by cases h) t3 (fun h => by cases h) hk0 hk1 hkk0 hkk1 (by simp [refKind]) h1 h2 h3
        (by rw [nn sp h1, nn n h3]; omega)
        (by rw [nn dp h2, nn n h3]; show ¬ _ > ((arrV (cA 1000) (h.2.2.1 q2).2 (fun j => .int (h.2.2.2.1 q2 j))).slots.size : Int); rw [arrV_size]; omega)
        (fun vm₁ _ i hi => by
          have e : scr.slots.getD (sp.toNatClampNeg + i) .null = .int (aTab.getD (sp.toNatClampNeg + i) 0) := by
            rw [Array.getD_eq_getD_getElem?, t6 _ (by omega)]
            rfl
          refine ⟨?_, ?_⟩
          · rw [e]
            rfl
          · rw [e]
            exact trivial)
        (g := F0 m pc lsA (.int n :: .int dp :: .ref (base + q2) :: .int sp :: .ref (cs 1) :: st.map (a_cv base cs))) rfl (by rw [hml]) (rest := st.map (a_cv base cs)) rfl (by rw [F.2.1]; exact hd) (by omega) (by rw [a_sum_cv]; show 2 * 0 + _ + (nativeFrameWords "java/lang/System" "arraycopy" 5 + 11) ≤ _; omega)
      have e1 : copied scr (vp_cell (cA 1000) ((h.2.2.1 q2).2, .inl (h.2.2.2.1 q2))) sp dp n = vp_cell (cA 1000) ((h.2.2.1 q2).2, .inl (va_cpy (fun j => aTab.getD j 0) (h.2.2.2.1 q2) sp.toNatClampNeg dp.toNatClampNeg n.toNatClampNeg)) := va_copiedX (fun z => .int z) scr (cA 1000) (fun j => aTab.getD j 0) (h.2.2.2.1 q2) t6 h4
      rw [e1] at X' step
      have hl : base + q2 < H.size := (Array.getElem?_eq_some_iff.mp hc1).1
      have hheap : ((T.setVm vm').setCell (base + q2) (vp_cell (cA 1000) ((h.2.2.1 q2).2, .inl (va_cpy (fun j => aTab.getD j 0) (h.2.2.2.1 q2) sp.toNatClampNeg dp.toNatClampNeg n.toNatClampNeg)))).heap = H.setIfInBounds (base + q2) (vp_cell (cA 1000) ((h.2.2.1 q2).2, .inl (va_cpy (fun j => aTab.getD j 0) (h.2.2.2.1 q2) sp.toNatClampNeg dp.toNatClampNeg n.toNatClampNeg))) := by rw [← hT]; rfl
      generalize hN : vp_cell (cA 1000) ((h.2.2.1 q2).2, .inl (va_cpy (fun j => aTab.getD j 0) (h.2.2.2.1 q2) sp.toNatClampNeg dp.toNatClampNeg n.toNatClampNeg)) = NC at *
      have oq : ∀ x : Nat, x ≠ base + q2 → (H.setIfInBounds (base + q2) NC)[x]? = H[x]? := fun x hx => by simp [Array.getElem?_setIfInBounds, Ne.symm hx]
      have hne : aSc ≠ q2 := fun z => absurd (Nat.lt_trans g1 hsz) (by rw [z]; exact Nat.lt_irrefl _)
      obtain ⟨t, a1, b1⟩ := k _ _ cells slots lsA ⟨M.1.put rfl (by simp) oq (fun a ha => a_E_ext rfl (if_neg ha) rfl rfl) (by
          rw [a_E_arr (h := (h.1, h.2.1, h.2.2.1, (fun a => if a = q2 then va_cpy (fun j => aTab.getD j 0) (h.2.2.2.1 q2) sp.toNatClampNeg dp.toNatClampNeg n.toNatClampNeg else h.2.2.2.1 a), h.2.2.2.2.1, h.2.2.2.2.2)) (c := 1000) g2 (by omega) (by omega)]
          show (H.setIfInBounds (base + q2) NC)[base + q2]? = some (vp_cell _ _)
          rw [← hN]
          simp [Array.getElem?_setIfInBounds, hl]), ⟨M.2.1.1, fun x hx => by rw [oq x (by omega)]; exact M.2.1.2 x hx⟩, fun x hx => by
          rcases List.mem_append.mp hx with h9 | h9
          · exact M.2.2.1 x h9
          · obtain ⟨z, -, hz⟩ := List.mem_map.mp h9
            rw [← hz]
            exact Nat.le_add_right _ _, M.2.2.2.1, M.2.2.2.2.1, fun hz => by
          have e9 : (if aSc = q2 then va_cpy (fun j => aTab.getD j 0) (h.2.2.2.1 q2) sp.toNatClampNeg dp.toNatClampNeg n.toNatClampNeg else h.2.2.2.1 aSc) = h.2.2.2.1 aSc := if_neg hne
          show va_X (cs 0) (h.2.2.1 aSc).2 (if aSc = q2 then va_cpy (fun j => aTab.getD j 0) (h.2.2.2.1 q2) sp.toNatClampNeg dp.toNatClampNeg n.toNatClampNeg else h.2.2.2.1 aSc) s s.heap ∧ cs 0 < base
          rw [e9]
          exact M.2.2.2.2.2 hz⟩ _ hheap X'
      exact ⟨t, step t a1, b1⟩
    · cases hj
  · cases hj
end
section
/-! THE CLASS'S OWN THROW. The walk is set anew at the state before 'new', so that what stood in the heap is known to stand behind it -/
theorem a_rebase {p : Program} {l : Launch} {e : Env} {R : Room} {s : State} {m : MethodId} {args : Array Value} {below : List Frame} {meth : Method} {c : Code} {T : State} {locs : List Loc} {cells slots : Nat} (X : Stand p l e R s m args below meth c T locs cells slots) (hc : cells ≤ R.cells) (hs : slots ≤ R.slots) :
    Stand p l e { R with cells := R.cells - cells, slots := R.slots - slots } { s with heap := T.heap, slotsUsed := T.slotsUsed } m args below meth c T [] 0 0 := by
  have hz := X.heapSize
  have hu := X.used
  have hb := X.book
  have hroom := X.room
  have e0 : T.heap.toList.drop T.heap.size = [] := List.drop_eq_nil_of_le (by rw [Array.length_toList]; exact Nat.le_refl _)
  refine ⟨X.admits, X.cas, X.clock, X.frames, ?_, X.hears, X.method, X.code, X.here, X.tail, X.warmed, X.limits, X.bytes, ?_⟩
  · simp only [State.hasRoom, Bool.and_eq_true, decide_eq_true_eq] at hroom ⊢
    obtain ⟨⟨⟨⟨a1, a2⟩, a3⟩, a4⟩, a5⟩ := hroom
    refine ⟨⟨⟨⟨a1, a2⟩, ?_⟩, ?_⟩, hb⟩
    · show T.heap.size + (R.cells - cells) ≤ _
      omega
    · show T.slotsUsed + (R.slots - slots) ≤ _
      omega
  · refine ⟨?_, Nat.le_refl _, Nat.le_refl _, ?_, ?_, fun a c0 h => ⟨c0, h, rfl, rfl, fun _ _ => rfl⟩⟩
    · have h1 := X.same.1
      exact h1
    · show T.slotsUsed = T.slotsUsed + ((T.heap.toList.drop T.heap.size).map (·.slots.size)).sum
      rw [e0]; rfl
    · show ((T.heap.toList.drop T.heap.size).map (·.slots.size)).sum ≤ 0
      rw [e0]; exact Nat.le_refl _
def a_xn : List String := ["java/lang/RuntimeException", "java/lang/Exception"]
def a_xok (ic : Nat) (cls : String) : Bool := (Bundle.ownAtoms "TypedTermReader" ic cls a_xn).all (fun w => (decide (w ∈ lw_tbl) && (goodWord w || (w.keepsFace && w.onTables))) || decide (w = .isRef (.static "java/lang/Throwable" "UNASSIGNED_STACK" "[Ljava/lang/StackTraceElement;")) || decide (w = .isRef (.static "java/lang/Throwable" "SUPPRESSED_SENTINEL" "Ljava/util/List;")) || decide (w = .laysStatic "java/lang/Throwable" "UNASSIGNED_STACK" "[Ljava/lang/StackTraceElement;") || decide (w = .laysStatic "java/lang/Throwable" "SUPPRESSED_SENTINEL" "Ljava/util/List;"))
set_option maxRecDepth 100000 in
theorem a_xok1 : a_xok 80 "java/lang/IllegalArgumentException" = true := by decide +kernel
set_option maxRecDepth 100000 in
theorem a_xok2 : a_xok 133 "java/lang/IndexOutOfBoundsException" = true := by decide +kernel
theorem a_xat {base ic : Nat} {cls : String} {U : State} {args : Array Value} (hx : a_xok ic cls = true) (hts : ∀ w ∈ lw_good, w.before args U = true) (hT : a_Th base U) : ∀ w ∈ Bundle.ownAtoms "TypedTermReader" ic cls a_xn, w.before args U = true := by
  intro w hw
  have h1 := List.all_eq_true.mp hx w hw
  simp only [Bool.or_eq_true, Bool.and_eq_true, decide_eq_true_eq] at h1
  rcases h1 with (((h1 | h1) | h1) | h1) | h1
  · rcases h1.2 with h2 | h2
    · exact hts w (lw_good_in h1.1 h2)
    · exact va_Nw.use h2.2 (hT.2.2 w h1.1 h2.1 h2.2)
  · rw [h1]; exact hT.1.isref
  · rw [h1]; exact hT.2.1.isref
  · rw [h1]; exact hT.1.lays
  · rw [h1]; exact hT.2.1.lays
end
section
/-! A THROW OF THE CLASS'S OWN: the sites, and what stands behind one -/
def a_dkn (b : ByteArray) (pc : Nat) (i : Instr) (n : Nat) : Bool := match decode b pc with
  | .ok (j, k) => decide (j = i ∧ k = n)
  | .error _ => false
theorem a_dkn_ok {b : ByteArray} {pc n : Nat} {i : Instr} (h : a_dkn b pc i n = true) : decode b pc = .ok (i, n) := by
  unfold a_dkn at h
  split at h
  · rename_i j k hd
    simp only [decide_eq_true_eq] at h
    rw [hd, h.1, h.2]
  · cases h
def a_lds (b : ByteArray) (cls : String) (pc : Nat) : Bool := match decode b pc with
  | .ok (.ldc k, 2) => aSrf.any (fun q => decide (q.1 = cls ∧ q.2.1 = k))
  | _ => false
theorem a_lds_ok {b : ByteArray} {cls : String} {pc : Nat} (h : a_lds b cls pc = true) : ∃ (k i : Nat) (tx : String), decode b pc = .ok (.ldc k, 2) ∧ aSrf[i]? = some (cls, k, tx) := by
  unfold a_lds at h
  split at h
  · rename_i k hd
    obtain ⟨q, hq, h2⟩ := List.any_eq_true.mp h
    simp only [decide_eq_true_eq] at h2
    obtain ⟨i, hi⟩ := List.mem_iff_getElem?.mp hq
    obtain ⟨q1, q2, q3⟩ := q
    obtain ⟨rfl, rfl⟩ := h2
    exact ⟨_, i, q3, hd, hi⟩
  · cases h
def a_th1 (my : aMe) (pc j ci : Nat) : Bool := decide (my.1.cls = "TypedTermReader") && (decide (ci = 12 ∧ j = 76) || decide (ci = 13 ∧ j = 129)) && a_dkn my.2.1 (pc + 3) .dup 1 && a_lds my.2.1 "TypedTermReader" (pc + 4) && a_dkn my.2.1 (pc + 6) (.invokespecial (if ci = 12 then 80 else 133)) 3 && a_dkn my.2.1 (pc + 9) .athrow 1
def a_thL (my : aMe) : Nat → List (Option aI) → Bool
  | _, [] => true
  | pc, none :: l => a_thL my (pc + 1) l
  | pc, some ai :: l => (match ai.1 with
    | .new j => decide (ai.2.2.1 = 0) || a_th1 my pc j ai.2.1
    | _ => true) && a_thL my (pc + 1) l
set_option maxRecDepth 100000 in
theorem a_thA : (aMeL.zip aMs).all (fun q => a_thL q.1 0 q.2) = true := by decide +kernel
theorem a_thL_at {my : aMe} : ∀ (l : List (Option aI)) (p0 k j ci : Nat) (w : List Nat), a_thL my p0 l = true → l[k]? = some (some (.new j, ci, 1, w)) → a_th1 my (p0 + k) j ci = true
  | [], _, k, _, _, _, _, h => by simp at h
  | none :: l, p0, 0, _, _, _, _, h => by cases h
  | none :: l, p0, k + 1, j, ci, w, hc, h => by
    have := a_thL_at l (p0 + 1) k j ci w hc h
    rwa [show p0 + 1 + k = p0 + (k + 1) by omega] at this
  | some x :: l, p0, 0, j, ci, w, hc, h => by
    cases h
    unfold a_thL at hc
    rw [Bool.and_eq_true] at hc
    simpa using hc.1
  | some x :: l, p0, k + 1, j, ci, w, hc, h => by
    unfold a_thL at hc
    rw [Bool.and_eq_true] at hc
    have := a_thL_at l (p0 + 1) k j ci w hc.2 h
    rwa [show p0 + 1 + k = p0 + (k + 1) by omega] at this
theorem a_th_at {y pc j ci : Nat} {w : List Nat} {my : aMe} (hm : aMeL[y]? = some my) (hc : aCode y pc = some (.new j, ci, 1, w)) : a_th1 my pc j ci = true := by
  unfold aCode at hc
  cases hl : aMs[y]? with
  | none => rw [hl] at hc; cases hc
  | some l =>
    rw [hl] at hc
    dsimp only at hc
    cases hp : l[pc]? with
    | none => rw [hp] at hc; cases hc
    | some o =>
      rw [hp] at hc
      dsimp only at hc
      subst hc
      have hz : (my, l) ∈ aMeL.zip aMs := by
        refine List.mem_of_getElem? (i := y) ?_
        rw [List.getElem?_zip_eq_some]
        exact ⟨hm, hl⟩
      have := a_thL_at l 0 pc j ci w (List.all_eq_true.mp a_thA _ hz) hp
      rwa [Nat.zero_add] at this
def a_xcls (ci : Nat) : String := if ci = 12 then "java/lang/IllegalArgumentException" else "java/lang/IndexOutOfBoundsException"
set_option maxRecDepth 100000 in
theorem a_xw : ∀ ci : Nat, (ci = 12 ∨ ci = 13) → Cond.classLink "TypedTermReader" (if ci = 12 then 76 else 129) (a_xcls ci) ∈ lw_good ∧ Cond.instantiable (a_xcls ci) 6 ∈ lw_good ∧ Cond.initialized (a_xcls ci) ∈ lw_good := by
  intro ci h
  rcases h with rfl | rfl
  · exact ⟨lw_good_in (by decide +kernel) rfl, lw_good_in (by decide +kernel) rfl, lw_good_in (by decide +kernel) rfl⟩
  · exact ⟨lw_good_in (by decide +kernel) rfl, lw_good_in (by decide +kernel) rfl, lw_good_in (by decide +kernel) rfl⟩
theorem a_xcl_at : ∀ ci : Nat, (ci = 12 ∨ ci = 13) → ∃ T, aCl[ci]? = some (a_xcls ci, T, 0) := by
  intro ci h
  rcases h with rfl | rfl
  · exact ⟨_, rfl⟩
  · exact ⟨_, rfl⟩
/-- the end of a method that throws -/
def a_Qx (base : Nat) (cs : Nat → Nat) (D : va_G) (cA : Nat → ClassId) (h' : aH) (xa mc ms : Nat) : Array Value → State → Outcome → State → Prop := fun _ st o t => o = .threw xa ∧ st.WarmedH t.vm ∧ (∃ L, (∀ q ∈ L, base ≤ q.base) ∧ st.sameButNew ({ t with vm := st.vm } : State) L mc ms) ∧ a_Sim base cs D cA h' t.heap ∧ ∀ q, q < base → t.heap[q]? = st.heap[q]?
section AG7
variable {base : Nat} {cs : Nat → Nat} {D : va_G} {cA : Nat → ClassId} {my : aMe} {c0 : Nat × Nat} {p : Program} {l : Launch} {e : Env} {R : Room} {s : State} {m : MethodId} {args : Array Value} {below : List Frame} {meth : Method} {c : Code} {pc : Nat} {ls : List Value} {h : aH} {d : Nat}
/-- what was there is there as it was, where nothing is free -/
theorem a_same_nil {s U : State} {k n : Nat} (hs : s.sameButNew U [] k n) {a : Nat} (ha : a < s.heap.size) : U.heap[a]? = s.heap[a]? := by
  obtain ⟨-, -, -, -, -, h6⟩ := hs
  have hc : s.heap[a]? = some s.heap[a] := by simp [ha]
  obtain ⟨c', x1, x2, x3, x4⟩ := h6 a _ hc
  rw [x1, hc]
  have hsl : c'.slots = (s.heap[a]).slots := by
    apply Array.ext
    · exact x3
    · intro i h1 h2
      have := x4 i (by simp)
      rw [Array.getElem?_eq_getElem h1, Array.getElem?_eq_getElem h2] at this
      exact Option.some.inj this
  rw [x2, hsl]
theorem a_thr {j ci y : Nat} {w : List Nat} (hfl : l.stackTraces = false) (F : a_Fx my p R s m args meth c d) (hC : a_Cx base cs D cA h s) (hmy : aMeL[y]? = some my) (hai : aCode y pc = some (.new j, ci, 1, w)) (hd : decode my.2.1 pc = .ok (.new j, 3)) (hl : h.1 + 1 < aSc) (hR1 : h.2.1.1 + 1 ≤ c0.1 + R.cells) (hR2 : h.2.1.2 + 6 ≤ c0.2 + R.slots) (hex : c.exceptionTable.isEmpty = true) :
    a_G base cs D cA my c0 p l e R s m args below meth c (fun t => ∃ o, t.status = .running ∧ Ended t below o ∧ a_Qx base cs D cA (a_mk ci 6 h) (base + h.1) ((a_mk ci 6 h).2.1.1 - c0.1) ((a_mk ci 6 h).2.1.2 - c0.2) args s o t) pc ls [] h := by
  intro H locs cells slots lsA M T hT X
  have hth := a_th_at hmy hai
  unfold a_th1 at hth
  simp only [Bool.and_eq_true, Bool.or_eq_true, decide_eq_true_eq] at hth
  obtain ⟨⟨⟨⟨⟨t1, t2⟩, t3⟩, t4⟩, t5⟩, t6⟩ := hth
  have hci : ci = 12 ∨ ci = 13 := t2.imp (fun q => q.1) (fun q => q.1)
  have hj : j = if ci = 12 then 76 else 129 := by rcases t2 with ⟨rfl, rfl⟩ | ⟨rfl, rfl⟩ <;> rfl
  obtain ⟨kl, il, tx, hdl, hil⟩ := a_lds_ok t4
  have hM := M.2.2.2.2.1
  subst hT
  have X' := a_rebase X (by omega) (by omega)
  generalize hs' : ({ s with heap := T.heap, slotsUsed := T.slotsUsed } : State) = s' at X'
  have hvm : s'.vm = s.vm := by rw [← hs']
  have hhp : s'.heap = T.heap := by rw [← hs']
  have hWs : s.WarmedH s'.vm := by rw [hvm]; exact State.WarmedH.refl s
  have hts : ∀ w ∈ lw_good, w.before args s' = true := fun w hw => pay_in F.2.2.2.2.1 lw_good_ok w hw args s' hWs
  have hC' : a_Cx base cs D cA h s' := hC.go hWs (fun q hq => by rw [hhp]; exact M.2.1.2 q hq) ⟨rfl, rfl⟩
  have hown : s'.vm.findClass "TypedTermReader" = some m.cls := by rw [hvm, ← t1]; exact F.2.2.2.1
  obtain ⟨w1, w2, w3⟩ := a_xw ci hci
  rw [← hj] at w1
  obtain ⟨vm₁, cX, kX, hfX, hkX, -, hsz, X₁, st1⟩ := X'.newCold F.1 hown (hts _ w1) (hts _ w2) (hts _ w3) (g := F0 m pc lsA []) rfl (by rw [F.2.1]; exact hd) (by show 0 + 1 ≤ R.cells - cells; omega) (by show 0 + 6 ≤ R.slots - slots; omega)
  generalize hT1 : (T.setVm vm₁).pushCell { cls := cX, slots := kX.instanceTypes.map defaultValue, vm := .none } = T1 at X₁ st1
  have hcellA : T1.heap[T.heap.size]? = some (freshCell cX kX) := by rw [← hT1]; exact State.heap_pushCell_size _ _
  obtain ⟨adV, -, hSr, -⟩ := hC'.2.2.2.2.1
  have htr : e.platform.stackTraces = false := by rw [X.admits.platform]; exact hfl
  have hxa : ∀ w ∈ Bundle.ownAtoms "TypedTermReader" (if ci = 12 then 80 else 133) (a_xcls ci) a_xn, w.before args s' = true := by
    rcases hci with rfl | rfl
    · exact a_xat a_xok1 hts hC'.2.2.2.2.2
    · exact a_xat a_xok2 hts hC'.2.2.2.2.2
  have hfit : Bundle.fit (a_xcls ci) = true := by rcases hci with rfl | rfl <;> decide +kernel
  have hF := F.2.2.2.2.2.2.2.2
  have hW : W p l e { R with cells := R.cells - cells, slots := R.slots - slots } s' m args below meth c T1.heap [] (0 + 1) (0 + 6) (fun t => t.status = .running ∧ Ended t below (.threw T.heap.size) ∧ s'.WarmedH t.vm ∧ s'.sameButNew ({ t with vm := s'.vm } : State) [] 1 6 ∧ ∃ ce : Cell, t.heap[T.heap.size]? = some ce ∧ s'.vm.findClass (a_xcls ci) = some ce.cls ∧ ce.vm = .none) (F0 m (pc + 3) lsA [.ref T.heap.size]) := by
    refine lv_dup F.1 F.2.1 (a_dkn_ok t3) rfl (va_ldcS (pc := pc + 3 + 1) F.1 F.2.1 hown (hSr _ _ hil) hdl ?_)
    intro T2 hT2 X2
    obtain ⟨U, hsteps, hrun, hend, hW2, hsame, ce, hce, K⟩ := X2.ctorThrowS F.1 htr (own := "TypedTermReader") (cls := a_xcls ci) (names := a_xn) hown hfit (by decide +kernel) hxa (fun y hy => by cases hy) hfX hkX (a := T.heap.size) (by rw [hT2]; exact hcellA) (by rw [hhp]; exact Nat.le_refl _)
      (msg := .ref (cs (il + 2))) rfl (g := F0 m (pc + 3 + 1 + 2) lsA [.ref (cs (il + 2)), .ref T.heap.size, .ref T.heap.size]) rfl (by rw [F.2.2.1]; exact M.2.2.2.1.1) rfl rfl (rest := []) rfl
      (by rw [F.2.1]; exact a_dkn_ok t5) (by rw [F.2.1]; exact a_dkn_ok t6) (covers_of_empty hex _) (by show 2 + 3 < R.frames; omega) (by show _ ≤ R.locals; have : (F0 m (pc + 3 + 1 + 2) lsA [.ref (cs (il + 2)), .ref T.heap.size, .ref T.heap.size]).monitorRoom = 0 := rfl; rw [this]; simp [a_xn, Value.category]; omega) F.2.2.2.2.2.2.1
    exact ⟨U, hsteps, hrun, hend, hW2, hsame, ce, hce, K.cls, K.vm⟩
  obtain ⟨t, a1, b1, b2, b3, b4, ce, b5, b6, b7⟩ := hW T1 rfl X₁
  have hTsz : T.heap.size = base + h.1 := M.1.1
  have hold : ∀ q, q < T.heap.size → t.heap[q]? = T.heap[q]? := fun q hq => by
    have := a_same_nil b4 (a := q) (by rw [hhp]; exact hq)
    rw [hhp] at this
    exact this
  have b4' := b4
  obtain ⟨g1, g2, g3, g4, g5, g6⟩ := b4
  have hz : t.heap.size = T.heap.size + 1 := by
    have q1 : T.heap.size < t.heap.size := (Array.getElem?_eq_some_iff.mp b5).1
    have q2 : t.heap.size ≤ s'.heap.size + 1 := g3
    rw [hhp] at q2
    omega
  have e1 : (a_mk ci 6 h).2.1.1 - c0.1 = cells + 1 := by show h.2.1.1 + 1 - c0.1 = _; omega
  have e2 : (a_mk ci 6 h).2.1.2 - c0.2 = slots + 6 := by show h.2.1.2 + 6 - c0.2 = _; omega
  refine ⟨t, st1 _ a1, .threw T.heap.size, b1, b2, by rw [hTsz], State.WarmedH.trans hWs b3, ⟨locs ++ [], fun q hq => M.2.2.1 q (by simpa using hq), ?_⟩, ?_, fun q hq => ?_⟩
  · rw [e1, e2]
    refine X.same.trans ⟨?_, ?_, ?_, ?_, ?_, ?_⟩
    · have hx := X.same.1
      have g1' : ({ t with vm := s.vm } : State) = { s'.setFrames t.frames with heap := t.heap, slotsUsed := t.slotsUsed } := by rw [← hvm]; exact g1
      refine g1'.trans ?_
      have e3 : (T.setVm s.vm).setFrames t.frames = ({ s.setFrames t.frames with heap := T.heap, slotsUsed := T.slotsUsed } : State) := by
        refine (congrArg (·.setFrames t.frames) hx).trans ?_
        show ({ (s.setFrames (T.setVm s.vm).frames).setFrames t.frames with heap := T.heap, slotsUsed := T.slotsUsed } : State) = _
        rw [State.setFrames_setFrames]
      show _ = ({ (T.setVm s.vm).setFrames t.frames with heap := t.heap, slotsUsed := t.slotsUsed } : State)
      rw [e3, ← hs']
      rfl
    · rw [hhp] at g2; exact g2
    · rw [hhp] at g3; exact g3
    · have hu : s'.slotsUsed = T.slotsUsed := by rw [← hs']
      rw [hhp, hu] at g4; exact g4
    · rw [hhp] at g5; exact g5
    · rw [hhp] at g6; exact g6
  · refine M.1.mk hl hz hold ?_
    have ek : ((a_mk ci 6 h).2.2.1 h.1) = (ci, 6) := if_pos rfl
    rw [a_E_obj (c := ci) (by rw [ek]) (by omega), ← hTsz]
    obtain ⟨T9, hT9⟩ := a_xcl_at ci hci
    refine ⟨_, hT9, ce, b5, ?_, ?_, fun k hk => absurd hk (Nat.not_lt_zero k)⟩
    · have hk1 := (hC'.1.1 ci _ hT9).2.1
      exact Option.some.inj (b6.symm.trans hk1)
    · rw [b7]
  · rw [hold q (by omega)]
    exact M.2.1.2 q hq
end AG7
end
section
/-! CATCHING: one handler, its class's entry cold or warm -/
theorem a_caught {p : Program} {l : Launch} {e : Env} {R : Room} {s : State} {m : MethodId} {args : Array Value} {below : List Frame} {meth : Method} {c : Code} {T : State} {locs : List Loc} {cells slots : Nat} (X : Stand p l e R s m args below meth c T locs cells slots) {g : JFrame} (hg : g.method = m) {own name : String} (hown : s.vm.findClass own = some m.cls) {x : ExceptionTableEntry} (ht : c.exceptionTable.toList = [x]) (hx : covers x g.pc = true) (h0 : x.catchType ≠ 0)
    (hlink : (Cond.classLink own x.catchType name).before args s = true) (hcast : (Cond.castable name name).before args s = true) {a : Addr} {cell : Cell} (hcell : T.heap[a]? = some cell) (hobj : cell.vm.isStatics = false) (hcls : s.vm.findClass name = some cell.cls) :
    ∃ vm', Stand p l e R s m args below meth c (T.setVm vm') locs cells slots ∧ ∀ target, Steps p.tables e below ((T.setVm vm').setTop { g with pc := x.handlerPc, stack := [.ref a] }) target → Steps p.tables e below ((T.setTop g).pushFrame (.throwing a)) target := by
  subst hg
  obtain ⟨c1, c2, q1, q2, hself⟩ := Cond.castable_spec hcast
  cases hcls.symm.trans q1
  cases hcls.symm.trans q2
  obtain ⟨c3, q3, hcl⟩ := Cond.classLink_spec hown hlink e.platform (by rw [X.admits.platform])
  cases hcls.symm.trans q3
  obtain ⟨_, _, _, kt, hd, _, _, _, _, hkt, _, hopen⟩ := hcl.here
  have hal := X.warmed.alike
  have hW' := X.warmed.noted hd hopen (State.rightAt_cls hcl)
  have hcl₀ := X.warmed.classLinks hcl
  generalize hv : T.vm.noted g.method.cls x.catchType (.cls cell.cls) = vm' at hW'
  have hal2 : T.vm.Alike vm' := by rw [← hv]; exact (Vm.Alike.refl T.vm).noted _ _ _
  obtain ⟨kt1, hkt1, -⟩ := hal.2.2 _ _ hkt
  obtain ⟨kt2, hkt2, -⟩ := hal2.2.2 _ _ hkt1
  have hfit : vm'.assignable cell.cls cell.cls = true := by rw [hal2.assignable, hal.assignable]; exact hself
  refine ⟨vm', X.noted hW', fun target hrest => ?_⟩
  have hfind0 : ∀ (u : State), u.vm = T.vm → u.heap = T.heap → ∀ (Q : Handler → Pre) (E : CtlPost) (d : Bool) (acts : List Action), wp (findHandler g a) Q E e d acts u ↔ Q (.found x.handlerPc) d acts (u.setVm vm') := by
    intro u hu1 hu2 Q E d acts
    have hmeth : u.vm.method? g.method = some meth := by rw [hu1]; exact X.method'
    rw [W.findHandler_eq (meth := meth) (code := c) hmeth X.code, ht]
    have hx2 := hx
    simp only [covers] at hx2
    have hl2 : u.vm.ClassLinks e.platform g.method.cls x.catchType cell.cls := by rw [hu1]; exact hcl₀
    obtain ⟨r1, r2⟩ := (resolveClass_links e.toSetting hl2).op (op := VmOp.resolveClass g.method.cls x.catchType) rfl
    have hv2 : u.vm.noted g.method.cls x.catchType (.cls cell.cls) = vm' := by rw [hu1]; exact hv
    have hcell2 : u.heap[a]? = some cell := by rw [hu2]; exact hcell
    subst hv2
    simp [findHandler.go, hx2, h0, r1, r2, hcell2, VmData.ne_statics_of hobj, hkt2, hfit, VmOp.dirties, VmOp.acts]
  have hfind := hfind0 ((T.setTop g).pushFrame (.throwing a)) rfl rfl
  obtain ⟨hgo, hw⟩ := X.here.throwing a
  refine Steps.head hgo hw ?_
  have hstep : (stepThrowing e ((T.setTop g).pushFrame (.throwing a)) a (.java g :: T.frames.tail)).Is ((((T.setTop g).pushFrame (.throwing a)).setVm vm').setFrames (.java { g with pc := x.handlerPc, stack := [.ref a] } :: T.frames.tail)) [] := by
    simp only [stepThrowing, searchFrame, vmDo]
    generalize hr : Sem.go _ e false [] ((T.setTop g).pushFrame (.throwing a)) = res
    obtain ⟨as, rfl, ha⟩ := Sem.eq_ok_of hr (a := Handler.found x.handlerPc) (s' := ((T.setTop g).pushFrame (.throwing a)).setVm vm') (acts' := []) (by simp [hfind])
    exact ⟨rfl, ha⟩
  rw [stepThread_throwing (frames_entered X.here.top _), hstep.1]
  obtain ⟨g₀, hg⟩ := Option.isSome_iff_exists.mp X.here.top
  obtain ⟨r, hr⟩ := State.topJava?_eq_some.mp hg
  have hr' : (T.setVm vm').frames = .java g₀ :: r := hr
  rw [State.setTop_of_frames _ hr'] at hrest
  rw [hr, State.setTop_of_frames _ hr]
  have ef : ((((T.setFrames (.java g :: r)).pushFrame (.throwing a)).setVm vm').setFrames (.java { g with pc := x.handlerPc, stack := [.ref a] } :: r)) = (T.setVm vm').setFrames (.java { g with pc := x.handlerPc, stack := [.ref a] } :: r) := by
    show ((((T.setVm vm').setFrames (.java g :: r)).setFrames (.throwing a :: (T.setFrames (.java g :: r)).frames)).setFrames _) = _
    rw [State.setFrames_setFrames, State.setFrames_setFrames]
  rw [List.tail_cons, ef]
  exact hrest
/-- where a method that doesn't catch throws -/
theorem a_run_thr : ∀ (n d y pc : Nat) (ls st : List Value) (h : aH) (ci : Nat) (h' : aH) (my : aMe), aMeL[y]? = some my → my.2.2.2.2.2.2.2 = false → a_run n d y pc ls st h = some (.inr ci, h') → ∃ (pc' j : Nat) (w : List Nat) (h2 : aH), aCode y pc' = some (.new j, ci, 1, w) ∧ h' = a_mk ci 6 h2 := by
  intro n
  induction n with
  | zero => intro d y pc ls st h ci h' my _ _ hs; cases hs
  | succ n ih =>
    intro d y pc ls st h ci h' my hmy hcat hs
    rw [a_run_succ] at hs
    split at hs
    · cases hs
    · rename_i ai hai
      split at hs
      · exact ih _ _ _ _ _ _ _ _ my hmy hcat hs
      · rename_i r hst
        split at hs
        · cases hs
          rcases a_step_ret hst with ⟨-, x, -, hr⟩ | ⟨-, -, hr⟩ | ⟨j, hi, hb, -, hr⟩ | ⟨j, -, hct, -⟩
          · cases hr
          · cases hr
          · obtain ⟨i, a, b, w⟩ := ai
            dsimp only at hi hb hr
            subst hi
            subst hb
            cases hr
            exact ⟨_, _, _, h, hai, rfl⟩
          · unfold a_ctch at hct
            rw [hmy] at hct
            dsimp only at hct
            rw [hcat] at hct
            cases hct
        · cases hs
      · cases hs
/-- the contract of a method of ours that throws -/
theorem a_metX {n : Nat} {l : Launch} (hfl : l.stackTraces = false) (hR : a_RunG l n) {d z : Nat} {as : List Value} {g h' : aH} {ci : Nat} {mz : aMe} (hz : aMeL[z]? = some mz) (hc : mz.2.2.2.2.2.2.2 = false) (hok : a_ok mz as g = true) (hrun : a_run n d z 0 (a_loc mz as) [] g = some (.inr ci, h')) (hg : g.1 < aSc)
    (base : Nat) (cs : Nat → Nat) (D : va_G) (cA : Nat → ClassId) :
    MetFree l mz.1 (headSpec (Cond.code mz.1 mz.2.1 mz.2.2.1 mz.2.2.2.1 :: lw_good) (a_rm d (h'.2.1.1 - g.2.1.1) (h'.2.1.2 - g.2.1.2))) (a_Pc base cs D cA g as) (fun _ _ _ _ _ => True) (a_Qx base cs D cA h' (base + (h'.1 - 1)) (h'.2.1.1 - g.2.1.1) (h'.2.1.2 - g.2.1.2)) := by
  have hge := a_ge_run _ _ _ _ _ _ _ _ hrun hg
  have hmk := (a_mz hz).1
  have hok2 := hok
  unfold a_ok at hok2
  simp only [Bool.and_eq_true, decide_eq_true_eq, List.all_eq_true] at hok2
  refine MetFree.of_bodyS (code := mz.2.1) (maxLocals := mz.2.2.1) (ret := mz.2.2.2.1) hmk ?_ ?_
  · intro args s m h hn
    obtain ⟨meth, c, h1, h2, h3, h4, h5, h6, -, -⟩ := Cond.code_spec hn (atoms_spec (ws := Cond.code mz.1 mz.2.1 mz.2.2.1 mz.2.2.2.1 :: lw_good) h _ List.mem_cons_self)
    exact ⟨meth, c, h1, h2, h3, h4, h5, h6⟩
  intro p e s m args below meth c s₁ B hml hv _
  obtain ⟨rfl, hS, hC⟩ := hv
  have hts := atoms_spec (ws := Cond.code mz.1 mz.2.1 mz.2.2.1 mz.2.2.2.1 :: lw_good) B.pre
  have F : a_Fx mz p (a_rm d (h'.2.1.1 - g.2.1.1) (h'.2.1.2 - g.2.1.2)) s m ((as.map (a_cv base cs)).toArray) meth c d :=
    ⟨B.exec, B.bytes, hml, findClass_of_methodNamed B.named, fun w hw => hts w (List.mem_cons_of_mem _ hw), B.returns, B.notSynchronized, fun hi => by rw [(name_of_methodNamed B.named B.method).1]; exact hi, Nat.le_refl _, Nat.le_refl _, hC.2.1⟩
  have hb : base ≤ s.heap.size := by rw [hS.1]; exact Nat.le_add_right _ _
  have M0 : a_M base cs D cA s mz g.2.1 (a_loc mz as) g s.heap [] 0 0 ((lg_sl (as.map (a_cv base cs)) ++ List.replicate (mz.2.2.1 - (lg_sl (as.map (a_cv base cs))).length) Slot.unset).toArray) :=
    ⟨hS, ⟨hb, fun _ _ => rfl⟩, fun x hx => (by cases hx), a_ls_entry (fun v hv => hok2.1.2 v hv) hok2.1.1.2, ⟨rfl, rfl⟩, hC.2.2.2.1⟩
  have hex := B.noHandlers (hts _ List.mem_cons_self)
  have hc1 : h'.2.1.1 ≤ g.2.1.1 + (h'.2.1.1 - g.2.1.1) := by have := hge.2.2.1; omega
  have hc2 : h'.2.1.2 ≤ g.2.1.2 + (h'.2.1.2 - g.2.1.2) := by have := hge.2.2.2.1; omega
  have key := hR d z 0 (a_loc mz as) [] g (.inr ci, h') mz hrun hz base cs D cA g.2.1 p e (a_rm d (h'.2.1.1 - g.2.1.1) (h'.2.1.2 - g.2.1.2)) s m ((as.map (a_cv base cs)).toArray) below meth c
    (fun t => ∃ o, t.status = .running ∧ Ended t below o ∧ a_Qx base cs D cA h' (base + (h'.1 - 1)) (h'.2.1.1 - g.2.1.1) (h'.2.1.2 - g.2.1.2) ((as.map (a_cv base cs)).toArray) s o t) F hC hg hc1 hc2
    (fun _ _ _ hx => by cases hx) (fun _ _ hx => by cases hx) (fun hx => by rw [hc] at hx; cases hx)
    (fun pc' ls' h2 j ci' w hai hl hC2 hr hd => by
      cases hr
      exact a_thr (c0 := g.2.1) hfl F hC2 hz hai hd hl hc1 hc2 hex) s.heap [] 0 0 _ M0
  have hh0 : s₁.heap = s.heap := by rw [B.state]; rfl
  obtain ⟨t, a1, o, b1, b2, b3⟩ := key s₁ hh0 (Stand.of_body B)
  rw [lg_entry_eq]
  exact ⟨t, o, a1, b1, b2, b3⟩
end
section
/-! A CALL THAT THROWS, CAUGHT IN ITS CALLER -/
section AG8
variable {base : Nat} {cs : Nat → Nat} {D : va_G} {cA : Nat → ClassId} {my mz : aMe} {c0 : Nat × Nat} {p : Program} {l : Launch} {e : Env} {R : Room} {s : State} {m : MethodId} {args : Array Value} {below : List Frame} {meth : Method} {c : Code} {Q : State → Prop} {pc n d z i b : Nat} {ls as st : List Value} {h h' : aH} {ci : Nat}
set_option maxHeartbeats 1000000 in
theorem s_catch {x : ExceptionTableEntry} (hfl : l.stackTraces = false) (hR : a_RunG l n) (F : a_Fx my p R s m args meth c (d + 1)) (hC : a_Cx base cs D cA h s) (A : a_CA my mz i b z) (hb : ¬ b % 2 = 1) (hst : mz.2.2.2.2.1 = false) (hw : Cond.instanceMethod mz.1 ∈ lw_good) (hsel : Cond.selects mz.1.cls mz.1 mz.1 ∈ lw_good) (hd : decode my.2.1 pc = .ok (.invokevirtual i, 3)) (hok : a_ok mz as h = true) (hrun : a_run n d z 0 (a_loc mz as) [] h = some (.inr ci, h')) (hsum : (st.map fun v => v.category).sum ≤ 8) (hg : h.1 < aSc)
    (hR1 : h'.2.1.1 ≤ c0.1 + R.cells) (hR2 : h'.2.1.2 ≤ c0.2 + R.slots) (hci : ci = 12 ∨ ci = 13) (ht : c.exceptionTable.toList = [x]) (hx : covers x pc = true) (h0 : x.catchType ≠ 0) (hxl : Cond.classLink my.1.cls x.catchType (a_xcls ci) ∈ lw_good) (k : a_G base cs D cA my c0 p l e R s m args below meth c Q x.handlerPc ls [.ref (h'.1 - 1)] h') : a_G base cs D cA my c0 p l e R s m args below meth c Q pc ls (as.reverse ++ st) h := by
  intro H locs cells slots lsA M T hT X
  have hge : a_ge h h' := a_ge_run _ _ _ _ _ _ _ _ hrun hg
  obtain ⟨m1, m2, m3, m4, m5⟩ := a_mz A.1
  rw [if_neg (by rw [hst]; decide)] at m3
  obtain ⟨m6, m7, m8⟩ := m5.resolve_left (by rw [hst]; decide)
  obtain ⟨pcx, jx, wx, h2x, haix, hmkx⟩ := a_run_thr _ _ _ _ _ _ _ _ _ mz A.1 A.2.2.1 hrun
  have hok2 := hok
  unfold a_ok at hok2
  rw [hst] at hok2
  simp only [Bool.and_eq_true, decide_eq_true_eq, List.all_eq_true, Bool.false_or] at hok2
  have hMt := a_metX hfl hR A.1 A.2.2.1 hok hrun hg base cs D cA
  have hF := F.2.2.2.2.2.2.2.2
  have hMM := M.2.2.2.2.1
  cases as with
  | nil => exact (Bool.false_ne_true hok2.2).elim
  | cons w tl =>
    cases w with
    | ref q =>
      have hq : q < h.1 ∧ (h.2.2.1 q).1 = mz.2.2.2.2.2.2.1 := by simpa using hok2.2
      have hpcU := a_pcU (as := .ref q :: tl) hC M
      have es : (((Value.ref q :: tl).reverse ++ st).map (a_cv base cs)) = (tl.map (a_cv base cs)).reverse ++ .ref (a_ad base cs q) :: st.map (a_cv base cs) := by
        rw [List.map_append, List.map_reverse]
        simp [a_cv]
      rw [es]
      have hlen : (tl.map (a_cv base cs)).length = mz.2.2.2.2.2.1 - 1 := by
        have := hok2.1.1.1
        rw [List.length_cons] at this
        rw [List.length_map]; omega
      have hA := M.1.2.2 q hq.1
      rw [a_E_obj hq.2 (by omega)] at hA
      have hrc := va_recv hC.1 (a_P1 hA) (a_cl_at _ m7) (q0 := 0) rfl
      rw [m8] at hrc
      have ea : a_ad base cs q = base + q := a_ad_lt (Nat.lt_trans hq.1 hg)
      obtain ⟨cellB, hcB, hoB, hclB⟩ : ∃ cell : Cell, H[a_ad base cs q]? = some cell ∧ cell.vm.isStatics = false ∧ s.vm.findClass mz.1.cls = some cell.cls := by rw [ea]; exact hrc
      have hts := F.2.2.2.2.1
      obtain ⟨mk, methM, hnamed, hmethM, hstM, habM⟩ := Cond.instanceMethod_spec (hts _ hw)
      obtain ⟨methM', cM, hmethM', hcM, -, hlM, -, -, -, hsigM⟩ := Cond.code_spec hnamed (hts _ (a_mz_code A))
      cases hmethM.symm.trans hmethM'
      obtain ⟨c2, r2, mm2, q1, q2, q3, q4, kP, hkP, hkPi⟩ := Cond.selects_spec (hts _ hsel)
      cases hclB.symm.trans q1
      cases (State.methodFound?_of_named hnamed m2).symm.trans q2
      cases hnamed.symm.trans q3
      have hselP : selectMethod e.platform s.vm cellB.cls mk = .method mk := by rw [Launch.admits_selectMethod X.admits]; exact q4
      have hlenS : (tl.map (a_cv base cs)).length = methM.sig.parameters.length := by
        rw [hlen]
        have := m3
        rw [hsigM] at this
        exact (Option.some.inj this).symm
      obtain ⟨vm₁, X₁, hstep₁⟩ := X.invokevirtual F.1 F.2.2.2.1 (hts _ (a_lnk0 A hb)) hnamed hmethM hstM hkP hkPi m2 (a := a_ad base cs q) (cell := cellB) (by rw [hT]; exact hcB)
        (fun z h => by rw [h] at hoB; cases hoB) hselP hmethM habM hkP hkPi (g := F0 m pc lsA ((tl.map (a_cv base cs)).reverse ++ .ref (a_ad base cs q) :: st.map (a_cv base cs))) rfl (argsL := tl.map (a_cv base cs)) (rest := st.map (a_cv base cs)) hlenS rfl (by rw [F.2.1]; exact hd)
      have hdc : decode c.code (F0 m pc lsA (st.map (a_cv base cs))).pc = .ok (.invokevirtual i, 3) := by rw [F.2.1]; exact hd
      have hn1 : (T.setVm vm₁).methodNamed? mz.1 = some mk := X₁.named hnamed
      have hW1 : s.WarmedH (T.setVm vm₁).vm := X₁.warmed
      have hp1 := pay_in hts lw_good_ok
      obtain ⟨methY, cY, hmY, hcY, -, hlY, -, -, -, -⟩ := Cond.code_spec hn1 (hp1 _ (a_mz_code A) args (T.setVm vm₁) hW1)
      obtain ⟨kY, hkY, -⟩ := className_of_methodNamed hn1
      have hinitY : kY.init = .initialized := Cond.initialized_spec (findClass_of_methodNamed hn1) hkY (hp1 _ A.2.2.2.2 args (T.setVm vm₁) hW1)
      have hge1 := hge.2.2.1
      have hge2 := hge.2.2.2.1
      have happ : (headSpec (Cond.code mz.1 mz.2.1 mz.2.2.1 mz.2.2.2.1 :: lw_good) (a_rm d (h'.2.1.1 - h.2.1.1) (h'.2.1.2 - h.2.1.2))).appliesLoose mz.1 e.platform ((T.setVm vm₁).calling (F0 m pc lsA (st.map (a_cv base cs))) mk ((Value.ref (a_ad base cs q) :: tl.map (a_cv base cs)).toArray)) = true := by
        refine Spec.appliesLoose_calling (g := F0 m pc lsA (st.map (a_cv base cs))) X₁.here hdc hn1 hkY hinitY (X₁.room_calling (g := F0 m pc lsA (st.map (a_cv base cs))) (R' := a_rm d (h'.2.1.1 - h.2.1.1) (h'.2.1.2 - h.2.1.2)) (by rw [F.2.2.1]; exact M.2.2.2.1.1) hmY hcY ?_ ?_ ?_ ?_) ?_
        · show d + 16 + 1 ≤ _; omega
        · have e2 : (F0 m pc lsA (st.map (a_cv base cs))).monitorRoom = 0 := rfl
          have e3 : (((F0 m pc lsA (st.map (a_cv base cs))).stack).map fun v => v.category).sum ≤ 8 := by
            show ((st.map (a_cv base cs)).map fun v => v.category).sum ≤ 8
            rw [a_sum_cv]; exact hsum
          rw [hlY, e2]
          show _ + (d * 64 + 1000) ≤ _
          omega
        · show cells + (h'.2.1.1 - h.2.1.1) ≤ _; omega
        · show slots + (h'.2.1.2 - h.2.1.2) ≤ _; omega
        · refine atoms_intro fun w hw => ?_
          exact pay_in hts (a_good_ws A) w hw _ _ hW1
      obtain ⟨mid, hmid⟩ := X₁.here.above
      have hfr : ((T.setVm vm₁).setTop (F0 m pc lsA (st.map (a_cv base cs)))).frames = (.java (F0 m pc lsA (st.map (a_cv base cs))) :: mid) ++ below := by rw [State.frames_setTop' _ X₁.here.top, hmid]; rfl
      have hPp : a_Pc base cs D cA h (.ref q :: tl) ((Value.ref (a_ad base cs q) :: tl.map (a_cv base cs)).toArray) (T.setVm vm₁) := hpcU (T.setVm vm₁) hT hW1
      obtain ⟨o, s₂, hsteps, -, hend, hqx⟩ := Steps.callFree hMt p X.admits X.cas X.clock (acts := []) hfr happ (a_blind base cs D cA h _ _ _ _ _ hPp) trivial
      have hq' : a_Qx base cs D cA h' (base + (h'.1 - 1)) (h'.2.1.1 - h.2.1.1) (h'.2.1.2 - h.2.1.2) ((Value.ref (a_ad base cs q) :: tl.map (a_cv base cs)).toArray) ((T.setVm vm₁).calling (F0 m pc lsA (st.map (a_cv base cs))) mk ((Value.ref (a_ad base cs q) :: tl.map (a_cv base cs)).toArray)) o s₂ := hqx
      obtain ⟨rfl, hW2, ⟨L, hL, hsame⟩, hS2, hold⟩ := hq'
      rw [State.frames_setTop' _ X₁.here.top, X₁.tail] at hend
      obtain ⟨T', X', hW3, hsm, ht'⟩ := X₁.outOfThrown rfl hend hW2 hsame
      have hheap : s₂.heap = T'.heap := by rw [ht']; rfl
      have hsz : h'.1 - 1 < h'.1 := by rw [hmkx]; show h2x.1 + 1 - 1 < h2x.1 + 1; omega
      have hAx := hS2.2.2 (h'.1 - 1) hsz
      have ekx : h'.2.2.1 (h'.1 - 1) = (ci, 6) := by
        rw [hmkx]
        show a_kup h2x.2.2.1 h2x.1 (ci, 6) (h2x.1 + 1 - 1) = _
        rw [Nat.add_sub_cancel]
        exact if_pos rfl
      rw [a_E_obj (c := ci) (by rw [ekx]) (by omega)] at hAx
      obtain ⟨T9, hT9⟩ := a_xcl_at ci hci
      have hrx := va_recv hC.1 (a_P1 hAx) hT9 (q0 := 0) rfl
      obtain ⟨cellX, hcX, hoX, hclX⟩ := hrx
      have hcast : (Cond.castable (a_xcls ci) (a_xcls ci)).before args s = true := by
        refine va_Nw.use rfl (hC.2.2.2.2.2.2.2 _ ?_ rfl rfl)
        rcases hci with rfl | rfl <;> decide +kernel
      obtain ⟨vm', X'', hstep₂⟩ := a_caught X' (g := F0 m pc lsA (st.map (a_cv base cs))) rfl F.2.2.2.1 ht hx h0 (hts _ hxl) hcast (a := base + (h'.1 - 1)) (by rw [← hheap]; exact hcX) hoX hclX
      have M2 : a_M base cs D cA s my c0 ls h' (T'.setVm vm').heap (locs ++ L) (cells + (h'.2.1.1 - h.2.1.1)) (slots + (h'.2.1.2 - h.2.1.2)) lsA := by
        refine ⟨by show a_Sim base cs D cA h' T'.heap; rw [← hheap]; exact hS2, ⟨M.2.1.1, fun y hy => ?_⟩, fun y hy => ?_, M.2.2.2.1, ⟨by omega, by omega⟩, ?_⟩
        · show T'.heap[y]? = _
          rw [← hheap, hold y hy]
          show T.heap[y]? = _
          rw [hT]
          exact M.2.1.2 y hy
        · rcases List.mem_append.mp hy with h1 | h1
          · exact M.2.2.1 y h1
          · exact hL y h1
        · unfold a_Sx
          rw [hge.2.2.2.2.1, hge.2.2.2.2.2]
          exact M.2.2.2.2.2
      obtain ⟨t, a1, b1⟩ := k _ _ _ _ _ M2 (T'.setVm vm') rfl X''
      refine ⟨t, ?_, b1⟩
      have hlt : h'.1 - 1 < aSc := Nat.lt_of_lt_of_le hsz (Nat.le_of_lt hge.2.1)
      have ea2 : a_ad base cs (h'.1 - 1) = base + (h'.1 - 1) := a_ad_lt hlt
      refine hstep₁ _ fun acts => ?_
      rw [doInvoke_state]
      refine hsteps.trans ?_
      rw [ht']
      refine hstep₂ _ ?_
      have a2 : Steps p.tables e below ((T'.setVm vm').setTop (F0 m x.handlerPc lsA [.ref (a_ad base cs (h'.1 - 1))])) t := a1
      rw [ea2] at a2
      exact a2
    | _ => exact (Bool.false_ne_true hok2.2).elim
end AG8
end
section
/-! THE LAW'S FIVE HELPERS -/
def a_hd (y : Nat) : Nat × (Nat × Nat × Nat × Nat) × Nat := if y = 20 then (21, (0, 9, 12, 13), 12) else if y = 119 then (120, (0, 9, 12, 13), 12) else if y = 125 then (126, (0, 9, 12, 13), 12) else if y = 130 then (131, (0, 9, 12, 24), 13) else (134, (0, 10, 13, 24), 13)
def a_hcode (my : aMe) (hp : Nat) : Bool := (a_dkn my.2.1 hp (.astore_n 3) 1 && a_dkn my.2.1 (hp + 1) (.iconst 1) 1 && a_dkn my.2.1 (hp + 2) .ireturn 1 && decide (3 < my.2.2.1)) || (a_dkn my.2.1 hp (.astore 4) 2 && a_dkn my.2.1 (hp + 2) (.iconst 1) 1 && a_dkn my.2.1 (hp + 3) .ireturn 1 && decide (4 < my.2.2.1))
def a_hL (z e : Nat) : Nat → List (Option aI) → Bool
  | _, [] => true
  | pc, none :: l => a_hL z e (pc + 1) l
  | pc, some ai :: l => (match ai.1 with
    | .invokevirtual _ => decide (ai.2.1 = z ∧ pc < e ∧ ai.2.2.1 % 2 = 0)
    | .invokestatic _ => false
    | .invokespecial _ => false
    | _ => true) && a_hL z e (pc + 1) l
def a_hN (ci : Nat) (l : List (Option aI)) : Bool := l.all (fun o => match o with
  | some ai => (match ai.1 with
    | .new _ => decide (ai.2.2.1 = 0 ∨ ai.2.1 = ci)
    | _ => true)
  | none => true)
def a_hck (y : Nat) : Bool := match aMeL[y]?, aMs[y]?, aMs[(a_hd y).1]? with
  | some my, some l, some lz => decide (my.2.2.2.1 = some .int) && a_hL (a_hd y).1 (a_hd y).2.1.2.1 0 l && a_hcode my (a_hd y).2.1.2.2.1 && a_hN (a_hd y).2.2 lz && decide (my.1.cls = "TypedTermReaderLaw")
  | _, _, _ => false
def a_hys : List Nat := [20, 119, 125, 130, 133]
set_option maxRecDepth 100000 in
theorem a_hyA : (List.range 208).all (fun y => !a_ctch y || a_hys.contains y) = true := by decide +kernel
set_option maxRecDepth 100000 in
theorem a_hckA : a_hys.all a_hck = true := by decide +kernel
def a_cww (y : Nat) : Cond := match aMeL[y]? with
  | some m => .codeWith m.1 m.2.1 m.2.2.1 m.2.2.2.1 [(a_hd y).2.1]
  | none => .tt
set_option maxRecDepth 100000 in
theorem a_cwwA : ∀ y ∈ a_hys, a_cww y ∈ lw_tbl := by decide +kernel
theorem a_cwwG (y : Nat) : goodWord (a_cww y) = true := by unfold a_cww; split <;> rfl
set_option maxRecDepth 100000 in
theorem a_hxl1 : Cond.classLink "TypedTermReaderLaw" 13 "java/lang/IllegalArgumentException" ∈ lw_good := lw_good_in (by decide +kernel) rfl
set_option maxRecDepth 100000 in
theorem a_hxl2 : Cond.classLink "TypedTermReaderLaw" 24 "java/lang/IndexOutOfBoundsException" ∈ lw_good := lw_good_in (by decide +kernel) rfl
theorem a_hL_at {z e : Nat} : ∀ (l : List (Option aI)) (p0 k : Nat) (ai : aI), a_hL z e p0 l = true → l[k]? = some (some ai) → (match ai.1 with
    | .invokevirtual _ => decide (ai.2.1 = z ∧ p0 + k < e ∧ ai.2.2.1 % 2 = 0)
    | .invokestatic _ => false
    | .invokespecial _ => false
    | _ => true) = true
  | [], _, k, _, _, h => by simp at h
  | none :: l, p0, 0, _, _, h => by cases h
  | none :: l, p0, k + 1, ai, hc, h => by
    have := a_hL_at l (p0 + 1) k ai hc h
    rwa [show p0 + 1 + k = p0 + (k + 1) by omega] at this
  | some x :: l, p0, 0, ai, hc, h => by
    cases h
    unfold a_hL at hc
    rw [Bool.and_eq_true] at hc
    exact hc.1
  | some x :: l, p0, k + 1, ai, hc, h => by
    unfold a_hL at hc
    rw [Bool.and_eq_true] at hc
    have := a_hL_at l (p0 + 1) k ai hc.2 h
    rwa [show p0 + 1 + k = p0 + (k + 1) by omega] at this
/-- what a helper is -/
theorem a_helper {y : Nat} {my : aMe} (hm : aMeL[y]? = some my) (hc : my.2.2.2.2.2.2.2 = true) : my.2.2.2.1 = some .int ∧ my.1.cls = "TypedTermReaderLaw" ∧ a_hcode my (a_hd y).2.1.2.2.1 = true ∧ Cond.codeWith my.1 my.2.1 my.2.2.1 my.2.2.2.1 [(a_hd y).2.1] ∈ lw_good ∧
    (∀ (pc : Nat) (i : Instr) (z b j : Nat) (w : List Nat), aCode y pc = some (i, z, b, w) → (i = .invokevirtual j ∨ i = .invokestatic j ∨ i = .invokespecial j) → i = .invokevirtual j ∧ z = (a_hd y).1 ∧ pc < (a_hd y).2.1.2.1 ∧ b % 2 = 0) ∧ (∀ (pc j ci : Nat) (w : List Nat), aCode (a_hd y).1 pc = some (.new j, ci, 1, w) → ci = (a_hd y).2.2) ∧
    (a_hd y).2.1.1 = 0 ∧ Cond.classLink my.1.cls (a_hd y).2.1.2.2.2 (a_xcls (a_hd y).2.2) ∈ lw_good ∧ (a_hd y).2.1.2.2.2 ≠ 0 ∧ ((a_hd y).2.2 = 12 ∨ (a_hd y).2.2 = 13) := by
  have hl : aMeL.length = 208 := by decide +kernel
  have hy : y < 208 := by rw [← hl]; exact (List.getElem?_eq_some_iff.mp hm).1
  have hct : a_ctch y = true := by unfold a_ctch; rw [hm]; exact hc
  have h1 := List.all_eq_true.mp a_hyA y (List.mem_range.mpr hy)
  rw [hct] at h1
  have hin : y ∈ a_hys := by simpa using h1
  have h2 := List.all_eq_true.mp a_hckA y hin
  have h3 := a_cwwA y hin
  have h3' : Cond.codeWith my.1 my.2.1 my.2.2.1 my.2.2.2.1 [(a_hd y).2.1] ∈ lw_good := by
    have := lw_good_in h3 (a_cwwG y)
    unfold a_cww at this
    rw [hm] at this
    exact this
  unfold a_hck at h2
  rw [hm] at h2
  cases hl1 : aMs[y]? with
  | none => rw [hl1] at h2; cases h2
  | some l =>
  cases hl2 : aMs[(a_hd y).1]? with
  | none => rw [hl1, hl2] at h2; cases h2
  | some lz =>
  rw [hl1, hl2] at h2
  simp only [Bool.and_eq_true, decide_eq_true_eq] at h2
  obtain ⟨⟨⟨⟨k1, k2⟩, k3⟩, k4⟩, k5⟩ := h2
  refine ⟨k1, k5, k3, h3', fun pc i z b j w hai hi => ?_, fun pc j ci w hai => ?_, ?_⟩
  · unfold aCode at hai
    rw [hl1] at hai
    dsimp only at hai
    cases hp : l[pc]? with
    | none => rw [hp] at hai; cases hai
    | some o =>
      rw [hp] at hai
      dsimp only at hai
      subst hai
      have h4 := a_hL_at l 0 pc (i, z, b, w) k2 hp
      rcases hi with rfl | rfl | rfl
      · dsimp only at h4
        simp only [decide_eq_true_eq, Nat.zero_add] at h4
        exact ⟨rfl, h4⟩
      · cases h4
      · cases h4
  · unfold aCode at hai
    rw [hl2] at hai
    dsimp only at hai
    cases hp : lz[pc]? with
    | none => rw [hp] at hai; cases hai
    | some o =>
      rw [hp] at hai
      dsimp only at hai
      subst hai
      have h4 := List.all_eq_true.mp k4 _ (List.mem_of_getElem? hp)
      dsimp only at h4
      simp only [decide_eq_true_eq] at h4
      exact h4.resolve_left (by decide)
  · rw [k5]
    unfold a_hys at hin
    simp only [List.mem_cons, List.not_mem_nil, or_false] at hin
    rcases hin with rfl | rfl | rfl | rfl | rfl
    · exact ⟨rfl, a_hxl1, by decide, Or.inl rfl⟩
    · exact ⟨rfl, a_hxl1, by decide, Or.inl rfl⟩
    · exact ⟨rfl, a_hxl1, by decide, Or.inl rfl⟩
    · exact ⟨rfl, a_hxl2, by decide, Or.inr rfl⟩
    · exact ⟨rfl, a_hxl2, by decide, Or.inr rfl⟩
theorem a_tab1 {t : List ExceptionTableEntry} {q : Nat × Nat × Nat × Nat} (h : t.map (fun h => (h.startPc, h.endPc, h.handlerPc, h.catchType)) = [q]) : t = [⟨q.1, q.2.1, q.2.2.1, q.2.2.2⟩] := by
  cases t with
  | nil => cases h
  | cons x r =>
    cases r with
    | nil =>
      rw [List.map_cons, List.map_nil] at h
      cases h
      rfl
    | cons y r => rw [List.map_cons, List.map_cons] at h; cases h
set_option maxHeartbeats 1000000 in
theorem a_metH {n : Nat} {l : Launch} (hfl : l.stackTraces = false) (hR : ∀ k, k ≤ n → a_RunG l k) {d z : Nat} {as : List Value} {g h' : aH} {v : Option Value} {mz : aMe} (hz : aMeL[z]? = some mz) (hc : mz.2.2.2.2.2.2.2 = true) (hok : a_ok mz as g = true) (hrun : a_run n d z 0 (a_loc mz as) [] g = some (.inl v, h')) (hg : g.1 < aSc)
    (base : Nat) (cs : Nat → Nat) (D : va_G) (cA : Nat → ClassId) :
    Met l mz.1 (Cond.codeWith mz.1 mz.2.1 mz.2.2.1 mz.2.2.2.1 [(a_hd z).2.1] :: lw_good) (a_rm d (h'.2.1.1 - g.2.1.1) (h'.2.1.2 - g.2.1.2)) (a_Pc base cs D cA g as) (a_Qc base cs D cA v h') (h'.2.1.1 - g.2.1.1) (h'.2.1.2 - g.2.1.2) (fun q => base ≤ q) := by
  obtain ⟨e1, e2, e3, e4, e5, e6, e7, e8, e9, e10⟩ := a_helper hz hc
  have hge := a_ge_run _ _ _ _ _ _ _ _ hrun hg
  have hmk := (a_mz hz).1
  have hok2 := hok
  unfold a_ok at hok2
  simp only [Bool.and_eq_true, decide_eq_true_eq, List.all_eq_true] at hok2
  refine va_MetW (cc := mz.2.1) (maxL := mz.2.2.1) (ret := mz.2.2.2.1) (hh := [(a_hd z).2.1]) hmk rfl ?_
  intro p e s m args below meth c s₁ B hml hv
  obtain ⟨rfl, hS, hC⟩ := hv
  have hts := atoms_spec (ws := Cond.codeWith mz.1 mz.2.1 mz.2.2.1 mz.2.2.2.1 [(a_hd z).2.1] :: lw_good) B.pre
  have F : a_Fx mz p (a_rm d (h'.2.1.1 - g.2.1.1) (h'.2.1.2 - g.2.1.2)) s m ((as.map (a_cv base cs)).toArray) meth c d :=
    ⟨B.exec, B.bytes, hml, findClass_of_methodNamed B.named, fun w hw => hts w (List.mem_cons_of_mem _ hw), B.returns, B.notSynchronized, fun hi => by rw [(name_of_methodNamed B.named B.method).1]; exact hi, Nat.le_refl _, Nat.le_refl _, hC.2.1⟩
  rw [lg_entry_eq]
  have hb : base ≤ s.heap.size := by rw [hS.1]; exact Nat.le_add_right _ _
  have M0 : a_M base cs D cA s mz g.2.1 (a_loc mz as) g s.heap [] 0 0 ((lg_sl (as.map (a_cv base cs)) ++ List.replicate (mz.2.2.1 - (lg_sl (as.map (a_cv base cs))).length) Slot.unset).toArray) :=
    ⟨hS, ⟨hb, fun _ _ => rfl⟩, fun x hx => (by cases hx), a_ls_entry (fun v hv => hok2.1.2 v hv) hok2.1.1.2, ⟨rfl, rfl⟩, hC.2.2.2.1⟩
  have hc1 : h'.2.1.1 ≤ g.2.1.1 + (h'.2.1.1 - g.2.1.1) := by have := hge.2.2.1; omega
  have hc2 : h'.2.1.2 ≤ g.2.1.2 + (h'.2.1.2 - g.2.1.2) := by have := hge.2.2.2.1; omega
  have hE1 : ∀ (pc' : Nat) (ls' : List Value) (x : Int32), v = some (.int x) → decode mz.2.1 pc' = .ok (.ireturn, 1) → a_G base cs D cA mz g.2.1 p l e (a_rm d (h'.2.1.1 - g.2.1.1) (h'.2.1.2 - g.2.1.2)) s m ((as.map (a_cv base cs)).toArray) below meth c (MQ below (a_Qc base cs D cA v h') ((as.map (a_cv base cs)).toArray) s (h'.2.1.1 - g.2.1.1) (h'.2.1.2 - g.2.1.2) (fun q => base ≤ q)) pc' ls' [.int x] h' := by
    intro pc' ls' x hx hd H locs cells slots lsA M
    have e1' : cells = h'.2.1.1 - g.2.1.1 := by have := M.2.2.2.2.1.1; omega
    have e2' : slots = h'.2.1.2 - g.2.1.2 := by have := M.2.2.2.2.1.2; omega
    subst e1'
    subst e2'
    subst hx
    exact W.iret F.1 F.2.1 (by rw [F.2.2.2.2.2.1]; exact e1) (fun t ht _ => ⟨rfl, by rw [ht]; exact M.1, fun q hq => by rw [ht]; exact M.2.1.2 q hq⟩) M.2.2.1 hd F.2.2.2.2.2.2.1
  have hcw := hts _ List.mem_cons_self
  obtain ⟨m9, meth9, c9, n1, n2, n3, -, -, n4, -⟩ := Cond.codeWith_spec hcw
  cases B.named.symm.trans n1
  cases B.method.symm.trans n2
  cases (Stand.of_body B).code.symm.trans n3
  have htab := a_tab1 n4
  refine hR n (Nat.le_refl n) d z 0 (a_loc mz as) [] g (.inl v, h') mz hrun hz base cs D cA g.2.1 p e _ s m _ below meth c _ F hC hg hc1 hc2 (fun pc' ls' x hx hd _ => hE1 pc' ls' x (by cases hx; rfl) hd) (fun pc' ls' hx hd ht => by rw [e1] at ht; cases ht) ?_ (fun _ _ _ _ _ _ _ _ _ hr => by cases hr) s.heap [] 0 0 _ M0
  intro _ k pc' ls' st' h2 i j z2 b ci w hk hai hi hsz2 hC2 hb2 hsum hcall hr1 hd
  obtain ⟨rfl, rfl, hpc, hbe⟩ := e5 pc' i z2 b j w hai hi
  obtain ⟨d', rfl, ⟨mz2, hz2, hok3, hrun2⟩ | ⟨hzn, hj⟩⟩ := a_call_inv hcall
  · have hr1' : v = some (.int 1) := by cases hr1; rfl
    obtain ⟨my2, hmy2, hck⟩ := a_code_ok hai
    cases hz.symm.trans hmy2
    unfold a_ck1 at hck
    simp only [Bool.and_eq_true] at hck
    obtain ⟨⟨⟨hdk, hbr⟩, hfo⟩, hwo⟩ := hck
    have hP1 := a_allAI a_P1k a_P1kA hz hai
    unfold a_P1k at hP1
    unfold a_fok at hfo
    unfold a_need at hwo
    dsimp only at hP1 hfo hwo
    rw [hz2] at hfo hwo
    dsimp only at hfo hwo
    simp only [decide_eq_true_eq] at hP1 hfo
    have hcf : mz2.2.2.2.2.2.2.2 = false := by
      have hk := List.all_eq_true.mp a_catS _ (List.mem_of_getElem? hz2)
      rw [hfo.1] at hk
      cases hq : mz2.2.2.2.2.2.2.2 with
      | false => rfl
      | true => rw [hq] at hk; cases hk
    have A : a_CA mz mz2 j b (a_hd z).1 := ⟨hz2, hP1, hcf, a_ws_at hwo _ List.mem_cons_self, a_ws1 hwo (List.mem_cons_of_mem _ (List.mem_cons_of_mem _ (List.mem_cons_of_mem _ List.mem_cons_self))) rfl⟩
    obtain ⟨pcx, jx, wx, h2x, haix, -⟩ := a_run_thr _ _ _ _ _ _ _ _ _ mz2 hz2 hcf hrun2
    have hci := e6 pcx jx ci wx haix
    subst hci
    have hcov : covers (⟨(a_hd z).2.1.1, (a_hd z).2.1.2.1, (a_hd z).2.1.2.2.1, (a_hd z).2.1.2.2.2⟩ : ExceptionTableEntry) pc' = true := by
      simp only [covers, e7]
      simpa using hpc
    have hk2 := s_catch (st := st'.drop (b / 2)) (ls := ls') hfl (hR k (Nat.le_of_lt hk)) F hC2 A (by omega) hfo.1 (a_ws1 hwo (List.mem_cons_of_mem _ List.mem_cons_self) rfl) (a_ws1 hwo (List.mem_cons_of_mem _ (List.mem_cons_of_mem _ List.mem_cons_self)) rfl) hd hok3 hrun2 hsum hsz2 hc1 hc2 e10 htab hcov e9 e8 (Q := MQ below (a_Qc base cs D cA v h') ((as.map (a_cv base cs)).toArray) s (h'.2.1.1 - g.2.1.1) (h'.2.1.2 - g.2.1.2) (fun q => base ≤ q)) (c0 := g.2.1) (l := l) (below := below) (e := e) ?_
    · rw [a_take_drop] at hk2
      exact hk2
    · intro H locs cells slots lsA M
      have hlen : ls'.length = mz.2.2.1 := M.2.2.2.1.2.2.1
      have e3' := e3
      unfold a_hcode at e3'
      simp only [Bool.or_eq_true, Bool.and_eq_true, decide_eq_true_eq] at e3'
      rcases e3' with ⟨⟨⟨x1, x2⟩, x3⟩, x4⟩ | ⟨⟨⟨x1, x2⟩, x3⟩, x4⟩
      · refine s_astore_n (n := 3) F (a_dkn_ok x1) (pc' := (a_hd z).2.1.2.2.1 + 1) (ls' := ls'.set 3 (.ref (h'.1 - 1))) (st' := []) (h' := h') ?_ ?_ H locs cells slots lsA M
        · show (if 3 < ls'.length then _ else none) = _
          rw [if_pos (by omega)]
          rfl
        · refine s_iconst F (a_dkn_ok x2) ?_
          exact hE1 _ _ _ (by rw [hr1']; rfl) (a_dkn_ok x3)
      · refine s_astore (n := 4) F (a_dkn_ok x1) (pc' := (a_hd z).2.1.2.2.1 + 2) (ls' := ls'.set 4 (.ref (h'.1 - 1))) (st' := []) (h' := h') ?_ ?_ H locs cells slots lsA M
        · show (if 4 < ls'.length then _ else none) = _
          rw [if_pos (by omega)]
        · refine s_iconst F (a_dkn_ok x2) ?_
          exact hE1 _ _ _ (by rw [hr1']; rfl) (a_dkn_ok x3)
  · exfalso
    have : ∀ (as : List Value) (g : aH) (q : Nat) (h9 : aH), ¬ a_jdk (a_hd z).1 as g = some (.inr q, h9) := by
      intro as g q h9 hs
      unfold a_jdk at hs
      split at hs
      all_goals (repeat' (split at hs))
      all_goals (first | (cases hs; done) | (simp at hs; done))
    exact this _ _ _ _ hj
set_option maxRecDepth 100000 in
theorem a_noNest : lw_tbl.all (fun w => match w with
  | .methodLinkNest _ _ x _ => decide (x.cls ≠ "TypedTermReaderLaw")
  | _ => true) = true := by decide +kernel
theorem a_hs_ok {l : Launch} (hfl : l.stackTraces = false) : a_HS l := by
  intro n hR base cs D cA my c0 p e R s m args below meth c Q pc d ls as st h h' v i z b w mz F hC hck hd hz hcat hok hrun hsum hg hR1 hR2 k
  intro H locs cells slots lsA M
  obtain ⟨e1, e2, e3, e4, e5, e6, e7, e8, e9, e10⟩ := a_helper hz hcat
  have hge : a_ge h h' := a_ge_run _ _ _ _ _ _ _ _ hrun hg
  obtain ⟨m1, m2, m3, m4, m5⟩ := a_mz hz
  have hsta := List.all_eq_true.mp a_catS _ (List.mem_of_getElem? hz)
  rw [hcat] at hsta
  have hst : mz.2.2.2.2.1 = true := by simpa using hsta
  rw [if_pos hst] at m3
  have hok2 := hok
  unfold a_ok at hok2
  simp only [Bool.and_eq_true, decide_eq_true_eq, List.all_eq_true] at hok2
  have hMt := a_metH hfl hR hz hcat hok hrun hg base cs D cA
  have hF := F.2.2.2.2.2.2.2.2
  have hMM := M.2.2.2.2.1
  have hge1 := hge.2.2.1
  have hge2 := hge.2.2.2.1
  unfold a_ck1 at hck
  simp only [Bool.and_eq_true] at hck
  obtain ⟨⟨⟨hdk, hbr⟩, hfo⟩, hwo⟩ := hck
  unfold a_need at hwo
  dsimp only at hwo
  rw [hz] at hwo
  dsimp only at hwo
  have hts := F.2.2.2.2.1
  have hgood : GoodIn lw_good (Cond.codeWith mz.1 mz.2.1 mz.2.2.1 mz.2.2.2.1 [(a_hd z).2.1] :: lw_good) := by
    intro w hw
    rcases List.mem_cons.mp hw with rfl | hw
    · exact lw_good_ok _ e4
    · exact lw_good_ok _ hw
  have hwst : Cond.static mz.1 ∈ lw_good := a_ws1 hwo (List.mem_cons_of_mem _ List.mem_cons_self) rfl
  have hwin : Cond.initialized mz.1.cls ∈ lw_good := a_ws1 hwo (List.mem_cons_of_mem _ (List.mem_cons_of_mem _ List.mem_cons_self)) rfl
  obtain ⟨mk, methM, cM, hnamed, hmethM, -, -, -, -, -, -, hsigM⟩ := Cond.codeWith_spec (hts _ e4)
  have es : ((as.reverse ++ st).map (a_cv base cs)) = (as.map (a_cv base cs)).reverse ++ st.map (a_cv base cs) := by rw [List.map_append, List.map_reverse]
  rw [es]
  have hlen : (as.map (a_cv base cs)).length = mz.2.2.2.2.2.1 := by rw [List.length_map]; exact hok2.1.1.1
  have hsm : 2 * (F0 m pc lsA ((as.map (a_cv base cs)).reverse ++ st.map (a_cv base cs))).monitorRoom + ((st.map (a_cv base cs)).map fun v => v.category).sum ≤ 8 := lv_room (by rw [a_sum_cv]; exact hsum)
  have hlk : ¬ b % 2 = 1 := by
    intro hb
    have h1 := (a_ws_at hwo _ List.mem_cons_self).1
    unfold a_lnk at h1
    rw [if_pos hb] at h1
    have h2 := List.all_eq_true.mp a_noNest _ h1
    dsimp only at h2
    rw [e2] at h2
    exact absurd h2 (by decide)
  have hlink : Cond.methodLink my.1.cls i mz.1 ∈ lw_good := by
    have h1 := a_ws_at hwo _ List.mem_cons_self
    unfold a_lnk at h1
    rw [if_neg hlk] at h1
    refine lw_good_in h1.1 (h1.2.resolve_right (fun h => by cases h))
  have hK : Back l R p e below s args mz.1 3 8 (PreOf R (h'.2.1.1 - h.2.1.1) (h'.2.1.2 - h.2.1.2) (a_Pc base cs D cA h as)) (PostOf (a_Qc base cs D cA v h') (h'.2.1.1 - h.2.1.1) (h'.2.1.2 - h.2.1.2) (fun q => base ≤ q)) :=
    va_backW (bytes := mz.2.1) (maxL := mz.2.2.1) (ret := mz.2.2.2.1) (hh := [(a_hd z).2.1]) hMt (a_blind base cs D cA h as) rfl rfl (by show d + 16 + 1 ≤ _; omega) (by show 8 + (mz.2.2.1 + 11) + (d * 64 + 1000) ≤ _; omega) (pay_in hts hgood) List.mem_cons_self (fun a' U hU => pay_in hts lw_good_ok _ hwin a' U hU)
  refine a_cont (v := v) (a := (as.map (a_cv base cs)).toArray) (mc := h'.2.1.1 - h.2.1.1) (ms := h'.2.1.2 - h.2.1.2) ?_ M hge ⟨by omega, by omega⟩ k
  intro T hT X
  obtain ⟨v2, vm₁, ⟨U', l2, c2, s2⟩, hW₁, X', ⟨g', mk', t, L, f1, f2, hq, f3, hL, f4, f5⟩, come⟩ := X.staticBack F.1 F.2.2.2.1 (hts _ hlink) (hts _ hwst) (hts _ hwin) hnamed hmethM hsigM m2 hK (g := F0 m pc lsA ((as.map (a_cv base cs)).reverse ++ st.map (a_cv base cs))) rfl (by rw [F.2.2.1]; exact M.2.2.2.1.1) (Steps.refl _) (argsL := as.map (a_cv base cs)) (rest := st.map (a_cv base cs)) (fun sig hs => by rw [hlen]; rw [hs] at m3; exact (Option.some.inj m3).symm) rfl hsm (by rw [F.2.1]; exact hd)
    (fun vm₁ hW₁ => ⟨by show cells + _ ≤ _; omega, by show slots + _ ≤ _; omega, a_pcU hC M (T.setVm vm₁) hT hW₁⟩)
  dsimp only [Pt.U, Pt.locs, Pt.cells, Pt.slots] at X' f1 f2 f3 f4 f5 come
  subst f3; subst f4; subst f5
  exact ⟨v2, (T.setVm vm₁).calling g' mk' (as.map (a_cv base cs)).toArray, t, U', L, hT, X', hL, f1, f2, hq, fun target h => come.trans h⟩
end
section
/-! AT THE LAW'S ENTRY: the context out of the Statement's premises. The numbers are the premises' places in the Statement's own conjunction (wip/am/mk30.py) -/
def a_nf : List Cond := flatC (Jvm.Cond.and given_1 narrow_1)
def a_tm (i : Nat) : Term := match aSrf[i]? with
  | some q => .string q.1 q.2.1
  | none => .null
def a_sv (i : Nat) : Term := .field (a_tm i) "java/lang/String" "value" "[B"
theorem a_fm {L : List Cond} {f : Nat → Cond} {n : Nat} {ix : List Nat} (h : (List.range n).map f = ix.filterMap (fun i => L[i]?)) : ∀ i, i < n → f i ∈ L := by
  intro i hi
  have h1 : f i ∈ (List.range n).map f := List.mem_map.mpr ⟨i, List.mem_range.mpr hi, rfl⟩
  rw [h] at h1
  obtain ⟨k, -, hk⟩ := List.mem_filterMap.mp h1
  exact List.mem_of_getElem? hk
theorem a_fm2 {L : List Cond} {g : Nat → Nat} {f : Nat → Nat → Cond} {n : Nat} {ix : List Nat} (h : (List.range n).flatMap (fun i => (List.range (g i)).map (f i)) = ix.filterMap (fun i => L[i]?)) : ∀ i, i < n → ∀ j, j < g i → f i j ∈ L := by
  intro i hi j hj
  have h1 : f i j ∈ (List.range n).flatMap (fun i => (List.range (g i)).map (f i)) := List.mem_flatMap.mpr ⟨i, List.mem_range.mpr hi, List.mem_map.mpr ⟨j, List.mem_range.mpr hj, rfl⟩⟩
  rw [h] at h1
  obtain ⟨k, -, hk⟩ := List.mem_filterMap.mp h1
  exact List.mem_of_getElem? hk
set_option maxRecDepth 100000 in
theorem a_n1 : (List.range 22).map (fun i => Cond.exactly (a_tm i) "java/lang/String") = [155, 189, 211, 120, 96, 100, 244, 255, 267, 282, 299, 316, 371, 392, 414, 436, 459, 483, 508, 534, 334, 352].filterMap (fun i => a_nf[i]?) := by decide +kernel
set_option maxRecDepth 100000 in
theorem a_n2 : (List.range 22).map (fun i => Cond.eq (.field (a_tm i) "java/lang/String" "coder" "B") (.int 0)) = [156, 190, 212, 121, 97, 101, 245, 256, 268, 283, 300, 317, 372, 393, 415, 437, 460, 484, 509, 535, 335, 353].filterMap (fun i => a_nf[i]?) := by decide +kernel
set_option maxRecDepth 100000 in
theorem a_n3 : (List.range 22).map (fun i => Cond.arrayOf (a_sv i) .byte) = [157, 191, 213, 122, 98, 102, 246, 257, 269, 284, 301, 318, 373, 394, 416, 438, 461, 485, 510, 536, 336, 354].filterMap (fun i => a_nf[i]?) := by decide +kernel
set_option maxRecDepth 100000 in
theorem a_n4 : (List.range 22).map (fun i => Cond.eq (.length (a_sv i)) (.int (Int32.ofNat ((aStr.map List.length).getD i 0)))) = [158, 192, 214, 123, 99, 103, 247, 258, 270, 285, 302, 319, 374, 395, 417, 439, 462, 486, 511, 537, 337, 355].filterMap (fun i => a_nf[i]?) := by decide +kernel
set_option maxRecDepth 100000 in
theorem a_n5 : (List.range 22).flatMap (fun i => (List.range ((aStr.map List.length).getD i 0)).map (fun j => Cond.eq (.elem (a_sv i) (.int (Int32.ofNat j))) (.int (((aStr.map (fun l => l.map Int32.ofNat)).getD i []).getD j 0)))) = [159, 160, 161, 162, 163, 164, 165, 166, 167, 168, 169, 170, 171, 172, 173, 174, 175, 176, 177, 178, 179, 180, 181, 182, 183, 184, 185, 193, 194, 195, 196, 197, 198, 199, 200, 201, 202, 203, 204, 205, 206, 215, 216, 217, 218, 219, 220, 221, 222, 223, 224, 225, 226, 227, 228, 229, 230, 231, 232, 233, 234, 235, 236, 237, 238, 124, 125, 126, 127, 128, 129, 130, 131, 132, 133, 134, 135, 136, 137, 138, 139, 140, 141, 142, 143, 144, 145, 146, 147, 148, 149, 150, 151, 152, 104, 105, 106, 107, 108, 109, 110, 111, 112, 113, 114, 115, 116, 117, 118, 248, 259, 271, 272, 273, 286, 287, 288, 289, 303, 304, 305, 320, 321, 322, 375, 376, 377, 396, 397, 398, 418, 419, 440, 441, 463, 464, 487, 488, 512, 513, 538, 539, 338, 339, 356, 357].filterMap (fun i => a_nf[i]?) := by decide +kernel
def a_rk : List Nat := [3, 4, 5, 2, 0, 1, 6, 7, 8, 9, 10, 11, 14, 15, 16, 17, 18, 19, 20, 21, 12, 13]
def a_pw (i j : Nat) : Cond := if a_rk.getD j 0 < a_rk.getD i 0 then .not (.eq (a_tm j) (a_tm i)) else .not (.eq (a_tm i) (a_tm j))
set_option maxRecDepth 100000 in
theorem a_n6 : (List.range 22).flatMap (fun i => (List.range i).map (fun j => a_pw i j)) = [210, 242, 243, 188, 209, 241, 186, 207, 239, 153, 187, 208, 240, 154, 119, 252, 253, 254, 251, 249, 250, 263, 264, 265, 262, 260, 261, 266, 277, 278, 279, 276, 274, 275, 280, 281, 293, 294, 295, 292, 290, 291, 296, 297, 298, 309, 310, 311, 308, 306, 307, 312, 313, 314, 315, 326, 327, 328, 325, 323, 324, 329, 330, 331, 332, 333, 381, 382, 383, 380, 378, 379, 384, 385, 386, 387, 388, 389, 402, 403, 404, 401, 399, 400, 405, 406, 407, 408, 409, 410, 413, 423, 424, 425, 422, 420, 421, 426, 427, 428, 429, 430, 431, 434, 435, 445, 446, 447, 444, 442, 443, 448, 449, 450, 451, 452, 453, 456, 457, 458, 468, 469, 470, 467, 465, 466, 471, 472, 473, 474, 475, 476, 479, 480, 481, 482, 492, 493, 494, 491, 489, 490, 495, 496, 497, 498, 499, 500, 503, 504, 505, 506, 507, 517, 518, 519, 516, 514, 515, 520, 521, 522, 523, 524, 525, 528, 529, 530, 531, 532, 533, 543, 544, 545, 542, 540, 541, 546, 547, 548, 549, 550, 551, 554, 555, 556, 557, 558, 559, 560, 343, 344, 345, 342, 340, 341, 346, 347, 348, 349, 350, 351, 390, 411, 432, 454, 477, 501, 526, 552, 361, 362, 363, 360, 358, 359, 364, 365, 366, 367, 368, 369, 391, 412, 433, 455, 478, 502, 527, 553, 370].filterMap (fun i => a_nf[i]?) := by decide +kernel
theorem a_pw_or {i j : Nat} {args : Array Value} {s : State} (h : (a_pw i j).before args s = true) : (Cond.not (Cond.eq (a_tm i) (a_tm j))).before args s = true ∨ (Cond.not (Cond.eq (a_tm j) (a_tm i))).before args s = true := by
  unfold a_pw at h
  split at h
  · exact Or.inr h
  · exact Or.inl h
set_option maxRecDepth 100000 in
theorem a_n7 : (List.range 56).map (fun j => Cond.eq (.elem (.static "TypedTermReader" "CONSTANT_TYPES" "[I") (.int (Int32.ofNat j))) (.int (aTab.getD j 0))) = [12, 13, 14, 15, 16, 17, 18, 19, 20, 21, 22, 23, 24, 25, 26, 27, 28, 29, 30, 31, 32, 33, 34, 35, 36, 37, 38, 39, 40, 41, 42, 43, 44, 45, 46, 47, 48, 49, 50, 51, 52, 53, 54, 55, 56, 57, 58, 59, 60, 61, 62, 63, 64, 65, 66, 67].filterMap (fun i => a_nf[i]?) := by decide +kernel
theorem a_m0 : Cond.arrayOf (.static "TypedTermReader" "CONSTANT_TYPES" "[I") .int ∈ a_nf := List.mem_of_getElem? (i := 10) (by decide +kernel)
theorem a_m1 : Cond.eq (.length (.static "TypedTermReader" "CONSTANT_TYPES" "[I")) (.int (Int32.ofNat 56)) ∈ a_nf := List.mem_of_getElem? (i := 11) (by decide +kernel)
theorem a_m2 : Cond.eq (.static "java/lang/String" "COMPACT_STRINGS" "Z") (.int 1) ∈ a_nf := List.mem_of_getElem? (i := 4) (by decide +kernel)
theorem a_m3 : Cond.isRef (.static "jdk/internal/util/Preconditions" "SIOOBE_FORMATTER" "Ljava/util/function/BiFunction;") ∈ a_nf := List.mem_of_getElem? (i := 5) (by decide +kernel)
theorem a_m4 : Cond.isRef (.static "java/lang/Throwable" "UNASSIGNED_STACK" "[Ljava/lang/StackTraceElement;") ∈ a_nf := List.mem_of_getElem? (i := 68) (by decide +kernel)
theorem a_m5 : Cond.isRef (.static "java/lang/Throwable" "SUPPRESSED_SENTINEL" "Ljava/util/List;") ∈ a_nf := List.mem_of_getElem? (i := 69) (by decide +kernel)
def a_ins (c : Nat) : Cond := .instantiable (a_cn c).1 (if c < 12 then (a_cn c).2.2 else 6)
set_option maxRecDepth 100000 in
theorem a_insA : ∀ c, c < 14 → a_ins c ∈ lw_tbl := by decide +kernel
set_option maxRecDepth 100000 in
theorem a_srA : aSrf.all (fun q => decide (Cond.stringRef q.1 q.2.1 q.2.2 ∈ lw_tbl)) = true := by decide +kernel
def a_ls8 : List Cond := [.laysStatic "java/lang/String" "COMPACT_STRINGS" "Z", .laysStatic "jdk/internal/util/Preconditions" "SIOOBE_FORMATTER" "Ljava/util/function/BiFunction;", .laysStatic "TypedTermReader" "CONSTANT_TYPES" "[I", .laysStatic "java/lang/Throwable" "UNASSIGNED_STACK" "[Ljava/lang/StackTraceElement;", .laysStatic "java/lang/Throwable" "SUPPRESSED_SENTINEL" "Ljava/util/List;", .initialized "java/lang/String", .initialized "jdk/internal/util/Preconditions", .initialized "TypedTermReader", .initialized "java/lang/Throwable", .arrayClass .int, .arrayClass .byte, .arrayClass .long]
set_option maxRecDepth 100000 in
theorem a_ls8A : ∀ w ∈ a_ls8, w ∈ lw_tbl := by decide +kernel
theorem a_LSt.of {args : Array Value} {s : State} {C n d : String} (h1 : (Cond.laysStatic C n d).before args s = true) (h2 : (Cond.isRef (.static C n d)).before args s = true) : a_LSt s.heap.size C n d s := by
  obtain ⟨c, k, i, f, a, cell, hc, hi, hst, ha, hcell, hs, hcls, hlt, hty⟩ := Cond.laysStatic_spec h1
  obtain ⟨v, hv, hvr⟩ := Cond.isRef_spec h2
  obtain ⟨hst', a', cell', ha', hcell', -, hslot⟩ := Term.static_spec hi hv
  cases ha.symm.trans ha'
  cases hcell.symm.trans hcell'
  refine ⟨c, k, i, f, a, cell, hc, hi, hst, ha, hcell, hs, hcls, hlt, hty, (Array.getElem?_eq_some_iff.mp hcell).1, v, hslot, ?_⟩
  cases v with
  | null => exact Or.inl rfl
  | ref t => exact Or.inr ⟨t, rfl⟩
  | _ => cases hvr
set_option maxRecDepth 100000 in
theorem a_onT : lw_tbl.all (fun w => !a_isN w || w.onTables) = true := by decide +kernel
def a_h0 (L : Nat) (xs : Nat → Int32) : aH := (0, (0, 0), (fun k => if k = aSc then (1000, L) else (0, 0)), (fun k => if k = aSc then xs else fun _ => 0), (fun _ _ => 0), (fun _ _ => none))
theorem a_h0_ctx {s : State} {b L : Nat} {xs : Nat → Int32} (hts : ∀ w ∈ lw_tbl, w.before #[Value.ref b] s = true) (hX : va_X b L xs s s.heap) (hb : b < s.heap.size) (hgv : (Jvm.Cond.and given_1 narrow_1).before #[Value.ref b] s = true) :
    ∃ (cs : Nat → Nat) (D : va_G) (cA : Nat → ClassId), a_Cx s.heap.size cs D cA (a_h0 L xs) s ∧ cs 0 = b := by
  have hn : ∀ w ∈ a_nf, w.before #[Value.ref b] s = true := flat_of_before _ hgv
  have hA : ∀ a : Nat, a < s.heap.size → ¬ (fun q => s.heap.size ≤ q) a := fun a ha h => absurd ha (Nat.not_lt.mpr h)
  have w8 : ∀ w ∈ a_ls8, w.before #[Value.ref b] s = true := fun w hw => hts w (a_ls8A w hw)
  have hgood : ∀ w ∈ lw_good, w.before #[Value.ref b] s = true := fun w hw => hts w (lw_good_tbl hw)
  -- classes
  have hc0 : ∀ c : Nat, ∃ q : ClassId × (Nat → Nat), ∀ r : vw_C, aCl[c]? = some r → u_Kn s r.1 r.2.1 r.2.2 q.1 q.2 := by
    intro c
    by_cases h12 : c < 12
    · obtain ⟨cC, iS, h⟩ := u_known (n := (a_cn c).2.2) hgood (a_cl_in h12) (by have := hts _ (a_insA c (by omega)); unfold a_ins at this; rw [if_pos h12] at this; exact this)
      refine ⟨(cC, iS), fun r hr => ?_⟩
      rw [a_cl_at c h12] at hr
      cases hr
      exact h
    · by_cases h14 : c < 14
      · have hci : c = 12 ∨ c = 13 := by omega
        obtain ⟨T, hT⟩ := a_xcl_at c hci
        obtain ⟨cC, iS, h⟩ := u_known (T := T) (N := 0) (n := 6) (C := a_xcls c) hgood (fun w hw => by cases hw) (hts _ (lw_good_tbl (a_xw c hci).2.1))
        refine ⟨(cC, iS), fun r hr => ?_⟩
        rw [hT] at hr
        cases hr
        exact h
      · refine ⟨(0, fun _ => 0), fun r hr => ?_⟩
        have : aCl.length = 14 := rfl
        rw [List.getElem?_eq_none (by omega)] at hr
        cases hr
  obtain ⟨dq, hdq⟩ := Classical.axiomOfChoice hc0
  -- arrays
  obtain ⟨ci, ki, coi, i1, i2, i3⟩ := Cond.arrayClass_spec (w8 (.arrayClass .int) (by simp [a_ls8]))
  obtain ⟨cb, kb, cob, b1, b2, b3⟩ := Cond.arrayClass_spec (w8 (.arrayClass .byte) (by simp [a_ls8]))
  obtain ⟨cl, kl, col, l1, l2, l3⟩ := Cond.arrayClass_spec (w8 (.arrayClass .long) (by simp [a_ls8]))
  -- the table
  obtain ⟨aT, hT1, hT2⟩ := va_Tof (args := #[Value.ref b]) (s := s) (tm := .static "TypedTermReader" "CONSTANT_TYPES" "[I") (ty := .int) (N := 56) (f := fun j => .int (aTab.getD j 0)) (A := fun q => s.heap.size ≤ q) (by decide) (hn _ a_m0) (va_eqt (hn _ a_m1)) (fun j hj => va_eqt (hn _ (a_fm a_n7 j hj))) hA
  have hZT := va_Zof (A := fun q => s.heap.size ≤ q) (w8 (.laysStatic "TypedTermReader" "CONSTANT_TYPES" "[I") (by simp [a_ls8])) (w8 (.initialized "TypedTermReader") (by simp [a_ls8])) hT1 hA
  -- texts
  have hlen : ∀ i : Nat, i < 22 → (aStr.map List.length).getD i 0 < 2 ^ 31 := by decide +kernel
  obtain ⟨adK, adV, hS, hK⟩ := vk_Sof (args := #[Value.ref b]) (s := s) (N := 22) (tm := a_tm) (len := aStr.map List.length) (byt := (aStr.map (fun (l : List Nat) => l.map Int32.ofNat) : List (List Int32))) (A := fun q => s.heap.size ≤ q) hlen (fun i hi => hn _ (a_fm a_n1 i hi)) (fun i hi => hn _ (a_fm a_n2 i hi)) (fun i hi => hn _ (a_fm a_n3 i hi)) (fun i hi => hn _ (a_fm a_n4 i hi)) (fun i hi j hj => hn _ (a_fm2 a_n5 i hi j hj))
    (fun i j hi hj hij => by
      rcases Nat.lt_or_gt_of_ne hij with h | h
      · exact (a_pw_or (hn _ (a_fm2 a_n6 j hj i h))).symm
      · exact a_pw_or (hn _ (a_fm2 a_n6 i hi j h))) hA
  refine ⟨fun n => if n = 0 then b else if n = 1 then aT else adK (n - 2), (fun c => (dq c).1, fun c => (dq c).2), fun n => if n = 1000 then ci else if n = 1001 then cb else cl, ⟨⟨fun c q hq => hdq c q hq, ?_⟩, ?_, ⟨hT2, hZT⟩, ?_, ⟨adV, hS, ?_, ?_, ?_⟩, ?_, ?_, ?_⟩, rfl⟩
  · intro k q hk
    match k, hk with
    | 0, hk =>
      cases hk
      exact ⟨fun n z => ⟨(fun k h => by cases h), ki, i2, coi, i3⟩, i1⟩
    | 1, hk =>
      cases hk
      exact ⟨fun n z => ⟨(fun k h => by cases h), kb, b2, cob, b3⟩, b1⟩
    | 2, hk =>
      cases hk
      exact ⟨fun n z => ⟨(fun k h => by cases h), kl, l2, col, l3⟩, l1⟩
    | k + 3, hk => cases hk
  · intro w hw hN
    have h1 := List.all_eq_true.mp a_onT w hw
    rw [hN] at h1
    exact va_Nw.of (by simpa using h1) (hts w hw)
  · intro _
    exact ⟨hX, hb⟩
  · intro i q hi
    have hi22 : i < 22 := by
      have : aSrf.length = 22 := rfl
      rw [← this]; exact (List.getElem?_eq_some_iff.mp hi).1
    have h1 := List.all_eq_true.mp a_srA q (List.mem_of_getElem? hi)
    simp only [decide_eq_true_eq] at h1
    have h2 := hK i hi22
    unfold a_tm at h2
    rw [hi] at h2
    exact vk_R.of (hts _ h1) h2
  · exact va_Zof (w8 (.laysStatic "java/lang/String" "COMPACT_STRINGS" "Z") (by simp [a_ls8])) (w8 (.initialized "java/lang/String") (by simp [a_ls8])) (va_eqi (hn _ a_m2)) hA
  · exact va_Zqof (w8 (.laysStatic "jdk/internal/util/Preconditions" "SIOOBE_FORMATTER" "Ljava/util/function/BiFunction;") (by simp [a_ls8])) (w8 (.initialized "jdk/internal/util/Preconditions") (by simp [a_ls8])) (hn _ a_m3) hA
  · exact a_LSt.of (w8 (.laysStatic "java/lang/Throwable" "UNASSIGNED_STACK" "[Ljava/lang/StackTraceElement;") (by simp [a_ls8])) (hn _ a_m4)
  · exact a_LSt.of (w8 (.laysStatic "java/lang/Throwable" "SUPPRESSED_SENTINEL" "Ljava/util/List;") (by simp [a_ls8])) (hn _ a_m5)
  · intro w hw _ ht
    exact va_Nw.of ht (hts w hw)
end
section
/-! THE CLAIM OUT OF ONE WALK OF THE LAW'S BODY. Your part is whole_start (and what it stands on); all else here is the same for every law, but numbers. -/
def R_law : String := "TypedTermReaderLaw"
def lw_P (b : Addr) (xs : List Int32) (args : Array Value) (s : State) : Prop := args = #[.ref b] ∧ s.IntsAt b xs ∧ xs.length ≤ 6 ∧ (Jvm.Cond.and given_1 narrow_1).before args s = true
def lw_Q (_ : Array Value) (s : State) (o : Outcome) (t : State) : Prop := o = .returned (some (.int 1)) ∧ Framed s o t [] 600002 7302232
def lw_Z (below : List Frame) (a : Array Value) (s : State) : State → Prop := fun t => ∃ o, t.status = .running ∧ Ended t below o ∧ lw_Q a s o t
/-- the law's own end, with 1 on the stack, nothing written that was there before, its room as the claim has it -/
theorem lw_ret {p : Program} {l : Launch} {e : Env} {s : State} {m : MethodId} {below : List Frame} {meth : Method} {c : Code} {b : Nat} (hx : p.tables.exec = Jvm.exec) (hb : c.code = code) (hr : meth.sig.returnType = ret) (hlocks : meth.locks = false) {pc : Nat} {H : Heap} {ls : Array Slot} (hdg : decode code pc = .ok (.ireturn, 1)) : W p l e room_1 s m #[Value.ref b] below meth c H [] 600002 7302232 (lw_Z below #[Value.ref b] s) (F0 m pc ls [.int 1]) := by
  intro T hT X
  obtain ⟨fs, hret, hrun, hended, hW, hframe⟩ := X.leave (v := some (.int 1)) (hlocks := hlocks) (fun h => by rw [hr] at h; cases h)
  have hmeth' : T.vm.method? m = some meth := X.method'
  refine ⟨T.setFrames fs, ?_, .returned (some (.int 1)), hrun, hended, rfl, ⟨_, rfl⟩, hW, hframe⟩
  jvm_step X.here [X.here.top, hx, hb, hdg, hmeth', hr, ret, narrow_b1]
  (try refine ⟨rfl, ?_⟩); (try refine ⟨rfl, ?_⟩)
  first | (intro acts; rw [hret _ acts rfl rfl rfl]) | rw [hret _ _ rfl rfl rfl]
  exact Steps.refl _
/-- what holds at the law's entry: the machine, the code, the tables' words (any of lw_tbl by 'hts w (by decide +kernel)'), the script of L ints xs at the cell b, what the Statement gives of the start (any of its parts by flat_of_before) -/
def lw_At (p : Program) (s : State) (m : MethodId) (meth : Method) (c : Code) (b L : Nat) (xs : Nat → Int32) : Prop :=
  p.tables.exec = Jvm.exec ∧ c.code = code ∧ meth.sig.returnType = ret ∧ c.maxLocals = 7 ∧ s.vm.findClass R_law = some m.cls ∧ (∀ w ∈ lw_tbl, w.before #[Value.ref b] s = true) ∧ va_X b L xs s s.heap ∧ b < s.heap.size ∧ meth.locks = false ∧ (Jvm.Cond.and given_1 narrow_1).before #[Value.ref b] s = true
/-- WHAT IS LEFT, PURE: for every script the abstract run of the law answers 1, within the room -/
def a_Pure : Prop := ∀ (L : Nat) (xs : Nat → Int32), L ≤ 6 → ∃ (N : Nat) (hf : aH), a_run N 1000 0 0 (.ref aSc :: List.replicate 6 (.retAddr 0)) [] (a_h0 L xs) = some (.inl (some (.int 1)), hf) ∧ hf.2.1.1 ≤ 600002 ∧ hf.2.1.2 ≤ 7302232
theorem whole_start (hP : a_Pure) {p : Program} {e : Env} {s : State} {m : MethodId} {below : List Frame} {meth : Method} {c : Code} (l : Launch) (hfl : l.stackTraces = false) {b L : Nat} {xs : Nat → Int32} (hL : L ≤ 6) (C0 : lw_At p s m meth c b L xs) : W p l e room_1 s m #[Value.ref b] below meth c s.heap [] 0 0 (lw_Z below #[Value.ref b] s) (entryFrame m ([Value.ref b] : List Value).toArray 7) := by
  obtain ⟨hexec, hcode, hret, hml, hown, hts, hX, hb, hlocks, hgv⟩ := C0
  obtain ⟨cs, D, cA, hC, hcs⟩ := a_h0_ctx hts hX hb hgv
  obtain ⟨N, hf, hrun, hr1, hr2⟩ := hP L xs hL
  have hm0 : aMeL[0]? = some (x, code, 7, ret, true, 1, 0, false) := rfl
  have F : a_Fx (x, code, 7, ret, true, 1, 0, false) p room_1 s m #[Value.ref b] meth c 1000 :=
    ⟨hexec, hcode, hml, hown, fun w hw => hts w (lw_good_tbl hw), hret, hlocks, fun h => absurd h (by decide), by decide, by decide, hC.2.1⟩
  have hsnd := a_snd a_js_ok (a_hs_ok hfl) a_ls_ok N N (Nat.le_refl N)
  have ead : a_ad s.heap.size cs aSc = b := by
    unfold a_ad
    rw [if_neg (Nat.lt_irrefl _), Nat.sub_self, hcs]
  have hsl := a_ls_entry (base := s.heap.size) (cs := cs) (mz := (x, code, 7, ret, true, 1, 0, false)) (as := [.ref aSc]) (fun v hv => by rw [List.mem_singleton.mp hv]; rfl) (by decide)
  have eas : ([Value.ref aSc].map (a_cv s.heap.size cs)) = [Value.ref b] := by
    show [Value.ref (a_ad s.heap.size cs aSc)] = _
    rw [ead]
  rw [eas] at hsl
  rw [lg_entry_eq]
  have M0 : a_M s.heap.size cs D cA s (x, code, 7, ret, true, 1, 0, false) (0, 0) (.ref aSc :: List.replicate 6 (.retAddr 0)) (a_h0 L xs) s.heap [] 0 0 ((lg_sl [Value.ref b] ++ List.replicate (7 - (lg_sl [Value.ref b]).length) Slot.unset).toArray) :=
    ⟨⟨rfl, by show 0 < aSc; decide, fun k hk => absurd hk (Nat.not_lt_zero k)⟩, ⟨Nat.le_refl _, fun _ _ => rfl⟩, fun x hx => (by cases hx), hsl, ⟨rfl, rfl⟩, hC.2.2.2.1⟩
  refine hsnd 1000 0 0 (.ref aSc :: List.replicate 6 (.retAddr 0)) [] (a_h0 L xs) _ _ hrun hm0 s.heap.size cs D cA (0, 0) p e room_1 s m #[Value.ref b] below meth c (lw_Z below #[Value.ref b] s) F hC (by show 0 < aSc; decide) (by show hf.2.1.1 ≤ 0 + 600002; omega) (by show hf.2.1.2 ≤ 0 + 7302232; omega) ?_ (fun _ _ hx => by cases hx) (fun hx => by cases hx) (fun _ _ _ _ _ _ _ _ _ hr => by cases hr) s.heap [] 0 0 _ M0
  intro pc' ls' x1 hx1 hd _ H locs cells slots lsA M T hT X
  cases hx1
  have hM : (0 : Nat) + cells = hf.2.1.1 ∧ (0 : Nat) + slots = hf.2.1.2 := M.2.2.2.2.1
  have X' : Stand p l e room_1 s m #[Value.ref b] below meth c T [] 600002 7302232 := ⟨X.admits, X.cas, X.clock, X.frames, X.room, X.hears, X.method, X.code, X.here, X.tail, X.warmed, X.limits, X.bytes, X.same.weaken (fun q hq hlt => absurd hlt (Nat.not_lt.mpr (M.2.2.1 q hq))) (by have := hM.1; omega) (by have := hM.2; omega)⟩
  exact lw_ret hexec hcode hret hlocks hd T hT X'
set_option maxHeartbeats 4000000 in
theorem lw_walk (hPu : a_Pure) (l : Launch) (hfl : l.stackTraces = false) (b : Addr) (xs : List Int32) : MetFree l x (headSpec (Jvm.Cond.code x code maxLocals ret :: tables_1) room_1) (lw_P b xs) (fun _ _ _ _ _ => True) lw_Q := by
  refine MetFree.of_bodyS (code := code) (maxLocals := maxLocals) (ret := ret) (by decide) ?_ ?_
  · intro args s m h hn
    obtain ⟨meth, c, h1, h2, h3, h4, h5, h6, -, -⟩ := Cond.code_spec hn (atoms_spec (ws := Jvm.Cond.code x code maxLocals ret :: tables_1) h _ List.mem_cons_self)
    exact ⟨meth, c, h1, h2, h3, h4, h5, h6⟩
  · intro p e s m args below meth c s₁ B hml0 hP _
    obtain ⟨rfl, hx, hbd, hgv⟩ := hP
    obtain ⟨scr, harrAt, hlist, hof, hsmall⟩ := hx
    obtain ⟨hcb, hkn, -, -⟩ := State.arrayAt?_spec harrAt
    have hown : s.vm.findClass R_law = some m.cls := findClass_of_methodNamed B.named
    have hts0 : ∀ c ∈ (Jvm.Cond.code x code maxLocals ret :: tables_1), c.before #[Value.ref b] s = true := atoms_spec (ws := Jvm.Cond.code x code maxLocals ret :: tables_1) B.pre
    have hts : ∀ w ∈ lw_tbl, w.before #[Value.ref b] s = true := k2_hts_sels lw_privs (fun w hw => hts0 w (List.mem_cons_of_mem _ hw)) lw_privs_ok
    have hml : c.maxLocals = 7 := B.maxLocals_eq (hts0 _ List.mem_cons_self)
    have X₀ : Stand p l e room_1 s m #[Value.ref b] below meth c s₁ [] 0 0 := Stand.of_body B
    have hh0 : s₁.heap = s.heap := by rw [B.state]; rfl
    have hsz : scr.slots.size = xs.length := by rw [← Array.length_toList, hlist, List.length_map]
    have hval : ∀ j : Nat, j < xs.length → scr.slots[j]? = some (.int (xs.getD j 0)) := fun j hj => by
      rw [← Array.getElem?_toList, hlist]
      simp [hj]
    have hbl : b < s.heap.size := (Array.getElem?_eq_some_iff.mp hcb).1
    have hX : va_X b xs.length (fun j => xs.getD j 0) s s.heap := ⟨scr, hcb, hof, hkn, hsz, hval⟩
    have K : W p l e room_1 s m #[Value.ref b] below meth c s₁.heap [] 0 0 (lw_Z below #[Value.ref b] s) (entryFrame m ([Value.ref b] : List Value).toArray 7) := by
      rw [hh0]
      exact whole_start hPu l hfl hbd ⟨B.exec, B.bytes, B.returns, hml, hown, hts, hX, hbl, B.notSynchronized, hgv⟩
    obtain ⟨t, a1, o, b1, b2, b3⟩ := K s₁ rfl X₀
    exact ⟨t, o, a1, b1, b2, b3⟩
theorem lw_pre_spec {args : Array Value} {s : State} (h : (Jvm.Cond.and given_1 narrow_1).before args s = true) (hr : rest_1_c.before args s = true) : ∃ (b : Addr) (xs : List Int32), lw_P b xs args s := by
  have hs := flat_of_before _ h
  have hq := flat_of_before _ hr
  have hc : (Cond.count 1).before args s = true := hs _ (by decide +kernel)
  have harr : (Cond.arrayOf (.arg 0) .int).before args s = true := hs _ (by decide +kernel)
  have hle : (Cond.le (.length (.arg 0)) (.int 6)).before args s = true := hs _ (by decide +kernel)
  have hlen : (Cond.isInt (.length (.arg 0))).before args s = true := hq _ (by decide +kernel)
  have hall : (Cond.all (.arg 0) (.isInt (.elem (.arg 0) (.index 0)))).before args s = true := hq _ (by decide +kernel)
  obtain ⟨b, xs, hb, hx⟩ := State.ints_of_pre rfl harr hlen hall
  have hsm : xs.length < 2 ^ 31 := hx.choose_spec.2.2.2
  have hev : (Term.length (.arg 0)).eval args s none [] s = some (.int xs.length.toInt32) := hx.length_eval hb
  have hv := Cond.le_ints hev (show (Term.int 6).eval args s none [] s = some (.int 6) from rfl)
  have hd : xs.length.toInt32 ≤ 6 := by
    simpa [Cond.before, Cond.holds, hv] using hle
  have hN : xs.length ≤ 6 := (Int32.ofNat_le_ofNat hsm (by decide)).mp (show Int32.ofNat xs.length ≤ Int32.ofNat 6 from hd)
  exact ⟨b, xs, Cond.one_arg hc (show args[0]? = some (.ref b) from hb), hx, hN, h⟩
theorem lw_comes (hPu : a_Pure) (l : Launch) (hfl : l.stackTraces = false) : Comes l x (Jvm.Cond.code x code maxLocals ret :: tables_1) room_1 (fun tb e args s => Calls_1 tb e args s ∧ rest_1 tb e args s ∧ Pre_1 tb e args s)
    (fun _ _ args s o t => lw_Q args s o t) := by
  intro p e ha hc hk s m args below hf hfit hheap happ hpre
  obtain ⟨b, xs, hP⟩ := lw_pre_spec hpre.2.2 hpre.2.1
  obtain ⟨k, o, h1, h2, h3, hQ⟩ := lw_walk hPu l hfl b xs p e ha hc hk s m args below hf ((Spec.applies_iff_loose hf).mp happ).1 hP trivial
  exact ⟨k, o, h1, h2, h3, hQ⟩
theorem lw_frame {s t : State} {o : Outcome} {args : Array Value} (h : Framed s o t [] 600002 7302232) :
    Framed s o t (fieldLocs frame_1_writes args s ++ arrayLocs frame_1_arrays args s ++ staticLocs frame_1_statics s) 600002 7302232 := h
theorem lw_limb (hPu : a_Pure) (L : Cond) (hL : ∀ (args : Array Value) (s t : State), L.after args s (.returned (some (.int 1))) t = true) :
    ArmFor flags0 classFile x code maxLocals ret World_1 tables_1 room_1 Calls_1 rest_1 Pre_1
      (fun tb e a s o t => postC L tb e a s o t ∧ Framed s o t (fieldLocs frame_1_writes a s ++ arrayLocs frame_1_arrays a s ++ staticLocs frame_1_statics s) 600002 7302232) := by
  intro l hlf _ _ p e ha hc hk s m args below hf hfit hheap happ hpre
  have hfl : l.stackTraces = false := by
    unfold Launch.stackTraces
    rw [hlf]
    unfold flags0
    simp
  obtain ⟨k, o, h1, h2, h3, rfl, hF⟩ := lw_comes hPu l hfl p e ha hc hk s m args below hf hfit hheap happ hpre
  exact ⟨k, _, h1, h2, h3, hL args s _, lw_frame hF⟩
theorem a_ivc (hPu : a_Pure) : Claimed_1_1 ∧ Claimed_1_2 := ⟨lw_limb hPu limb_1_1 (fun args s t => by simp [limb_1_1, Cond.after, Cond.holds, Cond.value]), lw_limb hPu limb_1_2 (fun args s t => Cond.after_iff.mpr (by
  first | (rw [show limb_1_2 = Cond.eq .result (.int 1) from rfl, Cond.eq_ints (x := 1) (y := 1) rfl rfl]; simp; done) | (simp [limb_1_2, Cond.value, Term.eval]; done)))⟩
end
