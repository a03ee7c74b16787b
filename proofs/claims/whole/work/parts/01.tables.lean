-- ===== PART A: goes FIRST, ahead of the names: the tables' words, and 'selects' of the private methods out of them =====
/-- a private method of a class that the tables say can be made, by its rows of tables_1 -/
def lw_okq (q : MethodName × Nat) : Prop := (q.1.cls ≠ "java/lang/invoke/MethodHandle" ∧ q.1.cls ≠ "java/lang/invoke/VarHandle") ∧ Cond.instantiable q.1.cls q.2 ∈ tables_1 ∧ Cond.privateMethod q.1 ∈ tables_1 ∧ Cond.instanceMethod q.1 ∈ tables_1
theorem lw_p0 : lw_okq (⟨"EndlessRows", "refuse", "(I)I"⟩, 16) := ⟨⟨by decide +kernel, by decide +kernel⟩, List.mem_of_getElem? (i := 23) (by decide +kernel), List.mem_of_getElem? (i := 473) (by decide +kernel), List.mem_of_getElem? (i := 474) (by decide +kernel)⟩
theorem lw_p1 : lw_okq (⟨"EndlessRows", "done", "(I)I"⟩, 16) := ⟨⟨by decide +kernel, by decide +kernel⟩, List.mem_of_getElem? (i := 23) (by decide +kernel), List.mem_of_getElem? (i := 477) (by decide +kernel), List.mem_of_getElem? (i := 478) (by decide +kernel)⟩
theorem lw_p2 : lw_okq (⟨"EndlessRows", "otherSort", "(II)Z"⟩, 16) := ⟨⟨by decide +kernel, by decide +kernel⟩, List.mem_of_getElem? (i := 23) (by decide +kernel), List.mem_of_getElem? (i := 496) (by decide +kernel), List.mem_of_getElem? (i := 497) (by decide +kernel)⟩
theorem lw_p3 : lw_okq (⟨"EndlessRows", "tooShort", "(II)Z"⟩, 16) := ⟨⟨by decide +kernel, by decide +kernel⟩, List.mem_of_getElem? (i := 23) (by decide +kernel), List.mem_of_getElem? (i := 500) (by decide +kernel), List.mem_of_getElem? (i := 501) (by decide +kernel)⟩
theorem lw_p4 : lw_okq (⟨"EndlessRows", "numbers", "(I)[I"⟩, 16) := ⟨⟨by decide +kernel, by decide +kernel⟩, List.mem_of_getElem? (i := 23) (by decide +kernel), List.mem_of_getElem? (i := 504) (by decide +kernel), List.mem_of_getElem? (i := 505) (by decide +kernel)⟩
theorem lw_p5 : lw_okq (⟨"EndlessRows$Loom", "splitByMarks", "()I"⟩, 10) := ⟨⟨by decide +kernel, by decide +kernel⟩, List.mem_of_getElem? (i := 217) (by decide +kernel), List.mem_of_getElem? (i := 556) (by decide +kernel), List.mem_of_getElem? (i := 557) (by decide +kernel)⟩
theorem lw_p6 : lw_okq (⟨"EndlessRows$Loom", "splitByLinks", "(II)I"⟩, 10) := ⟨⟨by decide +kernel, by decide +kernel⟩, List.mem_of_getElem? (i := 217) (by decide +kernel), List.mem_of_getElem? (i := 561) (by decide +kernel), List.mem_of_getElem? (i := 562) (by decide +kernel)⟩
theorem lw_p7 : lw_okq (⟨"EndlessRows$Loom", "linkOf", "(II)I"⟩, 10) := ⟨⟨by decide +kernel, by decide +kernel⟩, List.mem_of_getElem? (i := 217) (by decide +kernel), List.mem_of_getElem? (i := 565) (by decide +kernel), List.mem_of_getElem? (i := 566) (by decide +kernel)⟩
theorem lw_p8 : lw_okq (⟨"EndlessRows$Loom", "number", "(LEndlessRows$Least;I)V"⟩, 10) := ⟨⟨by decide +kernel, by decide +kernel⟩, List.mem_of_getElem? (i := 217) (by decide +kernel), List.mem_of_getElem? (i := 572) (by decide +kernel), List.mem_of_getElem? (i := 573) (by decide +kernel)⟩
theorem lw_p9 : lw_okq (⟨"EndlessRows", "made", "(II)I"⟩, 16) := ⟨⟨by decide +kernel, by decide +kernel⟩, List.mem_of_getElem? (i := 23) (by decide +kernel), List.mem_of_getElem? (i := 589) (by decide +kernel), List.mem_of_getElem? (i := 590) (by decide +kernel)⟩
theorem lw_p10 : lw_okq (⟨"EndlessRows", "sheetFault", "(III)I"⟩, 16) := ⟨⟨by decide +kernel, by decide +kernel⟩, List.mem_of_getElem? (i := 23) (by decide +kernel), List.mem_of_getElem? (i := 597) (by decide +kernel), List.mem_of_getElem? (i := 598) (by decide +kernel)⟩
theorem lw_p11 : lw_okq (⟨"EndlessRows$Weaver", "product", "(LEndlessRows$Least;ILEndlessRows$Least;IILEndlessRows$Least;I)Z"⟩, 12) := ⟨⟨by decide +kernel, by decide +kernel⟩, List.mem_of_getElem? (i := 211) (by decide +kernel), List.mem_of_getElem? (i := 621) (by decide +kernel), List.mem_of_getElem? (i := 622) (by decide +kernel)⟩
theorem lw_p12 : lw_okq (⟨"EndlessRows$Weaver", "fan", "(I)I"⟩, 12) := ⟨⟨by decide +kernel, by decide +kernel⟩, List.mem_of_getElem? (i := 211) (by decide +kernel), List.mem_of_getElem? (i := 625) (by decide +kernel), List.mem_of_getElem? (i := 626) (by decide +kernel)⟩
theorem lw_p13 : lw_okq (⟨"EndlessRows$Weaver", "fillViews", "([III)V"⟩, 12) := ⟨⟨by decide +kernel, by decide +kernel⟩, List.mem_of_getElem? (i := 211) (by decide +kernel), List.mem_of_getElem? (i := 639) (by decide +kernel), List.mem_of_getElem? (i := 640) (by decide +kernel)⟩
theorem lw_p14 : lw_okq (⟨"EndlessRows$Weaver", "view", "(III)I"⟩, 12) := ⟨⟨by decide +kernel, by decide +kernel⟩, List.mem_of_getElem? (i := 211) (by decide +kernel), List.mem_of_getElem? (i := 643) (by decide +kernel), List.mem_of_getElem? (i := 644) (by decide +kernel)⟩
theorem lw_p15 : lw_okq (⟨"EndlessRows", "askedOf", "(II)LEndlessRows$Least;"⟩, 16) := ⟨⟨by decide +kernel, by decide +kernel⟩, List.mem_of_getElem? (i := 23) (by decide +kernel), List.mem_of_getElem? (i := 664) (by decide +kernel), List.mem_of_getElem? (i := 665) (by decide +kernel)⟩
def lw_privs_1 : List (MethodName × Nat) := [(⟨"EndlessRows", "refuse", "(I)I"⟩, 16), (⟨"EndlessRows", "done", "(I)I"⟩, 16), (⟨"EndlessRows", "otherSort", "(II)Z"⟩, 16), (⟨"EndlessRows", "tooShort", "(II)Z"⟩, 16), (⟨"EndlessRows", "numbers", "(I)[I"⟩, 16), (⟨"EndlessRows$Loom", "splitByMarks", "()I"⟩, 10), (⟨"EndlessRows$Loom", "splitByLinks", "(II)I"⟩, 10), (⟨"EndlessRows$Loom", "linkOf", "(II)I"⟩, 10), (⟨"EndlessRows$Loom", "number", "(LEndlessRows$Least;I)V"⟩, 10), (⟨"EndlessRows", "made", "(II)I"⟩, 16), (⟨"EndlessRows", "sheetFault", "(III)I"⟩, 16), (⟨"EndlessRows$Weaver", "product", "(LEndlessRows$Least;ILEndlessRows$Least;IILEndlessRows$Least;I)Z"⟩, 12), (⟨"EndlessRows$Weaver", "fan", "(I)I"⟩, 12), (⟨"EndlessRows$Weaver", "fillViews", "([III)V"⟩, 12), (⟨"EndlessRows$Weaver", "view", "(III)I"⟩, 12), (⟨"EndlessRows", "askedOf", "(II)LEndlessRows$Least;"⟩, 16)]
theorem lw_r1 : ∀ q ∈ lw_privs_1, lw_okq q := List.forall_mem_cons.mpr ⟨lw_p0, List.forall_mem_cons.mpr ⟨lw_p1, List.forall_mem_cons.mpr ⟨lw_p2, List.forall_mem_cons.mpr ⟨lw_p3, List.forall_mem_cons.mpr ⟨lw_p4, List.forall_mem_cons.mpr ⟨lw_p5, List.forall_mem_cons.mpr ⟨lw_p6, List.forall_mem_cons.mpr ⟨lw_p7, List.forall_mem_cons.mpr ⟨lw_p8, List.forall_mem_cons.mpr ⟨lw_p9, List.forall_mem_cons.mpr ⟨lw_p10, List.forall_mem_cons.mpr ⟨lw_p11, List.forall_mem_cons.mpr ⟨lw_p12, List.forall_mem_cons.mpr ⟨lw_p13, List.forall_mem_cons.mpr ⟨lw_p14, List.forall_mem_cons.mpr ⟨lw_p15, fun _ h => absurd h List.not_mem_nil⟩⟩⟩⟩⟩⟩⟩⟩⟩⟩⟩⟩⟩⟩⟩⟩
theorem lw_p16 : lw_okq (⟨"EndlessRows", "asked", "(I)LEndlessRows$Least;"⟩, 16) := ⟨⟨by decide +kernel, by decide +kernel⟩, List.mem_of_getElem? (i := 23) (by decide +kernel), List.mem_of_getElem? (i := 668) (by decide +kernel), List.mem_of_getElem? (i := 669) (by decide +kernel)⟩
theorem lw_p17 : lw_okq (⟨"EndlessRows$Tokens", "byteAt", "(I)I"⟩, 6) := ⟨⟨by decide +kernel, by decide +kernel⟩, List.mem_of_getElem? (i := 43) (by decide +kernel), List.mem_of_getElem? (i := 699) (by decide +kernel), List.mem_of_getElem? (i := 700) (by decide +kernel)⟩
theorem lw_p18 : lw_okq (⟨"EndlessRows$Tokens", "cutOne", "(I)I"⟩, 6) := ⟨⟨by decide +kernel, by decide +kernel⟩, List.mem_of_getElem? (i := 43) (by decide +kernel), List.mem_of_getElem? (i := 703) (by decide +kernel), List.mem_of_getElem? (i := 704) (by decide +kernel)⟩
theorem lw_p19 : lw_okq (⟨"EndlessRows$Tokens", "isLetter", "(I)Z"⟩, 6) := ⟨⟨by decide +kernel, by decide +kernel⟩, List.mem_of_getElem? (i := 43) (by decide +kernel), List.mem_of_getElem? (i := 707) (by decide +kernel), List.mem_of_getElem? (i := 708) (by decide +kernel)⟩
theorem lw_p20 : lw_okq (⟨"EndlessRows$Tokens", "cutLetters", "(I)I"⟩, 6) := ⟨⟨by decide +kernel, by decide +kernel⟩, List.mem_of_getElem? (i := 43) (by decide +kernel), List.mem_of_getElem? (i := 711) (by decide +kernel), List.mem_of_getElem? (i := 712) (by decide +kernel)⟩
theorem lw_p21 : lw_okq (⟨"EndlessRows$Tokens", "isDigit", "(I)Z"⟩, 6) := ⟨⟨by decide +kernel, by decide +kernel⟩, List.mem_of_getElem? (i := 43) (by decide +kernel), List.mem_of_getElem? (i := 715) (by decide +kernel), List.mem_of_getElem? (i := 716) (by decide +kernel)⟩
theorem lw_p22 : lw_okq (⟨"EndlessRows$Tokens", "add", "(III)V"⟩, 6) := ⟨⟨by decide +kernel, by decide +kernel⟩, List.mem_of_getElem? (i := 43) (by decide +kernel), List.mem_of_getElem? (i := 719) (by decide +kernel), List.mem_of_getElem? (i := 720) (by decide +kernel)⟩
theorem lw_p23 : lw_okq (⟨"EndlessRows$Tokens", "key", "(II)I"⟩, 6) := ⟨⟨by decide +kernel, by decide +kernel⟩, List.mem_of_getElem? (i := 43) (by decide +kernel), List.mem_of_getElem? (i := 723) (by decide +kernel), List.mem_of_getElem? (i := 724) (by decide +kernel)⟩
theorem lw_p24 : lw_okq (⟨"EndlessRows$Tokens", "isWord", "(IILjava/lang/String;)Z"⟩, 6) := ⟨⟨by decide +kernel, by decide +kernel⟩, List.mem_of_getElem? (i := 43) (by decide +kernel), List.mem_of_getElem? (i := 728) (by decide +kernel), List.mem_of_getElem? (i := 729) (by decide +kernel)⟩
theorem lw_p25 : lw_okq (⟨"EndlessRows$Tokens", "cutNumber", "(I)I"⟩, 6) := ⟨⟨by decide +kernel, by decide +kernel⟩, List.mem_of_getElem? (i := 43) (by decide +kernel), List.mem_of_getElem? (i := 785) (by decide +kernel), List.mem_of_getElem? (i := 786) (by decide +kernel)⟩
theorem lw_p26 : lw_okq (⟨"EndlessRows$Reader", "formula", "(III)I"⟩, 10) := ⟨⟨by decide +kernel, by decide +kernel⟩, List.mem_of_getElem? (i := 37) (by decide +kernel), List.mem_of_getElem? (i := 793) (by decide +kernel), List.mem_of_getElem? (i := 794) (by decide +kernel)⟩
theorem lw_p27 : lw_okq (⟨"EndlessRows$Reader", "piece", "(II)I"⟩, 10) := ⟨⟨by decide +kernel, by decide +kernel⟩, List.mem_of_getElem? (i := 37) (by decide +kernel), List.mem_of_getElem? (i := 797) (by decide +kernel), List.mem_of_getElem? (i := 798) (by decide +kernel)⟩
theorem lw_p28 : lw_okq (⟨"EndlessRows$Reader", "fail", "()I"⟩, 10) := ⟨⟨by decide +kernel, by decide +kernel⟩, List.mem_of_getElem? (i := 37) (by decide +kernel), List.mem_of_getElem? (i := 801) (by decide +kernel), List.mem_of_getElem? (i := 802) (by decide +kernel)⟩
theorem lw_p29 : lw_okq (⟨"EndlessRows$Reader", "peek", "()I"⟩, 10) := ⟨⟨by decide +kernel, by decide +kernel⟩, List.mem_of_getElem? (i := 37) (by decide +kernel), List.mem_of_getElem? (i := 805) (by decide +kernel), List.mem_of_getElem? (i := 806) (by decide +kernel)⟩
theorem lw_p30 : lw_okq (⟨"EndlessRows$Reader", "contrary", "(II)I"⟩, 10) := ⟨⟨by decide +kernel, by decide +kernel⟩, List.mem_of_getElem? (i := 37) (by decide +kernel), List.mem_of_getElem? (i := 809) (by decide +kernel), List.mem_of_getElem? (i := 810) (by decide +kernel)⟩
theorem lw_p31 : lw_okq (⟨"EndlessRows$Reader", "place", "()I"⟩, 10) := ⟨⟨by decide +kernel, by decide +kernel⟩, List.mem_of_getElem? (i := 37) (by decide +kernel), List.mem_of_getElem? (i := 813) (by decide +kernel), List.mem_of_getElem? (i := 814) (by decide +kernel)⟩
def lw_privs_2 : List (MethodName × Nat) := [(⟨"EndlessRows", "asked", "(I)LEndlessRows$Least;"⟩, 16), (⟨"EndlessRows$Tokens", "byteAt", "(I)I"⟩, 6), (⟨"EndlessRows$Tokens", "cutOne", "(I)I"⟩, 6), (⟨"EndlessRows$Tokens", "isLetter", "(I)Z"⟩, 6), (⟨"EndlessRows$Tokens", "cutLetters", "(I)I"⟩, 6), (⟨"EndlessRows$Tokens", "isDigit", "(I)Z"⟩, 6), (⟨"EndlessRows$Tokens", "add", "(III)V"⟩, 6), (⟨"EndlessRows$Tokens", "key", "(II)I"⟩, 6), (⟨"EndlessRows$Tokens", "isWord", "(IILjava/lang/String;)Z"⟩, 6), (⟨"EndlessRows$Tokens", "cutNumber", "(I)I"⟩, 6), (⟨"EndlessRows$Reader", "formula", "(III)I"⟩, 10), (⟨"EndlessRows$Reader", "piece", "(II)I"⟩, 10), (⟨"EndlessRows$Reader", "fail", "()I"⟩, 10), (⟨"EndlessRows$Reader", "peek", "()I"⟩, 10), (⟨"EndlessRows$Reader", "contrary", "(II)I"⟩, 10), (⟨"EndlessRows$Reader", "place", "()I"⟩, 10)]
theorem lw_r2 : ∀ q ∈ lw_privs_2, lw_okq q := List.forall_mem_cons.mpr ⟨lw_p16, List.forall_mem_cons.mpr ⟨lw_p17, List.forall_mem_cons.mpr ⟨lw_p18, List.forall_mem_cons.mpr ⟨lw_p19, List.forall_mem_cons.mpr ⟨lw_p20, List.forall_mem_cons.mpr ⟨lw_p21, List.forall_mem_cons.mpr ⟨lw_p22, List.forall_mem_cons.mpr ⟨lw_p23, List.forall_mem_cons.mpr ⟨lw_p24, List.forall_mem_cons.mpr ⟨lw_p25, List.forall_mem_cons.mpr ⟨lw_p26, List.forall_mem_cons.mpr ⟨lw_p27, List.forall_mem_cons.mpr ⟨lw_p28, List.forall_mem_cons.mpr ⟨lw_p29, List.forall_mem_cons.mpr ⟨lw_p30, List.forall_mem_cons.mpr ⟨lw_p31, fun _ h => absurd h List.not_mem_nil⟩⟩⟩⟩⟩⟩⟩⟩⟩⟩⟩⟩⟩⟩⟩⟩
theorem lw_p32 : lw_okq (⟨"EndlessRows$Reader", "join", "(IIII)I"⟩, 10) := ⟨⟨by decide +kernel, by decide +kernel⟩, List.mem_of_getElem? (i := 37) (by decide +kernel), List.mem_of_getElem? (i := 817) (by decide +kernel), List.mem_of_getElem? (i := 818) (by decide +kernel)⟩
theorem lw_p33 : lw_okq (⟨"EndlessRows$Reader", "bind", "(III)I"⟩, 10) := ⟨⟨by decide +kernel, by decide +kernel⟩, List.mem_of_getElem? (i := 37) (by decide +kernel), List.mem_of_getElem? (i := 822) (by decide +kernel), List.mem_of_getElem? (i := 823) (by decide +kernel)⟩
theorem lw_p34 : lw_okq (⟨"EndlessRows$Reader", "worth", "()I"⟩, 10) := ⟨⟨by decide +kernel, by decide +kernel⟩, List.mem_of_getElem? (i := 37) (by decide +kernel), List.mem_of_getElem? (i := 826) (by decide +kernel), List.mem_of_getElem? (i := 827) (by decide +kernel)⟩
theorem lw_p35 : lw_okq (⟨"EndlessRows$Reader", "blame", "(I)V"⟩, 10) := ⟨⟨by decide +kernel, by decide +kernel⟩, List.mem_of_getElem? (i := 37) (by decide +kernel), List.mem_of_getElem? (i := 830) (by decide +kernel), List.mem_of_getElem? (i := 831) (by decide +kernel)⟩
theorem lw_p36 : lw_okq (⟨"EndlessRows$Reader", "eat", "(I)Z"⟩, 10) := ⟨⟨by decide +kernel, by decide +kernel⟩, List.mem_of_getElem? (i := 37) (by decide +kernel), List.mem_of_getElem? (i := 834) (by decide +kernel), List.mem_of_getElem? (i := 835) (by decide +kernel)⟩
theorem lw_p37 : lw_okq (⟨"EndlessRows$Reader", "enclosed", "(II)I"⟩, 10) := ⟨⟨by decide +kernel, by decide +kernel⟩, List.mem_of_getElem? (i := 37) (by decide +kernel), List.mem_of_getElem? (i := 838) (by decide +kernel), List.mem_of_getElem? (i := 839) (by decide +kernel)⟩
theorem lw_p38 : lw_okq (⟨"EndlessRows$Reader", "rowAtom", "()I"⟩, 10) := ⟨⟨by decide +kernel, by decide +kernel⟩, List.mem_of_getElem? (i := 37) (by decide +kernel), List.mem_of_getElem? (i := 842) (by decide +kernel), List.mem_of_getElem? (i := 843) (by decide +kernel)⟩
theorem lw_p39 : lw_okq (⟨"EndlessRows$Reader", "entry", "(LEndlessRows$Side;)Z"⟩, 10) := ⟨⟨by decide +kernel, by decide +kernel⟩, List.mem_of_getElem? (i := 37) (by decide +kernel), List.mem_of_getElem? (i := 846) (by decide +kernel), List.mem_of_getElem? (i := 847) (by decide +kernel)⟩
theorem lw_p40 : lw_okq (⟨"EndlessRows$Reader", "takeTerm", "(LEndlessRows$Side;I)Z"⟩, 10) := ⟨⟨by decide +kernel, by decide +kernel⟩, List.mem_of_getElem? (i := 37) (by decide +kernel), List.mem_of_getElem? (i := 859) (by decide +kernel), List.mem_of_getElem? (i := 860) (by decide +kernel)⟩
theorem lw_p41 : lw_okq (⟨"EndlessRows$Reader", "atom", "(III)I"⟩, 10) := ⟨⟨by decide +kernel, by decide +kernel⟩, List.mem_of_getElem? (i := 37) (by decide +kernel), List.mem_of_getElem? (i := 863) (by decide +kernel), List.mem_of_getElem? (i := 864) (by decide +kernel)⟩
theorem lw_p42 : lw_okq (⟨"EndlessRows$Reader", "sumAtom", "()I"⟩, 10) := ⟨⟨by decide +kernel, by decide +kernel⟩, List.mem_of_getElem? (i := 37) (by decide +kernel), List.mem_of_getElem? (i := 867) (by decide +kernel), List.mem_of_getElem? (i := 868) (by decide +kernel)⟩
theorem lw_p43 : lw_okq (⟨"EndlessRows$Reader", "sum", "(LEndlessRows$Side;)Z"⟩, 10) := ⟨⟨by decide +kernel, by decide +kernel⟩, List.mem_of_getElem? (i := 37) (by decide +kernel), List.mem_of_getElem? (i := 871) (by decide +kernel), List.mem_of_getElem? (i := 872) (by decide +kernel)⟩
theorem lw_p44 : lw_okq (⟨"EndlessRows$Reader", "tell", "(LEndlessRows$Question;)V"⟩, 10) := ⟨⟨by decide +kernel, by decide +kernel⟩, List.mem_of_getElem? (i := 37) (by decide +kernel), List.mem_of_getElem? (i := 875) (by decide +kernel), List.mem_of_getElem? (i := 876) (by decide +kernel)⟩
theorem lw_p45 : lw_okq (⟨"EndlessRows$Reader", "crowded", "()I"⟩, 10) := ⟨⟨by decide +kernel, by decide +kernel⟩, List.mem_of_getElem? (i := 37) (by decide +kernel), List.mem_of_getElem? (i := 883) (by decide +kernel), List.mem_of_getElem? (i := 884) (by decide +kernel)⟩
theorem lw_p46 : lw_okq (⟨"EndlessRows$Weaver", "weaveRows", "(LEndlessRows$Part;[LEndlessRows$Row;I)Z"⟩, 12) := ⟨⟨by decide +kernel, by decide +kernel⟩, List.mem_of_getElem? (i := 211) (by decide +kernel), List.mem_of_getElem? (i := 896) (by decide +kernel), List.mem_of_getElem? (i := 897) (by decide +kernel)⟩
theorem lw_p47 : lw_okq (⟨"EndlessRows$Weaver", "weaveLetters", "(LEndlessRows$Side;LEndlessRows$Least;LEndlessRows$Least;)Z"⟩, 12) := ⟨⟨by decide +kernel, by decide +kernel⟩, List.mem_of_getElem? (i := 211) (by decide +kernel), List.mem_of_getElem? (i := 900) (by decide +kernel), List.mem_of_getElem? (i := 901) (by decide +kernel)⟩
def lw_privs_3 : List (MethodName × Nat) := [(⟨"EndlessRows$Reader", "join", "(IIII)I"⟩, 10), (⟨"EndlessRows$Reader", "bind", "(III)I"⟩, 10), (⟨"EndlessRows$Reader", "worth", "()I"⟩, 10), (⟨"EndlessRows$Reader", "blame", "(I)V"⟩, 10), (⟨"EndlessRows$Reader", "eat", "(I)Z"⟩, 10), (⟨"EndlessRows$Reader", "enclosed", "(II)I"⟩, 10), (⟨"EndlessRows$Reader", "rowAtom", "()I"⟩, 10), (⟨"EndlessRows$Reader", "entry", "(LEndlessRows$Side;)Z"⟩, 10), (⟨"EndlessRows$Reader", "takeTerm", "(LEndlessRows$Side;I)Z"⟩, 10), (⟨"EndlessRows$Reader", "atom", "(III)I"⟩, 10), (⟨"EndlessRows$Reader", "sumAtom", "()I"⟩, 10), (⟨"EndlessRows$Reader", "sum", "(LEndlessRows$Side;)Z"⟩, 10), (⟨"EndlessRows$Reader", "tell", "(LEndlessRows$Question;)V"⟩, 10), (⟨"EndlessRows$Reader", "crowded", "()I"⟩, 10), (⟨"EndlessRows$Weaver", "weaveRows", "(LEndlessRows$Part;[LEndlessRows$Row;I)Z"⟩, 12), (⟨"EndlessRows$Weaver", "weaveLetters", "(LEndlessRows$Side;LEndlessRows$Least;LEndlessRows$Least;)Z"⟩, 12)]
theorem lw_r3 : ∀ q ∈ lw_privs_3, lw_okq q := List.forall_mem_cons.mpr ⟨lw_p32, List.forall_mem_cons.mpr ⟨lw_p33, List.forall_mem_cons.mpr ⟨lw_p34, List.forall_mem_cons.mpr ⟨lw_p35, List.forall_mem_cons.mpr ⟨lw_p36, List.forall_mem_cons.mpr ⟨lw_p37, List.forall_mem_cons.mpr ⟨lw_p38, List.forall_mem_cons.mpr ⟨lw_p39, List.forall_mem_cons.mpr ⟨lw_p40, List.forall_mem_cons.mpr ⟨lw_p41, List.forall_mem_cons.mpr ⟨lw_p42, List.forall_mem_cons.mpr ⟨lw_p43, List.forall_mem_cons.mpr ⟨lw_p44, List.forall_mem_cons.mpr ⟨lw_p45, List.forall_mem_cons.mpr ⟨lw_p46, List.forall_mem_cons.mpr ⟨lw_p47, fun _ h => absurd h List.not_mem_nil⟩⟩⟩⟩⟩⟩⟩⟩⟩⟩⟩⟩⟩⟩⟩⟩
theorem lw_p48 : lw_okq (⟨"EndlessRows$Weaver", "keyOfPlaces", "(II)I"⟩, 12) := ⟨⟨by decide +kernel, by decide +kernel⟩, List.mem_of_getElem? (i := 211) (by decide +kernel), List.mem_of_getElem? (i := 910) (by decide +kernel), List.mem_of_getElem? (i := 911) (by decide +kernel)⟩
theorem lw_p49 : lw_okq (⟨"EndlessRows$Weaver", "load", "(II[I)I"⟩, 12) := ⟨⟨by decide +kernel, by decide +kernel⟩, List.mem_of_getElem? (i := 211) (by decide +kernel), List.mem_of_getElem? (i := 917) (by decide +kernel), List.mem_of_getElem? (i := 918) (by decide +kernel)⟩
theorem lw_p50 : lw_okq (⟨"EndlessRows$Weaver", "weavePart", "(LEndlessRows$Part;[LEndlessRows$Part;)Z"⟩, 12) := ⟨⟨by decide +kernel, by decide +kernel⟩, List.mem_of_getElem? (i := 211) (by decide +kernel), List.mem_of_getElem? (i := 925) (by decide +kernel), List.mem_of_getElem? (i := 926) (by decide +kernel)⟩
theorem lw_p51 : lw_okq (⟨"EndlessRows$Weaver", "weaveSums", "(LEndlessRows$Part;)Z"⟩, 12) := ⟨⟨by decide +kernel, by decide +kernel⟩, List.mem_of_getElem? (i := 211) (by decide +kernel), List.mem_of_getElem? (i := 929) (by decide +kernel), List.mem_of_getElem? (i := 930) (by decide +kernel)⟩
theorem lw_p52 : lw_okq (⟨"EndlessRows$Weaver", "weaveBound", "(LEndlessRows$Part;LEndlessRows$Part;)Z"⟩, 12) := ⟨⟨by decide +kernel, by decide +kernel⟩, List.mem_of_getElem? (i := 211) (by decide +kernel), List.mem_of_getElem? (i := 941) (by decide +kernel), List.mem_of_getElem? (i := 942) (by decide +kernel)⟩
theorem lw_p53 : lw_okq (⟨"EndlessRows$Weaver", "firstSet", "(LEndlessRows$Least;)J"⟩, 12) := ⟨⟨by decide +kernel, by decide +kernel⟩, List.mem_of_getElem? (i := 211) (by decide +kernel), List.mem_of_getElem? (i := 950) (by decide +kernel), List.mem_of_getElem? (i := 951) (by decide +kernel)⟩
theorem lw_p54 : lw_okq (⟨"EndlessRows$Weaver", "spread", "(LEndlessRows$Least;J)V"⟩, 12) := ⟨⟨by decide +kernel, by decide +kernel⟩, List.mem_of_getElem? (i := 211) (by decide +kernel), List.mem_of_getElem? (i := 954) (by decide +kernel), List.mem_of_getElem? (i := 955) (by decide +kernel)⟩
theorem lw_p55 : lw_okq (⟨"EndlessRows$Weaver", "meetSet", "(J)I"⟩, 12) := ⟨⟨by decide +kernel, by decide +kernel⟩, List.mem_of_getElem? (i := 211) (by decide +kernel), List.mem_of_getElem? (i := 961) (by decide +kernel), List.mem_of_getElem? (i := 962) (by decide +kernel)⟩
theorem lw_p56 : lw_okq (⟨"EndlessRows$Weaver", "addSet", "(IJ)I"⟩, 12) := ⟨⟨by decide +kernel, by decide +kernel⟩, List.mem_of_getElem? (i := 211) (by decide +kernel), List.mem_of_getElem? (i := 966) (by decide +kernel), List.mem_of_getElem? (i := 967) (by decide +kernel)⟩
theorem lw_p57 : lw_okq (⟨"EndlessRows", "dropRow", "()I"⟩, 16) := ⟨⟨by decide +kernel, by decide +kernel⟩, List.mem_of_getElem? (i := 23) (by decide +kernel), List.mem_of_getElem? (i := 976) (by decide +kernel), List.mem_of_getElem? (i := 977) (by decide +kernel)⟩
theorem lw_p58 : lw_okq (⟨"EndlessRows", "dropQuestion", "()I"⟩, 16) := ⟨⟨by decide +kernel, by decide +kernel⟩, List.mem_of_getElem? (i := 23) (by decide +kernel), List.mem_of_getElem? (i := 980) (by decide +kernel), List.mem_of_getElem? (i := 981) (by decide +kernel)⟩
theorem lw_p59 : lw_okq (⟨"EndlessRows$Question", "freeName", "(I)I"⟩, 7) := ⟨⟨by decide +kernel, by decide +kernel⟩, List.mem_of_getElem? (i := 375) (by decide +kernel), List.mem_of_getElem? (i := 1036) (by decide +kernel), List.mem_of_getElem? (i := 1037) (by decide +kernel)⟩
theorem lw_p60 : lw_okq (⟨"EndlessRows$Reckoner", "fillOpen", "(LEndlessRows$Least;I)V"⟩, 9) := ⟨⟨by decide +kernel, by decide +kernel⟩, List.mem_of_getElem? (i := 296) (by decide +kernel), List.mem_of_getElem? (i := 1066) (by decide +kernel), List.mem_of_getElem? (i := 1067) (by decide +kernel)⟩
theorem lw_p61 : lw_okq (⟨"EndlessRows$Reckoner", "openDigit", "(LEndlessRows$Least;IIII)I"⟩, 9) := ⟨⟨by decide +kernel, by decide +kernel⟩, List.mem_of_getElem? (i := 296) (by decide +kernel), List.mem_of_getElem? (i := 1070) (by decide +kernel), List.mem_of_getElem? (i := 1071) (by decide +kernel)⟩
theorem lw_p62 : lw_okq (⟨"EndlessRows$Reckoner", "fillDigits", "(JI)I"⟩, 9) := ⟨⟨by decide +kernel, by decide +kernel⟩, List.mem_of_getElem? (i := 296) (by decide +kernel), List.mem_of_getElem? (i := 1074) (by decide +kernel), List.mem_of_getElem? (i := 1075) (by decide +kernel)⟩
theorem lw_p63 : lw_okq (⟨"EndlessRows$Reckoner", "fillHeads", "(LEndlessRows$Least;I)V"⟩, 9) := ⟨⟨by decide +kernel, by decide +kernel⟩, List.mem_of_getElem? (i := 296) (by decide +kernel), List.mem_of_getElem? (i := 1078) (by decide +kernel), List.mem_of_getElem? (i := 1079) (by decide +kernel)⟩
def lw_privs_4 : List (MethodName × Nat) := [(⟨"EndlessRows$Weaver", "keyOfPlaces", "(II)I"⟩, 12), (⟨"EndlessRows$Weaver", "load", "(II[I)I"⟩, 12), (⟨"EndlessRows$Weaver", "weavePart", "(LEndlessRows$Part;[LEndlessRows$Part;)Z"⟩, 12), (⟨"EndlessRows$Weaver", "weaveSums", "(LEndlessRows$Part;)Z"⟩, 12), (⟨"EndlessRows$Weaver", "weaveBound", "(LEndlessRows$Part;LEndlessRows$Part;)Z"⟩, 12), (⟨"EndlessRows$Weaver", "firstSet", "(LEndlessRows$Least;)J"⟩, 12), (⟨"EndlessRows$Weaver", "spread", "(LEndlessRows$Least;J)V"⟩, 12), (⟨"EndlessRows$Weaver", "meetSet", "(J)I"⟩, 12), (⟨"EndlessRows$Weaver", "addSet", "(IJ)I"⟩, 12), (⟨"EndlessRows", "dropRow", "()I"⟩, 16), (⟨"EndlessRows", "dropQuestion", "()I"⟩, 16), (⟨"EndlessRows$Question", "freeName", "(I)I"⟩, 7), (⟨"EndlessRows$Reckoner", "fillOpen", "(LEndlessRows$Least;I)V"⟩, 9), (⟨"EndlessRows$Reckoner", "openDigit", "(LEndlessRows$Least;IIII)I"⟩, 9), (⟨"EndlessRows$Reckoner", "fillDigits", "(JI)I"⟩, 9), (⟨"EndlessRows$Reckoner", "fillHeads", "(LEndlessRows$Least;I)V"⟩, 9)]
theorem lw_r4 : ∀ q ∈ lw_privs_4, lw_okq q := List.forall_mem_cons.mpr ⟨lw_p48, List.forall_mem_cons.mpr ⟨lw_p49, List.forall_mem_cons.mpr ⟨lw_p50, List.forall_mem_cons.mpr ⟨lw_p51, List.forall_mem_cons.mpr ⟨lw_p52, List.forall_mem_cons.mpr ⟨lw_p53, List.forall_mem_cons.mpr ⟨lw_p54, List.forall_mem_cons.mpr ⟨lw_p55, List.forall_mem_cons.mpr ⟨lw_p56, List.forall_mem_cons.mpr ⟨lw_p57, List.forall_mem_cons.mpr ⟨lw_p58, List.forall_mem_cons.mpr ⟨lw_p59, List.forall_mem_cons.mpr ⟨lw_p60, List.forall_mem_cons.mpr ⟨lw_p61, List.forall_mem_cons.mpr ⟨lw_p62, List.forall_mem_cons.mpr ⟨lw_p63, fun _ h => absurd h List.not_mem_nil⟩⟩⟩⟩⟩⟩⟩⟩⟩⟩⟩⟩⟩⟩⟩⟩
theorem lw_p64 : lw_okq (⟨"EndlessRows$Reckoner", "head", "(II)J"⟩, 9) := ⟨⟨by decide +kernel, by decide +kernel⟩, List.mem_of_getElem? (i := 296) (by decide +kernel), List.mem_of_getElem? (i := 1082) (by decide +kernel), List.mem_of_getElem? (i := 1083) (by decide +kernel)⟩
theorem lw_p65 : lw_okq (⟨"EndlessRows$Reckoner", "ended", "(LEndlessRows$Least;JIIII)J"⟩, 9) := ⟨⟨by decide +kernel, by decide +kernel⟩, List.mem_of_getElem? (i := 296) (by decide +kernel), List.mem_of_getElem? (i := 1086) (by decide +kernel), List.mem_of_getElem? (i := 1087) (by decide +kernel)⟩
theorem lw_p66 : lw_okq (⟨"EndlessRows$Reckoner", "countAll", "(LEndlessRows$Least;II)J"⟩, 9) := ⟨⟨by decide +kernel, by decide +kernel⟩, List.mem_of_getElem? (i := 296) (by decide +kernel), List.mem_of_getElem? (i := 1099) (by decide +kernel), List.mem_of_getElem? (i := 1100) (by decide +kernel)⟩
theorem lw_p67 : lw_okq (⟨"EndlessRows$Reckoner", "startWays", "(LEndlessRows$Least;II)V"⟩, 9) := ⟨⟨by decide +kernel, by decide +kernel⟩, List.mem_of_getElem? (i := 296) (by decide +kernel), List.mem_of_getElem? (i := 1103) (by decide +kernel), List.mem_of_getElem? (i := 1104) (by decide +kernel)⟩
theorem lw_p68 : lw_okq (⟨"EndlessRows$Reckoner", "stepWays", "(LEndlessRows$Least;II)V"⟩, 9) := ⟨⟨by decide +kernel, by decide +kernel⟩, List.mem_of_getElem? (i := 296) (by decide +kernel), List.mem_of_getElem? (i := 1114) (by decide +kernel), List.mem_of_getElem? (i := 1115) (by decide +kernel)⟩
theorem lw_p69 : lw_okq (⟨"EndlessRows$Acts", "reading", "(I)I"⟩, 5) := ⟨⟨by decide +kernel, by decide +kernel⟩, List.mem_of_getElem? (i := 330) (by decide +kernel), List.mem_of_getElem? (i := 1144) (by decide +kernel), List.mem_of_getElem? (i := 1145) (by decide +kernel)⟩
theorem lw_p70 : lw_okq (⟨"EndlessRows$Acts", "isGrown", "()Z"⟩, 5) := ⟨⟨by decide +kernel, by decide +kernel⟩, List.mem_of_getElem? (i := 330) (by decide +kernel), List.mem_of_getElem? (i := 1148) (by decide +kernel), List.mem_of_getElem? (i := 1149) (by decide +kernel)⟩
theorem lw_p71 : lw_okq (⟨"EndlessRows$Acts", "ran", "(I)V"⟩, 5) := ⟨⟨by decide +kernel, by decide +kernel⟩, List.mem_of_getElem? (i := 330) (by decide +kernel), List.mem_of_getElem? (i := 1152) (by decide +kernel), List.mem_of_getElem? (i := 1153) (by decide +kernel)⟩
theorem lw_p72 : lw_okq (⟨"EndlessRows$Acts", "stepping", "(I)I"⟩, 5) := ⟨⟨by decide +kernel, by decide +kernel⟩, List.mem_of_getElem? (i := 330) (by decide +kernel), List.mem_of_getElem? (i := 1156) (by decide +kernel), List.mem_of_getElem? (i := 1157) (by decide +kernel)⟩
theorem lw_p73 : lw_okq (⟨"EndlessRows$Acts", "joining", "(I)I"⟩, 5) := ⟨⟨by decide +kernel, by decide +kernel⟩, List.mem_of_getElem? (i := 330) (by decide +kernel), List.mem_of_getElem? (i := 1160) (by decide +kernel), List.mem_of_getElem? (i := 1161) (by decide +kernel)⟩
theorem lw_p74 : lw_okq (⟨"EndlessRows$Acts", "telling", "(I)I"⟩, 5) := ⟨⟨by decide +kernel, by decide +kernel⟩, List.mem_of_getElem? (i := 330) (by decide +kernel), List.mem_of_getElem? (i := 1164) (by decide +kernel), List.mem_of_getElem? (i := 1165) (by decide +kernel)⟩
theorem lw_p75 : lw_okq (⟨"EndlessRows", "forgeKind", "(II)I"⟩, 16) := ⟨⟨by decide +kernel, by decide +kernel⟩, List.mem_of_getElem? (i := 23) (by decide +kernel), List.mem_of_getElem? (i := 1179) (by decide +kernel), List.mem_of_getElem? (i := 1180) (by decide +kernel)⟩
theorem lw_p76 : lw_okq (⟨"EndlessRows", "forgeNumber", "(II)I"⟩, 16) := ⟨⟨by decide +kernel, by decide +kernel⟩, List.mem_of_getElem? (i := 23) (by decide +kernel), List.mem_of_getElem? (i := 1183) (by decide +kernel), List.mem_of_getElem? (i := 1184) (by decide +kernel)⟩
theorem lw_p77 : lw_okq (⟨"EndlessRows", "forgeCopy", "(II)I"⟩, 16) := ⟨⟨by decide +kernel, by decide +kernel⟩, List.mem_of_getElem? (i := 23) (by decide +kernel), List.mem_of_getElem? (i := 1187) (by decide +kernel), List.mem_of_getElem? (i := 1188) (by decide +kernel)⟩
theorem lw_p78 : lw_okq (⟨"EndlessRows", "forgeStore", "(I)I"⟩, 16) := ⟨⟨by decide +kernel, by decide +kernel⟩, List.mem_of_getElem? (i := 23) (by decide +kernel), List.mem_of_getElem? (i := 1191) (by decide +kernel), List.mem_of_getElem? (i := 1192) (by decide +kernel)⟩
theorem lw_p79 : lw_okq (⟨"EndlessRowsModel", "refused", "(I)I"⟩, 92) := ⟨⟨by decide +kernel, by decide +kernel⟩, List.mem_of_getElem? (i := 1199) (by decide +kernel), List.mem_of_getElem? (i := 1493) (by decide +kernel), List.mem_of_getElem? (i := 1494) (by decide +kernel)⟩
def lw_privs_5 : List (MethodName × Nat) := [(⟨"EndlessRows$Reckoner", "head", "(II)J"⟩, 9), (⟨"EndlessRows$Reckoner", "ended", "(LEndlessRows$Least;JIIII)J"⟩, 9), (⟨"EndlessRows$Reckoner", "countAll", "(LEndlessRows$Least;II)J"⟩, 9), (⟨"EndlessRows$Reckoner", "startWays", "(LEndlessRows$Least;II)V"⟩, 9), (⟨"EndlessRows$Reckoner", "stepWays", "(LEndlessRows$Least;II)V"⟩, 9), (⟨"EndlessRows$Acts", "reading", "(I)I"⟩, 5), (⟨"EndlessRows$Acts", "isGrown", "()Z"⟩, 5), (⟨"EndlessRows$Acts", "ran", "(I)V"⟩, 5), (⟨"EndlessRows$Acts", "stepping", "(I)I"⟩, 5), (⟨"EndlessRows$Acts", "joining", "(I)I"⟩, 5), (⟨"EndlessRows$Acts", "telling", "(I)I"⟩, 5), (⟨"EndlessRows", "forgeKind", "(II)I"⟩, 16), (⟨"EndlessRows", "forgeNumber", "(II)I"⟩, 16), (⟨"EndlessRows", "forgeCopy", "(II)I"⟩, 16), (⟨"EndlessRows", "forgeStore", "(I)I"⟩, 16), (⟨"EndlessRowsModel", "refused", "(I)I"⟩, 92)]
theorem lw_r5 : ∀ q ∈ lw_privs_5, lw_okq q := List.forall_mem_cons.mpr ⟨lw_p64, List.forall_mem_cons.mpr ⟨lw_p65, List.forall_mem_cons.mpr ⟨lw_p66, List.forall_mem_cons.mpr ⟨lw_p67, List.forall_mem_cons.mpr ⟨lw_p68, List.forall_mem_cons.mpr ⟨lw_p69, List.forall_mem_cons.mpr ⟨lw_p70, List.forall_mem_cons.mpr ⟨lw_p71, List.forall_mem_cons.mpr ⟨lw_p72, List.forall_mem_cons.mpr ⟨lw_p73, List.forall_mem_cons.mpr ⟨lw_p74, List.forall_mem_cons.mpr ⟨lw_p75, List.forall_mem_cons.mpr ⟨lw_p76, List.forall_mem_cons.mpr ⟨lw_p77, List.forall_mem_cons.mpr ⟨lw_p78, List.forall_mem_cons.mpr ⟨lw_p79, fun _ h => absurd h List.not_mem_nil⟩⟩⟩⟩⟩⟩⟩⟩⟩⟩⟩⟩⟩⟩⟩⟩
theorem lw_p80 : lw_okq (⟨"EndlessRowsModel", "done", "(I)I"⟩, 92) := ⟨⟨by decide +kernel, by decide +kernel⟩, List.mem_of_getElem? (i := 1199) (by decide +kernel), List.mem_of_getElem? (i := 1497) (by decide +kernel), List.mem_of_getElem? (i := 1498) (by decide +kernel)⟩
theorem lw_p81 : lw_okq (⟨"EndlessRowsModel", "isOther", "(II)Z"⟩, 92) := ⟨⟨by decide +kernel, by decide +kernel⟩, List.mem_of_getElem? (i := 1199) (by decide +kernel), List.mem_of_getElem? (i := 1513) (by decide +kernel), List.mem_of_getElem? (i := 1514) (by decide +kernel)⟩
theorem lw_p82 : lw_okq (⟨"EndlessRowsModel", "isAbove", "(IIII)Z"⟩, 92) := ⟨⟨by decide +kernel, by decide +kernel⟩, List.mem_of_getElem? (i := 1199) (by decide +kernel), List.mem_of_getElem? (i := 1517) (by decide +kernel), List.mem_of_getElem? (i := 1518) (by decide +kernel)⟩
theorem lw_p83 : lw_okq (⟨"EndlessRowsModel", "least", "()V"⟩, 92) := ⟨⟨by decide +kernel, by decide +kernel⟩, List.mem_of_getElem? (i := 1199) (by decide +kernel), List.mem_of_getElem? (i := 1521) (by decide +kernel), List.mem_of_getElem? (i := 1522) (by decide +kernel)⟩
theorem lw_p84 : lw_okq (⟨"EndlessRowsModel", "apart", "()V"⟩, 92) := ⟨⟨by decide +kernel, by decide +kernel⟩, List.mem_of_getElem? (i := 1199) (by decide +kernel), List.mem_of_getElem? (i := 1525) (by decide +kernel), List.mem_of_getElem? (i := 1526) (by decide +kernel)⟩
theorem lw_p85 : lw_okq (⟨"EndlessRowsModel", "place", "(I)I"⟩, 92) := ⟨⟨by decide +kernel, by decide +kernel⟩, List.mem_of_getElem? (i := 1199) (by decide +kernel), List.mem_of_getElem? (i := 1529) (by decide +kernel), List.mem_of_getElem? (i := 1530) (by decide +kernel)⟩
theorem lw_p86 : lw_okq (⟨"EndlessRowsModel", "isAlike", "(II)Z"⟩, 92) := ⟨⟨by decide +kernel, by decide +kernel⟩, List.mem_of_getElem? (i := 1199) (by decide +kernel), List.mem_of_getElem? (i := 1534) (by decide +kernel), List.mem_of_getElem? (i := 1535) (by decide +kernel)⟩
theorem lw_p87 : lw_okq (⟨"EndlessRowsModel", "newRow", "(I)I"⟩, 92) := ⟨⟨by decide +kernel, by decide +kernel⟩, List.mem_of_getElem? (i := 1199) (by decide +kernel), List.mem_of_getElem? (i := 1538) (by decide +kernel), List.mem_of_getElem? (i := 1539) (by decide +kernel)⟩
theorem lw_p88 : lw_okq (⟨"EndlessRowsModel", "stepOf", "(II)I"⟩, 92) := ⟨⟨by decide +kernel, by decide +kernel⟩, List.mem_of_getElem? (i := 1199) (by decide +kernel), List.mem_of_getElem? (i := 1542) (by decide +kernel), List.mem_of_getElem? (i := 1543) (by decide +kernel)⟩
theorem lw_p89 : lw_okq (⟨"EndlessRowsModel", "isRow", "(I)Z"⟩, 92) := ⟨⟨by decide +kernel, by decide +kernel⟩, List.mem_of_getElem? (i := 1199) (by decide +kernel), List.mem_of_getElem? (i := 1558) (by decide +kernel), List.mem_of_getElem? (i := 1559) (by decide +kernel)⟩
theorem lw_p90 : lw_okq (⟨"EndlessRowsModel", "noPairs", "()V"⟩, 92) := ⟨⟨by decide +kernel, by decide +kernel⟩, List.mem_of_getElem? (i := 1199) (by decide +kernel), List.mem_of_getElem? (i := 1562) (by decide +kernel), List.mem_of_getElem? (i := 1563) (by decide +kernel)⟩
theorem lw_p91 : lw_okq (⟨"EndlessRowsModel", "paired", "(II)I"⟩, 92) := ⟨⟨by decide +kernel, by decide +kernel⟩, List.mem_of_getElem? (i := 1199) (by decide +kernel), List.mem_of_getElem? (i := 1566) (by decide +kernel), List.mem_of_getElem? (i := 1567) (by decide +kernel)⟩
theorem lw_p92 : lw_okq (⟨"EndlessRowsModel", "rowTo", "(III)I"⟩, 92) := ⟨⟨by decide +kernel, by decide +kernel⟩, List.mem_of_getElem? (i := 1199) (by decide +kernel), List.mem_of_getElem? (i := 1570) (by decide +kernel), List.mem_of_getElem? (i := 1571) (by decide +kernel)⟩
theorem lw_p93 : lw_okq (⟨"EndlessRowsModel", "canAsk", "(I)Z"⟩, 92) := ⟨⟨by decide +kernel, by decide +kernel⟩, List.mem_of_getElem? (i := 1199) (by decide +kernel), List.mem_of_getElem? (i := 1578) (by decide +kernel), List.mem_of_getElem? (i := 1579) (by decide +kernel)⟩
theorem lw_p94 : lw_okq (⟨"EndlessRowsModel", "read", "()V"⟩, 92) := ⟨⟨by decide +kernel, by decide +kernel⟩, List.mem_of_getElem? (i := 1199) (by decide +kernel), List.mem_of_getElem? (i := 1598) (by decide +kernel), List.mem_of_getElem? (i := 1599) (by decide +kernel)⟩
theorem lw_p95 : lw_okq (⟨"EndlessRowsModel", "next", "()V"⟩, 92) := ⟨⟨by decide +kernel, by decide +kernel⟩, List.mem_of_getElem? (i := 1199) (by decide +kernel), List.mem_of_getElem? (i := 1602) (by decide +kernel), List.mem_of_getElem? (i := 1603) (by decide +kernel)⟩
def lw_privs_6 : List (MethodName × Nat) := [(⟨"EndlessRowsModel", "done", "(I)I"⟩, 92), (⟨"EndlessRowsModel", "isOther", "(II)Z"⟩, 92), (⟨"EndlessRowsModel", "isAbove", "(IIII)Z"⟩, 92), (⟨"EndlessRowsModel", "least", "()V"⟩, 92), (⟨"EndlessRowsModel", "apart", "()V"⟩, 92), (⟨"EndlessRowsModel", "place", "(I)I"⟩, 92), (⟨"EndlessRowsModel", "isAlike", "(II)Z"⟩, 92), (⟨"EndlessRowsModel", "newRow", "(I)I"⟩, 92), (⟨"EndlessRowsModel", "stepOf", "(II)I"⟩, 92), (⟨"EndlessRowsModel", "isRow", "(I)Z"⟩, 92), (⟨"EndlessRowsModel", "noPairs", "()V"⟩, 92), (⟨"EndlessRowsModel", "paired", "(II)I"⟩, 92), (⟨"EndlessRowsModel", "rowTo", "(III)I"⟩, 92), (⟨"EndlessRowsModel", "canAsk", "(I)Z"⟩, 92), (⟨"EndlessRowsModel", "read", "()V"⟩, 92), (⟨"EndlessRowsModel", "next", "()V"⟩, 92)]
theorem lw_r6 : ∀ q ∈ lw_privs_6, lw_okq q := List.forall_mem_cons.mpr ⟨lw_p80, List.forall_mem_cons.mpr ⟨lw_p81, List.forall_mem_cons.mpr ⟨lw_p82, List.forall_mem_cons.mpr ⟨lw_p83, List.forall_mem_cons.mpr ⟨lw_p84, List.forall_mem_cons.mpr ⟨lw_p85, List.forall_mem_cons.mpr ⟨lw_p86, List.forall_mem_cons.mpr ⟨lw_p87, List.forall_mem_cons.mpr ⟨lw_p88, List.forall_mem_cons.mpr ⟨lw_p89, List.forall_mem_cons.mpr ⟨lw_p90, List.forall_mem_cons.mpr ⟨lw_p91, List.forall_mem_cons.mpr ⟨lw_p92, List.forall_mem_cons.mpr ⟨lw_p93, List.forall_mem_cons.mpr ⟨lw_p94, List.forall_mem_cons.mpr ⟨lw_p95, fun _ h => absurd h List.not_mem_nil⟩⟩⟩⟩⟩⟩⟩⟩⟩⟩⟩⟩⟩⟩⟩⟩
theorem lw_p96 : lw_okq (⟨"EndlessRowsModel", "byteAt", "(I)I"⟩, 92) := ⟨⟨by decide +kernel, by decide +kernel⟩, List.mem_of_getElem? (i := 1199) (by decide +kernel), List.mem_of_getElem? (i := 1606) (by decide +kernel), List.mem_of_getElem? (i := 1607) (by decide +kernel)⟩
theorem lw_p97 : lw_okq (⟨"EndlessRowsModel", "digits", "()V"⟩, 92) := ⟨⟨by decide +kernel, by decide +kernel⟩, List.mem_of_getElem? (i := 1199) (by decide +kernel), List.mem_of_getElem? (i := 1613) (by decide +kernel), List.mem_of_getElem? (i := 1614) (by decide +kernel)⟩
theorem lw_p98 : lw_okq (⟨"EndlessRowsModel", "cannot", "()V"⟩, 92) := ⟨⟨by decide +kernel, by decide +kernel⟩, List.mem_of_getElem? (i := 1199) (by decide +kernel), List.mem_of_getElem? (i := 1617) (by decide +kernel), List.mem_of_getElem? (i := 1618) (by decide +kernel)⟩
theorem lw_p99 : lw_okq (⟨"EndlessRowsModel", "letters", "()V"⟩, 92) := ⟨⟨by decide +kernel, by decide +kernel⟩, List.mem_of_getElem? (i := 1199) (by decide +kernel), List.mem_of_getElem? (i := 1624) (by decide +kernel), List.mem_of_getElem? (i := 1625) (by decide +kernel)⟩
theorem lw_p100 : lw_okq (⟨"EndlessRowsModel", "isWord", "(IIII)Z"⟩, 92) := ⟨⟨by decide +kernel, by decide +kernel⟩, List.mem_of_getElem? (i := 1199) (by decide +kernel), List.mem_of_getElem? (i := 1628) (by decide +kernel), List.mem_of_getElem? (i := 1629) (by decide +kernel)⟩
theorem lw_p101 : lw_okq (⟨"EndlessRowsModel", "ended", "(IIIII)I"⟩, 92) := ⟨⟨by decide +kernel, by decide +kernel⟩, List.mem_of_getElem? (i := 1199) (by decide +kernel), List.mem_of_getElem? (i := 1644) (by decide +kernel), List.mem_of_getElem? (i := 1645) (by decide +kernel)⟩
theorem lw_p102 : lw_okq (⟨"EndlessRowsModel", "notes", "(I)V"⟩, 92) := ⟨⟨by decide +kernel, by decide +kernel⟩, List.mem_of_getElem? (i := 1199) (by decide +kernel), List.mem_of_getElem? (i := 1651) (by decide +kernel), List.mem_of_getElem? (i := 1652) (by decide +kernel)⟩
theorem lw_p103 : lw_okq (⟨"EndlessRowsModel", "isSign", "(I)Z"⟩, 92) := ⟨⟨by decide +kernel, by decide +kernel⟩, List.mem_of_getElem? (i := 1199) (by decide +kernel), List.mem_of_getElem? (i := 1655) (by decide +kernel), List.mem_of_getElem? (i := 1656) (by decide +kernel)⟩
theorem lw_p104 : lw_okq (⟨"EndlessRowsModel", "need", "(I)V"⟩, 92) := ⟨⟨by decide +kernel, by decide +kernel⟩, List.mem_of_getElem? (i := 1199) (by decide +kernel), List.mem_of_getElem? (i := 1659) (by decide +kernel), List.mem_of_getElem? (i := 1660) (by decide +kernel)⟩
theorem lw_p105 : lw_okq (⟨"EndlessRowsModel", "atom", "()I"⟩, 92) := ⟨⟨by decide +kernel, by decide +kernel⟩, List.mem_of_getElem? (i := 1199) (by decide +kernel), List.mem_of_getElem? (i := 1663) (by decide +kernel), List.mem_of_getElem? (i := 1664) (by decide +kernel)⟩
theorem lw_p106 : lw_okq (⟨"EndlessRowsModel", "lettersAtom", "()I"⟩, 92) := ⟨⟨by decide +kernel, by decide +kernel⟩, List.mem_of_getElem? (i := 1199) (by decide +kernel), List.mem_of_getElem? (i := 1667) (by decide +kernel), List.mem_of_getElem? (i := 1668) (by decide +kernel)⟩
theorem lw_p107 : lw_okq (⟨"EndlessRowsModel", "rowPlace", "()V"⟩, 92) := ⟨⟨by decide +kernel, by decide +kernel⟩, List.mem_of_getElem? (i := 1199) (by decide +kernel), List.mem_of_getElem? (i := 1671) (by decide +kernel), List.mem_of_getElem? (i := 1672) (by decide +kernel)⟩
theorem lw_p108 : lw_okq (⟨"EndlessRowsModel", "sums", "(I)V"⟩, 92) := ⟨⟨by decide +kernel, by decide +kernel⟩, List.mem_of_getElem? (i := 1199) (by decide +kernel), List.mem_of_getElem? (i := 1675) (by decide +kernel), List.mem_of_getElem? (i := 1676) (by decide +kernel)⟩
theorem lw_p109 : lw_okq (⟨"EndlessRowsModel", "term", "(I)V"⟩, 92) := ⟨⟨by decide +kernel, by decide +kernel⟩, List.mem_of_getElem? (i := 1199) (by decide +kernel), List.mem_of_getElem? (i := 1679) (by decide +kernel), List.mem_of_getElem? (i := 1680) (by decide +kernel)⟩
theorem lw_p110 : lw_okq (⟨"EndlessRowsModel", "machineOf", "(I)Z"⟩, 92) := ⟨⟨by decide +kernel, by decide +kernel⟩, List.mem_of_getElem? (i := 1199) (by decide +kernel), List.mem_of_getElem? (i := 1683) (by decide +kernel), List.mem_of_getElem? (i := 1684) (by decide +kernel)⟩
theorem lw_p111 : lw_okq (⟨"EndlessRowsModel", "sumsMachine", "(I)Z"⟩, 92) := ⟨⟨by decide +kernel, by decide +kernel⟩, List.mem_of_getElem? (i := 1199) (by decide +kernel), List.mem_of_getElem? (i := 1687) (by decide +kernel), List.mem_of_getElem? (i := 1688) (by decide +kernel)⟩
def lw_privs_7 : List (MethodName × Nat) := [(⟨"EndlessRowsModel", "byteAt", "(I)I"⟩, 92), (⟨"EndlessRowsModel", "digits", "()V"⟩, 92), (⟨"EndlessRowsModel", "cannot", "()V"⟩, 92), (⟨"EndlessRowsModel", "letters", "()V"⟩, 92), (⟨"EndlessRowsModel", "isWord", "(IIII)Z"⟩, 92), (⟨"EndlessRowsModel", "ended", "(IIIII)I"⟩, 92), (⟨"EndlessRowsModel", "notes", "(I)V"⟩, 92), (⟨"EndlessRowsModel", "isSign", "(I)Z"⟩, 92), (⟨"EndlessRowsModel", "need", "(I)V"⟩, 92), (⟨"EndlessRowsModel", "atom", "()I"⟩, 92), (⟨"EndlessRowsModel", "lettersAtom", "()I"⟩, 92), (⟨"EndlessRowsModel", "rowPlace", "()V"⟩, 92), (⟨"EndlessRowsModel", "sums", "(I)V"⟩, 92), (⟨"EndlessRowsModel", "term", "(I)V"⟩, 92), (⟨"EndlessRowsModel", "machineOf", "(I)Z"⟩, 92), (⟨"EndlessRowsModel", "sumsMachine", "(I)Z"⟩, 92)]
theorem lw_r7 : ∀ q ∈ lw_privs_7, lw_okq q := List.forall_mem_cons.mpr ⟨lw_p96, List.forall_mem_cons.mpr ⟨lw_p97, List.forall_mem_cons.mpr ⟨lw_p98, List.forall_mem_cons.mpr ⟨lw_p99, List.forall_mem_cons.mpr ⟨lw_p100, List.forall_mem_cons.mpr ⟨lw_p101, List.forall_mem_cons.mpr ⟨lw_p102, List.forall_mem_cons.mpr ⟨lw_p103, List.forall_mem_cons.mpr ⟨lw_p104, List.forall_mem_cons.mpr ⟨lw_p105, List.forall_mem_cons.mpr ⟨lw_p106, List.forall_mem_cons.mpr ⟨lw_p107, List.forall_mem_cons.mpr ⟨lw_p108, List.forall_mem_cons.mpr ⟨lw_p109, List.forall_mem_cons.mpr ⟨lw_p110, List.forall_mem_cons.mpr ⟨lw_p111, fun _ h => absurd h List.not_mem_nil⟩⟩⟩⟩⟩⟩⟩⟩⟩⟩⟩⟩⟩⟩⟩⟩
theorem lw_p112 : lw_okq (⟨"EndlessRowsModel", "across", "(I)I"⟩, 92) := ⟨⟨by decide +kernel, by decide +kernel⟩, List.mem_of_getElem? (i := 1199) (by decide +kernel), List.mem_of_getElem? (i := 1691) (by decide +kernel), List.mem_of_getElem? (i := 1692) (by decide +kernel)⟩
theorem lw_p113 : lw_okq (⟨"EndlessRowsModel", "difference", "(J)I"⟩, 92) := ⟨⟨by decide +kernel, by decide +kernel⟩, List.mem_of_getElem? (i := 1199) (by decide +kernel), List.mem_of_getElem? (i := 1695) (by decide +kernel), List.mem_of_getElem? (i := 1696) (by decide +kernel)⟩
theorem lw_p114 : lw_okq (⟨"EndlessRowsModel", "digitOf", "(III)I"⟩, 92) := ⟨⟨by decide +kernel, by decide +kernel⟩, List.mem_of_getElem? (i := 1199) (by decide +kernel), List.mem_of_getElem? (i := 1699) (by decide +kernel), List.mem_of_getElem? (i := 1700) (by decide +kernel)⟩
theorem lw_p115 : lw_okq (⟨"EndlessRowsModel", "becomes", "(I)Z"⟩, 92) := ⟨⟨by decide +kernel, by decide +kernel⟩, List.mem_of_getElem? (i := 1199) (by decide +kernel), List.mem_of_getElem? (i := 1703) (by decide +kernel), List.mem_of_getElem? (i := 1704) (by decide +kernel)⟩
theorem lw_p116 : lw_okq (⟨"EndlessRowsModel", "lettersMachine", "(I)Z"⟩, 92) := ⟨⟨by decide +kernel, by decide +kernel⟩, List.mem_of_getElem? (i := 1199) (by decide +kernel), List.mem_of_getElem? (i := 1707) (by decide +kernel), List.mem_of_getElem? (i := 1708) (by decide +kernel)⟩
theorem lw_p117 : lw_okq (⟨"EndlessRowsModel", "side", "(IIIII)Z"⟩, 92) := ⟨⟨by decide +kernel, by decide +kernel⟩, List.mem_of_getElem? (i := 1199) (by decide +kernel), List.mem_of_getElem? (i := 1711) (by decide +kernel), List.mem_of_getElem? (i := 1712) (by decide +kernel)⟩
theorem lw_p118 : lw_okq (⟨"EndlessRowsModel", "tupleOf", "(I)I"⟩, 92) := ⟨⟨by decide +kernel, by decide +kernel⟩, List.mem_of_getElem? (i := 1199) (by decide +kernel), List.mem_of_getElem? (i := 1718) (by decide +kernel), List.mem_of_getElem? (i := 1719) (by decide +kernel)⟩
theorem lw_p119 : lw_okq (⟨"EndlessRowsModel", "within", "(III)I"⟩, 92) := ⟨⟨by decide +kernel, by decide +kernel⟩, List.mem_of_getElem? (i := 1199) (by decide +kernel), List.mem_of_getElem? (i := 1722) (by decide +kernel), List.mem_of_getElem? (i := 1723) (by decide +kernel)⟩
theorem lw_p120 : lw_okq (⟨"EndlessRowsModel", "copy", "(IZ)V"⟩, 92) := ⟨⟨by decide +kernel, by decide +kernel⟩, List.mem_of_getElem? (i := 1199) (by decide +kernel), List.mem_of_getElem? (i := 1726) (by decide +kernel), List.mem_of_getElem? (i := 1727) (by decide +kernel)⟩
theorem lw_p121 : lw_okq (⟨"EndlessRowsModel", "pTo", "(III)I"⟩, 92) := ⟨⟨by decide +kernel, by decide +kernel⟩, List.mem_of_getElem? (i := 1199) (by decide +kernel), List.mem_of_getElem? (i := 1730) (by decide +kernel), List.mem_of_getElem? (i := 1731) (by decide +kernel)⟩
theorem lw_p122 : lw_okq (⟨"EndlessRowsModel", "bounds", "(I)Z"⟩, 92) := ⟨⟨by decide +kernel, by decide +kernel⟩, List.mem_of_getElem? (i := 1199) (by decide +kernel), List.mem_of_getElem? (i := 1734) (by decide +kernel), List.mem_of_getElem? (i := 1735) (by decide +kernel)⟩
theorem lw_p123 : lw_okq (⟨"EndlessRowsModel", "steps", "(IJII)J"⟩, 92) := ⟨⟨by decide +kernel, by decide +kernel⟩, List.mem_of_getElem? (i := 1199) (by decide +kernel), List.mem_of_getElem? (i := 1738) (by decide +kernel), List.mem_of_getElem? (i := 1739) (by decide +kernel)⟩
theorem lw_p124 : lw_okq (⟨"EndlessRowsModel", "setOf", "(J)I"⟩, 92) := ⟨⟨by decide +kernel, by decide +kernel⟩, List.mem_of_getElem? (i := 1199) (by decide +kernel), List.mem_of_getElem? (i := 1742) (by decide +kernel), List.mem_of_getElem? (i := 1743) (by decide +kernel)⟩
theorem lw_p125 : lw_okq (⟨"EndlessRowsModel", "joins", "(I)Z"⟩, 92) := ⟨⟨by decide +kernel, by decide +kernel⟩, List.mem_of_getElem? (i := 1199) (by decide +kernel), List.mem_of_getElem? (i := 1746) (by decide +kernel), List.mem_of_getElem? (i := 1747) (by decide +kernel)⟩
theorem lw_p126 : lw_okq (⟨"EndlessRowsModel", "digitsOf", "(IJI)V"⟩, 92) := ⟨⟨by decide +kernel, by decide +kernel⟩, List.mem_of_getElem? (i := 1199) (by decide +kernel), List.mem_of_getElem? (i := 1766) (by decide +kernel), List.mem_of_getElem? (i := 1767) (by decide +kernel)⟩
theorem lw_p127 : lw_okq (⟨"EndlessRowsModel", "longer", "(JI)J"⟩, 92) := ⟨⟨by decide +kernel, by decide +kernel⟩, List.mem_of_getElem? (i := 1199) (by decide +kernel), List.mem_of_getElem? (i := 1780) (by decide +kernel), List.mem_of_getElem? (i := 1781) (by decide +kernel)⟩
def lw_privs_8 : List (MethodName × Nat) := [(⟨"EndlessRowsModel", "across", "(I)I"⟩, 92), (⟨"EndlessRowsModel", "difference", "(J)I"⟩, 92), (⟨"EndlessRowsModel", "digitOf", "(III)I"⟩, 92), (⟨"EndlessRowsModel", "becomes", "(I)Z"⟩, 92), (⟨"EndlessRowsModel", "lettersMachine", "(I)Z"⟩, 92), (⟨"EndlessRowsModel", "side", "(IIIII)Z"⟩, 92), (⟨"EndlessRowsModel", "tupleOf", "(I)I"⟩, 92), (⟨"EndlessRowsModel", "within", "(III)I"⟩, 92), (⟨"EndlessRowsModel", "copy", "(IZ)V"⟩, 92), (⟨"EndlessRowsModel", "pTo", "(III)I"⟩, 92), (⟨"EndlessRowsModel", "bounds", "(I)Z"⟩, 92), (⟨"EndlessRowsModel", "steps", "(IJII)J"⟩, 92), (⟨"EndlessRowsModel", "setOf", "(J)I"⟩, 92), (⟨"EndlessRowsModel", "joins", "(I)Z"⟩, 92), (⟨"EndlessRowsModel", "digitsOf", "(IJI)V"⟩, 92), (⟨"EndlessRowsModel", "longer", "(JI)J"⟩, 92)]
theorem lw_r8 : ∀ q ∈ lw_privs_8, lw_okq q := List.forall_mem_cons.mpr ⟨lw_p112, List.forall_mem_cons.mpr ⟨lw_p113, List.forall_mem_cons.mpr ⟨lw_p114, List.forall_mem_cons.mpr ⟨lw_p115, List.forall_mem_cons.mpr ⟨lw_p116, List.forall_mem_cons.mpr ⟨lw_p117, List.forall_mem_cons.mpr ⟨lw_p118, List.forall_mem_cons.mpr ⟨lw_p119, List.forall_mem_cons.mpr ⟨lw_p120, List.forall_mem_cons.mpr ⟨lw_p121, List.forall_mem_cons.mpr ⟨lw_p122, List.forall_mem_cons.mpr ⟨lw_p123, List.forall_mem_cons.mpr ⟨lw_p124, List.forall_mem_cons.mpr ⟨lw_p125, List.forall_mem_cons.mpr ⟨lw_p126, List.forall_mem_cons.mpr ⟨lw_p127, fun _ h => absurd h List.not_mem_nil⟩⟩⟩⟩⟩⟩⟩⟩⟩⟩⟩⟩⟩⟩⟩⟩
theorem lw_p128 : lw_okq (⟨"EndlessRowsModel", "to", "(III)I"⟩, 92) := ⟨⟨by decide +kernel, by decide +kernel⟩, List.mem_of_getElem? (i := 1199) (by decide +kernel), List.mem_of_getElem? (i := 1797) (by decide +kernel), List.mem_of_getElem? (i := 1798) (by decide +kernel)⟩
theorem lw_p129 : lw_okq (⟨"EndlessRowsModel", "isOfOne", "(II)Z"⟩, 92) := ⟨⟨by decide +kernel, by decide +kernel⟩, List.mem_of_getElem? (i := 1199) (by decide +kernel), List.mem_of_getElem? (i := 1813) (by decide +kernel), List.mem_of_getElem? (i := 1814) (by decide +kernel)⟩
theorem lw_p130 : lw_okq (⟨"EndlessRowsModel", "leadsAll", "(I)V"⟩, 92) := ⟨⟨by decide +kernel, by decide +kernel⟩, List.mem_of_getElem? (i := 1199) (by decide +kernel), List.mem_of_getElem? (i := 1817) (by decide +kernel), List.mem_of_getElem? (i := 1818) (by decide +kernel)⟩
theorem lw_p131 : lw_okq (⟨"EndlessRowsModel", "lowest", "(IIII)J"⟩, 92) := ⟨⟨by decide +kernel, by decide +kernel⟩, List.mem_of_getElem? (i := 1199) (by decide +kernel), List.mem_of_getElem? (i := 1821) (by decide +kernel), List.mem_of_getElem? (i := 1822) (by decide +kernel)⟩
theorem lw_p132 : lw_okq (⟨"EndlessRowsModel", "howMany", "(IJI)J"⟩, 92) := ⟨⟨by decide +kernel, by decide +kernel⟩, List.mem_of_getElem? (i := 1199) (by decide +kernel), List.mem_of_getElem? (i := 1829) (by decide +kernel), List.mem_of_getElem? (i := 1830) (by decide +kernel)⟩
theorem lw_p133 : lw_okq (⟨"EndlessRowsModel", "good", "(II)V"⟩, 92) := ⟨⟨by decide +kernel, by decide +kernel⟩, List.mem_of_getElem? (i := 1199) (by decide +kernel), List.mem_of_getElem? (i := 1833) (by decide +kernel), List.mem_of_getElem? (i := 1834) (by decide +kernel)⟩
theorem lw_p134 : lw_okq (⟨"EndlessRowsModel", "behind", "(II)J"⟩, 92) := ⟨⟨by decide +kernel, by decide +kernel⟩, List.mem_of_getElem? (i := 1199) (by decide +kernel), List.mem_of_getElem? (i := 1837) (by decide +kernel), List.mem_of_getElem? (i := 1838) (by decide +kernel)⟩
theorem lw_p135 : lw_okq (⟨"EndlessRowsModel", "goes", "(III)V"⟩, 92) := ⟨⟨by decide +kernel, by decide +kernel⟩, List.mem_of_getElem? (i := 1199) (by decide +kernel), List.mem_of_getElem? (i := 1841) (by decide +kernel), List.mem_of_getElem? (i := 1842) (by decide +kernel)⟩
theorem lw_p136 : lw_okq (⟨"EndlessRowsModel", "start", "(II)J"⟩, 92) := ⟨⟨by decide +kernel, by decide +kernel⟩, List.mem_of_getElem? (i := 1199) (by decide +kernel), List.mem_of_getElem? (i := 1848) (by decide +kernel), List.mem_of_getElem? (i := 1849) (by decide +kernel)⟩
theorem lw_p137 : lw_okq (⟨"EndlessRowsModel", "read0", "(II)I"⟩, 92) := ⟨⟨by decide +kernel, by decide +kernel⟩, List.mem_of_getElem? (i := 1199) (by decide +kernel), List.mem_of_getElem? (i := 1865) (by decide +kernel), List.mem_of_getElem? (i := 1866) (by decide +kernel)⟩
theorem lw_p138 : lw_okq (⟨"EndlessRowsModel", "isGrown", "(I)Z"⟩, 92) := ⟨⟨by decide +kernel, by decide +kernel⟩, List.mem_of_getElem? (i := 1199) (by decide +kernel), List.mem_of_getElem? (i := 1869) (by decide +kernel), List.mem_of_getElem? (i := 1870) (by decide +kernel)⟩
theorem lw_p139 : lw_okq (⟨"EndlessRowsModel", "ran", "(I)V"⟩, 92) := ⟨⟨by decide +kernel, by decide +kernel⟩, List.mem_of_getElem? (i := 1199) (by decide +kernel), List.mem_of_getElem? (i := 1873) (by decide +kernel), List.mem_of_getElem? (i := 1874) (by decide +kernel)⟩
theorem lw_p140 : lw_okq (⟨"EndlessRowsModel", "step0", "(II)I"⟩, 92) := ⟨⟨by decide +kernel, by decide +kernel⟩, List.mem_of_getElem? (i := 1199) (by decide +kernel), List.mem_of_getElem? (i := 1877) (by decide +kernel), List.mem_of_getElem? (i := 1878) (by decide +kernel)⟩
theorem lw_p141 : lw_okq (⟨"EndlessRowsModel", "join0", "(II)I"⟩, 92) := ⟨⟨by decide +kernel, by decide +kernel⟩, List.mem_of_getElem? (i := 1199) (by decide +kernel), List.mem_of_getElem? (i := 1881) (by decide +kernel), List.mem_of_getElem? (i := 1882) (by decide +kernel)⟩
theorem lw_p142 : lw_okq (⟨"EndlessRowsModel", "tell0", "(II)I"⟩, 92) := ⟨⟨by decide +kernel, by decide +kernel⟩, List.mem_of_getElem? (i := 1199) (by decide +kernel), List.mem_of_getElem? (i := 1885) (by decide +kernel), List.mem_of_getElem? (i := 1886) (by decide +kernel)⟩
theorem lw_p143 : lw_okq (⟨"EndlessRowsModel", "machineTell", "(II)I"⟩, 92) := ⟨⟨by decide +kernel, by decide +kernel⟩, List.mem_of_getElem? (i := 1199) (by decide +kernel), List.mem_of_getElem? (i := 1889) (by decide +kernel), List.mem_of_getElem? (i := 1890) (by decide +kernel)⟩
def lw_privs_9 : List (MethodName × Nat) := [(⟨"EndlessRowsModel", "to", "(III)I"⟩, 92), (⟨"EndlessRowsModel", "isOfOne", "(II)Z"⟩, 92), (⟨"EndlessRowsModel", "leadsAll", "(I)V"⟩, 92), (⟨"EndlessRowsModel", "lowest", "(IIII)J"⟩, 92), (⟨"EndlessRowsModel", "howMany", "(IJI)J"⟩, 92), (⟨"EndlessRowsModel", "good", "(II)V"⟩, 92), (⟨"EndlessRowsModel", "behind", "(II)J"⟩, 92), (⟨"EndlessRowsModel", "goes", "(III)V"⟩, 92), (⟨"EndlessRowsModel", "start", "(II)J"⟩, 92), (⟨"EndlessRowsModel", "read0", "(II)I"⟩, 92), (⟨"EndlessRowsModel", "isGrown", "(I)Z"⟩, 92), (⟨"EndlessRowsModel", "ran", "(I)V"⟩, 92), (⟨"EndlessRowsModel", "step0", "(II)I"⟩, 92), (⟨"EndlessRowsModel", "join0", "(II)I"⟩, 92), (⟨"EndlessRowsModel", "tell0", "(II)I"⟩, 92), (⟨"EndlessRowsModel", "machineTell", "(II)I"⟩, 92)]
theorem lw_r9 : ∀ q ∈ lw_privs_9, lw_okq q := List.forall_mem_cons.mpr ⟨lw_p128, List.forall_mem_cons.mpr ⟨lw_p129, List.forall_mem_cons.mpr ⟨lw_p130, List.forall_mem_cons.mpr ⟨lw_p131, List.forall_mem_cons.mpr ⟨lw_p132, List.forall_mem_cons.mpr ⟨lw_p133, List.forall_mem_cons.mpr ⟨lw_p134, List.forall_mem_cons.mpr ⟨lw_p135, List.forall_mem_cons.mpr ⟨lw_p136, List.forall_mem_cons.mpr ⟨lw_p137, List.forall_mem_cons.mpr ⟨lw_p138, List.forall_mem_cons.mpr ⟨lw_p139, List.forall_mem_cons.mpr ⟨lw_p140, List.forall_mem_cons.mpr ⟨lw_p141, List.forall_mem_cons.mpr ⟨lw_p142, List.forall_mem_cons.mpr ⟨lw_p143, fun _ h => absurd h List.not_mem_nil⟩⟩⟩⟩⟩⟩⟩⟩⟩⟩⟩⟩⟩⟩⟩⟩
theorem lw_p144 : lw_okq (⟨"EndlessRowsModel", "rowTaken", "(II)I"⟩, 92) := ⟨⟨by decide +kernel, by decide +kernel⟩, List.mem_of_getElem? (i := 1199) (by decide +kernel), List.mem_of_getElem? (i := 1904) (by decide +kernel), List.mem_of_getElem? (i := 1905) (by decide +kernel)⟩
theorem lw_p145 : lw_okq (⟨"EndlessRowsModel", "copied", "(II)I"⟩, 92) := ⟨⟨by decide +kernel, by decide +kernel⟩, List.mem_of_getElem? (i := 1199) (by decide +kernel), List.mem_of_getElem? (i := 1908) (by decide +kernel), List.mem_of_getElem? (i := 1909) (by decide +kernel)⟩
def lw_privs_10 : List (MethodName × Nat) := [(⟨"EndlessRowsModel", "rowTaken", "(II)I"⟩, 92), (⟨"EndlessRowsModel", "copied", "(II)I"⟩, 92)]
theorem lw_r10 : ∀ q ∈ lw_privs_10, lw_okq q := List.forall_mem_cons.mpr ⟨lw_p144, List.forall_mem_cons.mpr ⟨lw_p145, fun _ h => absurd h List.not_mem_nil⟩⟩
def lw_privs : List (MethodName × Nat) := lw_privs_1 ++ (lw_privs_2 ++ (lw_privs_3 ++ (lw_privs_4 ++ (lw_privs_5 ++ (lw_privs_6 ++ (lw_privs_7 ++ (lw_privs_8 ++ (lw_privs_9 ++ (lw_privs_10)))))))))
def lw_tbl : List Cond := k2_sels lw_privs ++ tables_1
theorem lw_privs_ok : ∀ q ∈ lw_privs, lw_okq q := by
  show ∀ q ∈ lw_privs_1 ++ (lw_privs_2 ++ (lw_privs_3 ++ (lw_privs_4 ++ (lw_privs_5 ++ (lw_privs_6 ++ (lw_privs_7 ++ (lw_privs_8 ++ (lw_privs_9 ++ (lw_privs_10))))))))), lw_okq q
  exact List.forall_mem_append.mpr ⟨lw_r1, List.forall_mem_append.mpr ⟨lw_r2, List.forall_mem_append.mpr ⟨lw_r3, List.forall_mem_append.mpr ⟨lw_r4, List.forall_mem_append.mpr ⟨lw_r5, List.forall_mem_append.mpr ⟨lw_r6, List.forall_mem_append.mpr ⟨lw_r7, List.forall_mem_append.mpr ⟨lw_r8, List.forall_mem_append.mpr ⟨lw_r9, lw_r10⟩⟩⟩⟩⟩⟩⟩⟩⟩
def RX0 : String := "EndlessRows$Acts"
def TX0 : u_T := fun k => match k with
  | 0 => ("EndlessRows$Acts", "trace", "[I", true)
  | 1 => ("EndlessRows$Acts", "kept", "I", false)
  | 2 => ("EndlessRows$Acts", "kind", "I", false)
  | 3 => ("EndlessRows$Acts", "number", "I", false)
  | _ => ("EndlessRows$Acts", "wide", "I", false)
def tyX0 : Nat → FieldType := fun k => match k with
  | 0 => .array .int
  | 1 => .int
  | 2 => .int
  | 3 => .int
  | _ => .int
abbrev wsX00 : List Cond := u_ws RX0 TX0 5
theorem nmX0 : ∀ a, a < 5 → ∀ b, b < 5 → a ≠ b → (TX0 a).2.1 ≠ (TX0 b).2.1 := by decide +kernel
theorem tyX0_ok : ∀ k, k < 5 → parseFieldDescriptor (TX0 k).2.2.1 = some (tyX0 k) := by decide +kernel
abbrev cX0_init : ByteArray := prog_2_method_1_code
def yX0_init : MethodName := ⟨RX0, "<init>", "()V"⟩
abbrev cX0_run : ByteArray := prog_2_method_2_code
def yX0_run : MethodName := ⟨RX0, "run", "(IIIII)I"⟩
abbrev cX0_ran : ByteArray := prog_2_method_3_code
def yX0_ran : MethodName := ⟨RX0, "ran", "(I)V"⟩
abbrev cX0_isGrown : ByteArray := prog_2_method_4_code
def yX0_isGrown : MethodName := ⟨RX0, "isGrown", "()Z"⟩
abbrev cX0_reading : ByteArray := prog_2_method_5_code
def yX0_reading : MethodName := ⟨RX0, "reading", "(I)I"⟩
abbrev cX0_stepping : ByteArray := prog_2_method_6_code
def yX0_stepping : MethodName := ⟨RX0, "stepping", "(I)I"⟩
abbrev cX0_joining : ByteArray := prog_2_method_7_code
def yX0_joining : MethodName := ⟨RX0, "joining", "(I)I"⟩
abbrev cX0_telling : ByteArray := prog_2_method_8_code
def yX0_telling : MethodName := ⟨RX0, "telling", "(I)I"⟩
def RX1 : String := "EndlessRows$Least"
def TX1 : u_T := fun k => match k with
  | 0 => ("EndlessRows$Least", "moves", "[I", true)
  | 1 => ("EndlessRows$Least", "marks", "[I", true)
  | 2 => ("EndlessRows$Least", "states", "I", false)
  | _ => ("EndlessRows$Least", "fan", "I", false)
def tyX1 : Nat → FieldType := fun k => match k with
  | 0 => .array .int
  | 1 => .array .int
  | 2 => .int
  | _ => .int
abbrev wsX10 : List Cond := u_ws RX1 TX1 4
theorem nmX1 : ∀ a, a < 4 → ∀ b, b < 4 → a ≠ b → (TX1 a).2.1 ≠ (TX1 b).2.1 := by decide +kernel
theorem tyX1_ok : ∀ k, k < 4 → parseFieldDescriptor (TX1 k).2.2.1 = some (tyX1 k) := by decide +kernel
abbrev cX1_init : ByteArray := prog_3_method_1_code
def yX1_init : MethodName := ⟨RX1, "<init>", "(II)V"⟩
abbrev cX1_after : ByteArray := prog_3_method_2_code
def yX1_after : MethodName := ⟨RX1, "after", "(II)I"⟩
abbrev cX1_mark : ByteArray := prog_3_method_3_code
def yX1_mark : MethodName := ⟨RX1, "mark", "(I)I"⟩
abbrev cX1_size : ByteArray := prog_3_method_4_code
def yX1_size : MethodName := ⟨RX1, "size", "(II)V"⟩
abbrev cX1_put : ByteArray := prog_3_method_5_code
def yX1_put : MethodName := ⟨RX1, "put", "(III)V"⟩
abbrev cX1_putMark : ByteArray := prog_3_method_6_code
def yX1_putMark : MethodName := ⟨RX1, "putMark", "(II)V"⟩
abbrev cX1_become : ByteArray := prog_3_method_7_code
def yX1_become : MethodName := ⟨RX1, "become", "(LEndlessRows$Least;)V"⟩
abbrev cX1_becomeOnly : ByteArray := prog_3_method_8_code
def yX1_becomeOnly : MethodName := ⟨RX1, "becomeOnly", "(I)V"⟩
abbrev cX1_becomeContrary : ByteArray := prog_3_method_9_code
def yX1_becomeContrary : MethodName := ⟨RX1, "becomeContrary", "(LEndlessRows$Least;)V"⟩
abbrev cX1_isLike : ByteArray := prog_3_method_10_code
def yX1_isLike : MethodName := ⟨RX1, "isLike", "(LEndlessRows$Least;)Z"⟩
abbrev cX1_reads : ByteArray := prog_3_method_11_code
def yX1_reads : MethodName := ⟨RX1, "reads", "(JI)I"⟩
abbrev cX1_readsAll : ByteArray := prog_3_method_12_code
def yX1_readsAll : MethodName := ⟨RX1, "readsAll", "(IJJJI)I"⟩
def RX2 : String := "EndlessRows$Loom"
def TX2 : u_T := fun k => match k with
  | 0 => ("EndlessRows$Loom", "keys", "[I", true)
  | 1 => ("EndlessRows$Loom", "ids", "[I", true)
  | 2 => ("EndlessRows$Loom", "marks", "[I", true)
  | 3 => ("EndlessRows$Loom", "links", "[I", true)
  | 4 => ("EndlessRows$Loom", "classes", "[I", true)
  | 5 => ("EndlessRows$Loom", "fresh", "[I", true)
  | 6 => ("EndlessRows$Loom", "table", "[I", true)
  | 7 => ("EndlessRows$Loom", "keyRoom", "I", false)
  | 8 => ("EndlessRows$Loom", "fan", "I", false)
  | _ => ("EndlessRows$Loom", "met", "I", false)
def tyX2 : Nat → FieldType := fun k => match k with
  | 0 => .array .int
  | 1 => .array .int
  | 2 => .array .int
  | 3 => .array .int
  | 4 => .array .int
  | 5 => .array .int
  | 6 => .array .int
  | 7 => .int
  | 8 => .int
  | _ => .int
abbrev wsX20 : List Cond := u_ws RX2 TX2 10
theorem nmX2 : ∀ a, a < 10 → ∀ b, b < 10 → a ≠ b → (TX2 a).2.1 ≠ (TX2 b).2.1 := by decide +kernel
theorem tyX2_ok : ∀ k, k < 10 → parseFieldDescriptor (TX2 k).2.2.1 = some (tyX2 k) := by decide +kernel
abbrev cX2_init : ByteArray := prog_4_method_1_code
def yX2_init : MethodName := ⟨RX2, "<init>", "()V"⟩
abbrev cX2_open : ByteArray := prog_4_method_2_code
def yX2_open : MethodName := ⟨RX2, "open", "(II)V"⟩
abbrev cX2_meet : ByteArray := prog_4_method_3_code
def yX2_meet : MethodName := ⟨RX2, "meet", "(I)I"⟩
abbrev cX2_keyOf : ByteArray := prog_4_method_4_code
def yX2_keyOf : MethodName := ⟨RX2, "keyOf", "(I)I"⟩
abbrev cX2_link : ByteArray := prog_4_method_5_code
def yX2_link : MethodName := ⟨RX2, "link", "(III)V"⟩
abbrev cX2_putMark : ByteArray := prog_4_method_6_code
def yX2_putMark : MethodName := ⟨RX2, "putMark", "(II)V"⟩
abbrev cX2_linkOf : ByteArray := prog_4_method_7_code
def yX2_linkOf : MethodName := ⟨RX2, "linkOf", "(II)I"⟩
abbrev cX2_draw : ByteArray := prog_4_method_8_code
def yX2_draw : MethodName := ⟨RX2, "draw", "(LEndlessRows$Least;I)Z"⟩
abbrev cX2_splitByMarks : ByteArray := prog_4_method_9_code
def yX2_splitByMarks : MethodName := ⟨RX2, "splitByMarks", "()I"⟩
abbrev cX2_splitByLinks : ByteArray := prog_4_method_10_code
def yX2_splitByLinks : MethodName := ⟨RX2, "splitByLinks", "(II)I"⟩
abbrev cX2_number : ByteArray := prog_4_method_11_code
def yX2_number : MethodName := ⟨RX2, "number", "(LEndlessRows$Least;I)V"⟩
def RX3 : String := "EndlessRows$Part"
def TX3 : u_T := fun k => match k with
  | 0 => ("EndlessRows$Part", "leftSide", "LEndlessRows$Side;", true)
  | 1 => ("EndlessRows$Part", "rightSide", "LEndlessRows$Side;", true)
  | 2 => ("EndlessRows$Part", "least", "LEndlessRows$Least;", true)
  | 3 => ("EndlessRows$Part", "form", "I", false)
  | 4 => ("EndlessRows$Part", "place", "I", false)
  | 5 => ("EndlessRows$Part", "left", "I", false)
  | 6 => ("EndlessRows$Part", "right", "I", false)
  | 7 => ("EndlessRows$Part", "sign", "I", false)
  | _ => ("EndlessRows$Part", "names", "I", false)
def tyX3 : Nat → FieldType := fun k => match k with
  | 0 => .object "EndlessRows$Side"
  | 1 => .object "EndlessRows$Side"
  | 2 => .object "EndlessRows$Least"
  | 3 => .int
  | 4 => .int
  | 5 => .int
  | 6 => .int
  | 7 => .int
  | _ => .int
abbrev wsX30 : List Cond := u_ws RX3 TX3 9
theorem nmX3 : ∀ a, a < 9 → ∀ b, b < 9 → a ≠ b → (TX3 a).2.1 ≠ (TX3 b).2.1 := by decide +kernel
theorem tyX3_ok : ∀ k, k < 9 → parseFieldDescriptor (TX3 k).2.2.1 = some (tyX3 k) := by decide +kernel
abbrev cX3_init : ByteArray := prog_5_method_1_code
def yX3_init : MethodName := ⟨RX3, "<init>", "()V"⟩
def RX4 : String := "EndlessRows$Question"
def TX4 : u_T := fun k => match k with
  | 0 => ("EndlessRows$Question", "least", "LEndlessRows$Least;", true)
  | 1 => ("EndlessRows$Question", "fault", "I", false)
  | 2 => ("EndlessRows$Question", "place", "I", false)
  | 3 => ("EndlessRows$Question", "spent", "I", false)
  | 4 => ("EndlessRows$Question", "names", "I", false)
  | 5 => ("EndlessRows$Question", "parts", "I", false)
  | _ => ("EndlessRows$Question", "rows", "I", false)
def tyX4 : Nat → FieldType := fun k => match k with
  | 0 => .object "EndlessRows$Least"
  | 1 => .int
  | 2 => .int
  | 3 => .int
  | 4 => .int
  | 5 => .int
  | _ => .int
abbrev wsX40 : List Cond := u_ws RX4 TX4 7
theorem nmX4 : ∀ a, a < 7 → ∀ b, b < 7 → a ≠ b → (TX4 a).2.1 ≠ (TX4 b).2.1 := by decide +kernel
theorem tyX4_ok : ∀ k, k < 7 → parseFieldDescriptor (TX4 k).2.2.1 = some (tyX4 k) := by decide +kernel
abbrev cX4_init : ByteArray := prog_6_method_1_code
def yX4_init : MethodName := ⟨RX4, "<init>", "()V"⟩
abbrev cX4_clear : ByteArray := prog_6_method_2_code
def yX4_clear : MethodName := ⟨RX4, "clear", "()V"⟩
abbrev cX4_blame : ByteArray := prog_6_method_3_code
def yX4_blame : MethodName := ⟨RX4, "blame", "(II)V"⟩
abbrev cX4_more : ByteArray := prog_6_method_4_code
def yX4_more : MethodName := ⟨RX4, "more", "(I)I"⟩
abbrev cX4_freeName : ByteArray := prog_6_method_5_code
def yX4_freeName : MethodName := ⟨RX4, "freeName", "(I)I"⟩
def RX5 : String := "EndlessRows$Reader"
def TX5 : u_T := fun k => match k with
  | 0 => ("EndlessRows$Reader", "tokens", "LEndlessRows$Tokens;", true)
  | 1 => ("EndlessRows$Reader", "parts", "[LEndlessRows$Part;", true)
  | 2 => ("EndlessRows$Reader", "rows", "[LEndlessRows$Row;", false)
  | 3 => ("EndlessRows$Reader", "rowCount", "I", false)
  | 4 => ("EndlessRows$Reader", "count", "I", false)
  | 5 => ("EndlessRows$Reader", "at", "I", false)
  | 6 => ("EndlessRows$Reader", "broken", "I", false)
  | 7 => ("EndlessRows$Reader", "odd", "I", false)
  | 8 => ("EndlessRows$Reader", "bound", "I", false)
  | _ => ("EndlessRows$Reader", "named", "I", false)
def tyX5 : Nat → FieldType := fun k => match k with
  | 0 => .object "EndlessRows$Tokens"
  | 1 => .array (.object "EndlessRows$Part")
  | 2 => .array (.object "EndlessRows$Row")
  | 3 => .int
  | 4 => .int
  | 5 => .int
  | 6 => .int
  | 7 => .int
  | 8 => .int
  | _ => .int
abbrev wsX50 : List Cond := u_ws RX5 TX5 10
theorem nmX5 : ∀ a, a < 10 → ∀ b, b < 10 → a ≠ b → (TX5 a).2.1 ≠ (TX5 b).2.1 := by decide +kernel
theorem tyX5_ok : ∀ k, k < 10 → parseFieldDescriptor (TX5 k).2.2.1 = some (tyX5 k) := by decide +kernel
abbrev cX5_init : ByteArray := prog_7_method_1_code
def yX5_init : MethodName := ⟨RX5, "<init>", "()V"⟩
abbrev cX5_readText : ByteArray := prog_7_method_2_code
def yX5_readText : MethodName := ⟨RX5, "readText", "([II[LEndlessRows$Row;ILEndlessRows$Question;)V"⟩
abbrev cX5_tell : ByteArray := prog_7_method_3_code
def yX5_tell : MethodName := ⟨RX5, "tell", "(LEndlessRows$Question;)V"⟩
abbrev cX5_crowded : ByteArray := prog_7_method_4_code
def yX5_crowded : MethodName := ⟨RX5, "crowded", "()I"⟩
abbrev cX5_peek : ByteArray := prog_7_method_5_code
def yX5_peek : MethodName := ⟨RX5, "peek", "()I"⟩
abbrev cX5_place : ByteArray := prog_7_method_6_code
def yX5_place : MethodName := ⟨RX5, "place", "()I"⟩
abbrev cX5_worth : ByteArray := prog_7_method_7_code
def yX5_worth : MethodName := ⟨RX5, "worth", "()I"⟩
abbrev cX5_eat : ByteArray := prog_7_method_8_code
def yX5_eat : MethodName := ⟨RX5, "eat", "(I)Z"⟩
abbrev cX5_fail : ByteArray := prog_7_method_9_code
def yX5_fail : MethodName := ⟨RX5, "fail", "()I"⟩
abbrev cX5_blame : ByteArray := prog_7_method_10_code
def yX5_blame : MethodName := ⟨RX5, "blame", "(I)V"⟩
abbrev cX5_formula : ByteArray := prog_7_method_11_code
def yX5_formula : MethodName := ⟨RX5, "formula", "(III)I"⟩
abbrev cX5_piece : ByteArray := prog_7_method_12_code
def yX5_piece : MethodName := ⟨RX5, "piece", "(II)I"⟩
abbrev cX5_contrary : ByteArray := prog_7_method_13_code
def yX5_contrary : MethodName := ⟨RX5, "contrary", "(II)I"⟩
abbrev cX5_enclosed : ByteArray := prog_7_method_14_code
def yX5_enclosed : MethodName := ⟨RX5, "enclosed", "(II)I"⟩
abbrev cX5_bind : ByteArray := prog_7_method_15_code
def yX5_bind : MethodName := ⟨RX5, "bind", "(III)I"⟩
abbrev cX5_join : ByteArray := prog_7_method_16_code
def yX5_join : MethodName := ⟨RX5, "join", "(IIII)I"⟩
abbrev cX5_rowAtom : ByteArray := prog_7_method_17_code
def yX5_rowAtom : MethodName := ⟨RX5, "rowAtom", "()I"⟩
abbrev cX5_atom : ByteArray := prog_7_method_18_code
def yX5_atom : MethodName := ⟨RX5, "atom", "(III)I"⟩
abbrev cX5_entry : ByteArray := prog_7_method_19_code
def yX5_entry : MethodName := ⟨RX5, "entry", "(LEndlessRows$Side;)Z"⟩
abbrev cX5_sumAtom : ByteArray := prog_7_method_20_code
def yX5_sumAtom : MethodName := ⟨RX5, "sumAtom", "()I"⟩
abbrev cX5_sum : ByteArray := prog_7_method_21_code
def yX5_sum : MethodName := ⟨RX5, "sum", "(LEndlessRows$Side;)Z"⟩
abbrev cX5_takeTerm : ByteArray := prog_7_method_22_code
def yX5_takeTerm : MethodName := ⟨RX5, "takeTerm", "(LEndlessRows$Side;I)Z"⟩
def RX6 : String := "EndlessRows$Reckoner"
def TX6 : u_T := fun k => match k with
  | 0 => ("EndlessRows$Reckoner", "queue", "[I", true)
  | 1 => ("EndlessRows$Reckoner", "seen", "[I", true)
  | 2 => ("EndlessRows$Reckoner", "numbers", "[J", true)
  | 3 => ("EndlessRows$Reckoner", "open", "[J", true)
  | 4 => ("EndlessRows$Reckoner", "digits", "[I", true)
  | 5 => ("EndlessRows$Reckoner", "heads", "[I", true)
  | 6 => ("EndlessRows$Reckoner", "ends", "[J", true)
  | 7 => ("EndlessRows$Reckoner", "ways", "[J", true)
  | _ => ("EndlessRows$Reckoner", "fresh", "[J", true)
def tyX6 : Nat → FieldType := fun k => match k with
  | 0 => .array .int
  | 1 => .array .int
  | 2 => .array .long
  | 3 => .array .long
  | 4 => .array .int
  | 5 => .array .int
  | 6 => .array .long
  | 7 => .array .long
  | _ => .array .long
abbrev wsX60 : List Cond := u_ws RX6 TX6 9
theorem nmX6 : ∀ a, a < 9 → ∀ b, b < 9 → a ≠ b → (TX6 a).2.1 ≠ (TX6 b).2.1 := by decide +kernel
theorem tyX6_ok : ∀ k, k < 9 → parseFieldDescriptor (TX6 k).2.2.1 = some (tyX6 k) := by decide +kernel
abbrev cX6_init : ByteArray := prog_8_method_1_code
def yX6_init : MethodName := ⟨RX6, "<init>", "()V"⟩
abbrev cX6_leastUnlike : ByteArray := prog_8_method_2_code
def yX6_leastUnlike : MethodName := ⟨RX6, "leastUnlike", "(LEndlessRows$Least;LEndlessRows$Least;I)J"⟩
abbrev cX6_longer : ByteArray := prog_8_method_3_code
def yX6_longer : MethodName := ⟨RX6, "longer", "(JII)J"⟩
abbrev cX6_sum : ByteArray := prog_8_method_4_code
def yX6_sum : MethodName := ⟨RX6, "sum", "(JJ)J"⟩
abbrev cX6_times : ByteArray := prog_8_method_5_code
def yX6_times : MethodName := ⟨RX6, "times", "(JJ)J"⟩
abbrev cX6_leastAbove : ByteArray := prog_8_method_6_code
def yX6_leastAbove : MethodName := ⟨RX6, "leastAbove", "(LEndlessRows$Least;JI)J"⟩
abbrev cX6_fillOpen : ByteArray := prog_8_method_7_code
def yX6_fillOpen : MethodName := ⟨RX6, "fillOpen", "(LEndlessRows$Least;I)V"⟩
abbrev cX6_openDigit : ByteArray := prog_8_method_8_code
def yX6_openDigit : MethodName := ⟨RX6, "openDigit", "(LEndlessRows$Least;IIII)I"⟩
abbrev cX6_fillDigits : ByteArray := prog_8_method_9_code
def yX6_fillDigits : MethodName := ⟨RX6, "fillDigits", "(JI)I"⟩
abbrev cX6_fillHeads : ByteArray := prog_8_method_10_code
def yX6_fillHeads : MethodName := ⟨RX6, "fillHeads", "(LEndlessRows$Least;I)V"⟩
abbrev cX6_head : ByteArray := prog_8_method_11_code
def yX6_head : MethodName := ⟨RX6, "head", "(II)J"⟩
abbrev cX6_ended : ByteArray := prog_8_method_12_code
def yX6_ended : MethodName := ⟨RX6, "ended", "(LEndlessRows$Least;JIIII)J"⟩
abbrev cX6_howMany : ByteArray := prog_8_method_13_code
def yX6_howMany : MethodName := ⟨RX6, "howMany", "(LEndlessRows$Least;I)J"⟩
abbrev cX6_howManyFirst : ByteArray := prog_8_method_14_code
def yX6_howManyFirst : MethodName := ⟨RX6, "howManyFirst", "(LEndlessRows$Least;JI)J"⟩
abbrev cX6_countAll : ByteArray := prog_8_method_15_code
def yX6_countAll : MethodName := ⟨RX6, "countAll", "(LEndlessRows$Least;II)J"⟩
abbrev cX6_startWays : ByteArray := prog_8_method_16_code
def yX6_startWays : MethodName := ⟨RX6, "startWays", "(LEndlessRows$Least;II)V"⟩
abbrev cX6_stepWays : ByteArray := prog_8_method_17_code
def yX6_stepWays : MethodName := ⟨RX6, "stepWays", "(LEndlessRows$Least;II)V"⟩
def RX7 : String := "EndlessRows$Row"
def TX7 : u_T := fun k => match k with
  | 0 => ("EndlessRows$Row", "least", "LEndlessRows$Least;", true)
  | 1 => ("EndlessRows$Row", "kind", "I", false)
  | _ => ("EndlessRows$Row", "question", "I", false)
def tyX7 : Nat → FieldType := fun k => match k with
  | 0 => .object "EndlessRows$Least"
  | 1 => .int
  | _ => .int
abbrev wsX70 : List Cond := u_ws RX7 TX7 3
theorem nmX7 : ∀ a, a < 3 → ∀ b, b < 3 → a ≠ b → (TX7 a).2.1 ≠ (TX7 b).2.1 := by decide +kernel
theorem tyX7_ok : ∀ k, k < 3 → parseFieldDescriptor (TX7 k).2.2.1 = some (tyX7 k) := by decide +kernel
abbrev cX7_init : ByteArray := prog_9_method_1_code
def yX7_init : MethodName := ⟨RX7, "<init>", "()V"⟩
def RX8 : String := "EndlessRows$Side"
def TX8 : u_T := fun k => match k with
  | 0 => ("EndlessRows$Side", "times", "[I", true)
  | 1 => ("EndlessRows$Side", "row", "I", false)
  | 2 => ("EndlessRows$Side", "number", "I", false)
  | _ => ("EndlessRows$Side", "names", "I", false)
def tyX8 : Nat → FieldType := fun k => match k with
  | 0 => .array .int
  | 1 => .int
  | 2 => .int
  | _ => .int
abbrev wsX80 : List Cond := u_ws RX8 TX8 4
theorem nmX8 : ∀ a, a < 4 → ∀ b, b < 4 → a ≠ b → (TX8 a).2.1 ≠ (TX8 b).2.1 := by decide +kernel
theorem tyX8_ok : ∀ k, k < 4 → parseFieldDescriptor (TX8 k).2.2.1 = some (tyX8 k) := by decide +kernel
abbrev cX8_init : ByteArray := prog_10_method_1_code
def yX8_init : MethodName := ⟨RX8, "<init>", "()V"⟩
abbrev cX8_clear : ByteArray := prog_10_method_2_code
def yX8_clear : MethodName := ⟨RX8, "clear", "()V"⟩
abbrev cX8_addName : ByteArray := prog_10_method_3_code
def yX8_addName : MethodName := ⟨RX8, "addName", "(I)V"⟩
def RX9 : String := "EndlessRows$Tokens"
def TX9 : u_T := fun k => match k with
  | 0 => ("EndlessRows$Tokens", "kinds", "[I", true)
  | 1 => ("EndlessRows$Tokens", "places", "[I", true)
  | 2 => ("EndlessRows$Tokens", "worths", "[I", true)
  | 3 => ("EndlessRows$Tokens", "text", "[I", false)
  | 4 => ("EndlessRows$Tokens", "length", "I", false)
  | _ => ("EndlessRows$Tokens", "many", "I", false)
def tyX9 : Nat → FieldType := fun k => match k with
  | 0 => .array .int
  | 1 => .array .int
  | 2 => .array .int
  | 3 => .array .int
  | 4 => .int
  | _ => .int
abbrev wsX90 : List Cond := u_ws RX9 TX9 6
theorem nmX9 : ∀ a, a < 6 → ∀ b, b < 6 → a ≠ b → (TX9 a).2.1 ≠ (TX9 b).2.1 := by decide +kernel
theorem tyX9_ok : ∀ k, k < 6 → parseFieldDescriptor (TX9 k).2.2.1 = some (tyX9 k) := by decide +kernel
abbrev cX9_init : ByteArray := prog_11_method_1_code
def yX9_init : MethodName := ⟨RX9, "<init>", "()V"⟩
abbrev cX9_cut : ByteArray := prog_11_method_2_code
def yX9_cut : MethodName := ⟨RX9, "cut", "([II)V"⟩
abbrev cX9_add : ByteArray := prog_11_method_3_code
def yX9_add : MethodName := ⟨RX9, "add", "(III)V"⟩
abbrev cX9_byteAt : ByteArray := prog_11_method_4_code
def yX9_byteAt : MethodName := ⟨RX9, "byteAt", "(I)I"⟩
abbrev cX9_isLetter : ByteArray := prog_11_method_5_code
def yX9_isLetter : MethodName := ⟨RX9, "isLetter", "(I)Z"⟩
abbrev cX9_isDigit : ByteArray := prog_11_method_6_code
def yX9_isDigit : MethodName := ⟨RX9, "isDigit", "(I)Z"⟩
abbrev cX9_cutOne : ByteArray := prog_11_method_7_code
def yX9_cutOne : MethodName := ⟨RX9, "cutOne", "(I)I"⟩
abbrev cX9_sign : ByteArray := prog_11_method_8_code
def yX9_sign : MethodName := ⟨RX9, "sign", "(I)I"⟩
abbrev cX9_cutNumber : ByteArray := prog_11_method_9_code
def yX9_cutNumber : MethodName := ⟨RX9, "cutNumber", "(I)I"⟩
abbrev cX9_cutLetters : ByteArray := prog_11_method_10_code
def yX9_cutLetters : MethodName := ⟨RX9, "cutLetters", "(I)I"⟩
abbrev cX9_key : ByteArray := prog_11_method_11_code
def yX9_key : MethodName := ⟨RX9, "key", "(II)I"⟩
abbrev cX9_isWord : ByteArray := prog_11_method_12_code
def yX9_isWord : MethodName := ⟨RX9, "isWord", "(IILjava/lang/String;)Z"⟩
def RX10 : String := "EndlessRows$Weaver"
def TX10 : u_T := fun k => match k with
  | 0 => ("EndlessRows$Weaver", "loom", "LEndlessRows$Loom;", true)
  | 1 => ("EndlessRows$Weaver", "leftLetters", "LEndlessRows$Least;", true)
  | 2 => ("EndlessRows$Weaver", "rightLetters", "LEndlessRows$Least;", true)
  | 3 => ("EndlessRows$Weaver", "leftView", "[I", true)
  | 4 => ("EndlessRows$Weaver", "rightView", "[I", true)
  | 5 => ("EndlessRows$Weaver", "weights", "[I", true)
  | 6 => ("EndlessRows$Weaver", "places", "[I", true)
  | 7 => ("EndlessRows$Weaver", "sets", "[J", true)
  | 8 => ("EndlessRows$Weaver", "slots", "[I", true)
  | 9 => ("EndlessRows$Weaver", "onward", "[J", true)
  | 10 => ("EndlessRows$Weaver", "setCount", "I", false)
  | _ => ("EndlessRows$Weaver", "base", "I", false)
def tyX10 : Nat → FieldType := fun k => match k with
  | 0 => .object "EndlessRows$Loom"
  | 1 => .object "EndlessRows$Least"
  | 2 => .object "EndlessRows$Least"
  | 3 => .array .int
  | 4 => .array .int
  | 5 => .array .int
  | 6 => .array .int
  | 7 => .array .long
  | 8 => .array .int
  | 9 => .array .long
  | 10 => .int
  | _ => .int
abbrev wsX100 : List Cond := u_ws RX10 TX10 12
theorem nmX10 : ∀ a, a < 12 → ∀ b, b < 12 → a ≠ b → (TX10 a).2.1 ≠ (TX10 b).2.1 := by decide +kernel
theorem tyX10_ok : ∀ k, k < 12 → parseFieldDescriptor (TX10 k).2.2.1 = some (tyX10 k) := by decide +kernel
abbrev cX10_init : ByteArray := prog_12_method_1_code
def yX10_init : MethodName := ⟨RX10, "<init>", "()V"⟩
abbrev cX10_weaveMachine : ByteArray := prog_12_method_2_code
def yX10_weaveMachine : MethodName := ⟨RX10, "weaveMachine", "([I[IIILEndlessRows$Least;)V"⟩
abbrev cX10_weaveGrown : ByteArray := prog_12_method_3_code
def yX10_weaveGrown : MethodName := ⟨RX10, "weaveGrown", "([IIILEndlessRows$Least;)V"⟩
abbrev cX10_weaveRing : ByteArray := prog_12_method_4_code
def yX10_weaveRing : MethodName := ⟨RX10, "weaveRing", "([IIIILEndlessRows$Least;)V"⟩
abbrev cX10_weavePair : ByteArray := prog_12_method_5_code
def yX10_weavePair : MethodName := ⟨RX10, "weavePair", "(LEndlessRows$Least;LEndlessRows$Least;IILEndlessRows$Least;)Z"⟩
abbrev cX10_decide : ByteArray := prog_12_method_6_code
def yX10_decide : MethodName := ⟨RX10, "decide", "([LEndlessRows$Part;LEndlessRows$Question;[LEndlessRows$Row;II)V"⟩
abbrev cX10_weavePart : ByteArray := prog_12_method_7_code
def yX10_weavePart : MethodName := ⟨RX10, "weavePart", "(LEndlessRows$Part;[LEndlessRows$Part;)Z"⟩
abbrev cX10_at : ByteArray := prog_12_method_8_code
def yX10_at : MethodName := ⟨RX10, "at", "([II)I"⟩
abbrev cX10_power : ByteArray := prog_12_method_9_code
def yX10_power : MethodName := ⟨RX10, "power", "(II)I"⟩
abbrev cX10_fan : ByteArray := prog_12_method_10_code
def yX10_fan : MethodName := ⟨RX10, "fan", "(I)I"⟩
abbrev cX10_view : ByteArray := prog_12_method_11_code
def yX10_view : MethodName := ⟨RX10, "view", "(III)I"⟩
abbrev cX10_fillViews : ByteArray := prog_12_method_12_code
def yX10_fillViews : MethodName := ⟨RX10, "fillViews", "([III)V"⟩
abbrev cX10_load : ByteArray := prog_12_method_13_code
def yX10_load : MethodName := ⟨RX10, "load", "(II[I)I"⟩
abbrev cX10_product : ByteArray := prog_12_method_14_code
def yX10_product : MethodName := ⟨RX10, "product", "(LEndlessRows$Least;ILEndlessRows$Least;IILEndlessRows$Least;I)Z"⟩
abbrev cX10_joined : ByteArray := prog_12_method_15_code
def yX10_joined : MethodName := ⟨RX10, "joined", "(III)I"⟩
abbrev cX10_weaveRows : ByteArray := prog_12_method_16_code
def yX10_weaveRows : MethodName := ⟨RX10, "weaveRows", "(LEndlessRows$Part;[LEndlessRows$Row;I)Z"⟩
abbrev cX10_weaveLetters : ByteArray := prog_12_method_17_code
def yX10_weaveLetters : MethodName := ⟨RX10, "weaveLetters", "(LEndlessRows$Side;LEndlessRows$Least;LEndlessRows$Least;)Z"⟩
abbrev cX10_keyOfPlaces : ByteArray := prog_12_method_18_code
def yX10_keyOfPlaces : MethodName := ⟨RX10, "keyOfPlaces", "(II)I"⟩
abbrev cX10_placeIn : ByteArray := prog_12_method_19_code
def yX10_placeIn : MethodName := ⟨RX10, "placeIn", "(III)I"⟩
abbrev cX10_weaveSums : ByteArray := prog_12_method_20_code
def yX10_weaveSums : MethodName := ⟨RX10, "weaveSums", "(LEndlessRows$Part;)Z"⟩
abbrev cX10_compares : ByteArray := prog_12_method_21_code
def yX10_compares : MethodName := ⟨RX10, "compares", "(II)I"⟩
abbrev cX10_weaveBound : ByteArray := prog_12_method_22_code
def yX10_weaveBound : MethodName := ⟨RX10, "weaveBound", "(LEndlessRows$Part;LEndlessRows$Part;)Z"⟩
abbrev cX10_takers : ByteArray := prog_12_method_23_code
def yX10_takers : MethodName := ⟨RX10, "takers", "(LEndlessRows$Least;)J"⟩
abbrev cX10_firstSet : ByteArray := prog_12_method_24_code
def yX10_firstSet : MethodName := ⟨RX10, "firstSet", "(LEndlessRows$Least;)J"⟩
abbrev cX10_spread : ByteArray := prog_12_method_25_code
def yX10_spread : MethodName := ⟨RX10, "spread", "(LEndlessRows$Least;J)V"⟩
abbrev cX10_meetSet : ByteArray := prog_12_method_26_code
def yX10_meetSet : MethodName := ⟨RX10, "meetSet", "(J)I"⟩
abbrev cX10_addSet : ByteArray := prog_12_method_27_code
def yX10_addSet : MethodName := ⟨RX10, "addSet", "(IJ)I"⟩
def RX11 : String := "EndlessRows"
def TX11 : u_T := fun k => match k with
  | 0 => ("EndlessRows", "rows", "[LEndlessRows$Row;", true)
  | 1 => ("EndlessRows", "questions", "[LEndlessRows$Question;", true)
  | 2 => ("EndlessRows", "tape", "[I", true)
  | 3 => ("EndlessRows", "cells", "[[I", true)
  | 4 => ("EndlessRows", "sorts", "[I", true)
  | 5 => ("EndlessRows", "sizes", "[I", true)
  | 6 => ("EndlessRows", "noughts", "[I", true)
  | 7 => ("EndlessRows", "reader", "LEndlessRows$Reader;", true)
  | 8 => ("EndlessRows", "weaver", "LEndlessRows$Weaver;", true)
  | 9 => ("EndlessRows", "reckoner", "LEndlessRows$Reckoner;", true)
  | 10 => ("EndlessRows", "acts", "LEndlessRows$Acts;", true)
  | 11 => ("EndlessRows", "base", "I", false)
  | 12 => ("EndlessRows", "rowCount", "I", false)
  | 13 => ("EndlessRows", "questionCount", "I", false)
  | 14 => ("EndlessRows", "tapeLength", "I", false)
  | _ => ("EndlessRows", "state", "I", false)
def tyX11 : Nat → FieldType := fun k => match k with
  | 0 => .array (.object "EndlessRows$Row")
  | 1 => .array (.object "EndlessRows$Question")
  | 2 => .array .int
  | 3 => .array (.array .int)
  | 4 => .array .int
  | 5 => .array .int
  | 6 => .array .int
  | 7 => .object "EndlessRows$Reader"
  | 8 => .object "EndlessRows$Weaver"
  | 9 => .object "EndlessRows$Reckoner"
  | 10 => .object "EndlessRows$Acts"
  | 11 => .int
  | 12 => .int
  | 13 => .int
  | 14 => .int
  | _ => .int
abbrev wsX110 : List Cond := u_ws RX11 TX11 16
theorem nmX11 : ∀ a, a < 16 → ∀ b, b < 16 → a ≠ b → (TX11 a).2.1 ≠ (TX11 b).2.1 := by decide +kernel
theorem tyX11_ok : ∀ k, k < 16 → parseFieldDescriptor (TX11 k).2.2.1 = some (tyX11 k) := by decide +kernel
abbrev cX11_init : ByteArray := prog_1_method_1_code
def yX11_init : MethodName := ⟨RX11, "<init>", "()V"⟩
abbrev cX11_begin : ByteArray := prog_1_method_2_code
def yX11_begin : MethodName := ⟨RX11, "begin", "(I)I"⟩
abbrev cX11_sheet : ByteArray := prog_1_method_3_code
def yX11_sheet : MethodName := ⟨RX11, "sheet", "(III)I"⟩
abbrev cX11_cell : ByteArray := prog_1_method_4_code
def yX11_cell : MethodName := ⟨RX11, "cell", "(III)I"⟩
abbrev cX11_machine : ByteArray := prog_1_method_5_code
def yX11_machine : MethodName := ⟨RX11, "machine", "(IIII)I"⟩
abbrev cX11_grown : ByteArray := prog_1_method_6_code
def yX11_grown : MethodName := ⟨RX11, "grown", "(III)I"⟩
abbrev cX11_ring : ByteArray := prog_1_method_7_code
def yX11_ring : MethodName := ⟨RX11, "ring", "(IIII)I"⟩
abbrev cX11_pair : ByteArray := prog_1_method_8_code
def yX11_pair : MethodName := ⟨RX11, "pair", "(III)I"⟩
abbrev cX11_sought : ByteArray := prog_1_method_9_code
def yX11_sought : MethodName := ⟨RX11, "sought", "(I)I"⟩
abbrev cX11_feed : ByteArray := prog_1_method_10_code
def yX11_feed : MethodName := ⟨RX11, "feed", "(IJ)I"⟩
abbrev cX11_question : ByteArray := prog_1_method_11_code
def yX11_question : MethodName := ⟨RX11, "question", "()I"⟩
abbrev cX11_drop : ByteArray := prog_1_method_12_code
def yX11_drop : MethodName := ⟨RX11, "drop", "(I)I"⟩
abbrev cX11_count : ByteArray := prog_1_method_13_code
def yX11_count : MethodName := ⟨RX11, "count", "(I)I"⟩
abbrev cX11_kind : ByteArray := prog_1_method_14_code
def yX11_kind : MethodName := ⟨RX11, "kind", "(I)I"⟩
abbrev cX11_letter : ByteArray := prog_1_method_15_code
def yX11_letter : MethodName := ⟨RX11, "letter", "(IJ)I"⟩
abbrev cX11_width : ByteArray := prog_1_method_16_code
def yX11_width : MethodName := ⟨RX11, "width", "(I)I"⟩
abbrev cX11_differ : ByteArray := prog_1_method_17_code
def yX11_differ : MethodName := ⟨RX11, "differ", "(II)J"⟩
abbrev cX11_told : ByteArray := prog_1_method_18_code
def yX11_told : MethodName := ⟨RX11, "told", "(II)I"⟩
abbrev cX11_step : ByteArray := prog_1_method_19_code
def yX11_step : MethodName := ⟨RX11, "step", "(III)I"⟩
abbrev cX11_takes : ByteArray := prog_1_method_20_code
def yX11_takes : MethodName := ⟨RX11, "takes", "(II)I"⟩
abbrev cX11_holds : ByteArray := prog_1_method_21_code
def yX11_holds : MethodName := ⟨RX11, "holds", "(IJJJ)I"⟩
abbrev cX11_next : ByteArray := prog_1_method_22_code
def yX11_next : MethodName := ⟨RX11, "next", "(IJ)J"⟩
abbrev cX11_many : ByteArray := prog_1_method_23_code
def yX11_many : MethodName := ⟨RX11, "many", "(I)J"⟩
abbrev cX11_values : ByteArray := prog_1_method_24_code
def yX11_values : MethodName := ⟨RX11, "values", "(IJ)J"⟩
abbrev cX11_alike : ByteArray := prog_1_method_25_code
def yX11_alike : MethodName := ⟨RX11, "alike", "(II)I"⟩
abbrev cX11_act : ByteArray := prog_1_method_26_code
def yX11_act : MethodName := ⟨RX11, "act", "(III)I"⟩
abbrev cX11_trace : ByteArray := prog_1_method_27_code
def yX11_trace : MethodName := ⟨RX11, "trace", "(I)I"⟩
abbrev cX11_forge : ByteArray := prog_1_method_28_code
def yX11_forge : MethodName := ⟨RX11, "forge", "(III)I"⟩
abbrev cX11_status : ByteArray := prog_1_method_29_code
def yX11_status : MethodName := ⟨RX11, "status", "()I"⟩
abbrev cX11_refuse : ByteArray := prog_1_method_30_code
def yX11_refuse : MethodName := ⟨RX11, "refuse", "(I)I"⟩
abbrev cX11_done : ByteArray := prog_1_method_31_code
def yX11_done : MethodName := ⟨RX11, "done", "(I)I"⟩
abbrev cX11_within : ByteArray := prog_1_method_32_code
def yX11_within : MethodName := ⟨RX11, "within", "(II)Z"⟩
abbrev cX11_outside : ByteArray := prog_1_method_33_code
def yX11_outside : MethodName := ⟨RX11, "outside", "(J)Z"⟩
abbrev cX11_otherSort : ByteArray := prog_1_method_34_code
def yX11_otherSort : MethodName := ⟨RX11, "otherSort", "(II)Z"⟩
abbrev cX11_tooShort : ByteArray := prog_1_method_35_code
def yX11_tooShort : MethodName := ⟨RX11, "tooShort", "(II)Z"⟩
abbrev cX11_numbers : ByteArray := prog_1_method_36_code
def yX11_numbers : MethodName := ⟨RX11, "numbers", "(I)[I"⟩
abbrev cX11_allBelow : ByteArray := prog_1_method_37_code
def yX11_allBelow : MethodName := ⟨RX11, "allBelow", "([III)Z"⟩
abbrev cX11_sheetFault : ByteArray := prog_1_method_38_code
def yX11_sheetFault : MethodName := ⟨RX11, "sheetFault", "(III)I"⟩
abbrev cX11_made : ByteArray := prog_1_method_39_code
def yX11_made : MethodName := ⟨RX11, "made", "(II)I"⟩
abbrev cX11_asked : ByteArray := prog_1_method_40_code
def yX11_asked : MethodName := ⟨RX11, "asked", "(I)LEndlessRows$Least;"⟩
abbrev cX11_askedOf : ByteArray := prog_1_method_41_code
def yX11_askedOf : MethodName := ⟨RX11, "askedOf", "(II)LEndlessRows$Least;"⟩
abbrev cX11_dropRow : ByteArray := prog_1_method_42_code
def yX11_dropRow : MethodName := ⟨RX11, "dropRow", "()I"⟩
abbrev cX11_dropQuestion : ByteArray := prog_1_method_43_code
def yX11_dropQuestion : MethodName := ⟨RX11, "dropQuestion", "()I"⟩
abbrev cX11_forgeKind : ByteArray := prog_1_method_44_code
def yX11_forgeKind : MethodName := ⟨RX11, "forgeKind", "(II)I"⟩
abbrev cX11_forgeNumber : ByteArray := prog_1_method_45_code
def yX11_forgeNumber : MethodName := ⟨RX11, "forgeNumber", "(II)I"⟩
abbrev cX11_forgeCopy : ByteArray := prog_1_method_46_code
def yX11_forgeCopy : MethodName := ⟨RX11, "forgeCopy", "(II)I"⟩
abbrev cX11_forgeStore : ByteArray := prog_1_method_47_code
def yX11_forgeStore : MethodName := ⟨RX11, "forgeStore", "(I)I"⟩
def RX12 : String := "EndlessRowsModel"
def TX12 : u_T := fun k => match k with
  | 0 => ("EndlessRowsModel", "base", "I", false)
  | 1 => ("EndlessRowsModel", "rows", "I", false)
  | 2 => ("EndlessRowsModel", "kind", "[I", true)
  | 3 => ("EndlessRowsModel", "width", "[I", true)
  | 4 => ("EndlessRowsModel", "rowStep", "[I", true)
  | 5 => ("EndlessRowsModel", "rowLetter", "[I", true)
  | 6 => ("EndlessRowsModel", "ofQuestion", "[I", true)
  | 7 => ("EndlessRowsModel", "questions", "I", false)
  | 8 => ("EndlessRowsModel", "faultKind", "[I", true)
  | 9 => ("EndlessRowsModel", "faultPlace", "[I", true)
  | 10 => ("EndlessRowsModel", "spent", "[I", true)
  | 11 => ("EndlessRowsModel", "qNames", "[I", true)
  | 12 => ("EndlessRowsModel", "qParts", "[I", true)
  | 13 => ("EndlessRowsModel", "qRows", "[I", true)
  | 14 => ("EndlessRowsModel", "qStates", "[I", true)
  | 15 => ("EndlessRowsModel", "qStep", "[I", true)
  | 16 => ("EndlessRowsModel", "qTakes", "[Z", true)
  | 17 => ("EndlessRowsModel", "tape", "[I", true)
  | 18 => ("EndlessRowsModel", "taped", "I", false)
  | 19 => ("EndlessRowsModel", "sort", "[I", true)
  | 20 => ("EndlessRowsModel", "size", "[I", true)
  | 21 => ("EndlessRowsModel", "cells", "[I", true)
  | 22 => ("EndlessRowsModel", "status", "I", false)
  | 23 => ("EndlessRowsModel", "traced", "[I", true)
  | 24 => ("EndlessRowsModel", "traces", "I", false)
  | 25 => ("EndlessRowsModel", "made", "I", false)
  | 26 => ("EndlessRowsModel", "symbols", "I", false)
  | 27 => ("EndlessRowsModel", "step", "[I", true)
  | 28 => ("EndlessRowsModel", "tells", "[I", true)
  | 29 => ("EndlessRowsModel", "small", "I", false)
  | 30 => ("EndlessRowsModel", "group", "[I", true)
  | 31 => ("EndlessRowsModel", "older", "[I", true)
  | 32 => ("EndlessRowsModel", "table", "[I", true)
  | 33 => ("EndlessRowsModel", "state", "[I", true)
  | 34 => ("EndlessRowsModel", "numbered", "[I", true)
  | 35 => ("EndlessRowsModel", "pairOf", "[I", true)
  | 36 => ("EndlessRowsModel", "one", "[I", true)
  | 37 => ("EndlessRowsModel", "other", "[I", true)
  | 38 => ("EndlessRowsModel", "at", "I", false)
  | 39 => ("EndlessRowsModel", "token", "I", false)
  | 40 => ("EndlessRowsModel", "value", "I", false)
  | 41 => ("EndlessRowsModel", "begun", "I", false)
  | 42 => ("EndlessRowsModel", "isFaulty", "Z", false)
  | 43 => ("EndlessRowsModel", "nots", "I", false)
  | 44 => ("EndlessRowsModel", "bound", "I", false)
  | 45 => ("EndlessRowsModel", "theFaultKind", "I", false)
  | 46 => ("EndlessRowsModel", "theFaultPlace", "I", false)
  | 47 => ("EndlessRowsModel", "parts", "I", false)
  | 48 => ("EndlessRowsModel", "op", "[I", true)
  | 49 => ("EndlessRowsModel", "left", "[I", true)
  | 50 => ("EndlessRowsModel", "right", "[I", true)
  | 51 => ("EndlessRowsModel", "name", "[I", true)
  | 52 => ("EndlessRowsModel", "partPlace", "[I", true)
  | 53 => ("EndlessRowsModel", "free", "[I", true)
  | 54 => ("EndlessRowsModel", "often", "[I", true)
  | 55 => ("EndlessRowsModel", "number", "[I", true)
  | 56 => ("EndlessRowsModel", "sign", "[I", true)
  | 57 => ("EndlessRowsModel", "rowA", "[I", true)
  | 58 => ("EndlessRowsModel", "nameA", "[I", true)
  | 59 => ("EndlessRowsModel", "moreA", "[I", true)
  | 60 => ("EndlessRowsModel", "numberA", "[I", true)
  | 61 => ("EndlessRowsModel", "rowB", "[I", true)
  | 62 => ("EndlessRowsModel", "nameB", "[I", true)
  | 63 => ("EndlessRowsModel", "moreB", "[I", true)
  | 64 => ("EndlessRowsModel", "numberB", "[I", true)
  | 65 => ("EndlessRowsModel", "many", "[I", true)
  | 66 => ("EndlessRowsModel", "sum", "I", false)
  | 67 => ("EndlessRowsModel", "soFar", "I", false)
  | 68 => ("EndlessRowsModel", "seen", "I", false)
  | 69 => ("EndlessRowsModel", "theRow", "I", false)
  | 70 => ("EndlessRowsModel", "theName", "I", false)
  | 71 => ("EndlessRowsModel", "theMore", "I", false)
  | 72 => ("EndlessRowsModel", "theNumber", "I", false)
  | 73 => ("EndlessRowsModel", "pStates", "[I", true)
  | 74 => ("EndlessRowsModel", "pStep", "[I", true)
  | 75 => ("EndlessRowsModel", "pTakes", "[Z", true)
  | 76 => ("EndlessRowsModel", "set", "[J", true)
  | 77 => ("EndlessRowsModel", "differenceOf", "[I", true)
  | 78 => ("EndlessRowsModel", "far", "I", false)
  | 79 => ("EndlessRowsModel", "sideMany", "I", false)
  | 80 => ("EndlessRowsModel", "sideStep", "[I", true)
  | 81 => ("EndlessRowsModel", "sideTells", "[I", true)
  | 82 => ("EndlessRowsModel", "sideStates", "[I", true)
  | 83 => ("EndlessRowsModel", "tuple", "[I", true)
  | 84 => ("EndlessRowsModel", "now", "[I", true)
  | 85 => ("EndlessRowsModel", "digit", "[I", true)
  | 86 => ("EndlessRowsModel", "worth", "[J", true)
  | 87 => ("EndlessRowsModel", "leads", "[Z", true)
  | 88 => ("EndlessRowsModel", "passed", "[I", true)
  | 89 => ("EndlessRowsModel", "ways", "[J", true)
  | 90 => ("EndlessRowsModel", "then", "[J", true)
  | _ => ("EndlessRowsModel", "isGood", "[Z", true)
def tyX12 : Nat → FieldType := fun k => match k with
  | 0 => .int
  | 1 => .int
  | 2 => .array .int
  | 3 => .array .int
  | 4 => .array .int
  | 5 => .array .int
  | 6 => .array .int
  | 7 => .int
  | 8 => .array .int
  | 9 => .array .int
  | 10 => .array .int
  | 11 => .array .int
  | 12 => .array .int
  | 13 => .array .int
  | 14 => .array .int
  | 15 => .array .int
  | 16 => .array .boolean
  | 17 => .array .int
  | 18 => .int
  | 19 => .array .int
  | 20 => .array .int
  | 21 => .array .int
  | 22 => .int
  | 23 => .array .int
  | 24 => .int
  | 25 => .int
  | 26 => .int
  | 27 => .array .int
  | 28 => .array .int
  | 29 => .int
  | 30 => .array .int
  | 31 => .array .int
  | 32 => .array .int
  | 33 => .array .int
  | 34 => .array .int
  | 35 => .array .int
  | 36 => .array .int
  | 37 => .array .int
  | 38 => .int
  | 39 => .int
  | 40 => .int
  | 41 => .int
  | 42 => .boolean
  | 43 => .int
  | 44 => .int
  | 45 => .int
  | 46 => .int
  | 47 => .int
  | 48 => .array .int
  | 49 => .array .int
  | 50 => .array .int
  | 51 => .array .int
  | 52 => .array .int
  | 53 => .array .int
  | 54 => .array .int
  | 55 => .array .int
  | 56 => .array .int
  | 57 => .array .int
  | 58 => .array .int
  | 59 => .array .int
  | 60 => .array .int
  | 61 => .array .int
  | 62 => .array .int
  | 63 => .array .int
  | 64 => .array .int
  | 65 => .array .int
  | 66 => .int
  | 67 => .int
  | 68 => .int
  | 69 => .int
  | 70 => .int
  | 71 => .int
  | 72 => .int
  | 73 => .array .int
  | 74 => .array .int
  | 75 => .array .boolean
  | 76 => .array .long
  | 77 => .array .int
  | 78 => .int
  | 79 => .int
  | 80 => .array .int
  | 81 => .array .int
  | 82 => .array .int
  | 83 => .array .int
  | 84 => .array .int
  | 85 => .array .int
  | 86 => .array .long
  | 87 => .array .boolean
  | 88 => .array .int
  | 89 => .array .long
  | 90 => .array .long
  | _ => .array .boolean
abbrev wsX120 : List Cond := u_ws RX12 TX12 92
theorem nmX12 : ∀ a, a < 92 → ∀ b, b < 92 → a ≠ b → (TX12 a).2.1 ≠ (TX12 b).2.1 := by decide +kernel
theorem tyX12_ok : ∀ k, k < 92 → parseFieldDescriptor (TX12 k).2.2.1 = some (tyX12 k) := by decide +kernel
abbrev cX12_init : ByteArray := prog_14_method_1_code
def yX12_init : MethodName := ⟨RX12, "<init>", "()V"⟩
abbrev cX12_in : ByteArray := prog_14_method_2_code
def yX12_in : MethodName := ⟨RX12, "in", "(III)Z"⟩
abbrev cX12_refused : ByteArray := prog_14_method_3_code
def yX12_refused : MethodName := ⟨RX12, "refused", "(I)I"⟩
abbrev cX12_done : ByteArray := prog_14_method_4_code
def yX12_done : MethodName := ⟨RX12, "done", "(I)I"⟩
abbrev cX12_isRow : ByteArray := prog_14_method_5_code
def yX12_isRow : MethodName := ⟨RX12, "isRow", "(I)Z"⟩
abbrev cX12_bits : ByteArray := prog_14_method_6_code
def yX12_bits : MethodName := ⟨RX12, "bits", "(I)I"⟩
abbrev cX12_across : ByteArray := prog_14_method_7_code
def yX12_across : MethodName := ⟨RX12, "across", "(I)I"⟩
abbrev cX12_isAlike : ByteArray := prog_14_method_8_code
def yX12_isAlike : MethodName := ⟨RX12, "isAlike", "(II)Z"⟩
abbrev cX12_place : ByteArray := prog_14_method_9_code
def yX12_place : MethodName := ⟨RX12, "place", "(I)I"⟩
abbrev cX12_apart : ByteArray := prog_14_method_10_code
def yX12_apart : MethodName := ⟨RX12, "apart", "()V"⟩
abbrev cX12_least : ByteArray := prog_14_method_11_code
def yX12_least : MethodName := ⟨RX12, "least", "()V"⟩
abbrev cX12_stepOf : ByteArray := prog_14_method_12_code
def yX12_stepOf : MethodName := ⟨RX12, "stepOf", "(II)I"⟩
abbrev cX12_newRow : ByteArray := prog_14_method_13_code
def yX12_newRow : MethodName := ⟨RX12, "newRow", "(I)I"⟩
abbrev cX12_rowTo : ByteArray := prog_14_method_14_code
def yX12_rowTo : MethodName := ⟨RX12, "rowTo", "(III)I"⟩
abbrev cX12_begin : ByteArray := prog_14_method_15_code
def yX12_begin : MethodName := ⟨RX12, "begin", "(I)I"⟩
abbrev cX12_sheet : ByteArray := prog_14_method_16_code
def yX12_sheet : MethodName := ⟨RX12, "sheet", "(III)I"⟩
abbrev cX12_cell : ByteArray := prog_14_method_17_code
def yX12_cell : MethodName := ⟨RX12, "cell", "(III)I"⟩
abbrev cX12_isAbove : ByteArray := prog_14_method_18_code
def yX12_isAbove : MethodName := ⟨RX12, "isAbove", "(IIII)Z"⟩
abbrev cX12_isOther : ByteArray := prog_14_method_19_code
def yX12_isOther : MethodName := ⟨RX12, "isOther", "(II)Z"⟩
abbrev cX12_machine : ByteArray := prog_14_method_20_code
def yX12_machine : MethodName := ⟨RX12, "machine", "(IIII)I"⟩
abbrev cX12_grown : ByteArray := prog_14_method_21_code
def yX12_grown : MethodName := ⟨RX12, "grown", "(III)I"⟩
abbrev cX12_ring : ByteArray := prog_14_method_22_code
def yX12_ring : MethodName := ⟨RX12, "ring", "(IIII)I"⟩
abbrev cX12_paired : ByteArray := prog_14_method_23_code
def yX12_paired : MethodName := ⟨RX12, "paired", "(II)I"⟩
abbrev cX12_noPairs : ByteArray := prog_14_method_24_code
def yX12_noPairs : MethodName := ⟨RX12, "noPairs", "()V"⟩
abbrev cX12_pair : ByteArray := prog_14_method_25_code
def yX12_pair : MethodName := ⟨RX12, "pair", "(III)I"⟩
abbrev cX12_canAsk : ByteArray := prog_14_method_26_code
def yX12_canAsk : MethodName := ⟨RX12, "canAsk", "(I)Z"⟩
abbrev cX12_sought : ByteArray := prog_14_method_27_code
def yX12_sought : MethodName := ⟨RX12, "sought", "(I)I"⟩
abbrev cX12_feed : ByteArray := prog_14_method_28_code
def yX12_feed : MethodName := ⟨RX12, "feed", "(IJ)I"⟩
abbrev cX12_drop : ByteArray := prog_14_method_29_code
def yX12_drop : MethodName := ⟨RX12, "drop", "(I)I"⟩
abbrev cX12_byteAt : ByteArray := prog_14_method_30_code
def yX12_byteAt : MethodName := ⟨RX12, "byteAt", "(I)I"⟩
abbrev cX12_isDigit : ByteArray := prog_14_method_31_code
def yX12_isDigit : MethodName := ⟨RX12, "isDigit", "(I)Z"⟩
abbrev cX12_isLetter : ByteArray := prog_14_method_32_code
def yX12_isLetter : MethodName := ⟨RX12, "isLetter", "(I)Z"⟩
abbrev cX12_cannot : ByteArray := prog_14_method_33_code
def yX12_cannot : MethodName := ⟨RX12, "cannot", "()V"⟩
abbrev cX12_notes : ByteArray := prog_14_method_34_code
def yX12_notes : MethodName := ⟨RX12, "notes", "(I)V"⟩
abbrev cX12_next : ByteArray := prog_14_method_35_code
def yX12_next : MethodName := ⟨RX12, "next", "()V"⟩
abbrev cX12_digits : ByteArray := prog_14_method_36_code
def yX12_digits : MethodName := ⟨RX12, "digits", "()V"⟩
abbrev cX12_isWord : ByteArray := prog_14_method_37_code
def yX12_isWord : MethodName := ⟨RX12, "isWord", "(IIII)Z"⟩
abbrev cX12_letters : ByteArray := prog_14_method_38_code
def yX12_letters : MethodName := ⟨RX12, "letters", "()V"⟩
abbrev cX12_isSign : ByteArray := prog_14_method_39_code
def yX12_isSign : MethodName := ⟨RX12, "isSign", "(I)Z"⟩
abbrev cX12_need : ByteArray := prog_14_method_40_code
def yX12_need : MethodName := ⟨RX12, "need", "(I)V"⟩
abbrev cX12_ended : ByteArray := prog_14_method_41_code
def yX12_ended : MethodName := ⟨RX12, "ended", "(IIIII)I"⟩
abbrev cX12_f : ByteArray := prog_14_method_42_code
def yX12_f : MethodName := ⟨RX12, "f", "(LEndlessRowsModel;)I"⟩
abbrev cX12_or : ByteArray := prog_14_method_43_code
def yX12_or : MethodName := ⟨RX12, "or", "(LEndlessRowsModel;)I"⟩
abbrev cX12_and : ByteArray := prog_14_method_44_code
def yX12_and : MethodName := ⟨RX12, "and", "(LEndlessRowsModel;)I"⟩
abbrev cX12_not : ByteArray := prog_14_method_45_code
def yX12_not : MethodName := ⟨RX12, "not", "(LEndlessRowsModel;)I"⟩
abbrev cX12_bounded : ByteArray := prog_14_method_46_code
def yX12_bounded : MethodName := ⟨RX12, "bounded", "(LEndlessRowsModel;II)I"⟩
abbrev cX12_sums : ByteArray := prog_14_method_47_code
def yX12_sums : MethodName := ⟨RX12, "sums", "(I)V"⟩
abbrev cX12_term : ByteArray := prog_14_method_48_code
def yX12_term : MethodName := ⟨RX12, "term", "(I)V"⟩
abbrev cX12_atom : ByteArray := prog_14_method_49_code
def yX12_atom : MethodName := ⟨RX12, "atom", "()I"⟩
abbrev cX12_rowPlace : ByteArray := prog_14_method_50_code
def yX12_rowPlace : MethodName := ⟨RX12, "rowPlace", "()V"⟩
abbrev cX12_lettersAtom : ByteArray := prog_14_method_51_code
def yX12_lettersAtom : MethodName := ⟨RX12, "lettersAtom", "()I"⟩
abbrev cX12_read : ByteArray := prog_14_method_52_code
def yX12_read : MethodName := ⟨RX12, "read", "()V"⟩
abbrev cX12_pTo : ByteArray := prog_14_method_53_code
def yX12_pTo : MethodName := ⟨RX12, "pTo", "(III)I"⟩
abbrev cX12_becomes : ByteArray := prog_14_method_54_code
def yX12_becomes : MethodName := ⟨RX12, "becomes", "(I)Z"⟩
abbrev cX12_digitOf : ByteArray := prog_14_method_55_code
def yX12_digitOf : MethodName := ⟨RX12, "digitOf", "(III)I"⟩
abbrev cX12_within : ByteArray := prog_14_method_56_code
def yX12_within : MethodName := ⟨RX12, "within", "(III)I"⟩
abbrev cX12_joins : ByteArray := prog_14_method_57_code
def yX12_joins : MethodName := ⟨RX12, "joins", "(I)Z"⟩
abbrev cX12_copy : ByteArray := prog_14_method_58_code
def yX12_copy : MethodName := ⟨RX12, "copy", "(IZ)V"⟩
abbrev cX12_setOf : ByteArray := prog_14_method_59_code
def yX12_setOf : MethodName := ⟨RX12, "setOf", "(J)I"⟩
abbrev cX12_steps : ByteArray := prog_14_method_60_code
def yX12_steps : MethodName := ⟨RX12, "steps", "(IJII)J"⟩
abbrev cX12_bounds : ByteArray := prog_14_method_61_code
def yX12_bounds : MethodName := ⟨RX12, "bounds", "(I)Z"⟩
abbrev cX12_difference : ByteArray := prog_14_method_62_code
def yX12_difference : MethodName := ⟨RX12, "difference", "(J)I"⟩
abbrev cX12_sumsMachine : ByteArray := prog_14_method_63_code
def yX12_sumsMachine : MethodName := ⟨RX12, "sumsMachine", "(I)Z"⟩
abbrev cX12_tupleOf : ByteArray := prog_14_method_64_code
def yX12_tupleOf : MethodName := ⟨RX12, "tupleOf", "(I)I"⟩
abbrev cX12_nameSet : ByteArray := prog_14_method_65_code
def yX12_nameSet : MethodName := ⟨RX12, "nameSet", "(II)I"⟩
abbrev cX12_side : ByteArray := prog_14_method_66_code
def yX12_side : MethodName := ⟨RX12, "side", "(IIIII)Z"⟩
abbrev cX12_lettersMachine : ByteArray := prog_14_method_67_code
def yX12_lettersMachine : MethodName := ⟨RX12, "lettersMachine", "(I)Z"⟩
abbrev cX12_machineOf : ByteArray := prog_14_method_68_code
def yX12_machineOf : MethodName := ⟨RX12, "machineOf", "(I)Z"⟩
abbrev cX12_question : ByteArray := prog_14_method_69_code
def yX12_question : MethodName := ⟨RX12, "question", "()I"⟩
abbrev cX12_count : ByteArray := prog_14_method_70_code
def yX12_count : MethodName := ⟨RX12, "count", "(I)I"⟩
abbrev cX12_kind : ByteArray := prog_14_method_71_code
def yX12_kind : MethodName := ⟨RX12, "kind", "(I)I"⟩
abbrev cX12_digitsOf : ByteArray := prog_14_method_72_code
def yX12_digitsOf : MethodName := ⟨RX12, "digitsOf", "(IJI)V"⟩
abbrev cX12_isOutside : ByteArray := prog_14_method_73_code
def yX12_isOutside : MethodName := ⟨RX12, "isOutside", "(JJJ)Z"⟩
abbrev cX12_letter : ByteArray := prog_14_method_74_code
def yX12_letter : MethodName := ⟨RX12, "letter", "(IJ)I"⟩
abbrev cX12_width : ByteArray := prog_14_method_75_code
def yX12_width : MethodName := ⟨RX12, "width", "(I)I"⟩
abbrev cX12_longer : ByteArray := prog_14_method_76_code
def yX12_longer : MethodName := ⟨RX12, "longer", "(JI)J"⟩
abbrev cX12_differ : ByteArray := prog_14_method_77_code
def yX12_differ : MethodName := ⟨RX12, "differ", "(II)J"⟩
abbrev cX12_told : ByteArray := prog_14_method_78_code
def yX12_told : MethodName := ⟨RX12, "told", "(II)I"⟩
abbrev cX12_nameOf : ByteArray := prog_14_method_79_code
def yX12_nameOf : MethodName := ⟨RX12, "nameOf", "(II)I"⟩
abbrev cX12_to : ByteArray := prog_14_method_80_code
def yX12_to : MethodName := ⟨RX12, "to", "(III)I"⟩
abbrev cX12_step : ByteArray := prog_14_method_81_code
def yX12_step : MethodName := ⟨RX12, "step", "(III)I"⟩
abbrev cX12_takes : ByteArray := prog_14_method_82_code
def yX12_takes : MethodName := ⟨RX12, "takes", "(II)I"⟩
abbrev cX12_holds : ByteArray := prog_14_method_83_code
def yX12_holds : MethodName := ⟨RX12, "holds", "(IJJJ)I"⟩
abbrev cX12_leadsAll : ByteArray := prog_14_method_84_code
def yX12_leadsAll : MethodName := ⟨RX12, "leadsAll", "(I)V"⟩
abbrev cX12_isOfOne : ByteArray := prog_14_method_85_code
def yX12_isOfOne : MethodName := ⟨RX12, "isOfOne", "(II)Z"⟩
abbrev cX12_next_ : ByteArray := prog_14_method_86_code
def yX12_next_ : MethodName := ⟨RX12, "next", "(IJ)J"⟩
abbrev cX12_lowest : ByteArray := prog_14_method_87_code
def yX12_lowest : MethodName := ⟨RX12, "lowest", "(IIII)J"⟩
abbrev cX12_plus : ByteArray := prog_14_method_88_code
def yX12_plus : MethodName := ⟨RX12, "plus", "(JJ)J"⟩
abbrev cX12_goes : ByteArray := prog_14_method_89_code
def yX12_goes : MethodName := ⟨RX12, "goes", "(III)V"⟩
abbrev cX12_howMany : ByteArray := prog_14_method_90_code
def yX12_howMany : MethodName := ⟨RX12, "howMany", "(IJI)J"⟩
abbrev cX12_behind : ByteArray := prog_14_method_91_code
def yX12_behind : MethodName := ⟨RX12, "behind", "(II)J"⟩
abbrev cX12_start : ByteArray := prog_14_method_92_code
def yX12_start : MethodName := ⟨RX12, "start", "(II)J"⟩
abbrev cX12_good : ByteArray := prog_14_method_93_code
def yX12_good : MethodName := ⟨RX12, "good", "(II)V"⟩
abbrev cX12_many : ByteArray := prog_14_method_94_code
def yX12_many : MethodName := ⟨RX12, "many", "(I)J"⟩
abbrev cX12_values : ByteArray := prog_14_method_95_code
def yX12_values : MethodName := ⟨RX12, "values", "(IJ)J"⟩
abbrev cX12_alike : ByteArray := prog_14_method_96_code
def yX12_alike : MethodName := ⟨RX12, "alike", "(II)I"⟩
abbrev cX12_ran : ByteArray := prog_14_method_97_code
def yX12_ran : MethodName := ⟨RX12, "ran", "(I)V"⟩
abbrev cX12_isGrown : ByteArray := prog_14_method_98_code
def yX12_isGrown : MethodName := ⟨RX12, "isGrown", "(I)Z"⟩
abbrev cX12_read0 : ByteArray := prog_14_method_99_code
def yX12_read0 : MethodName := ⟨RX12, "read0", "(II)I"⟩
abbrev cX12_step0 : ByteArray := prog_14_method_100_code
def yX12_step0 : MethodName := ⟨RX12, "step0", "(II)I"⟩
abbrev cX12_join0 : ByteArray := prog_14_method_101_code
def yX12_join0 : MethodName := ⟨RX12, "join0", "(II)I"⟩
abbrev cX12_machineTell : ByteArray := prog_14_method_102_code
def yX12_machineTell : MethodName := ⟨RX12, "machineTell", "(II)I"⟩
abbrev cX12_tell0 : ByteArray := prog_14_method_103_code
def yX12_tell0 : MethodName := ⟨RX12, "tell0", "(II)I"⟩
abbrev cX12_act : ByteArray := prog_14_method_104_code
def yX12_act : MethodName := ⟨RX12, "act", "(III)I"⟩
abbrev cX12_trace : ByteArray := prog_14_method_105_code
def yX12_trace : MethodName := ⟨RX12, "trace", "(I)I"⟩
abbrev cX12_modulo : ByteArray := prog_14_method_106_code
def yX12_modulo : MethodName := ⟨RX12, "modulo", "(II)I"⟩
abbrev cX12_rowTaken : ByteArray := prog_14_method_107_code
def yX12_rowTaken : MethodName := ⟨RX12, "rowTaken", "(II)I"⟩
abbrev cX12_copied : ByteArray := prog_14_method_108_code
def yX12_copied : MethodName := ⟨RX12, "copied", "(II)I"⟩
abbrev cX12_forge : ByteArray := prog_14_method_109_code
def yX12_forge : MethodName := ⟨RX12, "forge", "(III)I"⟩
abbrev cX12_status : ByteArray := prog_14_method_110_code
def yX12_status : MethodName := ⟨RX12, "status", "()I"⟩
def RJx145de : String := "java/io/Serializable"
def TJx145de : u_T := fun k => match k with
  | _ => ("", "", "", false)
def tyJx145de : Nat → FieldType := fun k => match k with
  | _ => .int
abbrev wsJx145de0 : List Cond := u_ws RJx145de TJx145de 0
theorem nmJx145de : ∀ a, a < 0 → ∀ b, b < 0 → a ≠ b → (TJx145de a).2.1 ≠ (TJx145de b).2.1 := by decide +kernel
theorem tyJx145de_ok : ∀ k, k < 0 → parseFieldDescriptor (TJx145de k).2.2.1 = some (tyJx145de k) := by decide +kernel
def RJx9f9b0 : String := "java/lang/CharSequence"
def TJx9f9b0 : u_T := fun k => match k with
  | _ => ("", "", "", false)
def tyJx9f9b0 : Nat → FieldType := fun k => match k with
  | _ => .int
abbrev wsJx9f9b00 : List Cond := u_ws RJx9f9b0 TJx9f9b0 0
theorem nmJx9f9b0 : ∀ a, a < 0 → ∀ b, b < 0 → a ≠ b → (TJx9f9b0 a).2.1 ≠ (TJx9f9b0 b).2.1 := by decide +kernel
theorem tyJx9f9b0_ok : ∀ k, k < 0 → parseFieldDescriptor (TJx9f9b0 k).2.2.1 = some (tyJx9f9b0 k) := by decide +kernel
def RJxb160c : String := "java/lang/Comparable"
def TJxb160c : u_T := fun k => match k with
  | _ => ("", "", "", false)
def tyJxb160c : Nat → FieldType := fun k => match k with
  | _ => .int
abbrev wsJxb160c0 : List Cond := u_ws RJxb160c TJxb160c 0
theorem nmJxb160c : ∀ a, a < 0 → ∀ b, b < 0 → a ≠ b → (TJxb160c a).2.1 ≠ (TJxb160c b).2.1 := by decide +kernel
theorem tyJxb160c_ok : ∀ k, k < 0 → parseFieldDescriptor (TJxb160c k).2.2.1 = some (tyJxb160c k) := by decide +kernel
def RJ6 : String := "java/lang/Integer"
def TJ6 : u_T := fun k => match k with
  | _ => ("", "", "", false)
def tyJ6 : Nat → FieldType := fun k => match k with
  | _ => .int
abbrev wsJ60 : List Cond := u_ws RJ6 TJ6 0
theorem nmJ6 : ∀ a, a < 0 → ∀ b, b < 0 → a ≠ b → (TJ6 a).2.1 ≠ (TJ6 b).2.1 := by decide +kernel
theorem tyJ6_ok : ∀ k, k < 0 → parseFieldDescriptor (TJ6 k).2.2.1 = some (tyJ6 k) := by decide +kernel
abbrev cJ6_bitCount_0f7a4 : ByteArray := prog_15_method_49_code
def yJ6_bitCount_0f7a4 : MethodName := ⟨RJ6, "bitCount", "(I)I"⟩
def RJ9 : String := "java/lang/Math"
def TJ9 : u_T := fun k => match k with
  | _ => ("", "", "", false)
def tyJ9 : Nat → FieldType := fun k => match k with
  | _ => .int
abbrev wsJ90 : List Cond := u_ws RJ9 TJ9 0
theorem nmJ9 : ∀ a, a < 0 → ∀ b, b < 0 → a ≠ b → (TJ9 a).2.1 ≠ (TJ9 b).2.1 := by decide +kernel
theorem tyJ9_ok : ∀ k, k < 0 → parseFieldDescriptor (TJ9 k).2.2.1 = some (tyJ9 k) := by decide +kernel
abbrev cJ9_floorMod_7cf53 : ByteArray := prog_16_method_50_code
def yJ9_floorMod_7cf53 : MethodName := ⟨RJ9, "floorMod", "(II)I"⟩
abbrev cJ9_max_7cf53 : ByteArray := prog_16_method_65_code
def yJ9_max_7cf53 : MethodName := ⟨RJ9, "max", "(II)I"⟩
abbrev cJ9_min_7cf53 : ByteArray := prog_16_method_69_code
def yJ9_min_7cf53 : MethodName := ⟨RJ9, "min", "(II)I"⟩
def RJ0 : String := "java/lang/String"
def TJ0 : u_T := fun k => match k with
  | _ => ("", "", "", false)
def tyJ0 : Nat → FieldType := fun k => match k with
  | _ => .int
abbrev wsJ00 : List Cond := u_ws RJ0 TJ0 0
theorem nmJ0 : ∀ a, a < 0 → ∀ b, b < 0 → a ≠ b → (TJ0 a).2.1 ≠ (TJ0 b).2.1 := by decide +kernel
theorem tyJ0_ok : ∀ k, k < 0 → parseFieldDescriptor (TJ0 k).2.2.1 = some (tyJ0 k) := by decide +kernel
abbrev cJ0_length_8abf5 : ByteArray := prog_17_method_54_code
def yJ0_length_8abf5 : MethodName := ⟨RJ0, "length", "()I"⟩
abbrev cJ0_charAt_5068e : ByteArray := prog_17_method_56_code
def yJ0_charAt_5068e : MethodName := ⟨RJ0, "charAt", "(I)C"⟩
abbrev cJ0_coder_7d493 : ByteArray := prog_17_method_152_code
def yJ0_coder_7d493 : MethodName := ⟨RJ0, "coder", "()B"⟩
abbrev cJ0_isLatin1_aae02 : ByteArray := prog_17_method_154_code
def yJ0_isLatin1_aae02 : MethodName := ⟨RJ0, "isLatin1", "()Z"⟩
abbrev cJ0_checkIndex_df160 : ByteArray := prog_17_method_155_code
def yJ0_checkIndex_df160 : MethodName := ⟨RJ0, "checkIndex", "(II)V"⟩
def RJ1 : String := "java/lang/StringLatin1"
def TJ1 : u_T := fun k => match k with
  | _ => ("", "", "", false)
def tyJ1 : Nat → FieldType := fun k => match k with
  | _ => .int
abbrev wsJ10 : List Cond := u_ws RJ1 TJ1 0
theorem nmJ1 : ∀ a, a < 0 → ∀ b, b < 0 → a ≠ b → (TJ1 a).2.1 ≠ (TJ1 b).2.1 := by decide +kernel
theorem tyJ1_ok : ∀ k, k < 0 → parseFieldDescriptor (TJ1 k).2.2.1 = some (tyJ1 k) := by decide +kernel
abbrev cJ1_charAt_3b067 : ByteArray := prog_18_method_2_code
def yJ1_charAt_3b067 : MethodName := ⟨RJ1, "charAt", "([BI)C"⟩
def RJ2 : String := "java/lang/StringUTF16"
def TJ2 : u_T := fun k => match k with
  | _ => ("", "", "", false)
def tyJ2 : Nat → FieldType := fun k => match k with
  | _ => .int
abbrev wsJ20 : List Cond := u_ws RJ2 TJ2 0
theorem nmJ2 : ∀ a, a < 0 → ∀ b, b < 0 → a ≠ b → (TJ2 a).2.1 ≠ (TJ2 b).2.1 := by decide +kernel
theorem tyJ2_ok : ∀ k, k < 0 → parseFieldDescriptor (TJ2 k).2.2.1 = some (tyJ2 k) := by decide +kernel
abbrev cJ2_getChar_3b067 : ByteArray := prog_19_method_5_code
def yJ2_getChar_3b067 : MethodName := ⟨RJ2, "getChar", "([BI)C"⟩
abbrev cJ2_length_9d52b : ByteArray := prog_19_method_6_code
def yJ2_length_9d52b : MethodName := ⟨RJ2, "length", "([B)I"⟩
abbrev cJ2_charAt_3b067 : ByteArray := prog_19_method_83_code
def yJ2_charAt_3b067 : MethodName := ⟨RJ2, "charAt", "([BI)C"⟩
abbrev cJ2_checkIndex_2214a : ByteArray := prog_19_method_91_code
def yJ2_checkIndex_2214a : MethodName := ⟨RJ2, "checkIndex", "(I[B)V"⟩
def RJ10 : String := "java/lang/System"
def TJ10 : u_T := fun k => match k with
  | _ => ("", "", "", false)
def tyJ10 : Nat → FieldType := fun k => match k with
  | _ => .int
abbrev wsJ100 : List Cond := u_ws RJ10 TJ10 0
theorem nmJ10 : ∀ a, a < 0 → ∀ b, b < 0 → a ≠ b → (TJ10 a).2.1 ≠ (TJ10 b).2.1 := by decide +kernel
theorem tyJ10_ok : ∀ k, k < 0 → parseFieldDescriptor (TJ10 k).2.2.1 = some (tyJ10 k) := by decide +kernel
def RJxfd54e : String := "java/lang/constant/Constable"
def TJxfd54e : u_T := fun k => match k with
  | _ => ("", "", "", false)
def tyJxfd54e : Nat → FieldType := fun k => match k with
  | _ => .int
abbrev wsJxfd54e0 : List Cond := u_ws RJxfd54e TJxfd54e 0
theorem nmJxfd54e : ∀ a, a < 0 → ∀ b, b < 0 → a ≠ b → (TJxfd54e a).2.1 ≠ (TJxfd54e b).2.1 := by decide +kernel
theorem tyJxfd54e_ok : ∀ k, k < 0 → parseFieldDescriptor (TJxfd54e k).2.2.1 = some (tyJxfd54e k) := by decide +kernel
def RJx3cf43 : String := "java/lang/constant/ConstantDesc"
def TJx3cf43 : u_T := fun k => match k with
  | _ => ("", "", "", false)
def tyJx3cf43 : Nat → FieldType := fun k => match k with
  | _ => .int
abbrev wsJx3cf430 : List Cond := u_ws RJx3cf43 TJx3cf43 0
theorem nmJx3cf43 : ∀ a, a < 0 → ∀ b, b < 0 → a ≠ b → (TJx3cf43 a).2.1 ≠ (TJx3cf43 b).2.1 := by decide +kernel
theorem tyJx3cf43_ok : ∀ k, k < 0 → parseFieldDescriptor (TJx3cf43 k).2.2.1 = some (tyJx3cf43 k) := by decide +kernel
def RJ7 : String := "java/util/Arrays"
def TJ7 : u_T := fun k => match k with
  | _ => ("", "", "", false)
def tyJ7 : Nat → FieldType := fun k => match k with
  | _ => .int
abbrev wsJ70 : List Cond := u_ws RJ7 TJ7 0
theorem nmJ7 : ∀ a, a < 0 → ∀ b, b < 0 → a ≠ b → (TJ7 a).2.1 ≠ (TJ7 b).2.1 := by decide +kernel
theorem tyJ7_ok : ∀ k, k < 0 → parseFieldDescriptor (TJ7 k).2.2.1 = some (tyJ7 k) := by decide +kernel
abbrev cJ7_rangeCheck_23922 : ByteArray := prog_21_method_30_code
def yJ7_rangeCheck_23922 : MethodName := ⟨RJ7, "rangeCheck", "(III)V"⟩
abbrev cJ7_fill_d0a16 : ByteArray := prog_21_method_101_code
def yJ7_fill_d0a16 : MethodName := ⟨RJ7, "fill", "([JJ)V"⟩
abbrev cJ7_fill_53178 : ByteArray := prog_21_method_103_code
def yJ7_fill_53178 : MethodName := ⟨RJ7, "fill", "([II)V"⟩
abbrev cJ7_fill_fda19 : ByteArray := prog_21_method_104_code
def yJ7_fill_fda19 : MethodName := ⟨RJ7, "fill", "([IIII)V"⟩
def RJ3 : String := "jdk/internal/util/Preconditions"
def TJ3 : u_T := fun k => match k with
  | _ => ("", "", "", false)
def tyJ3 : Nat → FieldType := fun k => match k with
  | _ => .int
abbrev wsJ30 : List Cond := u_ws RJ3 TJ3 0
theorem nmJ3 : ∀ a, a < 0 → ∀ b, b < 0 → a ≠ b → (TJ3 a).2.1 ≠ (TJ3 b).2.1 := by decide +kernel
theorem tyJ3_ok : ∀ k, k < 0 → parseFieldDescriptor (TJ3 k).2.2.1 = some (tyJ3 k) := by decide +kernel
abbrev cJ3_checkIndex_8e157 : ByteArray := prog_22_method_11_code
def yJ3_checkIndex_8e157 : MethodName := ⟨RJ3, "checkIndex", "(IILjava/util/function/BiFunction;)I"⟩
def RL : String := "EndlessRowsLaw"
abbrev cL_law : ByteArray := code
def yL_law : MethodName := ⟨RL, "law", "([I)Z"⟩
theorem inX0 : ∀ w ∈ wsX00, w ∈ lw_tbl := by decide +kernel
theorem inX1 : ∀ w ∈ wsX10, w ∈ lw_tbl := by decide +kernel
theorem inX2 : ∀ w ∈ wsX20, w ∈ lw_tbl := by decide +kernel
theorem inX3 : ∀ w ∈ wsX30, w ∈ lw_tbl := by decide +kernel
theorem inX4 : ∀ w ∈ wsX40, w ∈ lw_tbl := by decide +kernel
theorem inX5 : ∀ w ∈ wsX50, w ∈ lw_tbl := by decide +kernel
theorem inX6 : ∀ w ∈ wsX60, w ∈ lw_tbl := by decide +kernel
theorem inX7 : ∀ w ∈ wsX70, w ∈ lw_tbl := by decide +kernel
theorem inX8 : ∀ w ∈ wsX80, w ∈ lw_tbl := by decide +kernel
theorem inX9 : ∀ w ∈ wsX90, w ∈ lw_tbl := by decide +kernel
theorem inX10 : ∀ w ∈ wsX100, w ∈ lw_tbl := by decide +kernel
theorem inX11 : ∀ w ∈ wsX110, w ∈ lw_tbl := by decide +kernel
theorem inX12 : ∀ w ∈ wsX120, w ∈ lw_tbl := by decide +kernel
