-- ===== PART A: goes FIRST, ahead of the names: the tables' words, and 'selects' of the private methods out of them =====
/-- a private method of a class that the tables say can be made, by its rows of tables_1 -/
def lw_okq (q : MethodName × Nat) : Prop := (q.1.cls ≠ "java/lang/invoke/MethodHandle" ∧ q.1.cls ≠ "java/lang/invoke/VarHandle") ∧ Cond.instantiable q.1.cls q.2 ∈ tables_1 ∧ Cond.privateMethod q.1 ∈ tables_1 ∧ Cond.instanceMethod q.1 ∈ tables_1
theorem lw_p0 : lw_okq (⟨"WordSquares$Text", "repeats", "(II)Z"⟩, 2) := ⟨⟨by decide +kernel, by decide +kernel⟩, List.mem_of_getElem? (i := 23) (by decide +kernel), List.mem_of_getElem? (i := 225) (by decide +kernel), List.mem_of_getElem? (i := 226) (by decide +kernel)⟩
theorem lw_p1 : lw_okq (⟨"WordSquares$Text", "sameWord", "(III)Z"⟩, 2) := ⟨⟨by decide +kernel, by decide +kernel⟩, List.mem_of_getElem? (i := 23) (by decide +kernel), List.mem_of_getElem? (i := 229) (by decide +kernel), List.mem_of_getElem? (i := 230) (by decide +kernel)⟩
theorem lw_p2 : lw_okq (⟨"WordSquares$Text", "firstComma", "()I"⟩, 2) := ⟨⟨by decide +kernel, by decide +kernel⟩, List.mem_of_getElem? (i := 23) (by decide +kernel), List.mem_of_getElem? (i := 246) (by decide +kernel), List.mem_of_getElem? (i := 247) (by decide +kernel)⟩
theorem lw_p3 : lw_okq (⟨"WordSquares", "renew", "()V"⟩, 9) := ⟨⟨by decide +kernel, by decide +kernel⟩, List.mem_of_getElem? (i := 15) (by decide +kernel), List.mem_of_getElem? (i := 274) (by decide +kernel), List.mem_of_getElem? (i := 275) (by decide +kernel)⟩
theorem lw_p4 : lw_okq (⟨"WordSquares$Finder", "clear", "()V"⟩, 13) := ⟨⟨by decide +kernel, by decide +kernel⟩, List.mem_of_getElem? (i := 56) (by decide +kernel), List.mem_of_getElem? (i := 282) (by decide +kernel), List.mem_of_getElem? (i := 283) (by decide +kernel)⟩
theorem lw_p5 : lw_okq (⟨"WordSquares$Prefixes", "buildLonger", "(I)V"⟩, 4) := ⟨⟨by decide +kernel, by decide +kernel⟩, List.mem_of_getElem? (i := 89) (by decide +kernel), List.mem_of_getElem? (i := 309) (by decide +kernel), List.mem_of_getElem? (i := 310) (by decide +kernel)⟩
theorem lw_p6 : lw_okq (⟨"WordSquares$Prefixes", "isHead", "(II)Z"⟩, 4) := ⟨⟨by decide +kernel, by decide +kernel⟩, List.mem_of_getElem? (i := 89) (by decide +kernel), List.mem_of_getElem? (i := 315) (by decide +kernel), List.mem_of_getElem? (i := 316) (by decide +kernel)⟩
theorem lw_p7 : lw_okq (⟨"WordSquares$Prefixes", "buildTakers", "(II)V"⟩, 4) := ⟨⟨by decide +kernel, by decide +kernel⟩, List.mem_of_getElem? (i := 89) (by decide +kernel), List.mem_of_getElem? (i := 330) (by decide +kernel), List.mem_of_getElem? (i := 331) (by decide +kernel)⟩
theorem lw_p8 : lw_okq (⟨"WordSquares$Prefixes", "firstAlike", "(II)I"⟩, 4) := ⟨⟨by decide +kernel, by decide +kernel⟩, List.mem_of_getElem? (i := 89) (by decide +kernel), List.mem_of_getElem? (i := 334) (by decide +kernel), List.mem_of_getElem? (i := 335) (by decide +kernel)⟩
theorem lw_p9 : lw_okq (⟨"WordSquares$Prefixes", "sameRests", "(III)Z"⟩, 4) := ⟨⟨by decide +kernel, by decide +kernel⟩, List.mem_of_getElem? (i := 89) (by decide +kernel), List.mem_of_getElem? (i := 338) (by decide +kernel), List.mem_of_getElem? (i := 339) (by decide +kernel)⟩
theorem lw_p10 : lw_okq (⟨"WordSquares$Finder", "explore", "(III)Z"⟩, 13) := ⟨⟨by decide +kernel, by decide +kernel⟩, List.mem_of_getElem? (i := 56) (by decide +kernel), List.mem_of_getElem? (i := 350) (by decide +kernel), List.mem_of_getElem? (i := 351) (by decide +kernel)⟩
theorem lw_p11 : lw_okq (⟨"WordSquares$Finder", "keep", "(II)V"⟩, 13) := ⟨⟨by decide +kernel, by decide +kernel⟩, List.mem_of_getElem? (i := 56) (by decide +kernel), List.mem_of_getElem? (i := 355) (by decide +kernel), List.mem_of_getElem? (i := 356) (by decide +kernel)⟩
theorem lw_p12 : lw_okq (⟨"WordSquares$Finder", "countSymmetric", "(I)V"⟩, 13) := ⟨⟨by decide +kernel, by decide +kernel⟩, List.mem_of_getElem? (i := 56) (by decide +kernel), List.mem_of_getElem? (i := 382) (by decide +kernel), List.mem_of_getElem? (i := 383) (by decide +kernel)⟩
theorem lw_p13 : lw_okq (⟨"WordSquares$Finder", "exploreWithMemory", "(II)Z"⟩, 13) := ⟨⟨by decide +kernel, by decide +kernel⟩, List.mem_of_getElem? (i := 56) (by decide +kernel), List.mem_of_getElem? (i := 401) (by decide +kernel), List.mem_of_getElem? (i := 402) (by decide +kernel)⟩
theorem lw_p14 : lw_okq (⟨"WordSquares", "greatestOf", "(LWordSquares$SquareList;)I"⟩, 9) := ⟨⟨by decide +kernel, by decide +kernel⟩, List.mem_of_getElem? (i := 15) (by decide +kernel), List.mem_of_getElem? (i := 561) (by decide +kernel), List.mem_of_getElem? (i := 562) (by decide +kernel)⟩
theorem lw_p15 : lw_okq (⟨"WordSquares", "weightOfSquare", "(LWordSquares$SquareList;I)I"⟩, 9) := ⟨⟨by decide +kernel, by decide +kernel⟩, List.mem_of_getElem? (i := 15) (by decide +kernel), List.mem_of_getElem? (i := 565) (by decide +kernel), List.mem_of_getElem? (i := 566) (by decide +kernel)⟩
def lw_privs_1 : List (MethodName × Nat) := [(⟨"WordSquares$Text", "repeats", "(II)Z"⟩, 2), (⟨"WordSquares$Text", "sameWord", "(III)Z"⟩, 2), (⟨"WordSquares$Text", "firstComma", "()I"⟩, 2), (⟨"WordSquares", "renew", "()V"⟩, 9), (⟨"WordSquares$Finder", "clear", "()V"⟩, 13), (⟨"WordSquares$Prefixes", "buildLonger", "(I)V"⟩, 4), (⟨"WordSquares$Prefixes", "isHead", "(II)Z"⟩, 4), (⟨"WordSquares$Prefixes", "buildTakers", "(II)V"⟩, 4), (⟨"WordSquares$Prefixes", "firstAlike", "(II)I"⟩, 4), (⟨"WordSquares$Prefixes", "sameRests", "(III)Z"⟩, 4), (⟨"WordSquares$Finder", "explore", "(III)Z"⟩, 13), (⟨"WordSquares$Finder", "keep", "(II)V"⟩, 13), (⟨"WordSquares$Finder", "countSymmetric", "(I)V"⟩, 13), (⟨"WordSquares$Finder", "exploreWithMemory", "(II)Z"⟩, 13), (⟨"WordSquares", "greatestOf", "(LWordSquares$SquareList;)I"⟩, 9), (⟨"WordSquares", "weightOfSquare", "(LWordSquares$SquareList;I)I"⟩, 9)]
theorem lw_r1 : ∀ q ∈ lw_privs_1, lw_okq q := List.forall_mem_cons.mpr ⟨lw_p0, List.forall_mem_cons.mpr ⟨lw_p1, List.forall_mem_cons.mpr ⟨lw_p2, List.forall_mem_cons.mpr ⟨lw_p3, List.forall_mem_cons.mpr ⟨lw_p4, List.forall_mem_cons.mpr ⟨lw_p5, List.forall_mem_cons.mpr ⟨lw_p6, List.forall_mem_cons.mpr ⟨lw_p7, List.forall_mem_cons.mpr ⟨lw_p8, List.forall_mem_cons.mpr ⟨lw_p9, List.forall_mem_cons.mpr ⟨lw_p10, List.forall_mem_cons.mpr ⟨lw_p11, List.forall_mem_cons.mpr ⟨lw_p12, List.forall_mem_cons.mpr ⟨lw_p13, List.forall_mem_cons.mpr ⟨lw_p14, List.forall_mem_cons.mpr ⟨lw_p15, fun _ h => absurd h List.not_mem_nil⟩⟩⟩⟩⟩⟩⟩⟩⟩⟩⟩⟩⟩⟩⟩⟩
theorem lw_p16 : lw_okq (⟨"WordSquares", "lookedBoard", "()LWordSquares$Board;"⟩, 9) := ⟨⟨by decide +kernel, by decide +kernel⟩, List.mem_of_getElem? (i := 15) (by decide +kernel), List.mem_of_getElem? (i := 597) (by decide +kernel), List.mem_of_getElem? (i := 598) (by decide +kernel)⟩
theorem lw_p17 : lw_okq (⟨"WordSquares$Board", "addRows", "(II)V"⟩, 3) := ⟨⟨by decide +kernel, by decide +kernel⟩, List.mem_of_getElem? (i := 150) (by decide +kernel), List.mem_of_getElem? (i := 607) (by decide +kernel), List.mem_of_getElem? (i := 608) (by decide +kernel)⟩
theorem lw_p18 : lw_okq (⟨"WordSquares", "mixWords", "(J)J"⟩, 9) := ⟨⟨by decide +kernel, by decide +kernel⟩, List.mem_of_getElem? (i := 15) (by decide +kernel), List.mem_of_getElem? (i := 678) (by decide +kernel), List.mem_of_getElem? (i := 679) (by decide +kernel)⟩
theorem lw_p19 : lw_okq (⟨"WordSquares", "mixSquares", "(J)J"⟩, 9) := ⟨⟨by decide +kernel, by decide +kernel⟩, List.mem_of_getElem? (i := 15) (by decide +kernel), List.mem_of_getElem? (i := 684) (by decide +kernel), List.mem_of_getElem? (i := 685) (by decide +kernel)⟩
theorem lw_p20 : lw_okq (⟨"WordSquares", "mixBoard", "(J)J"⟩, 9) := ⟨⟨by decide +kernel, by decide +kernel⟩, List.mem_of_getElem? (i := 15) (by decide +kernel), List.mem_of_getElem? (i := 692) (by decide +kernel), List.mem_of_getElem? (i := 693) (by decide +kernel)⟩
theorem lw_p21 : lw_okq (⟨"WordSquaresModel", "clearBoard", "()V"⟩, 31) := ⟨⟨by decide +kernel, by decide +kernel⟩, List.mem_of_getElem? (i := 703) (by decide +kernel), List.mem_of_getElem? (i := 709) (by decide +kernel), List.mem_of_getElem? (i := 710) (by decide +kernel)⟩
theorem lw_p22 : lw_okq (⟨"WordSquaresModel", "read", "()I"⟩, 31) := ⟨⟨by decide +kernel, by decide +kernel⟩, List.mem_of_getElem? (i := 703) (by decide +kernel), List.mem_of_getElem? (i := 823) (by decide +kernel), List.mem_of_getElem? (i := 824) (by decide +kernel)⟩
theorem lw_p23 : lw_okq (⟨"WordSquaresModel", "takes", "(I)Z"⟩, 31) := ⟨⟨by decide +kernel, by decide +kernel⟩, List.mem_of_getElem? (i := 703) (by decide +kernel), List.mem_of_getElem? (i := 827) (by decide +kernel), List.mem_of_getElem? (i := 828) (by decide +kernel)⟩
theorem lw_p24 : lw_okq (⟨"WordSquaresModel", "takesComma", "()Z"⟩, 31) := ⟨⟨by decide +kernel, by decide +kernel⟩, List.mem_of_getElem? (i := 703) (by decide +kernel), List.mem_of_getElem? (i := 831) (by decide +kernel), List.mem_of_getElem? (i := 832) (by decide +kernel)⟩
theorem lw_p25 : lw_okq (⟨"WordSquaresModel", "isTwice", "()Z"⟩, 31) := ⟨⟨by decide +kernel, by decide +kernel⟩, List.mem_of_getElem? (i := 703) (by decide +kernel), List.mem_of_getElem? (i := 835) (by decide +kernel), List.mem_of_getElem? (i := 836) (by decide +kernel)⟩
theorem lw_p26 : lw_okq (⟨"WordSquaresModel", "isNew", "(I)Z"⟩, 31) := ⟨⟨by decide +kernel, by decide +kernel⟩, List.mem_of_getElem? (i := 703) (by decide +kernel), List.mem_of_getElem? (i := 843) (by decide +kernel), List.mem_of_getElem? (i := 844) (by decide +kernel)⟩
theorem lw_p27 : lw_okq (⟨"WordSquaresModel", "isThere", "(I)Z"⟩, 31) := ⟨⟨by decide +kernel, by decide +kernel⟩, List.mem_of_getElem? (i := 703) (by decide +kernel), List.mem_of_getElem? (i := 847) (by decide +kernel), List.mem_of_getElem? (i := 848) (by decide +kernel)⟩
theorem lw_p28 : lw_okq (⟨"WordSquaresModel", "comes", "(I)V"⟩, 31) := ⟨⟨by decide +kernel, by decide +kernel⟩, List.mem_of_getElem? (i := 703) (by decide +kernel), List.mem_of_getElem? (i := 851) (by decide +kernel), List.mem_of_getElem? (i := 852) (by decide +kernel)⟩
theorem lw_p29 : lw_okq (⟨"WordSquaresModel", "isAhead", "(II)Z"⟩, 31) := ⟨⟨by decide +kernel, by decide +kernel⟩, List.mem_of_getElem? (i := 703) (by decide +kernel), List.mem_of_getElem? (i := 855) (by decide +kernel), List.mem_of_getElem? (i := 856) (by decide +kernel)⟩
theorem lw_p30 : lw_okq (⟨"WordSquaresModel", "move", "(II)V"⟩, 31) := ⟨⟨by decide +kernel, by decide +kernel⟩, List.mem_of_getElem? (i := 703) (by decide +kernel), List.mem_of_getElem? (i := 859) (by decide +kernel), List.mem_of_getElem? (i := 860) (by decide +kernel)⟩
theorem lw_p31 : lw_okq (⟨"WordSquaresModel", "isWord", "(I)Z"⟩, 31) := ⟨⟨by decide +kernel, by decide +kernel⟩, List.mem_of_getElem? (i := 703) (by decide +kernel), List.mem_of_getElem? (i := 867) (by decide +kernel), List.mem_of_getElem? (i := 868) (by decide +kernel)⟩
def lw_privs_2 : List (MethodName × Nat) := [(⟨"WordSquares", "lookedBoard", "()LWordSquares$Board;"⟩, 9), (⟨"WordSquares$Board", "addRows", "(II)V"⟩, 3), (⟨"WordSquares", "mixWords", "(J)J"⟩, 9), (⟨"WordSquares", "mixSquares", "(J)J"⟩, 9), (⟨"WordSquares", "mixBoard", "(J)J"⟩, 9), (⟨"WordSquaresModel", "clearBoard", "()V"⟩, 31), (⟨"WordSquaresModel", "read", "()I"⟩, 31), (⟨"WordSquaresModel", "takes", "(I)Z"⟩, 31), (⟨"WordSquaresModel", "takesComma", "()Z"⟩, 31), (⟨"WordSquaresModel", "isTwice", "()Z"⟩, 31), (⟨"WordSquaresModel", "isNew", "(I)Z"⟩, 31), (⟨"WordSquaresModel", "isThere", "(I)Z"⟩, 31), (⟨"WordSquaresModel", "comes", "(I)V"⟩, 31), (⟨"WordSquaresModel", "isAhead", "(II)Z"⟩, 31), (⟨"WordSquaresModel", "move", "(II)V"⟩, 31), (⟨"WordSquaresModel", "isWord", "(I)Z"⟩, 31)]
theorem lw_r2 : ∀ q ∈ lw_privs_2, lw_okq q := List.forall_mem_cons.mpr ⟨lw_p16, List.forall_mem_cons.mpr ⟨lw_p17, List.forall_mem_cons.mpr ⟨lw_p18, List.forall_mem_cons.mpr ⟨lw_p19, List.forall_mem_cons.mpr ⟨lw_p20, List.forall_mem_cons.mpr ⟨lw_p21, List.forall_mem_cons.mpr ⟨lw_p22, List.forall_mem_cons.mpr ⟨lw_p23, List.forall_mem_cons.mpr ⟨lw_p24, List.forall_mem_cons.mpr ⟨lw_p25, List.forall_mem_cons.mpr ⟨lw_p26, List.forall_mem_cons.mpr ⟨lw_p27, List.forall_mem_cons.mpr ⟨lw_p28, List.forall_mem_cons.mpr ⟨lw_p29, List.forall_mem_cons.mpr ⟨lw_p30, List.forall_mem_cons.mpr ⟨lw_p31, fun _ h => absurd h List.not_mem_nil⟩⟩⟩⟩⟩⟩⟩⟩⟩⟩⟩⟩⟩⟩⟩⟩
theorem lw_p32 : lw_okq (⟨"WordSquaresModel", "aboutNow", "(I)I"⟩, 31) := ⟨⟨by decide +kernel, by decide +kernel⟩, List.mem_of_getElem? (i := 703) (by decide +kernel), List.mem_of_getElem? (i := 879) (by decide +kernel), List.mem_of_getElem? (i := 880) (by decide +kernel)⟩
theorem lw_p33 : lw_okq (⟨"WordSquaresModel", "beginnings", "()I"⟩, 31) := ⟨⟨by decide +kernel, by decide +kernel⟩, List.mem_of_getElem? (i := 703) (by decide +kernel), List.mem_of_getElem? (i := 883) (by decide +kernel), List.mem_of_getElem? (i := 884) (by decide +kernel)⟩
theorem lw_p34 : lw_okq (⟨"WordSquaresModel", "alike", "(II)I"⟩, 31) := ⟨⟨by decide +kernel, by decide +kernel⟩, List.mem_of_getElem? (i := 703) (by decide +kernel), List.mem_of_getElem? (i := 887) (by decide +kernel), List.mem_of_getElem? (i := 888) (by decide +kernel)⟩
theorem lw_p35 : lw_okq (⟨"WordSquaresModel", "at", "(II)I"⟩, 31) := ⟨⟨by decide +kernel, by decide +kernel⟩, List.mem_of_getElem? (i := 703) (by decide +kernel), List.mem_of_getElem? (i := 891) (by decide +kernel), List.mem_of_getElem? (i := 892) (by decide +kernel)⟩
theorem lw_p36 : lw_okq (⟨"WordSquaresModel", "lettersMany", "()I"⟩, 31) := ⟨⟨by decide +kernel, by decide +kernel⟩, List.mem_of_getElem? (i := 703) (by decide +kernel), List.mem_of_getElem? (i := 895) (by decide +kernel), List.mem_of_getElem? (i := 896) (by decide +kernel)⟩
theorem lw_p37 : lw_okq (⟨"WordSquaresModel", "weightsAll", "()I"⟩, 31) := ⟨⟨by decide +kernel, by decide +kernel⟩, List.mem_of_getElem? (i := 703) (by decide +kernel), List.mem_of_getElem? (i := 899) (by decide +kernel), List.mem_of_getElem? (i := 900) (by decide +kernel)⟩
theorem lw_p38 : lw_okq (⟨"WordSquaresModel", "mirrored", "()I"⟩, 31) := ⟨⟨by decide +kernel, by decide +kernel⟩, List.mem_of_getElem? (i := 703) (by decide +kernel), List.mem_of_getElem? (i := 903) (by decide +kernel), List.mem_of_getElem? (i := 904) (by decide +kernel)⟩
theorem lw_p39 : lw_okq (⟨"WordSquaresModel", "mirrorOf", "(I)I"⟩, 31) := ⟨⟨by decide +kernel, by decide +kernel⟩, List.mem_of_getElem? (i := 703) (by decide +kernel), List.mem_of_getElem? (i := 907) (by decide +kernel), List.mem_of_getElem? (i := 908) (by decide +kernel)⟩
theorem lw_p40 : lw_okq (⟨"WordSquaresModel", "beginsNow", "(II)I"⟩, 31) := ⟨⟨by decide +kernel, by decide +kernel⟩, List.mem_of_getElem? (i := 703) (by decide +kernel), List.mem_of_getElem? (i := 919) (by decide +kernel), List.mem_of_getElem? (i := 920) (by decide +kernel)⟩
theorem lw_p41 : lw_okq (⟨"WordSquaresModel", "squaresNow", "(I)I"⟩, 31) := ⟨⟨by decide +kernel, by decide +kernel⟩, List.mem_of_getElem? (i := 703) (by decide +kernel), List.mem_of_getElem? (i := 927) (by decide +kernel), List.mem_of_getElem? (i := 928) (by decide +kernel)⟩
theorem lw_p42 : lw_okq (⟨"WordSquaresModel", "begin", "()V"⟩, 31) := ⟨⟨by decide +kernel, by decide +kernel⟩, List.mem_of_getElem? (i := 703) (by decide +kernel), List.mem_of_getElem? (i := 931) (by decide +kernel), List.mem_of_getElem? (i := 932) (by decide +kernel)⟩
theorem lw_p43 : lw_okq (⟨"WordSquaresModel", "isOf", "(I)Z"⟩, 31) := ⟨⟨by decide +kernel, by decide +kernel⟩, List.mem_of_getElem? (i := 703) (by decide +kernel), List.mem_of_getElem? (i := 935) (by decide +kernel), List.mem_of_getElem? (i := 936) (by decide +kernel)⟩
theorem lw_p44 : lw_okq (⟨"WordSquaresModel", "isSquare", "()Z"⟩, 31) := ⟨⟨by decide +kernel, by decide +kernel⟩, List.mem_of_getElem? (i := 703) (by decide +kernel), List.mem_of_getElem? (i := 939) (by decide +kernel), List.mem_of_getElem? (i := 940) (by decide +kernel)⟩
theorem lw_p45 : lw_okq (⟨"WordSquaresModel", "wordOfColumn", "(I)I"⟩, 31) := ⟨⟨by decide +kernel, by decide +kernel⟩, List.mem_of_getElem? (i := 703) (by decide +kernel), List.mem_of_getElem? (i := 943) (by decide +kernel), List.mem_of_getElem? (i := 944) (by decide +kernel)⟩
theorem lw_p46 : lw_okq (⟨"WordSquaresModel", "isSame", "()Z"⟩, 31) := ⟨⟨by decide +kernel, by decide +kernel⟩, List.mem_of_getElem? (i := 703) (by decide +kernel), List.mem_of_getElem? (i := 947) (by decide +kernel), List.mem_of_getElem? (i := 948) (by decide +kernel)⟩
theorem lw_p47 : lw_okq (⟨"WordSquaresModel", "isUnlike", "()Z"⟩, 31) := ⟨⟨by decide +kernel, by decide +kernel⟩, List.mem_of_getElem? (i := 703) (by decide +kernel), List.mem_of_getElem? (i := 951) (by decide +kernel), List.mem_of_getElem? (i := 952) (by decide +kernel)⟩
def lw_privs_3 : List (MethodName × Nat) := [(⟨"WordSquaresModel", "aboutNow", "(I)I"⟩, 31), (⟨"WordSquaresModel", "beginnings", "()I"⟩, 31), (⟨"WordSquaresModel", "alike", "(II)I"⟩, 31), (⟨"WordSquaresModel", "at", "(II)I"⟩, 31), (⟨"WordSquaresModel", "lettersMany", "()I"⟩, 31), (⟨"WordSquaresModel", "weightsAll", "()I"⟩, 31), (⟨"WordSquaresModel", "mirrored", "()I"⟩, 31), (⟨"WordSquaresModel", "mirrorOf", "(I)I"⟩, 31), (⟨"WordSquaresModel", "beginsNow", "(II)I"⟩, 31), (⟨"WordSquaresModel", "squaresNow", "(I)I"⟩, 31), (⟨"WordSquaresModel", "begin", "()V"⟩, 31), (⟨"WordSquaresModel", "isOf", "(I)Z"⟩, 31), (⟨"WordSquaresModel", "isSquare", "()Z"⟩, 31), (⟨"WordSquaresModel", "wordOfColumn", "(I)I"⟩, 31), (⟨"WordSquaresModel", "isSame", "()Z"⟩, 31), (⟨"WordSquaresModel", "isUnlike", "()Z"⟩, 31)]
theorem lw_r3 : ∀ q ∈ lw_privs_3, lw_okq q := List.forall_mem_cons.mpr ⟨lw_p32, List.forall_mem_cons.mpr ⟨lw_p33, List.forall_mem_cons.mpr ⟨lw_p34, List.forall_mem_cons.mpr ⟨lw_p35, List.forall_mem_cons.mpr ⟨lw_p36, List.forall_mem_cons.mpr ⟨lw_p37, List.forall_mem_cons.mpr ⟨lw_p38, List.forall_mem_cons.mpr ⟨lw_p39, List.forall_mem_cons.mpr ⟨lw_p40, List.forall_mem_cons.mpr ⟨lw_p41, List.forall_mem_cons.mpr ⟨lw_p42, List.forall_mem_cons.mpr ⟨lw_p43, List.forall_mem_cons.mpr ⟨lw_p44, List.forall_mem_cons.mpr ⟨lw_p45, List.forall_mem_cons.mpr ⟨lw_p46, List.forall_mem_cons.mpr ⟨lw_p47, fun _ h => absurd h List.not_mem_nil⟩⟩⟩⟩⟩⟩⟩⟩⟩⟩⟩⟩⟩⟩⟩⟩
theorem lw_p48 : lw_okq (⟨"WordSquaresModel", "next", "()Z"⟩, 31) := ⟨⟨by decide +kernel, by decide +kernel⟩, List.mem_of_getElem? (i := 703) (by decide +kernel), List.mem_of_getElem? (i := 955) (by decide +kernel), List.mem_of_getElem? (i := 956) (by decide +kernel)⟩
theorem lw_p49 : lw_okq (⟨"WordSquaresModel", "lay", "(II)Z"⟩, 31) := ⟨⟨by decide +kernel, by decide +kernel⟩, List.mem_of_getElem? (i := 703) (by decide +kernel), List.mem_of_getElem? (i := 963) (by decide +kernel), List.mem_of_getElem? (i := 964) (by decide +kernel)⟩
theorem lw_p50 : lw_okq (⟨"WordSquaresModel", "turnedNow", "()I"⟩, 31) := ⟨⟨by decide +kernel, by decide +kernel⟩, List.mem_of_getElem? (i := 703) (by decide +kernel), List.mem_of_getElem? (i := 971) (by decide +kernel), List.mem_of_getElem? (i := 972) (by decide +kernel)⟩
theorem lw_p51 : lw_okq (⟨"WordSquaresModel", "heavyNow", "()I"⟩, 31) := ⟨⟨by decide +kernel, by decide +kernel⟩, List.mem_of_getElem? (i := 703) (by decide +kernel), List.mem_of_getElem? (i := 979) (by decide +kernel), List.mem_of_getElem? (i := 980) (by decide +kernel)⟩
theorem lw_p52 : lw_okq (⟨"WordSquaresModel", "heaviestNow", "(I)I"⟩, 31) := ⟨⟨by decide +kernel, by decide +kernel⟩, List.mem_of_getElem? (i := 703) (by decide +kernel), List.mem_of_getElem? (i := 987) (by decide +kernel), List.mem_of_getElem? (i := 988) (by decide +kernel)⟩
theorem lw_p53 : lw_okq (⟨"WordSquaresModel", "wordTold", "(II)I"⟩, 31) := ⟨⟨by decide +kernel, by decide +kernel⟩, List.mem_of_getElem? (i := 703) (by decide +kernel), List.mem_of_getElem? (i := 995) (by decide +kernel), List.mem_of_getElem? (i := 996) (by decide +kernel)⟩
theorem lw_p54 : lw_okq (⟨"WordSquaresModel", "layCounts", "()V"⟩, 31) := ⟨⟨by decide +kernel, by decide +kernel⟩, List.mem_of_getElem? (i := 703) (by decide +kernel), List.mem_of_getElem? (i := 999) (by decide +kernel), List.mem_of_getElem? (i := 1000) (by decide +kernel)⟩
theorem lw_p55 : lw_okq (⟨"WordSquaresModel", "countSquare", "()V"⟩, 31) := ⟨⟨by decide +kernel, by decide +kernel⟩, List.mem_of_getElem? (i := 703) (by decide +kernel), List.mem_of_getElem? (i := 1003) (by decide +kernel), List.mem_of_getElem? (i := 1004) (by decide +kernel)⟩
theorem lw_p56 : lw_okq (⟨"WordSquaresModel", "wordNow", "(II)I"⟩, 31) := ⟨⟨by decide +kernel, by decide +kernel⟩, List.mem_of_getElem? (i := 703) (by decide +kernel), List.mem_of_getElem? (i := 1007) (by decide +kernel), List.mem_of_getElem? (i := 1008) (by decide +kernel)⟩
theorem lw_p57 : lw_okq (⟨"WordSquaresModel", "isRow", "(I)Z"⟩, 31) := ⟨⟨by decide +kernel, by decide +kernel⟩, List.mem_of_getElem? (i := 703) (by decide +kernel), List.mem_of_getElem? (i := 1015) (by decide +kernel), List.mem_of_getElem? (i := 1016) (by decide +kernel)⟩
theorem lw_p58 : lw_okq (⟨"WordSquaresModel", "fittingNow", "()I"⟩, 31) := ⟨⟨by decide +kernel, by decide +kernel⟩, List.mem_of_getElem? (i := 703) (by decide +kernel), List.mem_of_getElem? (i := 1031) (by decide +kernel), List.mem_of_getElem? (i := 1032) (by decide +kernel)⟩
theorem lw_p59 : lw_okq (⟨"WordSquaresModel", "layFitting", "()V"⟩, 31) := ⟨⟨by decide +kernel, by decide +kernel⟩, List.mem_of_getElem? (i := 703) (by decide +kernel), List.mem_of_getElem? (i := 1035) (by decide +kernel), List.mem_of_getElem? (i := 1036) (by decide +kernel)⟩
theorem lw_p60 : lw_okq (⟨"WordSquaresModel", "isFitting", "()Z"⟩, 31) := ⟨⟨by decide +kernel, by decide +kernel⟩, List.mem_of_getElem? (i := 703) (by decide +kernel), List.mem_of_getElem? (i := 1039) (by decide +kernel), List.mem_of_getElem? (i := 1040) (by decide +kernel)⟩
theorem lw_p61 : lw_okq (⟨"WordSquaresModel", "countFitting", "()V"⟩, 31) := ⟨⟨by decide +kernel, by decide +kernel⟩, List.mem_of_getElem? (i := 703) (by decide +kernel), List.mem_of_getElem? (i := 1043) (by decide +kernel), List.mem_of_getElem? (i := 1044) (by decide +kernel)⟩
theorem lw_p62 : lw_okq (⟨"WordSquaresModel", "mayNow", "(I)I"⟩, 31) := ⟨⟨by decide +kernel, by decide +kernel⟩, List.mem_of_getElem? (i := 703) (by decide +kernel), List.mem_of_getElem? (i := 1051) (by decide +kernel), List.mem_of_getElem? (i := 1052) (by decide +kernel)⟩
theorem lw_p63 : lw_okq (⟨"WordSquaresModel", "sureNow", "(II)I"⟩, 31) := ⟨⟨by decide +kernel, by decide +kernel⟩, List.mem_of_getElem? (i := 703) (by decide +kernel), List.mem_of_getElem? (i := 1059) (by decide +kernel), List.mem_of_getElem? (i := 1060) (by decide +kernel)⟩
def lw_privs_4 : List (MethodName × Nat) := [(⟨"WordSquaresModel", "next", "()Z"⟩, 31), (⟨"WordSquaresModel", "lay", "(II)Z"⟩, 31), (⟨"WordSquaresModel", "turnedNow", "()I"⟩, 31), (⟨"WordSquaresModel", "heavyNow", "()I"⟩, 31), (⟨"WordSquaresModel", "heaviestNow", "(I)I"⟩, 31), (⟨"WordSquaresModel", "wordTold", "(II)I"⟩, 31), (⟨"WordSquaresModel", "layCounts", "()V"⟩, 31), (⟨"WordSquaresModel", "countSquare", "()V"⟩, 31), (⟨"WordSquaresModel", "wordNow", "(II)I"⟩, 31), (⟨"WordSquaresModel", "isRow", "(I)Z"⟩, 31), (⟨"WordSquaresModel", "fittingNow", "()I"⟩, 31), (⟨"WordSquaresModel", "layFitting", "()V"⟩, 31), (⟨"WordSquaresModel", "isFitting", "()Z"⟩, 31), (⟨"WordSquaresModel", "countFitting", "()V"⟩, 31), (⟨"WordSquaresModel", "mayNow", "(I)I"⟩, 31), (⟨"WordSquaresModel", "sureNow", "(II)I"⟩, 31)]
theorem lw_r4 : ∀ q ∈ lw_privs_4, lw_okq q := List.forall_mem_cons.mpr ⟨lw_p48, List.forall_mem_cons.mpr ⟨lw_p49, List.forall_mem_cons.mpr ⟨lw_p50, List.forall_mem_cons.mpr ⟨lw_p51, List.forall_mem_cons.mpr ⟨lw_p52, List.forall_mem_cons.mpr ⟨lw_p53, List.forall_mem_cons.mpr ⟨lw_p54, List.forall_mem_cons.mpr ⟨lw_p55, List.forall_mem_cons.mpr ⟨lw_p56, List.forall_mem_cons.mpr ⟨lw_p57, List.forall_mem_cons.mpr ⟨lw_p58, List.forall_mem_cons.mpr ⟨lw_p59, List.forall_mem_cons.mpr ⟨lw_p60, List.forall_mem_cons.mpr ⟨lw_p61, List.forall_mem_cons.mpr ⟨lw_p62, List.forall_mem_cons.mpr ⟨lw_p63, fun _ h => absurd h List.not_mem_nil⟩⟩⟩⟩⟩⟩⟩⟩⟩⟩⟩⟩⟩⟩⟩⟩
theorem lw_p64 : lw_okq (⟨"WordSquaresModel", "searchNow", "(I)I"⟩, 31) := ⟨⟨by decide +kernel, by decide +kernel⟩, List.mem_of_getElem? (i := 703) (by decide +kernel), List.mem_of_getElem? (i := 1067) (by decide +kernel), List.mem_of_getElem? (i := 1068) (by decide +kernel)⟩
theorem lw_p65 : lw_okq (⟨"WordSquaresModel", "goes", "(Z)V"⟩, 31) := ⟨⟨by decide +kernel, by decide +kernel⟩, List.mem_of_getElem? (i := 703) (by decide +kernel), List.mem_of_getElem? (i := 1071) (by decide +kernel), List.mem_of_getElem? (i := 1072) (by decide +kernel)⟩
theorem lw_p66 : lw_okq (⟨"WordSquaresModel", "leave", "(IZ)V"⟩, 31) := ⟨⟨by decide +kernel, by decide +kernel⟩, List.mem_of_getElem? (i := 703) (by decide +kernel), List.mem_of_getElem? (i := 1075) (by decide +kernel), List.mem_of_getElem? (i := 1076) (by decide +kernel)⟩
theorem lw_p67 : lw_okq (⟨"WordSquaresModel", "isState", "(I)Z"⟩, 31) := ⟨⟨by decide +kernel, by decide +kernel⟩, List.mem_of_getElem? (i := 703) (by decide +kernel), List.mem_of_getElem? (i := 1079) (by decide +kernel), List.mem_of_getElem? (i := 1080) (by decide +kernel)⟩
theorem lw_p68 : lw_okq (⟨"WordSquaresModel", "beginOfColumn", "(II)I"⟩, 31) := ⟨⟨by decide +kernel, by decide +kernel⟩, List.mem_of_getElem? (i := 703) (by decide +kernel), List.mem_of_getElem? (i := 1083) (by decide +kernel), List.mem_of_getElem? (i := 1084) (by decide +kernel)⟩
theorem lw_p69 : lw_okq (⟨"WordSquaresModel", "keyOf", "(I)I"⟩, 31) := ⟨⟨by decide +kernel, by decide +kernel⟩, List.mem_of_getElem? (i := 703) (by decide +kernel), List.mem_of_getElem? (i := 1087) (by decide +kernel), List.mem_of_getElem? (i := 1088) (by decide +kernel)⟩
theorem lw_p70 : lw_okq (⟨"WordSquaresModel", "likeOf", "(II)I"⟩, 31) := ⟨⟨by decide +kernel, by decide +kernel⟩, List.mem_of_getElem? (i := 703) (by decide +kernel), List.mem_of_getElem? (i := 1091) (by decide +kernel), List.mem_of_getElem? (i := 1092) (by decide +kernel)⟩
theorem lw_p71 : lw_okq (⟨"WordSquaresModel", "hasAllRests", "(III)Z"⟩, 31) := ⟨⟨by decide +kernel, by decide +kernel⟩, List.mem_of_getElem? (i := 703) (by decide +kernel), List.mem_of_getElem? (i := 1095) (by decide +kernel), List.mem_of_getElem? (i := 1096) (by decide +kernel)⟩
theorem lw_p72 : lw_okq (⟨"WordSquaresModel", "hasRest", "(III)Z"⟩, 31) := ⟨⟨by decide +kernel, by decide +kernel⟩, List.mem_of_getElem? (i := 703) (by decide +kernel), List.mem_of_getElem? (i := 1099) (by decide +kernel), List.mem_of_getElem? (i := 1100) (by decide +kernel)⟩
theorem lw_p73 : lw_okq (⟨"WordSquaresModel", "isKept", "(I)Z"⟩, 31) := ⟨⟨by decide +kernel, by decide +kernel⟩, List.mem_of_getElem? (i := 703) (by decide +kernel), List.mem_of_getElem? (i := 1103) (by decide +kernel), List.mem_of_getElem? (i := 1104) (by decide +kernel)⟩
theorem lw_p74 : lw_okq (⟨"WordSquaresModel", "visit", "(IZ)I"⟩, 31) := ⟨⟨by decide +kernel, by decide +kernel⟩, List.mem_of_getElem? (i := 703) (by decide +kernel), List.mem_of_getElem? (i := 1107) (by decide +kernel), List.mem_of_getElem? (i := 1108) (by decide +kernel)⟩
theorem lw_p75 : lw_okq (⟨"WordSquaresModel", "howMany", "(I)I"⟩, 31) := ⟨⟨by decide +kernel, by decide +kernel⟩, List.mem_of_getElem? (i := 703) (by decide +kernel), List.mem_of_getElem? (i := 1115) (by decide +kernel), List.mem_of_getElem? (i := 1116) (by decide +kernel)⟩
theorem lw_p76 : lw_okq (⟨"WordSquaresModel", "laidMany", "()I"⟩, 31) := ⟨⟨by decide +kernel, by decide +kernel⟩, List.mem_of_getElem? (i := 703) (by decide +kernel), List.mem_of_getElem? (i := 1119) (by decide +kernel), List.mem_of_getElem? (i := 1120) (by decide +kernel)⟩
theorem lw_p77 : lw_okq (⟨"WordSquaresModel", "mixWords", "()V"⟩, 31) := ⟨⟨by decide +kernel, by decide +kernel⟩, List.mem_of_getElem? (i := 703) (by decide +kernel), List.mem_of_getElem? (i := 1128) (by decide +kernel), List.mem_of_getElem? (i := 1129) (by decide +kernel)⟩
theorem lw_p78 : lw_okq (⟨"WordSquaresModel", "mix", "(J)V"⟩, 31) := ⟨⟨by decide +kernel, by decide +kernel⟩, List.mem_of_getElem? (i := 703) (by decide +kernel), List.mem_of_getElem? (i := 1132) (by decide +kernel), List.mem_of_getElem? (i := 1133) (by decide +kernel)⟩
theorem lw_p79 : lw_okq (⟨"WordSquaresModel", "mixSquares", "()V"⟩, 31) := ⟨⟨by decide +kernel, by decide +kernel⟩, List.mem_of_getElem? (i := 703) (by decide +kernel), List.mem_of_getElem? (i := 1137) (by decide +kernel), List.mem_of_getElem? (i := 1138) (by decide +kernel)⟩
def lw_privs_5 : List (MethodName × Nat) := [(⟨"WordSquaresModel", "searchNow", "(I)I"⟩, 31), (⟨"WordSquaresModel", "goes", "(Z)V"⟩, 31), (⟨"WordSquaresModel", "leave", "(IZ)V"⟩, 31), (⟨"WordSquaresModel", "isState", "(I)Z"⟩, 31), (⟨"WordSquaresModel", "beginOfColumn", "(II)I"⟩, 31), (⟨"WordSquaresModel", "keyOf", "(I)I"⟩, 31), (⟨"WordSquaresModel", "likeOf", "(II)I"⟩, 31), (⟨"WordSquaresModel", "hasAllRests", "(III)Z"⟩, 31), (⟨"WordSquaresModel", "hasRest", "(III)Z"⟩, 31), (⟨"WordSquaresModel", "isKept", "(I)Z"⟩, 31), (⟨"WordSquaresModel", "visit", "(IZ)I"⟩, 31), (⟨"WordSquaresModel", "howMany", "(I)I"⟩, 31), (⟨"WordSquaresModel", "laidMany", "()I"⟩, 31), (⟨"WordSquaresModel", "mixWords", "()V"⟩, 31), (⟨"WordSquaresModel", "mix", "(J)V"⟩, 31), (⟨"WordSquaresModel", "mixSquares", "()V"⟩, 31)]
theorem lw_r5 : ∀ q ∈ lw_privs_5, lw_okq q := List.forall_mem_cons.mpr ⟨lw_p64, List.forall_mem_cons.mpr ⟨lw_p65, List.forall_mem_cons.mpr ⟨lw_p66, List.forall_mem_cons.mpr ⟨lw_p67, List.forall_mem_cons.mpr ⟨lw_p68, List.forall_mem_cons.mpr ⟨lw_p69, List.forall_mem_cons.mpr ⟨lw_p70, List.forall_mem_cons.mpr ⟨lw_p71, List.forall_mem_cons.mpr ⟨lw_p72, List.forall_mem_cons.mpr ⟨lw_p73, List.forall_mem_cons.mpr ⟨lw_p74, List.forall_mem_cons.mpr ⟨lw_p75, List.forall_mem_cons.mpr ⟨lw_p76, List.forall_mem_cons.mpr ⟨lw_p77, List.forall_mem_cons.mpr ⟨lw_p78, List.forall_mem_cons.mpr ⟨lw_p79, fun _ h => absurd h List.not_mem_nil⟩⟩⟩⟩⟩⟩⟩⟩⟩⟩⟩⟩⟩⟩⟩⟩
theorem lw_p80 : lw_okq (⟨"WordSquaresModel", "mixBoard", "()V"⟩, 31) := ⟨⟨by decide +kernel, by decide +kernel⟩, List.mem_of_getElem? (i := 703) (by decide +kernel), List.mem_of_getElem? (i := 1141) (by decide +kernel), List.mem_of_getElem? (i := 1142) (by decide +kernel)⟩
def lw_privs_6 : List (MethodName × Nat) := [(⟨"WordSquaresModel", "mixBoard", "()V"⟩, 31)]
theorem lw_r6 : ∀ q ∈ lw_privs_6, lw_okq q := List.forall_mem_cons.mpr ⟨lw_p80, fun _ h => absurd h List.not_mem_nil⟩
def lw_privs : List (MethodName × Nat) := lw_privs_1 ++ (lw_privs_2 ++ (lw_privs_3 ++ (lw_privs_4 ++ (lw_privs_5 ++ (lw_privs_6)))))
def lw_tbl : List Cond := k2_sels lw_privs ++ tables_1
theorem lw_privs_ok : ∀ q ∈ lw_privs, lw_okq q := by
  show ∀ q ∈ lw_privs_1 ++ (lw_privs_2 ++ (lw_privs_3 ++ (lw_privs_4 ++ (lw_privs_5 ++ (lw_privs_6))))), lw_okq q
  exact List.forall_mem_append.mpr ⟨lw_r1, List.forall_mem_append.mpr ⟨lw_r2, List.forall_mem_append.mpr ⟨lw_r3, List.forall_mem_append.mpr ⟨lw_r4, List.forall_mem_append.mpr ⟨lw_r5, lw_r6⟩⟩⟩⟩⟩
-- ===== end of PART A; then your names; then what follows =====
def RX0 : String := "WordSquares$Board"
def TX0 : u_T := fun k => match k with
  | 0 => ("WordSquares$Board", "placed", "[I", true)
  | 1 => ("WordSquares$Board", "sets", "[I", true)
  | _ => ("WordSquares$Board", "fits", "I", false)
def tyX0 : Nat → FieldType := fun k => match k with
  | 0 => .array .int
  | 1 => .array .int
  | _ => .int
abbrev wsX00 : List Cond := u_ws RX0 TX0 3
theorem nmX0 : ∀ a, a < 3 → ∀ b, b < 3 → a ≠ b → (TX0 a).2.1 ≠ (TX0 b).2.1 := by decide +kernel
theorem tyX0_ok : ∀ k, k < 3 → parseFieldDescriptor (TX0 k).2.2.1 = some (tyX0 k) := by decide +kernel
abbrev cX0_init : ByteArray := prog_2_method_1_code
def yX0_init : MethodName := ⟨RX0, "<init>", "()V"⟩
abbrev cX0_clear : ByteArray := prog_2_method_2_code
def yX0_clear : MethodName := ⟨RX0, "clear", "()V"⟩
abbrev cX0_given : ByteArray := prog_2_method_3_code
def yX0_given : MethodName := ⟨RX0, "given", "(I)I"⟩
abbrev cX0_give : ByteArray := prog_2_method_4_code
def yX0_give : MethodName := ⟨RX0, "give", "(II)V"⟩
abbrev cX0_numberOfGiven : ByteArray := prog_2_method_5_code
def yX0_numberOfGiven : MethodName := ⟨RX0, "numberOfGiven", "()I"⟩
abbrev cX0_numberOfFitting : ByteArray := prog_2_method_6_code
def yX0_numberOfFitting : MethodName := ⟨RX0, "numberOfFitting", "()I"⟩
abbrev cX0_possible : ByteArray := prog_2_method_7_code
def yX0_possible : MethodName := ⟨RX0, "possible", "(I)I"⟩
abbrev cX0_look : ByteArray := prog_2_method_8_code
def yX0_look : MethodName := ⟨RX0, "look", "(LWordSquares$SquareList;I)V"⟩
abbrev cX0_addRows : ByteArray := prog_2_method_9_code
def yX0_addRows : MethodName := ⟨RX0, "addRows", "(II)V"⟩
def RX1 : String := "WordSquares$DeadEnds"
def TX1 : u_T := fun k => match k with
  | 0 => ("WordSquares$DeadEnds", "seen", "[J", true)
  | _ => ("WordSquares$DeadEnds", "size", "I", false)
def tyX1 : Nat → FieldType := fun k => match k with
  | 0 => .array .long
  | _ => .int
abbrev wsX10 : List Cond := u_ws RX1 TX1 2
theorem nmX1 : ∀ a, a < 2 → ∀ b, b < 2 → a ≠ b → (TX1 a).2.1 ≠ (TX1 b).2.1 := by decide +kernel
theorem tyX1_ok : ∀ k, k < 2 → parseFieldDescriptor (TX1 k).2.2.1 = some (tyX1 k) := by decide +kernel
abbrev cX1_init : ByteArray := prog_3_method_1_code
def yX1_init : MethodName := ⟨RX1, "<init>", "()V"⟩
abbrev cX1_size : ByteArray := prog_3_method_2_code
def yX1_size : MethodName := ⟨RX1, "size", "()I"⟩
abbrev cX1_clear : ByteArray := prog_3_method_3_code
def yX1_clear : MethodName := ⟨RX1, "clear", "()V"⟩
abbrev cX1_has : ByteArray := prog_3_method_4_code
def yX1_has : MethodName := ⟨RX1, "has", "(I)Z"⟩
abbrev cX1_add : ByteArray := prog_3_method_5_code
def yX1_add : MethodName := ⟨RX1, "add", "(I)V"⟩
def RX2 : String := "WordSquares$Finder"
def TX2 : u_T := fun k => match k with
  | 0 => ("WordSquares$Finder", "list", "LWordSquares$WordList;", true)
  | 1 => ("WordSquares$Finder", "prefixes", "LWordSquares$Prefixes;", true)
  | 2 => ("WordSquares$Finder", "deadEnds", "LWordSquares$DeadEnds;", true)
  | 3 => ("WordSquares$Finder", "all", "LWordSquares$SquareList;", true)
  | 4 => ("WordSquares$Finder", "symmetric", "LWordSquares$SquareList;", true)
  | 5 => ("WordSquares$Finder", "different", "LWordSquares$SquareList;", true)
  | 6 => ("WordSquares$Finder", "inRows", "[I", true)
  | 7 => ("WordSquares$Finder", "inColumns", "[I", true)
  | 8 => ("WordSquares$Finder", "inSymmetric", "[I", true)
  | 9 => ("WordSquares$Finder", "visits", "I", false)
  | 10 => ("WordSquares$Finder", "dead", "I", false)
  | 11 => ("WordSquares$Finder", "visitsWithMemory", "I", false)
  | _ => ("WordSquares$Finder", "cuts", "I", false)
def tyX2 : Nat → FieldType := fun k => match k with
  | 0 => .object "WordSquares$WordList"
  | 1 => .object "WordSquares$Prefixes"
  | 2 => .object "WordSquares$DeadEnds"
  | 3 => .object "WordSquares$SquareList"
  | 4 => .object "WordSquares$SquareList"
  | 5 => .object "WordSquares$SquareList"
  | 6 => .array .int
  | 7 => .array .int
  | 8 => .array .int
  | 9 => .int
  | 10 => .int
  | 11 => .int
  | _ => .int
abbrev wsX20 : List Cond := u_ws RX2 TX2 13
theorem nmX2 : ∀ a, a < 13 → ∀ b, b < 13 → a ≠ b → (TX2 a).2.1 ≠ (TX2 b).2.1 := by decide +kernel
theorem tyX2_ok : ∀ k, k < 13 → parseFieldDescriptor (TX2 k).2.2.1 = some (tyX2 k) := by decide +kernel
abbrev cX2_init : ByteArray := prog_4_method_1_code
def yX2_init : MethodName := ⟨RX2, "<init>", "(LWordSquares$WordList;)V"⟩
abbrev cX2_ofKind : ByteArray := prog_4_method_2_code
def yX2_ofKind : MethodName := ⟨RX2, "ofKind", "(I)LWordSquares$SquareList;"⟩
abbrev cX2_timesInRows : ByteArray := prog_4_method_3_code
def yX2_timesInRows : MethodName := ⟨RX2, "timesInRows", "(I)I"⟩
abbrev cX2_timesInColumns : ByteArray := prog_4_method_4_code
def yX2_timesInColumns : MethodName := ⟨RX2, "timesInColumns", "(I)I"⟩
abbrev cX2_timesInSymmetric : ByteArray := prog_4_method_5_code
def yX2_timesInSymmetric : MethodName := ⟨RX2, "timesInSymmetric", "(I)I"⟩
abbrev cX2_plainVisits : ByteArray := prog_4_method_6_code
def yX2_plainVisits : MethodName := ⟨RX2, "plainVisits", "()I"⟩
abbrev cX2_plainDead : ByteArray := prog_4_method_7_code
def yX2_plainDead : MethodName := ⟨RX2, "plainDead", "()I"⟩
abbrev cX2_memoryVisits : ByteArray := prog_4_method_8_code
def yX2_memoryVisits : MethodName := ⟨RX2, "memoryVisits", "()I"⟩
abbrev cX2_memoryCuts : ByteArray := prog_4_method_9_code
def yX2_memoryCuts : MethodName := ⟨RX2, "memoryCuts", "()I"⟩
abbrev cX2_memorySize : ByteArray := prog_4_method_10_code
def yX2_memorySize : MethodName := ⟨RX2, "memorySize", "()I"⟩
abbrev cX2_run : ByteArray := prog_4_method_11_code
def yX2_run : MethodName := ⟨RX2, "run", "()V"⟩
abbrev cX2_clear : ByteArray := prog_4_method_12_code
def yX2_clear : MethodName := ⟨RX2, "clear", "()V"⟩
abbrev cX2_explore : ByteArray := prog_4_method_13_code
def yX2_explore : MethodName := ⟨RX2, "explore", "(III)Z"⟩
abbrev cX2_exploreWithMemory : ByteArray := prog_4_method_14_code
def yX2_exploreWithMemory : MethodName := ⟨RX2, "exploreWithMemory", "(II)Z"⟩
abbrev cX2_keep : ByteArray := prog_4_method_15_code
def yX2_keep : MethodName := ⟨RX2, "keep", "(II)V"⟩
abbrev cX2_countSymmetric : ByteArray := prog_4_method_16_code
def yX2_countSymmetric : MethodName := ⟨RX2, "countSymmetric", "(I)V"⟩
def RX3 : String := "WordSquares$Prefixes"
def TX3 : u_T := fun k => match k with
  | 0 => ("WordSquares$Prefixes", "list", "LWordSquares$WordList;", true)
  | 1 => ("WordSquares$Prefixes", "longer", "[[I", true)
  | 2 => ("WordSquares$Prefixes", "takers", "[[I", true)
  | _ => ("WordSquares$Prefixes", "likes", "[[I", true)
def tyX3 : Nat → FieldType := fun k => match k with
  | 0 => .object "WordSquares$WordList"
  | 1 => .array (.array .int)
  | 2 => .array (.array .int)
  | _ => .array (.array .int)
abbrev wsX30 : List Cond := u_ws RX3 TX3 4
theorem nmX3 : ∀ a, a < 4 → ∀ b, b < 4 → a ≠ b → (TX3 a).2.1 ≠ (TX3 b).2.1 := by decide +kernel
theorem tyX3_ok : ∀ k, k < 4 → parseFieldDescriptor (TX3 k).2.2.1 = some (tyX3 k) := by decide +kernel
abbrev cX3_init : ByteArray := prog_5_method_1_code
def yX3_init : MethodName := ⟨RX3, "<init>", "(LWordSquares$WordList;)V"⟩
abbrev cX3_build : ByteArray := prog_5_method_2_code
def yX3_build : MethodName := ⟨RX3, "build", "()V"⟩
abbrev cX3_isHead : ByteArray := prog_5_method_3_code
def yX3_isHead : MethodName := ⟨RX3, "isHead", "(II)Z"⟩
abbrev cX3_buildLonger : ByteArray := prog_5_method_4_code
def yX3_buildLonger : MethodName := ⟨RX3, "buildLonger", "(I)V"⟩
abbrev cX3_buildTakers : ByteArray := prog_5_method_5_code
def yX3_buildTakers : MethodName := ⟨RX3, "buildTakers", "(II)V"⟩
abbrev cX3_firstAlike : ByteArray := prog_5_method_6_code
def yX3_firstAlike : MethodName := ⟨RX3, "firstAlike", "(II)I"⟩
abbrev cX3_sameRests : ByteArray := prog_5_method_7_code
def yX3_sameRests : MethodName := ⟨RX3, "sameRests", "(III)Z"⟩
abbrev cX3_placeOf : ByteArray := prog_5_method_8_code
def yX3_placeOf : MethodName := ⟨RX3, "placeOf", "(II)I"⟩
abbrev cX3_nextRows : ByteArray := prog_5_method_9_code
def yX3_nextRows : MethodName := ⟨RX3, "nextRows", "(II)I"⟩
abbrev cX3_headsWith : ByteArray := prog_5_method_10_code
def yX3_headsWith : MethodName := ⟨RX3, "headsWith", "(III)I"⟩
abbrev cX3_likeness : ByteArray := prog_5_method_11_code
def yX3_likeness : MethodName := ⟨RX3, "likeness", "(II)I"⟩
def RX4 : String := "WordSquares$SquareList"
def TX4 : u_T := fun k => match k with
  | 0 => ("WordSquares$SquareList", "items", "[I", false)
  | _ => ("WordSquares$SquareList", "size", "I", false)
def tyX4 : Nat → FieldType := fun k => match k with
  | 0 => .array .int
  | _ => .int
abbrev wsX40 : List Cond := u_ws RX4 TX4 2
theorem nmX4 : ∀ a, a < 2 → ∀ b, b < 2 → a ≠ b → (TX4 a).2.1 ≠ (TX4 b).2.1 := by decide +kernel
theorem tyX4_ok : ∀ k, k < 2 → parseFieldDescriptor (TX4 k).2.2.1 = some (tyX4 k) := by decide +kernel
abbrev cX4_init : ByteArray := prog_6_method_1_code
def yX4_init : MethodName := ⟨RX4, "<init>", "()V"⟩
abbrev cX4_size : ByteArray := prog_6_method_2_code
def yX4_size : MethodName := ⟨RX4, "size", "()I"⟩
abbrev cX4_clear : ByteArray := prog_6_method_3_code
def yX4_clear : MethodName := ⟨RX4, "clear", "()V"⟩
abbrev cX4_append : ByteArray := prog_6_method_4_code
def yX4_append : MethodName := ⟨RX4, "append", "(II)V"⟩
abbrev cX4_has : ByteArray := prog_6_method_5_code
def yX4_has : MethodName := ⟨RX4, "has", "(I)Z"⟩
abbrev cX4_rowsOf : ByteArray := prog_6_method_6_code
def yX4_rowsOf : MethodName := ⟨RX4, "rowsOf", "(I)I"⟩
abbrev cX4_columnsOf : ByteArray := prog_6_method_7_code
def yX4_columnsOf : MethodName := ⟨RX4, "columnsOf", "(I)I"⟩
abbrev cX4_withRows : ByteArray := prog_6_method_8_code
def yX4_withRows : MethodName := ⟨RX4, "withRows", "(I)I"⟩
def RX5 : String := "WordSquares$Text"
def TX5 : u_T := fun k => match k with
  | 0 => ("WordSquares$Text", "signs", "[I", true)
  | _ => ("WordSquares$Text", "size", "I", false)
def tyX5 : Nat → FieldType := fun k => match k with
  | 0 => .array .int
  | _ => .int
abbrev wsX50 : List Cond := u_ws RX5 TX5 2
theorem nmX5 : ∀ a, a < 2 → ∀ b, b < 2 → a ≠ b → (TX5 a).2.1 ≠ (TX5 b).2.1 := by decide +kernel
theorem tyX5_ok : ∀ k, k < 2 → parseFieldDescriptor (TX5 k).2.2.1 = some (tyX5 k) := by decide +kernel
abbrev cX5_init : ByteArray := prog_7_method_1_code
def yX5_init : MethodName := ⟨RX5, "<init>", "()V"⟩
abbrev cX5_size : ByteArray := prog_7_method_2_code
def yX5_size : MethodName := ⟨RX5, "size", "()I"⟩
abbrev cX5_append : ByteArray := prog_7_method_3_code
def yX5_append : MethodName := ⟨RX5, "append", "(I)V"⟩
abbrev cX5_clear : ByteArray := prog_7_method_4_code
def yX5_clear : MethodName := ⟨RX5, "clear", "()V"⟩
abbrev cX5_codeAt : ByteArray := prog_7_method_5_code
def yX5_codeAt : MethodName := ⟨RX5, "codeAt", "(I)I"⟩
abbrev cX5_firstFault : ByteArray := prog_7_method_6_code
def yX5_firstFault : MethodName := ⟨RX5, "firstFault", "()I"⟩
abbrev cX5_isLetter : ByteArray := prog_7_method_7_code
def yX5_isLetter : MethodName := ⟨RX5, "isLetter", "(I)Z"⟩
abbrev cX5_repeats : ByteArray := prog_7_method_8_code
def yX5_repeats : MethodName := ⟨RX5, "repeats", "(II)Z"⟩
abbrev cX5_sameWord : ByteArray := prog_7_method_9_code
def yX5_sameWord : MethodName := ⟨RX5, "sameWord", "(III)Z"⟩
abbrev cX5_lengthOfWords : ByteArray := prog_7_method_10_code
def yX5_lengthOfWords : MethodName := ⟨RX5, "lengthOfWords", "()I"⟩
abbrev cX5_firstComma : ByteArray := prog_7_method_11_code
def yX5_firstComma : MethodName := ⟨RX5, "firstComma", "()I"⟩
abbrev cX5_numberOfWords : ByteArray := prog_7_method_12_code
def yX5_numberOfWords : MethodName := ⟨RX5, "numberOfWords", "(I)I"⟩
abbrev cX5_codeOf : ByteArray := prog_7_method_13_code
def yX5_codeOf : MethodName := ⟨RX5, "codeOf", "(II)I"⟩
def RX6 : String := "WordSquares$WordList"
def TX6 : u_T := fun k => match k with
  | 0 => ("WordSquares$WordList", "codes", "[I", true)
  | 1 => ("WordSquares$WordList", "weights", "[I", true)
  | 2 => ("WordSquares$WordList", "size", "I", false)
  | _ => ("WordSquares$WordList", "length", "I", false)
def tyX6 : Nat → FieldType := fun k => match k with
  | 0 => .array .int
  | 1 => .array .int
  | 2 => .int
  | _ => .int
abbrev wsX60 : List Cond := u_ws RX6 TX6 4
theorem nmX6 : ∀ a, a < 4 → ∀ b, b < 4 → a ≠ b → (TX6 a).2.1 ≠ (TX6 b).2.1 := by decide +kernel
theorem tyX6_ok : ∀ k, k < 4 → parseFieldDescriptor (TX6 k).2.2.1 = some (tyX6 k) := by decide +kernel
abbrev cX6_init : ByteArray := prog_8_method_1_code
def yX6_init : MethodName := ⟨RX6, "<init>", "()V"⟩
abbrev cX6_size : ByteArray := prog_8_method_2_code
def yX6_size : MethodName := ⟨RX6, "size", "()I"⟩
abbrev cX6_length : ByteArray := prog_8_method_3_code
def yX6_length : MethodName := ⟨RX6, "length", "()I"⟩
abbrev cX6_has : ByteArray := prog_8_method_4_code
def yX6_has : MethodName := ⟨RX6, "has", "(I)Z"⟩
abbrev cX6_hasPlace : ByteArray := prog_8_method_5_code
def yX6_hasPlace : MethodName := ⟨RX6, "hasPlace", "(I)Z"⟩
abbrev cX6_takesLength : ByteArray := prog_8_method_6_code
def yX6_takesLength : MethodName := ⟨RX6, "takesLength", "(I)Z"⟩
abbrev cX6_find : ByteArray := prog_8_method_7_code
def yX6_find : MethodName := ⟨RX6, "find", "(I)I"⟩
abbrev cX6_insert : ByteArray := prog_8_method_8_code
def yX6_insert : MethodName := ⟨RX6, "insert", "(II)V"⟩
abbrev cX6_delete : ByteArray := prog_8_method_9_code
def yX6_delete : MethodName := ⟨RX6, "delete", "(I)V"⟩
abbrev cX6_weightOf : ByteArray := prog_8_method_10_code
def yX6_weightOf : MethodName := ⟨RX6, "weightOf", "(I)I"⟩
abbrev cX6_setWeight : ByteArray := prog_8_method_11_code
def yX6_setWeight : MethodName := ⟨RX6, "setWeight", "(II)V"⟩
abbrev cX6_letterAt : ByteArray := prog_8_method_12_code
def yX6_letterAt : MethodName := ⟨RX6, "letterAt", "(II)I"⟩
abbrev cX6_prefixOf : ByteArray := prog_8_method_13_code
def yX6_prefixOf : MethodName := ⟨RX6, "prefixOf", "(II)I"⟩
abbrev cX6_restOf : ByteArray := prog_8_method_14_code
def yX6_restOf : MethodName := ⟨RX6, "restOf", "(II)I"⟩
abbrev cX6_samePrefix : ByteArray := prog_8_method_15_code
def yX6_samePrefix : MethodName := ⟨RX6, "samePrefix", "(III)Z"⟩
abbrev cX6_reversalOf : ByteArray := prog_8_method_16_code
def yX6_reversalOf : MethodName := ⟨RX6, "reversalOf", "(I)I"⟩
abbrev cX6_numberWithPrefix : ByteArray := prog_8_method_17_code
def yX6_numberWithPrefix : MethodName := ⟨RX6, "numberWithPrefix", "(II)I"⟩
abbrev cX6_numberOfPrefixes : ByteArray := prog_8_method_18_code
def yX6_numberOfPrefixes : MethodName := ⟨RX6, "numberOfPrefixes", "()I"⟩
abbrev cX6_numberOfLetters : ByteArray := prog_8_method_19_code
def yX6_numberOfLetters : MethodName := ⟨RX6, "numberOfLetters", "()I"⟩
abbrev cX6_sumOfWeights : ByteArray := prog_8_method_20_code
def yX6_sumOfWeights : MethodName := ⟨RX6, "sumOfWeights", "()I"⟩
abbrev cX6_numberOfReversible : ByteArray := prog_8_method_21_code
def yX6_numberOfReversible : MethodName := ⟨RX6, "numberOfReversible", "()I"⟩
abbrev cX6_commonLetter : ByteArray := prog_8_method_22_code
def yX6_commonLetter : MethodName := ⟨RX6, "commonLetter", "(II)I"⟩
def RX7 : String := "WordSquares"
def TX7 : u_T := fun k => match k with
  | 0 => ("WordSquares", "text", "LWordSquares$Text;", true)
  | 1 => ("WordSquares", "list", "LWordSquares$WordList;", true)
  | 2 => ("WordSquares", "finder", "LWordSquares$Finder;", true)
  | 3 => ("WordSquares", "table", "LWordSquares$Board;", true)
  | 4 => ("WordSquares", "best", "[I", true)
  | 5 => ("WordSquares", "compared", "Z", false)
  | 6 => ("WordSquares", "looked", "Z", false)
  | 7 => ("WordSquares", "additions", "I", false)
  | _ => ("WordSquares", "removals", "I", false)
def tyX7 : Nat → FieldType := fun k => match k with
  | 0 => .object "WordSquares$Text"
  | 1 => .object "WordSquares$WordList"
  | 2 => .object "WordSquares$Finder"
  | 3 => .object "WordSquares$Board"
  | 4 => .array .int
  | 5 => .boolean
  | 6 => .boolean
  | 7 => .int
  | _ => .int
abbrev wsX70 : List Cond := u_ws RX7 TX7 9
theorem nmX7 : ∀ a, a < 9 → ∀ b, b < 9 → a ≠ b → (TX7 a).2.1 ≠ (TX7 b).2.1 := by decide +kernel
theorem tyX7_ok : ∀ k, k < 9 → parseFieldDescriptor (TX7 k).2.2.1 = some (tyX7 k) := by decide +kernel
abbrev cX7_init : ByteArray := prog_1_method_1_code
def yX7_init : MethodName := ⟨RX7, "<init>", "()V"⟩
abbrev cX7_letter : ByteArray := prog_1_method_2_code
def yX7_letter : MethodName := ⟨RX7, "letter", "(I)I"⟩
abbrev cX7_blank : ByteArray := prog_1_method_3_code
def yX7_blank : MethodName := ⟨RX7, "blank", "()I"⟩
abbrev cX7_fault : ByteArray := prog_1_method_4_code
def yX7_fault : MethodName := ⟨RX7, "fault", "()I"⟩
abbrev cX7_words : ByteArray := prog_1_method_5_code
def yX7_words : MethodName := ⟨RX7, "words", "()I"⟩
abbrev cX7_strike : ByteArray := prog_1_method_6_code
def yX7_strike : MethodName := ⟨RX7, "strike", "(I)I"⟩
abbrev cX7_weigh : ByteArray := prog_1_method_7_code
def yX7_weigh : MethodName := ⟨RX7, "weigh", "(II)I"⟩
abbrev cX7_about : ByteArray := prog_1_method_8_code
def yX7_about : MethodName := ⟨RX7, "about", "(I)I"⟩
abbrev cX7_word : ByteArray := prog_1_method_9_code
def yX7_word : MethodName := ⟨RX7, "word", "(II)I"⟩
abbrev cX7_sign : ByteArray := prog_1_method_10_code
def yX7_sign : MethodName := ⟨RX7, "sign", "(II)I"⟩
abbrev cX7_begins : ByteArray := prog_1_method_11_code
def yX7_begins : MethodName := ⟨RX7, "begins", "(II)I"⟩
abbrev cX7_squares : ByteArray := prog_1_method_12_code
def yX7_squares : MethodName := ⟨RX7, "squares", "(I)I"⟩
abbrev cX7_row : ByteArray := prog_1_method_13_code
def yX7_row : MethodName := ⟨RX7, "row", "(III)I"⟩
abbrev cX7_turned : ByteArray := prog_1_method_14_code
def yX7_turned : MethodName := ⟨RX7, "turned", "(I)I"⟩
abbrev cX7_heaviest : ByteArray := prog_1_method_15_code
def yX7_heaviest : MethodName := ⟨RX7, "heaviest", "(I)I"⟩
abbrev cX7_heavy : ByteArray := prog_1_method_16_code
def yX7_heavy : MethodName := ⟨RX7, "heavy", "(I)I"⟩
abbrev cX7_put : ByteArray := prog_1_method_17_code
def yX7_put : MethodName := ⟨RX7, "put", "(II)I"⟩
abbrev cX7_lift : ByteArray := prog_1_method_18_code
def yX7_lift : MethodName := ⟨RX7, "lift", "(I)I"⟩
abbrev cX7_board : ByteArray := prog_1_method_19_code
def yX7_board : MethodName := ⟨RX7, "board", "(I)I"⟩
abbrev cX7_fitting : ByteArray := prog_1_method_20_code
def yX7_fitting : MethodName := ⟨RX7, "fitting", "()I"⟩
abbrev cX7_may : ByteArray := prog_1_method_21_code
def yX7_may : MethodName := ⟨RX7, "may", "(I)I"⟩
abbrev cX7_sure : ByteArray := prog_1_method_22_code
def yX7_sure : MethodName := ⟨RX7, "sure", "(II)I"⟩
abbrev cX7_search : ByteArray := prog_1_method_23_code
def yX7_search : MethodName := ⟨RX7, "search", "(I)I"⟩
abbrev cX7_count : ByteArray := prog_1_method_24_code
def yX7_count : MethodName := ⟨RX7, "count", "(I)I"⟩
abbrev cX7_digest : ByteArray := prog_1_method_25_code
def yX7_digest : MethodName := ⟨RX7, "digest", "()J"⟩
abbrev cX7_mixWords : ByteArray := prog_1_method_26_code
def yX7_mixWords : MethodName := ⟨RX7, "mixWords", "(J)J"⟩
abbrev cX7_mixSquares : ByteArray := prog_1_method_27_code
def yX7_mixSquares : MethodName := ⟨RX7, "mixSquares", "(J)J"⟩
abbrev cX7_mixBoard : ByteArray := prog_1_method_28_code
def yX7_mixBoard : MethodName := ⟨RX7, "mixBoard", "(J)J"⟩
abbrev cX7_mix : ByteArray := prog_1_method_29_code
def yX7_mix : MethodName := ⟨RX7, "mix", "(JI)J"⟩
abbrev cX7_isKind : ByteArray := prog_1_method_30_code
def yX7_isKind : MethodName := ⟨RX7, "isKind", "(I)Z"⟩
abbrev cX7_packedWord : ByteArray := prog_1_method_31_code
def yX7_packedWord : MethodName := ⟨RX7, "packedWord", "(III)I"⟩
abbrev cX7_renew : ByteArray := prog_1_method_32_code
def yX7_renew : MethodName := ⟨RX7, "renew", "()V"⟩
abbrev cX7_lookedBoard : ByteArray := prog_1_method_33_code
def yX7_lookedBoard : MethodName := ⟨RX7, "lookedBoard", "()LWordSquares$Board;"⟩
abbrev cX7_greatestOf : ByteArray := prog_1_method_34_code
def yX7_greatestOf : MethodName := ⟨RX7, "greatestOf", "(LWordSquares$SquareList;)I"⟩
abbrev cX7_weightOfSquare : ByteArray := prog_1_method_35_code
def yX7_weightOfSquare : MethodName := ⟨RX7, "weightOfSquare", "(LWordSquares$SquareList;I)I"⟩
def RX8 : String := "WordSquaresModel"
def TX8 : u_T := fun k => match k with
  | 0 => ("WordSquaresModel", "length", "I", false)
  | 1 => ("WordSquaresModel", "words", "I", false)
  | 2 => ("WordSquaresModel", "letters", "[I", true)
  | 3 => ("WordSquaresModel", "weights", "[I", true)
  | 4 => ("WordSquaresModel", "laid", "[I", true)
  | 5 => ("WordSquaresModel", "reads", "I", false)
  | 6 => ("WordSquaresModel", "struck", "I", false)
  | 7 => ("WordSquaresModel", "pageLength", "I", false)
  | 8 => ("WordSquaresModel", "page", "[I", true)
  | 9 => ("WordSquaresModel", "newWords", "I", false)
  | 10 => ("WordSquaresModel", "newAt", "I", false)
  | 11 => ("WordSquaresModel", "newLength", "I", false)
  | 12 => ("WordSquaresModel", "newLetters", "[I", true)
  | 13 => ("WordSquaresModel", "rowWord", "[I", true)
  | 14 => ("WordSquaresModel", "columnWord", "[I", true)
  | 15 => ("WordSquaresModel", "sought", "[I", true)
  | 16 => ("WordSquaresModel", "inRows", "[I", true)
  | 17 => ("WordSquaresModel", "inColumns", "[I", true)
  | 18 => ("WordSquaresModel", "inSame", "[I", true)
  | 19 => ("WordSquaresModel", "fitting", "I", false)
  | 20 => ("WordSquaresModel", "mayBe", "[I", true)
  | 21 => ("WordSquaresModel", "sureOf", "[I", true)
  | 22 => ("WordSquaresModel", "tried", "[I", true)
  | 23 => ("WordSquaresModel", "isLed", "[Z", true)
  | 24 => ("WordSquaresModel", "columnBy", "[I", true)
  | 25 => ("WordSquaresModel", "visited", "I", false)
  | 26 => ("WordSquaresModel", "dead", "I", false)
  | 27 => ("WordSquaresModel", "cuts", "I", false)
  | 28 => ("WordSquaresModel", "keptMany", "I", false)
  | 29 => ("WordSquaresModel", "kept", "[I", true)
  | _ => ("WordSquaresModel", "h", "J", false)
def tyX8 : Nat → FieldType := fun k => match k with
  | 0 => .int
  | 1 => .int
  | 2 => .array .int
  | 3 => .array .int
  | 4 => .array .int
  | 5 => .int
  | 6 => .int
  | 7 => .int
  | 8 => .array .int
  | 9 => .int
  | 10 => .int
  | 11 => .int
  | 12 => .array .int
  | 13 => .array .int
  | 14 => .array .int
  | 15 => .array .int
  | 16 => .array .int
  | 17 => .array .int
  | 18 => .array .int
  | 19 => .int
  | 20 => .array .int
  | 21 => .array .int
  | 22 => .array .int
  | 23 => .array .boolean
  | 24 => .array .int
  | 25 => .int
  | 26 => .int
  | 27 => .int
  | 28 => .int
  | 29 => .array .int
  | _ => .long
abbrev wsX80 : List Cond := u_ws RX8 TX8 31
theorem nmX8 : ∀ a, a < 31 → ∀ b, b < 31 → a ≠ b → (TX8 a).2.1 ≠ (TX8 b).2.1 := by decide +kernel
theorem tyX8_ok : ∀ k, k < 31 → parseFieldDescriptor (TX8 k).2.2.1 = some (tyX8 k) := by decide +kernel
abbrev cX8_init : ByteArray := prog_10_method_1_code
def yX8_init : MethodName := ⟨RX8, "<init>", "()V"⟩
abbrev cX8_within : ByteArray := prog_10_method_3_code
def yX8_within : MethodName := ⟨RX8, "within", "(III)Z"⟩
abbrev cX8_clearBoard : ByteArray := prog_10_method_4_code
def yX8_clearBoard : MethodName := ⟨RX8, "clearBoard", "()V"⟩
abbrev cX8_letter : ByteArray := prog_10_method_5_code
def yX8_letter : MethodName := ⟨RX8, "letter", "(I)I"⟩
abbrev cX8_blank : ByteArray := prog_10_method_6_code
def yX8_blank : MethodName := ⟨RX8, "blank", "()I"⟩
abbrev cX8_isTwice : ByteArray := prog_10_method_7_code
def yX8_isTwice : MethodName := ⟨RX8, "isTwice", "()Z"⟩
abbrev cX8_takesComma : ByteArray := prog_10_method_8_code
def yX8_takesComma : MethodName := ⟨RX8, "takesComma", "()Z"⟩
abbrev cX8_takes : ByteArray := prog_10_method_9_code
def yX8_takes : MethodName := ⟨RX8, "takes", "(I)Z"⟩
abbrev cX8_read : ByteArray := prog_10_method_10_code
def yX8_read : MethodName := ⟨RX8, "read", "()I"⟩
abbrev cX8_fault : ByteArray := prog_10_method_11_code
def yX8_fault : MethodName := ⟨RX8, "fault", "()I"⟩
abbrev cX8_isThere : ByteArray := prog_10_method_12_code
def yX8_isThere : MethodName := ⟨RX8, "isThere", "(I)Z"⟩
abbrev cX8_isAhead : ByteArray := prog_10_method_13_code
def yX8_isAhead : MethodName := ⟨RX8, "isAhead", "(II)Z"⟩
abbrev cX8_move : ByteArray := prog_10_method_14_code
def yX8_move : MethodName := ⟨RX8, "move", "(II)V"⟩
abbrev cX8_comes : ByteArray := prog_10_method_15_code
def yX8_comes : MethodName := ⟨RX8, "comes", "(I)V"⟩
abbrev cX8_isNew : ByteArray := prog_10_method_16_code
def yX8_isNew : MethodName := ⟨RX8, "isNew", "(I)Z"⟩
abbrev cX8_words : ByteArray := prog_10_method_17_code
def yX8_words : MethodName := ⟨RX8, "words", "()I"⟩
abbrev cX8_isWord : ByteArray := prog_10_method_18_code
def yX8_isWord : MethodName := ⟨RX8, "isWord", "(I)Z"⟩
abbrev cX8_strike : ByteArray := prog_10_method_19_code
def yX8_strike : MethodName := ⟨RX8, "strike", "(I)I"⟩
abbrev cX8_weigh : ByteArray := prog_10_method_20_code
def yX8_weigh : MethodName := ⟨RX8, "weigh", "(II)I"⟩
abbrev cX8_at : ByteArray := prog_10_method_21_code
def yX8_at : MethodName := ⟨RX8, "at", "(II)I"⟩
abbrev cX8_alike : ByteArray := prog_10_method_22_code
def yX8_alike : MethodName := ⟨RX8, "alike", "(II)I"⟩
abbrev cX8_beginnings : ByteArray := prog_10_method_23_code
def yX8_beginnings : MethodName := ⟨RX8, "beginnings", "()I"⟩
abbrev cX8_lettersMany : ByteArray := prog_10_method_24_code
def yX8_lettersMany : MethodName := ⟨RX8, "lettersMany", "()I"⟩
abbrev cX8_weightsAll : ByteArray := prog_10_method_25_code
def yX8_weightsAll : MethodName := ⟨RX8, "weightsAll", "()I"⟩
abbrev cX8_mirrorOf : ByteArray := prog_10_method_26_code
def yX8_mirrorOf : MethodName := ⟨RX8, "mirrorOf", "(I)I"⟩
abbrev cX8_mirrored : ByteArray := prog_10_method_27_code
def yX8_mirrored : MethodName := ⟨RX8, "mirrored", "()I"⟩
abbrev cX8_aboutNow : ByteArray := prog_10_method_28_code
def yX8_aboutNow : MethodName := ⟨RX8, "aboutNow", "(I)I"⟩
abbrev cX8_about : ByteArray := prog_10_method_29_code
def yX8_about : MethodName := ⟨RX8, "about", "(I)I"⟩
abbrev cX8_sign : ByteArray := prog_10_method_30_code
def yX8_sign : MethodName := ⟨RX8, "sign", "(II)I"⟩
abbrev cX8_beginsNow : ByteArray := prog_10_method_31_code
def yX8_beginsNow : MethodName := ⟨RX8, "beginsNow", "(II)I"⟩
abbrev cX8_begins : ByteArray := prog_10_method_32_code
def yX8_begins : MethodName := ⟨RX8, "begins", "(II)I"⟩
abbrev cX8_begin : ByteArray := prog_10_method_33_code
def yX8_begin : MethodName := ⟨RX8, "begin", "()V"⟩
abbrev cX8_next : ByteArray := prog_10_method_34_code
def yX8_next : MethodName := ⟨RX8, "next", "()Z"⟩
abbrev cX8_wordOfColumn : ByteArray := prog_10_method_35_code
def yX8_wordOfColumn : MethodName := ⟨RX8, "wordOfColumn", "(I)I"⟩
abbrev cX8_isSquare : ByteArray := prog_10_method_36_code
def yX8_isSquare : MethodName := ⟨RX8, "isSquare", "()Z"⟩
abbrev cX8_isSame : ByteArray := prog_10_method_37_code
def yX8_isSame : MethodName := ⟨RX8, "isSame", "()Z"⟩
abbrev cX8_isUnlike : ByteArray := prog_10_method_38_code
def yX8_isUnlike : MethodName := ⟨RX8, "isUnlike", "()Z"⟩
abbrev cX8_isOf : ByteArray := prog_10_method_39_code
def yX8_isOf : MethodName := ⟨RX8, "isOf", "(I)Z"⟩
abbrev cX8_squaresNow : ByteArray := prog_10_method_40_code
def yX8_squaresNow : MethodName := ⟨RX8, "squaresNow", "(I)I"⟩
abbrev cX8_squares : ByteArray := prog_10_method_41_code
def yX8_squares : MethodName := ⟨RX8, "squares", "(I)I"⟩
abbrev cX8_lay : ByteArray := prog_10_method_42_code
def yX8_lay : MethodName := ⟨RX8, "lay", "(II)Z"⟩
abbrev cX8_row : ByteArray := prog_10_method_43_code
def yX8_row : MethodName := ⟨RX8, "row", "(III)I"⟩
abbrev cX8_turnedNow : ByteArray := prog_10_method_44_code
def yX8_turnedNow : MethodName := ⟨RX8, "turnedNow", "()I"⟩
abbrev cX8_turned : ByteArray := prog_10_method_45_code
def yX8_turned : MethodName := ⟨RX8, "turned", "(I)I"⟩
abbrev cX8_heavyNow : ByteArray := prog_10_method_46_code
def yX8_heavyNow : MethodName := ⟨RX8, "heavyNow", "()I"⟩
abbrev cX8_heavy : ByteArray := prog_10_method_47_code
def yX8_heavy : MethodName := ⟨RX8, "heavy", "(I)I"⟩
abbrev cX8_heaviestNow : ByteArray := prog_10_method_48_code
def yX8_heaviestNow : MethodName := ⟨RX8, "heaviestNow", "(I)I"⟩
abbrev cX8_heaviest : ByteArray := prog_10_method_49_code
def yX8_heaviest : MethodName := ⟨RX8, "heaviest", "(I)I"⟩
abbrev cX8_countSquare : ByteArray := prog_10_method_50_code
def yX8_countSquare : MethodName := ⟨RX8, "countSquare", "()V"⟩
abbrev cX8_layCounts : ByteArray := prog_10_method_51_code
def yX8_layCounts : MethodName := ⟨RX8, "layCounts", "()V"⟩
abbrev cX8_wordNow : ByteArray := prog_10_method_52_code
def yX8_wordNow : MethodName := ⟨RX8, "wordNow", "(II)I"⟩
abbrev cX8_wordTold : ByteArray := prog_10_method_53_code
def yX8_wordTold : MethodName := ⟨RX8, "wordTold", "(II)I"⟩
abbrev cX8_word : ByteArray := prog_10_method_54_code
def yX8_word : MethodName := ⟨RX8, "word", "(II)I"⟩
abbrev cX8_isRow : ByteArray := prog_10_method_55_code
def yX8_isRow : MethodName := ⟨RX8, "isRow", "(I)Z"⟩
abbrev cX8_put : ByteArray := prog_10_method_56_code
def yX8_put : MethodName := ⟨RX8, "put", "(II)I"⟩
abbrev cX8_lift : ByteArray := prog_10_method_57_code
def yX8_lift : MethodName := ⟨RX8, "lift", "(I)I"⟩
abbrev cX8_board : ByteArray := prog_10_method_58_code
def yX8_board : MethodName := ⟨RX8, "board", "(I)I"⟩
abbrev cX8_isFitting : ByteArray := prog_10_method_59_code
def yX8_isFitting : MethodName := ⟨RX8, "isFitting", "()Z"⟩
abbrev cX8_countFitting : ByteArray := prog_10_method_60_code
def yX8_countFitting : MethodName := ⟨RX8, "countFitting", "()V"⟩
abbrev cX8_layFitting : ByteArray := prog_10_method_61_code
def yX8_layFitting : MethodName := ⟨RX8, "layFitting", "()V"⟩
abbrev cX8_fittingNow : ByteArray := prog_10_method_62_code
def yX8_fittingNow : MethodName := ⟨RX8, "fittingNow", "()I"⟩
abbrev cX8_fitting : ByteArray := prog_10_method_63_code
def yX8_fitting : MethodName := ⟨RX8, "fitting", "()I"⟩
abbrev cX8_mayNow : ByteArray := prog_10_method_64_code
def yX8_mayNow : MethodName := ⟨RX8, "mayNow", "(I)I"⟩
abbrev cX8_may : ByteArray := prog_10_method_65_code
def yX8_may : MethodName := ⟨RX8, "may", "(I)I"⟩
abbrev cX8_sureNow : ByteArray := prog_10_method_66_code
def yX8_sureNow : MethodName := ⟨RX8, "sureNow", "(II)I"⟩
abbrev cX8_sure : ByteArray := prog_10_method_67_code
def yX8_sure : MethodName := ⟨RX8, "sure", "(II)I"⟩
abbrev cX8_beginOfColumn : ByteArray := prog_10_method_68_code
def yX8_beginOfColumn : MethodName := ⟨RX8, "beginOfColumn", "(II)I"⟩
abbrev cX8_isState : ByteArray := prog_10_method_69_code
def yX8_isState : MethodName := ⟨RX8, "isState", "(I)Z"⟩
abbrev cX8_hasRest : ByteArray := prog_10_method_70_code
def yX8_hasRest : MethodName := ⟨RX8, "hasRest", "(III)Z"⟩
abbrev cX8_hasAllRests : ByteArray := prog_10_method_71_code
def yX8_hasAllRests : MethodName := ⟨RX8, "hasAllRests", "(III)Z"⟩
abbrev cX8_likeOf : ByteArray := prog_10_method_72_code
def yX8_likeOf : MethodName := ⟨RX8, "likeOf", "(II)I"⟩
abbrev cX8_keyOf : ByteArray := prog_10_method_73_code
def yX8_keyOf : MethodName := ⟨RX8, "keyOf", "(I)I"⟩
abbrev cX8_isKept : ByteArray := prog_10_method_74_code
def yX8_isKept : MethodName := ⟨RX8, "isKept", "(I)Z"⟩
abbrev cX8_leave : ByteArray := prog_10_method_75_code
def yX8_leave : MethodName := ⟨RX8, "leave", "(IZ)V"⟩
abbrev cX8_visit : ByteArray := prog_10_method_76_code
def yX8_visit : MethodName := ⟨RX8, "visit", "(IZ)I"⟩
abbrev cX8_goes : ByteArray := prog_10_method_77_code
def yX8_goes : MethodName := ⟨RX8, "goes", "(Z)V"⟩
abbrev cX8_searchNow : ByteArray := prog_10_method_78_code
def yX8_searchNow : MethodName := ⟨RX8, "searchNow", "(I)I"⟩
abbrev cX8_search : ByteArray := prog_10_method_79_code
def yX8_search : MethodName := ⟨RX8, "search", "(I)I"⟩
abbrev cX8_laidMany : ByteArray := prog_10_method_80_code
def yX8_laidMany : MethodName := ⟨RX8, "laidMany", "()I"⟩
abbrev cX8_howMany : ByteArray := prog_10_method_81_code
def yX8_howMany : MethodName := ⟨RX8, "howMany", "(I)I"⟩
abbrev cX8_count : ByteArray := prog_10_method_82_code
def yX8_count : MethodName := ⟨RX8, "count", "(I)I"⟩
abbrev cX8_mix : ByteArray := prog_10_method_83_code
def yX8_mix : MethodName := ⟨RX8, "mix", "(J)V"⟩
abbrev cX8_mixWords : ByteArray := prog_10_method_84_code
def yX8_mixWords : MethodName := ⟨RX8, "mixWords", "()V"⟩
abbrev cX8_mixSquares : ByteArray := prog_10_method_85_code
def yX8_mixSquares : MethodName := ⟨RX8, "mixSquares", "()V"⟩
abbrev cX8_mixBoard : ByteArray := prog_10_method_86_code
def yX8_mixBoard : MethodName := ⟨RX8, "mixBoard", "()V"⟩
abbrev cX8_digest : ByteArray := prog_10_method_87_code
def yX8_digest : MethodName := ⟨RX8, "digest", "()J"⟩
def RJx8e188 : String := "java/lang/Cloneable"
def TJx8e188 : u_T := fun k => match k with
  | _ => ("", "", "", false)
def tyJx8e188 : Nat → FieldType := fun k => match k with
  | _ => .int
abbrev wsJx8e1880 : List Cond := u_ws RJx8e188 TJx8e188 0
theorem nmJx8e188 : ∀ a, a < 0 → ∀ b, b < 0 → a ≠ b → (TJx8e188 a).2.1 ≠ (TJx8e188 b).2.1 := by decide +kernel
theorem tyJx8e188_ok : ∀ k, k < 0 → parseFieldDescriptor (TJx8e188 k).2.2.1 = some (tyJx8e188 k) := by decide +kernel
def RJ6 : String := "java/lang/Integer"
def TJ6 : u_T := fun k => match k with
  | _ => ("", "", "", false)
def tyJ6 : Nat → FieldType := fun k => match k with
  | _ => .int
abbrev wsJ60 : List Cond := u_ws RJ6 TJ6 0
theorem nmJ6 : ∀ a, a < 0 → ∀ b, b < 0 → a ≠ b → (TJ6 a).2.1 ≠ (TJ6 b).2.1 := by decide +kernel
theorem tyJ6_ok : ∀ k, k < 0 → parseFieldDescriptor (TJ6 k).2.2.1 = some (tyJ6 k) := by decide +kernel
abbrev cJ6_bitCount_0f7a4 : ByteArray := prog_12_method_49_code
def yJ6_bitCount_0f7a4 : MethodName := ⟨RJ6, "bitCount", "(I)I"⟩
def RJ9 : String := "java/lang/Math"
def TJ9 : u_T := fun k => match k with
  | _ => ("", "", "", false)
def tyJ9 : Nat → FieldType := fun k => match k with
  | _ => .int
abbrev wsJ90 : List Cond := u_ws RJ9 TJ9 0
theorem nmJ9 : ∀ a, a < 0 → ∀ b, b < 0 → a ≠ b → (TJ9 a).2.1 ≠ (TJ9 b).2.1 := by decide +kernel
theorem tyJ9_ok : ∀ k, k < 0 → parseFieldDescriptor (TJ9 k).2.2.1 = some (tyJ9 k) := by decide +kernel
abbrev cJ9_min_7cf53 : ByteArray := prog_13_method_69_code
def yJ9_min_7cf53 : MethodName := ⟨RJ9, "min", "(II)I"⟩
def RJ10 : String := "java/lang/System"
def TJ10 : u_T := fun k => match k with
  | _ => ("", "", "", false)
def tyJ10 : Nat → FieldType := fun k => match k with
  | _ => .int
abbrev wsJ100 : List Cond := u_ws RJ10 TJ10 0
theorem nmJ10 : ∀ a, a < 0 → ∀ b, b < 0 → a ≠ b → (TJ10 a).2.1 ≠ (TJ10 b).2.1 := by decide +kernel
theorem tyJ10_ok : ∀ k, k < 0 → parseFieldDescriptor (TJ10 k).2.2.1 = some (tyJ10 k) := by decide +kernel
def RJ7 : String := "java/util/Arrays"
def TJ7 : u_T := fun k => match k with
  | _ => ("", "", "", false)
def tyJ7 : Nat → FieldType := fun k => match k with
  | _ => .int
abbrev wsJ70 : List Cond := u_ws RJ7 TJ7 0
theorem nmJ7 : ∀ a, a < 0 → ∀ b, b < 0 → a ≠ b → (TJ7 a).2.1 ≠ (TJ7 b).2.1 := by decide +kernel
theorem tyJ7_ok : ∀ k, k < 0 → parseFieldDescriptor (TJ7 k).2.2.1 = some (tyJ7 k) := by decide +kernel
abbrev cJ7_fill_d0a16 : ByteArray := prog_15_method_101_code
def yJ7_fill_d0a16 : MethodName := ⟨RJ7, "fill", "([JJ)V"⟩
abbrev cJ7_fill_53178 : ByteArray := prog_15_method_103_code
def yJ7_fill_53178 : MethodName := ⟨RJ7, "fill", "([II)V"⟩
abbrev cJ7_copyOf_59c91 : ByteArray := prog_15_method_123_code
def yJ7_copyOf_59c91 : MethodName := ⟨RJ7, "copyOf", "([II)[I"⟩
def RL : String := "WordSquaresLaw"
abbrev cL_law : ByteArray := code
def yL_law : MethodName := ⟨RL, "law", "([I)Z"⟩
abbrev vwCl : List vw_C := [(RX0, TX0, 3), (RX1, TX1, 2), (RX2, TX2, 13), (RX3, TX3, 4), (RX4, TX4, 2), (RX5, TX5, 2), (RX6, TX6, 4), (RX7, TX7, 9), (RX8, TX8, 31)]
