section
-- ===== PART A: goes FIRST, ahead of the names: the tables' words, and 'selects' of the private methods out of them =====
/-- a private method of a class that the tables say can be made, by its rows of tables_1 -/
def lw_okq (q : MethodName × Nat) : Prop := (q.1.cls ≠ "java/lang/invoke/MethodHandle" ∧ q.1.cls ≠ "java/lang/invoke/VarHandle") ∧ Cond.instantiable q.1.cls q.2 ∈ tables_1 ∧ Cond.privateMethod q.1 ∈ tables_1 ∧ Cond.instanceMethod q.1 ∈ tables_1
theorem lw_p0 : lw_okq (⟨"WordSquares$Text", "repeats", "(II)Z"⟩, 2) := ⟨⟨by decide +kernel, by decide +kernel⟩, List.mem_of_getElem? (i := 23) (by decide +kernel), List.mem_of_getElem? (i := 225) (by decide +kernel), List.mem_of_getElem? (i := 226) (by decide +kernel)⟩
theorem lw_p1 : lw_okq (⟨"WordSquares$Text", "sameWord", "(III)Z"⟩, 2) := ⟨⟨by decide +kernel, by decide +kernel⟩, List.mem_of_getElem? (i := 23) (by decide +kernel), List.mem_of_getElem? (i := 229) (by decide +kernel), List.mem_of_getElem? (i := 230) (by decide +kernel)⟩
theorem lw_p2 : lw_okq (⟨"WordSquares$Text", "firstComma", "()I"⟩, 2) := ⟨⟨by decide +kernel, by decide +kernel⟩, List.mem_of_getElem? (i := 23) (by decide +kernel), List.mem_of_getElem? (i := 246) (by decide +kernel), List.mem_of_getElem? (i := 247) (by decide +kernel)⟩
theorem lw_p3 : lw_okq (⟨"WordSquares", "renew", "()V"⟩, 9) := ⟨⟨by decide +kernel, by decide +kernel⟩, List.mem_of_getElem? (i := 15) (by decide +kernel), List.mem_of_getElem? (i := 274) (by decide +kernel), List.mem_of_getElem? (i := 275) (by decide +kernel)⟩
theorem lw_p4 : lw_okq (⟨"WordSquares$Finder", "clear", "()V"⟩, 13) := ⟨⟨by decide +kernel, by decide +kernel⟩, List.mem_of_getElem? (i := 56) (by decide +kernel), List.mem_of_getElem? (i := 282) (by decide +kernel), List.mem_of_getElem? (i := 283) (by decide +kernel)⟩
theorem lw_p5 : lw_okq (⟨"WordSquares$Prefixes", "buildLonger", "(I)V"⟩, 4) := ⟨⟨by decide +kernel, by decide +kernel⟩, List.mem_of_getElem? (i := 89) (by decide +kernel), List.mem_of_getElem? (i := 309) (by decide +kernel), List.mem_of_getElem? (i := 310) (by decide +kernel)⟩
theorem lw_p6 : lw_okq (⟨"WordSquares$Prefixes", "isHead", "(II)Z"⟩, 4) := ⟨⟨by decide +kernel, by decide +kernel⟩, List.mem_of_getElem? (i := 89) (by decide +kernel), List.mem_of_getElem? (i := 315) (by decide +kernel), List.mem_of_getElem? (i := 316) (by decide +kernel)⟩
theorem lw_p7 : lw_okq (⟨"WordSquares$Prefixes", "buildTakers", "(II)V"⟩, 4) := ⟨⟨by decide +kernel, by decide +kernel⟩, List.mem_of_getElem? (i := 89) (by decide +kernel), List.mem_of_getElem? (i := 330) (by decide +kernel), List.mem_of_getElem? (i := 331) (by decide +kernel)⟩
theorem lw_p8 : lw_okq (⟨"WordSquares$Prefixes", "firstAlike", "(II)I"⟩, 4) := ⟨⟨by decide +kernel, by decide +kernel⟩, List.mem_of_getElem? (i := 89) (by decide +kernel), List.mem_of_getElem? (i := 334) (by decide +kernel), List.mem_of_getElem? (i := 335) (by decide +kernel)⟩
theorem lw_p9 : lw_okq (⟨"WordSquares$Prefixes", "sameRests", "(III)Z"⟩, 4) := ⟨⟨by decide +kernel, by decide +kernel⟩, List.mem_of_getElem? (i := 89) (by decide +kernel), List.mem_of_getElem? (i := 338) (by decide +kernel), List.mem_of_getElem? (i := 339) (by decide +kernel)⟩
theorem lw_p10 : lw_okq (⟨"WordSquares$Finder", "explore", "(III)Z"⟩, 13) := ⟨⟨by decide +kernel, by decide +kernel⟩, List.mem_of_getElem? (i := 56) (by decide +kernel), List.mem_of_getElem? (i := 350) (by decide +kernel), List.mem_of_getElem? (i := 351) (by decide +kernel)⟩
theorem lw_p11 : lw_okq (⟨"WordSquares$Finder", "keep", "(II)V"⟩, 13) := ⟨⟨by decide +kernel, by decide +kernel⟩, List.mem_of_getElem? (i := 56) (by decide +kernel), List.mem_of_getElem? (i := 355) (by decide +kernel), List.mem_of_getElem? (i := 356) (by decide +kernel)⟩
theorem lw_p12 : lw_okq (⟨"WordSquares$Finder", "countSymmetric", "(I)V"⟩, 13) := ⟨⟨by decide +kernel, by decide +kernel⟩, List.mem_of_getElem? (i := 56) (by decide +kernel), List.mem_of_getElem? (i := 382) (by decide +kernel), List.mem_of_getElem? (i := 383) (by decide +kernel)⟩
theorem lw_p13 : lw_okq (⟨"WordSquares$Finder", "exploreWithMemory", "(II)Z"⟩, 13) := ⟨⟨by decide +kernel, by decide +kernel⟩, List.mem_of_getElem? (i := 56) (by decide +kernel), List.mem_of_getElem? (i := 401) (by decide +kernel), List.mem_of_getElem? (i := 402) (by decide +kernel)⟩
theorem lw_p14 : lw_okq (⟨"WordSquares", "greatestOf", "(LWordSquares$SquareList;)I"⟩, 9) := ⟨⟨by decide +kernel, by decide +kernel⟩, List.mem_of_getElem? (i := 15) (by decide +kernel), List.mem_of_getElem? (i := 561) (by decide +kernel), List.mem_of_getElem? (i := 562) (by decide +kernel)⟩
theorem lw_p15 : lw_okq (⟨"WordSquares", "weightOfSquare", "(LWordSquares$SquareList;I)I"⟩, 9) := ⟨⟨by decide +kernel, by decide +kernel⟩, List.mem_of_getElem? (i := 15) (by decide +kernel), List.mem_of_getElem? (i := 565) (by decide +kernel), List.mem_of_getElem? (i := 566) (by decide +kernel)⟩
def lw_privs_1 : List (MethodName × Nat) := [(⟨"WordSquares$Text", "repeats", "(II)Z"⟩, 2), (⟨"WordSquares$Text", "sameWord", "(III)Z"⟩, 2), (⟨"WordSquares$Text", "firstComma", "()I"⟩, 2), (⟨"WordSquares", "renew", "()V"⟩, 9), (⟨"WordSquares$Finder", "clear", "()V"⟩, 13), (⟨"WordSquares$Prefixes", "buildLonger", "(I)V"⟩, 4), (⟨"WordSquares$Prefixes", "isHead", "(II)Z"⟩, 4), (⟨"WordSquares$Prefixes", "buildTakers", "(II)V"⟩, 4), (⟨"WordSquares$Prefixes", "firstAlike", "(II)I"⟩, 4), (⟨"WordSquares$Prefixes", "sameRests", "(III)Z"⟩, 4), (⟨"WordSquares$Finder", "explore", "(III)Z"⟩, 13), (⟨"WordSquares$Finder", "keep", "(II)V"⟩, 13), (⟨"WordSquares$Finder", "countSymmetric", "(I)V"⟩, 13), (⟨"WordSquares$Finder", "exploreWithMemory", "(II)Z"⟩, 13), (⟨"WordSquares", "greatestOf", "(LWordSquares$SquareList;)I"⟩, 9), (⟨"WordSquares", "weightOfSquare", "(LWordSquares$SquareList;I)I"⟩, 9)]
theorem lw_r1 : ∀ q ∈ lw_privs_1, lw_okq q := List.forall_mem_cons.mpr ⟨lw_p0, List.forall_mem_cons.mpr ⟨lw_p1, List.forall_mem_cons.mpr ⟨lw_p2, List.forall_mem_cons.mpr ⟨lw_p3, List.forall_mem_cons.mpr ⟨lw_p4, List.forall_mem_cons.mpr ⟨lw_p5, List.forall_mem_cons.mpr ⟨lw_p6, List.forall_mem_cons.mpr ⟨lw_p7, List.forall_mem_cons.mpr ⟨lw_p8, List.forall_mem_cons.mpr ⟨lw_p9, List.forall_mem_cons.mpr ⟨lw_p10, List.forall_mem_cons.mpr ⟨lw_p11, List.forall_mem_cons.mpr ⟨lw_p12, List.forall_mem_cons.mpr ⟨lw_p13, List.forall_mem_cons.mpr ⟨lw_p14, List.forall_mem_cons.mpr ⟨lw_p15, fun _ h => absurd h List.not_mem_nil⟩⟩⟩⟩⟩⟩⟩⟩⟩⟩⟩⟩⟩⟩⟩⟩
theorem lw_p16 : lw_okq (⟨"WordSquares", "lookedBoard", "()LWordSquares$Board;"⟩, 9) := ⟨⟨by decide +kernel, by decide +kernel⟩, List.mem_of_getElem? (i := 15) (by decide +kernel), List.mem_of_getElem? (i := 597) (by decide +kernel), List.mem_of_getElem? (i := 598) (by decide +kernel)⟩
theorem lw_p17 : lw_okq (⟨"WordSquares$Board", "addRows", "(II)V"⟩, 3) := ⟨⟨by decide +kernel, by decide +kernel⟩, List.mem_of_getElem? (i := 150) (by decide +kernel), List.mem_of_getElem? (i := 607) (by decide +kernel), List.mem_of_getElem? (i := 608) (by decide +kernel)⟩
theorem lw_p18 : lw_okq (⟨"WordSquares", "mixWords", "(J)J"⟩, 9) := ⟨⟨by decide +kernel, by decide +kernel⟩, List.mem_of_getElem? (i := 15) (by decide +kernel), List.mem_of_getElem? (i := 678) (by decide +kernel), List.mem_of_getElem? (i := 679) (by decide +kernel)⟩
theorem lw_p19 : lw_okq (⟨"WordSquares", "mixSquares", "(J)J"⟩, 9) := ⟨⟨by decide +kernel, by decide +kernel⟩, List.mem_of_getElem? (i := 15) (by decide +kernel), List.mem_of_getElem? (i := 684) (by decide +kernel), List.mem_of_getElem? (i := 685) (by decide +kernel)⟩
theorem lw_p20 : lw_okq (⟨"WordSquares", "mixBoard", "(J)J"⟩, 9) := ⟨⟨by decide +kernel, by decide +kernel⟩, List.mem_of_getElem? (i := 15) (by decide +kernel), List.mem_of_getElem? (i := 692) (by decide +kernel), List.mem_of_getElem? (i := 693) (by decide +kernel)⟩
theorem lw_p21 : lw_okq (⟨"WordSquaresModel", "clearBoard", "()V"⟩, 31) := ⟨⟨by decide +kernel, by decide +kernel⟩, List.mem_of_getElem? (i := 703) (by decide +kernel), List.mem_of_getElem? (i := 709) (by decide +kernel), List.mem_of_getElem? (i := 710) (by decide +kernel)⟩
theorem lw_p22 : lw_okq (⟨"WordSquaresModel", "read", "()I"⟩, 31) := ⟨⟨by decide +kernel, by decide +kernel⟩, List.mem_of_getElem? (i := 703) (by decide +kernel), List.mem_of_getElem? (i := 823) (by decide +kernel), List.mem_of_getElem? (i := 824) (by decide +kernel)⟩
theorem lw_p23 : lw_okq (⟨"WordSquaresModel", "takes", "(I)Z"⟩, 31) := ⟨⟨by decide +kernel, by decide +kernel⟩, List.mem_of_getElem? (i := 703) (by decide +kernel), List.mem_of_getElem? (i := 827) (by decide +kernel), List.mem_of_getElem? (i := 828) (by decide +kernel)⟩
theorem lw_p24 : lw_okq (⟨"WordSquaresModel", "takesComma", "()Z"⟩, 31) := ⟨⟨by decide +kernel, by decide +kernel⟩, List.mem_of_getElem? (i := 703) (by decide +kernel), List.mem_of_getElem? (i := 831) (by decide +kernel), List.mem_of_getElem? (i := 832) (by decide +kernel)⟩
theorem lw_p25 : lw_okq (⟨"WordSquaresModel", "isTwice", "()Z"⟩, 31) := ⟨⟨by decide +kernel, by decide +kernel⟩, List.mem_of_getElem? (i := 703) (by decide +kernel), List.mem_of_getElem? (i := 835) (by decide +kernel), List.mem_of_getElem? (i := 836) (by decide +kernel)⟩
theorem lw_p26 : lw_okq (⟨"WordSquaresModel", "isNew", "(I)Z"⟩, 31) := ⟨⟨by decide +kernel, by decide +kernel⟩, List.mem_of_getElem? (i := 703) (by decide +kernel), List.mem_of_getElem? (i := 843) (by decide +kernel), List.mem_of_getElem? (i := 844) (by decide +kernel)⟩
theorem lw_p27 : lw_okq (⟨"WordSquaresModel", "isThere", "(I)Z"⟩, 31) := ⟨⟨by decide +kernel, by decide +kernel⟩, List.mem_of_getElem? (i := 703) (by decide +kernel), List.mem_of_getElem? (i := 847) (by decide +kernel), List.mem_of_getElem? (i := 848) (by decide +kernel)⟩
theorem lw_p28 : lw_okq (⟨"WordSquaresModel", "comes", "(I)V"⟩, 31) := ⟨⟨by decide +kernel, by decide +kernel⟩, List.mem_of_getElem? (i := 703) (by decide +kernel), List.mem_of_getElem? (i := 851) (by decide +kernel), List.mem_of_getElem? (i := 852) (by decide +kernel)⟩
theorem lw_p29 : lw_okq (⟨"WordSquaresModel", "isAhead", "(II)Z"⟩, 31) := ⟨⟨by decide +kernel, by decide +kernel⟩, List.mem_of_getElem? (i := 703) (by decide +kernel), List.mem_of_getElem? (i := 855) (by decide +kernel), List.mem_of_getElem? (i := 856) (by decide +kernel)⟩
theorem lw_p30 : lw_okq (⟨"WordSquaresModel", "move", "(II)V"⟩, 31) := ⟨⟨by decide +kernel, by decide +kernel⟩, List.mem_of_getElem? (i := 703) (by decide +kernel), List.mem_of_getElem? (i := 859) (by decide +kernel), List.mem_of_getElem? (i := 860) (by decide +kernel)⟩
theorem lw_p31 : lw_okq (⟨"WordSquaresModel", "isWord", "(I)Z"⟩, 31) := ⟨⟨by decide +kernel, by decide +kernel⟩, List.mem_of_getElem? (i := 703) (by decide +kernel), List.mem_of_getElem? (i := 867) (by decide +kernel), List.mem_of_getElem? (i := 868) (by decide +kernel)⟩
def lw_privs_2 : List (MethodName × Nat) := [(⟨"WordSquares", "lookedBoard", "()LWordSquares$Board;"⟩, 9), (⟨"WordSquares$Board", "addRows", "(II)V"⟩, 3), (⟨"WordSquares", "mixWords", "(J)J"⟩, 9), (⟨"WordSquares", "mixSquares", "(J)J"⟩, 9), (⟨"WordSquares", "mixBoard", "(J)J"⟩, 9), (⟨"WordSquaresModel", "clearBoard", "()V"⟩, 31), (⟨"WordSquaresModel", "read", "()I"⟩, 31), (⟨"WordSquaresModel", "takes", "(I)Z"⟩, 31), (⟨"WordSquaresModel", "takesComma", "()Z"⟩, 31), (⟨"WordSquaresModel", "isTwice", "()Z"⟩, 31), (⟨"WordSquaresModel", "isNew", "(I)Z"⟩, 31), (⟨"WordSquaresModel", "isThere", "(I)Z"⟩, 31), (⟨"WordSquaresModel", "comes", "(I)V"⟩, 31), (⟨"WordSquaresModel", "isAhead", "(II)Z"⟩, 31), (⟨"WordSquaresModel", "move", "(II)V"⟩, 31), (⟨"WordSquaresModel", "isWord", "(I)Z"⟩, 31)]
theorem lw_r2 : ∀ q ∈ lw_privs_2, lw_okq q := List.forall_mem_cons.mpr ⟨lw_p16, List.forall_mem_cons.mpr ⟨lw_p17, List.forall_mem_cons.mpr ⟨lw_p18, List.forall_mem_cons.mpr ⟨lw_p19, List.forall_mem_cons.mpr ⟨lw_p20, List.forall_mem_cons.mpr ⟨lw_p21, List.forall_mem_cons.mpr ⟨lw_p22, List.forall_mem_cons.mpr ⟨lw_p23, List.forall_mem_cons.mpr ⟨lw_p24, List.forall_mem_cons.mpr ⟨lw_p25, List.forall_mem_cons.mpr ⟨lw_p26, List.forall_mem_cons.mpr ⟨lw_p27, List.forall_mem_cons.mpr ⟨lw_p28, List.forall_mem_cons.mpr ⟨lw_p29, List.forall_mem_cons.mpr ⟨lw_p30, List.forall_mem_cons.mpr ⟨lw_p31, fun _ h => absurd h List.not_mem_nil⟩⟩⟩⟩⟩⟩⟩⟩⟩⟩⟩⟩⟩⟩⟩⟩
theorem lw_p32 : lw_okq (⟨"WordSquaresModel", "aboutNow", "(I)I"⟩, 31) := ⟨⟨by decide +kernel, by decide +kernel⟩, List.mem_of_getElem? (i := 703) (by decide +kernel), List.mem_of_getElem? (i := 879) (by decide +kernel), List.mem_of_getElem? (i := 880) (by decide +kernel)⟩
theorem lw_p33 : lw_okq (⟨"WordSquaresModel", "beginnings", "()I"⟩, 31) := ⟨⟨by decide +kernel, by decide +kernel⟩, List.mem_of_getElem? (i := 703) (by decide +kernel), List.mem_of_getElem? (i := 883) (by decide +kernel), List.mem_of_getElem? (i := 884) (by decide +kernel)⟩
theorem lw_p34 : lw_okq (⟨"WordSquaresModel", "alike", "(II)I"⟩, 31) := ⟨⟨by decide +kernel, by decide +kernel⟩, List.mem_of_getElem? (i := 703) (by decide +kernel), List.mem_of_getElem? (i := 887) (by decide +kernel), List.mem_of_getElem? (i := 888) (by decide +kernel)⟩
theorem lw_p35 : lw_okq (⟨"WordSquaresModel", "at", "(II)I"⟩, 31) := ⟨⟨by decide +kernel, by decide +kernel⟩, List.mem_of_getElem? (i := 703) (by decide +kernel), List.mem_of_getElem? (i := 891) (by decide +kernel), List.mem_of_getElem? (i := 892) (by decide +kernel)⟩
theorem lw_p36 : lw_okq (⟨"WordSquaresModel", "lettersMany", "()I"⟩, 31) := ⟨⟨by decide +kernel, by decide +kernel⟩, List.mem_of_getElem? (i := 703) (by decide +kernel), List.mem_of_getElem? (i := 895) (by decide +kernel), List.mem_of_getElem? (i := 896) (by decide +kernel)⟩
theorem lw_p37 : lw_okq (⟨"WordSquaresModel", "weightsAll", "()I"⟩, 31) := ⟨⟨by decide +kernel, by decide +kernel⟩, List.mem_of_getElem? (i := 703) (by decide +kernel), List.mem_of_getElem? (i := 899) (by decide +kernel), List.mem_of_getElem? (i := 900) (by decide +kernel)⟩
theorem lw_p38 : lw_okq (⟨"WordSquaresModel", "mirrored", "()I"⟩, 31) := ⟨⟨by decide +kernel, by decide +kernel⟩, List.mem_of_getElem? (i := 703) (by decide +kernel), List.mem_of_getElem? (i := 903) (by decide +kernel), List.mem_of_getElem? (i := 904) (by decide +kernel)⟩
theorem lw_p39 : lw_okq (⟨"WordSquaresModel", "mirrorOf", "(I)I"⟩, 31) := ⟨⟨by decide +kernel, by decide +kernel⟩, List.mem_of_getElem? (i := 703) (by decide +kernel), List.mem_of_getElem? (i := 907) (by decide +kernel), List.mem_of_getElem? (i := 908) (by decide +kernel)⟩
theorem lw_p40 : lw_okq (⟨"WordSquaresModel", "beginsNow", "(II)I"⟩, 31) := ⟨⟨by decide +kernel, by decide +kernel⟩, List.mem_of_getElem? (i := 703) (by decide +kernel), List.mem_of_getElem? (i := 919) (by decide +kernel), List.mem_of_getElem? (i := 920) (by decide +kernel)⟩
theorem lw_p41 : lw_okq (⟨"WordSquaresModel", "squaresNow", "(I)I"⟩, 31) := ⟨⟨by decide +kernel, by decide +kernel⟩, List.mem_of_getElem? (i := 703) (by decide +kernel), List.mem_of_getElem? (i := 927) (by decide +kernel), List.mem_of_getElem? (i := 928) (by decide +kernel)⟩
theorem lw_p42 : lw_okq (⟨"WordSquaresModel", "begin", "()V"⟩, 31) := ⟨⟨by decide +kernel, by decide +kernel⟩, List.mem_of_getElem? (i := 703) (by decide +kernel), List.mem_of_getElem? (i := 931) (by decide +kernel), List.mem_of_getElem? (i := 932) (by decide +kernel)⟩
theorem lw_p43 : lw_okq (⟨"WordSquaresModel", "isOf", "(I)Z"⟩, 31) := ⟨⟨by decide +kernel, by decide +kernel⟩, List.mem_of_getElem? (i := 703) (by decide +kernel), List.mem_of_getElem? (i := 935) (by decide +kernel), List.mem_of_getElem? (i := 936) (by decide +kernel)⟩
theorem lw_p44 : lw_okq (⟨"WordSquaresModel", "isSquare", "()Z"⟩, 31) := ⟨⟨by decide +kernel, by decide +kernel⟩, List.mem_of_getElem? (i := 703) (by decide +kernel), List.mem_of_getElem? (i := 939) (by decide +kernel), List.mem_of_getElem? (i := 940) (by decide +kernel)⟩
theorem lw_p45 : lw_okq (⟨"WordSquaresModel", "wordOfColumn", "(I)I"⟩, 31) := ⟨⟨by decide +kernel, by decide +kernel⟩, List.mem_of_getElem? (i := 703) (by decide +kernel), List.mem_of_getElem? (i := 943) (by decide +kernel), List.mem_of_getElem? (i := 944) (by decide +kernel)⟩
theorem lw_p46 : lw_okq (⟨"WordSquaresModel", "isSame", "()Z"⟩, 31) := ⟨⟨by decide +kernel, by decide +kernel⟩, List.mem_of_getElem? (i := 703) (by decide +kernel), List.mem_of_getElem? (i := 947) (by decide +kernel), List.mem_of_getElem? (i := 948) (by decide +kernel)⟩
theorem lw_p47 : lw_okq (⟨"WordSquaresModel", "isUnlike", "()Z"⟩, 31) := ⟨⟨by decide +kernel, by decide +kernel⟩, List.mem_of_getElem? (i := 703) (by decide +kernel), List.mem_of_getElem? (i := 951) (by decide +kernel), List.mem_of_getElem? (i := 952) (by decide +kernel)⟩
def lw_privs_3 : List (MethodName × Nat) := [(⟨"WordSquaresModel", "aboutNow", "(I)I"⟩, 31), (⟨"WordSquaresModel", "beginnings", "()I"⟩, 31), (⟨"WordSquaresModel", "alike", "(II)I"⟩, 31), (⟨"WordSquaresModel", "at", "(II)I"⟩, 31), (⟨"WordSquaresModel", "lettersMany", "()I"⟩, 31), (⟨"WordSquaresModel", "weightsAll", "()I"⟩, 31), (⟨"WordSquaresModel", "mirrored", "()I"⟩, 31), (⟨"WordSquaresModel", "mirrorOf", "(I)I"⟩, 31), (⟨"WordSquaresModel", "beginsNow", "(II)I"⟩, 31), (⟨"WordSquaresModel", "squaresNow", "(I)I"⟩, 31), (⟨"WordSquaresModel", "begin", "()V"⟩, 31), (⟨"WordSquaresModel", "isOf", "(I)Z"⟩, 31), (⟨"WordSquaresModel", "isSquare", "()Z"⟩, 31), (⟨"WordSquaresModel", "wordOfColumn", "(I)I"⟩, 31), (⟨"WordSquaresModel", "isSame", "()Z"⟩, 31), (⟨"WordSquaresModel", "isUnlike", "()Z"⟩, 31)]
theorem lw_r3 : ∀ q ∈ lw_privs_3, lw_okq q := List.forall_mem_cons.mpr ⟨lw_p32, List.forall_mem_cons.mpr ⟨lw_p33, List.forall_mem_cons.mpr ⟨lw_p34, List.forall_mem_cons.mpr ⟨lw_p35, List.forall_mem_cons.mpr ⟨lw_p36, List.forall_mem_cons.mpr ⟨lw_p37, List.forall_mem_cons.mpr ⟨lw_p38, List.forall_mem_cons.mpr ⟨lw_p39, List.forall_mem_cons.mpr ⟨lw_p40, List.forall_mem_cons.mpr ⟨lw_p41, List.forall_mem_cons.mpr ⟨lw_p42, List.forall_mem_cons.mpr ⟨lw_p43, List.forall_mem_cons.mpr ⟨lw_p44, List.forall_mem_cons.mpr ⟨lw_p45, List.forall_mem_cons.mpr ⟨lw_p46, List.forall_mem_cons.mpr ⟨lw_p47, fun _ h => absurd h List.not_mem_nil⟩⟩⟩⟩⟩⟩⟩⟩⟩⟩⟩⟩⟩⟩⟩⟩
theorem lw_p48 : lw_okq (⟨"WordSquaresModel", "next", "()Z"⟩, 31) := ⟨⟨by decide +kernel, by decide +kernel⟩, List.mem_of_getElem? (i := 703) (by decide +kernel), List.mem_of_getElem? (i := 955) (by decide +kernel), List.mem_of_getElem? (i := 956) (by decide +kernel)⟩
theorem lw_p49 : lw_okq (⟨"WordSquaresModel", "lay", "(II)Z"⟩, 31) := ⟨⟨by decide +kernel, by decide +kernel⟩, List.mem_of_getElem? (i := 703) (by decide +kernel), List.mem_of_getElem? (i := 963) (by decide +kernel), List.mem_of_getElem? (i := 964) (by decide +kernel)⟩
theorem lw_p50 : lw_okq (⟨"WordSquaresModel", "turnedNow", "()I"⟩, 31) := ⟨⟨by decide +kernel, by decide +kernel⟩, List.mem_of_getElem? (i := 703) (by decide +kernel), List.mem_of_getElem? (i := 971) (by decide +kernel), List.mem_of_getElem? (i := 972) (by decide +kernel)⟩
theorem lw_p51 : lw_okq (⟨"WordSquaresModel", "heavyNow", "()I"⟩, 31) := ⟨⟨by decide +kernel, by decide +kernel⟩, List.mem_of_getElem? (i := 703) (by decide +kernel), List.mem_of_getElem? (i := 979) (by decide +kernel), List.mem_of_getElem? (i := 980) (by decide +kernel)⟩
theorem lw_p52 : lw_okq (⟨"WordSquaresModel", "heaviestNow", "(I)I"⟩, 31) := ⟨⟨by decide +kernel, by decide +kernel⟩, List.mem_of_getElem? (i := 703) (by decide +kernel), List.mem_of_getElem? (i := 987) (by decide +kernel), List.mem_of_getElem? (i := 988) (by decide +kernel)⟩
theorem lw_p53 : lw_okq (⟨"WordSquaresModel", "wordTold", "(II)I"⟩, 31) := ⟨⟨by decide +kernel, by decide +kernel⟩, List.mem_of_getElem? (i := 703) (by decide +kernel), List.mem_of_getElem? (i := 995) (by decide +kernel), List.mem_of_getElem? (i := 996) (by decide +kernel)⟩
theorem lw_p54 : lw_okq (⟨"WordSquaresModel", "layCounts", "()V"⟩, 31) := ⟨⟨by decide +kernel, by decide +kernel⟩, List.mem_of_getElem? (i := 703) (by decide +kernel), List.mem_of_getElem? (i := 999) (by decide +kernel), List.mem_of_getElem? (i := 1000) (by decide +kernel)⟩
theorem lw_p55 : lw_okq (⟨"WordSquaresModel", "countSquare", "()V"⟩, 31) := ⟨⟨by decide +kernel, by decide +kernel⟩, List.mem_of_getElem? (i := 703) (by decide +kernel), List.mem_of_getElem? (i := 1003) (by decide +kernel), List.mem_of_getElem? (i := 1004) (by decide +kernel)⟩
theorem lw_p56 : lw_okq (⟨"WordSquaresModel", "wordNow", "(II)I"⟩, 31) := ⟨⟨by decide +kernel, by decide +kernel⟩, List.mem_of_getElem? (i := 703) (by decide +kernel), List.mem_of_getElem? (i := 1007) (by decide +kernel), List.mem_of_getElem? (i := 1008) (by decide +kernel)⟩
theorem lw_p57 : lw_okq (⟨"WordSquaresModel", "isRow", "(I)Z"⟩, 31) := ⟨⟨by decide +kernel, by decide +kernel⟩, List.mem_of_getElem? (i := 703) (by decide +kernel), List.mem_of_getElem? (i := 1015) (by decide +kernel), List.mem_of_getElem? (i := 1016) (by decide +kernel)⟩
theorem lw_p58 : lw_okq (⟨"WordSquaresModel", "fittingNow", "()I"⟩, 31) := ⟨⟨by decide +kernel, by decide +kernel⟩, List.mem_of_getElem? (i := 703) (by decide +kernel), List.mem_of_getElem? (i := 1031) (by decide +kernel), List.mem_of_getElem? (i := 1032) (by decide +kernel)⟩
theorem lw_p59 : lw_okq (⟨"WordSquaresModel", "layFitting", "()V"⟩, 31) := ⟨⟨by decide +kernel, by decide +kernel⟩, List.mem_of_getElem? (i := 703) (by decide +kernel), List.mem_of_getElem? (i := 1035) (by decide +kernel), List.mem_of_getElem? (i := 1036) (by decide +kernel)⟩
theorem lw_p60 : lw_okq (⟨"WordSquaresModel", "isFitting", "()Z"⟩, 31) := ⟨⟨by decide +kernel, by decide +kernel⟩, List.mem_of_getElem? (i := 703) (by decide +kernel), List.mem_of_getElem? (i := 1039) (by decide +kernel), List.mem_of_getElem? (i := 1040) (by decide +kernel)⟩
theorem lw_p61 : lw_okq (⟨"WordSquaresModel", "countFitting", "()V"⟩, 31) := ⟨⟨by decide +kernel, by decide +kernel⟩, List.mem_of_getElem? (i := 703) (by decide +kernel), List.mem_of_getElem? (i := 1043) (by decide +kernel), List.mem_of_getElem? (i := 1044) (by decide +kernel)⟩
theorem lw_p62 : lw_okq (⟨"WordSquaresModel", "mayNow", "(I)I"⟩, 31) := ⟨⟨by decide +kernel, by decide +kernel⟩, List.mem_of_getElem? (i := 703) (by decide +kernel), List.mem_of_getElem? (i := 1051) (by decide +kernel), List.mem_of_getElem? (i := 1052) (by decide +kernel)⟩
theorem lw_p63 : lw_okq (⟨"WordSquaresModel", "sureNow", "(II)I"⟩, 31) := ⟨⟨by decide +kernel, by decide +kernel⟩, List.mem_of_getElem? (i := 703) (by decide +kernel), List.mem_of_getElem? (i := 1059) (by decide +kernel), List.mem_of_getElem? (i := 1060) (by decide +kernel)⟩
def lw_privs_4 : List (MethodName × Nat) := [(⟨"WordSquaresModel", "next", "()Z"⟩, 31), (⟨"WordSquaresModel", "lay", "(II)Z"⟩, 31), (⟨"WordSquaresModel", "turnedNow", "()I"⟩, 31), (⟨"WordSquaresModel", "heavyNow", "()I"⟩, 31), (⟨"WordSquaresModel", "heaviestNow", "(I)I"⟩, 31), (⟨"WordSquaresModel", "wordTold", "(II)I"⟩, 31), (⟨"WordSquaresModel", "layCounts", "()V"⟩, 31), (⟨"WordSquaresModel", "countSquare", "()V"⟩, 31), (⟨"WordSquaresModel", "wordNow", "(II)I"⟩, 31), (⟨"WordSquaresModel", "isRow", "(I)Z"⟩, 31), (⟨"WordSquaresModel", "fittingNow", "()I"⟩, 31), (⟨"WordSquaresModel", "layFitting", "()V"⟩, 31), (⟨"WordSquaresModel", "isFitting", "()Z"⟩, 31), (⟨"WordSquaresModel", "countFitting", "()V"⟩, 31), (⟨"WordSquaresModel", "mayNow", "(I)I"⟩, 31), (⟨"WordSquaresModel", "sureNow", "(II)I"⟩, 31)]
theorem lw_r4 : ∀ q ∈ lw_privs_4, lw_okq q := List.forall_mem_cons.mpr ⟨lw_p48, List.forall_mem_cons.mpr ⟨lw_p49, List.forall_mem_cons.mpr ⟨lw_p50, List.forall_mem_cons.mpr ⟨lw_p51, List.forall_mem_cons.mpr ⟨lw_p52, List.forall_mem_cons.mpr ⟨lw_p53, List.forall_mem_cons.mpr ⟨lw_p54, List.forall_mem_cons.mpr ⟨lw_p55, List.forall_mem_cons.mpr ⟨lw_p56, List.forall_mem_cons.mpr ⟨lw_p57, List.forall_mem_cons.mpr ⟨lw_p58, List.forall_mem_cons.mpr ⟨lw_p59, List.forall_mem_cons.mpr ⟨lw_p60, List.forall_mem_cons.mpr ⟨lw_p61, List.forall_mem_cons.mpr ⟨lw_p62, List.forall_mem_cons.mpr ⟨lw_p63, fun _ h => absurd h List.not_mem_nil⟩⟩⟩⟩⟩⟩⟩⟩⟩⟩⟩⟩⟩⟩⟩⟩
theorem lw_p64 : lw_okq (⟨"WordSquaresModel", "searchNow", "(I)I"⟩, 31) := ⟨⟨by decide +kernel, by decide +kernel⟩, List.mem_of_getElem? (i := 703) (by decide +kernel), List.mem_of_getElem? (i := 1067) (by decide +kernel), List.mem_of_getElem? (i := 1068) (by decide +kernel)⟩
theorem lw_p65 : lw_okq (⟨"WordSquaresModel", "goes", "(Z)V"⟩, 31) := ⟨⟨by decide +kernel, by decide +kernel⟩, List.mem_of_getElem? (i := 703) (by decide +kernel), List.mem_of_getElem? (i := 1071) (by decide +kernel), List.mem_of_getElem? (i := 1072) (by decide +kernel)⟩
theorem lw_p66 : lw_okq (⟨"WordSquaresModel", "leave", "(IZ)V"⟩, 31) := ⟨⟨by decide +kernel, by decide +kernel⟩, List.mem_of_getElem? (i := 703) (by decide +kernel), List.mem_of_getElem? (i := 1075) (by decide +kernel), List.mem_of_getElem? (i := 1076) (by decide +kernel)⟩
theorem lw_p67 : lw_okq (⟨"WordSquaresModel", "isState", "(I)Z"⟩, 31) := ⟨⟨by decide +kernel, by decide +kernel⟩, List.mem_of_getElem? (i := 703) (by decide +kernel), List.mem_of_getElem? (i := 1079) (by decide +kernel), List.mem_of_getElem? (i := 1080) (by decide +kernel)⟩
theorem lw_p68 : lw_okq (⟨"WordSquaresModel", "beginOfColumn", "(II)I"⟩, 31) := ⟨⟨by decide +kernel, by decide +kernel⟩, List.mem_of_getElem? (i := 703) (by decide +kernel), List.mem_of_getElem? (i := 1083) (by decide +kernel), List.mem_of_getElem? (i := 1084) (by decide +kernel)⟩
theorem lw_p69 : lw_okq (⟨"WordSquaresModel", "keyOf", "(I)I"⟩, 31) := ⟨⟨by decide +kernel, by decide +kernel⟩, List.mem_of_getElem? (i := 703) (by decide +kernel), List.mem_of_getElem? (i := 1087) (by decide +kernel), List.mem_of_getElem? (i := 1088) (by decide +kernel)⟩
theorem lw_p70 : lw_okq (⟨"WordSquaresModel", "likeOf", "(II)I"⟩, 31) := ⟨⟨by decide +kernel, by decide +kernel⟩, List.mem_of_getElem? (i := 703) (by decide +kernel), List.mem_of_getElem? (i := 1091) (by decide +kernel), List.mem_of_getElem? (i := 1092) (by decide +kernel)⟩
theorem lw_p71 : lw_okq (⟨"WordSquaresModel", "hasAllRests", "(III)Z"⟩, 31) := ⟨⟨by decide +kernel, by decide +kernel⟩, List.mem_of_getElem? (i := 703) (by decide +kernel), List.mem_of_getElem? (i := 1095) (by decide +kernel), List.mem_of_getElem? (i := 1096) (by decide +kernel)⟩
theorem lw_p72 : lw_okq (⟨"WordSquaresModel", "hasRest", "(III)Z"⟩, 31) := ⟨⟨by decide +kernel, by decide +kernel⟩, List.mem_of_getElem? (i := 703) (by decide +kernel), List.mem_of_getElem? (i := 1099) (by decide +kernel), List.mem_of_getElem? (i := 1100) (by decide +kernel)⟩
theorem lw_p73 : lw_okq (⟨"WordSquaresModel", "isKept", "(I)Z"⟩, 31) := ⟨⟨by decide +kernel, by decide +kernel⟩, List.mem_of_getElem? (i := 703) (by decide +kernel), List.mem_of_getElem? (i := 1103) (by decide +kernel), List.mem_of_getElem? (i := 1104) (by decide +kernel)⟩
theorem lw_p74 : lw_okq (⟨"WordSquaresModel", "visit", "(IZ)I"⟩, 31) := ⟨⟨by decide +kernel, by decide +kernel⟩, List.mem_of_getElem? (i := 703) (by decide +kernel), List.mem_of_getElem? (i := 1107) (by decide +kernel), List.mem_of_getElem? (i := 1108) (by decide +kernel)⟩
theorem lw_p75 : lw_okq (⟨"WordSquaresModel", "howMany", "(I)I"⟩, 31) := ⟨⟨by decide +kernel, by decide +kernel⟩, List.mem_of_getElem? (i := 703) (by decide +kernel), List.mem_of_getElem? (i := 1115) (by decide +kernel), List.mem_of_getElem? (i := 1116) (by decide +kernel)⟩
theorem lw_p76 : lw_okq (⟨"WordSquaresModel", "laidMany", "()I"⟩, 31) := ⟨⟨by decide +kernel, by decide +kernel⟩, List.mem_of_getElem? (i := 703) (by decide +kernel), List.mem_of_getElem? (i := 1119) (by decide +kernel), List.mem_of_getElem? (i := 1120) (by decide +kernel)⟩
theorem lw_p77 : lw_okq (⟨"WordSquaresModel", "mixWords", "()V"⟩, 31) := ⟨⟨by decide +kernel, by decide +kernel⟩, List.mem_of_getElem? (i := 703) (by decide +kernel), List.mem_of_getElem? (i := 1128) (by decide +kernel), List.mem_of_getElem? (i := 1129) (by decide +kernel)⟩
theorem lw_p78 : lw_okq (⟨"WordSquaresModel", "mix", "(J)V"⟩, 31) := ⟨⟨by decide +kernel, by decide +kernel⟩, List.mem_of_getElem? (i := 703) (by decide +kernel), List.mem_of_getElem? (i := 1132) (by decide +kernel), List.mem_of_getElem? (i := 1133) (by decide +kernel)⟩
theorem lw_p79 : lw_okq (⟨"WordSquaresModel", "mixSquares", "()V"⟩, 31) := ⟨⟨by decide +kernel, by decide +kernel⟩, List.mem_of_getElem? (i := 703) (by decide +kernel), List.mem_of_getElem? (i := 1137) (by decide +kernel), List.mem_of_getElem? (i := 1138) (by decide +kernel)⟩
def lw_privs_5 : List (MethodName × Nat) := [(⟨"WordSquaresModel", "searchNow", "(I)I"⟩, 31), (⟨"WordSquaresModel", "goes", "(Z)V"⟩, 31), (⟨"WordSquaresModel", "leave", "(IZ)V"⟩, 31), (⟨"WordSquaresModel", "isState", "(I)Z"⟩, 31), (⟨"WordSquaresModel", "beginOfColumn", "(II)I"⟩, 31), (⟨"WordSquaresModel", "keyOf", "(I)I"⟩, 31), (⟨"WordSquaresModel", "likeOf", "(II)I"⟩, 31), (⟨"WordSquaresModel", "hasAllRests", "(III)Z"⟩, 31), (⟨"WordSquaresModel", "hasRest", "(III)Z"⟩, 31), (⟨"WordSquaresModel", "isKept", "(I)Z"⟩, 31), (⟨"WordSquaresModel", "visit", "(IZ)I"⟩, 31), (⟨"WordSquaresModel", "howMany", "(I)I"⟩, 31), (⟨"WordSquaresModel", "laidMany", "()I"⟩, 31), (⟨"WordSquaresModel", "mixWords", "()V"⟩, 31), (⟨"WordSquaresModel", "mix", "(J)V"⟩, 31), (⟨"WordSquaresModel", "mixSquares", "()V"⟩, 31)]
theorem lw_r5 : ∀ q ∈ lw_privs_5, lw_okq q := List.forall_mem_cons.mpr ⟨lw_p64, List.forall_mem_cons.mpr ⟨lw_p65, List.forall_mem_cons.mpr ⟨lw_p66, List.forall_mem_cons.mpr ⟨lw_p67, List.forall_mem_cons.mpr ⟨lw_p68, List.forall_mem_cons.mpr ⟨lw_p69, List.forall_mem_cons.mpr ⟨lw_p70, List.forall_mem_cons.mpr ⟨lw_p71, List.forall_mem_cons.mpr ⟨lw_p72, List.forall_mem_cons.mpr ⟨lw_p73, List.forall_mem_cons.mpr ⟨lw_p74, List.forall_mem_cons.mpr ⟨lw_p75, List.forall_mem_cons.mpr ⟨lw_p76, List.forall_mem_cons.mpr ⟨lw_p77, List.forall_mem_cons.mpr ⟨lw_p78, List.forall_mem_cons.mpr ⟨lw_p79, fun _ h => absurd h List.not_mem_nil⟩⟩⟩⟩⟩⟩⟩⟩⟩⟩⟩⟩⟩⟩⟩⟩
theorem lw_p80 : lw_okq (⟨"WordSquaresModel", "mixBoard", "()V"⟩, 31) := ⟨⟨by decide +kernel, by decide +kernel⟩, List.mem_of_getElem? (i := 703) (by decide +kernel), List.mem_of_getElem? (i := 1141) (by decide +kernel), List.mem_of_getElem? (i := 1142) (by decide +kernel)⟩
def lw_privs_6 : List (MethodName × Nat) := [(⟨"WordSquaresModel", "mixBoard", "()V"⟩, 31)]
theorem lw_r6 : ∀ q ∈ lw_privs_6, lw_okq q := List.forall_mem_cons.mpr ⟨lw_p80, fun _ h => absurd h List.not_mem_nil⟩
def lw_privs : List (MethodName × Nat) := lw_privs_1 ++ (lw_privs_2 ++ (lw_privs_3 ++ (lw_privs_4 ++ (lw_privs_5 ++ (lw_privs_6)))))
def lw_tbl : List Cond := k2_sels lw_privs ++ tables_1
theorem lw_privs_ok : ∀ q ∈ lw_privs, lw_okq q := by
  show ∀ q ∈ lw_privs_1 ++ (lw_privs_2 ++ (lw_privs_3 ++ (lw_privs_4 ++ (lw_privs_5 ++ (lw_privs_6))))), lw_okq q
  exact List.forall_mem_append.mpr ⟨lw_r1, List.forall_mem_append.mpr ⟨lw_r2, List.forall_mem_append.mpr ⟨lw_r3, List.forall_mem_append.mpr ⟨lw_r4, List.forall_mem_append.mpr ⟨lw_r5, lw_r6⟩⟩⟩⟩⟩
-- ===== end of PART A; then your names; then what follows =====
def RX0 : String := "WordSquares$Board"
def TX0 : u_T := fun k => match k with
  | 0 => ("WordSquares$Board", "placed", "[I", true)
  | 1 => ("WordSquares$Board", "sets", "[I", true)
  | _ => ("WordSquares$Board", "fits", "I", false)
def tyX0 : Nat → FieldType := fun k => match k with
  | 0 => .array .int
  | 1 => .array .int
  | _ => .int
abbrev wsX00 : List Cond := u_ws RX0 TX0 3
theorem nmX0 : ∀ a, a < 3 → ∀ b, b < 3 → a ≠ b → (TX0 a).2.1 ≠ (TX0 b).2.1 := by decide +kernel
theorem tyX0_ok : ∀ k, k < 3 → parseFieldDescriptor (TX0 k).2.2.1 = some (tyX0 k) := by decide +kernel
abbrev cX0_init : ByteArray := prog_2_method_1_code
def yX0_init : MethodName := ⟨RX0, "<init>", "()V"⟩
abbrev cX0_clear : ByteArray := prog_2_method_2_code
def yX0_clear : MethodName := ⟨RX0, "clear", "()V"⟩
abbrev cX0_given : ByteArray := prog_2_method_3_code
def yX0_given : MethodName := ⟨RX0, "given", "(I)I"⟩
abbrev cX0_give : ByteArray := prog_2_method_4_code
def yX0_give : MethodName := ⟨RX0, "give", "(II)V"⟩
abbrev cX0_numberOfGiven : ByteArray := prog_2_method_5_code
def yX0_numberOfGiven : MethodName := ⟨RX0, "numberOfGiven", "()I"⟩
abbrev cX0_numberOfFitting : ByteArray := prog_2_method_6_code
def yX0_numberOfFitting : MethodName := ⟨RX0, "numberOfFitting", "()I"⟩
abbrev cX0_possible : ByteArray := prog_2_method_7_code
def yX0_possible : MethodName := ⟨RX0, "possible", "(I)I"⟩
abbrev cX0_look : ByteArray := prog_2_method_8_code
def yX0_look : MethodName := ⟨RX0, "look", "(LWordSquares$SquareList;I)V"⟩
abbrev cX0_addRows : ByteArray := prog_2_method_9_code
def yX0_addRows : MethodName := ⟨RX0, "addRows", "(II)V"⟩
def RX1 : String := "WordSquares$DeadEnds"
def TX1 : u_T := fun k => match k with
  | 0 => ("WordSquares$DeadEnds", "seen", "[J", true)
  | _ => ("WordSquares$DeadEnds", "size", "I", false)
def tyX1 : Nat → FieldType := fun k => match k with
  | 0 => .array .long
  | _ => .int
abbrev wsX10 : List Cond := u_ws RX1 TX1 2
theorem nmX1 : ∀ a, a < 2 → ∀ b, b < 2 → a ≠ b → (TX1 a).2.1 ≠ (TX1 b).2.1 := by decide +kernel
theorem tyX1_ok : ∀ k, k < 2 → parseFieldDescriptor (TX1 k).2.2.1 = some (tyX1 k) := by decide +kernel
abbrev cX1_init : ByteArray := prog_3_method_1_code
def yX1_init : MethodName := ⟨RX1, "<init>", "()V"⟩
abbrev cX1_size : ByteArray := prog_3_method_2_code
def yX1_size : MethodName := ⟨RX1, "size", "()I"⟩
abbrev cX1_clear : ByteArray := prog_3_method_3_code
def yX1_clear : MethodName := ⟨RX1, "clear", "()V"⟩
abbrev cX1_has : ByteArray := prog_3_method_4_code
def yX1_has : MethodName := ⟨RX1, "has", "(I)Z"⟩
abbrev cX1_add : ByteArray := prog_3_method_5_code
def yX1_add : MethodName := ⟨RX1, "add", "(I)V"⟩
def RX2 : String := "WordSquares$Finder"
def TX2 : u_T := fun k => match k with
  | 0 => ("WordSquares$Finder", "list", "LWordSquares$WordList;", true)
  | 1 => ("WordSquares$Finder", "prefixes", "LWordSquares$Prefixes;", true)
  | 2 => ("WordSquares$Finder", "deadEnds", "LWordSquares$DeadEnds;", true)
  | 3 => ("WordSquares$Finder", "all", "LWordSquares$SquareList;", true)
  | 4 => ("WordSquares$Finder", "symmetric", "LWordSquares$SquareList;", true)
  | 5 => ("WordSquares$Finder", "different", "LWordSquares$SquareList;", true)
  | 6 => ("WordSquares$Finder", "inRows", "[I", true)
  | 7 => ("WordSquares$Finder", "inColumns", "[I", true)
  | 8 => ("WordSquares$Finder", "inSymmetric", "[I", true)
  | 9 => ("WordSquares$Finder", "visits", "I", false)
  | 10 => ("WordSquares$Finder", "dead", "I", false)
  | 11 => ("WordSquares$Finder", "visitsWithMemory", "I", false)
  | _ => ("WordSquares$Finder", "cuts", "I", false)
def tyX2 : Nat → FieldType := fun k => match k with
  | 0 => .object "WordSquares$WordList"
  | 1 => .object "WordSquares$Prefixes"
  | 2 => .object "WordSquares$DeadEnds"
  | 3 => .object "WordSquares$SquareList"
  | 4 => .object "WordSquares$SquareList"
  | 5 => .object "WordSquares$SquareList"
  | 6 => .array .int
  | 7 => .array .int
  | 8 => .array .int
  | 9 => .int
  | 10 => .int
  | 11 => .int
  | _ => .int
abbrev wsX20 : List Cond := u_ws RX2 TX2 13
theorem nmX2 : ∀ a, a < 13 → ∀ b, b < 13 → a ≠ b → (TX2 a).2.1 ≠ (TX2 b).2.1 := by decide +kernel
theorem tyX2_ok : ∀ k, k < 13 → parseFieldDescriptor (TX2 k).2.2.1 = some (tyX2 k) := by decide +kernel
abbrev cX2_init : ByteArray := prog_4_method_1_code
def yX2_init : MethodName := ⟨RX2, "<init>", "(LWordSquares$WordList;)V"⟩
abbrev cX2_ofKind : ByteArray := prog_4_method_2_code
def yX2_ofKind : MethodName := ⟨RX2, "ofKind", "(I)LWordSquares$SquareList;"⟩
abbrev cX2_timesInRows : ByteArray := prog_4_method_3_code
def yX2_timesInRows : MethodName := ⟨RX2, "timesInRows", "(I)I"⟩
abbrev cX2_timesInColumns : ByteArray := prog_4_method_4_code
def yX2_timesInColumns : MethodName := ⟨RX2, "timesInColumns", "(I)I"⟩
abbrev cX2_timesInSymmetric : ByteArray := prog_4_method_5_code
def yX2_timesInSymmetric : MethodName := ⟨RX2, "timesInSymmetric", "(I)I"⟩
abbrev cX2_plainVisits : ByteArray := prog_4_method_6_code
def yX2_plainVisits : MethodName := ⟨RX2, "plainVisits", "()I"⟩
abbrev cX2_plainDead : ByteArray := prog_4_method_7_code
def yX2_plainDead : MethodName := ⟨RX2, "plainDead", "()I"⟩
abbrev cX2_memoryVisits : ByteArray := prog_4_method_8_code
def yX2_memoryVisits : MethodName := ⟨RX2, "memoryVisits", "()I"⟩
abbrev cX2_memoryCuts : ByteArray := prog_4_method_9_code
def yX2_memoryCuts : MethodName := ⟨RX2, "memoryCuts", "()I"⟩
abbrev cX2_memorySize : ByteArray := prog_4_method_10_code
def yX2_memorySize : MethodName := ⟨RX2, "memorySize", "()I"⟩
abbrev cX2_run : ByteArray := prog_4_method_11_code
def yX2_run : MethodName := ⟨RX2, "run", "()V"⟩
abbrev cX2_clear : ByteArray := prog_4_method_12_code
def yX2_clear : MethodName := ⟨RX2, "clear", "()V"⟩
abbrev cX2_explore : ByteArray := prog_4_method_13_code
def yX2_explore : MethodName := ⟨RX2, "explore", "(III)Z"⟩
abbrev cX2_exploreWithMemory : ByteArray := prog_4_method_14_code
def yX2_exploreWithMemory : MethodName := ⟨RX2, "exploreWithMemory", "(II)Z"⟩
abbrev cX2_keep : ByteArray := prog_4_method_15_code
def yX2_keep : MethodName := ⟨RX2, "keep", "(II)V"⟩
abbrev cX2_countSymmetric : ByteArray := prog_4_method_16_code
def yX2_countSymmetric : MethodName := ⟨RX2, "countSymmetric", "(I)V"⟩
def RX3 : String := "WordSquares$Prefixes"
def TX3 : u_T := fun k => match k with
  | 0 => ("WordSquares$Prefixes", "list", "LWordSquares$WordList;", true)
  | 1 => ("WordSquares$Prefixes", "longer", "[[I", true)
  | 2 => ("WordSquares$Prefixes", "takers", "[[I", true)
  | _ => ("WordSquares$Prefixes", "likes", "[[I", true)
def tyX3 : Nat → FieldType := fun k => match k with
  | 0 => .object "WordSquares$WordList"
  | 1 => .array (.array .int)
  | 2 => .array (.array .int)
  | _ => .array (.array .int)
abbrev wsX30 : List Cond := u_ws RX3 TX3 4
theorem nmX3 : ∀ a, a < 4 → ∀ b, b < 4 → a ≠ b → (TX3 a).2.1 ≠ (TX3 b).2.1 := by decide +kernel
theorem tyX3_ok : ∀ k, k < 4 → parseFieldDescriptor (TX3 k).2.2.1 = some (tyX3 k) := by decide +kernel
abbrev cX3_init : ByteArray := prog_5_method_1_code
def yX3_init : MethodName := ⟨RX3, "<init>", "(LWordSquares$WordList;)V"⟩
abbrev cX3_build : ByteArray := prog_5_method_2_code
def yX3_build : MethodName := ⟨RX3, "build", "()V"⟩
abbrev cX3_isHead : ByteArray := prog_5_method_3_code
def yX3_isHead : MethodName := ⟨RX3, "isHead", "(II)Z"⟩
abbrev cX3_buildLonger : ByteArray := prog_5_method_4_code
def yX3_buildLonger : MethodName := ⟨RX3, "buildLonger", "(I)V"⟩
abbrev cX3_buildTakers : ByteArray := prog_5_method_5_code
def yX3_buildTakers : MethodName := ⟨RX3, "buildTakers", "(II)V"⟩
abbrev cX3_firstAlike : ByteArray := prog_5_method_6_code
def yX3_firstAlike : MethodName := ⟨RX3, "firstAlike", "(II)I"⟩
abbrev cX3_sameRests : ByteArray := prog_5_method_7_code
def yX3_sameRests : MethodName := ⟨RX3, "sameRests", "(III)Z"⟩
abbrev cX3_placeOf : ByteArray := prog_5_method_8_code
def yX3_placeOf : MethodName := ⟨RX3, "placeOf", "(II)I"⟩
abbrev cX3_nextRows : ByteArray := prog_5_method_9_code
def yX3_nextRows : MethodName := ⟨RX3, "nextRows", "(II)I"⟩
abbrev cX3_headsWith : ByteArray := prog_5_method_10_code
def yX3_headsWith : MethodName := ⟨RX3, "headsWith", "(III)I"⟩
abbrev cX3_likeness : ByteArray := prog_5_method_11_code
def yX3_likeness : MethodName := ⟨RX3, "likeness", "(II)I"⟩
def RX4 : String := "WordSquares$SquareList"
def TX4 : u_T := fun k => match k with
  | 0 => ("WordSquares$SquareList", "items", "[I", false)
  | _ => ("WordSquares$SquareList", "size", "I", false)
def tyX4 : Nat → FieldType := fun k => match k with
  | 0 => .array .int
  | _ => .int
abbrev wsX40 : List Cond := u_ws RX4 TX4 2
theorem nmX4 : ∀ a, a < 2 → ∀ b, b < 2 → a ≠ b → (TX4 a).2.1 ≠ (TX4 b).2.1 := by decide +kernel
theorem tyX4_ok : ∀ k, k < 2 → parseFieldDescriptor (TX4 k).2.2.1 = some (tyX4 k) := by decide +kernel
abbrev cX4_init : ByteArray := prog_6_method_1_code
def yX4_init : MethodName := ⟨RX4, "<init>", "()V"⟩
abbrev cX4_size : ByteArray := prog_6_method_2_code
def yX4_size : MethodName := ⟨RX4, "size", "()I"⟩
abbrev cX4_clear : ByteArray := prog_6_method_3_code
def yX4_clear : MethodName := ⟨RX4, "clear", "()V"⟩
abbrev cX4_append : ByteArray := prog_6_method_4_code
def yX4_append : MethodName := ⟨RX4, "append", "(II)V"⟩
abbrev cX4_has : ByteArray := prog_6_method_5_code
def yX4_has : MethodName := ⟨RX4, "has", "(I)Z"⟩
abbrev cX4_rowsOf : ByteArray := prog_6_method_6_code
def yX4_rowsOf : MethodName := ⟨RX4, "rowsOf", "(I)I"⟩
abbrev cX4_columnsOf : ByteArray := prog_6_method_7_code
def yX4_columnsOf : MethodName := ⟨RX4, "columnsOf", "(I)I"⟩
abbrev cX4_withRows : ByteArray := prog_6_method_8_code
def yX4_withRows : MethodName := ⟨RX4, "withRows", "(I)I"⟩
def RX5 : String := "WordSquares$Text"
def TX5 : u_T := fun k => match k with
  | 0 => ("WordSquares$Text", "signs", "[I", true)
  | _ => ("WordSquares$Text", "size", "I", false)
def tyX5 : Nat → FieldType := fun k => match k with
  | 0 => .array .int
  | _ => .int
abbrev wsX50 : List Cond := u_ws RX5 TX5 2
theorem nmX5 : ∀ a, a < 2 → ∀ b, b < 2 → a ≠ b → (TX5 a).2.1 ≠ (TX5 b).2.1 := by decide +kernel
theorem tyX5_ok : ∀ k, k < 2 → parseFieldDescriptor (TX5 k).2.2.1 = some (tyX5 k) := by decide +kernel
abbrev cX5_init : ByteArray := prog_7_method_1_code
def yX5_init : MethodName := ⟨RX5, "<init>", "()V"⟩
abbrev cX5_size : ByteArray := prog_7_method_2_code
def yX5_size : MethodName := ⟨RX5, "size", "()I"⟩
abbrev cX5_append : ByteArray := prog_7_method_3_code
def yX5_append : MethodName := ⟨RX5, "append", "(I)V"⟩
abbrev cX5_clear : ByteArray := prog_7_method_4_code
def yX5_clear : MethodName := ⟨RX5, "clear", "()V"⟩
abbrev cX5_codeAt : ByteArray := prog_7_method_5_code
def yX5_codeAt : MethodName := ⟨RX5, "codeAt", "(I)I"⟩
abbrev cX5_firstFault : ByteArray := prog_7_method_6_code
def yX5_firstFault : MethodName := ⟨RX5, "firstFault", "()I"⟩
abbrev cX5_isLetter : ByteArray := prog_7_method_7_code
def yX5_isLetter : MethodName := ⟨RX5, "isLetter", "(I)Z"⟩
abbrev cX5_repeats : ByteArray := prog_7_method_8_code
def yX5_repeats : MethodName := ⟨RX5, "repeats", "(II)Z"⟩
abbrev cX5_sameWord : ByteArray := prog_7_method_9_code
def yX5_sameWord : MethodName := ⟨RX5, "sameWord", "(III)Z"⟩
abbrev cX5_lengthOfWords : ByteArray := prog_7_method_10_code
def yX5_lengthOfWords : MethodName := ⟨RX5, "lengthOfWords", "()I"⟩
abbrev cX5_firstComma : ByteArray := prog_7_method_11_code
def yX5_firstComma : MethodName := ⟨RX5, "firstComma", "()I"⟩
abbrev cX5_numberOfWords : ByteArray := prog_7_method_12_code
def yX5_numberOfWords : MethodName := ⟨RX5, "numberOfWords", "(I)I"⟩
abbrev cX5_codeOf : ByteArray := prog_7_method_13_code
def yX5_codeOf : MethodName := ⟨RX5, "codeOf", "(II)I"⟩
def RX6 : String := "WordSquares$WordList"
def TX6 : u_T := fun k => match k with
  | 0 => ("WordSquares$WordList", "codes", "[I", true)
  | 1 => ("WordSquares$WordList", "weights", "[I", true)
  | 2 => ("WordSquares$WordList", "size", "I", false)
  | _ => ("WordSquares$WordList", "length", "I", false)
def tyX6 : Nat → FieldType := fun k => match k with
  | 0 => .array .int
  | 1 => .array .int
  | 2 => .int
  | _ => .int
abbrev wsX60 : List Cond := u_ws RX6 TX6 4
theorem nmX6 : ∀ a, a < 4 → ∀ b, b < 4 → a ≠ b → (TX6 a).2.1 ≠ (TX6 b).2.1 := by decide +kernel
theorem tyX6_ok : ∀ k, k < 4 → parseFieldDescriptor (TX6 k).2.2.1 = some (tyX6 k) := by decide +kernel
abbrev cX6_init : ByteArray := prog_8_method_1_code
def yX6_init : MethodName := ⟨RX6, "<init>", "()V"⟩
abbrev cX6_size : ByteArray := prog_8_method_2_code
def yX6_size : MethodName := ⟨RX6, "size", "()I"⟩
abbrev cX6_length : ByteArray := prog_8_method_3_code
def yX6_length : MethodName := ⟨RX6, "length", "()I"⟩
abbrev cX6_has : ByteArray := prog_8_method_4_code
def yX6_has : MethodName := ⟨RX6, "has", "(I)Z"⟩
abbrev cX6_hasPlace : ByteArray := prog_8_method_5_code
def yX6_hasPlace : MethodName := ⟨RX6, "hasPlace", "(I)Z"⟩
abbrev cX6_takesLength : ByteArray := prog_8_method_6_code
def yX6_takesLength : MethodName := ⟨RX6, "takesLength", "(I)Z"⟩
abbrev cX6_find : ByteArray := prog_8_method_7_code
def yX6_find : MethodName := ⟨RX6, "find", "(I)I"⟩
abbrev cX6_insert : ByteArray := prog_8_method_8_code
def yX6_insert : MethodName := ⟨RX6, "insert", "(II)V"⟩
abbrev cX6_delete : ByteArray := prog_8_method_9_code
def yX6_delete : MethodName := ⟨RX6, "delete", "(I)V"⟩
abbrev cX6_weightOf : ByteArray := prog_8_method_10_code
def yX6_weightOf : MethodName := ⟨RX6, "weightOf", "(I)I"⟩
abbrev cX6_setWeight : ByteArray := prog_8_method_11_code
def yX6_setWeight : MethodName := ⟨RX6, "setWeight", "(II)V"⟩
abbrev cX6_letterAt : ByteArray := prog_8_method_12_code
def yX6_letterAt : MethodName := ⟨RX6, "letterAt", "(II)I"⟩
abbrev cX6_prefixOf : ByteArray := prog_8_method_13_code
def yX6_prefixOf : MethodName := ⟨RX6, "prefixOf", "(II)I"⟩
abbrev cX6_restOf : ByteArray := prog_8_method_14_code
def yX6_restOf : MethodName := ⟨RX6, "restOf", "(II)I"⟩
abbrev cX6_samePrefix : ByteArray := prog_8_method_15_code
def yX6_samePrefix : MethodName := ⟨RX6, "samePrefix", "(III)Z"⟩
abbrev cX6_reversalOf : ByteArray := prog_8_method_16_code
def yX6_reversalOf : MethodName := ⟨RX6, "reversalOf", "(I)I"⟩
abbrev cX6_numberWithPrefix : ByteArray := prog_8_method_17_code
def yX6_numberWithPrefix : MethodName := ⟨RX6, "numberWithPrefix", "(II)I"⟩
abbrev cX6_numberOfPrefixes : ByteArray := prog_8_method_18_code
def yX6_numberOfPrefixes : MethodName := ⟨RX6, "numberOfPrefixes", "()I"⟩
abbrev cX6_numberOfLetters : ByteArray := prog_8_method_19_code
def yX6_numberOfLetters : MethodName := ⟨RX6, "numberOfLetters", "()I"⟩
abbrev cX6_sumOfWeights : ByteArray := prog_8_method_20_code
def yX6_sumOfWeights : MethodName := ⟨RX6, "sumOfWeights", "()I"⟩
abbrev cX6_numberOfReversible : ByteArray := prog_8_method_21_code
def yX6_numberOfReversible : MethodName := ⟨RX6, "numberOfReversible", "()I"⟩
abbrev cX6_commonLetter : ByteArray := prog_8_method_22_code
def yX6_commonLetter : MethodName := ⟨RX6, "commonLetter", "(II)I"⟩
def RX7 : String := "WordSquares"
def TX7 : u_T := fun k => match k with
  | 0 => ("WordSquares", "text", "LWordSquares$Text;", true)
  | 1 => ("WordSquares", "list", "LWordSquares$WordList;", true)
  | 2 => ("WordSquares", "finder", "LWordSquares$Finder;", true)
  | 3 => ("WordSquares", "table", "LWordSquares$Board;", true)
  | 4 => ("WordSquares", "best", "[I", true)
  | 5 => ("WordSquares", "compared", "Z", false)
  | 6 => ("WordSquares", "looked", "Z", false)
  | 7 => ("WordSquares", "additions", "I", false)
  | _ => ("WordSquares", "removals", "I", false)
def tyX7 : Nat → FieldType := fun k => match k with
  | 0 => .object "WordSquares$Text"
  | 1 => .object "WordSquares$WordList"
  | 2 => .object "WordSquares$Finder"
  | 3 => .object "WordSquares$Board"
  | 4 => .array .int
  | 5 => .boolean
  | 6 => .boolean
  | 7 => .int
  | _ => .int
abbrev wsX70 : List Cond := u_ws RX7 TX7 9
theorem nmX7 : ∀ a, a < 9 → ∀ b, b < 9 → a ≠ b → (TX7 a).2.1 ≠ (TX7 b).2.1 := by decide +kernel
theorem tyX7_ok : ∀ k, k < 9 → parseFieldDescriptor (TX7 k).2.2.1 = some (tyX7 k) := by decide +kernel
abbrev cX7_init : ByteArray := prog_1_method_1_code
def yX7_init : MethodName := ⟨RX7, "<init>", "()V"⟩
abbrev cX7_letter : ByteArray := prog_1_method_2_code
def yX7_letter : MethodName := ⟨RX7, "letter", "(I)I"⟩
abbrev cX7_blank : ByteArray := prog_1_method_3_code
def yX7_blank : MethodName := ⟨RX7, "blank", "()I"⟩
abbrev cX7_fault : ByteArray := prog_1_method_4_code
def yX7_fault : MethodName := ⟨RX7, "fault", "()I"⟩
abbrev cX7_words : ByteArray := prog_1_method_5_code
def yX7_words : MethodName := ⟨RX7, "words", "()I"⟩
abbrev cX7_strike : ByteArray := prog_1_method_6_code
def yX7_strike : MethodName := ⟨RX7, "strike", "(I)I"⟩
abbrev cX7_weigh : ByteArray := prog_1_method_7_code
def yX7_weigh : MethodName := ⟨RX7, "weigh", "(II)I"⟩
abbrev cX7_about : ByteArray := prog_1_method_8_code
def yX7_about : MethodName := ⟨RX7, "about", "(I)I"⟩
abbrev cX7_word : ByteArray := prog_1_method_9_code
def yX7_word : MethodName := ⟨RX7, "word", "(II)I"⟩
abbrev cX7_sign : ByteArray := prog_1_method_10_code
def yX7_sign : MethodName := ⟨RX7, "sign", "(II)I"⟩
abbrev cX7_begins : ByteArray := prog_1_method_11_code
def yX7_begins : MethodName := ⟨RX7, "begins", "(II)I"⟩
abbrev cX7_squares : ByteArray := prog_1_method_12_code
def yX7_squares : MethodName := ⟨RX7, "squares", "(I)I"⟩
abbrev cX7_row : ByteArray := prog_1_method_13_code
def yX7_row : MethodName := ⟨RX7, "row", "(III)I"⟩
abbrev cX7_turned : ByteArray := prog_1_method_14_code
def yX7_turned : MethodName := ⟨RX7, "turned", "(I)I"⟩
abbrev cX7_heaviest : ByteArray := prog_1_method_15_code
def yX7_heaviest : MethodName := ⟨RX7, "heaviest", "(I)I"⟩
abbrev cX7_heavy : ByteArray := prog_1_method_16_code
def yX7_heavy : MethodName := ⟨RX7, "heavy", "(I)I"⟩
abbrev cX7_put : ByteArray := prog_1_method_17_code
def yX7_put : MethodName := ⟨RX7, "put", "(II)I"⟩
abbrev cX7_lift : ByteArray := prog_1_method_18_code
def yX7_lift : MethodName := ⟨RX7, "lift", "(I)I"⟩
abbrev cX7_board : ByteArray := prog_1_method_19_code
def yX7_board : MethodName := ⟨RX7, "board", "(I)I"⟩
abbrev cX7_fitting : ByteArray := prog_1_method_20_code
def yX7_fitting : MethodName := ⟨RX7, "fitting", "()I"⟩
abbrev cX7_may : ByteArray := prog_1_method_21_code
def yX7_may : MethodName := ⟨RX7, "may", "(I)I"⟩
abbrev cX7_sure : ByteArray := prog_1_method_22_code
def yX7_sure : MethodName := ⟨RX7, "sure", "(II)I"⟩
abbrev cX7_search : ByteArray := prog_1_method_23_code
def yX7_search : MethodName := ⟨RX7, "search", "(I)I"⟩
abbrev cX7_count : ByteArray := prog_1_method_24_code
def yX7_count : MethodName := ⟨RX7, "count", "(I)I"⟩
abbrev cX7_digest : ByteArray := prog_1_method_25_code
def yX7_digest : MethodName := ⟨RX7, "digest", "()J"⟩
abbrev cX7_mixWords : ByteArray := prog_1_method_26_code
def yX7_mixWords : MethodName := ⟨RX7, "mixWords", "(J)J"⟩
abbrev cX7_mixSquares : ByteArray := prog_1_method_27_code
def yX7_mixSquares : MethodName := ⟨RX7, "mixSquares", "(J)J"⟩
abbrev cX7_mixBoard : ByteArray := prog_1_method_28_code
def yX7_mixBoard : MethodName := ⟨RX7, "mixBoard", "(J)J"⟩
abbrev cX7_mix : ByteArray := prog_1_method_29_code
def yX7_mix : MethodName := ⟨RX7, "mix", "(JI)J"⟩
abbrev cX7_isKind : ByteArray := prog_1_method_30_code
def yX7_isKind : MethodName := ⟨RX7, "isKind", "(I)Z"⟩
abbrev cX7_packedWord : ByteArray := prog_1_method_31_code
def yX7_packedWord : MethodName := ⟨RX7, "packedWord", "(III)I"⟩
abbrev cX7_renew : ByteArray := prog_1_method_32_code
def yX7_renew : MethodName := ⟨RX7, "renew", "()V"⟩
abbrev cX7_lookedBoard : ByteArray := prog_1_method_33_code
def yX7_lookedBoard : MethodName := ⟨RX7, "lookedBoard", "()LWordSquares$Board;"⟩
abbrev cX7_greatestOf : ByteArray := prog_1_method_34_code
def yX7_greatestOf : MethodName := ⟨RX7, "greatestOf", "(LWordSquares$SquareList;)I"⟩
abbrev cX7_weightOfSquare : ByteArray := prog_1_method_35_code
def yX7_weightOfSquare : MethodName := ⟨RX7, "weightOfSquare", "(LWordSquares$SquareList;I)I"⟩
def RX8 : String := "WordSquaresModel"
def TX8 : u_T := fun k => match k with
  | 0 => ("WordSquaresModel", "length", "I", false)
  | 1 => ("WordSquaresModel", "words", "I", false)
  | 2 => ("WordSquaresModel", "letters", "[I", true)
  | 3 => ("WordSquaresModel", "weights", "[I", true)
  | 4 => ("WordSquaresModel", "laid", "[I", true)
  | 5 => ("WordSquaresModel", "reads", "I", false)
  | 6 => ("WordSquaresModel", "struck", "I", false)
  | 7 => ("WordSquaresModel", "pageLength", "I", false)
  | 8 => ("WordSquaresModel", "page", "[I", true)
  | 9 => ("WordSquaresModel", "newWords", "I", false)
  | 10 => ("WordSquaresModel", "newAt", "I", false)
  | 11 => ("WordSquaresModel", "newLength", "I", false)
  | 12 => ("WordSquaresModel", "newLetters", "[I", true)
  | 13 => ("WordSquaresModel", "rowWord", "[I", true)
  | 14 => ("WordSquaresModel", "columnWord", "[I", true)
  | 15 => ("WordSquaresModel", "sought", "[I", true)
  | 16 => ("WordSquaresModel", "inRows", "[I", true)
  | 17 => ("WordSquaresModel", "inColumns", "[I", true)
  | 18 => ("WordSquaresModel", "inSame", "[I", true)
  | 19 => ("WordSquaresModel", "fitting", "I", false)
  | 20 => ("WordSquaresModel", "mayBe", "[I", true)
  | 21 => ("WordSquaresModel", "sureOf", "[I", true)
  | 22 => ("WordSquaresModel", "tried", "[I", true)
  | 23 => ("WordSquaresModel", "isLed", "[Z", true)
  | 24 => ("WordSquaresModel", "columnBy", "[I", true)
  | 25 => ("WordSquaresModel", "visited", "I", false)
  | 26 => ("WordSquaresModel", "dead", "I", false)
  | 27 => ("WordSquaresModel", "cuts", "I", false)
  | 28 => ("WordSquaresModel", "keptMany", "I", false)
  | 29 => ("WordSquaresModel", "kept", "[I", true)
  | _ => ("WordSquaresModel", "h", "J", false)
def tyX8 : Nat → FieldType := fun k => match k with
  | 0 => .int
  | 1 => .int
  | 2 => .array .int
  | 3 => .array .int
  | 4 => .array .int
  | 5 => .int
  | 6 => .int
  | 7 => .int
  | 8 => .array .int
  | 9 => .int
  | 10 => .int
  | 11 => .int
  | 12 => .array .int
  | 13 => .array .int
  | 14 => .array .int
  | 15 => .array .int
  | 16 => .array .int
  | 17 => .array .int
  | 18 => .array .int
  | 19 => .int
  | 20 => .array .int
  | 21 => .array .int
  | 22 => .array .int
  | 23 => .array .boolean
  | 24 => .array .int
  | 25 => .int
  | 26 => .int
  | 27 => .int
  | 28 => .int
  | 29 => .array .int
  | _ => .long
abbrev wsX80 : List Cond := u_ws RX8 TX8 31
theorem nmX8 : ∀ a, a < 31 → ∀ b, b < 31 → a ≠ b → (TX8 a).2.1 ≠ (TX8 b).2.1 := by decide +kernel
theorem tyX8_ok : ∀ k, k < 31 → parseFieldDescriptor (TX8 k).2.2.1 = some (tyX8 k) := by decide +kernel
abbrev cX8_init : ByteArray := prog_10_method_1_code
def yX8_init : MethodName := ⟨RX8, "<init>", "()V"⟩
abbrev cX8_within : ByteArray := prog_10_method_3_code
def yX8_within : MethodName := ⟨RX8, "within", "(III)Z"⟩
abbrev cX8_clearBoard : ByteArray := prog_10_method_4_code
def yX8_clearBoard : MethodName := ⟨RX8, "clearBoard", "()V"⟩
abbrev cX8_letter : ByteArray := prog_10_method_5_code
def yX8_letter : MethodName := ⟨RX8, "letter", "(I)I"⟩
abbrev cX8_blank : ByteArray := prog_10_method_6_code
def yX8_blank : MethodName := ⟨RX8, "blank", "()I"⟩
abbrev cX8_isTwice : ByteArray := prog_10_method_7_code
def yX8_isTwice : MethodName := ⟨RX8, "isTwice", "()Z"⟩
abbrev cX8_takesComma : ByteArray := prog_10_method_8_code
def yX8_takesComma : MethodName := ⟨RX8, "takesComma", "()Z"⟩
abbrev cX8_takes : ByteArray := prog_10_method_9_code
def yX8_takes : MethodName := ⟨RX8, "takes", "(I)Z"⟩
abbrev cX8_read : ByteArray := prog_10_method_10_code
def yX8_read : MethodName := ⟨RX8, "read", "()I"⟩
abbrev cX8_fault : ByteArray := prog_10_method_11_code
def yX8_fault : MethodName := ⟨RX8, "fault", "()I"⟩
abbrev cX8_isThere : ByteArray := prog_10_method_12_code
def yX8_isThere : MethodName := ⟨RX8, "isThere", "(I)Z"⟩
abbrev cX8_isAhead : ByteArray := prog_10_method_13_code
def yX8_isAhead : MethodName := ⟨RX8, "isAhead", "(II)Z"⟩
abbrev cX8_move : ByteArray := prog_10_method_14_code
def yX8_move : MethodName := ⟨RX8, "move", "(II)V"⟩
abbrev cX8_comes : ByteArray := prog_10_method_15_code
def yX8_comes : MethodName := ⟨RX8, "comes", "(I)V"⟩
abbrev cX8_isNew : ByteArray := prog_10_method_16_code
def yX8_isNew : MethodName := ⟨RX8, "isNew", "(I)Z"⟩
abbrev cX8_words : ByteArray := prog_10_method_17_code
def yX8_words : MethodName := ⟨RX8, "words", "()I"⟩
abbrev cX8_isWord : ByteArray := prog_10_method_18_code
def yX8_isWord : MethodName := ⟨RX8, "isWord", "(I)Z"⟩
abbrev cX8_strike : ByteArray := prog_10_method_19_code
def yX8_strike : MethodName := ⟨RX8, "strike", "(I)I"⟩
abbrev cX8_weigh : ByteArray := prog_10_method_20_code
def yX8_weigh : MethodName := ⟨RX8, "weigh", "(II)I"⟩
abbrev cX8_at : ByteArray := prog_10_method_21_code
def yX8_at : MethodName := ⟨RX8, "at", "(II)I"⟩
abbrev cX8_alike : ByteArray := prog_10_method_22_code
def yX8_alike : MethodName := ⟨RX8, "alike", "(II)I"⟩
abbrev cX8_beginnings : ByteArray := prog_10_method_23_code
def yX8_beginnings : MethodName := ⟨RX8, "beginnings", "()I"⟩
abbrev cX8_lettersMany : ByteArray := prog_10_method_24_code
def yX8_lettersMany : MethodName := ⟨RX8, "lettersMany", "()I"⟩
abbrev cX8_weightsAll : ByteArray := prog_10_method_25_code
def yX8_weightsAll : MethodName := ⟨RX8, "weightsAll", "()I"⟩
abbrev cX8_mirrorOf : ByteArray := prog_10_method_26_code
def yX8_mirrorOf : MethodName := ⟨RX8, "mirrorOf", "(I)I"⟩
abbrev cX8_mirrored : ByteArray := prog_10_method_27_code
def yX8_mirrored : MethodName := ⟨RX8, "mirrored", "()I"⟩
abbrev cX8_aboutNow : ByteArray := prog_10_method_28_code
def yX8_aboutNow : MethodName := ⟨RX8, "aboutNow", "(I)I"⟩
abbrev cX8_about : ByteArray := prog_10_method_29_code
def yX8_about : MethodName := ⟨RX8, "about", "(I)I"⟩
abbrev cX8_sign : ByteArray := prog_10_method_30_code
def yX8_sign : MethodName := ⟨RX8, "sign", "(II)I"⟩
abbrev cX8_beginsNow : ByteArray := prog_10_method_31_code
def yX8_beginsNow : MethodName := ⟨RX8, "beginsNow", "(II)I"⟩
abbrev cX8_begins : ByteArray := prog_10_method_32_code
def yX8_begins : MethodName := ⟨RX8, "begins", "(II)I"⟩
abbrev cX8_begin : ByteArray := prog_10_method_33_code
def yX8_begin : MethodName := ⟨RX8, "begin", "()V"⟩
abbrev cX8_next : ByteArray := prog_10_method_34_code
def yX8_next : MethodName := ⟨RX8, "next", "()Z"⟩
abbrev cX8_wordOfColumn : ByteArray := prog_10_method_35_code
def yX8_wordOfColumn : MethodName := ⟨RX8, "wordOfColumn", "(I)I"⟩
abbrev cX8_isSquare : ByteArray := prog_10_method_36_code
def yX8_isSquare : MethodName := ⟨RX8, "isSquare", "()Z"⟩
abbrev cX8_isSame : ByteArray := prog_10_method_37_code
def yX8_isSame : MethodName := ⟨RX8, "isSame", "()Z"⟩
abbrev cX8_isUnlike : ByteArray := prog_10_method_38_code
def yX8_isUnlike : MethodName := ⟨RX8, "isUnlike", "()Z"⟩
abbrev cX8_isOf : ByteArray := prog_10_method_39_code
def yX8_isOf : MethodName := ⟨RX8, "isOf", "(I)Z"⟩
abbrev cX8_squaresNow : ByteArray := prog_10_method_40_code
def yX8_squaresNow : MethodName := ⟨RX8, "squaresNow", "(I)I"⟩
abbrev cX8_squares : ByteArray := prog_10_method_41_code
def yX8_squares : MethodName := ⟨RX8, "squares", "(I)I"⟩
abbrev cX8_lay : ByteArray := prog_10_method_42_code
def yX8_lay : MethodName := ⟨RX8, "lay", "(II)Z"⟩
abbrev cX8_row : ByteArray := prog_10_method_43_code
def yX8_row : MethodName := ⟨RX8, "row", "(III)I"⟩
abbrev cX8_turnedNow : ByteArray := prog_10_method_44_code
def yX8_turnedNow : MethodName := ⟨RX8, "turnedNow", "()I"⟩
abbrev cX8_turned : ByteArray := prog_10_method_45_code
def yX8_turned : MethodName := ⟨RX8, "turned", "(I)I"⟩
abbrev cX8_heavyNow : ByteArray := prog_10_method_46_code
def yX8_heavyNow : MethodName := ⟨RX8, "heavyNow", "()I"⟩
abbrev cX8_heavy : ByteArray := prog_10_method_47_code
def yX8_heavy : MethodName := ⟨RX8, "heavy", "(I)I"⟩
abbrev cX8_heaviestNow : ByteArray := prog_10_method_48_code
def yX8_heaviestNow : MethodName := ⟨RX8, "heaviestNow", "(I)I"⟩
abbrev cX8_heaviest : ByteArray := prog_10_method_49_code
def yX8_heaviest : MethodName := ⟨RX8, "heaviest", "(I)I"⟩
abbrev cX8_countSquare : ByteArray := prog_10_method_50_code
def yX8_countSquare : MethodName := ⟨RX8, "countSquare", "()V"⟩
abbrev cX8_layCounts : ByteArray := prog_10_method_51_code
def yX8_layCounts : MethodName := ⟨RX8, "layCounts", "()V"⟩
abbrev cX8_wordNow : ByteArray := prog_10_method_52_code
def yX8_wordNow : MethodName := ⟨RX8, "wordNow", "(II)I"⟩
abbrev cX8_wordTold : ByteArray := prog_10_method_53_code
def yX8_wordTold : MethodName := ⟨RX8, "wordTold", "(II)I"⟩
abbrev cX8_word : ByteArray := prog_10_method_54_code
def yX8_word : MethodName := ⟨RX8, "word", "(II)I"⟩
abbrev cX8_isRow : ByteArray := prog_10_method_55_code
def yX8_isRow : MethodName := ⟨RX8, "isRow", "(I)Z"⟩
abbrev cX8_put : ByteArray := prog_10_method_56_code
def yX8_put : MethodName := ⟨RX8, "put", "(II)I"⟩
abbrev cX8_lift : ByteArray := prog_10_method_57_code
def yX8_lift : MethodName := ⟨RX8, "lift", "(I)I"⟩
abbrev cX8_board : ByteArray := prog_10_method_58_code
def yX8_board : MethodName := ⟨RX8, "board", "(I)I"⟩
abbrev cX8_isFitting : ByteArray := prog_10_method_59_code
def yX8_isFitting : MethodName := ⟨RX8, "isFitting", "()Z"⟩
abbrev cX8_countFitting : ByteArray := prog_10_method_60_code
def yX8_countFitting : MethodName := ⟨RX8, "countFitting", "()V"⟩
abbrev cX8_layFitting : ByteArray := prog_10_method_61_code
def yX8_layFitting : MethodName := ⟨RX8, "layFitting", "()V"⟩
abbrev cX8_fittingNow : ByteArray := prog_10_method_62_code
def yX8_fittingNow : MethodName := ⟨RX8, "fittingNow", "()I"⟩
abbrev cX8_fitting : ByteArray := prog_10_method_63_code
def yX8_fitting : MethodName := ⟨RX8, "fitting", "()I"⟩
abbrev cX8_mayNow : ByteArray := prog_10_method_64_code
def yX8_mayNow : MethodName := ⟨RX8, "mayNow", "(I)I"⟩
abbrev cX8_may : ByteArray := prog_10_method_65_code
def yX8_may : MethodName := ⟨RX8, "may", "(I)I"⟩
abbrev cX8_sureNow : ByteArray := prog_10_method_66_code
def yX8_sureNow : MethodName := ⟨RX8, "sureNow", "(II)I"⟩
abbrev cX8_sure : ByteArray := prog_10_method_67_code
def yX8_sure : MethodName := ⟨RX8, "sure", "(II)I"⟩
abbrev cX8_beginOfColumn : ByteArray := prog_10_method_68_code
def yX8_beginOfColumn : MethodName := ⟨RX8, "beginOfColumn", "(II)I"⟩
abbrev cX8_isState : ByteArray := prog_10_method_69_code
def yX8_isState : MethodName := ⟨RX8, "isState", "(I)Z"⟩
abbrev cX8_hasRest : ByteArray := prog_10_method_70_code
def yX8_hasRest : MethodName := ⟨RX8, "hasRest", "(III)Z"⟩
abbrev cX8_hasAllRests : ByteArray := prog_10_method_71_code
def yX8_hasAllRests : MethodName := ⟨RX8, "hasAllRests", "(III)Z"⟩
abbrev cX8_likeOf : ByteArray := prog_10_method_72_code
def yX8_likeOf : MethodName := ⟨RX8, "likeOf", "(II)I"⟩
abbrev cX8_keyOf : ByteArray := prog_10_method_73_code
def yX8_keyOf : MethodName := ⟨RX8, "keyOf", "(I)I"⟩
abbrev cX8_isKept : ByteArray := prog_10_method_74_code
def yX8_isKept : MethodName := ⟨RX8, "isKept", "(I)Z"⟩
abbrev cX8_leave : ByteArray := prog_10_method_75_code
def yX8_leave : MethodName := ⟨RX8, "leave", "(IZ)V"⟩
abbrev cX8_visit : ByteArray := prog_10_method_76_code
def yX8_visit : MethodName := ⟨RX8, "visit", "(IZ)I"⟩
abbrev cX8_goes : ByteArray := prog_10_method_77_code
def yX8_goes : MethodName := ⟨RX8, "goes", "(Z)V"⟩
abbrev cX8_searchNow : ByteArray := prog_10_method_78_code
def yX8_searchNow : MethodName := ⟨RX8, "searchNow", "(I)I"⟩
abbrev cX8_search : ByteArray := prog_10_method_79_code
def yX8_search : MethodName := ⟨RX8, "search", "(I)I"⟩
abbrev cX8_laidMany : ByteArray := prog_10_method_80_code
def yX8_laidMany : MethodName := ⟨RX8, "laidMany", "()I"⟩
abbrev cX8_howMany : ByteArray := prog_10_method_81_code
def yX8_howMany : MethodName := ⟨RX8, "howMany", "(I)I"⟩
abbrev cX8_count : ByteArray := prog_10_method_82_code
def yX8_count : MethodName := ⟨RX8, "count", "(I)I"⟩
abbrev cX8_mix : ByteArray := prog_10_method_83_code
def yX8_mix : MethodName := ⟨RX8, "mix", "(J)V"⟩
abbrev cX8_mixWords : ByteArray := prog_10_method_84_code
def yX8_mixWords : MethodName := ⟨RX8, "mixWords", "()V"⟩
abbrev cX8_mixSquares : ByteArray := prog_10_method_85_code
def yX8_mixSquares : MethodName := ⟨RX8, "mixSquares", "()V"⟩
abbrev cX8_mixBoard : ByteArray := prog_10_method_86_code
def yX8_mixBoard : MethodName := ⟨RX8, "mixBoard", "()V"⟩
abbrev cX8_digest : ByteArray := prog_10_method_87_code
def yX8_digest : MethodName := ⟨RX8, "digest", "()J"⟩
def RJx8e188 : String := "java/lang/Cloneable"
def TJx8e188 : u_T := fun k => match k with
  | _ => ("", "", "", false)
def tyJx8e188 : Nat → FieldType := fun k => match k with
  | _ => .int
abbrev wsJx8e1880 : List Cond := u_ws RJx8e188 TJx8e188 0
theorem nmJx8e188 : ∀ a, a < 0 → ∀ b, b < 0 → a ≠ b → (TJx8e188 a).2.1 ≠ (TJx8e188 b).2.1 := by decide +kernel
theorem tyJx8e188_ok : ∀ k, k < 0 → parseFieldDescriptor (TJx8e188 k).2.2.1 = some (tyJx8e188 k) := by decide +kernel
def RJ6 : String := "java/lang/Integer"
def TJ6 : u_T := fun k => match k with
  | _ => ("", "", "", false)
def tyJ6 : Nat → FieldType := fun k => match k with
  | _ => .int
abbrev wsJ60 : List Cond := u_ws RJ6 TJ6 0
theorem nmJ6 : ∀ a, a < 0 → ∀ b, b < 0 → a ≠ b → (TJ6 a).2.1 ≠ (TJ6 b).2.1 := by decide +kernel
theorem tyJ6_ok : ∀ k, k < 0 → parseFieldDescriptor (TJ6 k).2.2.1 = some (tyJ6 k) := by decide +kernel
abbrev cJ6_bitCount_0f7a4 : ByteArray := prog_12_method_49_code
def yJ6_bitCount_0f7a4 : MethodName := ⟨RJ6, "bitCount", "(I)I"⟩
def RJ9 : String := "java/lang/Math"
def TJ9 : u_T := fun k => match k with
  | _ => ("", "", "", false)
def tyJ9 : Nat → FieldType := fun k => match k with
  | _ => .int
abbrev wsJ90 : List Cond := u_ws RJ9 TJ9 0
theorem nmJ9 : ∀ a, a < 0 → ∀ b, b < 0 → a ≠ b → (TJ9 a).2.1 ≠ (TJ9 b).2.1 := by decide +kernel
theorem tyJ9_ok : ∀ k, k < 0 → parseFieldDescriptor (TJ9 k).2.2.1 = some (tyJ9 k) := by decide +kernel
abbrev cJ9_min_7cf53 : ByteArray := prog_13_method_69_code
def yJ9_min_7cf53 : MethodName := ⟨RJ9, "min", "(II)I"⟩
def RJ10 : String := "java/lang/System"
def TJ10 : u_T := fun k => match k with
  | _ => ("", "", "", false)
def tyJ10 : Nat → FieldType := fun k => match k with
  | _ => .int
abbrev wsJ100 : List Cond := u_ws RJ10 TJ10 0
theorem nmJ10 : ∀ a, a < 0 → ∀ b, b < 0 → a ≠ b → (TJ10 a).2.1 ≠ (TJ10 b).2.1 := by decide +kernel
theorem tyJ10_ok : ∀ k, k < 0 → parseFieldDescriptor (TJ10 k).2.2.1 = some (tyJ10 k) := by decide +kernel
def RJ7 : String := "java/util/Arrays"
def TJ7 : u_T := fun k => match k with
  | _ => ("", "", "", false)
def tyJ7 : Nat → FieldType := fun k => match k with
  | _ => .int
abbrev wsJ70 : List Cond := u_ws RJ7 TJ7 0
theorem nmJ7 : ∀ a, a < 0 → ∀ b, b < 0 → a ≠ b → (TJ7 a).2.1 ≠ (TJ7 b).2.1 := by decide +kernel
theorem tyJ7_ok : ∀ k, k < 0 → parseFieldDescriptor (TJ7 k).2.2.1 = some (tyJ7 k) := by decide +kernel
abbrev cJ7_fill_d0a16 : ByteArray := prog_15_method_101_code
def yJ7_fill_d0a16 : MethodName := ⟨RJ7, "fill", "([JJ)V"⟩
abbrev cJ7_fill_53178 : ByteArray := prog_15_method_103_code
def yJ7_fill_53178 : MethodName := ⟨RJ7, "fill", "([II)V"⟩
abbrev cJ7_copyOf_59c91 : ByteArray := prog_15_method_123_code
def yJ7_copyOf_59c91 : MethodName := ⟨RJ7, "copyOf", "([II)[I"⟩
def RL : String := "WordSquaresLaw"
abbrev cL_law : ByteArray := code
def yL_law : MethodName := ⟨RL, "law", "([I)Z"⟩
abbrev vwCl : List vw_C := [(RX0, TX0, 3), (RX1, TX1, 2), (RX2, TX2, 13), (RX3, TX3, 4), (RX4, TX4, 2), (RX5, TX5, 2), (RX6, TX6, 4), (RX7, TX7, 9), (RX8, TX8, 31)]
end
section
theorem dX0_init_0 : decode cX0_init 0 = .ok (.aload_n 0, 1) := by decide +kernel
theorem dX0_init_1 : decode cX0_init 1 = .ok (.invokespecial 3, 3) := by decide +kernel
theorem dX0_init_4 : decode cX0_init 4 = .ok (.aload_n 0, 1) := by decide +kernel
theorem dX0_init_5 : decode cX0_init 5 = .ok (.iconst 4, 1) := by decide +kernel
theorem dX0_init_6 : decode cX0_init 6 = .ok (.newarray .int, 2) := by decide +kernel
theorem dX0_init_8 : decode cX0_init 8 = .ok (.dup, 1) := by decide +kernel
theorem dX0_init_9 : decode cX0_init 9 = .ok (.iconst 0, 1) := by decide +kernel
theorem dX0_init_10 : decode cX0_init 10 = .ok (.iconst (-1), 1) := by decide +kernel
theorem dX0_init_11 : decode cX0_init 11 = .ok (.iastore, 1) := by decide +kernel
theorem dX0_init_12 : decode cX0_init 12 = .ok (.dup, 1) := by decide +kernel
theorem dX0_init_13 : decode cX0_init 13 = .ok (.iconst 1, 1) := by decide +kernel
theorem dX0_init_14 : decode cX0_init 14 = .ok (.iconst (-1), 1) := by decide +kernel
theorem dX0_init_15 : decode cX0_init 15 = .ok (.iastore, 1) := by decide +kernel
theorem dX0_init_16 : decode cX0_init 16 = .ok (.dup, 1) := by decide +kernel
theorem dX0_init_17 : decode cX0_init 17 = .ok (.iconst 2, 1) := by decide +kernel
theorem dX0_init_18 : decode cX0_init 18 = .ok (.iconst (-1), 1) := by decide +kernel
theorem dX0_init_19 : decode cX0_init 19 = .ok (.iastore, 1) := by decide +kernel
theorem dX0_init_20 : decode cX0_init 20 = .ok (.dup, 1) := by decide +kernel
theorem dX0_init_21 : decode cX0_init 21 = .ok (.iconst 3, 1) := by decide +kernel
theorem dX0_init_22 : decode cX0_init 22 = .ok (.iconst (-1), 1) := by decide +kernel
theorem dX0_init_23 : decode cX0_init 23 = .ok (.iastore, 1) := by decide +kernel
theorem dX0_init_24 : decode cX0_init 24 = .ok (.putfield 9, 3) := by decide +kernel
theorem dX0_init_27 : decode cX0_init 27 = .ok (.aload_n 0, 1) := by decide +kernel
theorem dX0_init_28 : decode cX0_init 28 = .ok (.iconst 4, 1) := by decide +kernel
theorem dX0_init_29 : decode cX0_init 29 = .ok (.newarray .int, 2) := by decide +kernel
theorem dX0_init_31 : decode cX0_init 31 = .ok (.putfield 15, 3) := by decide +kernel
theorem dX0_init_34 : decode cX0_init 34 = .ok (.aload_n 0, 1) := by decide +kernel
theorem dX0_init_35 : decode cX0_init 35 = .ok (.iconst 0, 1) := by decide +kernel
theorem dX0_init_36 : decode cX0_init 36 = .ok (.putfield 18, 3) := by decide +kernel
theorem dX0_init_39 : decode cX0_init 39 = .ok (.return_, 1) := by decide +kernel
theorem dX0_clear_0 : decode cX0_clear 0 = .ok (.aload_n 0, 1) := by decide +kernel
theorem dX0_clear_1 : decode cX0_clear 1 = .ok (.getfield 9, 3) := by decide +kernel
theorem dX0_clear_4 : decode cX0_clear 4 = .ok (.iconst (-1), 1) := by decide +kernel
theorem dX0_clear_5 : decode cX0_clear 5 = .ok (.invokestatic 22, 3) := by decide +kernel
theorem dX0_clear_8 : decode cX0_clear 8 = .ok (.return_, 1) := by decide +kernel
theorem dX0_given_0 : decode cX0_given 0 = .ok (.iload_n 1, 1) := by decide +kernel
theorem dX0_given_1 : decode cX0_given 1 = .ok (.ifCond .lt 17, 3) := by decide +kernel
theorem dX0_given_4 : decode cX0_given 4 = .ok (.iload_n 1, 1) := by decide +kernel
theorem dX0_given_5 : decode cX0_given 5 = .ok (.iconst 4, 1) := by decide +kernel
theorem dX0_given_6 : decode cX0_given 6 = .ok (.if_icmp .ge 12, 3) := by decide +kernel
theorem dX0_given_9 : decode cX0_given 9 = .ok (.aload_n 0, 1) := by decide +kernel
theorem dX0_given_10 : decode cX0_given 10 = .ok (.getfield 9, 3) := by decide +kernel
theorem dX0_given_13 : decode cX0_given 13 = .ok (.iload_n 1, 1) := by decide +kernel
theorem dX0_given_14 : decode cX0_given 14 = .ok (.iaload, 1) := by decide +kernel
theorem dX0_given_15 : decode cX0_given 15 = .ok (.goto 4, 3) := by decide +kernel
theorem dX0_given_18 : decode cX0_given 18 = .ok (.iconst (-1), 1) := by decide +kernel
theorem dX0_given_19 : decode cX0_given 19 = .ok (.ireturn, 1) := by decide +kernel
theorem dX0_give_0 : decode cX0_give 0 = .ok (.iload_n 1, 1) := by decide +kernel
theorem dX0_give_1 : decode cX0_give 1 = .ok (.ifCond .lt 15, 3) := by decide +kernel
theorem dX0_give_4 : decode cX0_give 4 = .ok (.iload_n 1, 1) := by decide +kernel
theorem dX0_give_5 : decode cX0_give 5 = .ok (.iconst 4, 1) := by decide +kernel
theorem dX0_give_6 : decode cX0_give 6 = .ok (.if_icmp .ge 10, 3) := by decide +kernel
theorem dX0_give_9 : decode cX0_give 9 = .ok (.aload_n 0, 1) := by decide +kernel
theorem dX0_give_10 : decode cX0_give 10 = .ok (.getfield 9, 3) := by decide +kernel
theorem dX0_give_13 : decode cX0_give 13 = .ok (.iload_n 1, 1) := by decide +kernel
theorem dX0_give_14 : decode cX0_give 14 = .ok (.iload_n 2, 1) := by decide +kernel
theorem dX0_give_15 : decode cX0_give 15 = .ok (.iastore, 1) := by decide +kernel
theorem dX0_give_16 : decode cX0_give 16 = .ok (.return_, 1) := by decide +kernel
theorem dX0_numberOfGiven_0 : decode cX0_numberOfGiven 0 = .ok (.iconst 0, 1) := by decide +kernel
theorem dX0_numberOfGiven_1 : decode cX0_numberOfGiven 1 = .ok (.istore_n 1, 1) := by decide +kernel
theorem dX0_numberOfGiven_2 : decode cX0_numberOfGiven 2 = .ok (.iconst 0, 1) := by decide +kernel
theorem dX0_numberOfGiven_3 : decode cX0_numberOfGiven 3 = .ok (.istore_n 2, 1) := by decide +kernel
theorem dX0_numberOfGiven_4 : decode cX0_numberOfGiven 4 = .ok (.iload_n 2, 1) := by decide +kernel
theorem dX0_numberOfGiven_5 : decode cX0_numberOfGiven 5 = .ok (.iconst 4, 1) := by decide +kernel
theorem dX0_numberOfGiven_6 : decode cX0_numberOfGiven 6 = .ok (.if_icmp .ge 22, 3) := by decide +kernel
theorem dX0_numberOfGiven_9 : decode cX0_numberOfGiven 9 = .ok (.aload_n 0, 1) := by decide +kernel
theorem dX0_numberOfGiven_10 : decode cX0_numberOfGiven 10 = .ok (.getfield 9, 3) := by decide +kernel
theorem dX0_numberOfGiven_13 : decode cX0_numberOfGiven 13 = .ok (.iload_n 2, 1) := by decide +kernel
theorem dX0_numberOfGiven_14 : decode cX0_numberOfGiven 14 = .ok (.iaload, 1) := by decide +kernel
theorem dX0_numberOfGiven_15 : decode cX0_numberOfGiven 15 = .ok (.iconst (-1), 1) := by decide +kernel
theorem dX0_numberOfGiven_16 : decode cX0_numberOfGiven 16 = .ok (.if_icmp .eq 6, 3) := by decide +kernel
theorem dX0_numberOfGiven_19 : decode cX0_numberOfGiven 19 = .ok (.iinc 1 1, 3) := by decide +kernel
theorem dX0_numberOfGiven_22 : decode cX0_numberOfGiven 22 = .ok (.iinc 2 1, 3) := by decide +kernel
theorem dX0_numberOfGiven_25 : decode cX0_numberOfGiven 25 = .ok (.goto (-21), 3) := by decide +kernel
theorem dX0_numberOfGiven_28 : decode cX0_numberOfGiven 28 = .ok (.iload_n 1, 1) := by decide +kernel
theorem dX0_numberOfGiven_29 : decode cX0_numberOfGiven 29 = .ok (.ireturn, 1) := by decide +kernel
theorem dX0_numberOfFitting_0 : decode cX0_numberOfFitting 0 = .ok (.aload_n 0, 1) := by decide +kernel
theorem dX0_numberOfFitting_1 : decode cX0_numberOfFitting 1 = .ok (.getfield 18, 3) := by decide +kernel
theorem dX0_numberOfFitting_4 : decode cX0_numberOfFitting 4 = .ok (.ireturn, 1) := by decide +kernel
theorem dX0_possible_0 : decode cX0_possible 0 = .ok (.iload_n 1, 1) := by decide +kernel
theorem dX0_possible_1 : decode cX0_possible 1 = .ok (.ifCond .lt 17, 3) := by decide +kernel
theorem dX0_possible_4 : decode cX0_possible 4 = .ok (.iload_n 1, 1) := by decide +kernel
theorem dX0_possible_5 : decode cX0_possible 5 = .ok (.iconst 4, 1) := by decide +kernel
theorem dX0_possible_6 : decode cX0_possible 6 = .ok (.if_icmp .ge 12, 3) := by decide +kernel
theorem dX0_possible_9 : decode cX0_possible 9 = .ok (.aload_n 0, 1) := by decide +kernel
theorem dX0_possible_10 : decode cX0_possible 10 = .ok (.getfield 15, 3) := by decide +kernel
theorem dX0_possible_13 : decode cX0_possible 13 = .ok (.iload_n 1, 1) := by decide +kernel
theorem dX0_possible_14 : decode cX0_possible 14 = .ok (.iaload, 1) := by decide +kernel
theorem dX0_possible_15 : decode cX0_possible 15 = .ok (.goto 4, 3) := by decide +kernel
theorem dX0_possible_18 : decode cX0_possible 18 = .ok (.iconst 0, 1) := by decide +kernel
theorem dX0_possible_19 : decode cX0_possible 19 = .ok (.ireturn, 1) := by decide +kernel
theorem dX0_look_0 : decode cX0_look 0 = .ok (.iconst 0, 1) := by decide +kernel
theorem dX0_look_1 : decode cX0_look 1 = .ok (.istore_n 3, 1) := by decide +kernel
theorem dX0_look_2 : decode cX0_look 2 = .ok (.iconst 0, 1) := by decide +kernel
theorem dX0_look_3 : decode cX0_look 3 = .ok (.istore 4, 2) := by decide +kernel
theorem dX0_look_5 : decode cX0_look 5 = .ok (.iconst 0, 1) := by decide +kernel
theorem dX0_look_6 : decode cX0_look 6 = .ok (.istore 5, 2) := by decide +kernel
theorem dX0_look_8 : decode cX0_look 8 = .ok (.iload 5, 2) := by decide +kernel
theorem dX0_look_10 : decode cX0_look 10 = .ok (.iload_n 2, 1) := by decide +kernel
theorem dX0_look_11 : decode cX0_look 11 = .ok (.if_icmp .ge 72, 3) := by decide +kernel
theorem dX0_look_14 : decode cX0_look 14 = .ok (.iload 5, 2) := by decide +kernel
theorem dX0_look_16 : decode cX0_look 16 = .ok (.iconst 4, 1) := by decide +kernel
theorem dX0_look_17 : decode cX0_look 17 = .ok (.if_icmp .ge 66, 3) := by decide +kernel
theorem dX0_look_20 : decode cX0_look 20 = .ok (.aload_n 0, 1) := by decide +kernel
theorem dX0_look_21 : decode cX0_look 21 = .ok (.getfield 9, 3) := by decide +kernel
theorem dX0_look_24 : decode cX0_look 24 = .ok (.iload 5, 2) := by decide +kernel
theorem dX0_look_26 : decode cX0_look 26 = .ok (.iaload, 1) := by decide +kernel
theorem dX0_look_27 : decode cX0_look 27 = .ok (.iconst (-1), 1) := by decide +kernel
theorem dX0_look_28 : decode cX0_look 28 = .ok (.if_icmp .ne 7, 3) := by decide +kernel
theorem dX0_look_31 : decode cX0_look 31 = .ok (.iconst 1, 1) := by decide +kernel
theorem dX0_look_32 : decode cX0_look 32 = .ok (.goto 4, 3) := by decide +kernel
theorem dX0_look_35 : decode cX0_look 35 = .ok (.iconst 0, 1) := by decide +kernel
theorem dX0_look_36 : decode cX0_look 36 = .ok (.istore 6, 2) := by decide +kernel
theorem dX0_look_38 : decode cX0_look 38 = .ok (.iload_n 3, 1) := by decide +kernel
theorem dX0_look_39 : decode cX0_look 39 = .ok (.iconst 4, 1) := by decide +kernel
theorem dX0_look_40 : decode cX0_look 40 = .ok (.ishl, 1) := by decide +kernel
theorem dX0_look_41 : decode cX0_look 41 = .ok (.iload 6, 2) := by decide +kernel
theorem dX0_look_43 : decode cX0_look 43 = .ok (.ifCond .eq 7, 3) := by decide +kernel
theorem dX0_look_46 : decode cX0_look 46 = .ok (.iconst 0, 1) := by decide +kernel
theorem dX0_look_47 : decode cX0_look 47 = .ok (.goto 5, 3) := by decide +kernel
theorem dX0_look_50 : decode cX0_look 50 = .ok (.bipush 15, 2) := by decide +kernel
theorem dX0_look_52 : decode cX0_look 52 = .ok (.ior, 1) := by decide +kernel
theorem dX0_look_53 : decode cX0_look 53 = .ok (.istore_n 3, 1) := by decide +kernel
theorem dX0_look_54 : decode cX0_look 54 = .ok (.iload 4, 2) := by decide +kernel
theorem dX0_look_56 : decode cX0_look 56 = .ok (.iconst 4, 1) := by decide +kernel
theorem dX0_look_57 : decode cX0_look 57 = .ok (.ishl, 1) := by decide +kernel
theorem dX0_look_58 : decode cX0_look 58 = .ok (.iload 6, 2) := by decide +kernel
theorem dX0_look_60 : decode cX0_look 60 = .ok (.ifCond .eq 7, 3) := by decide +kernel
theorem dX0_look_63 : decode cX0_look 63 = .ok (.iconst 0, 1) := by decide +kernel
theorem dX0_look_64 : decode cX0_look 64 = .ok (.goto 10, 3) := by decide +kernel
theorem dX0_look_67 : decode cX0_look 67 = .ok (.aload_n 0, 1) := by decide +kernel
theorem dX0_look_68 : decode cX0_look 68 = .ok (.getfield 9, 3) := by decide +kernel
theorem dX0_look_71 : decode cX0_look 71 = .ok (.iload 5, 2) := by decide +kernel
theorem dX0_look_73 : decode cX0_look 73 = .ok (.iaload, 1) := by decide +kernel
theorem dX0_look_74 : decode cX0_look 74 = .ok (.ior, 1) := by decide +kernel
theorem dX0_look_75 : decode cX0_look 75 = .ok (.istore 4, 2) := by decide +kernel
theorem dX0_look_77 : decode cX0_look 77 = .ok (.iinc 5 1, 3) := by decide +kernel
theorem dX0_look_80 : decode cX0_look 80 = .ok (.goto (-72), 3) := by decide +kernel
theorem dX0_look_83 : decode cX0_look 83 = .ok (.aload_n 0, 1) := by decide +kernel
theorem dX0_look_84 : decode cX0_look 84 = .ok (.iconst 0, 1) := by decide +kernel
theorem dX0_look_85 : decode cX0_look 85 = .ok (.putfield 18, 3) := by decide +kernel
theorem dX0_look_88 : decode cX0_look 88 = .ok (.aload_n 0, 1) := by decide +kernel
theorem dX0_look_89 : decode cX0_look 89 = .ok (.getfield 15, 3) := by decide +kernel
theorem dX0_look_92 : decode cX0_look 92 = .ok (.iconst 0, 1) := by decide +kernel
theorem dX0_look_93 : decode cX0_look 93 = .ok (.invokestatic 22, 3) := by decide +kernel
theorem dX0_look_96 : decode cX0_look 96 = .ok (.iconst 0, 1) := by decide +kernel
theorem dX0_look_97 : decode cX0_look 97 = .ok (.istore 5, 2) := by decide +kernel
theorem dX0_look_99 : decode cX0_look 99 = .ok (.iload 5, 2) := by decide +kernel
theorem dX0_look_101 : decode cX0_look 101 = .ok (.aload_n 1, 1) := by decide +kernel
theorem dX0_look_102 : decode cX0_look 102 = .ok (.invokevirtual 28, 3) := by decide +kernel
theorem dX0_look_105 : decode cX0_look 105 = .ok (.if_icmp .ge 43, 3) := by decide +kernel
theorem dX0_look_108 : decode cX0_look 108 = .ok (.aload_n 1, 1) := by decide +kernel
theorem dX0_look_109 : decode cX0_look 109 = .ok (.iload 5, 2) := by decide +kernel
theorem dX0_look_111 : decode cX0_look 111 = .ok (.invokevirtual 34, 3) := by decide +kernel
theorem dX0_look_114 : decode cX0_look 114 = .ok (.istore 6, 2) := by decide +kernel
theorem dX0_look_116 : decode cX0_look 116 = .ok (.iload 6, 2) := by decide +kernel
theorem dX0_look_118 : decode cX0_look 118 = .ok (.iload_n 3, 1) := by decide +kernel
theorem dX0_look_119 : decode cX0_look 119 = .ok (.iand, 1) := by decide +kernel
theorem dX0_look_120 : decode cX0_look 120 = .ok (.iload 4, 2) := by decide +kernel
theorem dX0_look_122 : decode cX0_look 122 = .ok (.if_icmp .ne 20, 3) := by decide +kernel
theorem dX0_look_125 : decode cX0_look 125 = .ok (.aload_n 0, 1) := by decide +kernel
theorem dX0_look_126 : decode cX0_look 126 = .ok (.dup, 1) := by decide +kernel
theorem dX0_look_127 : decode cX0_look 127 = .ok (.getfield 18, 3) := by decide +kernel
theorem dX0_look_130 : decode cX0_look 130 = .ok (.iconst 1, 1) := by decide +kernel
theorem dX0_look_131 : decode cX0_look 131 = .ok (.iadd, 1) := by decide +kernel
theorem dX0_look_132 : decode cX0_look 132 = .ok (.putfield 18, 3) := by decide +kernel
theorem dX0_look_135 : decode cX0_look 135 = .ok (.aload_n 0, 1) := by decide +kernel
theorem dX0_look_136 : decode cX0_look 136 = .ok (.iload 6, 2) := by decide +kernel
theorem dX0_look_138 : decode cX0_look 138 = .ok (.iload_n 2, 1) := by decide +kernel
theorem dX0_look_139 : decode cX0_look 139 = .ok (.invokevirtual 38, 3) := by decide +kernel
theorem dX0_look_142 : decode cX0_look 142 = .ok (.iinc 5 1, 3) := by decide +kernel
theorem dX0_look_145 : decode cX0_look 145 = .ok (.goto (-46), 3) := by decide +kernel
theorem dX0_look_148 : decode cX0_look 148 = .ok (.return_, 1) := by decide +kernel
theorem dX0_addRows_0 : decode cX0_addRows 0 = .ok (.iconst 0, 1) := by decide +kernel
theorem dX0_addRows_1 : decode cX0_addRows 1 = .ok (.istore_n 3, 1) := by decide +kernel
theorem dX0_addRows_2 : decode cX0_addRows 2 = .ok (.iload_n 3, 1) := by decide +kernel
theorem dX0_addRows_3 : decode cX0_addRows 3 = .ok (.iload_n 2, 1) := by decide +kernel
theorem dX0_addRows_4 : decode cX0_addRows 4 = .ok (.if_icmp .ge 31, 3) := by decide +kernel
theorem dX0_addRows_7 : decode cX0_addRows 7 = .ok (.iload_n 3, 1) := by decide +kernel
theorem dX0_addRows_8 : decode cX0_addRows 8 = .ok (.iconst 4, 1) := by decide +kernel
theorem dX0_addRows_9 : decode cX0_addRows 9 = .ok (.if_icmp .ge 26, 3) := by decide +kernel
theorem dX0_addRows_12 : decode cX0_addRows 12 = .ok (.aload_n 0, 1) := by decide +kernel
theorem dX0_addRows_13 : decode cX0_addRows 13 = .ok (.getfield 15, 3) := by decide +kernel
theorem dX0_addRows_16 : decode cX0_addRows 16 = .ok (.iload_n 3, 1) := by decide +kernel
theorem dX0_addRows_17 : decode cX0_addRows 17 = .ok (.dup2, 1) := by decide +kernel
theorem dX0_addRows_18 : decode cX0_addRows 18 = .ok (.iaload, 1) := by decide +kernel
theorem dX0_addRows_19 : decode cX0_addRows 19 = .ok (.iconst 1, 1) := by decide +kernel
theorem dX0_addRows_20 : decode cX0_addRows 20 = .ok (.iload_n 1, 1) := by decide +kernel
theorem dX0_addRows_21 : decode cX0_addRows 21 = .ok (.iload_n 3, 1) := by decide +kernel
theorem dX0_addRows_22 : decode cX0_addRows 22 = .ok (.iload_n 2, 1) := by decide +kernel
theorem dX0_addRows_23 : decode cX0_addRows 23 = .ok (.invokestatic 42, 3) := by decide +kernel
theorem dX0_addRows_26 : decode cX0_addRows 26 = .ok (.ishl, 1) := by decide +kernel
theorem dX0_addRows_27 : decode cX0_addRows 27 = .ok (.ior, 1) := by decide +kernel
theorem dX0_addRows_28 : decode cX0_addRows 28 = .ok (.iastore, 1) := by decide +kernel
theorem dX0_addRows_29 : decode cX0_addRows 29 = .ok (.iinc 3 1, 3) := by decide +kernel
theorem dX0_addRows_32 : decode cX0_addRows 32 = .ok (.goto (-30), 3) := by decide +kernel
theorem dX0_addRows_35 : decode cX0_addRows 35 = .ok (.return_, 1) := by decide +kernel
theorem dX1_init_0 : decode cX1_init 0 = .ok (.aload_n 0, 1) := by decide +kernel
theorem dX1_init_1 : decode cX1_init 1 = .ok (.invokespecial 1, 3) := by decide +kernel
theorem dX1_init_4 : decode cX1_init 4 = .ok (.aload_n 0, 1) := by decide +kernel
theorem dX1_init_5 : decode cX1_init 5 = .ok (.sipush 1296, 3) := by decide +kernel
theorem dX1_init_8 : decode cX1_init 8 = .ok (.newarray .long, 2) := by decide +kernel
theorem dX1_init_10 : decode cX1_init 10 = .ok (.putfield 9, 3) := by decide +kernel
theorem dX1_init_13 : decode cX1_init 13 = .ok (.aload_n 0, 1) := by decide +kernel
theorem dX1_init_14 : decode cX1_init 14 = .ok (.iconst 0, 1) := by decide +kernel
theorem dX1_init_15 : decode cX1_init 15 = .ok (.putfield 13, 3) := by decide +kernel
theorem dX1_init_18 : decode cX1_init 18 = .ok (.return_, 1) := by decide +kernel
theorem dX1_size_0 : decode cX1_size 0 = .ok (.aload_n 0, 1) := by decide +kernel
theorem dX1_size_1 : decode cX1_size 1 = .ok (.getfield 13, 3) := by decide +kernel
theorem dX1_size_4 : decode cX1_size 4 = .ok (.ireturn, 1) := by decide +kernel
theorem dX1_clear_0 : decode cX1_clear 0 = .ok (.aload_n 0, 1) := by decide +kernel
theorem dX1_clear_1 : decode cX1_clear 1 = .ok (.getfield 9, 3) := by decide +kernel
theorem dX1_clear_4 : decode cX1_clear 4 = .ok (.lconst 0, 1) := by decide +kernel
theorem dX1_clear_5 : decode cX1_clear 5 = .ok (.invokestatic 17, 3) := by decide +kernel
theorem dX1_clear_8 : decode cX1_clear 8 = .ok (.aload_n 0, 1) := by decide +kernel
theorem dX1_clear_9 : decode cX1_clear 9 = .ok (.iconst 0, 1) := by decide +kernel
theorem dX1_clear_10 : decode cX1_clear 10 = .ok (.putfield 13, 3) := by decide +kernel
theorem dX1_clear_13 : decode cX1_clear 13 = .ok (.return_, 1) := by decide +kernel
theorem dX1_has_0 : decode cX1_has 0 = .ok (.iload_n 1, 1) := by decide +kernel
theorem dX1_has_1 : decode cX1_has 1 = .ok (.ifCond .lt 34, 3) := by decide +kernel
theorem dX1_has_4 : decode cX1_has 4 = .ok (.iload_n 1, 1) := by decide +kernel
theorem dX1_has_5 : decode cX1_has 5 = .ok (.ldc 23, 2) := by decide +kernel
theorem dX1_has_7 : decode cX1_has 7 = .ok (.if_icmp .ge 28, 3) := by decide +kernel
theorem dX1_has_10 : decode cX1_has 10 = .ok (.aload_n 0, 1) := by decide +kernel
theorem dX1_has_11 : decode cX1_has 11 = .ok (.getfield 9, 3) := by decide +kernel
theorem dX1_has_14 : decode cX1_has 14 = .ok (.iload_n 1, 1) := by decide +kernel
theorem dX1_has_15 : decode cX1_has 15 = .ok (.bipush 64, 2) := by decide +kernel
theorem dX1_has_17 : decode cX1_has 17 = .ok (.idiv, 1) := by decide +kernel
theorem dX1_has_18 : decode cX1_has 18 = .ok (.laload, 1) := by decide +kernel
theorem dX1_has_19 : decode cX1_has 19 = .ok (.iload_n 1, 1) := by decide +kernel
theorem dX1_has_20 : decode cX1_has 20 = .ok (.bipush 64, 2) := by decide +kernel
theorem dX1_has_22 : decode cX1_has 22 = .ok (.irem, 1) := by decide +kernel
theorem dX1_has_23 : decode cX1_has 23 = .ok (.lushr, 1) := by decide +kernel
theorem dX1_has_24 : decode cX1_has 24 = .ok (.lconst 1, 1) := by decide +kernel
theorem dX1_has_25 : decode cX1_has 25 = .ok (.land, 1) := by decide +kernel
theorem dX1_has_26 : decode cX1_has 26 = .ok (.lconst 0, 1) := by decide +kernel
theorem dX1_has_27 : decode cX1_has 27 = .ok (.lcmp, 1) := by decide +kernel
theorem dX1_has_28 : decode cX1_has 28 = .ok (.ifCond .eq 7, 3) := by decide +kernel
theorem dX1_has_31 : decode cX1_has 31 = .ok (.iconst 1, 1) := by decide +kernel
theorem dX1_has_32 : decode cX1_has 32 = .ok (.goto 4, 3) := by decide +kernel
theorem dX1_has_35 : decode cX1_has 35 = .ok (.iconst 0, 1) := by decide +kernel
theorem dX1_has_36 : decode cX1_has 36 = .ok (.ireturn, 1) := by decide +kernel
theorem dX1_add_0 : decode cX1_add 0 = .ok (.iload_n 1, 1) := by decide +kernel
theorem dX1_add_1 : decode cX1_add 1 = .ok (.ifCond .lt 45, 3) := by decide +kernel
theorem dX1_add_4 : decode cX1_add 4 = .ok (.iload_n 1, 1) := by decide +kernel
theorem dX1_add_5 : decode cX1_add 5 = .ok (.ldc 23, 2) := by decide +kernel
theorem dX1_add_7 : decode cX1_add 7 = .ok (.if_icmp .ge 39, 3) := by decide +kernel
theorem dX1_add_10 : decode cX1_add 10 = .ok (.aload_n 0, 1) := by decide +kernel
theorem dX1_add_11 : decode cX1_add 11 = .ok (.iload_n 1, 1) := by decide +kernel
theorem dX1_add_12 : decode cX1_add 12 = .ok (.invokevirtual 24, 3) := by decide +kernel
theorem dX1_add_15 : decode cX1_add 15 = .ok (.ifCond .ne 31, 3) := by decide +kernel
theorem dX1_add_18 : decode cX1_add 18 = .ok (.aload_n 0, 1) := by decide +kernel
theorem dX1_add_19 : decode cX1_add 19 = .ok (.getfield 9, 3) := by decide +kernel
theorem dX1_add_22 : decode cX1_add 22 = .ok (.iload_n 1, 1) := by decide +kernel
theorem dX1_add_23 : decode cX1_add 23 = .ok (.bipush 64, 2) := by decide +kernel
theorem dX1_add_25 : decode cX1_add 25 = .ok (.idiv, 1) := by decide +kernel
theorem dX1_add_26 : decode cX1_add 26 = .ok (.dup2, 1) := by decide +kernel
theorem dX1_add_27 : decode cX1_add 27 = .ok (.laload, 1) := by decide +kernel
theorem dX1_add_28 : decode cX1_add 28 = .ok (.lconst 1, 1) := by decide +kernel
theorem dX1_add_29 : decode cX1_add 29 = .ok (.iload_n 1, 1) := by decide +kernel
theorem dX1_add_30 : decode cX1_add 30 = .ok (.bipush 64, 2) := by decide +kernel
theorem dX1_add_32 : decode cX1_add 32 = .ok (.irem, 1) := by decide +kernel
theorem dX1_add_33 : decode cX1_add 33 = .ok (.lshl, 1) := by decide +kernel
theorem dX1_add_34 : decode cX1_add 34 = .ok (.lor, 1) := by decide +kernel
theorem dX1_add_35 : decode cX1_add 35 = .ok (.lastore, 1) := by decide +kernel
theorem dX1_add_36 : decode cX1_add 36 = .ok (.aload_n 0, 1) := by decide +kernel
theorem dX1_add_37 : decode cX1_add 37 = .ok (.dup, 1) := by decide +kernel
theorem dX1_add_38 : decode cX1_add 38 = .ok (.getfield 13, 3) := by decide +kernel
theorem dX1_add_41 : decode cX1_add 41 = .ok (.iconst 1, 1) := by decide +kernel
theorem dX1_add_42 : decode cX1_add 42 = .ok (.iadd, 1) := by decide +kernel
theorem dX1_add_43 : decode cX1_add 43 = .ok (.putfield 13, 3) := by decide +kernel
theorem dX1_add_46 : decode cX1_add 46 = .ok (.return_, 1) := by decide +kernel
theorem dX2_init_0 : decode cX2_init 0 = .ok (.aload_n 0, 1) := by decide +kernel
theorem dX2_init_1 : decode cX2_init 1 = .ok (.invokespecial 3, 3) := by decide +kernel
theorem dX2_init_4 : decode cX2_init 4 = .ok (.aload_n 0, 1) := by decide +kernel
theorem dX2_init_5 : decode cX2_init 5 = .ok (.new 9, 3) := by decide +kernel
theorem dX2_init_8 : decode cX2_init 8 = .ok (.dup, 1) := by decide +kernel
theorem dX2_init_9 : decode cX2_init 9 = .ok (.invokespecial 11, 3) := by decide +kernel
theorem dX2_init_12 : decode cX2_init 12 = .ok (.putfield 12, 3) := by decide +kernel
theorem dX2_init_15 : decode cX2_init 15 = .ok (.aload_n 0, 1) := by decide +kernel
theorem dX2_init_16 : decode cX2_init 16 = .ok (.new 18, 3) := by decide +kernel
theorem dX2_init_19 : decode cX2_init 19 = .ok (.dup, 1) := by decide +kernel
theorem dX2_init_20 : decode cX2_init 20 = .ok (.invokespecial 20, 3) := by decide +kernel
theorem dX2_init_23 : decode cX2_init 23 = .ok (.putfield 21, 3) := by decide +kernel
theorem dX2_init_26 : decode cX2_init 26 = .ok (.aload_n 0, 1) := by decide +kernel
theorem dX2_init_27 : decode cX2_init 27 = .ok (.new 18, 3) := by decide +kernel
theorem dX2_init_30 : decode cX2_init 30 = .ok (.dup, 1) := by decide +kernel
theorem dX2_init_31 : decode cX2_init 31 = .ok (.invokespecial 20, 3) := by decide +kernel
theorem dX2_init_34 : decode cX2_init 34 = .ok (.putfield 25, 3) := by decide +kernel
theorem dX2_init_37 : decode cX2_init 37 = .ok (.aload_n 0, 1) := by decide +kernel
theorem dX2_init_38 : decode cX2_init 38 = .ok (.new 18, 3) := by decide +kernel
theorem dX2_init_41 : decode cX2_init 41 = .ok (.dup, 1) := by decide +kernel
theorem dX2_init_42 : decode cX2_init 42 = .ok (.invokespecial 20, 3) := by decide +kernel
theorem dX2_init_45 : decode cX2_init 45 = .ok (.putfield 28, 3) := by decide +kernel
theorem dX2_init_48 : decode cX2_init 48 = .ok (.aload_n 0, 1) := by decide +kernel
theorem dX2_init_49 : decode cX2_init 49 = .ok (.bipush 16, 2) := by decide +kernel
theorem dX2_init_51 : decode cX2_init 51 = .ok (.newarray .int, 2) := by decide +kernel
theorem dX2_init_53 : decode cX2_init 53 = .ok (.putfield 31, 3) := by decide +kernel
theorem dX2_init_56 : decode cX2_init 56 = .ok (.aload_n 0, 1) := by decide +kernel
theorem dX2_init_57 : decode cX2_init 57 = .ok (.bipush 16, 2) := by decide +kernel
theorem dX2_init_59 : decode cX2_init 59 = .ok (.newarray .int, 2) := by decide +kernel
theorem dX2_init_61 : decode cX2_init 61 = .ok (.putfield 35, 3) := by decide +kernel
theorem dX2_init_64 : decode cX2_init 64 = .ok (.aload_n 0, 1) := by decide +kernel
theorem dX2_init_65 : decode cX2_init 65 = .ok (.bipush 16, 2) := by decide +kernel
theorem dX2_init_67 : decode cX2_init 67 = .ok (.newarray .int, 2) := by decide +kernel
theorem dX2_init_69 : decode cX2_init 69 = .ok (.putfield 38, 3) := by decide +kernel
theorem dX2_init_72 : decode cX2_init 72 = .ok (.aload_n 0, 1) := by decide +kernel
theorem dX2_init_73 : decode cX2_init 73 = .ok (.iconst 0, 1) := by decide +kernel
theorem dX2_init_74 : decode cX2_init 74 = .ok (.putfield 41, 3) := by decide +kernel
theorem dX2_init_77 : decode cX2_init 77 = .ok (.aload_n 0, 1) := by decide +kernel
theorem dX2_init_78 : decode cX2_init 78 = .ok (.iconst 0, 1) := by decide +kernel
theorem dX2_init_79 : decode cX2_init 79 = .ok (.putfield 45, 3) := by decide +kernel
theorem dX2_init_82 : decode cX2_init 82 = .ok (.aload_n 0, 1) := by decide +kernel
theorem dX2_init_83 : decode cX2_init 83 = .ok (.iconst 0, 1) := by decide +kernel
theorem dX2_init_84 : decode cX2_init 84 = .ok (.putfield 48, 3) := by decide +kernel
theorem dX2_init_87 : decode cX2_init 87 = .ok (.aload_n 0, 1) := by decide +kernel
theorem dX2_init_88 : decode cX2_init 88 = .ok (.iconst 0, 1) := by decide +kernel
theorem dX2_init_89 : decode cX2_init 89 = .ok (.putfield 51, 3) := by decide +kernel
theorem dX2_init_92 : decode cX2_init 92 = .ok (.aload_n 0, 1) := by decide +kernel
theorem dX2_init_93 : decode cX2_init 93 = .ok (.aload_n 1, 1) := by decide +kernel
theorem dX2_init_94 : decode cX2_init 94 = .ok (.putfield 54, 3) := by decide +kernel
theorem dX2_init_97 : decode cX2_init 97 = .ok (.aload_n 0, 1) := by decide +kernel
theorem dX2_init_98 : decode cX2_init 98 = .ok (.new 58, 3) := by decide +kernel
theorem dX2_init_101 : decode cX2_init 101 = .ok (.dup, 1) := by decide +kernel
theorem dX2_init_102 : decode cX2_init 102 = .ok (.aload_n 1, 1) := by decide +kernel
theorem dX2_init_103 : decode cX2_init 103 = .ok (.invokespecial 60, 3) := by decide +kernel
theorem dX2_init_106 : decode cX2_init 106 = .ok (.putfield 63, 3) := by decide +kernel
theorem dX2_init_109 : decode cX2_init 109 = .ok (.return_, 1) := by decide +kernel
theorem dX2_ofKind_0 : decode cX2_ofKind 0 = .ok (.iload_n 1, 1) := by decide +kernel
theorem dX2_ofKind_1 : decode cX2_ofKind 1 = .ok (.lookupswitch 37 #[(1, 27), (2, 32)], 27) := by decide +kernel
theorem dX2_ofKind_28 : decode cX2_ofKind 28 = .ok (.aload_n 0, 1) := by decide +kernel
theorem dX2_ofKind_29 : decode cX2_ofKind 29 = .ok (.getfield 25, 3) := by decide +kernel
theorem dX2_ofKind_32 : decode cX2_ofKind 32 = .ok (.areturn, 1) := by decide +kernel
theorem dX2_ofKind_33 : decode cX2_ofKind 33 = .ok (.aload_n 0, 1) := by decide +kernel
theorem dX2_ofKind_34 : decode cX2_ofKind 34 = .ok (.getfield 28, 3) := by decide +kernel
theorem dX2_ofKind_37 : decode cX2_ofKind 37 = .ok (.areturn, 1) := by decide +kernel
theorem dX2_ofKind_38 : decode cX2_ofKind 38 = .ok (.aload_n 0, 1) := by decide +kernel
theorem dX2_ofKind_39 : decode cX2_ofKind 39 = .ok (.getfield 21, 3) := by decide +kernel
theorem dX2_ofKind_42 : decode cX2_ofKind 42 = .ok (.areturn, 1) := by decide +kernel
theorem dX2_timesInRows_0 : decode cX2_timesInRows 0 = .ok (.aload_n 0, 1) := by decide +kernel
theorem dX2_timesInRows_1 : decode cX2_timesInRows 1 = .ok (.getfield 31, 3) := by decide +kernel
theorem dX2_timesInRows_4 : decode cX2_timesInRows 4 = .ok (.iload_n 1, 1) := by decide +kernel
theorem dX2_timesInRows_5 : decode cX2_timesInRows 5 = .ok (.bipush 15, 2) := by decide +kernel
theorem dX2_timesInRows_7 : decode cX2_timesInRows 7 = .ok (.iand, 1) := by decide +kernel
theorem dX2_timesInRows_8 : decode cX2_timesInRows 8 = .ok (.iaload, 1) := by decide +kernel
theorem dX2_timesInRows_9 : decode cX2_timesInRows 9 = .ok (.ireturn, 1) := by decide +kernel
theorem dX2_timesInColumns_0 : decode cX2_timesInColumns 0 = .ok (.aload_n 0, 1) := by decide +kernel
theorem dX2_timesInColumns_1 : decode cX2_timesInColumns 1 = .ok (.getfield 35, 3) := by decide +kernel
theorem dX2_timesInColumns_4 : decode cX2_timesInColumns 4 = .ok (.iload_n 1, 1) := by decide +kernel
theorem dX2_timesInColumns_5 : decode cX2_timesInColumns 5 = .ok (.bipush 15, 2) := by decide +kernel
theorem dX2_timesInColumns_7 : decode cX2_timesInColumns 7 = .ok (.iand, 1) := by decide +kernel
theorem dX2_timesInColumns_8 : decode cX2_timesInColumns 8 = .ok (.iaload, 1) := by decide +kernel
theorem dX2_timesInColumns_9 : decode cX2_timesInColumns 9 = .ok (.ireturn, 1) := by decide +kernel
theorem dX2_timesInSymmetric_0 : decode cX2_timesInSymmetric 0 = .ok (.aload_n 0, 1) := by decide +kernel
theorem dX2_timesInSymmetric_1 : decode cX2_timesInSymmetric 1 = .ok (.getfield 38, 3) := by decide +kernel
theorem dX2_timesInSymmetric_4 : decode cX2_timesInSymmetric 4 = .ok (.iload_n 1, 1) := by decide +kernel
theorem dX2_timesInSymmetric_5 : decode cX2_timesInSymmetric 5 = .ok (.bipush 15, 2) := by decide +kernel
theorem dX2_timesInSymmetric_7 : decode cX2_timesInSymmetric 7 = .ok (.iand, 1) := by decide +kernel
theorem dX2_timesInSymmetric_8 : decode cX2_timesInSymmetric 8 = .ok (.iaload, 1) := by decide +kernel
theorem dX2_timesInSymmetric_9 : decode cX2_timesInSymmetric 9 = .ok (.ireturn, 1) := by decide +kernel
theorem dX2_plainVisits_0 : decode cX2_plainVisits 0 = .ok (.aload_n 0, 1) := by decide +kernel
theorem dX2_plainVisits_1 : decode cX2_plainVisits 1 = .ok (.getfield 41, 3) := by decide +kernel
theorem dX2_plainVisits_4 : decode cX2_plainVisits 4 = .ok (.ireturn, 1) := by decide +kernel
theorem dX2_plainDead_0 : decode cX2_plainDead 0 = .ok (.aload_n 0, 1) := by decide +kernel
theorem dX2_plainDead_1 : decode cX2_plainDead 1 = .ok (.getfield 45, 3) := by decide +kernel
theorem dX2_plainDead_4 : decode cX2_plainDead 4 = .ok (.ireturn, 1) := by decide +kernel
theorem dX2_memoryVisits_0 : decode cX2_memoryVisits 0 = .ok (.aload_n 0, 1) := by decide +kernel
theorem dX2_memoryVisits_1 : decode cX2_memoryVisits 1 = .ok (.getfield 48, 3) := by decide +kernel
theorem dX2_memoryVisits_4 : decode cX2_memoryVisits 4 = .ok (.ireturn, 1) := by decide +kernel
theorem dX2_memoryCuts_0 : decode cX2_memoryCuts 0 = .ok (.aload_n 0, 1) := by decide +kernel
theorem dX2_memoryCuts_1 : decode cX2_memoryCuts 1 = .ok (.getfield 51, 3) := by decide +kernel
theorem dX2_memoryCuts_4 : decode cX2_memoryCuts 4 = .ok (.ireturn, 1) := by decide +kernel
theorem dX2_memorySize_0 : decode cX2_memorySize 0 = .ok (.aload_n 0, 1) := by decide +kernel
theorem dX2_memorySize_1 : decode cX2_memorySize 1 = .ok (.getfield 12, 3) := by decide +kernel
theorem dX2_memorySize_4 : decode cX2_memorySize 4 = .ok (.invokevirtual 67, 3) := by decide +kernel
theorem dX2_memorySize_7 : decode cX2_memorySize 7 = .ok (.ireturn, 1) := by decide +kernel
theorem dX2_run_0 : decode cX2_run 0 = .ok (.aload_n 0, 1) := by decide +kernel
theorem dX2_run_1 : decode cX2_run 1 = .ok (.invokevirtual 71, 3) := by decide +kernel
theorem dX2_run_4 : decode cX2_run 4 = .ok (.aload_n 0, 1) := by decide +kernel
theorem dX2_run_5 : decode cX2_run 5 = .ok (.getfield 54, 3) := by decide +kernel
theorem dX2_run_8 : decode cX2_run 8 = .ok (.invokevirtual 74, 3) := by decide +kernel
theorem dX2_run_11 : decode cX2_run 11 = .ok (.ifCond .le 25, 3) := by decide +kernel
theorem dX2_run_14 : decode cX2_run 14 = .ok (.aload_n 0, 1) := by decide +kernel
theorem dX2_run_15 : decode cX2_run 15 = .ok (.getfield 63, 3) := by decide +kernel
theorem dX2_run_18 : decode cX2_run 18 = .ok (.invokevirtual 77, 3) := by decide +kernel
theorem dX2_run_21 : decode cX2_run 21 = .ok (.aload_n 0, 1) := by decide +kernel
theorem dX2_run_22 : decode cX2_run 22 = .ok (.iconst 0, 1) := by decide +kernel
theorem dX2_run_23 : decode cX2_run 23 = .ok (.iconst 0, 1) := by decide +kernel
theorem dX2_run_24 : decode cX2_run 24 = .ok (.iconst 0, 1) := by decide +kernel
theorem dX2_run_25 : decode cX2_run 25 = .ok (.invokevirtual 80, 3) := by decide +kernel
theorem dX2_run_28 : decode cX2_run 28 = .ok (.pop, 1) := by decide +kernel
theorem dX2_run_29 : decode cX2_run 29 = .ok (.aload_n 0, 1) := by decide +kernel
theorem dX2_run_30 : decode cX2_run 30 = .ok (.iconst 0, 1) := by decide +kernel
theorem dX2_run_31 : decode cX2_run 31 = .ok (.iconst 0, 1) := by decide +kernel
theorem dX2_run_32 : decode cX2_run 32 = .ok (.invokevirtual 84, 3) := by decide +kernel
theorem dX2_run_35 : decode cX2_run 35 = .ok (.pop, 1) := by decide +kernel
theorem dX2_run_36 : decode cX2_run 36 = .ok (.return_, 1) := by decide +kernel
theorem dX2_clear_0 : decode cX2_clear 0 = .ok (.aload_n 0, 1) := by decide +kernel
theorem dX2_clear_1 : decode cX2_clear 1 = .ok (.getfield 12, 3) := by decide +kernel
theorem dX2_clear_4 : decode cX2_clear 4 = .ok (.invokevirtual 88, 3) := by decide +kernel
theorem dX2_clear_7 : decode cX2_clear 7 = .ok (.aload_n 0, 1) := by decide +kernel
theorem dX2_clear_8 : decode cX2_clear 8 = .ok (.getfield 21, 3) := by decide +kernel
theorem dX2_clear_11 : decode cX2_clear 11 = .ok (.invokevirtual 89, 3) := by decide +kernel
theorem dX2_clear_14 : decode cX2_clear 14 = .ok (.aload_n 0, 1) := by decide +kernel
theorem dX2_clear_15 : decode cX2_clear 15 = .ok (.getfield 25, 3) := by decide +kernel
theorem dX2_clear_18 : decode cX2_clear 18 = .ok (.invokevirtual 89, 3) := by decide +kernel
theorem dX2_clear_21 : decode cX2_clear 21 = .ok (.aload_n 0, 1) := by decide +kernel
theorem dX2_clear_22 : decode cX2_clear 22 = .ok (.getfield 28, 3) := by decide +kernel
theorem dX2_clear_25 : decode cX2_clear 25 = .ok (.invokevirtual 89, 3) := by decide +kernel
theorem dX2_clear_28 : decode cX2_clear 28 = .ok (.aload_n 0, 1) := by decide +kernel
theorem dX2_clear_29 : decode cX2_clear 29 = .ok (.getfield 31, 3) := by decide +kernel
theorem dX2_clear_32 : decode cX2_clear 32 = .ok (.iconst 0, 1) := by decide +kernel
theorem dX2_clear_33 : decode cX2_clear 33 = .ok (.invokestatic 90, 3) := by decide +kernel
theorem dX2_clear_36 : decode cX2_clear 36 = .ok (.aload_n 0, 1) := by decide +kernel
theorem dX2_clear_37 : decode cX2_clear 37 = .ok (.getfield 35, 3) := by decide +kernel
theorem dX2_clear_40 : decode cX2_clear 40 = .ok (.iconst 0, 1) := by decide +kernel
theorem dX2_clear_41 : decode cX2_clear 41 = .ok (.invokestatic 90, 3) := by decide +kernel
theorem dX2_clear_44 : decode cX2_clear 44 = .ok (.aload_n 0, 1) := by decide +kernel
theorem dX2_clear_45 : decode cX2_clear 45 = .ok (.getfield 38, 3) := by decide +kernel
theorem dX2_clear_48 : decode cX2_clear 48 = .ok (.iconst 0, 1) := by decide +kernel
theorem dX2_clear_49 : decode cX2_clear 49 = .ok (.invokestatic 90, 3) := by decide +kernel
theorem dX2_clear_52 : decode cX2_clear 52 = .ok (.aload_n 0, 1) := by decide +kernel
theorem dX2_clear_53 : decode cX2_clear 53 = .ok (.iconst 0, 1) := by decide +kernel
theorem dX2_clear_54 : decode cX2_clear 54 = .ok (.putfield 41, 3) := by decide +kernel
theorem dX2_clear_57 : decode cX2_clear 57 = .ok (.aload_n 0, 1) := by decide +kernel
theorem dX2_clear_58 : decode cX2_clear 58 = .ok (.iconst 0, 1) := by decide +kernel
theorem dX2_clear_59 : decode cX2_clear 59 = .ok (.putfield 45, 3) := by decide +kernel
theorem dX2_clear_62 : decode cX2_clear 62 = .ok (.aload_n 0, 1) := by decide +kernel
theorem dX2_clear_63 : decode cX2_clear 63 = .ok (.iconst 0, 1) := by decide +kernel
theorem dX2_clear_64 : decode cX2_clear 64 = .ok (.putfield 48, 3) := by decide +kernel
theorem dX2_clear_67 : decode cX2_clear 67 = .ok (.aload_n 0, 1) := by decide +kernel
theorem dX2_clear_68 : decode cX2_clear 68 = .ok (.iconst 0, 1) := by decide +kernel
theorem dX2_clear_69 : decode cX2_clear 69 = .ok (.putfield 51, 3) := by decide +kernel
theorem dX2_clear_72 : decode cX2_clear 72 = .ok (.return_, 1) := by decide +kernel
theorem dX2_explore_0 : decode cX2_explore 0 = .ok (.aload_n 0, 1) := by decide +kernel
theorem dX2_explore_1 : decode cX2_explore 1 = .ok (.dup, 1) := by decide +kernel
theorem dX2_explore_2 : decode cX2_explore 2 = .ok (.getfield 41, 3) := by decide +kernel
theorem dX2_explore_5 : decode cX2_explore 5 = .ok (.iconst 1, 1) := by decide +kernel
theorem dX2_explore_6 : decode cX2_explore 6 = .ok (.iadd, 1) := by decide +kernel
theorem dX2_explore_7 : decode cX2_explore 7 = .ok (.putfield 41, 3) := by decide +kernel
theorem dX2_explore_10 : decode cX2_explore 10 = .ok (.iload_n 1, 1) := by decide +kernel
theorem dX2_explore_11 : decode cX2_explore 11 = .ok (.aload_n 0, 1) := by decide +kernel
theorem dX2_explore_12 : decode cX2_explore 12 = .ok (.getfield 54, 3) := by decide +kernel
theorem dX2_explore_15 : decode cX2_explore 15 = .ok (.invokevirtual 96, 3) := by decide +kernel
theorem dX2_explore_18 : decode cX2_explore 18 = .ok (.if_icmp .lt 11, 3) := by decide +kernel
theorem dX2_explore_21 : decode cX2_explore 21 = .ok (.aload_n 0, 1) := by decide +kernel
theorem dX2_explore_22 : decode cX2_explore 22 = .ok (.iload_n 2, 1) := by decide +kernel
theorem dX2_explore_23 : decode cX2_explore 23 = .ok (.iload_n 3, 1) := by decide +kernel
theorem dX2_explore_24 : decode cX2_explore 24 = .ok (.invokevirtual 99, 3) := by decide +kernel
theorem dX2_explore_27 : decode cX2_explore 27 = .ok (.iconst 1, 1) := by decide +kernel
theorem dX2_explore_28 : decode cX2_explore 28 = .ok (.ireturn, 1) := by decide +kernel
theorem dX2_explore_29 : decode cX2_explore 29 = .ok (.aload_n 0, 1) := by decide +kernel
theorem dX2_explore_30 : decode cX2_explore 30 = .ok (.getfield 63, 3) := by decide +kernel
theorem dX2_explore_33 : decode cX2_explore 33 = .ok (.iload_n 1, 1) := by decide +kernel
theorem dX2_explore_34 : decode cX2_explore 34 = .ok (.iload_n 3, 1) := by decide +kernel
theorem dX2_explore_35 : decode cX2_explore 35 = .ok (.invokevirtual 103, 3) := by decide +kernel
theorem dX2_explore_38 : decode cX2_explore 38 = .ok (.istore 4, 2) := by decide +kernel
theorem dX2_explore_40 : decode cX2_explore 40 = .ok (.iconst 0, 1) := by decide +kernel
theorem dX2_explore_41 : decode cX2_explore 41 = .ok (.istore 5, 2) := by decide +kernel
theorem dX2_explore_43 : decode cX2_explore 43 = .ok (.iconst 0, 1) := by decide +kernel
theorem dX2_explore_44 : decode cX2_explore 44 = .ok (.istore 6, 2) := by decide +kernel
theorem dX2_explore_46 : decode cX2_explore 46 = .ok (.iload 6, 2) := by decide +kernel
theorem dX2_explore_48 : decode cX2_explore 48 = .ok (.aload_n 0, 1) := by decide +kernel
theorem dX2_explore_49 : decode cX2_explore 49 = .ok (.getfield 54, 3) := by decide +kernel
theorem dX2_explore_52 : decode cX2_explore 52 = .ok (.invokevirtual 74, 3) := by decide +kernel
theorem dX2_explore_55 : decode cX2_explore 55 = .ok (.if_icmp .ge 49, 3) := by decide +kernel
theorem dX2_explore_58 : decode cX2_explore 58 = .ok (.iload 4, 2) := by decide +kernel
theorem dX2_explore_60 : decode cX2_explore 60 = .ok (.iload 6, 2) := by decide +kernel
theorem dX2_explore_62 : decode cX2_explore 62 = .ok (.ishr, 1) := by decide +kernel
theorem dX2_explore_63 : decode cX2_explore 63 = .ok (.iconst 1, 1) := by decide +kernel
theorem dX2_explore_64 : decode cX2_explore 64 = .ok (.iand, 1) := by decide +kernel
theorem dX2_explore_65 : decode cX2_explore 65 = .ok (.ifCond .eq 33, 3) := by decide +kernel
theorem dX2_explore_68 : decode cX2_explore 68 = .ok (.aload_n 0, 1) := by decide +kernel
theorem dX2_explore_69 : decode cX2_explore 69 = .ok (.iload_n 1, 1) := by decide +kernel
theorem dX2_explore_70 : decode cX2_explore 70 = .ok (.iconst 1, 1) := by decide +kernel
theorem dX2_explore_71 : decode cX2_explore 71 = .ok (.iadd, 1) := by decide +kernel
theorem dX2_explore_72 : decode cX2_explore 72 = .ok (.iload_n 2, 1) := by decide +kernel
theorem dX2_explore_73 : decode cX2_explore 73 = .ok (.iconst 4, 1) := by decide +kernel
theorem dX2_explore_74 : decode cX2_explore 74 = .ok (.ishl, 1) := by decide +kernel
theorem dX2_explore_75 : decode cX2_explore 75 = .ok (.iload 6, 2) := by decide +kernel
theorem dX2_explore_77 : decode cX2_explore 77 = .ok (.ior, 1) := by decide +kernel
theorem dX2_explore_78 : decode cX2_explore 78 = .ok (.aload_n 0, 1) := by decide +kernel
theorem dX2_explore_79 : decode cX2_explore 79 = .ok (.getfield 63, 3) := by decide +kernel
theorem dX2_explore_82 : decode cX2_explore 82 = .ok (.iload_n 1, 1) := by decide +kernel
theorem dX2_explore_83 : decode cX2_explore 83 = .ok (.iload_n 3, 1) := by decide +kernel
theorem dX2_explore_84 : decode cX2_explore 84 = .ok (.iload 6, 2) := by decide +kernel
theorem dX2_explore_86 : decode cX2_explore 86 = .ok (.invokevirtual 107, 3) := by decide +kernel
theorem dX2_explore_89 : decode cX2_explore 89 = .ok (.invokevirtual 80, 3) := by decide +kernel
theorem dX2_explore_92 : decode cX2_explore 92 = .ok (.ifCond .eq 6, 3) := by decide +kernel
theorem dX2_explore_95 : decode cX2_explore 95 = .ok (.iconst 1, 1) := by decide +kernel
theorem dX2_explore_96 : decode cX2_explore 96 = .ok (.istore 5, 2) := by decide +kernel
theorem dX2_explore_98 : decode cX2_explore 98 = .ok (.iinc 6 1, 3) := by decide +kernel
theorem dX2_explore_101 : decode cX2_explore 101 = .ok (.goto (-55), 3) := by decide +kernel
theorem dX2_explore_104 : decode cX2_explore 104 = .ok (.iload 5, 2) := by decide +kernel
theorem dX2_explore_106 : decode cX2_explore 106 = .ok (.ifCond .ne 13, 3) := by decide +kernel
theorem dX2_explore_109 : decode cX2_explore 109 = .ok (.aload_n 0, 1) := by decide +kernel
theorem dX2_explore_110 : decode cX2_explore 110 = .ok (.dup, 1) := by decide +kernel
theorem dX2_explore_111 : decode cX2_explore 111 = .ok (.getfield 45, 3) := by decide +kernel
theorem dX2_explore_114 : decode cX2_explore 114 = .ok (.iconst 1, 1) := by decide +kernel
theorem dX2_explore_115 : decode cX2_explore 115 = .ok (.iadd, 1) := by decide +kernel
theorem dX2_explore_116 : decode cX2_explore 116 = .ok (.putfield 45, 3) := by decide +kernel
theorem dX2_explore_119 : decode cX2_explore 119 = .ok (.iload 5, 2) := by decide +kernel
theorem dX2_explore_121 : decode cX2_explore 121 = .ok (.ireturn, 1) := by decide +kernel
theorem dX2_exploreWithMemory_0 : decode cX2_exploreWithMemory 0 = .ok (.aload_n 0, 1) := by decide +kernel
theorem dX2_exploreWithMemory_1 : decode cX2_exploreWithMemory 1 = .ok (.dup, 1) := by decide +kernel
theorem dX2_exploreWithMemory_2 : decode cX2_exploreWithMemory 2 = .ok (.getfield 48, 3) := by decide +kernel
theorem dX2_exploreWithMemory_5 : decode cX2_exploreWithMemory 5 = .ok (.iconst 1, 1) := by decide +kernel
theorem dX2_exploreWithMemory_6 : decode cX2_exploreWithMemory 6 = .ok (.iadd, 1) := by decide +kernel
theorem dX2_exploreWithMemory_7 : decode cX2_exploreWithMemory 7 = .ok (.putfield 48, 3) := by decide +kernel
theorem dX2_exploreWithMemory_10 : decode cX2_exploreWithMemory 10 = .ok (.iload_n 1, 1) := by decide +kernel
theorem dX2_exploreWithMemory_11 : decode cX2_exploreWithMemory 11 = .ok (.aload_n 0, 1) := by decide +kernel
theorem dX2_exploreWithMemory_12 : decode cX2_exploreWithMemory 12 = .ok (.getfield 54, 3) := by decide +kernel
theorem dX2_exploreWithMemory_15 : decode cX2_exploreWithMemory 15 = .ok (.invokevirtual 96, 3) := by decide +kernel
theorem dX2_exploreWithMemory_18 : decode cX2_exploreWithMemory 18 = .ok (.if_icmp .lt 5, 3) := by decide +kernel
theorem dX2_exploreWithMemory_21 : decode cX2_exploreWithMemory 21 = .ok (.iconst 1, 1) := by decide +kernel
theorem dX2_exploreWithMemory_22 : decode cX2_exploreWithMemory 22 = .ok (.ireturn, 1) := by decide +kernel
theorem dX2_exploreWithMemory_23 : decode cX2_exploreWithMemory 23 = .ok (.aload_n 0, 1) := by decide +kernel
theorem dX2_exploreWithMemory_24 : decode cX2_exploreWithMemory 24 = .ok (.getfield 63, 3) := by decide +kernel
theorem dX2_exploreWithMemory_27 : decode cX2_exploreWithMemory 27 = .ok (.iload_n 1, 1) := by decide +kernel
theorem dX2_exploreWithMemory_28 : decode cX2_exploreWithMemory 28 = .ok (.iload_n 2, 1) := by decide +kernel
theorem dX2_exploreWithMemory_29 : decode cX2_exploreWithMemory 29 = .ok (.invokevirtual 111, 3) := by decide +kernel
theorem dX2_exploreWithMemory_32 : decode cX2_exploreWithMemory 32 = .ok (.istore_n 3, 1) := by decide +kernel
theorem dX2_exploreWithMemory_33 : decode cX2_exploreWithMemory 33 = .ok (.aload_n 0, 1) := by decide +kernel
theorem dX2_exploreWithMemory_34 : decode cX2_exploreWithMemory 34 = .ok (.getfield 12, 3) := by decide +kernel
theorem dX2_exploreWithMemory_37 : decode cX2_exploreWithMemory 37 = .ok (.iload_n 3, 1) := by decide +kernel
theorem dX2_exploreWithMemory_38 : decode cX2_exploreWithMemory 38 = .ok (.invokevirtual 114, 3) := by decide +kernel
theorem dX2_exploreWithMemory_41 : decode cX2_exploreWithMemory 41 = .ok (.ifCond .eq 15, 3) := by decide +kernel
theorem dX2_exploreWithMemory_44 : decode cX2_exploreWithMemory 44 = .ok (.aload_n 0, 1) := by decide +kernel
theorem dX2_exploreWithMemory_45 : decode cX2_exploreWithMemory 45 = .ok (.dup, 1) := by decide +kernel
theorem dX2_exploreWithMemory_46 : decode cX2_exploreWithMemory 46 = .ok (.getfield 51, 3) := by decide +kernel
theorem dX2_exploreWithMemory_49 : decode cX2_exploreWithMemory 49 = .ok (.iconst 1, 1) := by decide +kernel
theorem dX2_exploreWithMemory_50 : decode cX2_exploreWithMemory 50 = .ok (.iadd, 1) := by decide +kernel
theorem dX2_exploreWithMemory_51 : decode cX2_exploreWithMemory 51 = .ok (.putfield 51, 3) := by decide +kernel
theorem dX2_exploreWithMemory_54 : decode cX2_exploreWithMemory 54 = .ok (.iconst 0, 1) := by decide +kernel
theorem dX2_exploreWithMemory_55 : decode cX2_exploreWithMemory 55 = .ok (.ireturn, 1) := by decide +kernel
theorem dX2_exploreWithMemory_56 : decode cX2_exploreWithMemory 56 = .ok (.aload_n 0, 1) := by decide +kernel
theorem dX2_exploreWithMemory_57 : decode cX2_exploreWithMemory 57 = .ok (.getfield 63, 3) := by decide +kernel
theorem dX2_exploreWithMemory_60 : decode cX2_exploreWithMemory 60 = .ok (.iload_n 1, 1) := by decide +kernel
theorem dX2_exploreWithMemory_61 : decode cX2_exploreWithMemory 61 = .ok (.iload_n 2, 1) := by decide +kernel
theorem dX2_exploreWithMemory_62 : decode cX2_exploreWithMemory 62 = .ok (.invokevirtual 103, 3) := by decide +kernel
theorem dX2_exploreWithMemory_65 : decode cX2_exploreWithMemory 65 = .ok (.istore 4, 2) := by decide +kernel
theorem dX2_exploreWithMemory_67 : decode cX2_exploreWithMemory 67 = .ok (.iconst 0, 1) := by decide +kernel
theorem dX2_exploreWithMemory_68 : decode cX2_exploreWithMemory 68 = .ok (.istore 5, 2) := by decide +kernel
theorem dX2_exploreWithMemory_70 : decode cX2_exploreWithMemory 70 = .ok (.iconst 0, 1) := by decide +kernel
theorem dX2_exploreWithMemory_71 : decode cX2_exploreWithMemory 71 = .ok (.istore 6, 2) := by decide +kernel
theorem dX2_exploreWithMemory_73 : decode cX2_exploreWithMemory 73 = .ok (.iload 6, 2) := by decide +kernel
theorem dX2_exploreWithMemory_75 : decode cX2_exploreWithMemory 75 = .ok (.aload_n 0, 1) := by decide +kernel
theorem dX2_exploreWithMemory_76 : decode cX2_exploreWithMemory 76 = .ok (.getfield 54, 3) := by decide +kernel
theorem dX2_exploreWithMemory_79 : decode cX2_exploreWithMemory 79 = .ok (.invokevirtual 74, 3) := by decide +kernel
theorem dX2_exploreWithMemory_82 : decode cX2_exploreWithMemory 82 = .ok (.if_icmp .ge 43, 3) := by decide +kernel
theorem dX2_exploreWithMemory_85 : decode cX2_exploreWithMemory 85 = .ok (.iload 4, 2) := by decide +kernel
theorem dX2_exploreWithMemory_87 : decode cX2_exploreWithMemory 87 = .ok (.iload 6, 2) := by decide +kernel
theorem dX2_exploreWithMemory_89 : decode cX2_exploreWithMemory 89 = .ok (.ishr, 1) := by decide +kernel
theorem dX2_exploreWithMemory_90 : decode cX2_exploreWithMemory 90 = .ok (.iconst 1, 1) := by decide +kernel
theorem dX2_exploreWithMemory_91 : decode cX2_exploreWithMemory 91 = .ok (.iand, 1) := by decide +kernel
theorem dX2_exploreWithMemory_92 : decode cX2_exploreWithMemory 92 = .ok (.ifCond .eq 27, 3) := by decide +kernel
theorem dX2_exploreWithMemory_95 : decode cX2_exploreWithMemory 95 = .ok (.aload_n 0, 1) := by decide +kernel
theorem dX2_exploreWithMemory_96 : decode cX2_exploreWithMemory 96 = .ok (.iload_n 1, 1) := by decide +kernel
theorem dX2_exploreWithMemory_97 : decode cX2_exploreWithMemory 97 = .ok (.iconst 1, 1) := by decide +kernel
theorem dX2_exploreWithMemory_98 : decode cX2_exploreWithMemory 98 = .ok (.iadd, 1) := by decide +kernel
theorem dX2_exploreWithMemory_99 : decode cX2_exploreWithMemory 99 = .ok (.aload_n 0, 1) := by decide +kernel
theorem dX2_exploreWithMemory_100 : decode cX2_exploreWithMemory 100 = .ok (.getfield 63, 3) := by decide +kernel
theorem dX2_exploreWithMemory_103 : decode cX2_exploreWithMemory 103 = .ok (.iload_n 1, 1) := by decide +kernel
theorem dX2_exploreWithMemory_104 : decode cX2_exploreWithMemory 104 = .ok (.iload_n 2, 1) := by decide +kernel
theorem dX2_exploreWithMemory_105 : decode cX2_exploreWithMemory 105 = .ok (.iload 6, 2) := by decide +kernel
theorem dX2_exploreWithMemory_107 : decode cX2_exploreWithMemory 107 = .ok (.invokevirtual 107, 3) := by decide +kernel
theorem dX2_exploreWithMemory_110 : decode cX2_exploreWithMemory 110 = .ok (.invokevirtual 84, 3) := by decide +kernel
theorem dX2_exploreWithMemory_113 : decode cX2_exploreWithMemory 113 = .ok (.ifCond .eq 6, 3) := by decide +kernel
theorem dX2_exploreWithMemory_116 : decode cX2_exploreWithMemory 116 = .ok (.iconst 1, 1) := by decide +kernel
theorem dX2_exploreWithMemory_117 : decode cX2_exploreWithMemory 117 = .ok (.istore 5, 2) := by decide +kernel
theorem dX2_exploreWithMemory_119 : decode cX2_exploreWithMemory 119 = .ok (.iinc 6 1, 3) := by decide +kernel
theorem dX2_exploreWithMemory_122 : decode cX2_exploreWithMemory 122 = .ok (.goto (-49), 3) := by decide +kernel
theorem dX2_exploreWithMemory_125 : decode cX2_exploreWithMemory 125 = .ok (.iload 5, 2) := by decide +kernel
theorem dX2_exploreWithMemory_127 : decode cX2_exploreWithMemory 127 = .ok (.ifCond .ne 11, 3) := by decide +kernel
theorem dX2_exploreWithMemory_130 : decode cX2_exploreWithMemory 130 = .ok (.aload_n 0, 1) := by decide +kernel
theorem dX2_exploreWithMemory_131 : decode cX2_exploreWithMemory 131 = .ok (.getfield 12, 3) := by decide +kernel
theorem dX2_exploreWithMemory_134 : decode cX2_exploreWithMemory 134 = .ok (.iload_n 3, 1) := by decide +kernel
theorem dX2_exploreWithMemory_135 : decode cX2_exploreWithMemory 135 = .ok (.invokevirtual 118, 3) := by decide +kernel
theorem dX2_exploreWithMemory_138 : decode cX2_exploreWithMemory 138 = .ok (.iload 5, 2) := by decide +kernel
theorem dX2_exploreWithMemory_140 : decode cX2_exploreWithMemory 140 = .ok (.ireturn, 1) := by decide +kernel
theorem dX2_keep_0 : decode cX2_keep 0 = .ok (.aload_n 0, 1) := by decide +kernel
theorem dX2_keep_1 : decode cX2_keep 1 = .ok (.getfield 21, 3) := by decide +kernel
theorem dX2_keep_4 : decode cX2_keep 4 = .ok (.iload_n 1, 1) := by decide +kernel
theorem dX2_keep_5 : decode cX2_keep 5 = .ok (.iload_n 2, 1) := by decide +kernel
theorem dX2_keep_6 : decode cX2_keep 6 = .ok (.invokevirtual 122, 3) := by decide +kernel
theorem dX2_keep_9 : decode cX2_keep 9 = .ok (.iconst 0, 1) := by decide +kernel
theorem dX2_keep_10 : decode cX2_keep 10 = .ok (.istore_n 3, 1) := by decide +kernel
theorem dX2_keep_11 : decode cX2_keep 11 = .ok (.iconst 0, 1) := by decide +kernel
theorem dX2_keep_12 : decode cX2_keep 12 = .ok (.istore 4, 2) := by decide +kernel
theorem dX2_keep_14 : decode cX2_keep 14 = .ok (.iconst 0, 1) := by decide +kernel
theorem dX2_keep_15 : decode cX2_keep 15 = .ok (.istore 5, 2) := by decide +kernel
theorem dX2_keep_17 : decode cX2_keep 17 = .ok (.iload 5, 2) := by decide +kernel
theorem dX2_keep_19 : decode cX2_keep 19 = .ok (.aload_n 0, 1) := by decide +kernel
theorem dX2_keep_20 : decode cX2_keep 20 = .ok (.getfield 54, 3) := by decide +kernel
theorem dX2_keep_23 : decode cX2_keep 23 = .ok (.invokevirtual 96, 3) := by decide +kernel
theorem dX2_keep_26 : decode cX2_keep 26 = .ok (.if_icmp .ge 77, 3) := by decide +kernel
theorem dX2_keep_29 : decode cX2_keep 29 = .ok (.iload_n 1, 1) := by decide +kernel
theorem dX2_keep_30 : decode cX2_keep 30 = .ok (.iload 5, 2) := by decide +kernel
theorem dX2_keep_32 : decode cX2_keep 32 = .ok (.aload_n 0, 1) := by decide +kernel
theorem dX2_keep_33 : decode cX2_keep 33 = .ok (.getfield 54, 3) := by decide +kernel
theorem dX2_keep_36 : decode cX2_keep 36 = .ok (.invokevirtual 96, 3) := by decide +kernel
theorem dX2_keep_39 : decode cX2_keep 39 = .ok (.invokestatic 125, 3) := by decide +kernel
theorem dX2_keep_42 : decode cX2_keep 42 = .ok (.istore 6, 2) := by decide +kernel
theorem dX2_keep_44 : decode cX2_keep 44 = .ok (.iload_n 2, 1) := by decide +kernel
theorem dX2_keep_45 : decode cX2_keep 45 = .ok (.iload 5, 2) := by decide +kernel
theorem dX2_keep_47 : decode cX2_keep 47 = .ok (.aload_n 0, 1) := by decide +kernel
theorem dX2_keep_48 : decode cX2_keep 48 = .ok (.getfield 54, 3) := by decide +kernel
theorem dX2_keep_51 : decode cX2_keep 51 = .ok (.invokevirtual 96, 3) := by decide +kernel
theorem dX2_keep_54 : decode cX2_keep 54 = .ok (.invokestatic 125, 3) := by decide +kernel
theorem dX2_keep_57 : decode cX2_keep 57 = .ok (.istore 7, 2) := by decide +kernel
theorem dX2_keep_59 : decode cX2_keep 59 = .ok (.aload_n 0, 1) := by decide +kernel
theorem dX2_keep_60 : decode cX2_keep 60 = .ok (.getfield 31, 3) := by decide +kernel
theorem dX2_keep_63 : decode cX2_keep 63 = .ok (.iload 6, 2) := by decide +kernel
theorem dX2_keep_65 : decode cX2_keep 65 = .ok (.dup2, 1) := by decide +kernel
theorem dX2_keep_66 : decode cX2_keep 66 = .ok (.iaload, 1) := by decide +kernel
theorem dX2_keep_67 : decode cX2_keep 67 = .ok (.iconst 1, 1) := by decide +kernel
theorem dX2_keep_68 : decode cX2_keep 68 = .ok (.iadd, 1) := by decide +kernel
theorem dX2_keep_69 : decode cX2_keep 69 = .ok (.iastore, 1) := by decide +kernel
theorem dX2_keep_70 : decode cX2_keep 70 = .ok (.aload_n 0, 1) := by decide +kernel
theorem dX2_keep_71 : decode cX2_keep 71 = .ok (.getfield 35, 3) := by decide +kernel
theorem dX2_keep_74 : decode cX2_keep 74 = .ok (.iload 7, 2) := by decide +kernel
theorem dX2_keep_76 : decode cX2_keep 76 = .ok (.dup2, 1) := by decide +kernel
theorem dX2_keep_77 : decode cX2_keep 77 = .ok (.iaload, 1) := by decide +kernel
theorem dX2_keep_78 : decode cX2_keep 78 = .ok (.iconst 1, 1) := by decide +kernel
theorem dX2_keep_79 : decode cX2_keep 79 = .ok (.iadd, 1) := by decide +kernel
theorem dX2_keep_80 : decode cX2_keep 80 = .ok (.iastore, 1) := by decide +kernel
theorem dX2_keep_81 : decode cX2_keep 81 = .ok (.iload_n 3, 1) := by decide +kernel
theorem dX2_keep_82 : decode cX2_keep 82 = .ok (.iconst 1, 1) := by decide +kernel
theorem dX2_keep_83 : decode cX2_keep 83 = .ok (.iload 6, 2) := by decide +kernel
theorem dX2_keep_85 : decode cX2_keep 85 = .ok (.ishl, 1) := by decide +kernel
theorem dX2_keep_86 : decode cX2_keep 86 = .ok (.ior, 1) := by decide +kernel
theorem dX2_keep_87 : decode cX2_keep 87 = .ok (.istore_n 3, 1) := by decide +kernel
theorem dX2_keep_88 : decode cX2_keep 88 = .ok (.iload 4, 2) := by decide +kernel
theorem dX2_keep_90 : decode cX2_keep 90 = .ok (.iconst 1, 1) := by decide +kernel
theorem dX2_keep_91 : decode cX2_keep 91 = .ok (.iload 7, 2) := by decide +kernel
theorem dX2_keep_93 : decode cX2_keep 93 = .ok (.ishl, 1) := by decide +kernel
theorem dX2_keep_94 : decode cX2_keep 94 = .ok (.ior, 1) := by decide +kernel
theorem dX2_keep_95 : decode cX2_keep 95 = .ok (.istore 4, 2) := by decide +kernel
theorem dX2_keep_97 : decode cX2_keep 97 = .ok (.iinc 5 1, 3) := by decide +kernel
theorem dX2_keep_100 : decode cX2_keep 100 = .ok (.goto (-83), 3) := by decide +kernel
theorem dX2_keep_103 : decode cX2_keep 103 = .ok (.iload_n 1, 1) := by decide +kernel
theorem dX2_keep_104 : decode cX2_keep 104 = .ok (.iload_n 2, 1) := by decide +kernel
theorem dX2_keep_105 : decode cX2_keep 105 = .ok (.if_icmp .ne 17, 3) := by decide +kernel
theorem dX2_keep_108 : decode cX2_keep 108 = .ok (.aload_n 0, 1) := by decide +kernel
theorem dX2_keep_109 : decode cX2_keep 109 = .ok (.getfield 25, 3) := by decide +kernel
theorem dX2_keep_112 : decode cX2_keep 112 = .ok (.iload_n 1, 1) := by decide +kernel
theorem dX2_keep_113 : decode cX2_keep 113 = .ok (.iload_n 2, 1) := by decide +kernel
theorem dX2_keep_114 : decode cX2_keep 114 = .ok (.invokevirtual 122, 3) := by decide +kernel
theorem dX2_keep_117 : decode cX2_keep 117 = .ok (.aload_n 0, 1) := by decide +kernel
theorem dX2_keep_118 : decode cX2_keep 118 = .ok (.iload_n 3, 1) := by decide +kernel
theorem dX2_keep_119 : decode cX2_keep 119 = .ok (.invokevirtual 128, 3) := by decide +kernel
theorem dX2_keep_122 : decode cX2_keep 122 = .ok (.iload_n 3, 1) := by decide +kernel
theorem dX2_keep_123 : decode cX2_keep 123 = .ok (.invokestatic 131, 3) := by decide +kernel
theorem dX2_keep_126 : decode cX2_keep 126 = .ok (.iload 4, 2) := by decide +kernel
theorem dX2_keep_128 : decode cX2_keep 128 = .ok (.invokestatic 131, 3) := by decide +kernel
theorem dX2_keep_131 : decode cX2_keep 131 = .ok (.iadd, 1) := by decide +kernel
theorem dX2_keep_132 : decode cX2_keep 132 = .ok (.iconst 2, 1) := by decide +kernel
theorem dX2_keep_133 : decode cX2_keep 133 = .ok (.aload_n 0, 1) := by decide +kernel
theorem dX2_keep_134 : decode cX2_keep 134 = .ok (.getfield 54, 3) := by decide +kernel
theorem dX2_keep_137 : decode cX2_keep 137 = .ok (.invokevirtual 96, 3) := by decide +kernel
theorem dX2_keep_140 : decode cX2_keep 140 = .ok (.imul, 1) := by decide +kernel
theorem dX2_keep_141 : decode cX2_keep 141 = .ok (.if_icmp .ne 19, 3) := by decide +kernel
theorem dX2_keep_144 : decode cX2_keep 144 = .ok (.iload_n 3, 1) := by decide +kernel
theorem dX2_keep_145 : decode cX2_keep 145 = .ok (.iload 4, 2) := by decide +kernel
theorem dX2_keep_147 : decode cX2_keep 147 = .ok (.iand, 1) := by decide +kernel
theorem dX2_keep_148 : decode cX2_keep 148 = .ok (.ifCond .ne 12, 3) := by decide +kernel
theorem dX2_keep_151 : decode cX2_keep 151 = .ok (.aload_n 0, 1) := by decide +kernel
theorem dX2_keep_152 : decode cX2_keep 152 = .ok (.getfield 28, 3) := by decide +kernel
theorem dX2_keep_155 : decode cX2_keep 155 = .ok (.iload_n 1, 1) := by decide +kernel
theorem dX2_keep_156 : decode cX2_keep 156 = .ok (.iload_n 2, 1) := by decide +kernel
theorem dX2_keep_157 : decode cX2_keep 157 = .ok (.invokevirtual 122, 3) := by decide +kernel
theorem dX2_keep_160 : decode cX2_keep 160 = .ok (.return_, 1) := by decide +kernel
theorem dX2_countSymmetric_0 : decode cX2_countSymmetric 0 = .ok (.iconst 0, 1) := by decide +kernel
theorem dX2_countSymmetric_1 : decode cX2_countSymmetric 1 = .ok (.istore_n 2, 1) := by decide +kernel
theorem dX2_countSymmetric_2 : decode cX2_countSymmetric 2 = .ok (.iload_n 2, 1) := by decide +kernel
theorem dX2_countSymmetric_3 : decode cX2_countSymmetric 3 = .ok (.bipush 16, 2) := by decide +kernel
theorem dX2_countSymmetric_5 : decode cX2_countSymmetric 5 = .ok (.if_icmp .ge 23, 3) := by decide +kernel
theorem dX2_countSymmetric_8 : decode cX2_countSymmetric 8 = .ok (.aload_n 0, 1) := by decide +kernel
theorem dX2_countSymmetric_9 : decode cX2_countSymmetric 9 = .ok (.getfield 38, 3) := by decide +kernel
theorem dX2_countSymmetric_12 : decode cX2_countSymmetric 12 = .ok (.iload_n 2, 1) := by decide +kernel
theorem dX2_countSymmetric_13 : decode cX2_countSymmetric 13 = .ok (.dup2, 1) := by decide +kernel
theorem dX2_countSymmetric_14 : decode cX2_countSymmetric 14 = .ok (.iaload, 1) := by decide +kernel
theorem dX2_countSymmetric_15 : decode cX2_countSymmetric 15 = .ok (.iload_n 1, 1) := by decide +kernel
theorem dX2_countSymmetric_16 : decode cX2_countSymmetric 16 = .ok (.iload_n 2, 1) := by decide +kernel
theorem dX2_countSymmetric_17 : decode cX2_countSymmetric 17 = .ok (.ishr, 1) := by decide +kernel
theorem dX2_countSymmetric_18 : decode cX2_countSymmetric 18 = .ok (.iconst 1, 1) := by decide +kernel
theorem dX2_countSymmetric_19 : decode cX2_countSymmetric 19 = .ok (.iand, 1) := by decide +kernel
theorem dX2_countSymmetric_20 : decode cX2_countSymmetric 20 = .ok (.iadd, 1) := by decide +kernel
theorem dX2_countSymmetric_21 : decode cX2_countSymmetric 21 = .ok (.iastore, 1) := by decide +kernel
theorem dX2_countSymmetric_22 : decode cX2_countSymmetric 22 = .ok (.iinc 2 1, 3) := by decide +kernel
theorem dX2_countSymmetric_25 : decode cX2_countSymmetric 25 = .ok (.goto (-23), 3) := by decide +kernel
theorem dX2_countSymmetric_28 : decode cX2_countSymmetric 28 = .ok (.return_, 1) := by decide +kernel
theorem dX3_init_0 : decode cX3_init 0 = .ok (.aload_n 0, 1) := by decide +kernel
theorem dX3_init_1 : decode cX3_init 1 = .ok (.invokespecial 3, 3) := by decide +kernel
theorem dX3_init_4 : decode cX3_init 4 = .ok (.aload_n 0, 1) := by decide +kernel
theorem dX3_init_5 : decode cX3_init 5 = .ok (.iconst 4, 1) := by decide +kernel
theorem dX3_init_6 : decode cX3_init 6 = .ok (.sipush 512, 3) := by decide +kernel
theorem dX3_init_9 : decode cX3_init 9 = .ok (.multianewarray 9 2, 4) := by decide +kernel
theorem dX3_init_13 : decode cX3_init 13 = .ok (.putfield 11, 3) := by decide +kernel
theorem dX3_init_16 : decode cX3_init 16 = .ok (.aload_n 0, 1) := by decide +kernel
theorem dX3_init_17 : decode cX3_init 17 = .ok (.iconst 4, 1) := by decide +kernel
theorem dX3_init_18 : decode cX3_init 18 = .ok (.bipush 64, 2) := by decide +kernel
theorem dX3_init_20 : decode cX3_init 20 = .ok (.multianewarray 9 2, 4) := by decide +kernel
theorem dX3_init_24 : decode cX3_init 24 = .ok (.putfield 16, 3) := by decide +kernel
theorem dX3_init_27 : decode cX3_init 27 = .ok (.aload_n 0, 1) := by decide +kernel
theorem dX3_init_28 : decode cX3_init 28 = .ok (.iconst 4, 1) := by decide +kernel
theorem dX3_init_29 : decode cX3_init 29 = .ok (.bipush 16, 2) := by decide +kernel
theorem dX3_init_31 : decode cX3_init 31 = .ok (.multianewarray 9 2, 4) := by decide +kernel
theorem dX3_init_35 : decode cX3_init 35 = .ok (.putfield 19, 3) := by decide +kernel
theorem dX3_init_38 : decode cX3_init 38 = .ok (.aload_n 0, 1) := by decide +kernel
theorem dX3_init_39 : decode cX3_init 39 = .ok (.aload_n 1, 1) := by decide +kernel
theorem dX3_init_40 : decode cX3_init 40 = .ok (.putfield 22, 3) := by decide +kernel
theorem dX3_init_43 : decode cX3_init 43 = .ok (.return_, 1) := by decide +kernel
theorem dX3_build_0 : decode cX3_build 0 = .ok (.iconst 0, 1) := by decide +kernel
theorem dX3_build_1 : decode cX3_build 1 = .ok (.istore_n 1, 1) := by decide +kernel
theorem dX3_build_2 : decode cX3_build 2 = .ok (.iload_n 1, 1) := by decide +kernel
theorem dX3_build_3 : decode cX3_build 3 = .ok (.aload_n 0, 1) := by decide +kernel
theorem dX3_build_4 : decode cX3_build 4 = .ok (.getfield 22, 3) := by decide +kernel
theorem dX3_build_7 : decode cX3_build 7 = .ok (.invokevirtual 26, 3) := by decide +kernel
theorem dX3_build_10 : decode cX3_build 10 = .ok (.if_icmp .ge 70, 3) := by decide +kernel
theorem dX3_build_13 : decode cX3_build 13 = .ok (.iload_n 1, 1) := by decide +kernel
theorem dX3_build_14 : decode cX3_build 14 = .ok (.iconst 4, 1) := by decide +kernel
theorem dX3_build_15 : decode cX3_build 15 = .ok (.if_icmp .ge 65, 3) := by decide +kernel
theorem dX3_build_18 : decode cX3_build 18 = .ok (.aload_n 0, 1) := by decide +kernel
theorem dX3_build_19 : decode cX3_build 19 = .ok (.iload_n 1, 1) := by decide +kernel
theorem dX3_build_20 : decode cX3_build 20 = .ok (.invokevirtual 32, 3) := by decide +kernel
theorem dX3_build_23 : decode cX3_build 23 = .ok (.iconst 0, 1) := by decide +kernel
theorem dX3_build_24 : decode cX3_build 24 = .ok (.istore_n 2, 1) := by decide +kernel
theorem dX3_build_25 : decode cX3_build 25 = .ok (.iload_n 2, 1) := by decide +kernel
theorem dX3_build_26 : decode cX3_build 26 = .ok (.aload_n 0, 1) := by decide +kernel
theorem dX3_build_27 : decode cX3_build 27 = .ok (.getfield 22, 3) := by decide +kernel
theorem dX3_build_30 : decode cX3_build 30 = .ok (.invokevirtual 36, 3) := by decide +kernel
theorem dX3_build_33 : decode cX3_build 33 = .ok (.if_icmp .ge 41, 3) := by decide +kernel
theorem dX3_build_36 : decode cX3_build 36 = .ok (.aload_n 0, 1) := by decide +kernel
theorem dX3_build_37 : decode cX3_build 37 = .ok (.iload_n 2, 1) := by decide +kernel
theorem dX3_build_38 : decode cX3_build 38 = .ok (.iload_n 1, 1) := by decide +kernel
theorem dX3_build_39 : decode cX3_build 39 = .ok (.invokevirtual 39, 3) := by decide +kernel
theorem dX3_build_42 : decode cX3_build 42 = .ok (.ifCond .eq 26, 3) := by decide +kernel
theorem dX3_build_45 : decode cX3_build 45 = .ok (.aload_n 0, 1) := by decide +kernel
theorem dX3_build_46 : decode cX3_build 46 = .ok (.iload_n 1, 1) := by decide +kernel
theorem dX3_build_47 : decode cX3_build 47 = .ok (.iload_n 2, 1) := by decide +kernel
theorem dX3_build_48 : decode cX3_build 48 = .ok (.invokevirtual 43, 3) := by decide +kernel
theorem dX3_build_51 : decode cX3_build 51 = .ok (.aload_n 0, 1) := by decide +kernel
theorem dX3_build_52 : decode cX3_build 52 = .ok (.getfield 19, 3) := by decide +kernel
theorem dX3_build_55 : decode cX3_build 55 = .ok (.iload_n 1, 1) := by decide +kernel
theorem dX3_build_56 : decode cX3_build 56 = .ok (.aaload, 1) := by decide +kernel
theorem dX3_build_57 : decode cX3_build 57 = .ok (.iload_n 2, 1) := by decide +kernel
theorem dX3_build_58 : decode cX3_build 58 = .ok (.bipush 15, 2) := by decide +kernel
theorem dX3_build_60 : decode cX3_build 60 = .ok (.iand, 1) := by decide +kernel
theorem dX3_build_61 : decode cX3_build 61 = .ok (.aload_n 0, 1) := by decide +kernel
theorem dX3_build_62 : decode cX3_build 62 = .ok (.iload_n 1, 1) := by decide +kernel
theorem dX3_build_63 : decode cX3_build 63 = .ok (.iload_n 2, 1) := by decide +kernel
theorem dX3_build_64 : decode cX3_build 64 = .ok (.invokevirtual 47, 3) := by decide +kernel
theorem dX3_build_67 : decode cX3_build 67 = .ok (.iastore, 1) := by decide +kernel
theorem dX3_build_68 : decode cX3_build 68 = .ok (.iinc 2 1, 3) := by decide +kernel
theorem dX3_build_71 : decode cX3_build 71 = .ok (.goto (-46), 3) := by decide +kernel
theorem dX3_build_74 : decode cX3_build 74 = .ok (.iinc 1 1, 3) := by decide +kernel
theorem dX3_build_77 : decode cX3_build 77 = .ok (.goto (-75), 3) := by decide +kernel
theorem dX3_build_80 : decode cX3_build 80 = .ok (.return_, 1) := by decide +kernel
theorem dX3_isHead_0 : decode cX3_isHead 0 = .ok (.iload_n 1, 1) := by decide +kernel
theorem dX3_isHead_1 : decode cX3_isHead 1 = .ok (.ifCond .eq 18, 3) := by decide +kernel
theorem dX3_isHead_4 : decode cX3_isHead 4 = .ok (.aload_n 0, 1) := by decide +kernel
theorem dX3_isHead_5 : decode cX3_isHead 5 = .ok (.getfield 22, 3) := by decide +kernel
theorem dX3_isHead_8 : decode cX3_isHead 8 = .ok (.iload_n 1, 1) := by decide +kernel
theorem dX3_isHead_9 : decode cX3_isHead 9 = .ok (.iconst 1, 1) := by decide +kernel
theorem dX3_isHead_10 : decode cX3_isHead 10 = .ok (.isub, 1) := by decide +kernel
theorem dX3_isHead_11 : decode cX3_isHead 11 = .ok (.iload_n 1, 1) := by decide +kernel
theorem dX3_isHead_12 : decode cX3_isHead 12 = .ok (.iload_n 2, 1) := by decide +kernel
theorem dX3_isHead_13 : decode cX3_isHead 13 = .ok (.invokevirtual 51, 3) := by decide +kernel
theorem dX3_isHead_16 : decode cX3_isHead 16 = .ok (.ifCond .ne 7, 3) := by decide +kernel
theorem dX3_isHead_19 : decode cX3_isHead 19 = .ok (.iconst 1, 1) := by decide +kernel
theorem dX3_isHead_20 : decode cX3_isHead 20 = .ok (.goto 4, 3) := by decide +kernel
theorem dX3_isHead_23 : decode cX3_isHead 23 = .ok (.iconst 0, 1) := by decide +kernel
theorem dX3_isHead_24 : decode cX3_isHead 24 = .ok (.ireturn, 1) := by decide +kernel
theorem dX3_buildLonger_0 : decode cX3_buildLonger 0 = .ok (.aload_n 0, 1) := by decide +kernel
theorem dX3_buildLonger_1 : decode cX3_buildLonger 1 = .ok (.getfield 11, 3) := by decide +kernel
theorem dX3_buildLonger_4 : decode cX3_buildLonger 4 = .ok (.iload_n 1, 1) := by decide +kernel
theorem dX3_buildLonger_5 : decode cX3_buildLonger 5 = .ok (.aaload, 1) := by decide +kernel
theorem dX3_buildLonger_6 : decode cX3_buildLonger 6 = .ok (.iconst (-1), 1) := by decide +kernel
theorem dX3_buildLonger_7 : decode cX3_buildLonger 7 = .ok (.invokestatic 55, 3) := by decide +kernel
theorem dX3_buildLonger_10 : decode cX3_buildLonger 10 = .ok (.iconst 0, 1) := by decide +kernel
theorem dX3_buildLonger_11 : decode cX3_buildLonger 11 = .ok (.istore_n 2, 1) := by decide +kernel
theorem dX3_buildLonger_12 : decode cX3_buildLonger 12 = .ok (.iconst 0, 1) := by decide +kernel
theorem dX3_buildLonger_13 : decode cX3_buildLonger 13 = .ok (.istore_n 3, 1) := by decide +kernel
theorem dX3_buildLonger_14 : decode cX3_buildLonger 14 = .ok (.iload_n 3, 1) := by decide +kernel
theorem dX3_buildLonger_15 : decode cX3_buildLonger 15 = .ok (.aload_n 0, 1) := by decide +kernel
theorem dX3_buildLonger_16 : decode cX3_buildLonger 16 = .ok (.getfield 22, 3) := by decide +kernel
theorem dX3_buildLonger_19 : decode cX3_buildLonger 19 = .ok (.invokevirtual 36, 3) := by decide +kernel
theorem dX3_buildLonger_22 : decode cX3_buildLonger 22 = .ok (.if_icmp .ge 58, 3) := by decide +kernel
theorem dX3_buildLonger_25 : decode cX3_buildLonger 25 = .ok (.aload_n 0, 1) := by decide +kernel
theorem dX3_buildLonger_26 : decode cX3_buildLonger 26 = .ok (.iload_n 3, 1) := by decide +kernel
theorem dX3_buildLonger_27 : decode cX3_buildLonger 27 = .ok (.iload_n 1, 1) := by decide +kernel
theorem dX3_buildLonger_28 : decode cX3_buildLonger 28 = .ok (.invokevirtual 39, 3) := by decide +kernel
theorem dX3_buildLonger_31 : decode cX3_buildLonger 31 = .ok (.ifCond .eq 5, 3) := by decide +kernel
theorem dX3_buildLonger_34 : decode cX3_buildLonger 34 = .ok (.iload_n 3, 1) := by decide +kernel
theorem dX3_buildLonger_35 : decode cX3_buildLonger 35 = .ok (.istore_n 2, 1) := by decide +kernel
theorem dX3_buildLonger_36 : decode cX3_buildLonger 36 = .ok (.iload_n 2, 1) := by decide +kernel
theorem dX3_buildLonger_37 : decode cX3_buildLonger 37 = .ok (.aload_n 0, 1) := by decide +kernel
theorem dX3_buildLonger_38 : decode cX3_buildLonger 38 = .ok (.getfield 22, 3) := by decide +kernel
theorem dX3_buildLonger_41 : decode cX3_buildLonger 41 = .ok (.iload_n 3, 1) := by decide +kernel
theorem dX3_buildLonger_42 : decode cX3_buildLonger 42 = .ok (.iload_n 1, 1) := by decide +kernel
theorem dX3_buildLonger_43 : decode cX3_buildLonger 43 = .ok (.invokevirtual 61, 3) := by decide +kernel
theorem dX3_buildLonger_46 : decode cX3_buildLonger 46 = .ok (.invokestatic 64, 3) := by decide +kernel
theorem dX3_buildLonger_49 : decode cX3_buildLonger 49 = .ok (.istore 4, 2) := by decide +kernel
theorem dX3_buildLonger_51 : decode cX3_buildLonger 51 = .ok (.aload_n 0, 1) := by decide +kernel
theorem dX3_buildLonger_52 : decode cX3_buildLonger 52 = .ok (.getfield 11, 3) := by decide +kernel
theorem dX3_buildLonger_55 : decode cX3_buildLonger 55 = .ok (.iload_n 1, 1) := by decide +kernel
theorem dX3_buildLonger_56 : decode cX3_buildLonger 56 = .ok (.aaload, 1) := by decide +kernel
theorem dX3_buildLonger_57 : decode cX3_buildLonger 57 = .ok (.iload 4, 2) := by decide +kernel
theorem dX3_buildLonger_59 : decode cX3_buildLonger 59 = .ok (.iaload, 1) := by decide +kernel
theorem dX3_buildLonger_60 : decode cX3_buildLonger 60 = .ok (.iconst (-1), 1) := by decide +kernel
theorem dX3_buildLonger_61 : decode cX3_buildLonger 61 = .ok (.if_icmp .ne 13, 3) := by decide +kernel
theorem dX3_buildLonger_64 : decode cX3_buildLonger 64 = .ok (.aload_n 0, 1) := by decide +kernel
theorem dX3_buildLonger_65 : decode cX3_buildLonger 65 = .ok (.getfield 11, 3) := by decide +kernel
theorem dX3_buildLonger_68 : decode cX3_buildLonger 68 = .ok (.iload_n 1, 1) := by decide +kernel
theorem dX3_buildLonger_69 : decode cX3_buildLonger 69 = .ok (.aaload, 1) := by decide +kernel
theorem dX3_buildLonger_70 : decode cX3_buildLonger 70 = .ok (.iload 4, 2) := by decide +kernel
theorem dX3_buildLonger_72 : decode cX3_buildLonger 72 = .ok (.iload_n 3, 1) := by decide +kernel
theorem dX3_buildLonger_73 : decode cX3_buildLonger 73 = .ok (.iastore, 1) := by decide +kernel
theorem dX3_buildLonger_74 : decode cX3_buildLonger 74 = .ok (.iinc 3 1, 3) := by decide +kernel
theorem dX3_buildLonger_77 : decode cX3_buildLonger 77 = .ok (.goto (-63), 3) := by decide +kernel
theorem dX3_buildLonger_80 : decode cX3_buildLonger 80 = .ok (.return_, 1) := by decide +kernel
theorem dX3_buildTakers_0 : decode cX3_buildTakers 0 = .ok (.iconst 0, 1) := by decide +kernel
theorem dX3_buildTakers_1 : decode cX3_buildTakers 1 = .ok (.istore_n 3, 1) := by decide +kernel
theorem dX3_buildTakers_2 : decode cX3_buildTakers 2 = .ok (.iload_n 3, 1) := by decide +kernel
theorem dX3_buildTakers_3 : decode cX3_buildTakers 3 = .ok (.iconst 4, 1) := by decide +kernel
theorem dX3_buildTakers_4 : decode cX3_buildTakers 4 = .ok (.if_icmp .ge 95, 3) := by decide +kernel
theorem dX3_buildTakers_7 : decode cX3_buildTakers 7 = .ok (.iconst 0, 1) := by decide +kernel
theorem dX3_buildTakers_8 : decode cX3_buildTakers 8 = .ok (.istore 4, 2) := by decide +kernel
theorem dX3_buildTakers_10 : decode cX3_buildTakers 10 = .ok (.iconst 0, 1) := by decide +kernel
theorem dX3_buildTakers_11 : decode cX3_buildTakers 11 = .ok (.istore 5, 2) := by decide +kernel
theorem dX3_buildTakers_13 : decode cX3_buildTakers 13 = .ok (.iload 5, 2) := by decide +kernel
theorem dX3_buildTakers_15 : decode cX3_buildTakers 15 = .ok (.aload_n 0, 1) := by decide +kernel
theorem dX3_buildTakers_16 : decode cX3_buildTakers 16 = .ok (.getfield 22, 3) := by decide +kernel
theorem dX3_buildTakers_19 : decode cX3_buildTakers 19 = .ok (.invokevirtual 36, 3) := by decide +kernel
theorem dX3_buildTakers_22 : decode cX3_buildTakers 22 = .ok (.if_icmp .ge 54, 3) := by decide +kernel
theorem dX3_buildTakers_25 : decode cX3_buildTakers 25 = .ok (.iload_n 3, 1) := by decide +kernel
theorem dX3_buildTakers_26 : decode cX3_buildTakers 26 = .ok (.aload_n 0, 1) := by decide +kernel
theorem dX3_buildTakers_27 : decode cX3_buildTakers 27 = .ok (.getfield 22, 3) := by decide +kernel
theorem dX3_buildTakers_30 : decode cX3_buildTakers 30 = .ok (.invokevirtual 26, 3) := by decide +kernel
theorem dX3_buildTakers_33 : decode cX3_buildTakers 33 = .ok (.if_icmp .ge 43, 3) := by decide +kernel
theorem dX3_buildTakers_36 : decode cX3_buildTakers 36 = .ok (.aload_n 0, 1) := by decide +kernel
theorem dX3_buildTakers_37 : decode cX3_buildTakers 37 = .ok (.getfield 11, 3) := by decide +kernel
theorem dX3_buildTakers_40 : decode cX3_buildTakers 40 = .ok (.iload_n 1, 1) := by decide +kernel
theorem dX3_buildTakers_41 : decode cX3_buildTakers 41 = .ok (.aaload, 1) := by decide +kernel
theorem dX3_buildTakers_42 : decode cX3_buildTakers 42 = .ok (.iload_n 2, 1) := by decide +kernel
theorem dX3_buildTakers_43 : decode cX3_buildTakers 43 = .ok (.aload_n 0, 1) := by decide +kernel
theorem dX3_buildTakers_44 : decode cX3_buildTakers 44 = .ok (.getfield 22, 3) := by decide +kernel
theorem dX3_buildTakers_47 : decode cX3_buildTakers 47 = .ok (.iload 5, 2) := by decide +kernel
theorem dX3_buildTakers_49 : decode cX3_buildTakers 49 = .ok (.iload_n 3, 1) := by decide +kernel
theorem dX3_buildTakers_50 : decode cX3_buildTakers 50 = .ok (.invokevirtual 61, 3) := by decide +kernel
theorem dX3_buildTakers_53 : decode cX3_buildTakers 53 = .ok (.invokestatic 64, 3) := by decide +kernel
theorem dX3_buildTakers_56 : decode cX3_buildTakers 56 = .ok (.iaload, 1) := by decide +kernel
theorem dX3_buildTakers_57 : decode cX3_buildTakers 57 = .ok (.iconst (-1), 1) := by decide +kernel
theorem dX3_buildTakers_58 : decode cX3_buildTakers 58 = .ok (.if_icmp .eq 12, 3) := by decide +kernel
theorem dX3_buildTakers_61 : decode cX3_buildTakers 61 = .ok (.iload 4, 2) := by decide +kernel
theorem dX3_buildTakers_63 : decode cX3_buildTakers 63 = .ok (.iconst 1, 1) := by decide +kernel
theorem dX3_buildTakers_64 : decode cX3_buildTakers 64 = .ok (.iload 5, 2) := by decide +kernel
theorem dX3_buildTakers_66 : decode cX3_buildTakers 66 = .ok (.ishl, 1) := by decide +kernel
theorem dX3_buildTakers_67 : decode cX3_buildTakers 67 = .ok (.ior, 1) := by decide +kernel
theorem dX3_buildTakers_68 : decode cX3_buildTakers 68 = .ok (.istore 4, 2) := by decide +kernel
theorem dX3_buildTakers_70 : decode cX3_buildTakers 70 = .ok (.iinc 5 1, 3) := by decide +kernel
theorem dX3_buildTakers_73 : decode cX3_buildTakers 73 = .ok (.goto (-60), 3) := by decide +kernel
theorem dX3_buildTakers_76 : decode cX3_buildTakers 76 = .ok (.aload_n 0, 1) := by decide +kernel
theorem dX3_buildTakers_77 : decode cX3_buildTakers 77 = .ok (.getfield 16, 3) := by decide +kernel
theorem dX3_buildTakers_80 : decode cX3_buildTakers 80 = .ok (.iload_n 1, 1) := by decide +kernel
theorem dX3_buildTakers_81 : decode cX3_buildTakers 81 = .ok (.aaload, 1) := by decide +kernel
theorem dX3_buildTakers_82 : decode cX3_buildTakers 82 = .ok (.iload_n 2, 1) := by decide +kernel
theorem dX3_buildTakers_83 : decode cX3_buildTakers 83 = .ok (.bipush 15, 2) := by decide +kernel
theorem dX3_buildTakers_85 : decode cX3_buildTakers 85 = .ok (.iand, 1) := by decide +kernel
theorem dX3_buildTakers_86 : decode cX3_buildTakers 86 = .ok (.iconst 4, 1) := by decide +kernel
theorem dX3_buildTakers_87 : decode cX3_buildTakers 87 = .ok (.imul, 1) := by decide +kernel
theorem dX3_buildTakers_88 : decode cX3_buildTakers 88 = .ok (.iload_n 3, 1) := by decide +kernel
theorem dX3_buildTakers_89 : decode cX3_buildTakers 89 = .ok (.iadd, 1) := by decide +kernel
theorem dX3_buildTakers_90 : decode cX3_buildTakers 90 = .ok (.iload 4, 2) := by decide +kernel
theorem dX3_buildTakers_92 : decode cX3_buildTakers 92 = .ok (.iastore, 1) := by decide +kernel
theorem dX3_buildTakers_93 : decode cX3_buildTakers 93 = .ok (.iinc 3 1, 3) := by decide +kernel
theorem dX3_buildTakers_96 : decode cX3_buildTakers 96 = .ok (.goto (-94), 3) := by decide +kernel
theorem dX3_buildTakers_99 : decode cX3_buildTakers 99 = .ok (.return_, 1) := by decide +kernel
theorem dX3_firstAlike_0 : decode cX3_firstAlike 0 = .ok (.iconst 0, 1) := by decide +kernel
theorem dX3_firstAlike_1 : decode cX3_firstAlike 1 = .ok (.istore_n 3, 1) := by decide +kernel
theorem dX3_firstAlike_2 : decode cX3_firstAlike 2 = .ok (.iload_n 3, 1) := by decide +kernel
theorem dX3_firstAlike_3 : decode cX3_firstAlike 3 = .ok (.iload_n 2, 1) := by decide +kernel
theorem dX3_firstAlike_4 : decode cX3_firstAlike 4 = .ok (.if_icmp .ge 30, 3) := by decide +kernel
theorem dX3_firstAlike_7 : decode cX3_firstAlike 7 = .ok (.aload_n 0, 1) := by decide +kernel
theorem dX3_firstAlike_8 : decode cX3_firstAlike 8 = .ok (.iload_n 3, 1) := by decide +kernel
theorem dX3_firstAlike_9 : decode cX3_firstAlike 9 = .ok (.iload_n 1, 1) := by decide +kernel
theorem dX3_firstAlike_10 : decode cX3_firstAlike 10 = .ok (.invokevirtual 39, 3) := by decide +kernel
theorem dX3_firstAlike_13 : decode cX3_firstAlike 13 = .ok (.ifCond .eq 15, 3) := by decide +kernel
theorem dX3_firstAlike_16 : decode cX3_firstAlike 16 = .ok (.aload_n 0, 1) := by decide +kernel
theorem dX3_firstAlike_17 : decode cX3_firstAlike 17 = .ok (.iload_n 1, 1) := by decide +kernel
theorem dX3_firstAlike_18 : decode cX3_firstAlike 18 = .ok (.iload_n 3, 1) := by decide +kernel
theorem dX3_firstAlike_19 : decode cX3_firstAlike 19 = .ok (.iload_n 2, 1) := by decide +kernel
theorem dX3_firstAlike_20 : decode cX3_firstAlike 20 = .ok (.invokevirtual 67, 3) := by decide +kernel
theorem dX3_firstAlike_23 : decode cX3_firstAlike 23 = .ok (.ifCond .eq 5, 3) := by decide +kernel
theorem dX3_firstAlike_26 : decode cX3_firstAlike 26 = .ok (.iload_n 3, 1) := by decide +kernel
theorem dX3_firstAlike_27 : decode cX3_firstAlike 27 = .ok (.ireturn, 1) := by decide +kernel
theorem dX3_firstAlike_28 : decode cX3_firstAlike 28 = .ok (.iinc 3 1, 3) := by decide +kernel
theorem dX3_firstAlike_31 : decode cX3_firstAlike 31 = .ok (.goto (-29), 3) := by decide +kernel
theorem dX3_firstAlike_34 : decode cX3_firstAlike 34 = .ok (.iload_n 2, 1) := by decide +kernel
theorem dX3_firstAlike_35 : decode cX3_firstAlike 35 = .ok (.ireturn, 1) := by decide +kernel
theorem dX3_sameRests_0 : decode cX3_sameRests 0 = .ok (.iconst 0, 1) := by decide +kernel
theorem dX3_sameRests_1 : decode cX3_sameRests 1 = .ok (.istore 4, 2) := by decide +kernel
theorem dX3_sameRests_3 : decode cX3_sameRests 3 = .ok (.iload 4, 2) := by decide +kernel
theorem dX3_sameRests_5 : decode cX3_sameRests 5 = .ok (.aload_n 0, 1) := by decide +kernel
theorem dX3_sameRests_6 : decode cX3_sameRests 6 = .ok (.getfield 22, 3) := by decide +kernel
theorem dX3_sameRests_9 : decode cX3_sameRests 9 = .ok (.invokevirtual 36, 3) := by decide +kernel
theorem dX3_sameRests_12 : decode cX3_sameRests 12 = .ok (.if_icmp .gt 135, 3) := by decide +kernel
theorem dX3_sameRests_15 : decode cX3_sameRests 15 = .ok (.aload_n 0, 1) := by decide +kernel
theorem dX3_sameRests_16 : decode cX3_sameRests 16 = .ok (.getfield 22, 3) := by decide +kernel
theorem dX3_sameRests_19 : decode cX3_sameRests 19 = .ok (.iload_n 2, 1) := by decide +kernel
theorem dX3_sameRests_20 : decode cX3_sameRests 20 = .ok (.iload 4, 2) := by decide +kernel
theorem dX3_sameRests_22 : decode cX3_sameRests 22 = .ok (.iadd, 1) := by decide +kernel
theorem dX3_sameRests_23 : decode cX3_sameRests 23 = .ok (.invokevirtual 70, 3) := by decide +kernel
theorem dX3_sameRests_26 : decode cX3_sameRests 26 = .ok (.ifCond .eq 23, 3) := by decide +kernel
theorem dX3_sameRests_29 : decode cX3_sameRests 29 = .ok (.aload_n 0, 1) := by decide +kernel
theorem dX3_sameRests_30 : decode cX3_sameRests 30 = .ok (.getfield 22, 3) := by decide +kernel
theorem dX3_sameRests_33 : decode cX3_sameRests 33 = .ok (.iload_n 2, 1) := by decide +kernel
theorem dX3_sameRests_34 : decode cX3_sameRests 34 = .ok (.iload_n 2, 1) := by decide +kernel
theorem dX3_sameRests_35 : decode cX3_sameRests 35 = .ok (.iload 4, 2) := by decide +kernel
theorem dX3_sameRests_37 : decode cX3_sameRests 37 = .ok (.iadd, 1) := by decide +kernel
theorem dX3_sameRests_38 : decode cX3_sameRests 38 = .ok (.iload_n 1, 1) := by decide +kernel
theorem dX3_sameRests_39 : decode cX3_sameRests 39 = .ok (.invokevirtual 51, 3) := by decide +kernel
theorem dX3_sameRests_42 : decode cX3_sameRests 42 = .ok (.ifCond .eq 7, 3) := by decide +kernel
theorem dX3_sameRests_45 : decode cX3_sameRests 45 = .ok (.iconst 1, 1) := by decide +kernel
theorem dX3_sameRests_46 : decode cX3_sameRests 46 = .ok (.goto 4, 3) := by decide +kernel
theorem dX3_sameRests_49 : decode cX3_sameRests 49 = .ok (.iconst 0, 1) := by decide +kernel
theorem dX3_sameRests_50 : decode cX3_sameRests 50 = .ok (.istore 5, 2) := by decide +kernel
theorem dX3_sameRests_52 : decode cX3_sameRests 52 = .ok (.aload_n 0, 1) := by decide +kernel
theorem dX3_sameRests_53 : decode cX3_sameRests 53 = .ok (.getfield 22, 3) := by decide +kernel
theorem dX3_sameRests_56 : decode cX3_sameRests 56 = .ok (.iload_n 3, 1) := by decide +kernel
theorem dX3_sameRests_57 : decode cX3_sameRests 57 = .ok (.iload 4, 2) := by decide +kernel
theorem dX3_sameRests_59 : decode cX3_sameRests 59 = .ok (.iadd, 1) := by decide +kernel
theorem dX3_sameRests_60 : decode cX3_sameRests 60 = .ok (.invokevirtual 70, 3) := by decide +kernel
theorem dX3_sameRests_63 : decode cX3_sameRests 63 = .ok (.ifCond .eq 23, 3) := by decide +kernel
theorem dX3_sameRests_66 : decode cX3_sameRests 66 = .ok (.aload_n 0, 1) := by decide +kernel
theorem dX3_sameRests_67 : decode cX3_sameRests 67 = .ok (.getfield 22, 3) := by decide +kernel
theorem dX3_sameRests_70 : decode cX3_sameRests 70 = .ok (.iload_n 3, 1) := by decide +kernel
theorem dX3_sameRests_71 : decode cX3_sameRests 71 = .ok (.iload_n 3, 1) := by decide +kernel
theorem dX3_sameRests_72 : decode cX3_sameRests 72 = .ok (.iload 4, 2) := by decide +kernel
theorem dX3_sameRests_74 : decode cX3_sameRests 74 = .ok (.iadd, 1) := by decide +kernel
theorem dX3_sameRests_75 : decode cX3_sameRests 75 = .ok (.iload_n 1, 1) := by decide +kernel
theorem dX3_sameRests_76 : decode cX3_sameRests 76 = .ok (.invokevirtual 51, 3) := by decide +kernel
theorem dX3_sameRests_79 : decode cX3_sameRests 79 = .ok (.ifCond .eq 7, 3) := by decide +kernel
theorem dX3_sameRests_82 : decode cX3_sameRests 82 = .ok (.iconst 1, 1) := by decide +kernel
theorem dX3_sameRests_83 : decode cX3_sameRests 83 = .ok (.goto 4, 3) := by decide +kernel
theorem dX3_sameRests_86 : decode cX3_sameRests 86 = .ok (.iconst 0, 1) := by decide +kernel
theorem dX3_sameRests_87 : decode cX3_sameRests 87 = .ok (.istore 6, 2) := by decide +kernel
theorem dX3_sameRests_89 : decode cX3_sameRests 89 = .ok (.iload 5, 2) := by decide +kernel
theorem dX3_sameRests_91 : decode cX3_sameRests 91 = .ok (.ifCond .eq 8, 3) := by decide +kernel
theorem dX3_sameRests_94 : decode cX3_sameRests 94 = .ok (.iload 6, 2) := by decide +kernel
theorem dX3_sameRests_96 : decode cX3_sameRests 96 = .ok (.ifCond .ne 16, 3) := by decide +kernel
theorem dX3_sameRests_99 : decode cX3_sameRests 99 = .ok (.iload 5, 2) := by decide +kernel
theorem dX3_sameRests_101 : decode cX3_sameRests 101 = .ok (.iload 6, 2) := by decide +kernel
theorem dX3_sameRests_103 : decode cX3_sameRests 103 = .ok (.if_icmp .ne 7, 3) := by decide +kernel
theorem dX3_sameRests_106 : decode cX3_sameRests 106 = .ok (.iconst 1, 1) := by decide +kernel
theorem dX3_sameRests_107 : decode cX3_sameRests 107 = .ok (.goto 4, 3) := by decide +kernel
theorem dX3_sameRests_110 : decode cX3_sameRests 110 = .ok (.iconst 0, 1) := by decide +kernel
theorem dX3_sameRests_111 : decode cX3_sameRests 111 = .ok (.ireturn, 1) := by decide +kernel
theorem dX3_sameRests_112 : decode cX3_sameRests 112 = .ok (.aload_n 0, 1) := by decide +kernel
theorem dX3_sameRests_113 : decode cX3_sameRests 113 = .ok (.getfield 22, 3) := by decide +kernel
theorem dX3_sameRests_116 : decode cX3_sameRests 116 = .ok (.iload_n 2, 1) := by decide +kernel
theorem dX3_sameRests_117 : decode cX3_sameRests 117 = .ok (.iload 4, 2) := by decide +kernel
theorem dX3_sameRests_119 : decode cX3_sameRests 119 = .ok (.iadd, 1) := by decide +kernel
theorem dX3_sameRests_120 : decode cX3_sameRests 120 = .ok (.iload_n 1, 1) := by decide +kernel
theorem dX3_sameRests_121 : decode cX3_sameRests 121 = .ok (.invokevirtual 74, 3) := by decide +kernel
theorem dX3_sameRests_124 : decode cX3_sameRests 124 = .ok (.aload_n 0, 1) := by decide +kernel
theorem dX3_sameRests_125 : decode cX3_sameRests 125 = .ok (.getfield 22, 3) := by decide +kernel
theorem dX3_sameRests_128 : decode cX3_sameRests 128 = .ok (.iload_n 3, 1) := by decide +kernel
theorem dX3_sameRests_129 : decode cX3_sameRests 129 = .ok (.iload 4, 2) := by decide +kernel
theorem dX3_sameRests_131 : decode cX3_sameRests 131 = .ok (.iadd, 1) := by decide +kernel
theorem dX3_sameRests_132 : decode cX3_sameRests 132 = .ok (.iload_n 1, 1) := by decide +kernel
theorem dX3_sameRests_133 : decode cX3_sameRests 133 = .ok (.invokevirtual 74, 3) := by decide +kernel
theorem dX3_sameRests_136 : decode cX3_sameRests 136 = .ok (.if_icmp .eq 5, 3) := by decide +kernel
theorem dX3_sameRests_139 : decode cX3_sameRests 139 = .ok (.iconst 0, 1) := by decide +kernel
theorem dX3_sameRests_140 : decode cX3_sameRests 140 = .ok (.ireturn, 1) := by decide +kernel
theorem dX3_sameRests_141 : decode cX3_sameRests 141 = .ok (.iinc 4 1, 3) := by decide +kernel
theorem dX3_sameRests_144 : decode cX3_sameRests 144 = .ok (.goto (-141), 3) := by decide +kernel
theorem dX3_sameRests_147 : decode cX3_sameRests 147 = .ok (.iconst 1, 1) := by decide +kernel
theorem dX3_sameRests_148 : decode cX3_sameRests 148 = .ok (.ireturn, 1) := by decide +kernel
theorem dX3_placeOf_0 : decode cX3_placeOf 0 = .ok (.iload_n 0, 1) := by decide +kernel
theorem dX3_placeOf_1 : decode cX3_placeOf 1 = .ok (.bipush 15, 2) := by decide +kernel
theorem dX3_placeOf_3 : decode cX3_placeOf 3 = .ok (.iand, 1) := by decide +kernel
theorem dX3_placeOf_4 : decode cX3_placeOf 4 = .ok (.bipush 32, 2) := by decide +kernel
theorem dX3_placeOf_6 : decode cX3_placeOf 6 = .ok (.imul, 1) := by decide +kernel
theorem dX3_placeOf_7 : decode cX3_placeOf 7 = .ok (.iload_n 1, 1) := by decide +kernel
theorem dX3_placeOf_8 : decode cX3_placeOf 8 = .ok (.bipush 31, 2) := by decide +kernel
theorem dX3_placeOf_10 : decode cX3_placeOf 10 = .ok (.iand, 1) := by decide +kernel
theorem dX3_placeOf_11 : decode cX3_placeOf 11 = .ok (.iadd, 1) := by decide +kernel
theorem dX3_placeOf_12 : decode cX3_placeOf 12 = .ok (.ireturn, 1) := by decide +kernel
theorem dX3_nextRows_0 : decode cX3_nextRows 0 = .ok (.iconst 1, 1) := by decide +kernel
theorem dX3_nextRows_1 : decode cX3_nextRows 1 = .ok (.aload_n 0, 1) := by decide +kernel
theorem dX3_nextRows_2 : decode cX3_nextRows 2 = .ok (.getfield 22, 3) := by decide +kernel
theorem dX3_nextRows_5 : decode cX3_nextRows 5 = .ok (.invokevirtual 36, 3) := by decide +kernel
theorem dX3_nextRows_8 : decode cX3_nextRows 8 = .ok (.ishl, 1) := by decide +kernel
theorem dX3_nextRows_9 : decode cX3_nextRows 9 = .ok (.iconst 1, 1) := by decide +kernel
theorem dX3_nextRows_10 : decode cX3_nextRows 10 = .ok (.isub, 1) := by decide +kernel
theorem dX3_nextRows_11 : decode cX3_nextRows 11 = .ok (.istore_n 3, 1) := by decide +kernel
theorem dX3_nextRows_12 : decode cX3_nextRows 12 = .ok (.iconst 0, 1) := by decide +kernel
theorem dX3_nextRows_13 : decode cX3_nextRows 13 = .ok (.istore 4, 2) := by decide +kernel
theorem dX3_nextRows_15 : decode cX3_nextRows 15 = .ok (.iload 4, 2) := by decide +kernel
theorem dX3_nextRows_17 : decode cX3_nextRows 17 = .ok (.aload_n 0, 1) := by decide +kernel
theorem dX3_nextRows_18 : decode cX3_nextRows 18 = .ok (.getfield 22, 3) := by decide +kernel
theorem dX3_nextRows_21 : decode cX3_nextRows 21 = .ok (.invokevirtual 26, 3) := by decide +kernel
theorem dX3_nextRows_24 : decode cX3_nextRows 24 = .ok (.if_icmp .ge 49, 3) := by decide +kernel
theorem dX3_nextRows_27 : decode cX3_nextRows 27 = .ok (.iload 4, 2) := by decide +kernel
theorem dX3_nextRows_29 : decode cX3_nextRows 29 = .ok (.iconst 4, 1) := by decide +kernel
theorem dX3_nextRows_30 : decode cX3_nextRows 30 = .ok (.if_icmp .ge 43, 3) := by decide +kernel
theorem dX3_nextRows_33 : decode cX3_nextRows 33 = .ok (.iload_n 2, 1) := by decide +kernel
theorem dX3_nextRows_34 : decode cX3_nextRows 34 = .ok (.iload 4, 2) := by decide +kernel
theorem dX3_nextRows_36 : decode cX3_nextRows 36 = .ok (.aload_n 0, 1) := by decide +kernel
theorem dX3_nextRows_37 : decode cX3_nextRows 37 = .ok (.getfield 22, 3) := by decide +kernel
theorem dX3_nextRows_40 : decode cX3_nextRows 40 = .ok (.invokevirtual 26, 3) := by decide +kernel
theorem dX3_nextRows_43 : decode cX3_nextRows 43 = .ok (.invokestatic 77, 3) := by decide +kernel
theorem dX3_nextRows_46 : decode cX3_nextRows 46 = .ok (.istore 5, 2) := by decide +kernel
theorem dX3_nextRows_48 : decode cX3_nextRows 48 = .ok (.iload_n 3, 1) := by decide +kernel
theorem dX3_nextRows_49 : decode cX3_nextRows 49 = .ok (.aload_n 0, 1) := by decide +kernel
theorem dX3_nextRows_50 : decode cX3_nextRows 50 = .ok (.getfield 16, 3) := by decide +kernel
theorem dX3_nextRows_53 : decode cX3_nextRows 53 = .ok (.iload_n 1, 1) := by decide +kernel
theorem dX3_nextRows_54 : decode cX3_nextRows 54 = .ok (.iconst 3, 1) := by decide +kernel
theorem dX3_nextRows_55 : decode cX3_nextRows 55 = .ok (.iand, 1) := by decide +kernel
theorem dX3_nextRows_56 : decode cX3_nextRows 56 = .ok (.aaload, 1) := by decide +kernel
theorem dX3_nextRows_57 : decode cX3_nextRows 57 = .ok (.iload 5, 2) := by decide +kernel
theorem dX3_nextRows_59 : decode cX3_nextRows 59 = .ok (.iconst 4, 1) := by decide +kernel
theorem dX3_nextRows_60 : decode cX3_nextRows 60 = .ok (.imul, 1) := by decide +kernel
theorem dX3_nextRows_61 : decode cX3_nextRows 61 = .ok (.iload 4, 2) := by decide +kernel
theorem dX3_nextRows_63 : decode cX3_nextRows 63 = .ok (.iadd, 1) := by decide +kernel
theorem dX3_nextRows_64 : decode cX3_nextRows 64 = .ok (.iaload, 1) := by decide +kernel
theorem dX3_nextRows_65 : decode cX3_nextRows 65 = .ok (.iand, 1) := by decide +kernel
theorem dX3_nextRows_66 : decode cX3_nextRows 66 = .ok (.istore_n 3, 1) := by decide +kernel
theorem dX3_nextRows_67 : decode cX3_nextRows 67 = .ok (.iinc 4 1, 3) := by decide +kernel
theorem dX3_nextRows_70 : decode cX3_nextRows 70 = .ok (.goto (-55), 3) := by decide +kernel
theorem dX3_nextRows_73 : decode cX3_nextRows 73 = .ok (.iload_n 3, 1) := by decide +kernel
theorem dX3_nextRows_74 : decode cX3_nextRows 74 = .ok (.ireturn, 1) := by decide +kernel
theorem dX3_headsWith_0 : decode cX3_headsWith 0 = .ok (.iconst 0, 1) := by decide +kernel
theorem dX3_headsWith_1 : decode cX3_headsWith 1 = .ok (.istore 4, 2) := by decide +kernel
theorem dX3_headsWith_3 : decode cX3_headsWith 3 = .ok (.iconst 0, 1) := by decide +kernel
theorem dX3_headsWith_4 : decode cX3_headsWith 4 = .ok (.istore 5, 2) := by decide +kernel
theorem dX3_headsWith_6 : decode cX3_headsWith 6 = .ok (.iload 5, 2) := by decide +kernel
theorem dX3_headsWith_8 : decode cX3_headsWith 8 = .ok (.aload_n 0, 1) := by decide +kernel
theorem dX3_headsWith_9 : decode cX3_headsWith 9 = .ok (.getfield 22, 3) := by decide +kernel
theorem dX3_headsWith_12 : decode cX3_headsWith 12 = .ok (.invokevirtual 26, 3) := by decide +kernel
theorem dX3_headsWith_15 : decode cX3_headsWith 15 = .ok (.if_icmp .ge 62, 3) := by decide +kernel
theorem dX3_headsWith_18 : decode cX3_headsWith 18 = .ok (.iload_n 2, 1) := by decide +kernel
theorem dX3_headsWith_19 : decode cX3_headsWith 19 = .ok (.iload 5, 2) := by decide +kernel
theorem dX3_headsWith_21 : decode cX3_headsWith 21 = .ok (.aload_n 0, 1) := by decide +kernel
theorem dX3_headsWith_22 : decode cX3_headsWith 22 = .ok (.getfield 22, 3) := by decide +kernel
theorem dX3_headsWith_25 : decode cX3_headsWith 25 = .ok (.invokevirtual 26, 3) := by decide +kernel
theorem dX3_headsWith_28 : decode cX3_headsWith 28 = .ok (.invokestatic 77, 3) := by decide +kernel
theorem dX3_headsWith_31 : decode cX3_headsWith 31 = .ok (.istore 6, 2) := by decide +kernel
theorem dX3_headsWith_33 : decode cX3_headsWith 33 = .ok (.aload_n 0, 1) := by decide +kernel
theorem dX3_headsWith_34 : decode cX3_headsWith 34 = .ok (.getfield 11, 3) := by decide +kernel
theorem dX3_headsWith_37 : decode cX3_headsWith 37 = .ok (.iload_n 1, 1) := by decide +kernel
theorem dX3_headsWith_38 : decode cX3_headsWith 38 = .ok (.iconst 3, 1) := by decide +kernel
theorem dX3_headsWith_39 : decode cX3_headsWith 39 = .ok (.iand, 1) := by decide +kernel
theorem dX3_headsWith_40 : decode cX3_headsWith 40 = .ok (.aaload, 1) := by decide +kernel
theorem dX3_headsWith_41 : decode cX3_headsWith 41 = .ok (.iload 6, 2) := by decide +kernel
theorem dX3_headsWith_43 : decode cX3_headsWith 43 = .ok (.aload_n 0, 1) := by decide +kernel
theorem dX3_headsWith_44 : decode cX3_headsWith 44 = .ok (.getfield 22, 3) := by decide +kernel
theorem dX3_headsWith_47 : decode cX3_headsWith 47 = .ok (.iload_n 3, 1) := by decide +kernel
theorem dX3_headsWith_48 : decode cX3_headsWith 48 = .ok (.iload 5, 2) := by decide +kernel
theorem dX3_headsWith_50 : decode cX3_headsWith 50 = .ok (.invokevirtual 61, 3) := by decide +kernel
theorem dX3_headsWith_53 : decode cX3_headsWith 53 = .ok (.invokestatic 64, 3) := by decide +kernel
theorem dX3_headsWith_56 : decode cX3_headsWith 56 = .ok (.iaload, 1) := by decide +kernel
theorem dX3_headsWith_57 : decode cX3_headsWith 57 = .ok (.istore 7, 2) := by decide +kernel
theorem dX3_headsWith_59 : decode cX3_headsWith 59 = .ok (.iload 4, 2) := by decide +kernel
theorem dX3_headsWith_61 : decode cX3_headsWith 61 = .ok (.iconst 4, 1) := by decide +kernel
theorem dX3_headsWith_62 : decode cX3_headsWith 62 = .ok (.ishl, 1) := by decide +kernel
theorem dX3_headsWith_63 : decode cX3_headsWith 63 = .ok (.iload 7, 2) := by decide +kernel
theorem dX3_headsWith_65 : decode cX3_headsWith 65 = .ok (.bipush 15, 2) := by decide +kernel
theorem dX3_headsWith_67 : decode cX3_headsWith 67 = .ok (.iand, 1) := by decide +kernel
theorem dX3_headsWith_68 : decode cX3_headsWith 68 = .ok (.ior, 1) := by decide +kernel
theorem dX3_headsWith_69 : decode cX3_headsWith 69 = .ok (.istore 4, 2) := by decide +kernel
theorem dX3_headsWith_71 : decode cX3_headsWith 71 = .ok (.iinc 5 1, 3) := by decide +kernel
theorem dX3_headsWith_74 : decode cX3_headsWith 74 = .ok (.goto (-68), 3) := by decide +kernel
theorem dX3_headsWith_77 : decode cX3_headsWith 77 = .ok (.iload 4, 2) := by decide +kernel
theorem dX3_headsWith_79 : decode cX3_headsWith 79 = .ok (.ireturn, 1) := by decide +kernel
theorem dX3_likeness_0 : decode cX3_likeness 0 = .ok (.iload_n 1, 1) := by decide +kernel
theorem dX3_likeness_1 : decode cX3_likeness 1 = .ok (.istore_n 3, 1) := by decide +kernel
theorem dX3_likeness_2 : decode cX3_likeness 2 = .ok (.iconst 0, 1) := by decide +kernel
theorem dX3_likeness_3 : decode cX3_likeness 3 = .ok (.istore 4, 2) := by decide +kernel
theorem dX3_likeness_5 : decode cX3_likeness 5 = .ok (.iload 4, 2) := by decide +kernel
theorem dX3_likeness_7 : decode cX3_likeness 7 = .ok (.iconst 4, 1) := by decide +kernel
theorem dX3_likeness_8 : decode cX3_likeness 8 = .ok (.if_icmp .ge 56, 3) := by decide +kernel
theorem dX3_likeness_11 : decode cX3_likeness 11 = .ok (.iconst 0, 1) := by decide +kernel
theorem dX3_likeness_12 : decode cX3_likeness 12 = .ok (.istore 5, 2) := by decide +kernel
theorem dX3_likeness_14 : decode cX3_likeness 14 = .ok (.iload 4, 2) := by decide +kernel
theorem dX3_likeness_16 : decode cX3_likeness 16 = .ok (.aload_n 0, 1) := by decide +kernel
theorem dX3_likeness_17 : decode cX3_likeness 17 = .ok (.getfield 22, 3) := by decide +kernel
theorem dX3_likeness_20 : decode cX3_likeness 20 = .ok (.invokevirtual 26, 3) := by decide +kernel
theorem dX3_likeness_23 : decode cX3_likeness 23 = .ok (.if_icmp .ge 27, 3) := by decide +kernel
theorem dX3_likeness_26 : decode cX3_likeness 26 = .ok (.aload_n 0, 1) := by decide +kernel
theorem dX3_likeness_27 : decode cX3_likeness 27 = .ok (.getfield 19, 3) := by decide +kernel
theorem dX3_likeness_30 : decode cX3_likeness 30 = .ok (.iload_n 1, 1) := by decide +kernel
theorem dX3_likeness_31 : decode cX3_likeness 31 = .ok (.iconst 3, 1) := by decide +kernel
theorem dX3_likeness_32 : decode cX3_likeness 32 = .ok (.iand, 1) := by decide +kernel
theorem dX3_likeness_33 : decode cX3_likeness 33 = .ok (.aaload, 1) := by decide +kernel
theorem dX3_likeness_34 : decode cX3_likeness 34 = .ok (.iload_n 2, 1) := by decide +kernel
theorem dX3_likeness_35 : decode cX3_likeness 35 = .ok (.iload 4, 2) := by decide +kernel
theorem dX3_likeness_37 : decode cX3_likeness 37 = .ok (.aload_n 0, 1) := by decide +kernel
theorem dX3_likeness_38 : decode cX3_likeness 38 = .ok (.getfield 22, 3) := by decide +kernel
theorem dX3_likeness_41 : decode cX3_likeness 41 = .ok (.invokevirtual 26, 3) := by decide +kernel
theorem dX3_likeness_44 : decode cX3_likeness 44 = .ok (.invokestatic 77, 3) := by decide +kernel
theorem dX3_likeness_47 : decode cX3_likeness 47 = .ok (.iaload, 1) := by decide +kernel
theorem dX3_likeness_48 : decode cX3_likeness 48 = .ok (.istore 5, 2) := by decide +kernel
theorem dX3_likeness_50 : decode cX3_likeness 50 = .ok (.iload_n 3, 1) := by decide +kernel
theorem dX3_likeness_51 : decode cX3_likeness 51 = .ok (.bipush 12, 2) := by decide +kernel
theorem dX3_likeness_53 : decode cX3_likeness 53 = .ok (.imul, 1) := by decide +kernel
theorem dX3_likeness_54 : decode cX3_likeness 54 = .ok (.iload 5, 2) := by decide +kernel
theorem dX3_likeness_56 : decode cX3_likeness 56 = .ok (.iadd, 1) := by decide +kernel
theorem dX3_likeness_57 : decode cX3_likeness 57 = .ok (.istore_n 3, 1) := by decide +kernel
theorem dX3_likeness_58 : decode cX3_likeness 58 = .ok (.iinc 4 1, 3) := by decide +kernel
theorem dX3_likeness_61 : decode cX3_likeness 61 = .ok (.goto (-56), 3) := by decide +kernel
theorem dX3_likeness_64 : decode cX3_likeness 64 = .ok (.iload_n 3, 1) := by decide +kernel
theorem dX3_likeness_65 : decode cX3_likeness 65 = .ok (.ireturn, 1) := by decide +kernel
theorem dX4_init_0 : decode cX4_init 0 = .ok (.aload_n 0, 1) := by decide +kernel
theorem dX4_init_1 : decode cX4_init 1 = .ok (.invokespecial 1, 3) := by decide +kernel
theorem dX4_init_4 : decode cX4_init 4 = .ok (.aload_n 0, 1) := by decide +kernel
theorem dX4_init_5 : decode cX4_init 5 = .ok (.bipush 64, 2) := by decide +kernel
theorem dX4_init_7 : decode cX4_init 7 = .ok (.newarray .int, 2) := by decide +kernel
theorem dX4_init_9 : decode cX4_init 9 = .ok (.putfield 9, 3) := by decide +kernel
theorem dX4_init_12 : decode cX4_init 12 = .ok (.aload_n 0, 1) := by decide +kernel
theorem dX4_init_13 : decode cX4_init 13 = .ok (.iconst 0, 1) := by decide +kernel
theorem dX4_init_14 : decode cX4_init 14 = .ok (.putfield 13, 3) := by decide +kernel
theorem dX4_init_17 : decode cX4_init 17 = .ok (.return_, 1) := by decide +kernel
theorem dX4_size_0 : decode cX4_size 0 = .ok (.aload_n 0, 1) := by decide +kernel
theorem dX4_size_1 : decode cX4_size 1 = .ok (.getfield 13, 3) := by decide +kernel
theorem dX4_size_4 : decode cX4_size 4 = .ok (.ireturn, 1) := by decide +kernel
theorem dX4_clear_0 : decode cX4_clear 0 = .ok (.aload_n 0, 1) := by decide +kernel
theorem dX4_clear_1 : decode cX4_clear 1 = .ok (.iconst 0, 1) := by decide +kernel
theorem dX4_clear_2 : decode cX4_clear 2 = .ok (.putfield 13, 3) := by decide +kernel
theorem dX4_clear_5 : decode cX4_clear 5 = .ok (.return_, 1) := by decide +kernel
theorem dX4_append_0 : decode cX4_append 0 = .ok (.aload_n 0, 1) := by decide +kernel
theorem dX4_append_1 : decode cX4_append 1 = .ok (.getfield 13, 3) := by decide +kernel
theorem dX4_append_4 : decode cX4_append 4 = .ok (.sipush 20736, 3) := by decide +kernel
theorem dX4_append_7 : decode cX4_append 7 = .ok (.if_icmp .lt 4, 3) := by decide +kernel
theorem dX4_append_10 : decode cX4_append 10 = .ok (.return_, 1) := by decide +kernel
theorem dX4_append_11 : decode cX4_append 11 = .ok (.aload_n 0, 1) := by decide +kernel
theorem dX4_append_12 : decode cX4_append 12 = .ok (.getfield 13, 3) := by decide +kernel
theorem dX4_append_15 : decode cX4_append 15 = .ok (.aload_n 0, 1) := by decide +kernel
theorem dX4_append_16 : decode cX4_append 16 = .ok (.getfield 9, 3) := by decide +kernel
theorem dX4_append_19 : decode cX4_append 19 = .ok (.arraylength, 1) := by decide +kernel
theorem dX4_append_20 : decode cX4_append 20 = .ok (.if_icmp .lt 20, 3) := by decide +kernel
theorem dX4_append_23 : decode cX4_append 23 = .ok (.aload_n 0, 1) := by decide +kernel
theorem dX4_append_24 : decode cX4_append 24 = .ok (.aload_n 0, 1) := by decide +kernel
theorem dX4_append_25 : decode cX4_append 25 = .ok (.getfield 9, 3) := by decide +kernel
theorem dX4_append_28 : decode cX4_append 28 = .ok (.iconst 2, 1) := by decide +kernel
theorem dX4_append_29 : decode cX4_append 29 = .ok (.aload_n 0, 1) := by decide +kernel
theorem dX4_append_30 : decode cX4_append 30 = .ok (.getfield 13, 3) := by decide +kernel
theorem dX4_append_33 : decode cX4_append 33 = .ok (.imul, 1) := by decide +kernel
theorem dX4_append_34 : decode cX4_append 34 = .ok (.invokestatic 17, 3) := by decide +kernel
theorem dX4_append_37 : decode cX4_append 37 = .ok (.putfield 9, 3) := by decide +kernel
theorem dX4_append_40 : decode cX4_append 40 = .ok (.aload_n 0, 1) := by decide +kernel
theorem dX4_append_41 : decode cX4_append 41 = .ok (.getfield 9, 3) := by decide +kernel
theorem dX4_append_44 : decode cX4_append 44 = .ok (.aload_n 0, 1) := by decide +kernel
theorem dX4_append_45 : decode cX4_append 45 = .ok (.getfield 13, 3) := by decide +kernel
theorem dX4_append_48 : decode cX4_append 48 = .ok (.iload_n 2, 1) := by decide +kernel
theorem dX4_append_49 : decode cX4_append 49 = .ok (.bipush 16, 2) := by decide +kernel
theorem dX4_append_51 : decode cX4_append 51 = .ok (.ishl, 1) := by decide +kernel
theorem dX4_append_52 : decode cX4_append 52 = .ok (.iload_n 1, 1) := by decide +kernel
theorem dX4_append_53 : decode cX4_append 53 = .ok (.ior, 1) := by decide +kernel
theorem dX4_append_54 : decode cX4_append 54 = .ok (.iastore, 1) := by decide +kernel
theorem dX4_append_55 : decode cX4_append 55 = .ok (.aload_n 0, 1) := by decide +kernel
theorem dX4_append_56 : decode cX4_append 56 = .ok (.dup, 1) := by decide +kernel
theorem dX4_append_57 : decode cX4_append 57 = .ok (.getfield 13, 3) := by decide +kernel
theorem dX4_append_60 : decode cX4_append 60 = .ok (.iconst 1, 1) := by decide +kernel
theorem dX4_append_61 : decode cX4_append 61 = .ok (.iadd, 1) := by decide +kernel
theorem dX4_append_62 : decode cX4_append 62 = .ok (.putfield 13, 3) := by decide +kernel
theorem dX4_append_65 : decode cX4_append 65 = .ok (.return_, 1) := by decide +kernel
theorem dX4_has_0 : decode cX4_has 0 = .ok (.iload_n 1, 1) := by decide +kernel
theorem dX4_has_1 : decode cX4_has 1 = .ok (.ifCond .lt 15, 3) := by decide +kernel
theorem dX4_has_4 : decode cX4_has 4 = .ok (.iload_n 1, 1) := by decide +kernel
theorem dX4_has_5 : decode cX4_has 5 = .ok (.aload_n 0, 1) := by decide +kernel
theorem dX4_has_6 : decode cX4_has 6 = .ok (.getfield 13, 3) := by decide +kernel
theorem dX4_has_9 : decode cX4_has 9 = .ok (.if_icmp .ge 7, 3) := by decide +kernel
theorem dX4_has_12 : decode cX4_has 12 = .ok (.iconst 1, 1) := by decide +kernel
theorem dX4_has_13 : decode cX4_has 13 = .ok (.goto 4, 3) := by decide +kernel
theorem dX4_has_16 : decode cX4_has 16 = .ok (.iconst 0, 1) := by decide +kernel
theorem dX4_has_17 : decode cX4_has 17 = .ok (.ireturn, 1) := by decide +kernel
theorem dX4_rowsOf_0 : decode cX4_rowsOf 0 = .ok (.aload_n 0, 1) := by decide +kernel
theorem dX4_rowsOf_1 : decode cX4_rowsOf 1 = .ok (.iload_n 1, 1) := by decide +kernel
theorem dX4_rowsOf_2 : decode cX4_rowsOf 2 = .ok (.invokevirtual 23, 3) := by decide +kernel
theorem dX4_rowsOf_5 : decode cX4_rowsOf 5 = .ok (.ifCond .eq 15, 3) := by decide +kernel
theorem dX4_rowsOf_8 : decode cX4_rowsOf 8 = .ok (.aload_n 0, 1) := by decide +kernel
theorem dX4_rowsOf_9 : decode cX4_rowsOf 9 = .ok (.getfield 9, 3) := by decide +kernel
theorem dX4_rowsOf_12 : decode cX4_rowsOf 12 = .ok (.iload_n 1, 1) := by decide +kernel
theorem dX4_rowsOf_13 : decode cX4_rowsOf 13 = .ok (.iaload, 1) := by decide +kernel
theorem dX4_rowsOf_14 : decode cX4_rowsOf 14 = .ok (.ldc 27, 2) := by decide +kernel
theorem dX4_rowsOf_16 : decode cX4_rowsOf 16 = .ok (.iand, 1) := by decide +kernel
theorem dX4_rowsOf_17 : decode cX4_rowsOf 17 = .ok (.goto 4, 3) := by decide +kernel
theorem dX4_rowsOf_20 : decode cX4_rowsOf 20 = .ok (.iconst 0, 1) := by decide +kernel
theorem dX4_rowsOf_21 : decode cX4_rowsOf 21 = .ok (.ireturn, 1) := by decide +kernel
theorem dX4_columnsOf_0 : decode cX4_columnsOf 0 = .ok (.aload_n 0, 1) := by decide +kernel
theorem dX4_columnsOf_1 : decode cX4_columnsOf 1 = .ok (.iload_n 1, 1) := by decide +kernel
theorem dX4_columnsOf_2 : decode cX4_columnsOf 2 = .ok (.invokevirtual 23, 3) := by decide +kernel
theorem dX4_columnsOf_5 : decode cX4_columnsOf 5 = .ok (.ifCond .eq 15, 3) := by decide +kernel
theorem dX4_columnsOf_8 : decode cX4_columnsOf 8 = .ok (.aload_n 0, 1) := by decide +kernel
theorem dX4_columnsOf_9 : decode cX4_columnsOf 9 = .ok (.getfield 9, 3) := by decide +kernel
theorem dX4_columnsOf_12 : decode cX4_columnsOf 12 = .ok (.iload_n 1, 1) := by decide +kernel
theorem dX4_columnsOf_13 : decode cX4_columnsOf 13 = .ok (.iaload, 1) := by decide +kernel
theorem dX4_columnsOf_14 : decode cX4_columnsOf 14 = .ok (.bipush 16, 2) := by decide +kernel
theorem dX4_columnsOf_16 : decode cX4_columnsOf 16 = .ok (.iushr, 1) := by decide +kernel
theorem dX4_columnsOf_17 : decode cX4_columnsOf 17 = .ok (.goto 4, 3) := by decide +kernel
theorem dX4_columnsOf_20 : decode cX4_columnsOf 20 = .ok (.iconst 0, 1) := by decide +kernel
theorem dX4_columnsOf_21 : decode cX4_columnsOf 21 = .ok (.ireturn, 1) := by decide +kernel
theorem dX4_withRows_0 : decode cX4_withRows 0 = .ok (.iconst 0, 1) := by decide +kernel
theorem dX4_withRows_1 : decode cX4_withRows 1 = .ok (.istore_n 2, 1) := by decide +kernel
theorem dX4_withRows_2 : decode cX4_withRows 2 = .ok (.sipush 16384, 3) := by decide +kernel
theorem dX4_withRows_5 : decode cX4_withRows 5 = .ok (.istore_n 3, 1) := by decide +kernel
theorem dX4_withRows_6 : decode cX4_withRows 6 = .ok (.iload_n 3, 1) := by decide +kernel
theorem dX4_withRows_7 : decode cX4_withRows 7 = .ok (.ifCond .le 35, 3) := by decide +kernel
theorem dX4_withRows_10 : decode cX4_withRows 10 = .ok (.iload_n 2, 1) := by decide +kernel
theorem dX4_withRows_11 : decode cX4_withRows 11 = .ok (.iload_n 3, 1) := by decide +kernel
theorem dX4_withRows_12 : decode cX4_withRows 12 = .ok (.iadd, 1) := by decide +kernel
theorem dX4_withRows_13 : decode cX4_withRows 13 = .ok (.aload_n 0, 1) := by decide +kernel
theorem dX4_withRows_14 : decode cX4_withRows 14 = .ok (.getfield 13, 3) := by decide +kernel
theorem dX4_withRows_17 : decode cX4_withRows 17 = .ok (.if_icmp .ge 18, 3) := by decide +kernel
theorem dX4_withRows_20 : decode cX4_withRows 20 = .ok (.aload_n 0, 1) := by decide +kernel
theorem dX4_withRows_21 : decode cX4_withRows 21 = .ok (.iload_n 2, 1) := by decide +kernel
theorem dX4_withRows_22 : decode cX4_withRows 22 = .ok (.iload_n 3, 1) := by decide +kernel
theorem dX4_withRows_23 : decode cX4_withRows 23 = .ok (.iadd, 1) := by decide +kernel
theorem dX4_withRows_24 : decode cX4_withRows 24 = .ok (.invokevirtual 28, 3) := by decide +kernel
theorem dX4_withRows_27 : decode cX4_withRows 27 = .ok (.iload_n 1, 1) := by decide +kernel
theorem dX4_withRows_28 : decode cX4_withRows 28 = .ok (.if_icmp .gt 7, 3) := by decide +kernel
theorem dX4_withRows_31 : decode cX4_withRows 31 = .ok (.iload_n 2, 1) := by decide +kernel
theorem dX4_withRows_32 : decode cX4_withRows 32 = .ok (.iload_n 3, 1) := by decide +kernel
theorem dX4_withRows_33 : decode cX4_withRows 33 = .ok (.iadd, 1) := by decide +kernel
theorem dX4_withRows_34 : decode cX4_withRows 34 = .ok (.istore_n 2, 1) := by decide +kernel
theorem dX4_withRows_35 : decode cX4_withRows 35 = .ok (.iload_n 3, 1) := by decide +kernel
theorem dX4_withRows_36 : decode cX4_withRows 36 = .ok (.iconst 2, 1) := by decide +kernel
theorem dX4_withRows_37 : decode cX4_withRows 37 = .ok (.idiv, 1) := by decide +kernel
theorem dX4_withRows_38 : decode cX4_withRows 38 = .ok (.istore_n 3, 1) := by decide +kernel
theorem dX4_withRows_39 : decode cX4_withRows 39 = .ok (.goto (-33), 3) := by decide +kernel
theorem dX4_withRows_42 : decode cX4_withRows 42 = .ok (.iload_n 2, 1) := by decide +kernel
theorem dX4_withRows_43 : decode cX4_withRows 43 = .ok (.ireturn, 1) := by decide +kernel
theorem dX5_init_0 : decode cX5_init 0 = .ok (.aload_n 0, 1) := by decide +kernel
theorem dX5_init_1 : decode cX5_init 1 = .ok (.invokespecial 3, 3) := by decide +kernel
theorem dX5_init_4 : decode cX5_init 4 = .ok (.aload_n 0, 1) := by decide +kernel
theorem dX5_init_5 : decode cX5_init 5 = .ok (.bipush 60, 2) := by decide +kernel
theorem dX5_init_7 : decode cX5_init 7 = .ok (.newarray .int, 2) := by decide +kernel
theorem dX5_init_9 : decode cX5_init 9 = .ok (.putfield 9, 3) := by decide +kernel
theorem dX5_init_12 : decode cX5_init 12 = .ok (.aload_n 0, 1) := by decide +kernel
theorem dX5_init_13 : decode cX5_init 13 = .ok (.iconst 0, 1) := by decide +kernel
theorem dX5_init_14 : decode cX5_init 14 = .ok (.putfield 15, 3) := by decide +kernel
theorem dX5_init_17 : decode cX5_init 17 = .ok (.return_, 1) := by decide +kernel
theorem dX5_size_0 : decode cX5_size 0 = .ok (.aload_n 0, 1) := by decide +kernel
theorem dX5_size_1 : decode cX5_size 1 = .ok (.getfield 15, 3) := by decide +kernel
theorem dX5_size_4 : decode cX5_size 4 = .ok (.ireturn, 1) := by decide +kernel
theorem dX5_append_0 : decode cX5_append 0 = .ok (.aload_n 0, 1) := by decide +kernel
theorem dX5_append_1 : decode cX5_append 1 = .ok (.getfield 15, 3) := by decide +kernel
theorem dX5_append_4 : decode cX5_append 4 = .ok (.bipush 60, 2) := by decide +kernel
theorem dX5_append_6 : decode cX5_append 6 = .ok (.if_icmp .ge 23, 3) := by decide +kernel
theorem dX5_append_9 : decode cX5_append 9 = .ok (.aload_n 0, 1) := by decide +kernel
theorem dX5_append_10 : decode cX5_append 10 = .ok (.getfield 9, 3) := by decide +kernel
theorem dX5_append_13 : decode cX5_append 13 = .ok (.aload_n 0, 1) := by decide +kernel
theorem dX5_append_14 : decode cX5_append 14 = .ok (.getfield 15, 3) := by decide +kernel
theorem dX5_append_17 : decode cX5_append 17 = .ok (.iload_n 1, 1) := by decide +kernel
theorem dX5_append_18 : decode cX5_append 18 = .ok (.iastore, 1) := by decide +kernel
theorem dX5_append_19 : decode cX5_append 19 = .ok (.aload_n 0, 1) := by decide +kernel
theorem dX5_append_20 : decode cX5_append 20 = .ok (.dup, 1) := by decide +kernel
theorem dX5_append_21 : decode cX5_append 21 = .ok (.getfield 15, 3) := by decide +kernel
theorem dX5_append_24 : decode cX5_append 24 = .ok (.iconst 1, 1) := by decide +kernel
theorem dX5_append_25 : decode cX5_append 25 = .ok (.iadd, 1) := by decide +kernel
theorem dX5_append_26 : decode cX5_append 26 = .ok (.putfield 15, 3) := by decide +kernel
theorem dX5_append_29 : decode cX5_append 29 = .ok (.return_, 1) := by decide +kernel
theorem dX5_clear_0 : decode cX5_clear 0 = .ok (.aload_n 0, 1) := by decide +kernel
theorem dX5_clear_1 : decode cX5_clear 1 = .ok (.iconst 0, 1) := by decide +kernel
theorem dX5_clear_2 : decode cX5_clear 2 = .ok (.putfield 15, 3) := by decide +kernel
theorem dX5_clear_5 : decode cX5_clear 5 = .ok (.return_, 1) := by decide +kernel
theorem dX5_codeAt_0 : decode cX5_codeAt 0 = .ok (.iload_n 1, 1) := by decide +kernel
theorem dX5_codeAt_1 : decode cX5_codeAt 1 = .ok (.ifCond .lt 20, 3) := by decide +kernel
theorem dX5_codeAt_4 : decode cX5_codeAt 4 = .ok (.iload_n 1, 1) := by decide +kernel
theorem dX5_codeAt_5 : decode cX5_codeAt 5 = .ok (.aload_n 0, 1) := by decide +kernel
theorem dX5_codeAt_6 : decode cX5_codeAt 6 = .ok (.getfield 15, 3) := by decide +kernel
theorem dX5_codeAt_9 : decode cX5_codeAt 9 = .ok (.if_icmp .ge 12, 3) := by decide +kernel
theorem dX5_codeAt_12 : decode cX5_codeAt 12 = .ok (.aload_n 0, 1) := by decide +kernel
theorem dX5_codeAt_13 : decode cX5_codeAt 13 = .ok (.getfield 9, 3) := by decide +kernel
theorem dX5_codeAt_16 : decode cX5_codeAt 16 = .ok (.iload_n 1, 1) := by decide +kernel
theorem dX5_codeAt_17 : decode cX5_codeAt 17 = .ok (.iaload, 1) := by decide +kernel
theorem dX5_codeAt_18 : decode cX5_codeAt 18 = .ok (.goto 4, 3) := by decide +kernel
theorem dX5_codeAt_21 : decode cX5_codeAt 21 = .ok (.iconst 0, 1) := by decide +kernel
theorem dX5_codeAt_22 : decode cX5_codeAt 22 = .ok (.ireturn, 1) := by decide +kernel
theorem dX5_firstFault_0 : decode cX5_firstFault 0 = .ok (.iconst 0, 1) := by decide +kernel
theorem dX5_firstFault_1 : decode cX5_firstFault 1 = .ok (.istore_n 1, 1) := by decide +kernel
theorem dX5_firstFault_2 : decode cX5_firstFault 2 = .ok (.iconst 0, 1) := by decide +kernel
theorem dX5_firstFault_3 : decode cX5_firstFault 3 = .ok (.istore_n 2, 1) := by decide +kernel
theorem dX5_firstFault_4 : decode cX5_firstFault 4 = .ok (.iconst 1, 1) := by decide +kernel
theorem dX5_firstFault_5 : decode cX5_firstFault 5 = .ok (.istore_n 3, 1) := by decide +kernel
theorem dX5_firstFault_6 : decode cX5_firstFault 6 = .ok (.iconst 0, 1) := by decide +kernel
theorem dX5_firstFault_7 : decode cX5_firstFault 7 = .ok (.istore 4, 2) := by decide +kernel
theorem dX5_firstFault_9 : decode cX5_firstFault 9 = .ok (.iload 4, 2) := by decide +kernel
theorem dX5_firstFault_11 : decode cX5_firstFault 11 = .ok (.aload_n 0, 1) := by decide +kernel
theorem dX5_firstFault_12 : decode cX5_firstFault 12 = .ok (.getfield 15, 3) := by decide +kernel
theorem dX5_firstFault_15 : decode cX5_firstFault 15 = .ok (.if_icmp .ge 136, 3) := by decide +kernel
theorem dX5_firstFault_18 : decode cX5_firstFault 18 = .ok (.iload 4, 2) := by decide +kernel
theorem dX5_firstFault_20 : decode cX5_firstFault 20 = .ok (.iload_n 2, 1) := by decide +kernel
theorem dX5_firstFault_21 : decode cX5_firstFault 21 = .ok (.isub, 1) := by decide +kernel
theorem dX5_firstFault_22 : decode cX5_firstFault 22 = .ok (.istore 5, 2) := by decide +kernel
theorem dX5_firstFault_24 : decode cX5_firstFault 24 = .ok (.aload_n 0, 1) := by decide +kernel
theorem dX5_firstFault_25 : decode cX5_firstFault 25 = .ok (.getfield 9, 3) := by decide +kernel
theorem dX5_firstFault_28 : decode cX5_firstFault 28 = .ok (.iload 4, 2) := by decide +kernel
theorem dX5_firstFault_30 : decode cX5_firstFault 30 = .ok (.iaload, 1) := by decide +kernel
theorem dX5_firstFault_31 : decode cX5_firstFault 31 = .ok (.bipush 44, 2) := by decide +kernel
theorem dX5_firstFault_33 : decode cX5_firstFault 33 = .ok (.if_icmp .ne 62, 3) := by decide +kernel
theorem dX5_firstFault_36 : decode cX5_firstFault 36 = .ok (.iload_n 1, 1) := by decide +kernel
theorem dX5_firstFault_37 : decode cX5_firstFault 37 = .ok (.ifCond .ne 17, 3) := by decide +kernel
theorem dX5_firstFault_40 : decode cX5_firstFault 40 = .ok (.iload 5, 2) := by decide +kernel
theorem dX5_firstFault_42 : decode cX5_firstFault 42 = .ok (.iconst 2, 1) := by decide +kernel
theorem dX5_firstFault_43 : decode cX5_firstFault 43 = .ok (.if_icmp .lt 7, 3) := by decide +kernel
theorem dX5_firstFault_46 : decode cX5_firstFault 46 = .ok (.iconst 1, 1) := by decide +kernel
theorem dX5_firstFault_47 : decode cX5_firstFault 47 = .ok (.goto 18, 3) := by decide +kernel
theorem dX5_firstFault_50 : decode cX5_firstFault 50 = .ok (.iconst 0, 1) := by decide +kernel
theorem dX5_firstFault_51 : decode cX5_firstFault 51 = .ok (.goto 14, 3) := by decide +kernel
theorem dX5_firstFault_54 : decode cX5_firstFault 54 = .ok (.iload 5, 2) := by decide +kernel
theorem dX5_firstFault_56 : decode cX5_firstFault 56 = .ok (.iload_n 1, 1) := by decide +kernel
theorem dX5_firstFault_57 : decode cX5_firstFault 57 = .ok (.if_icmp .ne 7, 3) := by decide +kernel
theorem dX5_firstFault_60 : decode cX5_firstFault 60 = .ok (.iconst 1, 1) := by decide +kernel
theorem dX5_firstFault_61 : decode cX5_firstFault 61 = .ok (.goto 4, 3) := by decide +kernel
theorem dX5_firstFault_64 : decode cX5_firstFault 64 = .ok (.iconst 0, 1) := by decide +kernel
theorem dX5_firstFault_65 : decode cX5_firstFault 65 = .ok (.istore 6, 2) := by decide +kernel
theorem dX5_firstFault_67 : decode cX5_firstFault 67 = .ok (.iload 6, 2) := by decide +kernel
theorem dX5_firstFault_69 : decode cX5_firstFault 69 = .ok (.ifCond .eq 9, 3) := by decide +kernel
theorem dX5_firstFault_72 : decode cX5_firstFault 72 = .ok (.iload_n 3, 1) := by decide +kernel
theorem dX5_firstFault_73 : decode cX5_firstFault 73 = .ok (.bipush 12, 2) := by decide +kernel
theorem dX5_firstFault_75 : decode cX5_firstFault 75 = .ok (.if_icmp .ne 6, 3) := by decide +kernel
theorem dX5_firstFault_78 : decode cX5_firstFault 78 = .ok (.iload 4, 2) := by decide +kernel
theorem dX5_firstFault_80 : decode cX5_firstFault 80 = .ok (.ireturn, 1) := by decide +kernel
theorem dX5_firstFault_81 : decode cX5_firstFault 81 = .ok (.iload 5, 2) := by decide +kernel
theorem dX5_firstFault_83 : decode cX5_firstFault 83 = .ok (.istore_n 1, 1) := by decide +kernel
theorem dX5_firstFault_84 : decode cX5_firstFault 84 = .ok (.iload 4, 2) := by decide +kernel
theorem dX5_firstFault_86 : decode cX5_firstFault 86 = .ok (.iconst 1, 1) := by decide +kernel
theorem dX5_firstFault_87 : decode cX5_firstFault 87 = .ok (.iadd, 1) := by decide +kernel
theorem dX5_firstFault_88 : decode cX5_firstFault 88 = .ok (.istore_n 2, 1) := by decide +kernel
theorem dX5_firstFault_89 : decode cX5_firstFault 89 = .ok (.iinc 3 1, 3) := by decide +kernel
theorem dX5_firstFault_92 : decode cX5_firstFault 92 = .ok (.goto 53, 3) := by decide +kernel
theorem dX5_firstFault_95 : decode cX5_firstFault 95 = .ok (.aload_n 0, 1) := by decide +kernel
theorem dX5_firstFault_96 : decode cX5_firstFault 96 = .ok (.getfield 9, 3) := by decide +kernel
theorem dX5_firstFault_99 : decode cX5_firstFault 99 = .ok (.iload 4, 2) := by decide +kernel
theorem dX5_firstFault_101 : decode cX5_firstFault 101 = .ok (.iaload, 1) := by decide +kernel
theorem dX5_firstFault_102 : decode cX5_firstFault 102 = .ok (.invokestatic 19, 3) := by decide +kernel
theorem dX5_firstFault_105 : decode cX5_firstFault 105 = .ok (.ifCond .eq 17, 3) := by decide +kernel
theorem dX5_firstFault_108 : decode cX5_firstFault 108 = .ok (.iload 5, 2) := by decide +kernel
theorem dX5_firstFault_110 : decode cX5_firstFault 110 = .ok (.iload_n 1, 1) := by decide +kernel
theorem dX5_firstFault_111 : decode cX5_firstFault 111 = .ok (.ifCond .ne 7, 3) := by decide +kernel
theorem dX5_firstFault_114 : decode cX5_firstFault 114 = .ok (.iconst 4, 1) := by decide +kernel
theorem dX5_firstFault_115 : decode cX5_firstFault 115 = .ok (.goto 4, 3) := by decide +kernel
theorem dX5_firstFault_118 : decode cX5_firstFault 118 = .ok (.iload_n 1, 1) := by decide +kernel
theorem dX5_firstFault_119 : decode cX5_firstFault 119 = .ok (.if_icmp .lt 6, 3) := by decide +kernel
theorem dX5_firstFault_122 : decode cX5_firstFault 122 = .ok (.iload 4, 2) := by decide +kernel
theorem dX5_firstFault_124 : decode cX5_firstFault 124 = .ok (.ireturn, 1) := by decide +kernel
theorem dX5_firstFault_125 : decode cX5_firstFault 125 = .ok (.iload 5, 2) := by decide +kernel
theorem dX5_firstFault_127 : decode cX5_firstFault 127 = .ok (.iload_n 1, 1) := by decide +kernel
theorem dX5_firstFault_128 : decode cX5_firstFault 128 = .ok (.iconst 1, 1) := by decide +kernel
theorem dX5_firstFault_129 : decode cX5_firstFault 129 = .ok (.isub, 1) := by decide +kernel
theorem dX5_firstFault_130 : decode cX5_firstFault 130 = .ok (.if_icmp .ne 15, 3) := by decide +kernel
theorem dX5_firstFault_133 : decode cX5_firstFault 133 = .ok (.aload_n 0, 1) := by decide +kernel
theorem dX5_firstFault_134 : decode cX5_firstFault 134 = .ok (.iload_n 2, 1) := by decide +kernel
theorem dX5_firstFault_135 : decode cX5_firstFault 135 = .ok (.iload_n 1, 1) := by decide +kernel
theorem dX5_firstFault_136 : decode cX5_firstFault 136 = .ok (.invokevirtual 23, 3) := by decide +kernel
theorem dX5_firstFault_139 : decode cX5_firstFault 139 = .ok (.ifCond .eq 6, 3) := by decide +kernel
theorem dX5_firstFault_142 : decode cX5_firstFault 142 = .ok (.iload 4, 2) := by decide +kernel
theorem dX5_firstFault_144 : decode cX5_firstFault 144 = .ok (.ireturn, 1) := by decide +kernel
theorem dX5_firstFault_145 : decode cX5_firstFault 145 = .ok (.iinc 4 1, 3) := by decide +kernel
theorem dX5_firstFault_148 : decode cX5_firstFault 148 = .ok (.goto (-139), 3) := by decide +kernel
theorem dX5_firstFault_151 : decode cX5_firstFault 151 = .ok (.aload_n 0, 1) := by decide +kernel
theorem dX5_firstFault_152 : decode cX5_firstFault 152 = .ok (.getfield 15, 3) := by decide +kernel
theorem dX5_firstFault_155 : decode cX5_firstFault 155 = .ok (.ireturn, 1) := by decide +kernel
theorem dX5_isLetter_0 : decode cX5_isLetter 0 = .ok (.iload_n 0, 1) := by decide +kernel
theorem dX5_isLetter_1 : decode cX5_isLetter 1 = .ok (.bipush 97, 2) := by decide +kernel
theorem dX5_isLetter_3 : decode cX5_isLetter 3 = .ok (.if_icmp .lt 13, 3) := by decide +kernel
theorem dX5_isLetter_6 : decode cX5_isLetter 6 = .ok (.iload_n 0, 1) := by decide +kernel
theorem dX5_isLetter_7 : decode cX5_isLetter 7 = .ok (.bipush 122, 2) := by decide +kernel
theorem dX5_isLetter_9 : decode cX5_isLetter 9 = .ok (.if_icmp .gt 7, 3) := by decide +kernel
theorem dX5_isLetter_12 : decode cX5_isLetter 12 = .ok (.iconst 1, 1) := by decide +kernel
theorem dX5_isLetter_13 : decode cX5_isLetter 13 = .ok (.goto 4, 3) := by decide +kernel
theorem dX5_isLetter_16 : decode cX5_isLetter 16 = .ok (.iconst 0, 1) := by decide +kernel
theorem dX5_isLetter_17 : decode cX5_isLetter 17 = .ok (.ireturn, 1) := by decide +kernel
theorem dX5_repeats_0 : decode cX5_repeats 0 = .ok (.iconst 0, 1) := by decide +kernel
theorem dX5_repeats_1 : decode cX5_repeats 1 = .ok (.istore_n 3, 1) := by decide +kernel
theorem dX5_repeats_2 : decode cX5_repeats 2 = .ok (.iload_n 3, 1) := by decide +kernel
theorem dX5_repeats_3 : decode cX5_repeats 3 = .ok (.iload_n 1, 1) := by decide +kernel
theorem dX5_repeats_4 : decode cX5_repeats 4 = .ok (.if_icmp .ge 24, 3) := by decide +kernel
theorem dX5_repeats_7 : decode cX5_repeats 7 = .ok (.aload_n 0, 1) := by decide +kernel
theorem dX5_repeats_8 : decode cX5_repeats 8 = .ok (.iload_n 3, 1) := by decide +kernel
theorem dX5_repeats_9 : decode cX5_repeats 9 = .ok (.iload_n 1, 1) := by decide +kernel
theorem dX5_repeats_10 : decode cX5_repeats 10 = .ok (.iload_n 2, 1) := by decide +kernel
theorem dX5_repeats_11 : decode cX5_repeats 11 = .ok (.invokevirtual 27, 3) := by decide +kernel
theorem dX5_repeats_14 : decode cX5_repeats 14 = .ok (.ifCond .eq 5, 3) := by decide +kernel
theorem dX5_repeats_17 : decode cX5_repeats 17 = .ok (.iconst 1, 1) := by decide +kernel
theorem dX5_repeats_18 : decode cX5_repeats 18 = .ok (.ireturn, 1) := by decide +kernel
theorem dX5_repeats_19 : decode cX5_repeats 19 = .ok (.iload_n 3, 1) := by decide +kernel
theorem dX5_repeats_20 : decode cX5_repeats 20 = .ok (.iload_n 2, 1) := by decide +kernel
theorem dX5_repeats_21 : decode cX5_repeats 21 = .ok (.iconst 1, 1) := by decide +kernel
theorem dX5_repeats_22 : decode cX5_repeats 22 = .ok (.iadd, 1) := by decide +kernel
theorem dX5_repeats_23 : decode cX5_repeats 23 = .ok (.iadd, 1) := by decide +kernel
theorem dX5_repeats_24 : decode cX5_repeats 24 = .ok (.istore_n 3, 1) := by decide +kernel
theorem dX5_repeats_25 : decode cX5_repeats 25 = .ok (.goto (-23), 3) := by decide +kernel
theorem dX5_repeats_28 : decode cX5_repeats 28 = .ok (.iconst 0, 1) := by decide +kernel
theorem dX5_repeats_29 : decode cX5_repeats 29 = .ok (.ireturn, 1) := by decide +kernel
theorem dX5_sameWord_0 : decode cX5_sameWord 0 = .ok (.iconst 0, 1) := by decide +kernel
theorem dX5_sameWord_1 : decode cX5_sameWord 1 = .ok (.istore 4, 2) := by decide +kernel
theorem dX5_sameWord_3 : decode cX5_sameWord 3 = .ok (.iload 4, 2) := by decide +kernel
theorem dX5_sameWord_5 : decode cX5_sameWord 5 = .ok (.iload_n 3, 1) := by decide +kernel
theorem dX5_sameWord_6 : decode cX5_sameWord 6 = .ok (.if_icmp .ge 30, 3) := by decide +kernel
theorem dX5_sameWord_9 : decode cX5_sameWord 9 = .ok (.aload_n 0, 1) := by decide +kernel
theorem dX5_sameWord_10 : decode cX5_sameWord 10 = .ok (.iload_n 1, 1) := by decide +kernel
theorem dX5_sameWord_11 : decode cX5_sameWord 11 = .ok (.iload 4, 2) := by decide +kernel
theorem dX5_sameWord_13 : decode cX5_sameWord 13 = .ok (.iadd, 1) := by decide +kernel
theorem dX5_sameWord_14 : decode cX5_sameWord 14 = .ok (.invokevirtual 31, 3) := by decide +kernel
theorem dX5_sameWord_17 : decode cX5_sameWord 17 = .ok (.aload_n 0, 1) := by decide +kernel
theorem dX5_sameWord_18 : decode cX5_sameWord 18 = .ok (.iload_n 2, 1) := by decide +kernel
theorem dX5_sameWord_19 : decode cX5_sameWord 19 = .ok (.iload 4, 2) := by decide +kernel
theorem dX5_sameWord_21 : decode cX5_sameWord 21 = .ok (.iadd, 1) := by decide +kernel
theorem dX5_sameWord_22 : decode cX5_sameWord 22 = .ok (.invokevirtual 31, 3) := by decide +kernel
theorem dX5_sameWord_25 : decode cX5_sameWord 25 = .ok (.if_icmp .eq 5, 3) := by decide +kernel
theorem dX5_sameWord_28 : decode cX5_sameWord 28 = .ok (.iconst 0, 1) := by decide +kernel
theorem dX5_sameWord_29 : decode cX5_sameWord 29 = .ok (.ireturn, 1) := by decide +kernel
theorem dX5_sameWord_30 : decode cX5_sameWord 30 = .ok (.iinc 4 1, 3) := by decide +kernel
theorem dX5_sameWord_33 : decode cX5_sameWord 33 = .ok (.goto (-30), 3) := by decide +kernel
theorem dX5_sameWord_36 : decode cX5_sameWord 36 = .ok (.iconst 1, 1) := by decide +kernel
theorem dX5_sameWord_37 : decode cX5_sameWord 37 = .ok (.ireturn, 1) := by decide +kernel
theorem dX5_lengthOfWords_0 : decode cX5_lengthOfWords 0 = .ok (.aload_n 0, 1) := by decide +kernel
theorem dX5_lengthOfWords_1 : decode cX5_lengthOfWords 1 = .ok (.invokevirtual 35, 3) := by decide +kernel
theorem dX5_lengthOfWords_4 : decode cX5_lengthOfWords 4 = .ok (.aload_n 0, 1) := by decide +kernel
theorem dX5_lengthOfWords_5 : decode cX5_lengthOfWords 5 = .ok (.getfield 15, 3) := by decide +kernel
theorem dX5_lengthOfWords_8 : decode cX5_lengthOfWords 8 = .ok (.if_icmp .ge 5, 3) := by decide +kernel
theorem dX5_lengthOfWords_11 : decode cX5_lengthOfWords 11 = .ok (.iconst 0, 1) := by decide +kernel
theorem dX5_lengthOfWords_12 : decode cX5_lengthOfWords 12 = .ok (.ireturn, 1) := by decide +kernel
theorem dX5_lengthOfWords_13 : decode cX5_lengthOfWords 13 = .ok (.aload_n 0, 1) := by decide +kernel
theorem dX5_lengthOfWords_14 : decode cX5_lengthOfWords 14 = .ok (.invokevirtual 39, 3) := by decide +kernel
theorem dX5_lengthOfWords_17 : decode cX5_lengthOfWords 17 = .ok (.istore_n 1, 1) := by decide +kernel
theorem dX5_lengthOfWords_18 : decode cX5_lengthOfWords 18 = .ok (.iload_n 1, 1) := by decide +kernel
theorem dX5_lengthOfWords_19 : decode cX5_lengthOfWords 19 = .ok (.iconst 2, 1) := by decide +kernel
theorem dX5_lengthOfWords_20 : decode cX5_lengthOfWords 20 = .ok (.if_icmp .lt 16, 3) := by decide +kernel
theorem dX5_lengthOfWords_23 : decode cX5_lengthOfWords 23 = .ok (.aload_n 0, 1) := by decide +kernel
theorem dX5_lengthOfWords_24 : decode cX5_lengthOfWords 24 = .ok (.getfield 15, 3) := by decide +kernel
theorem dX5_lengthOfWords_27 : decode cX5_lengthOfWords 27 = .ok (.iconst 1, 1) := by decide +kernel
theorem dX5_lengthOfWords_28 : decode cX5_lengthOfWords 28 = .ok (.iadd, 1) := by decide +kernel
theorem dX5_lengthOfWords_29 : decode cX5_lengthOfWords 29 = .ok (.iload_n 1, 1) := by decide +kernel
theorem dX5_lengthOfWords_30 : decode cX5_lengthOfWords 30 = .ok (.iconst 1, 1) := by decide +kernel
theorem dX5_lengthOfWords_31 : decode cX5_lengthOfWords 31 = .ok (.iadd, 1) := by decide +kernel
theorem dX5_lengthOfWords_32 : decode cX5_lengthOfWords 32 = .ok (.irem, 1) := by decide +kernel
theorem dX5_lengthOfWords_33 : decode cX5_lengthOfWords 33 = .ok (.ifCond .eq 5, 3) := by decide +kernel
theorem dX5_lengthOfWords_36 : decode cX5_lengthOfWords 36 = .ok (.iconst 0, 1) := by decide +kernel
theorem dX5_lengthOfWords_37 : decode cX5_lengthOfWords 37 = .ok (.ireturn, 1) := by decide +kernel
theorem dX5_lengthOfWords_38 : decode cX5_lengthOfWords 38 = .ok (.iload_n 1, 1) := by decide +kernel
theorem dX5_lengthOfWords_39 : decode cX5_lengthOfWords 39 = .ok (.ireturn, 1) := by decide +kernel
theorem dX5_firstComma_0 : decode cX5_firstComma 0 = .ok (.iconst 0, 1) := by decide +kernel
theorem dX5_firstComma_1 : decode cX5_firstComma 1 = .ok (.istore_n 1, 1) := by decide +kernel
theorem dX5_firstComma_2 : decode cX5_firstComma 2 = .ok (.iload_n 1, 1) := by decide +kernel
theorem dX5_firstComma_3 : decode cX5_firstComma 3 = .ok (.aload_n 0, 1) := by decide +kernel
theorem dX5_firstComma_4 : decode cX5_firstComma 4 = .ok (.getfield 15, 3) := by decide +kernel
theorem dX5_firstComma_7 : decode cX5_firstComma 7 = .ok (.if_icmp .ge 22, 3) := by decide +kernel
theorem dX5_firstComma_10 : decode cX5_firstComma 10 = .ok (.aload_n 0, 1) := by decide +kernel
theorem dX5_firstComma_11 : decode cX5_firstComma 11 = .ok (.getfield 9, 3) := by decide +kernel
theorem dX5_firstComma_14 : decode cX5_firstComma 14 = .ok (.iload_n 1, 1) := by decide +kernel
theorem dX5_firstComma_15 : decode cX5_firstComma 15 = .ok (.iaload, 1) := by decide +kernel
theorem dX5_firstComma_16 : decode cX5_firstComma 16 = .ok (.bipush 44, 2) := by decide +kernel
theorem dX5_firstComma_18 : decode cX5_firstComma 18 = .ok (.if_icmp .ne 5, 3) := by decide +kernel
theorem dX5_firstComma_21 : decode cX5_firstComma 21 = .ok (.iload_n 1, 1) := by decide +kernel
theorem dX5_firstComma_22 : decode cX5_firstComma 22 = .ok (.ireturn, 1) := by decide +kernel
theorem dX5_firstComma_23 : decode cX5_firstComma 23 = .ok (.iinc 1 1, 3) := by decide +kernel
theorem dX5_firstComma_26 : decode cX5_firstComma 26 = .ok (.goto (-24), 3) := by decide +kernel
theorem dX5_firstComma_29 : decode cX5_firstComma 29 = .ok (.aload_n 0, 1) := by decide +kernel
theorem dX5_firstComma_30 : decode cX5_firstComma 30 = .ok (.getfield 15, 3) := by decide +kernel
theorem dX5_firstComma_33 : decode cX5_firstComma 33 = .ok (.ireturn, 1) := by decide +kernel
theorem dX5_numberOfWords_0 : decode cX5_numberOfWords 0 = .ok (.iload_n 1, 1) := by decide +kernel
theorem dX5_numberOfWords_1 : decode cX5_numberOfWords 1 = .ok (.iconst 2, 1) := by decide +kernel
theorem dX5_numberOfWords_2 : decode cX5_numberOfWords 2 = .ok (.if_icmp .ge 7, 3) := by decide +kernel
theorem dX5_numberOfWords_5 : decode cX5_numberOfWords 5 = .ok (.iconst 0, 1) := by decide +kernel
theorem dX5_numberOfWords_6 : decode cX5_numberOfWords 6 = .ok (.goto 13, 3) := by decide +kernel
theorem dX5_numberOfWords_9 : decode cX5_numberOfWords 9 = .ok (.aload_n 0, 1) := by decide +kernel
theorem dX5_numberOfWords_10 : decode cX5_numberOfWords 10 = .ok (.getfield 15, 3) := by decide +kernel
theorem dX5_numberOfWords_13 : decode cX5_numberOfWords 13 = .ok (.iconst 1, 1) := by decide +kernel
theorem dX5_numberOfWords_14 : decode cX5_numberOfWords 14 = .ok (.iadd, 1) := by decide +kernel
theorem dX5_numberOfWords_15 : decode cX5_numberOfWords 15 = .ok (.iload_n 1, 1) := by decide +kernel
theorem dX5_numberOfWords_16 : decode cX5_numberOfWords 16 = .ok (.iconst 1, 1) := by decide +kernel
theorem dX5_numberOfWords_17 : decode cX5_numberOfWords 17 = .ok (.iadd, 1) := by decide +kernel
theorem dX5_numberOfWords_18 : decode cX5_numberOfWords 18 = .ok (.idiv, 1) := by decide +kernel
theorem dX5_numberOfWords_19 : decode cX5_numberOfWords 19 = .ok (.ireturn, 1) := by decide +kernel
theorem dX5_codeOf_0 : decode cX5_codeOf 0 = .ok (.iload_n 1, 1) := by decide +kernel
theorem dX5_codeOf_1 : decode cX5_codeOf 1 = .ok (.iload_n 2, 1) := by decide +kernel
theorem dX5_codeOf_2 : decode cX5_codeOf 2 = .ok (.iconst 1, 1) := by decide +kernel
theorem dX5_codeOf_3 : decode cX5_codeOf 3 = .ok (.iadd, 1) := by decide +kernel
theorem dX5_codeOf_4 : decode cX5_codeOf 4 = .ok (.imul, 1) := by decide +kernel
theorem dX5_codeOf_5 : decode cX5_codeOf 5 = .ok (.istore_n 3, 1) := by decide +kernel
theorem dX5_codeOf_6 : decode cX5_codeOf 6 = .ok (.iconst 0, 1) := by decide +kernel
theorem dX5_codeOf_7 : decode cX5_codeOf 7 = .ok (.istore 4, 2) := by decide +kernel
theorem dX5_codeOf_9 : decode cX5_codeOf 9 = .ok (.iconst 0, 1) := by decide +kernel
theorem dX5_codeOf_10 : decode cX5_codeOf 10 = .ok (.istore 5, 2) := by decide +kernel
theorem dX5_codeOf_12 : decode cX5_codeOf 12 = .ok (.iload 5, 2) := by decide +kernel
theorem dX5_codeOf_14 : decode cX5_codeOf 14 = .ok (.iload_n 2, 1) := by decide +kernel
theorem dX5_codeOf_15 : decode cX5_codeOf 15 = .ok (.if_icmp .ge 30, 3) := by decide +kernel
theorem dX5_codeOf_18 : decode cX5_codeOf 18 = .ok (.iload 4, 2) := by decide +kernel
theorem dX5_codeOf_20 : decode cX5_codeOf 20 = .ok (.iconst 5, 1) := by decide +kernel
theorem dX5_codeOf_21 : decode cX5_codeOf 21 = .ok (.ishl, 1) := by decide +kernel
theorem dX5_codeOf_22 : decode cX5_codeOf 22 = .ok (.aload_n 0, 1) := by decide +kernel
theorem dX5_codeOf_23 : decode cX5_codeOf 23 = .ok (.iload_n 3, 1) := by decide +kernel
theorem dX5_codeOf_24 : decode cX5_codeOf 24 = .ok (.iload 5, 2) := by decide +kernel
theorem dX5_codeOf_26 : decode cX5_codeOf 26 = .ok (.iadd, 1) := by decide +kernel
theorem dX5_codeOf_27 : decode cX5_codeOf 27 = .ok (.invokevirtual 31, 3) := by decide +kernel
theorem dX5_codeOf_30 : decode cX5_codeOf 30 = .ok (.bipush 97, 2) := by decide +kernel
theorem dX5_codeOf_32 : decode cX5_codeOf 32 = .ok (.isub, 1) := by decide +kernel
theorem dX5_codeOf_33 : decode cX5_codeOf 33 = .ok (.bipush 31, 2) := by decide +kernel
theorem dX5_codeOf_35 : decode cX5_codeOf 35 = .ok (.iand, 1) := by decide +kernel
theorem dX5_codeOf_36 : decode cX5_codeOf 36 = .ok (.ior, 1) := by decide +kernel
theorem dX5_codeOf_37 : decode cX5_codeOf 37 = .ok (.istore 4, 2) := by decide +kernel
theorem dX5_codeOf_39 : decode cX5_codeOf 39 = .ok (.iinc 5 1, 3) := by decide +kernel
theorem dX5_codeOf_42 : decode cX5_codeOf 42 = .ok (.goto (-30), 3) := by decide +kernel
theorem dX5_codeOf_45 : decode cX5_codeOf 45 = .ok (.iload 4, 2) := by decide +kernel
theorem dX5_codeOf_47 : decode cX5_codeOf 47 = .ok (.ireturn, 1) := by decide +kernel
theorem dX6_init_0 : decode cX6_init 0 = .ok (.aload_n 0, 1) := by decide +kernel
theorem dX6_init_1 : decode cX6_init 1 = .ok (.invokespecial 3, 3) := by decide +kernel
theorem dX6_init_4 : decode cX6_init 4 = .ok (.aload_n 0, 1) := by decide +kernel
theorem dX6_init_5 : decode cX6_init 5 = .ok (.bipush 16, 2) := by decide +kernel
theorem dX6_init_7 : decode cX6_init 7 = .ok (.newarray .int, 2) := by decide +kernel
theorem dX6_init_9 : decode cX6_init 9 = .ok (.putfield 9, 3) := by decide +kernel
theorem dX6_init_12 : decode cX6_init 12 = .ok (.aload_n 0, 1) := by decide +kernel
theorem dX6_init_13 : decode cX6_init 13 = .ok (.bipush 16, 2) := by decide +kernel
theorem dX6_init_15 : decode cX6_init 15 = .ok (.newarray .int, 2) := by decide +kernel
theorem dX6_init_17 : decode cX6_init 17 = .ok (.putfield 15, 3) := by decide +kernel
theorem dX6_init_20 : decode cX6_init 20 = .ok (.aload_n 0, 1) := by decide +kernel
theorem dX6_init_21 : decode cX6_init 21 = .ok (.iconst 0, 1) := by decide +kernel
theorem dX6_init_22 : decode cX6_init 22 = .ok (.putfield 18, 3) := by decide +kernel
theorem dX6_init_25 : decode cX6_init 25 = .ok (.aload_n 0, 1) := by decide +kernel
theorem dX6_init_26 : decode cX6_init 26 = .ok (.iconst 0, 1) := by decide +kernel
theorem dX6_init_27 : decode cX6_init 27 = .ok (.putfield 22, 3) := by decide +kernel
theorem dX6_init_30 : decode cX6_init 30 = .ok (.return_, 1) := by decide +kernel
theorem dX6_size_0 : decode cX6_size 0 = .ok (.aload_n 0, 1) := by decide +kernel
theorem dX6_size_1 : decode cX6_size 1 = .ok (.getfield 18, 3) := by decide +kernel
theorem dX6_size_4 : decode cX6_size 4 = .ok (.ireturn, 1) := by decide +kernel
theorem dX6_length_0 : decode cX6_length 0 = .ok (.aload_n 0, 1) := by decide +kernel
theorem dX6_length_1 : decode cX6_length 1 = .ok (.getfield 22, 3) := by decide +kernel
theorem dX6_length_4 : decode cX6_length 4 = .ok (.ireturn, 1) := by decide +kernel
theorem dX6_has_0 : decode cX6_has 0 = .ok (.iload_n 1, 1) := by decide +kernel
theorem dX6_has_1 : decode cX6_has 1 = .ok (.ifCond .lt 15, 3) := by decide +kernel
theorem dX6_has_4 : decode cX6_has 4 = .ok (.iload_n 1, 1) := by decide +kernel
theorem dX6_has_5 : decode cX6_has 5 = .ok (.aload_n 0, 1) := by decide +kernel
theorem dX6_has_6 : decode cX6_has 6 = .ok (.getfield 18, 3) := by decide +kernel
theorem dX6_has_9 : decode cX6_has 9 = .ok (.if_icmp .ge 7, 3) := by decide +kernel
theorem dX6_has_12 : decode cX6_has 12 = .ok (.iconst 1, 1) := by decide +kernel
theorem dX6_has_13 : decode cX6_has 13 = .ok (.goto 4, 3) := by decide +kernel
theorem dX6_has_16 : decode cX6_has 16 = .ok (.iconst 0, 1) := by decide +kernel
theorem dX6_has_17 : decode cX6_has 17 = .ok (.ireturn, 1) := by decide +kernel
theorem dX6_hasPlace_0 : decode cX6_hasPlace 0 = .ok (.iload_n 1, 1) := by decide +kernel
theorem dX6_hasPlace_1 : decode cX6_hasPlace 1 = .ok (.ifCond .lt 15, 3) := by decide +kernel
theorem dX6_hasPlace_4 : decode cX6_hasPlace 4 = .ok (.iload_n 1, 1) := by decide +kernel
theorem dX6_hasPlace_5 : decode cX6_hasPlace 5 = .ok (.aload_n 0, 1) := by decide +kernel
theorem dX6_hasPlace_6 : decode cX6_hasPlace 6 = .ok (.getfield 22, 3) := by decide +kernel
theorem dX6_hasPlace_9 : decode cX6_hasPlace 9 = .ok (.if_icmp .ge 7, 3) := by decide +kernel
theorem dX6_hasPlace_12 : decode cX6_hasPlace 12 = .ok (.iconst 1, 1) := by decide +kernel
theorem dX6_hasPlace_13 : decode cX6_hasPlace 13 = .ok (.goto 4, 3) := by decide +kernel
theorem dX6_hasPlace_16 : decode cX6_hasPlace 16 = .ok (.iconst 0, 1) := by decide +kernel
theorem dX6_hasPlace_17 : decode cX6_hasPlace 17 = .ok (.ireturn, 1) := by decide +kernel
theorem dX6_takesLength_0 : decode cX6_takesLength 0 = .ok (.aload_n 0, 1) := by decide +kernel
theorem dX6_takesLength_1 : decode cX6_takesLength 1 = .ok (.getfield 18, 3) := by decide +kernel
theorem dX6_takesLength_4 : decode cX6_takesLength 4 = .ok (.ifCond .eq 11, 3) := by decide +kernel
theorem dX6_takesLength_7 : decode cX6_takesLength 7 = .ok (.iload_n 1, 1) := by decide +kernel
theorem dX6_takesLength_8 : decode cX6_takesLength 8 = .ok (.aload_n 0, 1) := by decide +kernel
theorem dX6_takesLength_9 : decode cX6_takesLength 9 = .ok (.getfield 22, 3) := by decide +kernel
theorem dX6_takesLength_12 : decode cX6_takesLength 12 = .ok (.if_icmp .ne 7, 3) := by decide +kernel
theorem dX6_takesLength_15 : decode cX6_takesLength 15 = .ok (.iconst 1, 1) := by decide +kernel
theorem dX6_takesLength_16 : decode cX6_takesLength 16 = .ok (.goto 4, 3) := by decide +kernel
theorem dX6_takesLength_19 : decode cX6_takesLength 19 = .ok (.iconst 0, 1) := by decide +kernel
theorem dX6_takesLength_20 : decode cX6_takesLength 20 = .ok (.ireturn, 1) := by decide +kernel
theorem dX6_find_0 : decode cX6_find 0 = .ok (.iconst 0, 1) := by decide +kernel
theorem dX6_find_1 : decode cX6_find 1 = .ok (.istore_n 2, 1) := by decide +kernel
theorem dX6_find_2 : decode cX6_find 2 = .ok (.iload_n 2, 1) := by decide +kernel
theorem dX6_find_3 : decode cX6_find 3 = .ok (.aload_n 0, 1) := by decide +kernel
theorem dX6_find_4 : decode cX6_find 4 = .ok (.getfield 18, 3) := by decide +kernel
theorem dX6_find_7 : decode cX6_find 7 = .ok (.if_icmp .ge 21, 3) := by decide +kernel
theorem dX6_find_10 : decode cX6_find 10 = .ok (.aload_n 0, 1) := by decide +kernel
theorem dX6_find_11 : decode cX6_find 11 = .ok (.getfield 9, 3) := by decide +kernel
theorem dX6_find_14 : decode cX6_find 14 = .ok (.iload_n 2, 1) := by decide +kernel
theorem dX6_find_15 : decode cX6_find 15 = .ok (.iaload, 1) := by decide +kernel
theorem dX6_find_16 : decode cX6_find 16 = .ok (.iload_n 1, 1) := by decide +kernel
theorem dX6_find_17 : decode cX6_find 17 = .ok (.if_icmp .ne 5, 3) := by decide +kernel
theorem dX6_find_20 : decode cX6_find 20 = .ok (.iload_n 2, 1) := by decide +kernel
theorem dX6_find_21 : decode cX6_find 21 = .ok (.ireturn, 1) := by decide +kernel
theorem dX6_find_22 : decode cX6_find 22 = .ok (.iinc 2 1, 3) := by decide +kernel
theorem dX6_find_25 : decode cX6_find 25 = .ok (.goto (-23), 3) := by decide +kernel
theorem dX6_find_28 : decode cX6_find 28 = .ok (.iconst (-1), 1) := by decide +kernel
theorem dX6_find_29 : decode cX6_find 29 = .ok (.ireturn, 1) := by decide +kernel
theorem dX6_insert_0 : decode cX6_insert 0 = .ok (.aload_n 0, 1) := by decide +kernel
theorem dX6_insert_1 : decode cX6_insert 1 = .ok (.getfield 18, 3) := by decide +kernel
theorem dX6_insert_4 : decode cX6_insert 4 = .ok (.bipush 12, 2) := by decide +kernel
theorem dX6_insert_6 : decode cX6_insert 6 = .ok (.if_icmp .lt 4, 3) := by decide +kernel
theorem dX6_insert_9 : decode cX6_insert 9 = .ok (.return_, 1) := by decide +kernel
theorem dX6_insert_10 : decode cX6_insert 10 = .ok (.aload_n 0, 1) := by decide +kernel
theorem dX6_insert_11 : decode cX6_insert 11 = .ok (.getfield 18, 3) := by decide +kernel
theorem dX6_insert_14 : decode cX6_insert 14 = .ok (.istore_n 3, 1) := by decide +kernel
theorem dX6_insert_15 : decode cX6_insert 15 = .ok (.iload_n 3, 1) := by decide +kernel
theorem dX6_insert_16 : decode cX6_insert 16 = .ok (.ifCond .le 49, 3) := by decide +kernel
theorem dX6_insert_19 : decode cX6_insert 19 = .ok (.aload_n 0, 1) := by decide +kernel
theorem dX6_insert_20 : decode cX6_insert 20 = .ok (.getfield 9, 3) := by decide +kernel
theorem dX6_insert_23 : decode cX6_insert 23 = .ok (.iload_n 3, 1) := by decide +kernel
theorem dX6_insert_24 : decode cX6_insert 24 = .ok (.iconst 1, 1) := by decide +kernel
theorem dX6_insert_25 : decode cX6_insert 25 = .ok (.isub, 1) := by decide +kernel
theorem dX6_insert_26 : decode cX6_insert 26 = .ok (.iaload, 1) := by decide +kernel
theorem dX6_insert_27 : decode cX6_insert 27 = .ok (.iload_n 1, 1) := by decide +kernel
theorem dX6_insert_28 : decode cX6_insert 28 = .ok (.if_icmp .le 37, 3) := by decide +kernel
theorem dX6_insert_31 : decode cX6_insert 31 = .ok (.aload_n 0, 1) := by decide +kernel
theorem dX6_insert_32 : decode cX6_insert 32 = .ok (.getfield 9, 3) := by decide +kernel
theorem dX6_insert_35 : decode cX6_insert 35 = .ok (.iload_n 3, 1) := by decide +kernel
theorem dX6_insert_36 : decode cX6_insert 36 = .ok (.aload_n 0, 1) := by decide +kernel
theorem dX6_insert_37 : decode cX6_insert 37 = .ok (.getfield 9, 3) := by decide +kernel
theorem dX6_insert_40 : decode cX6_insert 40 = .ok (.iload_n 3, 1) := by decide +kernel
theorem dX6_insert_41 : decode cX6_insert 41 = .ok (.iconst 1, 1) := by decide +kernel
theorem dX6_insert_42 : decode cX6_insert 42 = .ok (.isub, 1) := by decide +kernel
theorem dX6_insert_43 : decode cX6_insert 43 = .ok (.iaload, 1) := by decide +kernel
theorem dX6_insert_44 : decode cX6_insert 44 = .ok (.iastore, 1) := by decide +kernel
theorem dX6_insert_45 : decode cX6_insert 45 = .ok (.aload_n 0, 1) := by decide +kernel
theorem dX6_insert_46 : decode cX6_insert 46 = .ok (.getfield 15, 3) := by decide +kernel
theorem dX6_insert_49 : decode cX6_insert 49 = .ok (.iload_n 3, 1) := by decide +kernel
theorem dX6_insert_50 : decode cX6_insert 50 = .ok (.aload_n 0, 1) := by decide +kernel
theorem dX6_insert_51 : decode cX6_insert 51 = .ok (.getfield 15, 3) := by decide +kernel
theorem dX6_insert_54 : decode cX6_insert 54 = .ok (.iload_n 3, 1) := by decide +kernel
theorem dX6_insert_55 : decode cX6_insert 55 = .ok (.iconst 1, 1) := by decide +kernel
theorem dX6_insert_56 : decode cX6_insert 56 = .ok (.isub, 1) := by decide +kernel
theorem dX6_insert_57 : decode cX6_insert 57 = .ok (.iaload, 1) := by decide +kernel
theorem dX6_insert_58 : decode cX6_insert 58 = .ok (.iastore, 1) := by decide +kernel
theorem dX6_insert_59 : decode cX6_insert 59 = .ok (.iinc 3 (-1), 3) := by decide +kernel
theorem dX6_insert_62 : decode cX6_insert 62 = .ok (.goto (-47), 3) := by decide +kernel
theorem dX6_insert_65 : decode cX6_insert 65 = .ok (.aload_n 0, 1) := by decide +kernel
theorem dX6_insert_66 : decode cX6_insert 66 = .ok (.getfield 9, 3) := by decide +kernel
theorem dX6_insert_69 : decode cX6_insert 69 = .ok (.iload_n 3, 1) := by decide +kernel
theorem dX6_insert_70 : decode cX6_insert 70 = .ok (.iload_n 1, 1) := by decide +kernel
theorem dX6_insert_71 : decode cX6_insert 71 = .ok (.iastore, 1) := by decide +kernel
theorem dX6_insert_72 : decode cX6_insert 72 = .ok (.aload_n 0, 1) := by decide +kernel
theorem dX6_insert_73 : decode cX6_insert 73 = .ok (.getfield 15, 3) := by decide +kernel
theorem dX6_insert_76 : decode cX6_insert 76 = .ok (.iload_n 3, 1) := by decide +kernel
theorem dX6_insert_77 : decode cX6_insert 77 = .ok (.iconst 1, 1) := by decide +kernel
theorem dX6_insert_78 : decode cX6_insert 78 = .ok (.iastore, 1) := by decide +kernel
theorem dX6_insert_79 : decode cX6_insert 79 = .ok (.aload_n 0, 1) := by decide +kernel
theorem dX6_insert_80 : decode cX6_insert 80 = .ok (.dup, 1) := by decide +kernel
theorem dX6_insert_81 : decode cX6_insert 81 = .ok (.getfield 18, 3) := by decide +kernel
theorem dX6_insert_84 : decode cX6_insert 84 = .ok (.iconst 1, 1) := by decide +kernel
theorem dX6_insert_85 : decode cX6_insert 85 = .ok (.iadd, 1) := by decide +kernel
theorem dX6_insert_86 : decode cX6_insert 86 = .ok (.putfield 18, 3) := by decide +kernel
theorem dX6_insert_89 : decode cX6_insert 89 = .ok (.aload_n 0, 1) := by decide +kernel
theorem dX6_insert_90 : decode cX6_insert 90 = .ok (.iload_n 2, 1) := by decide +kernel
theorem dX6_insert_91 : decode cX6_insert 91 = .ok (.putfield 22, 3) := by decide +kernel
theorem dX6_insert_94 : decode cX6_insert 94 = .ok (.return_, 1) := by decide +kernel
theorem dX6_delete_0 : decode cX6_delete 0 = .ok (.aload_n 0, 1) := by decide +kernel
theorem dX6_delete_1 : decode cX6_delete 1 = .ok (.iload_n 1, 1) := by decide +kernel
theorem dX6_delete_2 : decode cX6_delete 2 = .ok (.invokevirtual 25, 3) := by decide +kernel
theorem dX6_delete_5 : decode cX6_delete 5 = .ok (.ifCond .ne 4, 3) := by decide +kernel
theorem dX6_delete_8 : decode cX6_delete 8 = .ok (.return_, 1) := by decide +kernel
theorem dX6_delete_9 : decode cX6_delete 9 = .ok (.aload_n 0, 1) := by decide +kernel
theorem dX6_delete_10 : decode cX6_delete 10 = .ok (.dup, 1) := by decide +kernel
theorem dX6_delete_11 : decode cX6_delete 11 = .ok (.getfield 18, 3) := by decide +kernel
theorem dX6_delete_14 : decode cX6_delete 14 = .ok (.iconst 1, 1) := by decide +kernel
theorem dX6_delete_15 : decode cX6_delete 15 = .ok (.isub, 1) := by decide +kernel
theorem dX6_delete_16 : decode cX6_delete 16 = .ok (.putfield 18, 3) := by decide +kernel
theorem dX6_delete_19 : decode cX6_delete 19 = .ok (.iload_n 1, 1) := by decide +kernel
theorem dX6_delete_20 : decode cX6_delete 20 = .ok (.istore_n 2, 1) := by decide +kernel
theorem dX6_delete_21 : decode cX6_delete 21 = .ok (.iload_n 2, 1) := by decide +kernel
theorem dX6_delete_22 : decode cX6_delete 22 = .ok (.aload_n 0, 1) := by decide +kernel
theorem dX6_delete_23 : decode cX6_delete 23 = .ok (.getfield 18, 3) := by decide +kernel
theorem dX6_delete_26 : decode cX6_delete 26 = .ok (.if_icmp .ge 37, 3) := by decide +kernel
theorem dX6_delete_29 : decode cX6_delete 29 = .ok (.aload_n 0, 1) := by decide +kernel
theorem dX6_delete_30 : decode cX6_delete 30 = .ok (.getfield 9, 3) := by decide +kernel
theorem dX6_delete_33 : decode cX6_delete 33 = .ok (.iload_n 2, 1) := by decide +kernel
theorem dX6_delete_34 : decode cX6_delete 34 = .ok (.aload_n 0, 1) := by decide +kernel
theorem dX6_delete_35 : decode cX6_delete 35 = .ok (.getfield 9, 3) := by decide +kernel
theorem dX6_delete_38 : decode cX6_delete 38 = .ok (.iload_n 2, 1) := by decide +kernel
theorem dX6_delete_39 : decode cX6_delete 39 = .ok (.iconst 1, 1) := by decide +kernel
theorem dX6_delete_40 : decode cX6_delete 40 = .ok (.iadd, 1) := by decide +kernel
theorem dX6_delete_41 : decode cX6_delete 41 = .ok (.iaload, 1) := by decide +kernel
theorem dX6_delete_42 : decode cX6_delete 42 = .ok (.iastore, 1) := by decide +kernel
theorem dX6_delete_43 : decode cX6_delete 43 = .ok (.aload_n 0, 1) := by decide +kernel
theorem dX6_delete_44 : decode cX6_delete 44 = .ok (.getfield 15, 3) := by decide +kernel
theorem dX6_delete_47 : decode cX6_delete 47 = .ok (.iload_n 2, 1) := by decide +kernel
theorem dX6_delete_48 : decode cX6_delete 48 = .ok (.aload_n 0, 1) := by decide +kernel
theorem dX6_delete_49 : decode cX6_delete 49 = .ok (.getfield 15, 3) := by decide +kernel
theorem dX6_delete_52 : decode cX6_delete 52 = .ok (.iload_n 2, 1) := by decide +kernel
theorem dX6_delete_53 : decode cX6_delete 53 = .ok (.iconst 1, 1) := by decide +kernel
theorem dX6_delete_54 : decode cX6_delete 54 = .ok (.iadd, 1) := by decide +kernel
theorem dX6_delete_55 : decode cX6_delete 55 = .ok (.iaload, 1) := by decide +kernel
theorem dX6_delete_56 : decode cX6_delete 56 = .ok (.iastore, 1) := by decide +kernel
theorem dX6_delete_57 : decode cX6_delete 57 = .ok (.iinc 2 1, 3) := by decide +kernel
theorem dX6_delete_60 : decode cX6_delete 60 = .ok (.goto (-39), 3) := by decide +kernel
theorem dX6_delete_63 : decode cX6_delete 63 = .ok (.aload_n 0, 1) := by decide +kernel
theorem dX6_delete_64 : decode cX6_delete 64 = .ok (.getfield 18, 3) := by decide +kernel
theorem dX6_delete_67 : decode cX6_delete 67 = .ok (.ifCond .ne 8, 3) := by decide +kernel
theorem dX6_delete_70 : decode cX6_delete 70 = .ok (.aload_n 0, 1) := by decide +kernel
theorem dX6_delete_71 : decode cX6_delete 71 = .ok (.iconst 0, 1) := by decide +kernel
theorem dX6_delete_72 : decode cX6_delete 72 = .ok (.putfield 22, 3) := by decide +kernel
theorem dX6_delete_75 : decode cX6_delete 75 = .ok (.return_, 1) := by decide +kernel
theorem dX6_weightOf_0 : decode cX6_weightOf 0 = .ok (.aload_n 0, 1) := by decide +kernel
theorem dX6_weightOf_1 : decode cX6_weightOf 1 = .ok (.getfield 15, 3) := by decide +kernel
theorem dX6_weightOf_4 : decode cX6_weightOf 4 = .ok (.iload_n 1, 1) := by decide +kernel
theorem dX6_weightOf_5 : decode cX6_weightOf 5 = .ok (.bipush 15, 2) := by decide +kernel
theorem dX6_weightOf_7 : decode cX6_weightOf 7 = .ok (.iand, 1) := by decide +kernel
theorem dX6_weightOf_8 : decode cX6_weightOf 8 = .ok (.iaload, 1) := by decide +kernel
theorem dX6_weightOf_9 : decode cX6_weightOf 9 = .ok (.ireturn, 1) := by decide +kernel
theorem dX6_setWeight_0 : decode cX6_setWeight 0 = .ok (.aload_n 0, 1) := by decide +kernel
theorem dX6_setWeight_1 : decode cX6_setWeight 1 = .ok (.getfield 15, 3) := by decide +kernel
theorem dX6_setWeight_4 : decode cX6_setWeight 4 = .ok (.iload_n 1, 1) := by decide +kernel
theorem dX6_setWeight_5 : decode cX6_setWeight 5 = .ok (.bipush 15, 2) := by decide +kernel
theorem dX6_setWeight_7 : decode cX6_setWeight 7 = .ok (.iand, 1) := by decide +kernel
theorem dX6_setWeight_8 : decode cX6_setWeight 8 = .ok (.iload_n 2, 1) := by decide +kernel
theorem dX6_setWeight_9 : decode cX6_setWeight 9 = .ok (.iastore, 1) := by decide +kernel
theorem dX6_setWeight_10 : decode cX6_setWeight 10 = .ok (.return_, 1) := by decide +kernel
theorem dX6_letterAt_0 : decode cX6_letterAt 0 = .ok (.aload_n 0, 1) := by decide +kernel
theorem dX6_letterAt_1 : decode cX6_letterAt 1 = .ok (.getfield 9, 3) := by decide +kernel
theorem dX6_letterAt_4 : decode cX6_letterAt 4 = .ok (.iload_n 1, 1) := by decide +kernel
theorem dX6_letterAt_5 : decode cX6_letterAt 5 = .ok (.bipush 15, 2) := by decide +kernel
theorem dX6_letterAt_7 : decode cX6_letterAt 7 = .ok (.iand, 1) := by decide +kernel
theorem dX6_letterAt_8 : decode cX6_letterAt 8 = .ok (.iaload, 1) := by decide +kernel
theorem dX6_letterAt_9 : decode cX6_letterAt 9 = .ok (.iconst 5, 1) := by decide +kernel
theorem dX6_letterAt_10 : decode cX6_letterAt 10 = .ok (.aload_n 0, 1) := by decide +kernel
theorem dX6_letterAt_11 : decode cX6_letterAt 11 = .ok (.getfield 22, 3) := by decide +kernel
theorem dX6_letterAt_14 : decode cX6_letterAt 14 = .ok (.iconst 1, 1) := by decide +kernel
theorem dX6_letterAt_15 : decode cX6_letterAt 15 = .ok (.isub, 1) := by decide +kernel
theorem dX6_letterAt_16 : decode cX6_letterAt 16 = .ok (.iload_n 2, 1) := by decide +kernel
theorem dX6_letterAt_17 : decode cX6_letterAt 17 = .ok (.isub, 1) := by decide +kernel
theorem dX6_letterAt_18 : decode cX6_letterAt 18 = .ok (.imul, 1) := by decide +kernel
theorem dX6_letterAt_19 : decode cX6_letterAt 19 = .ok (.ishr, 1) := by decide +kernel
theorem dX6_letterAt_20 : decode cX6_letterAt 20 = .ok (.bipush 31, 2) := by decide +kernel
theorem dX6_letterAt_22 : decode cX6_letterAt 22 = .ok (.iand, 1) := by decide +kernel
theorem dX6_letterAt_23 : decode cX6_letterAt 23 = .ok (.ireturn, 1) := by decide +kernel
theorem dX6_prefixOf_0 : decode cX6_prefixOf 0 = .ok (.aload_n 0, 1) := by decide +kernel
theorem dX6_prefixOf_1 : decode cX6_prefixOf 1 = .ok (.getfield 9, 3) := by decide +kernel
theorem dX6_prefixOf_4 : decode cX6_prefixOf 4 = .ok (.iload_n 1, 1) := by decide +kernel
theorem dX6_prefixOf_5 : decode cX6_prefixOf 5 = .ok (.bipush 15, 2) := by decide +kernel
theorem dX6_prefixOf_7 : decode cX6_prefixOf 7 = .ok (.iand, 1) := by decide +kernel
theorem dX6_prefixOf_8 : decode cX6_prefixOf 8 = .ok (.iaload, 1) := by decide +kernel
theorem dX6_prefixOf_9 : decode cX6_prefixOf 9 = .ok (.iconst 5, 1) := by decide +kernel
theorem dX6_prefixOf_10 : decode cX6_prefixOf 10 = .ok (.aload_n 0, 1) := by decide +kernel
theorem dX6_prefixOf_11 : decode cX6_prefixOf 11 = .ok (.getfield 22, 3) := by decide +kernel
theorem dX6_prefixOf_14 : decode cX6_prefixOf 14 = .ok (.iload_n 2, 1) := by decide +kernel
theorem dX6_prefixOf_15 : decode cX6_prefixOf 15 = .ok (.isub, 1) := by decide +kernel
theorem dX6_prefixOf_16 : decode cX6_prefixOf 16 = .ok (.imul, 1) := by decide +kernel
theorem dX6_prefixOf_17 : decode cX6_prefixOf 17 = .ok (.ishr, 1) := by decide +kernel
theorem dX6_prefixOf_18 : decode cX6_prefixOf 18 = .ok (.ireturn, 1) := by decide +kernel
theorem dX6_restOf_0 : decode cX6_restOf 0 = .ok (.aload_n 0, 1) := by decide +kernel
theorem dX6_restOf_1 : decode cX6_restOf 1 = .ok (.getfield 9, 3) := by decide +kernel
theorem dX6_restOf_4 : decode cX6_restOf 4 = .ok (.iload_n 1, 1) := by decide +kernel
theorem dX6_restOf_5 : decode cX6_restOf 5 = .ok (.bipush 15, 2) := by decide +kernel
theorem dX6_restOf_7 : decode cX6_restOf 7 = .ok (.iand, 1) := by decide +kernel
theorem dX6_restOf_8 : decode cX6_restOf 8 = .ok (.iaload, 1) := by decide +kernel
theorem dX6_restOf_9 : decode cX6_restOf 9 = .ok (.iconst 1, 1) := by decide +kernel
theorem dX6_restOf_10 : decode cX6_restOf 10 = .ok (.iconst 5, 1) := by decide +kernel
theorem dX6_restOf_11 : decode cX6_restOf 11 = .ok (.aload_n 0, 1) := by decide +kernel
theorem dX6_restOf_12 : decode cX6_restOf 12 = .ok (.getfield 22, 3) := by decide +kernel
theorem dX6_restOf_15 : decode cX6_restOf 15 = .ok (.iload_n 2, 1) := by decide +kernel
theorem dX6_restOf_16 : decode cX6_restOf 16 = .ok (.isub, 1) := by decide +kernel
theorem dX6_restOf_17 : decode cX6_restOf 17 = .ok (.imul, 1) := by decide +kernel
theorem dX6_restOf_18 : decode cX6_restOf 18 = .ok (.ishl, 1) := by decide +kernel
theorem dX6_restOf_19 : decode cX6_restOf 19 = .ok (.iconst 1, 1) := by decide +kernel
theorem dX6_restOf_20 : decode cX6_restOf 20 = .ok (.isub, 1) := by decide +kernel
theorem dX6_restOf_21 : decode cX6_restOf 21 = .ok (.iand, 1) := by decide +kernel
theorem dX6_restOf_22 : decode cX6_restOf 22 = .ok (.ireturn, 1) := by decide +kernel
theorem dX6_samePrefix_0 : decode cX6_samePrefix 0 = .ok (.aload_n 0, 1) := by decide +kernel
theorem dX6_samePrefix_1 : decode cX6_samePrefix 1 = .ok (.getfield 9, 3) := by decide +kernel
theorem dX6_samePrefix_4 : decode cX6_samePrefix 4 = .ok (.iload_n 1, 1) := by decide +kernel
theorem dX6_samePrefix_5 : decode cX6_samePrefix 5 = .ok (.bipush 15, 2) := by decide +kernel
theorem dX6_samePrefix_7 : decode cX6_samePrefix 7 = .ok (.iand, 1) := by decide +kernel
theorem dX6_samePrefix_8 : decode cX6_samePrefix 8 = .ok (.iaload, 1) := by decide +kernel
theorem dX6_samePrefix_9 : decode cX6_samePrefix 9 = .ok (.aload_n 0, 1) := by decide +kernel
theorem dX6_samePrefix_10 : decode cX6_samePrefix 10 = .ok (.getfield 9, 3) := by decide +kernel
theorem dX6_samePrefix_13 : decode cX6_samePrefix 13 = .ok (.iload_n 2, 1) := by decide +kernel
theorem dX6_samePrefix_14 : decode cX6_samePrefix 14 = .ok (.bipush 15, 2) := by decide +kernel
theorem dX6_samePrefix_16 : decode cX6_samePrefix 16 = .ok (.iand, 1) := by decide +kernel
theorem dX6_samePrefix_17 : decode cX6_samePrefix 17 = .ok (.iaload, 1) := by decide +kernel
theorem dX6_samePrefix_18 : decode cX6_samePrefix 18 = .ok (.ixor, 1) := by decide +kernel
theorem dX6_samePrefix_19 : decode cX6_samePrefix 19 = .ok (.istore 4, 2) := by decide +kernel
theorem dX6_samePrefix_21 : decode cX6_samePrefix 21 = .ok (.iload 4, 2) := by decide +kernel
theorem dX6_samePrefix_23 : decode cX6_samePrefix 23 = .ok (.iconst 5, 1) := by decide +kernel
theorem dX6_samePrefix_24 : decode cX6_samePrefix 24 = .ok (.aload_n 0, 1) := by decide +kernel
theorem dX6_samePrefix_25 : decode cX6_samePrefix 25 = .ok (.getfield 22, 3) := by decide +kernel
theorem dX6_samePrefix_28 : decode cX6_samePrefix 28 = .ok (.iload_n 3, 1) := by decide +kernel
theorem dX6_samePrefix_29 : decode cX6_samePrefix 29 = .ok (.isub, 1) := by decide +kernel
theorem dX6_samePrefix_30 : decode cX6_samePrefix 30 = .ok (.imul, 1) := by decide +kernel
theorem dX6_samePrefix_31 : decode cX6_samePrefix 31 = .ok (.ishr, 1) := by decide +kernel
theorem dX6_samePrefix_32 : decode cX6_samePrefix 32 = .ok (.ifCond .ne 7, 3) := by decide +kernel
theorem dX6_samePrefix_35 : decode cX6_samePrefix 35 = .ok (.iconst 1, 1) := by decide +kernel
theorem dX6_samePrefix_36 : decode cX6_samePrefix 36 = .ok (.goto 4, 3) := by decide +kernel
theorem dX6_samePrefix_39 : decode cX6_samePrefix 39 = .ok (.iconst 0, 1) := by decide +kernel
theorem dX6_samePrefix_40 : decode cX6_samePrefix 40 = .ok (.ireturn, 1) := by decide +kernel
theorem dX6_reversalOf_0 : decode cX6_reversalOf 0 = .ok (.iconst 0, 1) := by decide +kernel
theorem dX6_reversalOf_1 : decode cX6_reversalOf 1 = .ok (.istore_n 2, 1) := by decide +kernel
theorem dX6_reversalOf_2 : decode cX6_reversalOf 2 = .ok (.aload_n 0, 1) := by decide +kernel
theorem dX6_reversalOf_3 : decode cX6_reversalOf 3 = .ok (.getfield 22, 3) := by decide +kernel
theorem dX6_reversalOf_6 : decode cX6_reversalOf 6 = .ok (.iconst 1, 1) := by decide +kernel
theorem dX6_reversalOf_7 : decode cX6_reversalOf 7 = .ok (.isub, 1) := by decide +kernel
theorem dX6_reversalOf_8 : decode cX6_reversalOf 8 = .ok (.istore_n 3, 1) := by decide +kernel
theorem dX6_reversalOf_9 : decode cX6_reversalOf 9 = .ok (.iload_n 3, 1) := by decide +kernel
theorem dX6_reversalOf_10 : decode cX6_reversalOf 10 = .ok (.ifCond .lt 20, 3) := by decide +kernel
theorem dX6_reversalOf_13 : decode cX6_reversalOf 13 = .ok (.iload_n 2, 1) := by decide +kernel
theorem dX6_reversalOf_14 : decode cX6_reversalOf 14 = .ok (.iconst 5, 1) := by decide +kernel
theorem dX6_reversalOf_15 : decode cX6_reversalOf 15 = .ok (.ishl, 1) := by decide +kernel
theorem dX6_reversalOf_16 : decode cX6_reversalOf 16 = .ok (.aload_n 0, 1) := by decide +kernel
theorem dX6_reversalOf_17 : decode cX6_reversalOf 17 = .ok (.iload_n 1, 1) := by decide +kernel
theorem dX6_reversalOf_18 : decode cX6_reversalOf 18 = .ok (.iload_n 3, 1) := by decide +kernel
theorem dX6_reversalOf_19 : decode cX6_reversalOf 19 = .ok (.invokevirtual 29, 3) := by decide +kernel
theorem dX6_reversalOf_22 : decode cX6_reversalOf 22 = .ok (.ior, 1) := by decide +kernel
theorem dX6_reversalOf_23 : decode cX6_reversalOf 23 = .ok (.istore_n 2, 1) := by decide +kernel
theorem dX6_reversalOf_24 : decode cX6_reversalOf 24 = .ok (.iinc 3 (-1), 3) := by decide +kernel
theorem dX6_reversalOf_27 : decode cX6_reversalOf 27 = .ok (.goto (-18), 3) := by decide +kernel
theorem dX6_reversalOf_30 : decode cX6_reversalOf 30 = .ok (.iload_n 2, 1) := by decide +kernel
theorem dX6_reversalOf_31 : decode cX6_reversalOf 31 = .ok (.ireturn, 1) := by decide +kernel
theorem dX6_numberWithPrefix_0 : decode cX6_numberWithPrefix 0 = .ok (.iconst 0, 1) := by decide +kernel
theorem dX6_numberWithPrefix_1 : decode cX6_numberWithPrefix 1 = .ok (.istore_n 3, 1) := by decide +kernel
theorem dX6_numberWithPrefix_2 : decode cX6_numberWithPrefix 2 = .ok (.iconst 0, 1) := by decide +kernel
theorem dX6_numberWithPrefix_3 : decode cX6_numberWithPrefix 3 = .ok (.istore 4, 2) := by decide +kernel
theorem dX6_numberWithPrefix_5 : decode cX6_numberWithPrefix 5 = .ok (.iload 4, 2) := by decide +kernel
theorem dX6_numberWithPrefix_7 : decode cX6_numberWithPrefix 7 = .ok (.aload_n 0, 1) := by decide +kernel
theorem dX6_numberWithPrefix_8 : decode cX6_numberWithPrefix 8 = .ok (.getfield 18, 3) := by decide +kernel
theorem dX6_numberWithPrefix_11 : decode cX6_numberWithPrefix 11 = .ok (.if_icmp .ge 23, 3) := by decide +kernel
theorem dX6_numberWithPrefix_14 : decode cX6_numberWithPrefix 14 = .ok (.aload_n 0, 1) := by decide +kernel
theorem dX6_numberWithPrefix_15 : decode cX6_numberWithPrefix 15 = .ok (.iload 4, 2) := by decide +kernel
theorem dX6_numberWithPrefix_17 : decode cX6_numberWithPrefix 17 = .ok (.iload_n 2, 1) := by decide +kernel
theorem dX6_numberWithPrefix_18 : decode cX6_numberWithPrefix 18 = .ok (.invokevirtual 33, 3) := by decide +kernel
theorem dX6_numberWithPrefix_21 : decode cX6_numberWithPrefix 21 = .ok (.iload_n 1, 1) := by decide +kernel
theorem dX6_numberWithPrefix_22 : decode cX6_numberWithPrefix 22 = .ok (.if_icmp .ne 6, 3) := by decide +kernel
theorem dX6_numberWithPrefix_25 : decode cX6_numberWithPrefix 25 = .ok (.iinc 3 1, 3) := by decide +kernel
theorem dX6_numberWithPrefix_28 : decode cX6_numberWithPrefix 28 = .ok (.iinc 4 1, 3) := by decide +kernel
theorem dX6_numberWithPrefix_31 : decode cX6_numberWithPrefix 31 = .ok (.goto (-26), 3) := by decide +kernel
theorem dX6_numberWithPrefix_34 : decode cX6_numberWithPrefix 34 = .ok (.iload_n 3, 1) := by decide +kernel
theorem dX6_numberWithPrefix_35 : decode cX6_numberWithPrefix 35 = .ok (.ireturn, 1) := by decide +kernel
theorem dX6_numberOfPrefixes_0 : decode cX6_numberOfPrefixes 0 = .ok (.iconst 0, 1) := by decide +kernel
theorem dX6_numberOfPrefixes_1 : decode cX6_numberOfPrefixes 1 = .ok (.istore_n 1, 1) := by decide +kernel
theorem dX6_numberOfPrefixes_2 : decode cX6_numberOfPrefixes 2 = .ok (.iconst 0, 1) := by decide +kernel
theorem dX6_numberOfPrefixes_3 : decode cX6_numberOfPrefixes 3 = .ok (.istore_n 2, 1) := by decide +kernel
theorem dX6_numberOfPrefixes_4 : decode cX6_numberOfPrefixes 4 = .ok (.iload_n 2, 1) := by decide +kernel
theorem dX6_numberOfPrefixes_5 : decode cX6_numberOfPrefixes 5 = .ok (.aload_n 0, 1) := by decide +kernel
theorem dX6_numberOfPrefixes_6 : decode cX6_numberOfPrefixes 6 = .ok (.getfield 22, 3) := by decide +kernel
theorem dX6_numberOfPrefixes_9 : decode cX6_numberOfPrefixes 9 = .ok (.if_icmp .gt 44, 3) := by decide +kernel
theorem dX6_numberOfPrefixes_12 : decode cX6_numberOfPrefixes 12 = .ok (.iconst 0, 1) := by decide +kernel
theorem dX6_numberOfPrefixes_13 : decode cX6_numberOfPrefixes 13 = .ok (.istore_n 3, 1) := by decide +kernel
theorem dX6_numberOfPrefixes_14 : decode cX6_numberOfPrefixes 14 = .ok (.iload_n 3, 1) := by decide +kernel
theorem dX6_numberOfPrefixes_15 : decode cX6_numberOfPrefixes 15 = .ok (.aload_n 0, 1) := by decide +kernel
theorem dX6_numberOfPrefixes_16 : decode cX6_numberOfPrefixes 16 = .ok (.getfield 18, 3) := by decide +kernel
theorem dX6_numberOfPrefixes_19 : decode cX6_numberOfPrefixes 19 = .ok (.if_icmp .ge 28, 3) := by decide +kernel
theorem dX6_numberOfPrefixes_22 : decode cX6_numberOfPrefixes 22 = .ok (.iload_n 3, 1) := by decide +kernel
theorem dX6_numberOfPrefixes_23 : decode cX6_numberOfPrefixes 23 = .ok (.ifCond .eq 15, 3) := by decide +kernel
theorem dX6_numberOfPrefixes_26 : decode cX6_numberOfPrefixes 26 = .ok (.aload_n 0, 1) := by decide +kernel
theorem dX6_numberOfPrefixes_27 : decode cX6_numberOfPrefixes 27 = .ok (.iload_n 3, 1) := by decide +kernel
theorem dX6_numberOfPrefixes_28 : decode cX6_numberOfPrefixes 28 = .ok (.iconst 1, 1) := by decide +kernel
theorem dX6_numberOfPrefixes_29 : decode cX6_numberOfPrefixes 29 = .ok (.isub, 1) := by decide +kernel
theorem dX6_numberOfPrefixes_30 : decode cX6_numberOfPrefixes 30 = .ok (.iload_n 3, 1) := by decide +kernel
theorem dX6_numberOfPrefixes_31 : decode cX6_numberOfPrefixes 31 = .ok (.iload_n 2, 1) := by decide +kernel
theorem dX6_numberOfPrefixes_32 : decode cX6_numberOfPrefixes 32 = .ok (.invokevirtual 36, 3) := by decide +kernel
theorem dX6_numberOfPrefixes_35 : decode cX6_numberOfPrefixes 35 = .ok (.ifCond .ne 6, 3) := by decide +kernel
theorem dX6_numberOfPrefixes_38 : decode cX6_numberOfPrefixes 38 = .ok (.iinc 1 1, 3) := by decide +kernel
theorem dX6_numberOfPrefixes_41 : decode cX6_numberOfPrefixes 41 = .ok (.iinc 3 1, 3) := by decide +kernel
theorem dX6_numberOfPrefixes_44 : decode cX6_numberOfPrefixes 44 = .ok (.goto (-30), 3) := by decide +kernel
theorem dX6_numberOfPrefixes_47 : decode cX6_numberOfPrefixes 47 = .ok (.iinc 2 1, 3) := by decide +kernel
theorem dX6_numberOfPrefixes_50 : decode cX6_numberOfPrefixes 50 = .ok (.goto (-46), 3) := by decide +kernel
theorem dX6_numberOfPrefixes_53 : decode cX6_numberOfPrefixes 53 = .ok (.iload_n 1, 1) := by decide +kernel
theorem dX6_numberOfPrefixes_54 : decode cX6_numberOfPrefixes 54 = .ok (.ireturn, 1) := by decide +kernel
theorem dX6_numberOfLetters_0 : decode cX6_numberOfLetters 0 = .ok (.iconst 0, 1) := by decide +kernel
theorem dX6_numberOfLetters_1 : decode cX6_numberOfLetters 1 = .ok (.istore_n 1, 1) := by decide +kernel
theorem dX6_numberOfLetters_2 : decode cX6_numberOfLetters 2 = .ok (.iconst 0, 1) := by decide +kernel
theorem dX6_numberOfLetters_3 : decode cX6_numberOfLetters 3 = .ok (.istore_n 2, 1) := by decide +kernel
theorem dX6_numberOfLetters_4 : decode cX6_numberOfLetters 4 = .ok (.iload_n 2, 1) := by decide +kernel
theorem dX6_numberOfLetters_5 : decode cX6_numberOfLetters 5 = .ok (.aload_n 0, 1) := by decide +kernel
theorem dX6_numberOfLetters_6 : decode cX6_numberOfLetters 6 = .ok (.getfield 18, 3) := by decide +kernel
theorem dX6_numberOfLetters_9 : decode cX6_numberOfLetters 9 = .ok (.if_icmp .ge 36, 3) := by decide +kernel
theorem dX6_numberOfLetters_12 : decode cX6_numberOfLetters 12 = .ok (.iconst 0, 1) := by decide +kernel
theorem dX6_numberOfLetters_13 : decode cX6_numberOfLetters 13 = .ok (.istore_n 3, 1) := by decide +kernel
theorem dX6_numberOfLetters_14 : decode cX6_numberOfLetters 14 = .ok (.iload_n 3, 1) := by decide +kernel
theorem dX6_numberOfLetters_15 : decode cX6_numberOfLetters 15 = .ok (.aload_n 0, 1) := by decide +kernel
theorem dX6_numberOfLetters_16 : decode cX6_numberOfLetters 16 = .ok (.getfield 22, 3) := by decide +kernel
theorem dX6_numberOfLetters_19 : decode cX6_numberOfLetters 19 = .ok (.if_icmp .ge 20, 3) := by decide +kernel
theorem dX6_numberOfLetters_22 : decode cX6_numberOfLetters 22 = .ok (.iload_n 1, 1) := by decide +kernel
theorem dX6_numberOfLetters_23 : decode cX6_numberOfLetters 23 = .ok (.iconst 1, 1) := by decide +kernel
theorem dX6_numberOfLetters_24 : decode cX6_numberOfLetters 24 = .ok (.aload_n 0, 1) := by decide +kernel
theorem dX6_numberOfLetters_25 : decode cX6_numberOfLetters 25 = .ok (.iload_n 2, 1) := by decide +kernel
theorem dX6_numberOfLetters_26 : decode cX6_numberOfLetters 26 = .ok (.iload_n 3, 1) := by decide +kernel
theorem dX6_numberOfLetters_27 : decode cX6_numberOfLetters 27 = .ok (.invokevirtual 29, 3) := by decide +kernel
theorem dX6_numberOfLetters_30 : decode cX6_numberOfLetters 30 = .ok (.ishl, 1) := by decide +kernel
theorem dX6_numberOfLetters_31 : decode cX6_numberOfLetters 31 = .ok (.ior, 1) := by decide +kernel
theorem dX6_numberOfLetters_32 : decode cX6_numberOfLetters 32 = .ok (.istore_n 1, 1) := by decide +kernel
theorem dX6_numberOfLetters_33 : decode cX6_numberOfLetters 33 = .ok (.iinc 3 1, 3) := by decide +kernel
theorem dX6_numberOfLetters_36 : decode cX6_numberOfLetters 36 = .ok (.goto (-22), 3) := by decide +kernel
theorem dX6_numberOfLetters_39 : decode cX6_numberOfLetters 39 = .ok (.iinc 2 1, 3) := by decide +kernel
theorem dX6_numberOfLetters_42 : decode cX6_numberOfLetters 42 = .ok (.goto (-38), 3) := by decide +kernel
theorem dX6_numberOfLetters_45 : decode cX6_numberOfLetters 45 = .ok (.iload_n 1, 1) := by decide +kernel
theorem dX6_numberOfLetters_46 : decode cX6_numberOfLetters 46 = .ok (.invokestatic 40, 3) := by decide +kernel
theorem dX6_numberOfLetters_49 : decode cX6_numberOfLetters 49 = .ok (.ireturn, 1) := by decide +kernel
theorem dX6_sumOfWeights_0 : decode cX6_sumOfWeights 0 = .ok (.iconst 0, 1) := by decide +kernel
theorem dX6_sumOfWeights_1 : decode cX6_sumOfWeights 1 = .ok (.istore_n 1, 1) := by decide +kernel
theorem dX6_sumOfWeights_2 : decode cX6_sumOfWeights 2 = .ok (.iconst 0, 1) := by decide +kernel
theorem dX6_sumOfWeights_3 : decode cX6_sumOfWeights 3 = .ok (.istore_n 2, 1) := by decide +kernel
theorem dX6_sumOfWeights_4 : decode cX6_sumOfWeights 4 = .ok (.iload_n 2, 1) := by decide +kernel
theorem dX6_sumOfWeights_5 : decode cX6_sumOfWeights 5 = .ok (.aload_n 0, 1) := by decide +kernel
theorem dX6_sumOfWeights_6 : decode cX6_sumOfWeights 6 = .ok (.getfield 18, 3) := by decide +kernel
theorem dX6_sumOfWeights_9 : decode cX6_sumOfWeights 9 = .ok (.if_icmp .ge 18, 3) := by decide +kernel
theorem dX6_sumOfWeights_12 : decode cX6_sumOfWeights 12 = .ok (.iload_n 1, 1) := by decide +kernel
theorem dX6_sumOfWeights_13 : decode cX6_sumOfWeights 13 = .ok (.aload_n 0, 1) := by decide +kernel
theorem dX6_sumOfWeights_14 : decode cX6_sumOfWeights 14 = .ok (.getfield 15, 3) := by decide +kernel
theorem dX6_sumOfWeights_17 : decode cX6_sumOfWeights 17 = .ok (.iload_n 2, 1) := by decide +kernel
theorem dX6_sumOfWeights_18 : decode cX6_sumOfWeights 18 = .ok (.iaload, 1) := by decide +kernel
theorem dX6_sumOfWeights_19 : decode cX6_sumOfWeights 19 = .ok (.iadd, 1) := by decide +kernel
theorem dX6_sumOfWeights_20 : decode cX6_sumOfWeights 20 = .ok (.istore_n 1, 1) := by decide +kernel
theorem dX6_sumOfWeights_21 : decode cX6_sumOfWeights 21 = .ok (.iinc 2 1, 3) := by decide +kernel
theorem dX6_sumOfWeights_24 : decode cX6_sumOfWeights 24 = .ok (.goto (-20), 3) := by decide +kernel
theorem dX6_sumOfWeights_27 : decode cX6_sumOfWeights 27 = .ok (.iload_n 1, 1) := by decide +kernel
theorem dX6_sumOfWeights_28 : decode cX6_sumOfWeights 28 = .ok (.ireturn, 1) := by decide +kernel
theorem dX6_numberOfReversible_0 : decode cX6_numberOfReversible 0 = .ok (.iconst 0, 1) := by decide +kernel
theorem dX6_numberOfReversible_1 : decode cX6_numberOfReversible 1 = .ok (.istore_n 1, 1) := by decide +kernel
theorem dX6_numberOfReversible_2 : decode cX6_numberOfReversible 2 = .ok (.iconst 0, 1) := by decide +kernel
theorem dX6_numberOfReversible_3 : decode cX6_numberOfReversible 3 = .ok (.istore_n 2, 1) := by decide +kernel
theorem dX6_numberOfReversible_4 : decode cX6_numberOfReversible 4 = .ok (.iload_n 2, 1) := by decide +kernel
theorem dX6_numberOfReversible_5 : decode cX6_numberOfReversible 5 = .ok (.aload_n 0, 1) := by decide +kernel
theorem dX6_numberOfReversible_6 : decode cX6_numberOfReversible 6 = .ok (.getfield 18, 3) := by decide +kernel
theorem dX6_numberOfReversible_9 : decode cX6_numberOfReversible 9 = .ok (.if_icmp .ge 25, 3) := by decide +kernel
theorem dX6_numberOfReversible_12 : decode cX6_numberOfReversible 12 = .ok (.aload_n 0, 1) := by decide +kernel
theorem dX6_numberOfReversible_13 : decode cX6_numberOfReversible 13 = .ok (.aload_n 0, 1) := by decide +kernel
theorem dX6_numberOfReversible_14 : decode cX6_numberOfReversible 14 = .ok (.iload_n 2, 1) := by decide +kernel
theorem dX6_numberOfReversible_15 : decode cX6_numberOfReversible 15 = .ok (.invokevirtual 46, 3) := by decide +kernel
theorem dX6_numberOfReversible_18 : decode cX6_numberOfReversible 18 = .ok (.invokevirtual 49, 3) := by decide +kernel
theorem dX6_numberOfReversible_21 : decode cX6_numberOfReversible 21 = .ok (.iconst (-1), 1) := by decide +kernel
theorem dX6_numberOfReversible_22 : decode cX6_numberOfReversible 22 = .ok (.if_icmp .eq 6, 3) := by decide +kernel
theorem dX6_numberOfReversible_25 : decode cX6_numberOfReversible 25 = .ok (.iinc 1 1, 3) := by decide +kernel
theorem dX6_numberOfReversible_28 : decode cX6_numberOfReversible 28 = .ok (.iinc 2 1, 3) := by decide +kernel
theorem dX6_numberOfReversible_31 : decode cX6_numberOfReversible 31 = .ok (.goto (-27), 3) := by decide +kernel
theorem dX6_numberOfReversible_34 : decode cX6_numberOfReversible 34 = .ok (.iload_n 1, 1) := by decide +kernel
theorem dX6_numberOfReversible_35 : decode cX6_numberOfReversible 35 = .ok (.ireturn, 1) := by decide +kernel
theorem dX6_commonLetter_0 : decode cX6_commonLetter 0 = .ok (.iconst (-1), 1) := by decide +kernel
theorem dX6_commonLetter_1 : decode cX6_commonLetter 1 = .ok (.istore_n 3, 1) := by decide +kernel
theorem dX6_commonLetter_2 : decode cX6_commonLetter 2 = .ok (.iconst 0, 1) := by decide +kernel
theorem dX6_commonLetter_3 : decode cX6_commonLetter 3 = .ok (.istore 4, 2) := by decide +kernel
theorem dX6_commonLetter_5 : decode cX6_commonLetter 5 = .ok (.iload 4, 2) := by decide +kernel
theorem dX6_commonLetter_7 : decode cX6_commonLetter 7 = .ok (.aload_n 0, 1) := by decide +kernel
theorem dX6_commonLetter_8 : decode cX6_commonLetter 8 = .ok (.getfield 18, 3) := by decide +kernel
theorem dX6_commonLetter_11 : decode cX6_commonLetter 11 = .ok (.if_icmp .ge 43, 3) := by decide +kernel
theorem dX6_commonLetter_14 : decode cX6_commonLetter 14 = .ok (.iload_n 1, 1) := by decide +kernel
theorem dX6_commonLetter_15 : decode cX6_commonLetter 15 = .ok (.iload 4, 2) := by decide +kernel
theorem dX6_commonLetter_17 : decode cX6_commonLetter 17 = .ok (.ishr, 1) := by decide +kernel
theorem dX6_commonLetter_18 : decode cX6_commonLetter 18 = .ok (.iconst 1, 1) := by decide +kernel
theorem dX6_commonLetter_19 : decode cX6_commonLetter 19 = .ok (.iand, 1) := by decide +kernel
theorem dX6_commonLetter_20 : decode cX6_commonLetter 20 = .ok (.ifCond .eq 28, 3) := by decide +kernel
theorem dX6_commonLetter_23 : decode cX6_commonLetter 23 = .ok (.aload_n 0, 1) := by decide +kernel
theorem dX6_commonLetter_24 : decode cX6_commonLetter 24 = .ok (.iload 4, 2) := by decide +kernel
theorem dX6_commonLetter_26 : decode cX6_commonLetter 26 = .ok (.iload_n 2, 1) := by decide +kernel
theorem dX6_commonLetter_27 : decode cX6_commonLetter 27 = .ok (.invokevirtual 29, 3) := by decide +kernel
theorem dX6_commonLetter_30 : decode cX6_commonLetter 30 = .ok (.istore 5, 2) := by decide +kernel
theorem dX6_commonLetter_32 : decode cX6_commonLetter 32 = .ok (.iload_n 3, 1) := by decide +kernel
theorem dX6_commonLetter_33 : decode cX6_commonLetter 33 = .ok (.iconst (-1), 1) := by decide +kernel
theorem dX6_commonLetter_34 : decode cX6_commonLetter 34 = .ok (.if_icmp .eq 11, 3) := by decide +kernel
theorem dX6_commonLetter_37 : decode cX6_commonLetter 37 = .ok (.iload 5, 2) := by decide +kernel
theorem dX6_commonLetter_39 : decode cX6_commonLetter 39 = .ok (.iload_n 3, 1) := by decide +kernel
theorem dX6_commonLetter_40 : decode cX6_commonLetter 40 = .ok (.if_icmp .eq 5, 3) := by decide +kernel
theorem dX6_commonLetter_43 : decode cX6_commonLetter 43 = .ok (.iconst (-1), 1) := by decide +kernel
theorem dX6_commonLetter_44 : decode cX6_commonLetter 44 = .ok (.ireturn, 1) := by decide +kernel
theorem dX6_commonLetter_45 : decode cX6_commonLetter 45 = .ok (.iload 5, 2) := by decide +kernel
theorem dX6_commonLetter_47 : decode cX6_commonLetter 47 = .ok (.istore_n 3, 1) := by decide +kernel
theorem dX6_commonLetter_48 : decode cX6_commonLetter 48 = .ok (.iinc 4 1, 3) := by decide +kernel
theorem dX6_commonLetter_51 : decode cX6_commonLetter 51 = .ok (.goto (-46), 3) := by decide +kernel
theorem dX6_commonLetter_54 : decode cX6_commonLetter 54 = .ok (.iload_n 3, 1) := by decide +kernel
theorem dX6_commonLetter_55 : decode cX6_commonLetter 55 = .ok (.ireturn, 1) := by decide +kernel
theorem dX7_init_0 : decode cX7_init 0 = .ok (.aload_n 0, 1) := by decide +kernel
theorem dX7_init_1 : decode cX7_init 1 = .ok (.invokespecial 1, 3) := by decide +kernel
theorem dX7_init_4 : decode cX7_init 4 = .ok (.aload_n 0, 1) := by decide +kernel
theorem dX7_init_5 : decode cX7_init 5 = .ok (.new 7, 3) := by decide +kernel
theorem dX7_init_8 : decode cX7_init 8 = .ok (.dup, 1) := by decide +kernel
theorem dX7_init_9 : decode cX7_init 9 = .ok (.invokespecial 9, 3) := by decide +kernel
theorem dX7_init_12 : decode cX7_init 12 = .ok (.putfield 10, 3) := by decide +kernel
theorem dX7_init_15 : decode cX7_init 15 = .ok (.aload_n 0, 1) := by decide +kernel
theorem dX7_init_16 : decode cX7_init 16 = .ok (.new 16, 3) := by decide +kernel
theorem dX7_init_19 : decode cX7_init 19 = .ok (.dup, 1) := by decide +kernel
theorem dX7_init_20 : decode cX7_init 20 = .ok (.invokespecial 18, 3) := by decide +kernel
theorem dX7_init_23 : decode cX7_init 23 = .ok (.putfield 19, 3) := by decide +kernel
theorem dX7_init_26 : decode cX7_init 26 = .ok (.aload_n 0, 1) := by decide +kernel
theorem dX7_init_27 : decode cX7_init 27 = .ok (.new 23, 3) := by decide +kernel
theorem dX7_init_30 : decode cX7_init 30 = .ok (.dup, 1) := by decide +kernel
theorem dX7_init_31 : decode cX7_init 31 = .ok (.aload_n 0, 1) := by decide +kernel
theorem dX7_init_32 : decode cX7_init 32 = .ok (.getfield 19, 3) := by decide +kernel
theorem dX7_init_35 : decode cX7_init 35 = .ok (.invokespecial 25, 3) := by decide +kernel
theorem dX7_init_38 : decode cX7_init 38 = .ok (.putfield 28, 3) := by decide +kernel
theorem dX7_init_41 : decode cX7_init 41 = .ok (.aload_n 0, 1) := by decide +kernel
theorem dX7_init_42 : decode cX7_init 42 = .ok (.new 32, 3) := by decide +kernel
theorem dX7_init_45 : decode cX7_init 45 = .ok (.dup, 1) := by decide +kernel
theorem dX7_init_46 : decode cX7_init 46 = .ok (.invokespecial 34, 3) := by decide +kernel
theorem dX7_init_49 : decode cX7_init 49 = .ok (.putfield 35, 3) := by decide +kernel
theorem dX7_init_52 : decode cX7_init 52 = .ok (.aload_n 0, 1) := by decide +kernel
theorem dX7_init_53 : decode cX7_init 53 = .ok (.iconst 3, 1) := by decide +kernel
theorem dX7_init_54 : decode cX7_init 54 = .ok (.newarray .int, 2) := by decide +kernel
theorem dX7_init_56 : decode cX7_init 56 = .ok (.putfield 39, 3) := by decide +kernel
theorem dX7_init_59 : decode cX7_init 59 = .ok (.aload_n 0, 1) := by decide +kernel
theorem dX7_init_60 : decode cX7_init 60 = .ok (.iconst 0, 1) := by decide +kernel
theorem dX7_init_61 : decode cX7_init 61 = .ok (.putfield 43, 3) := by decide +kernel
theorem dX7_init_64 : decode cX7_init 64 = .ok (.aload_n 0, 1) := by decide +kernel
theorem dX7_init_65 : decode cX7_init 65 = .ok (.iconst 0, 1) := by decide +kernel
theorem dX7_init_66 : decode cX7_init 66 = .ok (.putfield 47, 3) := by decide +kernel
theorem dX7_init_69 : decode cX7_init 69 = .ok (.aload_n 0, 1) := by decide +kernel
theorem dX7_init_70 : decode cX7_init 70 = .ok (.iconst 0, 1) := by decide +kernel
theorem dX7_init_71 : decode cX7_init 71 = .ok (.putfield 50, 3) := by decide +kernel
theorem dX7_init_74 : decode cX7_init 74 = .ok (.aload_n 0, 1) := by decide +kernel
theorem dX7_init_75 : decode cX7_init 75 = .ok (.iconst 0, 1) := by decide +kernel
theorem dX7_init_76 : decode cX7_init 76 = .ok (.putfield 54, 3) := by decide +kernel
theorem dX7_init_79 : decode cX7_init 79 = .ok (.return_, 1) := by decide +kernel
theorem dX7_letter_0 : decode cX7_letter 0 = .ok (.iload_n 1, 1) := by decide +kernel
theorem dX7_letter_1 : decode cX7_letter 1 = .ok (.bipush 32, 2) := by decide +kernel
theorem dX7_letter_3 : decode cX7_letter 3 = .ok (.if_icmp .lt 9, 3) := by decide +kernel
theorem dX7_letter_6 : decode cX7_letter 6 = .ok (.iload_n 1, 1) := by decide +kernel
theorem dX7_letter_7 : decode cX7_letter 7 = .ok (.bipush 126, 2) := by decide +kernel
theorem dX7_letter_9 : decode cX7_letter 9 = .ok (.if_icmp .le 6, 3) := by decide +kernel
theorem dX7_letter_12 : decode cX7_letter 12 = .ok (.bipush (-102), 2) := by decide +kernel
theorem dX7_letter_14 : decode cX7_letter 14 = .ok (.ireturn, 1) := by decide +kernel
theorem dX7_letter_15 : decode cX7_letter 15 = .ok (.aload_n 0, 1) := by decide +kernel
theorem dX7_letter_16 : decode cX7_letter 16 = .ok (.getfield 10, 3) := by decide +kernel
theorem dX7_letter_19 : decode cX7_letter 19 = .ok (.invokevirtual 57, 3) := by decide +kernel
theorem dX7_letter_22 : decode cX7_letter 22 = .ok (.bipush 60, 2) := by decide +kernel
theorem dX7_letter_24 : decode cX7_letter 24 = .ok (.if_icmp .lt 6, 3) := by decide +kernel
theorem dX7_letter_27 : decode cX7_letter 27 = .ok (.bipush (-104), 2) := by decide +kernel
theorem dX7_letter_29 : decode cX7_letter 29 = .ok (.ireturn, 1) := by decide +kernel
theorem dX7_letter_30 : decode cX7_letter 30 = .ok (.aload_n 0, 1) := by decide +kernel
theorem dX7_letter_31 : decode cX7_letter 31 = .ok (.getfield 10, 3) := by decide +kernel
theorem dX7_letter_34 : decode cX7_letter 34 = .ok (.iload_n 1, 1) := by decide +kernel
theorem dX7_letter_35 : decode cX7_letter 35 = .ok (.invokevirtual 61, 3) := by decide +kernel
theorem dX7_letter_38 : decode cX7_letter 38 = .ok (.aload_n 0, 1) := by decide +kernel
theorem dX7_letter_39 : decode cX7_letter 39 = .ok (.getfield 10, 3) := by decide +kernel
theorem dX7_letter_42 : decode cX7_letter 42 = .ok (.invokevirtual 57, 3) := by decide +kernel
theorem dX7_letter_45 : decode cX7_letter 45 = .ok (.ireturn, 1) := by decide +kernel
theorem dX7_blank_0 : decode cX7_blank 0 = .ok (.aload_n 0, 1) := by decide +kernel
theorem dX7_blank_1 : decode cX7_blank 1 = .ok (.getfield 10, 3) := by decide +kernel
theorem dX7_blank_4 : decode cX7_blank 4 = .ok (.invokevirtual 57, 3) := by decide +kernel
theorem dX7_blank_7 : decode cX7_blank 7 = .ok (.istore_n 1, 1) := by decide +kernel
theorem dX7_blank_8 : decode cX7_blank 8 = .ok (.aload_n 0, 1) := by decide +kernel
theorem dX7_blank_9 : decode cX7_blank 9 = .ok (.getfield 10, 3) := by decide +kernel
theorem dX7_blank_12 : decode cX7_blank 12 = .ok (.invokevirtual 65, 3) := by decide +kernel
theorem dX7_blank_15 : decode cX7_blank 15 = .ok (.iload_n 1, 1) := by decide +kernel
theorem dX7_blank_16 : decode cX7_blank 16 = .ok (.ireturn, 1) := by decide +kernel
theorem dX7_fault_0 : decode cX7_fault 0 = .ok (.aload_n 0, 1) := by decide +kernel
theorem dX7_fault_1 : decode cX7_fault 1 = .ok (.getfield 10, 3) := by decide +kernel
theorem dX7_fault_4 : decode cX7_fault 4 = .ok (.invokevirtual 68, 3) := by decide +kernel
theorem dX7_fault_7 : decode cX7_fault 7 = .ok (.ireturn, 1) := by decide +kernel
theorem dX7_words_0 : decode cX7_words 0 = .ok (.aload_n 0, 1) := by decide +kernel
theorem dX7_words_1 : decode cX7_words 1 = .ok (.getfield 10, 3) := by decide +kernel
theorem dX7_words_4 : decode cX7_words 4 = .ok (.invokevirtual 71, 3) := by decide +kernel
theorem dX7_words_7 : decode cX7_words 7 = .ok (.istore_n 1, 1) := by decide +kernel
theorem dX7_words_8 : decode cX7_words 8 = .ok (.iload_n 1, 1) := by decide +kernel
theorem dX7_words_9 : decode cX7_words 9 = .ok (.ifCond .eq 14, 3) := by decide +kernel
theorem dX7_words_12 : decode cX7_words 12 = .ok (.aload_n 0, 1) := by decide +kernel
theorem dX7_words_13 : decode cX7_words 13 = .ok (.getfield 19, 3) := by decide +kernel
theorem dX7_words_16 : decode cX7_words 16 = .ok (.iload_n 1, 1) := by decide +kernel
theorem dX7_words_17 : decode cX7_words 17 = .ok (.invokevirtual 74, 3) := by decide +kernel
theorem dX7_words_20 : decode cX7_words 20 = .ok (.ifCond .ne 6, 3) := by decide +kernel
theorem dX7_words_23 : decode cX7_words 23 = .ok (.bipush (-103), 2) := by decide +kernel
theorem dX7_words_25 : decode cX7_words 25 = .ok (.ireturn, 1) := by decide +kernel
theorem dX7_words_26 : decode cX7_words 26 = .ok (.aload_n 0, 1) := by decide +kernel
theorem dX7_words_27 : decode cX7_words 27 = .ok (.getfield 10, 3) := by decide +kernel
theorem dX7_words_30 : decode cX7_words 30 = .ok (.iload_n 1, 1) := by decide +kernel
theorem dX7_words_31 : decode cX7_words 31 = .ok (.invokevirtual 78, 3) := by decide +kernel
theorem dX7_words_34 : decode cX7_words 34 = .ok (.istore_n 2, 1) := by decide +kernel
theorem dX7_words_35 : decode cX7_words 35 = .ok (.iconst 0, 1) := by decide +kernel
theorem dX7_words_36 : decode cX7_words 36 = .ok (.istore_n 3, 1) := by decide +kernel
theorem dX7_words_37 : decode cX7_words 37 = .ok (.iload_n 3, 1) := by decide +kernel
theorem dX7_words_38 : decode cX7_words 38 = .ok (.iload_n 2, 1) := by decide +kernel
theorem dX7_words_39 : decode cX7_words 39 = .ok (.if_icmp .ge 32, 3) := by decide +kernel
theorem dX7_words_42 : decode cX7_words 42 = .ok (.aload_n 0, 1) := by decide +kernel
theorem dX7_words_43 : decode cX7_words 43 = .ok (.getfield 19, 3) := by decide +kernel
theorem dX7_words_46 : decode cX7_words 46 = .ok (.aload_n 0, 1) := by decide +kernel
theorem dX7_words_47 : decode cX7_words 47 = .ok (.getfield 10, 3) := by decide +kernel
theorem dX7_words_50 : decode cX7_words 50 = .ok (.iload_n 3, 1) := by decide +kernel
theorem dX7_words_51 : decode cX7_words 51 = .ok (.iload_n 1, 1) := by decide +kernel
theorem dX7_words_52 : decode cX7_words 52 = .ok (.invokevirtual 82, 3) := by decide +kernel
theorem dX7_words_55 : decode cX7_words 55 = .ok (.invokevirtual 86, 3) := by decide +kernel
theorem dX7_words_58 : decode cX7_words 58 = .ok (.iconst (-1), 1) := by decide +kernel
theorem dX7_words_59 : decode cX7_words 59 = .ok (.if_icmp .eq 6, 3) := by decide +kernel
theorem dX7_words_62 : decode cX7_words 62 = .ok (.bipush (-103), 2) := by decide +kernel
theorem dX7_words_64 : decode cX7_words 64 = .ok (.ireturn, 1) := by decide +kernel
theorem dX7_words_65 : decode cX7_words 65 = .ok (.iinc 3 1, 3) := by decide +kernel
theorem dX7_words_68 : decode cX7_words 68 = .ok (.goto (-31), 3) := by decide +kernel
theorem dX7_words_71 : decode cX7_words 71 = .ok (.aload_n 0, 1) := by decide +kernel
theorem dX7_words_72 : decode cX7_words 72 = .ok (.getfield 19, 3) := by decide +kernel
theorem dX7_words_75 : decode cX7_words 75 = .ok (.invokevirtual 89, 3) := by decide +kernel
theorem dX7_words_78 : decode cX7_words 78 = .ok (.iload_n 2, 1) := by decide +kernel
theorem dX7_words_79 : decode cX7_words 79 = .ok (.iadd, 1) := by decide +kernel
theorem dX7_words_80 : decode cX7_words 80 = .ok (.bipush 12, 2) := by decide +kernel
theorem dX7_words_82 : decode cX7_words 82 = .ok (.if_icmp .le 6, 3) := by decide +kernel
theorem dX7_words_85 : decode cX7_words 85 = .ok (.bipush (-104), 2) := by decide +kernel
theorem dX7_words_87 : decode cX7_words 87 = .ok (.ireturn, 1) := by decide +kernel
theorem dX7_words_88 : decode cX7_words 88 = .ok (.iconst 0, 1) := by decide +kernel
theorem dX7_words_89 : decode cX7_words 89 = .ok (.istore_n 3, 1) := by decide +kernel
theorem dX7_words_90 : decode cX7_words 90 = .ok (.iload_n 3, 1) := by decide +kernel
theorem dX7_words_91 : decode cX7_words 91 = .ok (.iload_n 2, 1) := by decide +kernel
theorem dX7_words_92 : decode cX7_words 92 = .ok (.if_icmp .ge 26, 3) := by decide +kernel
theorem dX7_words_95 : decode cX7_words 95 = .ok (.aload_n 0, 1) := by decide +kernel
theorem dX7_words_96 : decode cX7_words 96 = .ok (.getfield 19, 3) := by decide +kernel
theorem dX7_words_99 : decode cX7_words 99 = .ok (.aload_n 0, 1) := by decide +kernel
theorem dX7_words_100 : decode cX7_words 100 = .ok (.getfield 10, 3) := by decide +kernel
theorem dX7_words_103 : decode cX7_words 103 = .ok (.iload_n 3, 1) := by decide +kernel
theorem dX7_words_104 : decode cX7_words 104 = .ok (.iload_n 1, 1) := by decide +kernel
theorem dX7_words_105 : decode cX7_words 105 = .ok (.invokevirtual 82, 3) := by decide +kernel
theorem dX7_words_108 : decode cX7_words 108 = .ok (.iload_n 1, 1) := by decide +kernel
theorem dX7_words_109 : decode cX7_words 109 = .ok (.invokevirtual 90, 3) := by decide +kernel
theorem dX7_words_112 : decode cX7_words 112 = .ok (.iinc 3 1, 3) := by decide +kernel
theorem dX7_words_115 : decode cX7_words 115 = .ok (.goto (-25), 3) := by decide +kernel
theorem dX7_words_118 : decode cX7_words 118 = .ok (.aload_n 0, 1) := by decide +kernel
theorem dX7_words_119 : decode cX7_words 119 = .ok (.getfield 10, 3) := by decide +kernel
theorem dX7_words_122 : decode cX7_words 122 = .ok (.invokevirtual 65, 3) := by decide +kernel
theorem dX7_words_125 : decode cX7_words 125 = .ok (.aload_n 0, 1) := by decide +kernel
theorem dX7_words_126 : decode cX7_words 126 = .ok (.dup, 1) := by decide +kernel
theorem dX7_words_127 : decode cX7_words 127 = .ok (.getfield 50, 3) := by decide +kernel
theorem dX7_words_130 : decode cX7_words 130 = .ok (.iconst 1, 1) := by decide +kernel
theorem dX7_words_131 : decode cX7_words 131 = .ok (.iadd, 1) := by decide +kernel
theorem dX7_words_132 : decode cX7_words 132 = .ok (.putfield 50, 3) := by decide +kernel
theorem dX7_words_135 : decode cX7_words 135 = .ok (.aload_n 0, 1) := by decide +kernel
theorem dX7_words_136 : decode cX7_words 136 = .ok (.invokevirtual 94, 3) := by decide +kernel
theorem dX7_words_139 : decode cX7_words 139 = .ok (.iload_n 2, 1) := by decide +kernel
theorem dX7_words_140 : decode cX7_words 140 = .ok (.ireturn, 1) := by decide +kernel
theorem dX7_strike_0 : decode cX7_strike 0 = .ok (.aload_n 0, 1) := by decide +kernel
theorem dX7_strike_1 : decode cX7_strike 1 = .ok (.getfield 19, 3) := by decide +kernel
theorem dX7_strike_4 : decode cX7_strike 4 = .ok (.iload_n 1, 1) := by decide +kernel
theorem dX7_strike_5 : decode cX7_strike 5 = .ok (.invokevirtual 97, 3) := by decide +kernel
theorem dX7_strike_8 : decode cX7_strike 8 = .ok (.ifCond .ne 6, 3) := by decide +kernel
theorem dX7_strike_11 : decode cX7_strike 11 = .ok (.bipush (-101), 2) := by decide +kernel
theorem dX7_strike_13 : decode cX7_strike 13 = .ok (.ireturn, 1) := by decide +kernel
theorem dX7_strike_14 : decode cX7_strike 14 = .ok (.aload_n 0, 1) := by decide +kernel
theorem dX7_strike_15 : decode cX7_strike 15 = .ok (.getfield 19, 3) := by decide +kernel
theorem dX7_strike_18 : decode cX7_strike 18 = .ok (.iload_n 1, 1) := by decide +kernel
theorem dX7_strike_19 : decode cX7_strike 19 = .ok (.invokevirtual 100, 3) := by decide +kernel
theorem dX7_strike_22 : decode cX7_strike 22 = .ok (.aload_n 0, 1) := by decide +kernel
theorem dX7_strike_23 : decode cX7_strike 23 = .ok (.dup, 1) := by decide +kernel
theorem dX7_strike_24 : decode cX7_strike 24 = .ok (.getfield 54, 3) := by decide +kernel
theorem dX7_strike_27 : decode cX7_strike 27 = .ok (.iconst 1, 1) := by decide +kernel
theorem dX7_strike_28 : decode cX7_strike 28 = .ok (.iadd, 1) := by decide +kernel
theorem dX7_strike_29 : decode cX7_strike 29 = .ok (.putfield 54, 3) := by decide +kernel
theorem dX7_strike_32 : decode cX7_strike 32 = .ok (.aload_n 0, 1) := by decide +kernel
theorem dX7_strike_33 : decode cX7_strike 33 = .ok (.invokevirtual 94, 3) := by decide +kernel
theorem dX7_strike_36 : decode cX7_strike 36 = .ok (.aload_n 0, 1) := by decide +kernel
theorem dX7_strike_37 : decode cX7_strike 37 = .ok (.getfield 19, 3) := by decide +kernel
theorem dX7_strike_40 : decode cX7_strike 40 = .ok (.invokevirtual 89, 3) := by decide +kernel
theorem dX7_strike_43 : decode cX7_strike 43 = .ok (.ireturn, 1) := by decide +kernel
theorem dX7_weigh_0 : decode cX7_weigh 0 = .ok (.aload_n 0, 1) := by decide +kernel
theorem dX7_weigh_1 : decode cX7_weigh 1 = .ok (.getfield 19, 3) := by decide +kernel
theorem dX7_weigh_4 : decode cX7_weigh 4 = .ok (.iload_n 1, 1) := by decide +kernel
theorem dX7_weigh_5 : decode cX7_weigh 5 = .ok (.invokevirtual 97, 3) := by decide +kernel
theorem dX7_weigh_8 : decode cX7_weigh 8 = .ok (.ifCond .ne 6, 3) := by decide +kernel
theorem dX7_weigh_11 : decode cX7_weigh 11 = .ok (.bipush (-101), 2) := by decide +kernel
theorem dX7_weigh_13 : decode cX7_weigh 13 = .ok (.ireturn, 1) := by decide +kernel
theorem dX7_weigh_14 : decode cX7_weigh 14 = .ok (.iload_n 2, 1) := by decide +kernel
theorem dX7_weigh_15 : decode cX7_weigh 15 = .ok (.iconst 1, 1) := by decide +kernel
theorem dX7_weigh_16 : decode cX7_weigh 16 = .ok (.if_icmp .lt 9, 3) := by decide +kernel
theorem dX7_weigh_19 : decode cX7_weigh 19 = .ok (.iload_n 2, 1) := by decide +kernel
theorem dX7_weigh_20 : decode cX7_weigh 20 = .ok (.bipush 9, 2) := by decide +kernel
theorem dX7_weigh_22 : decode cX7_weigh 22 = .ok (.if_icmp .le 6, 3) := by decide +kernel
theorem dX7_weigh_25 : decode cX7_weigh 25 = .ok (.bipush (-102), 2) := by decide +kernel
theorem dX7_weigh_27 : decode cX7_weigh 27 = .ok (.ireturn, 1) := by decide +kernel
theorem dX7_weigh_28 : decode cX7_weigh 28 = .ok (.aload_n 0, 1) := by decide +kernel
theorem dX7_weigh_29 : decode cX7_weigh 29 = .ok (.getfield 19, 3) := by decide +kernel
theorem dX7_weigh_32 : decode cX7_weigh 32 = .ok (.iload_n 1, 1) := by decide +kernel
theorem dX7_weigh_33 : decode cX7_weigh 33 = .ok (.invokevirtual 103, 3) := by decide +kernel
theorem dX7_weigh_36 : decode cX7_weigh 36 = .ok (.istore_n 3, 1) := by decide +kernel
theorem dX7_weigh_37 : decode cX7_weigh 37 = .ok (.aload_n 0, 1) := by decide +kernel
theorem dX7_weigh_38 : decode cX7_weigh 38 = .ok (.getfield 19, 3) := by decide +kernel
theorem dX7_weigh_41 : decode cX7_weigh 41 = .ok (.iload_n 1, 1) := by decide +kernel
theorem dX7_weigh_42 : decode cX7_weigh 42 = .ok (.iload_n 2, 1) := by decide +kernel
theorem dX7_weigh_43 : decode cX7_weigh 43 = .ok (.invokevirtual 106, 3) := by decide +kernel
theorem dX7_weigh_46 : decode cX7_weigh 46 = .ok (.aload_n 0, 1) := by decide +kernel
theorem dX7_weigh_47 : decode cX7_weigh 47 = .ok (.iconst 0, 1) := by decide +kernel
theorem dX7_weigh_48 : decode cX7_weigh 48 = .ok (.putfield 43, 3) := by decide +kernel
theorem dX7_weigh_51 : decode cX7_weigh 51 = .ok (.iload_n 3, 1) := by decide +kernel
theorem dX7_weigh_52 : decode cX7_weigh 52 = .ok (.ireturn, 1) := by decide +kernel
theorem dX7_about_0 : decode cX7_about 0 = .ok (.iload_n 1, 1) := by decide +kernel
theorem dX7_about_1 : decode cX7_about 1 = .ok (.tableswitch 87 0 5 #[39, 47, 55, 63, 71, 79], 39) := by decide +kernel
theorem dX7_about_40 : decode cX7_about 40 = .ok (.aload_n 0, 1) := by decide +kernel
theorem dX7_about_41 : decode cX7_about 41 = .ok (.getfield 19, 3) := by decide +kernel
theorem dX7_about_44 : decode cX7_about 44 = .ok (.invokevirtual 109, 3) := by decide +kernel
theorem dX7_about_47 : decode cX7_about 47 = .ok (.ireturn, 1) := by decide +kernel
theorem dX7_about_48 : decode cX7_about 48 = .ok (.aload_n 0, 1) := by decide +kernel
theorem dX7_about_49 : decode cX7_about 49 = .ok (.getfield 19, 3) := by decide +kernel
theorem dX7_about_52 : decode cX7_about 52 = .ok (.invokevirtual 89, 3) := by decide +kernel
theorem dX7_about_55 : decode cX7_about 55 = .ok (.ireturn, 1) := by decide +kernel
theorem dX7_about_56 : decode cX7_about 56 = .ok (.aload_n 0, 1) := by decide +kernel
theorem dX7_about_57 : decode cX7_about 57 = .ok (.getfield 19, 3) := by decide +kernel
theorem dX7_about_60 : decode cX7_about 60 = .ok (.invokevirtual 112, 3) := by decide +kernel
theorem dX7_about_63 : decode cX7_about 63 = .ok (.ireturn, 1) := by decide +kernel
theorem dX7_about_64 : decode cX7_about 64 = .ok (.aload_n 0, 1) := by decide +kernel
theorem dX7_about_65 : decode cX7_about 65 = .ok (.getfield 19, 3) := by decide +kernel
theorem dX7_about_68 : decode cX7_about 68 = .ok (.invokevirtual 115, 3) := by decide +kernel
theorem dX7_about_71 : decode cX7_about 71 = .ok (.ireturn, 1) := by decide +kernel
theorem dX7_about_72 : decode cX7_about 72 = .ok (.aload_n 0, 1) := by decide +kernel
theorem dX7_about_73 : decode cX7_about 73 = .ok (.getfield 19, 3) := by decide +kernel
theorem dX7_about_76 : decode cX7_about 76 = .ok (.invokevirtual 118, 3) := by decide +kernel
theorem dX7_about_79 : decode cX7_about 79 = .ok (.ireturn, 1) := by decide +kernel
theorem dX7_about_80 : decode cX7_about 80 = .ok (.aload_n 0, 1) := by decide +kernel
theorem dX7_about_81 : decode cX7_about 81 = .ok (.getfield 19, 3) := by decide +kernel
theorem dX7_about_84 : decode cX7_about 84 = .ok (.invokevirtual 121, 3) := by decide +kernel
theorem dX7_about_87 : decode cX7_about 87 = .ok (.ireturn, 1) := by decide +kernel
theorem dX7_about_88 : decode cX7_about 88 = .ok (.bipush (-102), 2) := by decide +kernel
theorem dX7_about_90 : decode cX7_about 90 = .ok (.ireturn, 1) := by decide +kernel
theorem dX7_word_0 : decode cX7_word 0 = .ok (.aload_n 0, 1) := by decide +kernel
theorem dX7_word_1 : decode cX7_word 1 = .ok (.getfield 19, 3) := by decide +kernel
theorem dX7_word_4 : decode cX7_word 4 = .ok (.iload_n 1, 1) := by decide +kernel
theorem dX7_word_5 : decode cX7_word 5 = .ok (.invokevirtual 97, 3) := by decide +kernel
theorem dX7_word_8 : decode cX7_word 8 = .ok (.ifCond .ne 6, 3) := by decide +kernel
theorem dX7_word_11 : decode cX7_word 11 = .ok (.bipush (-101), 2) := by decide +kernel
theorem dX7_word_13 : decode cX7_word 13 = .ok (.ireturn, 1) := by decide +kernel
theorem dX7_word_14 : decode cX7_word 14 = .ok (.iload_n 2, 1) := by decide +kernel
theorem dX7_word_15 : decode cX7_word 15 = .ok (.tableswitch 85 0 4 #[33, 42, 58, 67, 76], 33) := by decide +kernel
theorem dX7_word_48 : decode cX7_word 48 = .ok (.aload_n 0, 1) := by decide +kernel
theorem dX7_word_49 : decode cX7_word 49 = .ok (.getfield 19, 3) := by decide +kernel
theorem dX7_word_52 : decode cX7_word 52 = .ok (.iload_n 1, 1) := by decide +kernel
theorem dX7_word_53 : decode cX7_word 53 = .ok (.invokevirtual 103, 3) := by decide +kernel
theorem dX7_word_56 : decode cX7_word 56 = .ok (.ireturn, 1) := by decide +kernel
theorem dX7_word_57 : decode cX7_word 57 = .ok (.aload_n 0, 1) := by decide +kernel
theorem dX7_word_58 : decode cX7_word 58 = .ok (.getfield 19, 3) := by decide +kernel
theorem dX7_word_61 : decode cX7_word 61 = .ok (.aload_n 0, 1) := by decide +kernel
theorem dX7_word_62 : decode cX7_word 62 = .ok (.getfield 19, 3) := by decide +kernel
theorem dX7_word_65 : decode cX7_word 65 = .ok (.iload_n 1, 1) := by decide +kernel
theorem dX7_word_66 : decode cX7_word 66 = .ok (.invokevirtual 124, 3) := by decide +kernel
theorem dX7_word_69 : decode cX7_word 69 = .ok (.invokevirtual 86, 3) := by decide +kernel
theorem dX7_word_72 : decode cX7_word 72 = .ok (.ireturn, 1) := by decide +kernel
theorem dX7_word_73 : decode cX7_word 73 = .ok (.aload_n 0, 1) := by decide +kernel
theorem dX7_word_74 : decode cX7_word 74 = .ok (.getfield 28, 3) := by decide +kernel
theorem dX7_word_77 : decode cX7_word 77 = .ok (.iload_n 1, 1) := by decide +kernel
theorem dX7_word_78 : decode cX7_word 78 = .ok (.invokevirtual 127, 3) := by decide +kernel
theorem dX7_word_81 : decode cX7_word 81 = .ok (.ireturn, 1) := by decide +kernel
theorem dX7_word_82 : decode cX7_word 82 = .ok (.aload_n 0, 1) := by decide +kernel
theorem dX7_word_83 : decode cX7_word 83 = .ok (.getfield 28, 3) := by decide +kernel
theorem dX7_word_86 : decode cX7_word 86 = .ok (.iload_n 1, 1) := by decide +kernel
theorem dX7_word_87 : decode cX7_word 87 = .ok (.invokevirtual 130, 3) := by decide +kernel
theorem dX7_word_90 : decode cX7_word 90 = .ok (.ireturn, 1) := by decide +kernel
theorem dX7_word_91 : decode cX7_word 91 = .ok (.aload_n 0, 1) := by decide +kernel
theorem dX7_word_92 : decode cX7_word 92 = .ok (.getfield 28, 3) := by decide +kernel
theorem dX7_word_95 : decode cX7_word 95 = .ok (.iload_n 1, 1) := by decide +kernel
theorem dX7_word_96 : decode cX7_word 96 = .ok (.invokevirtual 133, 3) := by decide +kernel
theorem dX7_word_99 : decode cX7_word 99 = .ok (.ireturn, 1) := by decide +kernel
theorem dX7_word_100 : decode cX7_word 100 = .ok (.bipush (-102), 2) := by decide +kernel
theorem dX7_word_102 : decode cX7_word 102 = .ok (.ireturn, 1) := by decide +kernel
theorem dX7_sign_0 : decode cX7_sign 0 = .ok (.aload_n 0, 1) := by decide +kernel
theorem dX7_sign_1 : decode cX7_sign 1 = .ok (.getfield 19, 3) := by decide +kernel
theorem dX7_sign_4 : decode cX7_sign 4 = .ok (.iload_n 1, 1) := by decide +kernel
theorem dX7_sign_5 : decode cX7_sign 5 = .ok (.invokevirtual 97, 3) := by decide +kernel
theorem dX7_sign_8 : decode cX7_sign 8 = .ok (.ifCond .eq 14, 3) := by decide +kernel
theorem dX7_sign_11 : decode cX7_sign 11 = .ok (.aload_n 0, 1) := by decide +kernel
theorem dX7_sign_12 : decode cX7_sign 12 = .ok (.getfield 19, 3) := by decide +kernel
theorem dX7_sign_15 : decode cX7_sign 15 = .ok (.iload_n 2, 1) := by decide +kernel
theorem dX7_sign_16 : decode cX7_sign 16 = .ok (.invokevirtual 136, 3) := by decide +kernel
theorem dX7_sign_19 : decode cX7_sign 19 = .ok (.ifCond .ne 6, 3) := by decide +kernel
theorem dX7_sign_22 : decode cX7_sign 22 = .ok (.bipush (-101), 2) := by decide +kernel
theorem dX7_sign_24 : decode cX7_sign 24 = .ok (.ireturn, 1) := by decide +kernel
theorem dX7_sign_25 : decode cX7_sign 25 = .ok (.bipush 97, 2) := by decide +kernel
theorem dX7_sign_27 : decode cX7_sign 27 = .ok (.aload_n 0, 1) := by decide +kernel
theorem dX7_sign_28 : decode cX7_sign 28 = .ok (.getfield 19, 3) := by decide +kernel
theorem dX7_sign_31 : decode cX7_sign 31 = .ok (.iload_n 1, 1) := by decide +kernel
theorem dX7_sign_32 : decode cX7_sign 32 = .ok (.iload_n 2, 1) := by decide +kernel
theorem dX7_sign_33 : decode cX7_sign 33 = .ok (.invokevirtual 139, 3) := by decide +kernel
theorem dX7_sign_36 : decode cX7_sign 36 = .ok (.iadd, 1) := by decide +kernel
theorem dX7_sign_37 : decode cX7_sign 37 = .ok (.ireturn, 1) := by decide +kernel
theorem dX7_begins_0 : decode cX7_begins 0 = .ok (.aload_n 0, 1) := by decide +kernel
theorem dX7_begins_1 : decode cX7_begins 1 = .ok (.getfield 19, 3) := by decide +kernel
theorem dX7_begins_4 : decode cX7_begins 4 = .ok (.iload_n 1, 1) := by decide +kernel
theorem dX7_begins_5 : decode cX7_begins 5 = .ok (.invokevirtual 97, 3) := by decide +kernel
theorem dX7_begins_8 : decode cX7_begins 8 = .ok (.ifCond .ne 6, 3) := by decide +kernel
theorem dX7_begins_11 : decode cX7_begins 11 = .ok (.bipush (-101), 2) := by decide +kernel
theorem dX7_begins_13 : decode cX7_begins 13 = .ok (.ireturn, 1) := by decide +kernel
theorem dX7_begins_14 : decode cX7_begins 14 = .ok (.iload_n 2, 1) := by decide +kernel
theorem dX7_begins_15 : decode cX7_begins 15 = .ok (.ifCond .lt 14, 3) := by decide +kernel
theorem dX7_begins_18 : decode cX7_begins 18 = .ok (.iload_n 2, 1) := by decide +kernel
theorem dX7_begins_19 : decode cX7_begins 19 = .ok (.aload_n 0, 1) := by decide +kernel
theorem dX7_begins_20 : decode cX7_begins 20 = .ok (.getfield 19, 3) := by decide +kernel
theorem dX7_begins_23 : decode cX7_begins 23 = .ok (.invokevirtual 109, 3) := by decide +kernel
theorem dX7_begins_26 : decode cX7_begins 26 = .ok (.if_icmp .le 6, 3) := by decide +kernel
theorem dX7_begins_29 : decode cX7_begins 29 = .ok (.bipush (-102), 2) := by decide +kernel
theorem dX7_begins_31 : decode cX7_begins 31 = .ok (.ireturn, 1) := by decide +kernel
theorem dX7_begins_32 : decode cX7_begins 32 = .ok (.aload_n 0, 1) := by decide +kernel
theorem dX7_begins_33 : decode cX7_begins 33 = .ok (.getfield 19, 3) := by decide +kernel
theorem dX7_begins_36 : decode cX7_begins 36 = .ok (.aload_n 0, 1) := by decide +kernel
theorem dX7_begins_37 : decode cX7_begins 37 = .ok (.getfield 19, 3) := by decide +kernel
theorem dX7_begins_40 : decode cX7_begins 40 = .ok (.iload_n 1, 1) := by decide +kernel
theorem dX7_begins_41 : decode cX7_begins 41 = .ok (.iload_n 2, 1) := by decide +kernel
theorem dX7_begins_42 : decode cX7_begins 42 = .ok (.invokevirtual 142, 3) := by decide +kernel
theorem dX7_begins_45 : decode cX7_begins 45 = .ok (.iload_n 2, 1) := by decide +kernel
theorem dX7_begins_46 : decode cX7_begins 46 = .ok (.invokevirtual 145, 3) := by decide +kernel
theorem dX7_begins_49 : decode cX7_begins 49 = .ok (.ireturn, 1) := by decide +kernel
theorem dX7_squares_0 : decode cX7_squares 0 = .ok (.iload_n 1, 1) := by decide +kernel
theorem dX7_squares_1 : decode cX7_squares 1 = .ok (.invokestatic 148, 3) := by decide +kernel
theorem dX7_squares_4 : decode cX7_squares 4 = .ok (.ifCond .ne 6, 3) := by decide +kernel
theorem dX7_squares_7 : decode cX7_squares 7 = .ok (.bipush (-102), 2) := by decide +kernel
theorem dX7_squares_9 : decode cX7_squares 9 = .ok (.ireturn, 1) := by decide +kernel
theorem dX7_squares_10 : decode cX7_squares 10 = .ok (.aload_n 0, 1) := by decide +kernel
theorem dX7_squares_11 : decode cX7_squares 11 = .ok (.getfield 28, 3) := by decide +kernel
theorem dX7_squares_14 : decode cX7_squares 14 = .ok (.iload_n 1, 1) := by decide +kernel
theorem dX7_squares_15 : decode cX7_squares 15 = .ok (.invokevirtual 151, 3) := by decide +kernel
theorem dX7_squares_18 : decode cX7_squares 18 = .ok (.invokevirtual 155, 3) := by decide +kernel
theorem dX7_squares_21 : decode cX7_squares 21 = .ok (.ireturn, 1) := by decide +kernel
theorem dX7_row_0 : decode cX7_row 0 = .ok (.iload_n 1, 1) := by decide +kernel
theorem dX7_row_1 : decode cX7_row 1 = .ok (.invokestatic 148, 3) := by decide +kernel
theorem dX7_row_4 : decode cX7_row 4 = .ok (.ifCond .ne 6, 3) := by decide +kernel
theorem dX7_row_7 : decode cX7_row 7 = .ok (.bipush (-102), 2) := by decide +kernel
theorem dX7_row_9 : decode cX7_row 9 = .ok (.ireturn, 1) := by decide +kernel
theorem dX7_row_10 : decode cX7_row 10 = .ok (.aload_n 0, 1) := by decide +kernel
theorem dX7_row_11 : decode cX7_row 11 = .ok (.getfield 28, 3) := by decide +kernel
theorem dX7_row_14 : decode cX7_row 14 = .ok (.iload_n 1, 1) := by decide +kernel
theorem dX7_row_15 : decode cX7_row 15 = .ok (.invokevirtual 151, 3) := by decide +kernel
theorem dX7_row_18 : decode cX7_row 18 = .ok (.astore 4, 2) := by decide +kernel
theorem dX7_row_20 : decode cX7_row 20 = .ok (.aload 4, 2) := by decide +kernel
theorem dX7_row_22 : decode cX7_row 22 = .ok (.iload_n 2, 1) := by decide +kernel
theorem dX7_row_23 : decode cX7_row 23 = .ok (.invokevirtual 158, 3) := by decide +kernel
theorem dX7_row_26 : decode cX7_row 26 = .ok (.ifCond .eq 14, 3) := by decide +kernel
theorem dX7_row_29 : decode cX7_row 29 = .ok (.aload_n 0, 1) := by decide +kernel
theorem dX7_row_30 : decode cX7_row 30 = .ok (.getfield 19, 3) := by decide +kernel
theorem dX7_row_33 : decode cX7_row 33 = .ok (.iload_n 3, 1) := by decide +kernel
theorem dX7_row_34 : decode cX7_row 34 = .ok (.invokevirtual 136, 3) := by decide +kernel
theorem dX7_row_37 : decode cX7_row 37 = .ok (.ifCond .ne 6, 3) := by decide +kernel
theorem dX7_row_40 : decode cX7_row 40 = .ok (.bipush (-101), 2) := by decide +kernel
theorem dX7_row_42 : decode cX7_row 42 = .ok (.ireturn, 1) := by decide +kernel
theorem dX7_row_43 : decode cX7_row 43 = .ok (.aload 4, 2) := by decide +kernel
theorem dX7_row_45 : decode cX7_row 45 = .ok (.iload_n 2, 1) := by decide +kernel
theorem dX7_row_46 : decode cX7_row 46 = .ok (.invokevirtual 159, 3) := by decide +kernel
theorem dX7_row_49 : decode cX7_row 49 = .ok (.iload_n 3, 1) := by decide +kernel
theorem dX7_row_50 : decode cX7_row 50 = .ok (.aload_n 0, 1) := by decide +kernel
theorem dX7_row_51 : decode cX7_row 51 = .ok (.getfield 19, 3) := by decide +kernel
theorem dX7_row_54 : decode cX7_row 54 = .ok (.invokevirtual 109, 3) := by decide +kernel
theorem dX7_row_57 : decode cX7_row 57 = .ok (.invokestatic 162, 3) := by decide +kernel
theorem dX7_row_60 : decode cX7_row 60 = .ok (.ireturn, 1) := by decide +kernel
theorem dX7_turned_0 : decode cX7_turned 0 = .ok (.aload_n 0, 1) := by decide +kernel
theorem dX7_turned_1 : decode cX7_turned 1 = .ok (.getfield 28, 3) := by decide +kernel
theorem dX7_turned_4 : decode cX7_turned 4 = .ok (.iconst 0, 1) := by decide +kernel
theorem dX7_turned_5 : decode cX7_turned 5 = .ok (.invokevirtual 151, 3) := by decide +kernel
theorem dX7_turned_8 : decode cX7_turned 8 = .ok (.astore_n 2, 1) := by decide +kernel
theorem dX7_turned_9 : decode cX7_turned 9 = .ok (.aload_n 2, 1) := by decide +kernel
theorem dX7_turned_10 : decode cX7_turned 10 = .ok (.iload_n 1, 1) := by decide +kernel
theorem dX7_turned_11 : decode cX7_turned 11 = .ok (.invokevirtual 158, 3) := by decide +kernel
theorem dX7_turned_14 : decode cX7_turned 14 = .ok (.ifCond .ne 6, 3) := by decide +kernel
theorem dX7_turned_17 : decode cX7_turned 17 = .ok (.bipush (-101), 2) := by decide +kernel
theorem dX7_turned_19 : decode cX7_turned 19 = .ok (.ireturn, 1) := by decide +kernel
theorem dX7_turned_20 : decode cX7_turned 20 = .ok (.aload_n 2, 1) := by decide +kernel
theorem dX7_turned_21 : decode cX7_turned 21 = .ok (.aload_n 2, 1) := by decide +kernel
theorem dX7_turned_22 : decode cX7_turned 22 = .ok (.iload_n 1, 1) := by decide +kernel
theorem dX7_turned_23 : decode cX7_turned 23 = .ok (.invokevirtual 166, 3) := by decide +kernel
theorem dX7_turned_26 : decode cX7_turned 26 = .ok (.invokevirtual 169, 3) := by decide +kernel
theorem dX7_turned_29 : decode cX7_turned 29 = .ok (.ireturn, 1) := by decide +kernel
theorem dX7_heaviest_0 : decode cX7_heaviest 0 = .ok (.iload_n 1, 1) := by decide +kernel
theorem dX7_heaviest_1 : decode cX7_heaviest 1 = .ok (.invokestatic 148, 3) := by decide +kernel
theorem dX7_heaviest_4 : decode cX7_heaviest 4 = .ok (.ifCond .ne 6, 3) := by decide +kernel
theorem dX7_heaviest_7 : decode cX7_heaviest 7 = .ok (.bipush (-102), 2) := by decide +kernel
theorem dX7_heaviest_9 : decode cX7_heaviest 9 = .ok (.ireturn, 1) := by decide +kernel
theorem dX7_heaviest_10 : decode cX7_heaviest 10 = .ok (.aload_n 0, 1) := by decide +kernel
theorem dX7_heaviest_11 : decode cX7_heaviest 11 = .ok (.getfield 43, 3) := by decide +kernel
theorem dX7_heaviest_14 : decode cX7_heaviest 14 = .ok (.ifCond .ne 39, 3) := by decide +kernel
theorem dX7_heaviest_17 : decode cX7_heaviest 17 = .ok (.iconst 0, 1) := by decide +kernel
theorem dX7_heaviest_18 : decode cX7_heaviest 18 = .ok (.istore_n 2, 1) := by decide +kernel
theorem dX7_heaviest_19 : decode cX7_heaviest 19 = .ok (.iload_n 2, 1) := by decide +kernel
theorem dX7_heaviest_20 : decode cX7_heaviest 20 = .ok (.iconst 3, 1) := by decide +kernel
theorem dX7_heaviest_21 : decode cX7_heaviest 21 = .ok (.if_icmp .ge 27, 3) := by decide +kernel
theorem dX7_heaviest_24 : decode cX7_heaviest 24 = .ok (.aload_n 0, 1) := by decide +kernel
theorem dX7_heaviest_25 : decode cX7_heaviest 25 = .ok (.getfield 39, 3) := by decide +kernel
theorem dX7_heaviest_28 : decode cX7_heaviest 28 = .ok (.iload_n 2, 1) := by decide +kernel
theorem dX7_heaviest_29 : decode cX7_heaviest 29 = .ok (.aload_n 0, 1) := by decide +kernel
theorem dX7_heaviest_30 : decode cX7_heaviest 30 = .ok (.aload_n 0, 1) := by decide +kernel
theorem dX7_heaviest_31 : decode cX7_heaviest 31 = .ok (.getfield 28, 3) := by decide +kernel
theorem dX7_heaviest_34 : decode cX7_heaviest 34 = .ok (.iload_n 2, 1) := by decide +kernel
theorem dX7_heaviest_35 : decode cX7_heaviest 35 = .ok (.invokevirtual 151, 3) := by decide +kernel
theorem dX7_heaviest_38 : decode cX7_heaviest 38 = .ok (.invokevirtual 172, 3) := by decide +kernel
theorem dX7_heaviest_41 : decode cX7_heaviest 41 = .ok (.iastore, 1) := by decide +kernel
theorem dX7_heaviest_42 : decode cX7_heaviest 42 = .ok (.iinc 2 1, 3) := by decide +kernel
theorem dX7_heaviest_45 : decode cX7_heaviest 45 = .ok (.goto (-26), 3) := by decide +kernel
theorem dX7_heaviest_48 : decode cX7_heaviest 48 = .ok (.aload_n 0, 1) := by decide +kernel
theorem dX7_heaviest_49 : decode cX7_heaviest 49 = .ok (.iconst 1, 1) := by decide +kernel
theorem dX7_heaviest_50 : decode cX7_heaviest 50 = .ok (.putfield 43, 3) := by decide +kernel
theorem dX7_heaviest_53 : decode cX7_heaviest 53 = .ok (.aload_n 0, 1) := by decide +kernel
theorem dX7_heaviest_54 : decode cX7_heaviest 54 = .ok (.getfield 39, 3) := by decide +kernel
theorem dX7_heaviest_57 : decode cX7_heaviest 57 = .ok (.iload_n 1, 1) := by decide +kernel
theorem dX7_heaviest_58 : decode cX7_heaviest 58 = .ok (.iaload, 1) := by decide +kernel
theorem dX7_heaviest_59 : decode cX7_heaviest 59 = .ok (.ireturn, 1) := by decide +kernel
theorem dX7_heavy_0 : decode cX7_heavy 0 = .ok (.aload_n 0, 1) := by decide +kernel
theorem dX7_heavy_1 : decode cX7_heavy 1 = .ok (.getfield 28, 3) := by decide +kernel
theorem dX7_heavy_4 : decode cX7_heavy 4 = .ok (.iconst 0, 1) := by decide +kernel
theorem dX7_heavy_5 : decode cX7_heavy 5 = .ok (.invokevirtual 151, 3) := by decide +kernel
theorem dX7_heavy_8 : decode cX7_heavy 8 = .ok (.astore_n 2, 1) := by decide +kernel
theorem dX7_heavy_9 : decode cX7_heavy 9 = .ok (.aload_n 2, 1) := by decide +kernel
theorem dX7_heavy_10 : decode cX7_heavy 10 = .ok (.iload_n 1, 1) := by decide +kernel
theorem dX7_heavy_11 : decode cX7_heavy 11 = .ok (.invokevirtual 158, 3) := by decide +kernel
theorem dX7_heavy_14 : decode cX7_heavy 14 = .ok (.ifCond .ne 6, 3) := by decide +kernel
theorem dX7_heavy_17 : decode cX7_heavy 17 = .ok (.bipush (-101), 2) := by decide +kernel
theorem dX7_heavy_19 : decode cX7_heavy 19 = .ok (.ireturn, 1) := by decide +kernel
theorem dX7_heavy_20 : decode cX7_heavy 20 = .ok (.aload_n 0, 1) := by decide +kernel
theorem dX7_heavy_21 : decode cX7_heavy 21 = .ok (.aload_n 2, 1) := by decide +kernel
theorem dX7_heavy_22 : decode cX7_heavy 22 = .ok (.iload_n 1, 1) := by decide +kernel
theorem dX7_heavy_23 : decode cX7_heavy 23 = .ok (.invokevirtual 176, 3) := by decide +kernel
theorem dX7_heavy_26 : decode cX7_heavy 26 = .ok (.ireturn, 1) := by decide +kernel
theorem dX7_put_0 : decode cX7_put 0 = .ok (.aload_n 0, 1) := by decide +kernel
theorem dX7_put_1 : decode cX7_put 1 = .ok (.getfield 19, 3) := by decide +kernel
theorem dX7_put_4 : decode cX7_put 4 = .ok (.iload_n 1, 1) := by decide +kernel
theorem dX7_put_5 : decode cX7_put 5 = .ok (.invokevirtual 136, 3) := by decide +kernel
theorem dX7_put_8 : decode cX7_put 8 = .ok (.ifCond .eq 14, 3) := by decide +kernel
theorem dX7_put_11 : decode cX7_put 11 = .ok (.aload_n 0, 1) := by decide +kernel
theorem dX7_put_12 : decode cX7_put 12 = .ok (.getfield 19, 3) := by decide +kernel
theorem dX7_put_15 : decode cX7_put 15 = .ok (.iload_n 2, 1) := by decide +kernel
theorem dX7_put_16 : decode cX7_put 16 = .ok (.invokevirtual 97, 3) := by decide +kernel
theorem dX7_put_19 : decode cX7_put 19 = .ok (.ifCond .ne 6, 3) := by decide +kernel
theorem dX7_put_22 : decode cX7_put 22 = .ok (.bipush (-101), 2) := by decide +kernel
theorem dX7_put_24 : decode cX7_put 24 = .ok (.ireturn, 1) := by decide +kernel
theorem dX7_put_25 : decode cX7_put 25 = .ok (.aload_n 0, 1) := by decide +kernel
theorem dX7_put_26 : decode cX7_put 26 = .ok (.getfield 35, 3) := by decide +kernel
theorem dX7_put_29 : decode cX7_put 29 = .ok (.iload_n 1, 1) := by decide +kernel
theorem dX7_put_30 : decode cX7_put 30 = .ok (.invokevirtual 180, 3) := by decide +kernel
theorem dX7_put_33 : decode cX7_put 33 = .ok (.istore_n 3, 1) := by decide +kernel
theorem dX7_put_34 : decode cX7_put 34 = .ok (.aload_n 0, 1) := by decide +kernel
theorem dX7_put_35 : decode cX7_put 35 = .ok (.getfield 35, 3) := by decide +kernel
theorem dX7_put_38 : decode cX7_put 38 = .ok (.iload_n 1, 1) := by decide +kernel
theorem dX7_put_39 : decode cX7_put 39 = .ok (.iload_n 2, 1) := by decide +kernel
theorem dX7_put_40 : decode cX7_put 40 = .ok (.invokevirtual 183, 3) := by decide +kernel
theorem dX7_put_43 : decode cX7_put 43 = .ok (.aload_n 0, 1) := by decide +kernel
theorem dX7_put_44 : decode cX7_put 44 = .ok (.iconst 0, 1) := by decide +kernel
theorem dX7_put_45 : decode cX7_put 45 = .ok (.putfield 47, 3) := by decide +kernel
theorem dX7_put_48 : decode cX7_put 48 = .ok (.iload_n 3, 1) := by decide +kernel
theorem dX7_put_49 : decode cX7_put 49 = .ok (.ireturn, 1) := by decide +kernel
theorem dX7_lift_0 : decode cX7_lift 0 = .ok (.aload_n 0, 1) := by decide +kernel
theorem dX7_lift_1 : decode cX7_lift 1 = .ok (.getfield 19, 3) := by decide +kernel
theorem dX7_lift_4 : decode cX7_lift 4 = .ok (.iload_n 1, 1) := by decide +kernel
theorem dX7_lift_5 : decode cX7_lift 5 = .ok (.invokevirtual 136, 3) := by decide +kernel
theorem dX7_lift_8 : decode cX7_lift 8 = .ok (.ifCond .ne 6, 3) := by decide +kernel
theorem dX7_lift_11 : decode cX7_lift 11 = .ok (.bipush (-101), 2) := by decide +kernel
theorem dX7_lift_13 : decode cX7_lift 13 = .ok (.ireturn, 1) := by decide +kernel
theorem dX7_lift_14 : decode cX7_lift 14 = .ok (.aload_n 0, 1) := by decide +kernel
theorem dX7_lift_15 : decode cX7_lift 15 = .ok (.getfield 35, 3) := by decide +kernel
theorem dX7_lift_18 : decode cX7_lift 18 = .ok (.iload_n 1, 1) := by decide +kernel
theorem dX7_lift_19 : decode cX7_lift 19 = .ok (.invokevirtual 180, 3) := by decide +kernel
theorem dX7_lift_22 : decode cX7_lift 22 = .ok (.istore_n 2, 1) := by decide +kernel
theorem dX7_lift_23 : decode cX7_lift 23 = .ok (.iload_n 2, 1) := by decide +kernel
theorem dX7_lift_24 : decode cX7_lift 24 = .ok (.iconst (-1), 1) := by decide +kernel
theorem dX7_lift_25 : decode cX7_lift 25 = .ok (.if_icmp .ne 6, 3) := by decide +kernel
theorem dX7_lift_28 : decode cX7_lift 28 = .ok (.bipush (-103), 2) := by decide +kernel
theorem dX7_lift_30 : decode cX7_lift 30 = .ok (.ireturn, 1) := by decide +kernel
theorem dX7_lift_31 : decode cX7_lift 31 = .ok (.aload_n 0, 1) := by decide +kernel
theorem dX7_lift_32 : decode cX7_lift 32 = .ok (.getfield 35, 3) := by decide +kernel
theorem dX7_lift_35 : decode cX7_lift 35 = .ok (.iload_n 1, 1) := by decide +kernel
theorem dX7_lift_36 : decode cX7_lift 36 = .ok (.iconst (-1), 1) := by decide +kernel
theorem dX7_lift_37 : decode cX7_lift 37 = .ok (.invokevirtual 183, 3) := by decide +kernel
theorem dX7_lift_40 : decode cX7_lift 40 = .ok (.aload_n 0, 1) := by decide +kernel
theorem dX7_lift_41 : decode cX7_lift 41 = .ok (.iconst 0, 1) := by decide +kernel
theorem dX7_lift_42 : decode cX7_lift 42 = .ok (.putfield 47, 3) := by decide +kernel
theorem dX7_lift_45 : decode cX7_lift 45 = .ok (.iload_n 2, 1) := by decide +kernel
theorem dX7_lift_46 : decode cX7_lift 46 = .ok (.ireturn, 1) := by decide +kernel
theorem dX7_board_0 : decode cX7_board 0 = .ok (.aload_n 0, 1) := by decide +kernel
theorem dX7_board_1 : decode cX7_board 1 = .ok (.getfield 19, 3) := by decide +kernel
theorem dX7_board_4 : decode cX7_board 4 = .ok (.iload_n 1, 1) := by decide +kernel
theorem dX7_board_5 : decode cX7_board 5 = .ok (.invokevirtual 136, 3) := by decide +kernel
theorem dX7_board_8 : decode cX7_board 8 = .ok (.ifCond .ne 6, 3) := by decide +kernel
theorem dX7_board_11 : decode cX7_board 11 = .ok (.bipush (-101), 2) := by decide +kernel
theorem dX7_board_13 : decode cX7_board 13 = .ok (.ireturn, 1) := by decide +kernel
theorem dX7_board_14 : decode cX7_board 14 = .ok (.aload_n 0, 1) := by decide +kernel
theorem dX7_board_15 : decode cX7_board 15 = .ok (.getfield 35, 3) := by decide +kernel
theorem dX7_board_18 : decode cX7_board 18 = .ok (.iload_n 1, 1) := by decide +kernel
theorem dX7_board_19 : decode cX7_board 19 = .ok (.invokevirtual 180, 3) := by decide +kernel
theorem dX7_board_22 : decode cX7_board 22 = .ok (.ireturn, 1) := by decide +kernel
theorem dX7_fitting_0 : decode cX7_fitting 0 = .ok (.aload_n 0, 1) := by decide +kernel
theorem dX7_fitting_1 : decode cX7_fitting 1 = .ok (.invokevirtual 186, 3) := by decide +kernel
theorem dX7_fitting_4 : decode cX7_fitting 4 = .ok (.invokevirtual 190, 3) := by decide +kernel
theorem dX7_fitting_7 : decode cX7_fitting 7 = .ok (.ireturn, 1) := by decide +kernel
theorem dX7_may_0 : decode cX7_may 0 = .ok (.aload_n 0, 1) := by decide +kernel
theorem dX7_may_1 : decode cX7_may 1 = .ok (.getfield 19, 3) := by decide +kernel
theorem dX7_may_4 : decode cX7_may 4 = .ok (.iload_n 1, 1) := by decide +kernel
theorem dX7_may_5 : decode cX7_may 5 = .ok (.invokevirtual 136, 3) := by decide +kernel
theorem dX7_may_8 : decode cX7_may 8 = .ok (.ifCond .ne 6, 3) := by decide +kernel
theorem dX7_may_11 : decode cX7_may 11 = .ok (.bipush (-101), 2) := by decide +kernel
theorem dX7_may_13 : decode cX7_may 13 = .ok (.ireturn, 1) := by decide +kernel
theorem dX7_may_14 : decode cX7_may 14 = .ok (.aload_n 0, 1) := by decide +kernel
theorem dX7_may_15 : decode cX7_may 15 = .ok (.invokevirtual 186, 3) := by decide +kernel
theorem dX7_may_18 : decode cX7_may 18 = .ok (.iload_n 1, 1) := by decide +kernel
theorem dX7_may_19 : decode cX7_may 19 = .ok (.invokevirtual 193, 3) := by decide +kernel
theorem dX7_may_22 : decode cX7_may 22 = .ok (.ireturn, 1) := by decide +kernel
theorem dX7_sure_0 : decode cX7_sure 0 = .ok (.aload_n 0, 1) := by decide +kernel
theorem dX7_sure_1 : decode cX7_sure 1 = .ok (.getfield 19, 3) := by decide +kernel
theorem dX7_sure_4 : decode cX7_sure 4 = .ok (.iload_n 1, 1) := by decide +kernel
theorem dX7_sure_5 : decode cX7_sure 5 = .ok (.invokevirtual 136, 3) := by decide +kernel
theorem dX7_sure_8 : decode cX7_sure 8 = .ok (.ifCond .eq 14, 3) := by decide +kernel
theorem dX7_sure_11 : decode cX7_sure 11 = .ok (.aload_n 0, 1) := by decide +kernel
theorem dX7_sure_12 : decode cX7_sure 12 = .ok (.getfield 19, 3) := by decide +kernel
theorem dX7_sure_15 : decode cX7_sure 15 = .ok (.iload_n 2, 1) := by decide +kernel
theorem dX7_sure_16 : decode cX7_sure 16 = .ok (.invokevirtual 136, 3) := by decide +kernel
theorem dX7_sure_19 : decode cX7_sure 19 = .ok (.ifCond .ne 6, 3) := by decide +kernel
theorem dX7_sure_22 : decode cX7_sure 22 = .ok (.bipush (-101), 2) := by decide +kernel
theorem dX7_sure_24 : decode cX7_sure 24 = .ok (.ireturn, 1) := by decide +kernel
theorem dX7_sure_25 : decode cX7_sure 25 = .ok (.aload_n 0, 1) := by decide +kernel
theorem dX7_sure_26 : decode cX7_sure 26 = .ok (.invokevirtual 186, 3) := by decide +kernel
theorem dX7_sure_29 : decode cX7_sure 29 = .ok (.invokevirtual 190, 3) := by decide +kernel
theorem dX7_sure_32 : decode cX7_sure 32 = .ok (.ifCond .ne 6, 3) := by decide +kernel
theorem dX7_sure_35 : decode cX7_sure 35 = .ok (.bipush (-103), 2) := by decide +kernel
theorem dX7_sure_37 : decode cX7_sure 37 = .ok (.ireturn, 1) := by decide +kernel
theorem dX7_sure_38 : decode cX7_sure 38 = .ok (.aload_n 0, 1) := by decide +kernel
theorem dX7_sure_39 : decode cX7_sure 39 = .ok (.getfield 19, 3) := by decide +kernel
theorem dX7_sure_42 : decode cX7_sure 42 = .ok (.aload_n 0, 1) := by decide +kernel
theorem dX7_sure_43 : decode cX7_sure 43 = .ok (.invokevirtual 186, 3) := by decide +kernel
theorem dX7_sure_46 : decode cX7_sure 46 = .ok (.iload_n 1, 1) := by decide +kernel
theorem dX7_sure_47 : decode cX7_sure 47 = .ok (.invokevirtual 193, 3) := by decide +kernel
theorem dX7_sure_50 : decode cX7_sure 50 = .ok (.iload_n 2, 1) := by decide +kernel
theorem dX7_sure_51 : decode cX7_sure 51 = .ok (.invokevirtual 196, 3) := by decide +kernel
theorem dX7_sure_54 : decode cX7_sure 54 = .ok (.istore_n 3, 1) := by decide +kernel
theorem dX7_sure_55 : decode cX7_sure 55 = .ok (.iload_n 3, 1) := by decide +kernel
theorem dX7_sure_56 : decode cX7_sure 56 = .ok (.iconst (-1), 1) := by decide +kernel
theorem dX7_sure_57 : decode cX7_sure 57 = .ok (.if_icmp .ne 7, 3) := by decide +kernel
theorem dX7_sure_60 : decode cX7_sure 60 = .ok (.iconst (-1), 1) := by decide +kernel
theorem dX7_sure_61 : decode cX7_sure 61 = .ok (.goto 7, 3) := by decide +kernel
theorem dX7_sure_64 : decode cX7_sure 64 = .ok (.bipush 97, 2) := by decide +kernel
theorem dX7_sure_66 : decode cX7_sure 66 = .ok (.iload_n 3, 1) := by decide +kernel
theorem dX7_sure_67 : decode cX7_sure 67 = .ok (.iadd, 1) := by decide +kernel
theorem dX7_sure_68 : decode cX7_sure 68 = .ok (.ireturn, 1) := by decide +kernel
theorem dX7_search_0 : decode cX7_search 0 = .ok (.iload_n 1, 1) := by decide +kernel
theorem dX7_search_1 : decode cX7_search 1 = .ok (.ifCond .lt 8, 3) := by decide +kernel
theorem dX7_search_4 : decode cX7_search 4 = .ok (.iload_n 1, 1) := by decide +kernel
theorem dX7_search_5 : decode cX7_search 5 = .ok (.iconst 4, 1) := by decide +kernel
theorem dX7_search_6 : decode cX7_search 6 = .ok (.if_icmp .le 6, 3) := by decide +kernel
theorem dX7_search_9 : decode cX7_search 9 = .ok (.bipush (-102), 2) := by decide +kernel
theorem dX7_search_11 : decode cX7_search 11 = .ok (.ireturn, 1) := by decide +kernel
theorem dX7_search_12 : decode cX7_search 12 = .ok (.aload_n 0, 1) := by decide +kernel
theorem dX7_search_13 : decode cX7_search 13 = .ok (.getfield 19, 3) := by decide +kernel
theorem dX7_search_16 : decode cX7_search 16 = .ok (.invokevirtual 89, 3) := by decide +kernel
theorem dX7_search_19 : decode cX7_search 19 = .ok (.ifCond .ne 6, 3) := by decide +kernel
theorem dX7_search_22 : decode cX7_search 22 = .ok (.bipush (-103), 2) := by decide +kernel
theorem dX7_search_24 : decode cX7_search 24 = .ok (.ireturn, 1) := by decide +kernel
theorem dX7_search_25 : decode cX7_search 25 = .ok (.iload_n 1, 1) := by decide +kernel
theorem dX7_search_26 : decode cX7_search 26 = .ok (.tableswitch 62 0 3 #[30, 38, 46, 54], 30) := by decide +kernel
theorem dX7_search_56 : decode cX7_search 56 = .ok (.aload_n 0, 1) := by decide +kernel
theorem dX7_search_57 : decode cX7_search 57 = .ok (.getfield 28, 3) := by decide +kernel
theorem dX7_search_60 : decode cX7_search 60 = .ok (.invokevirtual 199, 3) := by decide +kernel
theorem dX7_search_63 : decode cX7_search 63 = .ok (.ireturn, 1) := by decide +kernel
theorem dX7_search_64 : decode cX7_search 64 = .ok (.aload_n 0, 1) := by decide +kernel
theorem dX7_search_65 : decode cX7_search 65 = .ok (.getfield 28, 3) := by decide +kernel
theorem dX7_search_68 : decode cX7_search 68 = .ok (.invokevirtual 202, 3) := by decide +kernel
theorem dX7_search_71 : decode cX7_search 71 = .ok (.ireturn, 1) := by decide +kernel
theorem dX7_search_72 : decode cX7_search 72 = .ok (.aload_n 0, 1) := by decide +kernel
theorem dX7_search_73 : decode cX7_search 73 = .ok (.getfield 28, 3) := by decide +kernel
theorem dX7_search_76 : decode cX7_search 76 = .ok (.invokevirtual 205, 3) := by decide +kernel
theorem dX7_search_79 : decode cX7_search 79 = .ok (.ireturn, 1) := by decide +kernel
theorem dX7_search_80 : decode cX7_search 80 = .ok (.aload_n 0, 1) := by decide +kernel
theorem dX7_search_81 : decode cX7_search 81 = .ok (.getfield 28, 3) := by decide +kernel
theorem dX7_search_84 : decode cX7_search 84 = .ok (.invokevirtual 208, 3) := by decide +kernel
theorem dX7_search_87 : decode cX7_search 87 = .ok (.ireturn, 1) := by decide +kernel
theorem dX7_search_88 : decode cX7_search 88 = .ok (.aload_n 0, 1) := by decide +kernel
theorem dX7_search_89 : decode cX7_search 89 = .ok (.getfield 28, 3) := by decide +kernel
theorem dX7_search_92 : decode cX7_search 92 = .ok (.invokevirtual 211, 3) := by decide +kernel
theorem dX7_search_95 : decode cX7_search 95 = .ok (.ireturn, 1) := by decide +kernel
theorem dX7_count_0 : decode cX7_count 0 = .ok (.iload_n 1, 1) := by decide +kernel
theorem dX7_count_1 : decode cX7_count 1 = .ok (.tableswitch 69 0 4 #[35, 43, 51, 59, 64], 35) := by decide +kernel
theorem dX7_count_36 : decode cX7_count 36 = .ok (.aload_n 0, 1) := by decide +kernel
theorem dX7_count_37 : decode cX7_count 37 = .ok (.getfield 19, 3) := by decide +kernel
theorem dX7_count_40 : decode cX7_count 40 = .ok (.invokevirtual 89, 3) := by decide +kernel
theorem dX7_count_43 : decode cX7_count 43 = .ok (.ireturn, 1) := by decide +kernel
theorem dX7_count_44 : decode cX7_count 44 = .ok (.aload_n 0, 1) := by decide +kernel
theorem dX7_count_45 : decode cX7_count 45 = .ok (.getfield 10, 3) := by decide +kernel
theorem dX7_count_48 : decode cX7_count 48 = .ok (.invokevirtual 57, 3) := by decide +kernel
theorem dX7_count_51 : decode cX7_count 51 = .ok (.ireturn, 1) := by decide +kernel
theorem dX7_count_52 : decode cX7_count 52 = .ok (.aload_n 0, 1) := by decide +kernel
theorem dX7_count_53 : decode cX7_count 53 = .ok (.getfield 35, 3) := by decide +kernel
theorem dX7_count_56 : decode cX7_count 56 = .ok (.invokevirtual 214, 3) := by decide +kernel
theorem dX7_count_59 : decode cX7_count 59 = .ok (.ireturn, 1) := by decide +kernel
theorem dX7_count_60 : decode cX7_count 60 = .ok (.aload_n 0, 1) := by decide +kernel
theorem dX7_count_61 : decode cX7_count 61 = .ok (.getfield 50, 3) := by decide +kernel
theorem dX7_count_64 : decode cX7_count 64 = .ok (.ireturn, 1) := by decide +kernel
theorem dX7_count_65 : decode cX7_count 65 = .ok (.aload_n 0, 1) := by decide +kernel
theorem dX7_count_66 : decode cX7_count 66 = .ok (.getfield 54, 3) := by decide +kernel
theorem dX7_count_69 : decode cX7_count 69 = .ok (.ireturn, 1) := by decide +kernel
theorem dX7_count_70 : decode cX7_count 70 = .ok (.bipush (-102), 2) := by decide +kernel
theorem dX7_count_72 : decode cX7_count 72 = .ok (.ireturn, 1) := by decide +kernel
theorem dX7_digest_0 : decode cX7_digest 0 = .ok (.ldc2_w 217, 3) := by decide +kernel
theorem dX7_digest_3 : decode cX7_digest 3 = .ok (.lstore_n 1, 1) := by decide +kernel
theorem dX7_digest_4 : decode cX7_digest 4 = .ok (.iconst 0, 1) := by decide +kernel
theorem dX7_digest_5 : decode cX7_digest 5 = .ok (.istore_n 3, 1) := by decide +kernel
theorem dX7_digest_6 : decode cX7_digest 6 = .ok (.iload_n 3, 1) := by decide +kernel
theorem dX7_digest_7 : decode cX7_digest 7 = .ok (.iconst 5, 1) := by decide +kernel
theorem dX7_digest_8 : decode cX7_digest 8 = .ok (.if_icmp .gt 19, 3) := by decide +kernel
theorem dX7_digest_11 : decode cX7_digest 11 = .ok (.lload_n 1, 1) := by decide +kernel
theorem dX7_digest_12 : decode cX7_digest 12 = .ok (.aload_n 0, 1) := by decide +kernel
theorem dX7_digest_13 : decode cX7_digest 13 = .ok (.iload_n 3, 1) := by decide +kernel
theorem dX7_digest_14 : decode cX7_digest 14 = .ok (.invokevirtual 219, 3) := by decide +kernel
theorem dX7_digest_17 : decode cX7_digest 17 = .ok (.invokestatic 222, 3) := by decide +kernel
theorem dX7_digest_20 : decode cX7_digest 20 = .ok (.lstore_n 1, 1) := by decide +kernel
theorem dX7_digest_21 : decode cX7_digest 21 = .ok (.iinc 3 1, 3) := by decide +kernel
theorem dX7_digest_24 : decode cX7_digest 24 = .ok (.goto (-18), 3) := by decide +kernel
theorem dX7_digest_27 : decode cX7_digest 27 = .ok (.aload_n 0, 1) := by decide +kernel
theorem dX7_digest_28 : decode cX7_digest 28 = .ok (.lload_n 1, 1) := by decide +kernel
theorem dX7_digest_29 : decode cX7_digest 29 = .ok (.invokevirtual 226, 3) := by decide +kernel
theorem dX7_digest_32 : decode cX7_digest 32 = .ok (.lstore_n 1, 1) := by decide +kernel
theorem dX7_digest_33 : decode cX7_digest 33 = .ok (.aload_n 0, 1) := by decide +kernel
theorem dX7_digest_34 : decode cX7_digest 34 = .ok (.lload_n 1, 1) := by decide +kernel
theorem dX7_digest_35 : decode cX7_digest 35 = .ok (.invokevirtual 230, 3) := by decide +kernel
theorem dX7_digest_38 : decode cX7_digest 38 = .ok (.lstore_n 1, 1) := by decide +kernel
theorem dX7_digest_39 : decode cX7_digest 39 = .ok (.aload_n 0, 1) := by decide +kernel
theorem dX7_digest_40 : decode cX7_digest 40 = .ok (.lload_n 1, 1) := by decide +kernel
theorem dX7_digest_41 : decode cX7_digest 41 = .ok (.invokevirtual 233, 3) := by decide +kernel
theorem dX7_digest_44 : decode cX7_digest 44 = .ok (.lstore_n 1, 1) := by decide +kernel
theorem dX7_digest_45 : decode cX7_digest 45 = .ok (.iconst 0, 1) := by decide +kernel
theorem dX7_digest_46 : decode cX7_digest 46 = .ok (.istore_n 3, 1) := by decide +kernel
theorem dX7_digest_47 : decode cX7_digest 47 = .ok (.iload_n 3, 1) := by decide +kernel
theorem dX7_digest_48 : decode cX7_digest 48 = .ok (.iconst 4, 1) := by decide +kernel
theorem dX7_digest_49 : decode cX7_digest 49 = .ok (.if_icmp .gt 29, 3) := by decide +kernel
theorem dX7_digest_52 : decode cX7_digest 52 = .ok (.aload_n 0, 1) := by decide +kernel
theorem dX7_digest_53 : decode cX7_digest 53 = .ok (.getfield 19, 3) := by decide +kernel
theorem dX7_digest_56 : decode cX7_digest 56 = .ok (.invokevirtual 89, 3) := by decide +kernel
theorem dX7_digest_59 : decode cX7_digest 59 = .ok (.ifCond .le 19, 3) := by decide +kernel
theorem dX7_digest_62 : decode cX7_digest 62 = .ok (.lload_n 1, 1) := by decide +kernel
theorem dX7_digest_63 : decode cX7_digest 63 = .ok (.aload_n 0, 1) := by decide +kernel
theorem dX7_digest_64 : decode cX7_digest 64 = .ok (.iload_n 3, 1) := by decide +kernel
theorem dX7_digest_65 : decode cX7_digest 65 = .ok (.invokevirtual 236, 3) := by decide +kernel
theorem dX7_digest_68 : decode cX7_digest 68 = .ok (.invokestatic 222, 3) := by decide +kernel
theorem dX7_digest_71 : decode cX7_digest 71 = .ok (.lstore_n 1, 1) := by decide +kernel
theorem dX7_digest_72 : decode cX7_digest 72 = .ok (.iinc 3 1, 3) := by decide +kernel
theorem dX7_digest_75 : decode cX7_digest 75 = .ok (.goto (-28), 3) := by decide +kernel
theorem dX7_digest_78 : decode cX7_digest 78 = .ok (.iconst 0, 1) := by decide +kernel
theorem dX7_digest_79 : decode cX7_digest 79 = .ok (.istore_n 3, 1) := by decide +kernel
theorem dX7_digest_80 : decode cX7_digest 80 = .ok (.iload_n 3, 1) := by decide +kernel
theorem dX7_digest_81 : decode cX7_digest 81 = .ok (.aload_n 0, 1) := by decide +kernel
theorem dX7_digest_82 : decode cX7_digest 82 = .ok (.getfield 10, 3) := by decide +kernel
theorem dX7_digest_85 : decode cX7_digest 85 = .ok (.invokevirtual 57, 3) := by decide +kernel
theorem dX7_digest_88 : decode cX7_digest 88 = .ok (.if_icmp .ge 22, 3) := by decide +kernel
theorem dX7_digest_91 : decode cX7_digest 91 = .ok (.lload_n 1, 1) := by decide +kernel
theorem dX7_digest_92 : decode cX7_digest 92 = .ok (.aload_n 0, 1) := by decide +kernel
theorem dX7_digest_93 : decode cX7_digest 93 = .ok (.getfield 10, 3) := by decide +kernel
theorem dX7_digest_96 : decode cX7_digest 96 = .ok (.iload_n 3, 1) := by decide +kernel
theorem dX7_digest_97 : decode cX7_digest 97 = .ok (.invokevirtual 239, 3) := by decide +kernel
theorem dX7_digest_100 : decode cX7_digest 100 = .ok (.invokestatic 222, 3) := by decide +kernel
theorem dX7_digest_103 : decode cX7_digest 103 = .ok (.lstore_n 1, 1) := by decide +kernel
theorem dX7_digest_104 : decode cX7_digest 104 = .ok (.iinc 3 1, 3) := by decide +kernel
theorem dX7_digest_107 : decode cX7_digest 107 = .ok (.goto (-27), 3) := by decide +kernel
theorem dX7_digest_110 : decode cX7_digest 110 = .ok (.iconst 0, 1) := by decide +kernel
theorem dX7_digest_111 : decode cX7_digest 111 = .ok (.istore_n 3, 1) := by decide +kernel
theorem dX7_digest_112 : decode cX7_digest 112 = .ok (.iload_n 3, 1) := by decide +kernel
theorem dX7_digest_113 : decode cX7_digest 113 = .ok (.iconst 4, 1) := by decide +kernel
theorem dX7_digest_114 : decode cX7_digest 114 = .ok (.if_icmp .gt 19, 3) := by decide +kernel
theorem dX7_digest_117 : decode cX7_digest 117 = .ok (.lload_n 1, 1) := by decide +kernel
theorem dX7_digest_118 : decode cX7_digest 118 = .ok (.aload_n 0, 1) := by decide +kernel
theorem dX7_digest_119 : decode cX7_digest 119 = .ok (.iload_n 3, 1) := by decide +kernel
theorem dX7_digest_120 : decode cX7_digest 120 = .ok (.invokevirtual 242, 3) := by decide +kernel
theorem dX7_digest_123 : decode cX7_digest 123 = .ok (.invokestatic 222, 3) := by decide +kernel
theorem dX7_digest_126 : decode cX7_digest 126 = .ok (.lstore_n 1, 1) := by decide +kernel
theorem dX7_digest_127 : decode cX7_digest 127 = .ok (.iinc 3 1, 3) := by decide +kernel
theorem dX7_digest_130 : decode cX7_digest 130 = .ok (.goto (-18), 3) := by decide +kernel
theorem dX7_digest_133 : decode cX7_digest 133 = .ok (.lload_n 1, 1) := by decide +kernel
theorem dX7_digest_134 : decode cX7_digest 134 = .ok (.lreturn, 1) := by decide +kernel
theorem dX7_mixWords_0 : decode cX7_mixWords 0 = .ok (.lload_n 1, 1) := by decide +kernel
theorem dX7_mixWords_1 : decode cX7_mixWords 1 = .ok (.lstore_n 3, 1) := by decide +kernel
theorem dX7_mixWords_2 : decode cX7_mixWords 2 = .ok (.iconst 0, 1) := by decide +kernel
theorem dX7_mixWords_3 : decode cX7_mixWords 3 = .ok (.istore 5, 2) := by decide +kernel
theorem dX7_mixWords_5 : decode cX7_mixWords 5 = .ok (.iload 5, 2) := by decide +kernel
theorem dX7_mixWords_7 : decode cX7_mixWords 7 = .ok (.aload_n 0, 1) := by decide +kernel
theorem dX7_mixWords_8 : decode cX7_mixWords 8 = .ok (.getfield 19, 3) := by decide +kernel
theorem dX7_mixWords_11 : decode cX7_mixWords 11 = .ok (.invokevirtual 89, 3) := by decide +kernel
theorem dX7_mixWords_14 : decode cX7_mixWords 14 = .ok (.if_icmp .ge 71, 3) := by decide +kernel
theorem dX7_mixWords_17 : decode cX7_mixWords 17 = .ok (.iconst 0, 1) := by decide +kernel
theorem dX7_mixWords_18 : decode cX7_mixWords 18 = .ok (.istore 6, 2) := by decide +kernel
theorem dX7_mixWords_20 : decode cX7_mixWords 20 = .ok (.iload 6, 2) := by decide +kernel
theorem dX7_mixWords_22 : decode cX7_mixWords 22 = .ok (.aload_n 0, 1) := by decide +kernel
theorem dX7_mixWords_23 : decode cX7_mixWords 23 = .ok (.getfield 19, 3) := by decide +kernel
theorem dX7_mixWords_26 : decode cX7_mixWords 26 = .ok (.invokevirtual 109, 3) := by decide +kernel
theorem dX7_mixWords_29 : decode cX7_mixWords 29 = .ok (.if_icmp .ge 22, 3) := by decide +kernel
theorem dX7_mixWords_32 : decode cX7_mixWords 32 = .ok (.lload_n 3, 1) := by decide +kernel
theorem dX7_mixWords_33 : decode cX7_mixWords 33 = .ok (.aload_n 0, 1) := by decide +kernel
theorem dX7_mixWords_34 : decode cX7_mixWords 34 = .ok (.iload 5, 2) := by decide +kernel
theorem dX7_mixWords_36 : decode cX7_mixWords 36 = .ok (.iload 6, 2) := by decide +kernel
theorem dX7_mixWords_38 : decode cX7_mixWords 38 = .ok (.invokevirtual 245, 3) := by decide +kernel
theorem dX7_mixWords_41 : decode cX7_mixWords 41 = .ok (.invokestatic 222, 3) := by decide +kernel
theorem dX7_mixWords_44 : decode cX7_mixWords 44 = .ok (.lstore_n 3, 1) := by decide +kernel
theorem dX7_mixWords_45 : decode cX7_mixWords 45 = .ok (.iinc 6 1, 3) := by decide +kernel
theorem dX7_mixWords_48 : decode cX7_mixWords 48 = .ok (.goto (-28), 3) := by decide +kernel
theorem dX7_mixWords_51 : decode cX7_mixWords 51 = .ok (.iconst 0, 1) := by decide +kernel
theorem dX7_mixWords_52 : decode cX7_mixWords 52 = .ok (.istore 6, 2) := by decide +kernel
theorem dX7_mixWords_54 : decode cX7_mixWords 54 = .ok (.iload 6, 2) := by decide +kernel
theorem dX7_mixWords_56 : decode cX7_mixWords 56 = .ok (.iconst 4, 1) := by decide +kernel
theorem dX7_mixWords_57 : decode cX7_mixWords 57 = .ok (.if_icmp .gt 22, 3) := by decide +kernel
theorem dX7_mixWords_60 : decode cX7_mixWords 60 = .ok (.lload_n 3, 1) := by decide +kernel
theorem dX7_mixWords_61 : decode cX7_mixWords 61 = .ok (.aload_n 0, 1) := by decide +kernel
theorem dX7_mixWords_62 : decode cX7_mixWords 62 = .ok (.iload 5, 2) := by decide +kernel
theorem dX7_mixWords_64 : decode cX7_mixWords 64 = .ok (.iload 6, 2) := by decide +kernel
theorem dX7_mixWords_66 : decode cX7_mixWords 66 = .ok (.invokevirtual 248, 3) := by decide +kernel
theorem dX7_mixWords_69 : decode cX7_mixWords 69 = .ok (.invokestatic 222, 3) := by decide +kernel
theorem dX7_mixWords_72 : decode cX7_mixWords 72 = .ok (.lstore_n 3, 1) := by decide +kernel
theorem dX7_mixWords_73 : decode cX7_mixWords 73 = .ok (.iinc 6 1, 3) := by decide +kernel
theorem dX7_mixWords_76 : decode cX7_mixWords 76 = .ok (.goto (-22), 3) := by decide +kernel
theorem dX7_mixWords_79 : decode cX7_mixWords 79 = .ok (.iinc 5 1, 3) := by decide +kernel
theorem dX7_mixWords_82 : decode cX7_mixWords 82 = .ok (.goto (-77), 3) := by decide +kernel
theorem dX7_mixWords_85 : decode cX7_mixWords 85 = .ok (.lload_n 3, 1) := by decide +kernel
theorem dX7_mixWords_86 : decode cX7_mixWords 86 = .ok (.lreturn, 1) := by decide +kernel
theorem dX7_mixSquares_0 : decode cX7_mixSquares 0 = .ok (.lload_n 1, 1) := by decide +kernel
theorem dX7_mixSquares_1 : decode cX7_mixSquares 1 = .ok (.lstore_n 3, 1) := by decide +kernel
theorem dX7_mixSquares_2 : decode cX7_mixSquares 2 = .ok (.iconst 0, 1) := by decide +kernel
theorem dX7_mixSquares_3 : decode cX7_mixSquares 3 = .ok (.istore 5, 2) := by decide +kernel
theorem dX7_mixSquares_5 : decode cX7_mixSquares 5 = .ok (.iload 5, 2) := by decide +kernel
theorem dX7_mixSquares_7 : decode cX7_mixSquares 7 = .ok (.iconst 3, 1) := by decide +kernel
theorem dX7_mixSquares_8 : decode cX7_mixSquares 8 = .ok (.if_icmp .ge 20, 3) := by decide +kernel
theorem dX7_mixSquares_11 : decode cX7_mixSquares 11 = .ok (.lload_n 3, 1) := by decide +kernel
theorem dX7_mixSquares_12 : decode cX7_mixSquares 12 = .ok (.aload_n 0, 1) := by decide +kernel
theorem dX7_mixSquares_13 : decode cX7_mixSquares 13 = .ok (.iload 5, 2) := by decide +kernel
theorem dX7_mixSquares_15 : decode cX7_mixSquares 15 = .ok (.invokevirtual 251, 3) := by decide +kernel
theorem dX7_mixSquares_18 : decode cX7_mixSquares 18 = .ok (.invokestatic 222, 3) := by decide +kernel
theorem dX7_mixSquares_21 : decode cX7_mixSquares 21 = .ok (.lstore_n 3, 1) := by decide +kernel
theorem dX7_mixSquares_22 : decode cX7_mixSquares 22 = .ok (.iinc 5 1, 3) := by decide +kernel
theorem dX7_mixSquares_25 : decode cX7_mixSquares 25 = .ok (.goto (-20), 3) := by decide +kernel
theorem dX7_mixSquares_28 : decode cX7_mixSquares 28 = .ok (.aload_n 0, 1) := by decide +kernel
theorem dX7_mixSquares_29 : decode cX7_mixSquares 29 = .ok (.iconst 0, 1) := by decide +kernel
theorem dX7_mixSquares_30 : decode cX7_mixSquares 30 = .ok (.invokevirtual 251, 3) := by decide +kernel
theorem dX7_mixSquares_33 : decode cX7_mixSquares 33 = .ok (.bipush 40, 2) := by decide +kernel
theorem dX7_mixSquares_35 : decode cX7_mixSquares 35 = .ok (.invokestatic 254, 3) := by decide +kernel
theorem dX7_mixSquares_38 : decode cX7_mixSquares 38 = .ok (.istore 5, 2) := by decide +kernel
theorem dX7_mixSquares_40 : decode cX7_mixSquares 40 = .ok (.iconst 0, 1) := by decide +kernel
theorem dX7_mixSquares_41 : decode cX7_mixSquares 41 = .ok (.istore 6, 2) := by decide +kernel
theorem dX7_mixSquares_43 : decode cX7_mixSquares 43 = .ok (.iload 6, 2) := by decide +kernel
theorem dX7_mixSquares_45 : decode cX7_mixSquares 45 = .ok (.iload 5, 2) := by decide +kernel
theorem dX7_mixSquares_47 : decode cX7_mixSquares 47 = .ok (.if_icmp .ge 44, 3) := by decide +kernel
theorem dX7_mixSquares_50 : decode cX7_mixSquares 50 = .ok (.iconst 0, 1) := by decide +kernel
theorem dX7_mixSquares_51 : decode cX7_mixSquares 51 = .ok (.istore 7, 2) := by decide +kernel
theorem dX7_mixSquares_53 : decode cX7_mixSquares 53 = .ok (.iload 7, 2) := by decide +kernel
theorem dX7_mixSquares_55 : decode cX7_mixSquares 55 = .ok (.aload_n 0, 1) := by decide +kernel
theorem dX7_mixSquares_56 : decode cX7_mixSquares 56 = .ok (.getfield 19, 3) := by decide +kernel
theorem dX7_mixSquares_59 : decode cX7_mixSquares 59 = .ok (.invokevirtual 109, 3) := by decide +kernel
theorem dX7_mixSquares_62 : decode cX7_mixSquares 62 = .ok (.if_icmp .ge 23, 3) := by decide +kernel
theorem dX7_mixSquares_65 : decode cX7_mixSquares 65 = .ok (.lload_n 3, 1) := by decide +kernel
theorem dX7_mixSquares_66 : decode cX7_mixSquares 66 = .ok (.aload_n 0, 1) := by decide +kernel
theorem dX7_mixSquares_67 : decode cX7_mixSquares 67 = .ok (.iconst 0, 1) := by decide +kernel
theorem dX7_mixSquares_68 : decode cX7_mixSquares 68 = .ok (.iload 6, 2) := by decide +kernel
theorem dX7_mixSquares_70 : decode cX7_mixSquares 70 = .ok (.iload 7, 2) := by decide +kernel
theorem dX7_mixSquares_72 : decode cX7_mixSquares 72 = .ok (.invokevirtual 259, 3) := by decide +kernel
theorem dX7_mixSquares_75 : decode cX7_mixSquares 75 = .ok (.invokestatic 222, 3) := by decide +kernel
theorem dX7_mixSquares_78 : decode cX7_mixSquares 78 = .ok (.lstore_n 3, 1) := by decide +kernel
theorem dX7_mixSquares_79 : decode cX7_mixSquares 79 = .ok (.iinc 7 1, 3) := by decide +kernel
theorem dX7_mixSquares_82 : decode cX7_mixSquares 82 = .ok (.goto (-29), 3) := by decide +kernel
theorem dX7_mixSquares_85 : decode cX7_mixSquares 85 = .ok (.iinc 6 1, 3) := by decide +kernel
theorem dX7_mixSquares_88 : decode cX7_mixSquares 88 = .ok (.goto (-45), 3) := by decide +kernel
theorem dX7_mixSquares_91 : decode cX7_mixSquares 91 = .ok (.iconst 0, 1) := by decide +kernel
theorem dX7_mixSquares_92 : decode cX7_mixSquares 92 = .ok (.istore 6, 2) := by decide +kernel
theorem dX7_mixSquares_94 : decode cX7_mixSquares 94 = .ok (.iload 6, 2) := by decide +kernel
theorem dX7_mixSquares_96 : decode cX7_mixSquares 96 = .ok (.iconst 3, 1) := by decide +kernel
theorem dX7_mixSquares_97 : decode cX7_mixSquares 97 = .ok (.if_icmp .ge 20, 3) := by decide +kernel
theorem dX7_mixSquares_100 : decode cX7_mixSquares 100 = .ok (.lload_n 3, 1) := by decide +kernel
theorem dX7_mixSquares_101 : decode cX7_mixSquares 101 = .ok (.aload_n 0, 1) := by decide +kernel
theorem dX7_mixSquares_102 : decode cX7_mixSquares 102 = .ok (.iload 6, 2) := by decide +kernel
theorem dX7_mixSquares_104 : decode cX7_mixSquares 104 = .ok (.invokevirtual 262, 3) := by decide +kernel
theorem dX7_mixSquares_107 : decode cX7_mixSquares 107 = .ok (.invokestatic 222, 3) := by decide +kernel
theorem dX7_mixSquares_110 : decode cX7_mixSquares 110 = .ok (.lstore_n 3, 1) := by decide +kernel
theorem dX7_mixSquares_111 : decode cX7_mixSquares 111 = .ok (.iinc 6 1, 3) := by decide +kernel
theorem dX7_mixSquares_114 : decode cX7_mixSquares 114 = .ok (.goto (-20), 3) := by decide +kernel
theorem dX7_mixSquares_117 : decode cX7_mixSquares 117 = .ok (.lload_n 3, 1) := by decide +kernel
theorem dX7_mixSquares_118 : decode cX7_mixSquares 118 = .ok (.lreturn, 1) := by decide +kernel
theorem dX7_mixBoard_0 : decode cX7_mixBoard 0 = .ok (.lload_n 1, 1) := by decide +kernel
theorem dX7_mixBoard_1 : decode cX7_mixBoard 1 = .ok (.lstore_n 3, 1) := by decide +kernel
theorem dX7_mixBoard_2 : decode cX7_mixBoard 2 = .ok (.aload_n 0, 1) := by decide +kernel
theorem dX7_mixBoard_3 : decode cX7_mixBoard 3 = .ok (.invokevirtual 265, 3) := by decide +kernel
theorem dX7_mixBoard_6 : decode cX7_mixBoard 6 = .ok (.ifCond .le 7, 3) := by decide +kernel
theorem dX7_mixBoard_9 : decode cX7_mixBoard 9 = .ok (.iconst 1, 1) := by decide +kernel
theorem dX7_mixBoard_10 : decode cX7_mixBoard 10 = .ok (.goto 4, 3) := by decide +kernel
theorem dX7_mixBoard_13 : decode cX7_mixBoard 13 = .ok (.iconst 0, 1) := by decide +kernel
theorem dX7_mixBoard_14 : decode cX7_mixBoard 14 = .ok (.istore 5, 2) := by decide +kernel
theorem dX7_mixBoard_16 : decode cX7_mixBoard 16 = .ok (.iconst 0, 1) := by decide +kernel
theorem dX7_mixBoard_17 : decode cX7_mixBoard 17 = .ok (.istore 6, 2) := by decide +kernel
theorem dX7_mixBoard_19 : decode cX7_mixBoard 19 = .ok (.iload 6, 2) := by decide +kernel
theorem dX7_mixBoard_21 : decode cX7_mixBoard 21 = .ok (.aload_n 0, 1) := by decide +kernel
theorem dX7_mixBoard_22 : decode cX7_mixBoard 22 = .ok (.getfield 19, 3) := by decide +kernel
theorem dX7_mixBoard_25 : decode cX7_mixBoard 25 = .ok (.invokevirtual 109, 3) := by decide +kernel
theorem dX7_mixBoard_28 : decode cX7_mixBoard 28 = .ok (.if_icmp .ge 70, 3) := by decide +kernel
theorem dX7_mixBoard_31 : decode cX7_mixBoard 31 = .ok (.lload_n 3, 1) := by decide +kernel
theorem dX7_mixBoard_32 : decode cX7_mixBoard 32 = .ok (.aload_n 0, 1) := by decide +kernel
theorem dX7_mixBoard_33 : decode cX7_mixBoard 33 = .ok (.iload 6, 2) := by decide +kernel
theorem dX7_mixBoard_35 : decode cX7_mixBoard 35 = .ok (.invokevirtual 268, 3) := by decide +kernel
theorem dX7_mixBoard_38 : decode cX7_mixBoard 38 = .ok (.invokestatic 222, 3) := by decide +kernel
theorem dX7_mixBoard_41 : decode cX7_mixBoard 41 = .ok (.lstore_n 3, 1) := by decide +kernel
theorem dX7_mixBoard_42 : decode cX7_mixBoard 42 = .ok (.lload_n 3, 1) := by decide +kernel
theorem dX7_mixBoard_43 : decode cX7_mixBoard 43 = .ok (.aload_n 0, 1) := by decide +kernel
theorem dX7_mixBoard_44 : decode cX7_mixBoard 44 = .ok (.iload 6, 2) := by decide +kernel
theorem dX7_mixBoard_46 : decode cX7_mixBoard 46 = .ok (.invokevirtual 271, 3) := by decide +kernel
theorem dX7_mixBoard_49 : decode cX7_mixBoard 49 = .ok (.invokestatic 222, 3) := by decide +kernel
theorem dX7_mixBoard_52 : decode cX7_mixBoard 52 = .ok (.lstore_n 3, 1) := by decide +kernel
theorem dX7_mixBoard_53 : decode cX7_mixBoard 53 = .ok (.iconst 0, 1) := by decide +kernel
theorem dX7_mixBoard_54 : decode cX7_mixBoard 54 = .ok (.istore 7, 2) := by decide +kernel
theorem dX7_mixBoard_56 : decode cX7_mixBoard 56 = .ok (.iload 7, 2) := by decide +kernel
theorem dX7_mixBoard_58 : decode cX7_mixBoard 58 = .ok (.aload_n 0, 1) := by decide +kernel
theorem dX7_mixBoard_59 : decode cX7_mixBoard 59 = .ok (.getfield 19, 3) := by decide +kernel
theorem dX7_mixBoard_62 : decode cX7_mixBoard 62 = .ok (.invokevirtual 109, 3) := by decide +kernel
theorem dX7_mixBoard_65 : decode cX7_mixBoard 65 = .ok (.if_icmp .ge 27, 3) := by decide +kernel
theorem dX7_mixBoard_68 : decode cX7_mixBoard 68 = .ok (.iload 5, 2) := by decide +kernel
theorem dX7_mixBoard_70 : decode cX7_mixBoard 70 = .ok (.ifCond .eq 22, 3) := by decide +kernel
theorem dX7_mixBoard_73 : decode cX7_mixBoard 73 = .ok (.lload_n 3, 1) := by decide +kernel
theorem dX7_mixBoard_74 : decode cX7_mixBoard 74 = .ok (.aload_n 0, 1) := by decide +kernel
theorem dX7_mixBoard_75 : decode cX7_mixBoard 75 = .ok (.iload 6, 2) := by decide +kernel
theorem dX7_mixBoard_77 : decode cX7_mixBoard 77 = .ok (.iload 7, 2) := by decide +kernel
theorem dX7_mixBoard_79 : decode cX7_mixBoard 79 = .ok (.invokevirtual 274, 3) := by decide +kernel
theorem dX7_mixBoard_82 : decode cX7_mixBoard 82 = .ok (.invokestatic 222, 3) := by decide +kernel
theorem dX7_mixBoard_85 : decode cX7_mixBoard 85 = .ok (.lstore_n 3, 1) := by decide +kernel
theorem dX7_mixBoard_86 : decode cX7_mixBoard 86 = .ok (.iinc 7 1, 3) := by decide +kernel
theorem dX7_mixBoard_89 : decode cX7_mixBoard 89 = .ok (.goto (-33), 3) := by decide +kernel
theorem dX7_mixBoard_92 : decode cX7_mixBoard 92 = .ok (.iinc 6 1, 3) := by decide +kernel
theorem dX7_mixBoard_95 : decode cX7_mixBoard 95 = .ok (.goto (-76), 3) := by decide +kernel
theorem dX7_mixBoard_98 : decode cX7_mixBoard 98 = .ok (.lload_n 3, 1) := by decide +kernel
theorem dX7_mixBoard_99 : decode cX7_mixBoard 99 = .ok (.aload_n 0, 1) := by decide +kernel
theorem dX7_mixBoard_100 : decode cX7_mixBoard 100 = .ok (.invokevirtual 265, 3) := by decide +kernel
theorem dX7_mixBoard_103 : decode cX7_mixBoard 103 = .ok (.invokestatic 222, 3) := by decide +kernel
theorem dX7_mixBoard_106 : decode cX7_mixBoard 106 = .ok (.lreturn, 1) := by decide +kernel
theorem dX7_mix_0 : decode cX7_mix 0 = .ok (.ldc2_w 277, 3) := by decide +kernel
theorem dX7_mix_3 : decode cX7_mix 3 = .ok (.lload_n 0, 1) := by decide +kernel
theorem dX7_mix_4 : decode cX7_mix 4 = .ok (.lmul, 1) := by decide +kernel
theorem dX7_mix_5 : decode cX7_mix 5 = .ok (.iload_n 2, 1) := by decide +kernel
theorem dX7_mix_6 : decode cX7_mix 6 = .ok (.i2l, 1) := by decide +kernel
theorem dX7_mix_7 : decode cX7_mix 7 = .ok (.ladd, 1) := by decide +kernel
theorem dX7_mix_8 : decode cX7_mix 8 = .ok (.lreturn, 1) := by decide +kernel
theorem dX7_isKind_0 : decode cX7_isKind 0 = .ok (.iload_n 0, 1) := by decide +kernel
theorem dX7_isKind_1 : decode cX7_isKind 1 = .ok (.ifCond .lt 12, 3) := by decide +kernel
theorem dX7_isKind_4 : decode cX7_isKind 4 = .ok (.iload_n 0, 1) := by decide +kernel
theorem dX7_isKind_5 : decode cX7_isKind 5 = .ok (.iconst 3, 1) := by decide +kernel
theorem dX7_isKind_6 : decode cX7_isKind 6 = .ok (.if_icmp .ge 7, 3) := by decide +kernel
theorem dX7_isKind_9 : decode cX7_isKind 9 = .ok (.iconst 1, 1) := by decide +kernel
theorem dX7_isKind_10 : decode cX7_isKind 10 = .ok (.goto 4, 3) := by decide +kernel
theorem dX7_isKind_13 : decode cX7_isKind 13 = .ok (.iconst 0, 1) := by decide +kernel
theorem dX7_isKind_14 : decode cX7_isKind 14 = .ok (.ireturn, 1) := by decide +kernel
theorem dX7_packedWord_0 : decode cX7_packedWord 0 = .ok (.iload_n 0, 1) := by decide +kernel
theorem dX7_packedWord_1 : decode cX7_packedWord 1 = .ok (.iconst 4, 1) := by decide +kernel
theorem dX7_packedWord_2 : decode cX7_packedWord 2 = .ok (.iload_n 2, 1) := by decide +kernel
theorem dX7_packedWord_3 : decode cX7_packedWord 3 = .ok (.iconst 1, 1) := by decide +kernel
theorem dX7_packedWord_4 : decode cX7_packedWord 4 = .ok (.isub, 1) := by decide +kernel
theorem dX7_packedWord_5 : decode cX7_packedWord 5 = .ok (.iload_n 1, 1) := by decide +kernel
theorem dX7_packedWord_6 : decode cX7_packedWord 6 = .ok (.isub, 1) := by decide +kernel
theorem dX7_packedWord_7 : decode cX7_packedWord 7 = .ok (.imul, 1) := by decide +kernel
theorem dX7_packedWord_8 : decode cX7_packedWord 8 = .ok (.ishr, 1) := by decide +kernel
theorem dX7_packedWord_9 : decode cX7_packedWord 9 = .ok (.bipush 15, 2) := by decide +kernel
theorem dX7_packedWord_11 : decode cX7_packedWord 11 = .ok (.iand, 1) := by decide +kernel
theorem dX7_packedWord_12 : decode cX7_packedWord 12 = .ok (.ireturn, 1) := by decide +kernel
theorem dX7_renew_0 : decode cX7_renew 0 = .ok (.aload_n 0, 1) := by decide +kernel
theorem dX7_renew_1 : decode cX7_renew 1 = .ok (.getfield 28, 3) := by decide +kernel
theorem dX7_renew_4 : decode cX7_renew 4 = .ok (.invokevirtual 279, 3) := by decide +kernel
theorem dX7_renew_7 : decode cX7_renew 7 = .ok (.aload_n 0, 1) := by decide +kernel
theorem dX7_renew_8 : decode cX7_renew 8 = .ok (.getfield 35, 3) := by decide +kernel
theorem dX7_renew_11 : decode cX7_renew 11 = .ok (.invokevirtual 282, 3) := by decide +kernel
theorem dX7_renew_14 : decode cX7_renew 14 = .ok (.aload_n 0, 1) := by decide +kernel
theorem dX7_renew_15 : decode cX7_renew 15 = .ok (.iconst 0, 1) := by decide +kernel
theorem dX7_renew_16 : decode cX7_renew 16 = .ok (.putfield 43, 3) := by decide +kernel
theorem dX7_renew_19 : decode cX7_renew 19 = .ok (.aload_n 0, 1) := by decide +kernel
theorem dX7_renew_20 : decode cX7_renew 20 = .ok (.iconst 0, 1) := by decide +kernel
theorem dX7_renew_21 : decode cX7_renew 21 = .ok (.putfield 47, 3) := by decide +kernel
theorem dX7_renew_24 : decode cX7_renew 24 = .ok (.return_, 1) := by decide +kernel
theorem dX7_lookedBoard_0 : decode cX7_lookedBoard 0 = .ok (.aload_n 0, 1) := by decide +kernel
theorem dX7_lookedBoard_1 : decode cX7_lookedBoard 1 = .ok (.getfield 47, 3) := by decide +kernel
theorem dX7_lookedBoard_4 : decode cX7_lookedBoard 4 = .ok (.ifCond .ne 30, 3) := by decide +kernel
theorem dX7_lookedBoard_7 : decode cX7_lookedBoard 7 = .ok (.aload_n 0, 1) := by decide +kernel
theorem dX7_lookedBoard_8 : decode cX7_lookedBoard 8 = .ok (.getfield 35, 3) := by decide +kernel
theorem dX7_lookedBoard_11 : decode cX7_lookedBoard 11 = .ok (.aload_n 0, 1) := by decide +kernel
theorem dX7_lookedBoard_12 : decode cX7_lookedBoard 12 = .ok (.getfield 28, 3) := by decide +kernel
theorem dX7_lookedBoard_15 : decode cX7_lookedBoard 15 = .ok (.iconst 0, 1) := by decide +kernel
theorem dX7_lookedBoard_16 : decode cX7_lookedBoard 16 = .ok (.invokevirtual 151, 3) := by decide +kernel
theorem dX7_lookedBoard_19 : decode cX7_lookedBoard 19 = .ok (.aload_n 0, 1) := by decide +kernel
theorem dX7_lookedBoard_20 : decode cX7_lookedBoard 20 = .ok (.getfield 19, 3) := by decide +kernel
theorem dX7_lookedBoard_23 : decode cX7_lookedBoard 23 = .ok (.invokevirtual 109, 3) := by decide +kernel
theorem dX7_lookedBoard_26 : decode cX7_lookedBoard 26 = .ok (.invokevirtual 283, 3) := by decide +kernel
theorem dX7_lookedBoard_29 : decode cX7_lookedBoard 29 = .ok (.aload_n 0, 1) := by decide +kernel
theorem dX7_lookedBoard_30 : decode cX7_lookedBoard 30 = .ok (.iconst 1, 1) := by decide +kernel
theorem dX7_lookedBoard_31 : decode cX7_lookedBoard 31 = .ok (.putfield 47, 3) := by decide +kernel
theorem dX7_lookedBoard_34 : decode cX7_lookedBoard 34 = .ok (.aload_n 0, 1) := by decide +kernel
theorem dX7_lookedBoard_35 : decode cX7_lookedBoard 35 = .ok (.getfield 35, 3) := by decide +kernel
theorem dX7_lookedBoard_38 : decode cX7_lookedBoard 38 = .ok (.areturn, 1) := by decide +kernel
theorem dX7_greatestOf_0 : decode cX7_greatestOf 0 = .ok (.iconst (-1), 1) := by decide +kernel
theorem dX7_greatestOf_1 : decode cX7_greatestOf 1 = .ok (.istore_n 2, 1) := by decide +kernel
theorem dX7_greatestOf_2 : decode cX7_greatestOf 2 = .ok (.iconst 0, 1) := by decide +kernel
theorem dX7_greatestOf_3 : decode cX7_greatestOf 3 = .ok (.istore_n 3, 1) := by decide +kernel
theorem dX7_greatestOf_4 : decode cX7_greatestOf 4 = .ok (.iconst 0, 1) := by decide +kernel
theorem dX7_greatestOf_5 : decode cX7_greatestOf 5 = .ok (.istore 4, 2) := by decide +kernel
theorem dX7_greatestOf_7 : decode cX7_greatestOf 7 = .ok (.iload 4, 2) := by decide +kernel
theorem dX7_greatestOf_9 : decode cX7_greatestOf 9 = .ok (.aload_n 1, 1) := by decide +kernel
theorem dX7_greatestOf_10 : decode cX7_greatestOf 10 = .ok (.invokevirtual 155, 3) := by decide +kernel
theorem dX7_greatestOf_13 : decode cX7_greatestOf 13 = .ok (.if_icmp .ge 30, 3) := by decide +kernel
theorem dX7_greatestOf_16 : decode cX7_greatestOf 16 = .ok (.aload_n 0, 1) := by decide +kernel
theorem dX7_greatestOf_17 : decode cX7_greatestOf 17 = .ok (.aload_n 1, 1) := by decide +kernel
theorem dX7_greatestOf_18 : decode cX7_greatestOf 18 = .ok (.iload 4, 2) := by decide +kernel
theorem dX7_greatestOf_20 : decode cX7_greatestOf 20 = .ok (.invokevirtual 176, 3) := by decide +kernel
theorem dX7_greatestOf_23 : decode cX7_greatestOf 23 = .ok (.istore 5, 2) := by decide +kernel
theorem dX7_greatestOf_25 : decode cX7_greatestOf 25 = .ok (.iload 5, 2) := by decide +kernel
theorem dX7_greatestOf_27 : decode cX7_greatestOf 27 = .ok (.iload_n 3, 1) := by decide +kernel
theorem dX7_greatestOf_28 : decode cX7_greatestOf 28 = .ok (.if_icmp .le 9, 3) := by decide +kernel
theorem dX7_greatestOf_31 : decode cX7_greatestOf 31 = .ok (.iload 5, 2) := by decide +kernel
theorem dX7_greatestOf_33 : decode cX7_greatestOf 33 = .ok (.istore_n 3, 1) := by decide +kernel
theorem dX7_greatestOf_34 : decode cX7_greatestOf 34 = .ok (.iload 4, 2) := by decide +kernel
theorem dX7_greatestOf_36 : decode cX7_greatestOf 36 = .ok (.istore_n 2, 1) := by decide +kernel
theorem dX7_greatestOf_37 : decode cX7_greatestOf 37 = .ok (.iinc 4 1, 3) := by decide +kernel
theorem dX7_greatestOf_40 : decode cX7_greatestOf 40 = .ok (.goto (-33), 3) := by decide +kernel
theorem dX7_greatestOf_43 : decode cX7_greatestOf 43 = .ok (.iload_n 2, 1) := by decide +kernel
theorem dX7_greatestOf_44 : decode cX7_greatestOf 44 = .ok (.ireturn, 1) := by decide +kernel
theorem dX7_weightOfSquare_0 : decode cX7_weightOfSquare 0 = .ok (.aload_n 1, 1) := by decide +kernel
theorem dX7_weightOfSquare_1 : decode cX7_weightOfSquare 1 = .ok (.iload_n 2, 1) := by decide +kernel
theorem dX7_weightOfSquare_2 : decode cX7_weightOfSquare 2 = .ok (.invokevirtual 159, 3) := by decide +kernel
theorem dX7_weightOfSquare_5 : decode cX7_weightOfSquare 5 = .ok (.istore_n 3, 1) := by decide +kernel
theorem dX7_weightOfSquare_6 : decode cX7_weightOfSquare 6 = .ok (.aload_n 1, 1) := by decide +kernel
theorem dX7_weightOfSquare_7 : decode cX7_weightOfSquare 7 = .ok (.iload_n 2, 1) := by decide +kernel
theorem dX7_weightOfSquare_8 : decode cX7_weightOfSquare 8 = .ok (.invokevirtual 166, 3) := by decide +kernel
theorem dX7_weightOfSquare_11 : decode cX7_weightOfSquare 11 = .ok (.istore 4, 2) := by decide +kernel
theorem dX7_weightOfSquare_13 : decode cX7_weightOfSquare 13 = .ok (.iconst 0, 1) := by decide +kernel
theorem dX7_weightOfSquare_14 : decode cX7_weightOfSquare 14 = .ok (.istore 5, 2) := by decide +kernel
theorem dX7_weightOfSquare_16 : decode cX7_weightOfSquare 16 = .ok (.iconst 0, 1) := by decide +kernel
theorem dX7_weightOfSquare_17 : decode cX7_weightOfSquare 17 = .ok (.istore 6, 2) := by decide +kernel
theorem dX7_weightOfSquare_19 : decode cX7_weightOfSquare 19 = .ok (.iload 6, 2) := by decide +kernel
theorem dX7_weightOfSquare_21 : decode cX7_weightOfSquare 21 = .ok (.aload_n 0, 1) := by decide +kernel
theorem dX7_weightOfSquare_22 : decode cX7_weightOfSquare 22 = .ok (.getfield 19, 3) := by decide +kernel
theorem dX7_weightOfSquare_25 : decode cX7_weightOfSquare 25 = .ok (.invokevirtual 109, 3) := by decide +kernel
theorem dX7_weightOfSquare_28 : decode cX7_weightOfSquare 28 = .ok (.if_icmp .ge 48, 3) := by decide +kernel
theorem dX7_weightOfSquare_31 : decode cX7_weightOfSquare 31 = .ok (.iload 5, 2) := by decide +kernel
theorem dX7_weightOfSquare_33 : decode cX7_weightOfSquare 33 = .ok (.aload_n 0, 1) := by decide +kernel
theorem dX7_weightOfSquare_34 : decode cX7_weightOfSquare 34 = .ok (.getfield 19, 3) := by decide +kernel
theorem dX7_weightOfSquare_37 : decode cX7_weightOfSquare 37 = .ok (.iload_n 3, 1) := by decide +kernel
theorem dX7_weightOfSquare_38 : decode cX7_weightOfSquare 38 = .ok (.bipush 15, 2) := by decide +kernel
theorem dX7_weightOfSquare_40 : decode cX7_weightOfSquare 40 = .ok (.iand, 1) := by decide +kernel
theorem dX7_weightOfSquare_41 : decode cX7_weightOfSquare 41 = .ok (.invokevirtual 103, 3) := by decide +kernel
theorem dX7_weightOfSquare_44 : decode cX7_weightOfSquare 44 = .ok (.aload_n 0, 1) := by decide +kernel
theorem dX7_weightOfSquare_45 : decode cX7_weightOfSquare 45 = .ok (.getfield 19, 3) := by decide +kernel
theorem dX7_weightOfSquare_48 : decode cX7_weightOfSquare 48 = .ok (.iload 4, 2) := by decide +kernel
theorem dX7_weightOfSquare_50 : decode cX7_weightOfSquare 50 = .ok (.bipush 15, 2) := by decide +kernel
theorem dX7_weightOfSquare_52 : decode cX7_weightOfSquare 52 = .ok (.iand, 1) := by decide +kernel
theorem dX7_weightOfSquare_53 : decode cX7_weightOfSquare 53 = .ok (.invokevirtual 103, 3) := by decide +kernel
theorem dX7_weightOfSquare_56 : decode cX7_weightOfSquare 56 = .ok (.iadd, 1) := by decide +kernel
theorem dX7_weightOfSquare_57 : decode cX7_weightOfSquare 57 = .ok (.iadd, 1) := by decide +kernel
theorem dX7_weightOfSquare_58 : decode cX7_weightOfSquare 58 = .ok (.istore 5, 2) := by decide +kernel
theorem dX7_weightOfSquare_60 : decode cX7_weightOfSquare 60 = .ok (.iload_n 3, 1) := by decide +kernel
theorem dX7_weightOfSquare_61 : decode cX7_weightOfSquare 61 = .ok (.iconst 4, 1) := by decide +kernel
theorem dX7_weightOfSquare_62 : decode cX7_weightOfSquare 62 = .ok (.ishr, 1) := by decide +kernel
theorem dX7_weightOfSquare_63 : decode cX7_weightOfSquare 63 = .ok (.istore_n 3, 1) := by decide +kernel
theorem dX7_weightOfSquare_64 : decode cX7_weightOfSquare 64 = .ok (.iload 4, 2) := by decide +kernel
theorem dX7_weightOfSquare_66 : decode cX7_weightOfSquare 66 = .ok (.iconst 4, 1) := by decide +kernel
theorem dX7_weightOfSquare_67 : decode cX7_weightOfSquare 67 = .ok (.ishr, 1) := by decide +kernel
theorem dX7_weightOfSquare_68 : decode cX7_weightOfSquare 68 = .ok (.istore 4, 2) := by decide +kernel
theorem dX7_weightOfSquare_70 : decode cX7_weightOfSquare 70 = .ok (.iinc 6 1, 3) := by decide +kernel
theorem dX7_weightOfSquare_73 : decode cX7_weightOfSquare 73 = .ok (.goto (-54), 3) := by decide +kernel
theorem dX7_weightOfSquare_76 : decode cX7_weightOfSquare 76 = .ok (.iload 5, 2) := by decide +kernel
theorem dX7_weightOfSquare_78 : decode cX7_weightOfSquare 78 = .ok (.ireturn, 1) := by decide +kernel
theorem dJ6_bitCount_0f7a4_0 : decode cJ6_bitCount_0f7a4 0 = .ok (.iload_n 0, 1) := by decide +kernel
theorem dJ6_bitCount_0f7a4_1 : decode cJ6_bitCount_0f7a4 1 = .ok (.iload_n 0, 1) := by decide +kernel
theorem dJ6_bitCount_0f7a4_2 : decode cJ6_bitCount_0f7a4 2 = .ok (.iconst 1, 1) := by decide +kernel
theorem dJ6_bitCount_0f7a4_3 : decode cJ6_bitCount_0f7a4 3 = .ok (.iushr, 1) := by decide +kernel
theorem dJ6_bitCount_0f7a4_4 : decode cJ6_bitCount_0f7a4 4 = .ok (.ldc_w 265, 3) := by decide +kernel
theorem dJ6_bitCount_0f7a4_7 : decode cJ6_bitCount_0f7a4 7 = .ok (.iand, 1) := by decide +kernel
theorem dJ6_bitCount_0f7a4_8 : decode cJ6_bitCount_0f7a4 8 = .ok (.isub, 1) := by decide +kernel
theorem dJ6_bitCount_0f7a4_9 : decode cJ6_bitCount_0f7a4 9 = .ok (.istore_n 0, 1) := by decide +kernel
theorem dJ6_bitCount_0f7a4_10 : decode cJ6_bitCount_0f7a4 10 = .ok (.iload_n 0, 1) := by decide +kernel
theorem dJ6_bitCount_0f7a4_11 : decode cJ6_bitCount_0f7a4 11 = .ok (.ldc_w 266, 3) := by decide +kernel
theorem dJ6_bitCount_0f7a4_14 : decode cJ6_bitCount_0f7a4 14 = .ok (.iand, 1) := by decide +kernel
theorem dJ6_bitCount_0f7a4_15 : decode cJ6_bitCount_0f7a4 15 = .ok (.iload_n 0, 1) := by decide +kernel
theorem dJ6_bitCount_0f7a4_16 : decode cJ6_bitCount_0f7a4 16 = .ok (.iconst 2, 1) := by decide +kernel
theorem dJ6_bitCount_0f7a4_17 : decode cJ6_bitCount_0f7a4 17 = .ok (.iushr, 1) := by decide +kernel
theorem dJ6_bitCount_0f7a4_18 : decode cJ6_bitCount_0f7a4 18 = .ok (.ldc_w 266, 3) := by decide +kernel
theorem dJ6_bitCount_0f7a4_21 : decode cJ6_bitCount_0f7a4 21 = .ok (.iand, 1) := by decide +kernel
theorem dJ6_bitCount_0f7a4_22 : decode cJ6_bitCount_0f7a4 22 = .ok (.iadd, 1) := by decide +kernel
theorem dJ6_bitCount_0f7a4_23 : decode cJ6_bitCount_0f7a4 23 = .ok (.istore_n 0, 1) := by decide +kernel
theorem dJ6_bitCount_0f7a4_24 : decode cJ6_bitCount_0f7a4 24 = .ok (.iload_n 0, 1) := by decide +kernel
theorem dJ6_bitCount_0f7a4_25 : decode cJ6_bitCount_0f7a4 25 = .ok (.iload_n 0, 1) := by decide +kernel
theorem dJ6_bitCount_0f7a4_26 : decode cJ6_bitCount_0f7a4 26 = .ok (.iconst 4, 1) := by decide +kernel
theorem dJ6_bitCount_0f7a4_27 : decode cJ6_bitCount_0f7a4 27 = .ok (.iushr, 1) := by decide +kernel
theorem dJ6_bitCount_0f7a4_28 : decode cJ6_bitCount_0f7a4 28 = .ok (.iadd, 1) := by decide +kernel
theorem dJ6_bitCount_0f7a4_29 : decode cJ6_bitCount_0f7a4 29 = .ok (.ldc_w 267, 3) := by decide +kernel
theorem dJ6_bitCount_0f7a4_32 : decode cJ6_bitCount_0f7a4 32 = .ok (.iand, 1) := by decide +kernel
theorem dJ6_bitCount_0f7a4_33 : decode cJ6_bitCount_0f7a4 33 = .ok (.istore_n 0, 1) := by decide +kernel
theorem dJ6_bitCount_0f7a4_34 : decode cJ6_bitCount_0f7a4 34 = .ok (.iload_n 0, 1) := by decide +kernel
theorem dJ6_bitCount_0f7a4_35 : decode cJ6_bitCount_0f7a4 35 = .ok (.iload_n 0, 1) := by decide +kernel
theorem dJ6_bitCount_0f7a4_36 : decode cJ6_bitCount_0f7a4 36 = .ok (.bipush 8, 2) := by decide +kernel
theorem dJ6_bitCount_0f7a4_38 : decode cJ6_bitCount_0f7a4 38 = .ok (.iushr, 1) := by decide +kernel
theorem dJ6_bitCount_0f7a4_39 : decode cJ6_bitCount_0f7a4 39 = .ok (.iadd, 1) := by decide +kernel
theorem dJ6_bitCount_0f7a4_40 : decode cJ6_bitCount_0f7a4 40 = .ok (.istore_n 0, 1) := by decide +kernel
theorem dJ6_bitCount_0f7a4_41 : decode cJ6_bitCount_0f7a4 41 = .ok (.iload_n 0, 1) := by decide +kernel
theorem dJ6_bitCount_0f7a4_42 : decode cJ6_bitCount_0f7a4 42 = .ok (.iload_n 0, 1) := by decide +kernel
theorem dJ6_bitCount_0f7a4_43 : decode cJ6_bitCount_0f7a4 43 = .ok (.bipush 16, 2) := by decide +kernel
theorem dJ6_bitCount_0f7a4_45 : decode cJ6_bitCount_0f7a4 45 = .ok (.iushr, 1) := by decide +kernel
theorem dJ6_bitCount_0f7a4_46 : decode cJ6_bitCount_0f7a4 46 = .ok (.iadd, 1) := by decide +kernel
theorem dJ6_bitCount_0f7a4_47 : decode cJ6_bitCount_0f7a4 47 = .ok (.istore_n 0, 1) := by decide +kernel
theorem dJ6_bitCount_0f7a4_48 : decode cJ6_bitCount_0f7a4 48 = .ok (.iload_n 0, 1) := by decide +kernel
theorem dJ6_bitCount_0f7a4_49 : decode cJ6_bitCount_0f7a4 49 = .ok (.bipush 63, 2) := by decide +kernel
theorem dJ6_bitCount_0f7a4_51 : decode cJ6_bitCount_0f7a4 51 = .ok (.iand, 1) := by decide +kernel
theorem dJ6_bitCount_0f7a4_52 : decode cJ6_bitCount_0f7a4 52 = .ok (.ireturn, 1) := by decide +kernel
theorem dJ9_min_7cf53_0 : decode cJ9_min_7cf53 0 = .ok (.iload_n 0, 1) := by decide +kernel
theorem dJ9_min_7cf53_1 : decode cJ9_min_7cf53 1 = .ok (.iload_n 1, 1) := by decide +kernel
theorem dJ9_min_7cf53_2 : decode cJ9_min_7cf53 2 = .ok (.if_icmp .gt 7, 3) := by decide +kernel
theorem dJ9_min_7cf53_5 : decode cJ9_min_7cf53 5 = .ok (.iload_n 0, 1) := by decide +kernel
theorem dJ9_min_7cf53_6 : decode cJ9_min_7cf53 6 = .ok (.goto 4, 3) := by decide +kernel
theorem dJ9_min_7cf53_9 : decode cJ9_min_7cf53 9 = .ok (.iload_n 1, 1) := by decide +kernel
theorem dJ9_min_7cf53_10 : decode cJ9_min_7cf53 10 = .ok (.ireturn, 1) := by decide +kernel
theorem dJ7_fill_d0a16_0 : decode cJ7_fill_d0a16 0 = .ok (.iconst 0, 1) := by decide +kernel
theorem dJ7_fill_d0a16_1 : decode cJ7_fill_d0a16 1 = .ok (.istore_n 3, 1) := by decide +kernel
theorem dJ7_fill_d0a16_2 : decode cJ7_fill_d0a16 2 = .ok (.aload_n 0, 1) := by decide +kernel
theorem dJ7_fill_d0a16_3 : decode cJ7_fill_d0a16 3 = .ok (.arraylength, 1) := by decide +kernel
theorem dJ7_fill_d0a16_4 : decode cJ7_fill_d0a16 4 = .ok (.istore 4, 2) := by decide +kernel
theorem dJ7_fill_d0a16_6 : decode cJ7_fill_d0a16 6 = .ok (.iload_n 3, 1) := by decide +kernel
theorem dJ7_fill_d0a16_7 : decode cJ7_fill_d0a16 7 = .ok (.iload 4, 2) := by decide +kernel
theorem dJ7_fill_d0a16_9 : decode cJ7_fill_d0a16 9 = .ok (.if_icmp .ge 13, 3) := by decide +kernel
theorem dJ7_fill_d0a16_12 : decode cJ7_fill_d0a16 12 = .ok (.aload_n 0, 1) := by decide +kernel
theorem dJ7_fill_d0a16_13 : decode cJ7_fill_d0a16 13 = .ok (.iload_n 3, 1) := by decide +kernel
theorem dJ7_fill_d0a16_14 : decode cJ7_fill_d0a16 14 = .ok (.lload_n 1, 1) := by decide +kernel
theorem dJ7_fill_d0a16_15 : decode cJ7_fill_d0a16 15 = .ok (.lastore, 1) := by decide +kernel
theorem dJ7_fill_d0a16_16 : decode cJ7_fill_d0a16 16 = .ok (.iinc 3 1, 3) := by decide +kernel
theorem dJ7_fill_d0a16_19 : decode cJ7_fill_d0a16 19 = .ok (.goto (-13), 3) := by decide +kernel
theorem dJ7_fill_d0a16_22 : decode cJ7_fill_d0a16 22 = .ok (.return_, 1) := by decide +kernel
theorem dJ7_fill_53178_0 : decode cJ7_fill_53178 0 = .ok (.iconst 0, 1) := by decide +kernel
theorem dJ7_fill_53178_1 : decode cJ7_fill_53178 1 = .ok (.istore_n 2, 1) := by decide +kernel
theorem dJ7_fill_53178_2 : decode cJ7_fill_53178 2 = .ok (.aload_n 0, 1) := by decide +kernel
theorem dJ7_fill_53178_3 : decode cJ7_fill_53178 3 = .ok (.arraylength, 1) := by decide +kernel
theorem dJ7_fill_53178_4 : decode cJ7_fill_53178 4 = .ok (.istore_n 3, 1) := by decide +kernel
theorem dJ7_fill_53178_5 : decode cJ7_fill_53178 5 = .ok (.iload_n 2, 1) := by decide +kernel
theorem dJ7_fill_53178_6 : decode cJ7_fill_53178 6 = .ok (.iload_n 3, 1) := by decide +kernel
theorem dJ7_fill_53178_7 : decode cJ7_fill_53178 7 = .ok (.if_icmp .ge 13, 3) := by decide +kernel
theorem dJ7_fill_53178_10 : decode cJ7_fill_53178 10 = .ok (.aload_n 0, 1) := by decide +kernel
theorem dJ7_fill_53178_11 : decode cJ7_fill_53178 11 = .ok (.iload_n 2, 1) := by decide +kernel
theorem dJ7_fill_53178_12 : decode cJ7_fill_53178 12 = .ok (.iload_n 1, 1) := by decide +kernel
theorem dJ7_fill_53178_13 : decode cJ7_fill_53178 13 = .ok (.iastore, 1) := by decide +kernel
theorem dJ7_fill_53178_14 : decode cJ7_fill_53178 14 = .ok (.iinc 2 1, 3) := by decide +kernel
theorem dJ7_fill_53178_17 : decode cJ7_fill_53178 17 = .ok (.goto (-12), 3) := by decide +kernel
theorem dJ7_fill_53178_20 : decode cJ7_fill_53178 20 = .ok (.return_, 1) := by decide +kernel
theorem dJ7_copyOf_59c91_0 : decode cJ7_copyOf_59c91 0 = .ok (.iload_n 1, 1) := by decide +kernel
theorem dJ7_copyOf_59c91_1 : decode cJ7_copyOf_59c91 1 = .ok (.aload_n 0, 1) := by decide +kernel
theorem dJ7_copyOf_59c91_2 : decode cJ7_copyOf_59c91 2 = .ok (.arraylength, 1) := by decide +kernel
theorem dJ7_copyOf_59c91_3 : decode cJ7_copyOf_59c91 3 = .ok (.if_icmp .ne 11, 3) := by decide +kernel
theorem dJ7_copyOf_59c91_6 : decode cJ7_copyOf_59c91 6 = .ok (.aload_n 0, 1) := by decide +kernel
theorem dJ7_copyOf_59c91_7 : decode cJ7_copyOf_59c91 7 = .ok (.invokevirtual 316, 3) := by decide +kernel
theorem dJ7_copyOf_59c91_10 : decode cJ7_copyOf_59c91 10 = .ok (.checkcast 317, 3) := by decide +kernel
theorem dJ7_copyOf_59c91_13 : decode cJ7_copyOf_59c91 13 = .ok (.areturn, 1) := by decide +kernel
theorem dJ7_copyOf_59c91_14 : decode cJ7_copyOf_59c91 14 = .ok (.iload_n 1, 1) := by decide +kernel
theorem dJ7_copyOf_59c91_15 : decode cJ7_copyOf_59c91 15 = .ok (.newarray .int, 2) := by decide +kernel
theorem dJ7_copyOf_59c91_17 : decode cJ7_copyOf_59c91 17 = .ok (.astore_n 2, 1) := by decide +kernel
theorem dJ7_copyOf_59c91_18 : decode cJ7_copyOf_59c91 18 = .ok (.aload_n 0, 1) := by decide +kernel
theorem dJ7_copyOf_59c91_19 : decode cJ7_copyOf_59c91 19 = .ok (.iconst 0, 1) := by decide +kernel
theorem dJ7_copyOf_59c91_20 : decode cJ7_copyOf_59c91 20 = .ok (.aload_n 2, 1) := by decide +kernel
theorem dJ7_copyOf_59c91_21 : decode cJ7_copyOf_59c91 21 = .ok (.iconst 0, 1) := by decide +kernel
theorem dJ7_copyOf_59c91_22 : decode cJ7_copyOf_59c91 22 = .ok (.aload_n 0, 1) := by decide +kernel
theorem dJ7_copyOf_59c91_23 : decode cJ7_copyOf_59c91 23 = .ok (.arraylength, 1) := by decide +kernel
theorem dJ7_copyOf_59c91_24 : decode cJ7_copyOf_59c91 24 = .ok (.iload_n 1, 1) := by decide +kernel
theorem dJ7_copyOf_59c91_25 : decode cJ7_copyOf_59c91 25 = .ok (.invokestatic 304, 3) := by decide +kernel
theorem dJ7_copyOf_59c91_28 : decode cJ7_copyOf_59c91 28 = .ok (.invokestatic 150, 3) := by decide +kernel
theorem dJ7_copyOf_59c91_31 : decode cJ7_copyOf_59c91 31 = .ok (.aload_n 2, 1) := by decide +kernel
theorem dJ7_copyOf_59c91_32 : decode cJ7_copyOf_59c91 32 = .ok (.areturn, 1) := by decide +kernel
theorem dL_law_0 : decode cL_law 0 = .ok (.new 7, 3) := by decide +kernel
theorem dL_law_3 : decode cL_law 3 = .ok (.dup, 1) := by decide +kernel
theorem dL_law_4 : decode cL_law 4 = .ok (.invokespecial 9, 3) := by decide +kernel
theorem dL_law_7 : decode cL_law 7 = .ok (.astore_n 1, 1) := by decide +kernel
theorem dL_law_8 : decode cL_law 8 = .ok (.new 10, 3) := by decide +kernel
theorem dL_law_11 : decode cL_law 11 = .ok (.dup, 1) := by decide +kernel
theorem dL_law_12 : decode cL_law 12 = .ok (.invokespecial 12, 3) := by decide +kernel
theorem dL_law_15 : decode cL_law 15 = .ok (.astore_n 2, 1) := by decide +kernel
theorem dL_law_16 : decode cL_law 16 = .ok (.iconst 0, 1) := by decide +kernel
theorem dL_law_17 : decode cL_law 17 = .ok (.istore_n 3, 1) := by decide +kernel
theorem dL_law_18 : decode cL_law 18 = .ok (.iload_n 3, 1) := by decide +kernel
theorem dL_law_19 : decode cL_law 19 = .ok (.aload_n 0, 1) := by decide +kernel
theorem dL_law_20 : decode cL_law 20 = .ok (.arraylength, 1) := by decide +kernel
theorem dL_law_21 : decode cL_law 21 = .ok (.iconst 4, 1) := by decide +kernel
theorem dL_law_22 : decode cL_law 22 = .ok (.isub, 1) := by decide +kernel
theorem dL_law_23 : decode cL_law 23 = .ok (.if_icmp .gt 710, 3) := by decide +kernel
theorem dL_law_26 : decode cL_law 26 = .ok (.aload_n 0, 1) := by decide +kernel
theorem dL_law_27 : decode cL_law 27 = .ok (.iload_n 3, 1) := by decide +kernel
theorem dL_law_28 : decode cL_law 28 = .ok (.iaload, 1) := by decide +kernel
theorem dL_law_29 : decode cL_law 29 = .ok (.bipush 31, 2) := by decide +kernel
theorem dL_law_31 : decode cL_law 31 = .ok (.iand, 1) := by decide +kernel
theorem dL_law_32 : decode cL_law 32 = .ok (.tableswitch 695 0 23 #[112, 135, 148, 161, 174, 197, 230, 253, 286, 319, 352, 375, 418, 441, 464, 487, 520, 543, 566, 579, 602, 635, 658, 681], 112) := by decide +kernel
theorem dL_law_144 : decode cL_law 144 = .ok (.aload_n 1, 1) := by decide +kernel
theorem dL_law_145 : decode cL_law 145 = .ok (.aload_n 0, 1) := by decide +kernel
theorem dL_law_146 : decode cL_law 146 = .ok (.iload_n 3, 1) := by decide +kernel
theorem dL_law_147 : decode cL_law 147 = .ok (.iconst 1, 1) := by decide +kernel
theorem dL_law_148 : decode cL_law 148 = .ok (.iadd, 1) := by decide +kernel
theorem dL_law_149 : decode cL_law 149 = .ok (.iaload, 1) := by decide +kernel
theorem dL_law_150 : decode cL_law 150 = .ok (.invokevirtual 13, 3) := by decide +kernel
theorem dL_law_153 : decode cL_law 153 = .ok (.aload_n 2, 1) := by decide +kernel
theorem dL_law_154 : decode cL_law 154 = .ok (.aload_n 0, 1) := by decide +kernel
theorem dL_law_155 : decode cL_law 155 = .ok (.iload_n 3, 1) := by decide +kernel
theorem dL_law_156 : decode cL_law 156 = .ok (.iconst 1, 1) := by decide +kernel
theorem dL_law_157 : decode cL_law 157 = .ok (.iadd, 1) := by decide +kernel
theorem dL_law_158 : decode cL_law 158 = .ok (.iaload, 1) := by decide +kernel
theorem dL_law_159 : decode cL_law 159 = .ok (.invokevirtual 17, 3) := by decide +kernel
theorem dL_law_162 : decode cL_law 162 = .ok (.if_icmp .eq 565, 3) := by decide +kernel
theorem dL_law_165 : decode cL_law 165 = .ok (.iconst 0, 1) := by decide +kernel
theorem dL_law_166 : decode cL_law 166 = .ok (.ireturn, 1) := by decide +kernel
theorem dL_law_167 : decode cL_law 167 = .ok (.aload_n 1, 1) := by decide +kernel
theorem dL_law_168 : decode cL_law 168 = .ok (.invokevirtual 18, 3) := by decide +kernel
theorem dL_law_171 : decode cL_law 171 = .ok (.aload_n 2, 1) := by decide +kernel
theorem dL_law_172 : decode cL_law 172 = .ok (.invokevirtual 22, 3) := by decide +kernel
theorem dL_law_175 : decode cL_law 175 = .ok (.if_icmp .eq 552, 3) := by decide +kernel
theorem dL_law_178 : decode cL_law 178 = .ok (.iconst 0, 1) := by decide +kernel
theorem dL_law_179 : decode cL_law 179 = .ok (.ireturn, 1) := by decide +kernel
theorem dL_law_180 : decode cL_law 180 = .ok (.aload_n 1, 1) := by decide +kernel
theorem dL_law_181 : decode cL_law 181 = .ok (.invokevirtual 23, 3) := by decide +kernel
theorem dL_law_184 : decode cL_law 184 = .ok (.aload_n 2, 1) := by decide +kernel
theorem dL_law_185 : decode cL_law 185 = .ok (.invokevirtual 26, 3) := by decide +kernel
theorem dL_law_188 : decode cL_law 188 = .ok (.if_icmp .eq 539, 3) := by decide +kernel
theorem dL_law_191 : decode cL_law 191 = .ok (.iconst 0, 1) := by decide +kernel
theorem dL_law_192 : decode cL_law 192 = .ok (.ireturn, 1) := by decide +kernel
theorem dL_law_193 : decode cL_law 193 = .ok (.aload_n 1, 1) := by decide +kernel
theorem dL_law_194 : decode cL_law 194 = .ok (.invokevirtual 27, 3) := by decide +kernel
theorem dL_law_197 : decode cL_law 197 = .ok (.aload_n 2, 1) := by decide +kernel
theorem dL_law_198 : decode cL_law 198 = .ok (.invokevirtual 30, 3) := by decide +kernel
theorem dL_law_201 : decode cL_law 201 = .ok (.if_icmp .eq 526, 3) := by decide +kernel
theorem dL_law_204 : decode cL_law 204 = .ok (.iconst 0, 1) := by decide +kernel
theorem dL_law_205 : decode cL_law 205 = .ok (.ireturn, 1) := by decide +kernel
theorem dL_law_206 : decode cL_law 206 = .ok (.aload_n 1, 1) := by decide +kernel
theorem dL_law_207 : decode cL_law 207 = .ok (.aload_n 0, 1) := by decide +kernel
theorem dL_law_208 : decode cL_law 208 = .ok (.iload_n 3, 1) := by decide +kernel
theorem dL_law_209 : decode cL_law 209 = .ok (.iconst 1, 1) := by decide +kernel
theorem dL_law_210 : decode cL_law 210 = .ok (.iadd, 1) := by decide +kernel
theorem dL_law_211 : decode cL_law 211 = .ok (.iaload, 1) := by decide +kernel
theorem dL_law_212 : decode cL_law 212 = .ok (.invokevirtual 31, 3) := by decide +kernel
theorem dL_law_215 : decode cL_law 215 = .ok (.aload_n 2, 1) := by decide +kernel
theorem dL_law_216 : decode cL_law 216 = .ok (.aload_n 0, 1) := by decide +kernel
theorem dL_law_217 : decode cL_law 217 = .ok (.iload_n 3, 1) := by decide +kernel
theorem dL_law_218 : decode cL_law 218 = .ok (.iconst 1, 1) := by decide +kernel
theorem dL_law_219 : decode cL_law 219 = .ok (.iadd, 1) := by decide +kernel
theorem dL_law_220 : decode cL_law 220 = .ok (.iaload, 1) := by decide +kernel
theorem dL_law_221 : decode cL_law 221 = .ok (.invokevirtual 34, 3) := by decide +kernel
theorem dL_law_224 : decode cL_law 224 = .ok (.if_icmp .eq 503, 3) := by decide +kernel
theorem dL_law_227 : decode cL_law 227 = .ok (.iconst 0, 1) := by decide +kernel
theorem dL_law_228 : decode cL_law 228 = .ok (.ireturn, 1) := by decide +kernel
theorem dL_law_229 : decode cL_law 229 = .ok (.aload_n 1, 1) := by decide +kernel
theorem dL_law_230 : decode cL_law 230 = .ok (.aload_n 0, 1) := by decide +kernel
theorem dL_law_231 : decode cL_law 231 = .ok (.iload_n 3, 1) := by decide +kernel
theorem dL_law_232 : decode cL_law 232 = .ok (.iconst 1, 1) := by decide +kernel
theorem dL_law_233 : decode cL_law 233 = .ok (.iadd, 1) := by decide +kernel
theorem dL_law_234 : decode cL_law 234 = .ok (.iaload, 1) := by decide +kernel
theorem dL_law_235 : decode cL_law 235 = .ok (.aload_n 0, 1) := by decide +kernel
theorem dL_law_236 : decode cL_law 236 = .ok (.iload_n 3, 1) := by decide +kernel
theorem dL_law_237 : decode cL_law 237 = .ok (.iconst 2, 1) := by decide +kernel
theorem dL_law_238 : decode cL_law 238 = .ok (.iadd, 1) := by decide +kernel
theorem dL_law_239 : decode cL_law 239 = .ok (.iaload, 1) := by decide +kernel
theorem dL_law_240 : decode cL_law 240 = .ok (.invokevirtual 35, 3) := by decide +kernel
theorem dL_law_243 : decode cL_law 243 = .ok (.aload_n 2, 1) := by decide +kernel
theorem dL_law_244 : decode cL_law 244 = .ok (.aload_n 0, 1) := by decide +kernel
theorem dL_law_245 : decode cL_law 245 = .ok (.iload_n 3, 1) := by decide +kernel
theorem dL_law_246 : decode cL_law 246 = .ok (.iconst 1, 1) := by decide +kernel
theorem dL_law_247 : decode cL_law 247 = .ok (.iadd, 1) := by decide +kernel
theorem dL_law_248 : decode cL_law 248 = .ok (.iaload, 1) := by decide +kernel
theorem dL_law_249 : decode cL_law 249 = .ok (.aload_n 0, 1) := by decide +kernel
theorem dL_law_250 : decode cL_law 250 = .ok (.iload_n 3, 1) := by decide +kernel
theorem dL_law_251 : decode cL_law 251 = .ok (.iconst 2, 1) := by decide +kernel
theorem dL_law_252 : decode cL_law 252 = .ok (.iadd, 1) := by decide +kernel
theorem dL_law_253 : decode cL_law 253 = .ok (.iaload, 1) := by decide +kernel
theorem dL_law_254 : decode cL_law 254 = .ok (.invokevirtual 39, 3) := by decide +kernel
theorem dL_law_257 : decode cL_law 257 = .ok (.if_icmp .eq 470, 3) := by decide +kernel
theorem dL_law_260 : decode cL_law 260 = .ok (.iconst 0, 1) := by decide +kernel
theorem dL_law_261 : decode cL_law 261 = .ok (.ireturn, 1) := by decide +kernel
theorem dL_law_262 : decode cL_law 262 = .ok (.aload_n 1, 1) := by decide +kernel
theorem dL_law_263 : decode cL_law 263 = .ok (.aload_n 0, 1) := by decide +kernel
theorem dL_law_264 : decode cL_law 264 = .ok (.iload_n 3, 1) := by decide +kernel
theorem dL_law_265 : decode cL_law 265 = .ok (.iconst 1, 1) := by decide +kernel
theorem dL_law_266 : decode cL_law 266 = .ok (.iadd, 1) := by decide +kernel
theorem dL_law_267 : decode cL_law 267 = .ok (.iaload, 1) := by decide +kernel
theorem dL_law_268 : decode cL_law 268 = .ok (.invokevirtual 40, 3) := by decide +kernel
theorem dL_law_271 : decode cL_law 271 = .ok (.aload_n 2, 1) := by decide +kernel
theorem dL_law_272 : decode cL_law 272 = .ok (.aload_n 0, 1) := by decide +kernel
theorem dL_law_273 : decode cL_law 273 = .ok (.iload_n 3, 1) := by decide +kernel
theorem dL_law_274 : decode cL_law 274 = .ok (.iconst 1, 1) := by decide +kernel
theorem dL_law_275 : decode cL_law 275 = .ok (.iadd, 1) := by decide +kernel
theorem dL_law_276 : decode cL_law 276 = .ok (.iaload, 1) := by decide +kernel
theorem dL_law_277 : decode cL_law 277 = .ok (.invokevirtual 43, 3) := by decide +kernel
theorem dL_law_280 : decode cL_law 280 = .ok (.if_icmp .eq 447, 3) := by decide +kernel
theorem dL_law_283 : decode cL_law 283 = .ok (.iconst 0, 1) := by decide +kernel
theorem dL_law_284 : decode cL_law 284 = .ok (.ireturn, 1) := by decide +kernel
theorem dL_law_285 : decode cL_law 285 = .ok (.aload_n 1, 1) := by decide +kernel
theorem dL_law_286 : decode cL_law 286 = .ok (.aload_n 0, 1) := by decide +kernel
theorem dL_law_287 : decode cL_law 287 = .ok (.iload_n 3, 1) := by decide +kernel
theorem dL_law_288 : decode cL_law 288 = .ok (.iconst 1, 1) := by decide +kernel
theorem dL_law_289 : decode cL_law 289 = .ok (.iadd, 1) := by decide +kernel
theorem dL_law_290 : decode cL_law 290 = .ok (.iaload, 1) := by decide +kernel
theorem dL_law_291 : decode cL_law 291 = .ok (.aload_n 0, 1) := by decide +kernel
theorem dL_law_292 : decode cL_law 292 = .ok (.iload_n 3, 1) := by decide +kernel
theorem dL_law_293 : decode cL_law 293 = .ok (.iconst 2, 1) := by decide +kernel
theorem dL_law_294 : decode cL_law 294 = .ok (.iadd, 1) := by decide +kernel
theorem dL_law_295 : decode cL_law 295 = .ok (.iaload, 1) := by decide +kernel
theorem dL_law_296 : decode cL_law 296 = .ok (.invokevirtual 44, 3) := by decide +kernel
theorem dL_law_299 : decode cL_law 299 = .ok (.aload_n 2, 1) := by decide +kernel
theorem dL_law_300 : decode cL_law 300 = .ok (.aload_n 0, 1) := by decide +kernel
theorem dL_law_301 : decode cL_law 301 = .ok (.iload_n 3, 1) := by decide +kernel
theorem dL_law_302 : decode cL_law 302 = .ok (.iconst 1, 1) := by decide +kernel
theorem dL_law_303 : decode cL_law 303 = .ok (.iadd, 1) := by decide +kernel
theorem dL_law_304 : decode cL_law 304 = .ok (.iaload, 1) := by decide +kernel
theorem dL_law_305 : decode cL_law 305 = .ok (.aload_n 0, 1) := by decide +kernel
theorem dL_law_306 : decode cL_law 306 = .ok (.iload_n 3, 1) := by decide +kernel
theorem dL_law_307 : decode cL_law 307 = .ok (.iconst 2, 1) := by decide +kernel
theorem dL_law_308 : decode cL_law 308 = .ok (.iadd, 1) := by decide +kernel
theorem dL_law_309 : decode cL_law 309 = .ok (.iaload, 1) := by decide +kernel
theorem dL_law_310 : decode cL_law 310 = .ok (.invokevirtual 47, 3) := by decide +kernel
theorem dL_law_313 : decode cL_law 313 = .ok (.if_icmp .eq 414, 3) := by decide +kernel
theorem dL_law_316 : decode cL_law 316 = .ok (.iconst 0, 1) := by decide +kernel
theorem dL_law_317 : decode cL_law 317 = .ok (.ireturn, 1) := by decide +kernel
theorem dL_law_318 : decode cL_law 318 = .ok (.aload_n 1, 1) := by decide +kernel
theorem dL_law_319 : decode cL_law 319 = .ok (.aload_n 0, 1) := by decide +kernel
theorem dL_law_320 : decode cL_law 320 = .ok (.iload_n 3, 1) := by decide +kernel
theorem dL_law_321 : decode cL_law 321 = .ok (.iconst 1, 1) := by decide +kernel
theorem dL_law_322 : decode cL_law 322 = .ok (.iadd, 1) := by decide +kernel
theorem dL_law_323 : decode cL_law 323 = .ok (.iaload, 1) := by decide +kernel
theorem dL_law_324 : decode cL_law 324 = .ok (.aload_n 0, 1) := by decide +kernel
theorem dL_law_325 : decode cL_law 325 = .ok (.iload_n 3, 1) := by decide +kernel
theorem dL_law_326 : decode cL_law 326 = .ok (.iconst 2, 1) := by decide +kernel
theorem dL_law_327 : decode cL_law 327 = .ok (.iadd, 1) := by decide +kernel
theorem dL_law_328 : decode cL_law 328 = .ok (.iaload, 1) := by decide +kernel
theorem dL_law_329 : decode cL_law 329 = .ok (.invokevirtual 48, 3) := by decide +kernel
theorem dL_law_332 : decode cL_law 332 = .ok (.aload_n 2, 1) := by decide +kernel
theorem dL_law_333 : decode cL_law 333 = .ok (.aload_n 0, 1) := by decide +kernel
theorem dL_law_334 : decode cL_law 334 = .ok (.iload_n 3, 1) := by decide +kernel
theorem dL_law_335 : decode cL_law 335 = .ok (.iconst 1, 1) := by decide +kernel
theorem dL_law_336 : decode cL_law 336 = .ok (.iadd, 1) := by decide +kernel
theorem dL_law_337 : decode cL_law 337 = .ok (.iaload, 1) := by decide +kernel
theorem dL_law_338 : decode cL_law 338 = .ok (.aload_n 0, 1) := by decide +kernel
theorem dL_law_339 : decode cL_law 339 = .ok (.iload_n 3, 1) := by decide +kernel
theorem dL_law_340 : decode cL_law 340 = .ok (.iconst 2, 1) := by decide +kernel
theorem dL_law_341 : decode cL_law 341 = .ok (.iadd, 1) := by decide +kernel
theorem dL_law_342 : decode cL_law 342 = .ok (.iaload, 1) := by decide +kernel
theorem dL_law_343 : decode cL_law 343 = .ok (.invokevirtual 51, 3) := by decide +kernel
theorem dL_law_346 : decode cL_law 346 = .ok (.if_icmp .eq 381, 3) := by decide +kernel
theorem dL_law_349 : decode cL_law 349 = .ok (.iconst 0, 1) := by decide +kernel
theorem dL_law_350 : decode cL_law 350 = .ok (.ireturn, 1) := by decide +kernel
theorem dL_law_351 : decode cL_law 351 = .ok (.aload_n 1, 1) := by decide +kernel
theorem dL_law_352 : decode cL_law 352 = .ok (.aload_n 0, 1) := by decide +kernel
theorem dL_law_353 : decode cL_law 353 = .ok (.iload_n 3, 1) := by decide +kernel
theorem dL_law_354 : decode cL_law 354 = .ok (.iconst 1, 1) := by decide +kernel
theorem dL_law_355 : decode cL_law 355 = .ok (.iadd, 1) := by decide +kernel
theorem dL_law_356 : decode cL_law 356 = .ok (.iaload, 1) := by decide +kernel
theorem dL_law_357 : decode cL_law 357 = .ok (.aload_n 0, 1) := by decide +kernel
theorem dL_law_358 : decode cL_law 358 = .ok (.iload_n 3, 1) := by decide +kernel
theorem dL_law_359 : decode cL_law 359 = .ok (.iconst 2, 1) := by decide +kernel
theorem dL_law_360 : decode cL_law 360 = .ok (.iadd, 1) := by decide +kernel
theorem dL_law_361 : decode cL_law 361 = .ok (.iaload, 1) := by decide +kernel
theorem dL_law_362 : decode cL_law 362 = .ok (.invokevirtual 52, 3) := by decide +kernel
theorem dL_law_365 : decode cL_law 365 = .ok (.aload_n 2, 1) := by decide +kernel
theorem dL_law_366 : decode cL_law 366 = .ok (.aload_n 0, 1) := by decide +kernel
theorem dL_law_367 : decode cL_law 367 = .ok (.iload_n 3, 1) := by decide +kernel
theorem dL_law_368 : decode cL_law 368 = .ok (.iconst 1, 1) := by decide +kernel
theorem dL_law_369 : decode cL_law 369 = .ok (.iadd, 1) := by decide +kernel
theorem dL_law_370 : decode cL_law 370 = .ok (.iaload, 1) := by decide +kernel
theorem dL_law_371 : decode cL_law 371 = .ok (.aload_n 0, 1) := by decide +kernel
theorem dL_law_372 : decode cL_law 372 = .ok (.iload_n 3, 1) := by decide +kernel
theorem dL_law_373 : decode cL_law 373 = .ok (.iconst 2, 1) := by decide +kernel
theorem dL_law_374 : decode cL_law 374 = .ok (.iadd, 1) := by decide +kernel
theorem dL_law_375 : decode cL_law 375 = .ok (.iaload, 1) := by decide +kernel
theorem dL_law_376 : decode cL_law 376 = .ok (.invokevirtual 55, 3) := by decide +kernel
theorem dL_law_379 : decode cL_law 379 = .ok (.if_icmp .eq 348, 3) := by decide +kernel
theorem dL_law_382 : decode cL_law 382 = .ok (.iconst 0, 1) := by decide +kernel
theorem dL_law_383 : decode cL_law 383 = .ok (.ireturn, 1) := by decide +kernel
theorem dL_law_384 : decode cL_law 384 = .ok (.aload_n 1, 1) := by decide +kernel
theorem dL_law_385 : decode cL_law 385 = .ok (.aload_n 0, 1) := by decide +kernel
theorem dL_law_386 : decode cL_law 386 = .ok (.iload_n 3, 1) := by decide +kernel
theorem dL_law_387 : decode cL_law 387 = .ok (.iconst 1, 1) := by decide +kernel
theorem dL_law_388 : decode cL_law 388 = .ok (.iadd, 1) := by decide +kernel
theorem dL_law_389 : decode cL_law 389 = .ok (.iaload, 1) := by decide +kernel
theorem dL_law_390 : decode cL_law 390 = .ok (.invokevirtual 56, 3) := by decide +kernel
theorem dL_law_393 : decode cL_law 393 = .ok (.aload_n 2, 1) := by decide +kernel
theorem dL_law_394 : decode cL_law 394 = .ok (.aload_n 0, 1) := by decide +kernel
theorem dL_law_395 : decode cL_law 395 = .ok (.iload_n 3, 1) := by decide +kernel
theorem dL_law_396 : decode cL_law 396 = .ok (.iconst 1, 1) := by decide +kernel
theorem dL_law_397 : decode cL_law 397 = .ok (.iadd, 1) := by decide +kernel
theorem dL_law_398 : decode cL_law 398 = .ok (.iaload, 1) := by decide +kernel
theorem dL_law_399 : decode cL_law 399 = .ok (.invokevirtual 59, 3) := by decide +kernel
theorem dL_law_402 : decode cL_law 402 = .ok (.if_icmp .eq 325, 3) := by decide +kernel
theorem dL_law_405 : decode cL_law 405 = .ok (.iconst 0, 1) := by decide +kernel
theorem dL_law_406 : decode cL_law 406 = .ok (.ireturn, 1) := by decide +kernel
theorem dL_law_407 : decode cL_law 407 = .ok (.aload_n 1, 1) := by decide +kernel
theorem dL_law_408 : decode cL_law 408 = .ok (.aload_n 0, 1) := by decide +kernel
theorem dL_law_409 : decode cL_law 409 = .ok (.iload_n 3, 1) := by decide +kernel
theorem dL_law_410 : decode cL_law 410 = .ok (.iconst 1, 1) := by decide +kernel
theorem dL_law_411 : decode cL_law 411 = .ok (.iadd, 1) := by decide +kernel
theorem dL_law_412 : decode cL_law 412 = .ok (.iaload, 1) := by decide +kernel
theorem dL_law_413 : decode cL_law 413 = .ok (.aload_n 0, 1) := by decide +kernel
theorem dL_law_414 : decode cL_law 414 = .ok (.iload_n 3, 1) := by decide +kernel
theorem dL_law_415 : decode cL_law 415 = .ok (.iconst 2, 1) := by decide +kernel
theorem dL_law_416 : decode cL_law 416 = .ok (.iadd, 1) := by decide +kernel
theorem dL_law_417 : decode cL_law 417 = .ok (.iaload, 1) := by decide +kernel
theorem dL_law_418 : decode cL_law 418 = .ok (.aload_n 0, 1) := by decide +kernel
theorem dL_law_419 : decode cL_law 419 = .ok (.iload_n 3, 1) := by decide +kernel
theorem dL_law_420 : decode cL_law 420 = .ok (.iconst 3, 1) := by decide +kernel
theorem dL_law_421 : decode cL_law 421 = .ok (.iadd, 1) := by decide +kernel
theorem dL_law_422 : decode cL_law 422 = .ok (.iaload, 1) := by decide +kernel
theorem dL_law_423 : decode cL_law 423 = .ok (.invokevirtual 60, 3) := by decide +kernel
theorem dL_law_426 : decode cL_law 426 = .ok (.aload_n 2, 1) := by decide +kernel
theorem dL_law_427 : decode cL_law 427 = .ok (.aload_n 0, 1) := by decide +kernel
theorem dL_law_428 : decode cL_law 428 = .ok (.iload_n 3, 1) := by decide +kernel
theorem dL_law_429 : decode cL_law 429 = .ok (.iconst 1, 1) := by decide +kernel
theorem dL_law_430 : decode cL_law 430 = .ok (.iadd, 1) := by decide +kernel
theorem dL_law_431 : decode cL_law 431 = .ok (.iaload, 1) := by decide +kernel
theorem dL_law_432 : decode cL_law 432 = .ok (.aload_n 0, 1) := by decide +kernel
theorem dL_law_433 : decode cL_law 433 = .ok (.iload_n 3, 1) := by decide +kernel
theorem dL_law_434 : decode cL_law 434 = .ok (.iconst 2, 1) := by decide +kernel
theorem dL_law_435 : decode cL_law 435 = .ok (.iadd, 1) := by decide +kernel
theorem dL_law_436 : decode cL_law 436 = .ok (.iaload, 1) := by decide +kernel
theorem dL_law_437 : decode cL_law 437 = .ok (.aload_n 0, 1) := by decide +kernel
theorem dL_law_438 : decode cL_law 438 = .ok (.iload_n 3, 1) := by decide +kernel
theorem dL_law_439 : decode cL_law 439 = .ok (.iconst 3, 1) := by decide +kernel
theorem dL_law_440 : decode cL_law 440 = .ok (.iadd, 1) := by decide +kernel
theorem dL_law_441 : decode cL_law 441 = .ok (.iaload, 1) := by decide +kernel
theorem dL_law_442 : decode cL_law 442 = .ok (.invokevirtual 64, 3) := by decide +kernel
theorem dL_law_445 : decode cL_law 445 = .ok (.if_icmp .eq 282, 3) := by decide +kernel
theorem dL_law_448 : decode cL_law 448 = .ok (.iconst 0, 1) := by decide +kernel
theorem dL_law_449 : decode cL_law 449 = .ok (.ireturn, 1) := by decide +kernel
theorem dL_law_450 : decode cL_law 450 = .ok (.aload_n 1, 1) := by decide +kernel
theorem dL_law_451 : decode cL_law 451 = .ok (.aload_n 0, 1) := by decide +kernel
theorem dL_law_452 : decode cL_law 452 = .ok (.iload_n 3, 1) := by decide +kernel
theorem dL_law_453 : decode cL_law 453 = .ok (.iconst 1, 1) := by decide +kernel
theorem dL_law_454 : decode cL_law 454 = .ok (.iadd, 1) := by decide +kernel
theorem dL_law_455 : decode cL_law 455 = .ok (.iaload, 1) := by decide +kernel
theorem dL_law_456 : decode cL_law 456 = .ok (.invokevirtual 65, 3) := by decide +kernel
theorem dL_law_459 : decode cL_law 459 = .ok (.aload_n 2, 1) := by decide +kernel
theorem dL_law_460 : decode cL_law 460 = .ok (.aload_n 0, 1) := by decide +kernel
theorem dL_law_461 : decode cL_law 461 = .ok (.iload_n 3, 1) := by decide +kernel
theorem dL_law_462 : decode cL_law 462 = .ok (.iconst 1, 1) := by decide +kernel
theorem dL_law_463 : decode cL_law 463 = .ok (.iadd, 1) := by decide +kernel
theorem dL_law_464 : decode cL_law 464 = .ok (.iaload, 1) := by decide +kernel
theorem dL_law_465 : decode cL_law 465 = .ok (.invokevirtual 68, 3) := by decide +kernel
theorem dL_law_468 : decode cL_law 468 = .ok (.if_icmp .eq 259, 3) := by decide +kernel
theorem dL_law_471 : decode cL_law 471 = .ok (.iconst 0, 1) := by decide +kernel
theorem dL_law_472 : decode cL_law 472 = .ok (.ireturn, 1) := by decide +kernel
theorem dL_law_473 : decode cL_law 473 = .ok (.aload_n 1, 1) := by decide +kernel
theorem dL_law_474 : decode cL_law 474 = .ok (.aload_n 0, 1) := by decide +kernel
theorem dL_law_475 : decode cL_law 475 = .ok (.iload_n 3, 1) := by decide +kernel
theorem dL_law_476 : decode cL_law 476 = .ok (.iconst 1, 1) := by decide +kernel
theorem dL_law_477 : decode cL_law 477 = .ok (.iadd, 1) := by decide +kernel
theorem dL_law_478 : decode cL_law 478 = .ok (.iaload, 1) := by decide +kernel
theorem dL_law_479 : decode cL_law 479 = .ok (.invokevirtual 69, 3) := by decide +kernel
theorem dL_law_482 : decode cL_law 482 = .ok (.aload_n 2, 1) := by decide +kernel
theorem dL_law_483 : decode cL_law 483 = .ok (.aload_n 0, 1) := by decide +kernel
theorem dL_law_484 : decode cL_law 484 = .ok (.iload_n 3, 1) := by decide +kernel
theorem dL_law_485 : decode cL_law 485 = .ok (.iconst 1, 1) := by decide +kernel
theorem dL_law_486 : decode cL_law 486 = .ok (.iadd, 1) := by decide +kernel
theorem dL_law_487 : decode cL_law 487 = .ok (.iaload, 1) := by decide +kernel
theorem dL_law_488 : decode cL_law 488 = .ok (.invokevirtual 72, 3) := by decide +kernel
theorem dL_law_491 : decode cL_law 491 = .ok (.if_icmp .eq 236, 3) := by decide +kernel
theorem dL_law_494 : decode cL_law 494 = .ok (.iconst 0, 1) := by decide +kernel
theorem dL_law_495 : decode cL_law 495 = .ok (.ireturn, 1) := by decide +kernel
theorem dL_law_496 : decode cL_law 496 = .ok (.aload_n 1, 1) := by decide +kernel
theorem dL_law_497 : decode cL_law 497 = .ok (.aload_n 0, 1) := by decide +kernel
theorem dL_law_498 : decode cL_law 498 = .ok (.iload_n 3, 1) := by decide +kernel
theorem dL_law_499 : decode cL_law 499 = .ok (.iconst 1, 1) := by decide +kernel
theorem dL_law_500 : decode cL_law 500 = .ok (.iadd, 1) := by decide +kernel
theorem dL_law_501 : decode cL_law 501 = .ok (.iaload, 1) := by decide +kernel
theorem dL_law_502 : decode cL_law 502 = .ok (.invokevirtual 73, 3) := by decide +kernel
theorem dL_law_505 : decode cL_law 505 = .ok (.aload_n 2, 1) := by decide +kernel
theorem dL_law_506 : decode cL_law 506 = .ok (.aload_n 0, 1) := by decide +kernel
theorem dL_law_507 : decode cL_law 507 = .ok (.iload_n 3, 1) := by decide +kernel
theorem dL_law_508 : decode cL_law 508 = .ok (.iconst 1, 1) := by decide +kernel
theorem dL_law_509 : decode cL_law 509 = .ok (.iadd, 1) := by decide +kernel
theorem dL_law_510 : decode cL_law 510 = .ok (.iaload, 1) := by decide +kernel
theorem dL_law_511 : decode cL_law 511 = .ok (.invokevirtual 76, 3) := by decide +kernel
theorem dL_law_514 : decode cL_law 514 = .ok (.if_icmp .eq 213, 3) := by decide +kernel
theorem dL_law_517 : decode cL_law 517 = .ok (.iconst 0, 1) := by decide +kernel
theorem dL_law_518 : decode cL_law 518 = .ok (.ireturn, 1) := by decide +kernel
theorem dL_law_519 : decode cL_law 519 = .ok (.aload_n 1, 1) := by decide +kernel
theorem dL_law_520 : decode cL_law 520 = .ok (.aload_n 0, 1) := by decide +kernel
theorem dL_law_521 : decode cL_law 521 = .ok (.iload_n 3, 1) := by decide +kernel
theorem dL_law_522 : decode cL_law 522 = .ok (.iconst 1, 1) := by decide +kernel
theorem dL_law_523 : decode cL_law 523 = .ok (.iadd, 1) := by decide +kernel
theorem dL_law_524 : decode cL_law 524 = .ok (.iaload, 1) := by decide +kernel
theorem dL_law_525 : decode cL_law 525 = .ok (.aload_n 0, 1) := by decide +kernel
theorem dL_law_526 : decode cL_law 526 = .ok (.iload_n 3, 1) := by decide +kernel
theorem dL_law_527 : decode cL_law 527 = .ok (.iconst 2, 1) := by decide +kernel
theorem dL_law_528 : decode cL_law 528 = .ok (.iadd, 1) := by decide +kernel
theorem dL_law_529 : decode cL_law 529 = .ok (.iaload, 1) := by decide +kernel
theorem dL_law_530 : decode cL_law 530 = .ok (.invokevirtual 77, 3) := by decide +kernel
theorem dL_law_533 : decode cL_law 533 = .ok (.aload_n 2, 1) := by decide +kernel
theorem dL_law_534 : decode cL_law 534 = .ok (.aload_n 0, 1) := by decide +kernel
theorem dL_law_535 : decode cL_law 535 = .ok (.iload_n 3, 1) := by decide +kernel
theorem dL_law_536 : decode cL_law 536 = .ok (.iconst 1, 1) := by decide +kernel
theorem dL_law_537 : decode cL_law 537 = .ok (.iadd, 1) := by decide +kernel
theorem dL_law_538 : decode cL_law 538 = .ok (.iaload, 1) := by decide +kernel
theorem dL_law_539 : decode cL_law 539 = .ok (.aload_n 0, 1) := by decide +kernel
theorem dL_law_540 : decode cL_law 540 = .ok (.iload_n 3, 1) := by decide +kernel
theorem dL_law_541 : decode cL_law 541 = .ok (.iconst 2, 1) := by decide +kernel
theorem dL_law_542 : decode cL_law 542 = .ok (.iadd, 1) := by decide +kernel
theorem dL_law_543 : decode cL_law 543 = .ok (.iaload, 1) := by decide +kernel
theorem dL_law_544 : decode cL_law 544 = .ok (.invokevirtual 80, 3) := by decide +kernel
theorem dL_law_547 : decode cL_law 547 = .ok (.if_icmp .eq 180, 3) := by decide +kernel
theorem dL_law_550 : decode cL_law 550 = .ok (.iconst 0, 1) := by decide +kernel
theorem dL_law_551 : decode cL_law 551 = .ok (.ireturn, 1) := by decide +kernel
theorem dL_law_552 : decode cL_law 552 = .ok (.aload_n 1, 1) := by decide +kernel
theorem dL_law_553 : decode cL_law 553 = .ok (.aload_n 0, 1) := by decide +kernel
theorem dL_law_554 : decode cL_law 554 = .ok (.iload_n 3, 1) := by decide +kernel
theorem dL_law_555 : decode cL_law 555 = .ok (.iconst 1, 1) := by decide +kernel
theorem dL_law_556 : decode cL_law 556 = .ok (.iadd, 1) := by decide +kernel
theorem dL_law_557 : decode cL_law 557 = .ok (.iaload, 1) := by decide +kernel
theorem dL_law_558 : decode cL_law 558 = .ok (.invokevirtual 81, 3) := by decide +kernel
theorem dL_law_561 : decode cL_law 561 = .ok (.aload_n 2, 1) := by decide +kernel
theorem dL_law_562 : decode cL_law 562 = .ok (.aload_n 0, 1) := by decide +kernel
theorem dL_law_563 : decode cL_law 563 = .ok (.iload_n 3, 1) := by decide +kernel
theorem dL_law_564 : decode cL_law 564 = .ok (.iconst 1, 1) := by decide +kernel
theorem dL_law_565 : decode cL_law 565 = .ok (.iadd, 1) := by decide +kernel
theorem dL_law_566 : decode cL_law 566 = .ok (.iaload, 1) := by decide +kernel
theorem dL_law_567 : decode cL_law 567 = .ok (.invokevirtual 84, 3) := by decide +kernel
theorem dL_law_570 : decode cL_law 570 = .ok (.if_icmp .eq 157, 3) := by decide +kernel
theorem dL_law_573 : decode cL_law 573 = .ok (.iconst 0, 1) := by decide +kernel
theorem dL_law_574 : decode cL_law 574 = .ok (.ireturn, 1) := by decide +kernel
theorem dL_law_575 : decode cL_law 575 = .ok (.aload_n 1, 1) := by decide +kernel
theorem dL_law_576 : decode cL_law 576 = .ok (.aload_n 0, 1) := by decide +kernel
theorem dL_law_577 : decode cL_law 577 = .ok (.iload_n 3, 1) := by decide +kernel
theorem dL_law_578 : decode cL_law 578 = .ok (.iconst 1, 1) := by decide +kernel
theorem dL_law_579 : decode cL_law 579 = .ok (.iadd, 1) := by decide +kernel
theorem dL_law_580 : decode cL_law 580 = .ok (.iaload, 1) := by decide +kernel
theorem dL_law_581 : decode cL_law 581 = .ok (.invokevirtual 85, 3) := by decide +kernel
theorem dL_law_584 : decode cL_law 584 = .ok (.aload_n 2, 1) := by decide +kernel
theorem dL_law_585 : decode cL_law 585 = .ok (.aload_n 0, 1) := by decide +kernel
theorem dL_law_586 : decode cL_law 586 = .ok (.iload_n 3, 1) := by decide +kernel
theorem dL_law_587 : decode cL_law 587 = .ok (.iconst 1, 1) := by decide +kernel
theorem dL_law_588 : decode cL_law 588 = .ok (.iadd, 1) := by decide +kernel
theorem dL_law_589 : decode cL_law 589 = .ok (.iaload, 1) := by decide +kernel
theorem dL_law_590 : decode cL_law 590 = .ok (.invokevirtual 88, 3) := by decide +kernel
theorem dL_law_593 : decode cL_law 593 = .ok (.if_icmp .eq 134, 3) := by decide +kernel
theorem dL_law_596 : decode cL_law 596 = .ok (.iconst 0, 1) := by decide +kernel
theorem dL_law_597 : decode cL_law 597 = .ok (.ireturn, 1) := by decide +kernel
theorem dL_law_598 : decode cL_law 598 = .ok (.aload_n 1, 1) := by decide +kernel
theorem dL_law_599 : decode cL_law 599 = .ok (.invokevirtual 89, 3) := by decide +kernel
theorem dL_law_602 : decode cL_law 602 = .ok (.aload_n 2, 1) := by decide +kernel
theorem dL_law_603 : decode cL_law 603 = .ok (.invokevirtual 92, 3) := by decide +kernel
theorem dL_law_606 : decode cL_law 606 = .ok (.if_icmp .eq 121, 3) := by decide +kernel
theorem dL_law_609 : decode cL_law 609 = .ok (.iconst 0, 1) := by decide +kernel
theorem dL_law_610 : decode cL_law 610 = .ok (.ireturn, 1) := by decide +kernel
theorem dL_law_611 : decode cL_law 611 = .ok (.aload_n 1, 1) := by decide +kernel
theorem dL_law_612 : decode cL_law 612 = .ok (.aload_n 0, 1) := by decide +kernel
theorem dL_law_613 : decode cL_law 613 = .ok (.iload_n 3, 1) := by decide +kernel
theorem dL_law_614 : decode cL_law 614 = .ok (.iconst 1, 1) := by decide +kernel
theorem dL_law_615 : decode cL_law 615 = .ok (.iadd, 1) := by decide +kernel
theorem dL_law_616 : decode cL_law 616 = .ok (.iaload, 1) := by decide +kernel
theorem dL_law_617 : decode cL_law 617 = .ok (.invokevirtual 93, 3) := by decide +kernel
theorem dL_law_620 : decode cL_law 620 = .ok (.aload_n 2, 1) := by decide +kernel
theorem dL_law_621 : decode cL_law 621 = .ok (.aload_n 0, 1) := by decide +kernel
theorem dL_law_622 : decode cL_law 622 = .ok (.iload_n 3, 1) := by decide +kernel
theorem dL_law_623 : decode cL_law 623 = .ok (.iconst 1, 1) := by decide +kernel
theorem dL_law_624 : decode cL_law 624 = .ok (.iadd, 1) := by decide +kernel
theorem dL_law_625 : decode cL_law 625 = .ok (.iaload, 1) := by decide +kernel
theorem dL_law_626 : decode cL_law 626 = .ok (.invokevirtual 96, 3) := by decide +kernel
theorem dL_law_629 : decode cL_law 629 = .ok (.if_icmp .eq 98, 3) := by decide +kernel
theorem dL_law_632 : decode cL_law 632 = .ok (.iconst 0, 1) := by decide +kernel
theorem dL_law_633 : decode cL_law 633 = .ok (.ireturn, 1) := by decide +kernel
theorem dL_law_634 : decode cL_law 634 = .ok (.aload_n 1, 1) := by decide +kernel
theorem dL_law_635 : decode cL_law 635 = .ok (.aload_n 0, 1) := by decide +kernel
theorem dL_law_636 : decode cL_law 636 = .ok (.iload_n 3, 1) := by decide +kernel
theorem dL_law_637 : decode cL_law 637 = .ok (.iconst 1, 1) := by decide +kernel
theorem dL_law_638 : decode cL_law 638 = .ok (.iadd, 1) := by decide +kernel
theorem dL_law_639 : decode cL_law 639 = .ok (.iaload, 1) := by decide +kernel
theorem dL_law_640 : decode cL_law 640 = .ok (.aload_n 0, 1) := by decide +kernel
theorem dL_law_641 : decode cL_law 641 = .ok (.iload_n 3, 1) := by decide +kernel
theorem dL_law_642 : decode cL_law 642 = .ok (.iconst 2, 1) := by decide +kernel
theorem dL_law_643 : decode cL_law 643 = .ok (.iadd, 1) := by decide +kernel
theorem dL_law_644 : decode cL_law 644 = .ok (.iaload, 1) := by decide +kernel
theorem dL_law_645 : decode cL_law 645 = .ok (.invokevirtual 97, 3) := by decide +kernel
theorem dL_law_648 : decode cL_law 648 = .ok (.aload_n 2, 1) := by decide +kernel
theorem dL_law_649 : decode cL_law 649 = .ok (.aload_n 0, 1) := by decide +kernel
theorem dL_law_650 : decode cL_law 650 = .ok (.iload_n 3, 1) := by decide +kernel
theorem dL_law_651 : decode cL_law 651 = .ok (.iconst 1, 1) := by decide +kernel
theorem dL_law_652 : decode cL_law 652 = .ok (.iadd, 1) := by decide +kernel
theorem dL_law_653 : decode cL_law 653 = .ok (.iaload, 1) := by decide +kernel
theorem dL_law_654 : decode cL_law 654 = .ok (.aload_n 0, 1) := by decide +kernel
theorem dL_law_655 : decode cL_law 655 = .ok (.iload_n 3, 1) := by decide +kernel
theorem dL_law_656 : decode cL_law 656 = .ok (.iconst 2, 1) := by decide +kernel
theorem dL_law_657 : decode cL_law 657 = .ok (.iadd, 1) := by decide +kernel
theorem dL_law_658 : decode cL_law 658 = .ok (.iaload, 1) := by decide +kernel
theorem dL_law_659 : decode cL_law 659 = .ok (.invokevirtual 100, 3) := by decide +kernel
theorem dL_law_662 : decode cL_law 662 = .ok (.if_icmp .eq 65, 3) := by decide +kernel
theorem dL_law_665 : decode cL_law 665 = .ok (.iconst 0, 1) := by decide +kernel
theorem dL_law_666 : decode cL_law 666 = .ok (.ireturn, 1) := by decide +kernel
theorem dL_law_667 : decode cL_law 667 = .ok (.aload_n 1, 1) := by decide +kernel
theorem dL_law_668 : decode cL_law 668 = .ok (.aload_n 0, 1) := by decide +kernel
theorem dL_law_669 : decode cL_law 669 = .ok (.iload_n 3, 1) := by decide +kernel
theorem dL_law_670 : decode cL_law 670 = .ok (.iconst 1, 1) := by decide +kernel
theorem dL_law_671 : decode cL_law 671 = .ok (.iadd, 1) := by decide +kernel
theorem dL_law_672 : decode cL_law 672 = .ok (.iaload, 1) := by decide +kernel
theorem dL_law_673 : decode cL_law 673 = .ok (.invokevirtual 101, 3) := by decide +kernel
theorem dL_law_676 : decode cL_law 676 = .ok (.aload_n 2, 1) := by decide +kernel
theorem dL_law_677 : decode cL_law 677 = .ok (.aload_n 0, 1) := by decide +kernel
theorem dL_law_678 : decode cL_law 678 = .ok (.iload_n 3, 1) := by decide +kernel
theorem dL_law_679 : decode cL_law 679 = .ok (.iconst 1, 1) := by decide +kernel
theorem dL_law_680 : decode cL_law 680 = .ok (.iadd, 1) := by decide +kernel
theorem dL_law_681 : decode cL_law 681 = .ok (.iaload, 1) := by decide +kernel
theorem dL_law_682 : decode cL_law 682 = .ok (.invokevirtual 104, 3) := by decide +kernel
theorem dL_law_685 : decode cL_law 685 = .ok (.if_icmp .eq 42, 3) := by decide +kernel
theorem dL_law_688 : decode cL_law 688 = .ok (.iconst 0, 1) := by decide +kernel
theorem dL_law_689 : decode cL_law 689 = .ok (.ireturn, 1) := by decide +kernel
theorem dL_law_690 : decode cL_law 690 = .ok (.aload_n 1, 1) := by decide +kernel
theorem dL_law_691 : decode cL_law 691 = .ok (.aload_n 0, 1) := by decide +kernel
theorem dL_law_692 : decode cL_law 692 = .ok (.iload_n 3, 1) := by decide +kernel
theorem dL_law_693 : decode cL_law 693 = .ok (.iconst 1, 1) := by decide +kernel
theorem dL_law_694 : decode cL_law 694 = .ok (.iadd, 1) := by decide +kernel
theorem dL_law_695 : decode cL_law 695 = .ok (.iaload, 1) := by decide +kernel
theorem dL_law_696 : decode cL_law 696 = .ok (.invokevirtual 105, 3) := by decide +kernel
theorem dL_law_699 : decode cL_law 699 = .ok (.aload_n 2, 1) := by decide +kernel
theorem dL_law_700 : decode cL_law 700 = .ok (.aload_n 0, 1) := by decide +kernel
theorem dL_law_701 : decode cL_law 701 = .ok (.iload_n 3, 1) := by decide +kernel
theorem dL_law_702 : decode cL_law 702 = .ok (.iconst 1, 1) := by decide +kernel
theorem dL_law_703 : decode cL_law 703 = .ok (.iadd, 1) := by decide +kernel
theorem dL_law_704 : decode cL_law 704 = .ok (.iaload, 1) := by decide +kernel
theorem dL_law_705 : decode cL_law 705 = .ok (.invokevirtual 108, 3) := by decide +kernel
theorem dL_law_708 : decode cL_law 708 = .ok (.if_icmp .eq 19, 3) := by decide +kernel
theorem dL_law_711 : decode cL_law 711 = .ok (.iconst 0, 1) := by decide +kernel
theorem dL_law_712 : decode cL_law 712 = .ok (.ireturn, 1) := by decide +kernel
theorem dL_law_713 : decode cL_law 713 = .ok (.aload_n 1, 1) := by decide +kernel
theorem dL_law_714 : decode cL_law 714 = .ok (.invokevirtual 109, 3) := by decide +kernel
theorem dL_law_717 : decode cL_law 717 = .ok (.aload_n 2, 1) := by decide +kernel
theorem dL_law_718 : decode cL_law 718 = .ok (.invokevirtual 113, 3) := by decide +kernel
theorem dL_law_721 : decode cL_law 721 = .ok (.lcmp, 1) := by decide +kernel
theorem dL_law_722 : decode cL_law 722 = .ok (.ifCond .eq 5, 3) := by decide +kernel
theorem dL_law_725 : decode cL_law 725 = .ok (.iconst 0, 1) := by decide +kernel
theorem dL_law_726 : decode cL_law 726 = .ok (.ireturn, 1) := by decide +kernel
theorem dL_law_727 : decode cL_law 727 = .ok (.iinc 3 4, 3) := by decide +kernel
theorem dL_law_730 : decode cL_law 730 = .ok (.goto (-712), 3) := by decide +kernel
theorem dL_law_733 : decode cL_law 733 = .ok (.iconst 1, 1) := by decide +kernel
theorem dL_law_734 : decode cL_law 734 = .ok (.ireturn, 1) := by decide +kernel
end
section
theorem dX8_init_0 : decode cX8_init 0 = .ok (.aload_n 0, 1) := by decide +kernel
theorem dX8_init_1 : decode cX8_init 1 = .ok (.invokespecial 1, 3) := by decide +kernel
theorem dX8_init_4 : decode cX8_init 4 = .ok (.aload_n 0, 1) := by decide +kernel
theorem dX8_init_5 : decode cX8_init 5 = .ok (.bipush 48, 2) := by decide +kernel
theorem dX8_init_7 : decode cX8_init 7 = .ok (.newarray .int, 2) := by decide +kernel
theorem dX8_init_9 : decode cX8_init 9 = .ok (.putfield 7, 3) := by decide +kernel
theorem dX8_init_12 : decode cX8_init 12 = .ok (.aload_n 0, 1) := by decide +kernel
theorem dX8_init_13 : decode cX8_init 13 = .ok (.bipush 12, 2) := by decide +kernel
theorem dX8_init_15 : decode cX8_init 15 = .ok (.newarray .int, 2) := by decide +kernel
theorem dX8_init_17 : decode cX8_init 17 = .ok (.putfield 13, 3) := by decide +kernel
theorem dX8_init_20 : decode cX8_init 20 = .ok (.aload_n 0, 1) := by decide +kernel
theorem dX8_init_21 : decode cX8_init 21 = .ok (.iconst 4, 1) := by decide +kernel
theorem dX8_init_22 : decode cX8_init 22 = .ok (.newarray .int, 2) := by decide +kernel
theorem dX8_init_24 : decode cX8_init 24 = .ok (.putfield 16, 3) := by decide +kernel
theorem dX8_init_27 : decode cX8_init 27 = .ok (.aload_n 0, 1) := by decide +kernel
theorem dX8_init_28 : decode cX8_init 28 = .ok (.bipush 60, 2) := by decide +kernel
theorem dX8_init_30 : decode cX8_init 30 = .ok (.newarray .int, 2) := by decide +kernel
theorem dX8_init_32 : decode cX8_init 32 = .ok (.putfield 19, 3) := by decide +kernel
theorem dX8_init_35 : decode cX8_init 35 = .ok (.aload_n 0, 1) := by decide +kernel
theorem dX8_init_36 : decode cX8_init 36 = .ok (.bipush 48, 2) := by decide +kernel
theorem dX8_init_38 : decode cX8_init 38 = .ok (.newarray .int, 2) := by decide +kernel
theorem dX8_init_40 : decode cX8_init 40 = .ok (.putfield 22, 3) := by decide +kernel
theorem dX8_init_43 : decode cX8_init 43 = .ok (.aload_n 0, 1) := by decide +kernel
theorem dX8_init_44 : decode cX8_init 44 = .ok (.iconst 4, 1) := by decide +kernel
theorem dX8_init_45 : decode cX8_init 45 = .ok (.newarray .int, 2) := by decide +kernel
theorem dX8_init_47 : decode cX8_init 47 = .ok (.putfield 25, 3) := by decide +kernel
theorem dX8_init_50 : decode cX8_init 50 = .ok (.aload_n 0, 1) := by decide +kernel
theorem dX8_init_51 : decode cX8_init 51 = .ok (.iconst 4, 1) := by decide +kernel
theorem dX8_init_52 : decode cX8_init 52 = .ok (.newarray .int, 2) := by decide +kernel
theorem dX8_init_54 : decode cX8_init 54 = .ok (.putfield 28, 3) := by decide +kernel
theorem dX8_init_57 : decode cX8_init 57 = .ok (.aload_n 0, 1) := by decide +kernel
theorem dX8_init_58 : decode cX8_init 58 = .ok (.iconst 4, 1) := by decide +kernel
theorem dX8_init_59 : decode cX8_init 59 = .ok (.newarray .int, 2) := by decide +kernel
theorem dX8_init_61 : decode cX8_init 61 = .ok (.putfield 31, 3) := by decide +kernel
theorem dX8_init_64 : decode cX8_init 64 = .ok (.aload_n 0, 1) := by decide +kernel
theorem dX8_init_65 : decode cX8_init 65 = .ok (.bipush 12, 2) := by decide +kernel
theorem dX8_init_67 : decode cX8_init 67 = .ok (.newarray .int, 2) := by decide +kernel
theorem dX8_init_69 : decode cX8_init 69 = .ok (.putfield 34, 3) := by decide +kernel
theorem dX8_init_72 : decode cX8_init 72 = .ok (.aload_n 0, 1) := by decide +kernel
theorem dX8_init_73 : decode cX8_init 73 = .ok (.bipush 12, 2) := by decide +kernel
theorem dX8_init_75 : decode cX8_init 75 = .ok (.newarray .int, 2) := by decide +kernel
theorem dX8_init_77 : decode cX8_init 77 = .ok (.putfield 37, 3) := by decide +kernel
theorem dX8_init_80 : decode cX8_init 80 = .ok (.aload_n 0, 1) := by decide +kernel
theorem dX8_init_81 : decode cX8_init 81 = .ok (.bipush 12, 2) := by decide +kernel
theorem dX8_init_83 : decode cX8_init 83 = .ok (.newarray .int, 2) := by decide +kernel
theorem dX8_init_85 : decode cX8_init 85 = .ok (.putfield 40, 3) := by decide +kernel
theorem dX8_init_88 : decode cX8_init 88 = .ok (.aload_n 0, 1) := by decide +kernel
theorem dX8_init_89 : decode cX8_init 89 = .ok (.iconst 4, 1) := by decide +kernel
theorem dX8_init_90 : decode cX8_init 90 = .ok (.newarray .int, 2) := by decide +kernel
theorem dX8_init_92 : decode cX8_init 92 = .ok (.putfield 43, 3) := by decide +kernel
theorem dX8_init_95 : decode cX8_init 95 = .ok (.aload_n 0, 1) := by decide +kernel
theorem dX8_init_96 : decode cX8_init 96 = .ok (.bipush 16, 2) := by decide +kernel
theorem dX8_init_98 : decode cX8_init 98 = .ok (.newarray .int, 2) := by decide +kernel
theorem dX8_init_100 : decode cX8_init 100 = .ok (.putfield 46, 3) := by decide +kernel
theorem dX8_init_103 : decode cX8_init 103 = .ok (.aload_n 0, 1) := by decide +kernel
theorem dX8_init_104 : decode cX8_init 104 = .ok (.iconst 5, 1) := by decide +kernel
theorem dX8_init_105 : decode cX8_init 105 = .ok (.newarray .int, 2) := by decide +kernel
theorem dX8_init_107 : decode cX8_init 107 = .ok (.putfield 49, 3) := by decide +kernel
theorem dX8_init_110 : decode cX8_init 110 = .ok (.aload_n 0, 1) := by decide +kernel
theorem dX8_init_111 : decode cX8_init 111 = .ok (.iconst 5, 1) := by decide +kernel
theorem dX8_init_112 : decode cX8_init 112 = .ok (.newarray .boolean, 2) := by decide +kernel
theorem dX8_init_114 : decode cX8_init 114 = .ok (.putfield 52, 3) := by decide +kernel
theorem dX8_init_117 : decode cX8_init 117 = .ok (.aload_n 0, 1) := by decide +kernel
theorem dX8_init_118 : decode cX8_init 118 = .ok (.iconst 4, 1) := by decide +kernel
theorem dX8_init_119 : decode cX8_init 119 = .ok (.newarray .int, 2) := by decide +kernel
theorem dX8_init_121 : decode cX8_init 121 = .ok (.putfield 56, 3) := by decide +kernel
theorem dX8_init_124 : decode cX8_init 124 = .ok (.aload_n 0, 1) := by decide +kernel
theorem dX8_init_125 : decode cX8_init 125 = .ok (.sipush 2000, 3) := by decide +kernel
theorem dX8_init_128 : decode cX8_init 128 = .ok (.newarray .int, 2) := by decide +kernel
theorem dX8_init_130 : decode cX8_init 130 = .ok (.putfield 59, 3) := by decide +kernel
theorem dX8_init_133 : decode cX8_init 133 = .ok (.aload_n 0, 1) := by decide +kernel
theorem dX8_init_134 : decode cX8_init 134 = .ok (.invokevirtual 62, 3) := by decide +kernel
theorem dX8_init_137 : decode cX8_init 137 = .ok (.return_, 1) := by decide +kernel
theorem dX8_within_0 : decode cX8_within 0 = .ok (.iload_n 0, 1) := by decide +kernel
theorem dX8_within_1 : decode cX8_within 1 = .ok (.iload_n 1, 1) := by decide +kernel
theorem dX8_within_2 : decode cX8_within 2 = .ok (.if_icmp .lt 12, 3) := by decide +kernel
theorem dX8_within_5 : decode cX8_within 5 = .ok (.iload_n 0, 1) := by decide +kernel
theorem dX8_within_6 : decode cX8_within 6 = .ok (.iload_n 2, 1) := by decide +kernel
theorem dX8_within_7 : decode cX8_within 7 = .ok (.if_icmp .gt 7, 3) := by decide +kernel
theorem dX8_within_10 : decode cX8_within 10 = .ok (.iconst 1, 1) := by decide +kernel
theorem dX8_within_11 : decode cX8_within 11 = .ok (.goto 4, 3) := by decide +kernel
theorem dX8_within_14 : decode cX8_within 14 = .ok (.iconst 0, 1) := by decide +kernel
theorem dX8_within_15 : decode cX8_within 15 = .ok (.ireturn, 1) := by decide +kernel
theorem dX8_clearBoard_0 : decode cX8_clearBoard 0 = .ok (.iconst 0, 1) := by decide +kernel
theorem dX8_clearBoard_1 : decode cX8_clearBoard 1 = .ok (.istore_n 1, 1) := by decide +kernel
theorem dX8_clearBoard_2 : decode cX8_clearBoard 2 = .ok (.iload_n 1, 1) := by decide +kernel
theorem dX8_clearBoard_3 : decode cX8_clearBoard 3 = .ok (.iconst 4, 1) := by decide +kernel
theorem dX8_clearBoard_4 : decode cX8_clearBoard 4 = .ok (.if_icmp .ge 16, 3) := by decide +kernel
theorem dX8_clearBoard_7 : decode cX8_clearBoard 7 = .ok (.aload_n 0, 1) := by decide +kernel
theorem dX8_clearBoard_8 : decode cX8_clearBoard 8 = .ok (.getfield 16, 3) := by decide +kernel
theorem dX8_clearBoard_11 : decode cX8_clearBoard 11 = .ok (.iload_n 1, 1) := by decide +kernel
theorem dX8_clearBoard_12 : decode cX8_clearBoard 12 = .ok (.iconst (-1), 1) := by decide +kernel
theorem dX8_clearBoard_13 : decode cX8_clearBoard 13 = .ok (.iastore, 1) := by decide +kernel
theorem dX8_clearBoard_14 : decode cX8_clearBoard 14 = .ok (.iinc 1 1, 3) := by decide +kernel
theorem dX8_clearBoard_17 : decode cX8_clearBoard 17 = .ok (.goto (-15), 3) := by decide +kernel
theorem dX8_clearBoard_20 : decode cX8_clearBoard 20 = .ok (.return_, 1) := by decide +kernel
theorem dX8_letter_0 : decode cX8_letter 0 = .ok (.iload_n 1, 1) := by decide +kernel
theorem dX8_letter_1 : decode cX8_letter 1 = .ok (.bipush 32, 2) := by decide +kernel
theorem dX8_letter_3 : decode cX8_letter 3 = .ok (.bipush 126, 2) := by decide +kernel
theorem dX8_letter_5 : decode cX8_letter 5 = .ok (.invokestatic 65, 3) := by decide +kernel
theorem dX8_letter_8 : decode cX8_letter 8 = .ok (.ifCond .ne 6, 3) := by decide +kernel
theorem dX8_letter_11 : decode cX8_letter 11 = .ok (.bipush (-102), 2) := by decide +kernel
theorem dX8_letter_13 : decode cX8_letter 13 = .ok (.ireturn, 1) := by decide +kernel
theorem dX8_letter_14 : decode cX8_letter 14 = .ok (.aload_n 0, 1) := by decide +kernel
theorem dX8_letter_15 : decode cX8_letter 15 = .ok (.getfield 69, 3) := by decide +kernel
theorem dX8_letter_18 : decode cX8_letter 18 = .ok (.bipush 60, 2) := by decide +kernel
theorem dX8_letter_20 : decode cX8_letter 20 = .ok (.if_icmp .ne 6, 3) := by decide +kernel
theorem dX8_letter_23 : decode cX8_letter 23 = .ok (.bipush (-104), 2) := by decide +kernel
theorem dX8_letter_25 : decode cX8_letter 25 = .ok (.ireturn, 1) := by decide +kernel
theorem dX8_letter_26 : decode cX8_letter 26 = .ok (.aload_n 0, 1) := by decide +kernel
theorem dX8_letter_27 : decode cX8_letter 27 = .ok (.getfield 19, 3) := by decide +kernel
theorem dX8_letter_30 : decode cX8_letter 30 = .ok (.aload_n 0, 1) := by decide +kernel
theorem dX8_letter_31 : decode cX8_letter 31 = .ok (.getfield 69, 3) := by decide +kernel
theorem dX8_letter_34 : decode cX8_letter 34 = .ok (.iload_n 1, 1) := by decide +kernel
theorem dX8_letter_35 : decode cX8_letter 35 = .ok (.iastore, 1) := by decide +kernel
theorem dX8_letter_36 : decode cX8_letter 36 = .ok (.aload_n 0, 1) := by decide +kernel
theorem dX8_letter_37 : decode cX8_letter 37 = .ok (.dup, 1) := by decide +kernel
theorem dX8_letter_38 : decode cX8_letter 38 = .ok (.getfield 69, 3) := by decide +kernel
theorem dX8_letter_41 : decode cX8_letter 41 = .ok (.iconst 1, 1) := by decide +kernel
theorem dX8_letter_42 : decode cX8_letter 42 = .ok (.iadd, 1) := by decide +kernel
theorem dX8_letter_43 : decode cX8_letter 43 = .ok (.putfield 69, 3) := by decide +kernel
theorem dX8_letter_46 : decode cX8_letter 46 = .ok (.aload_n 0, 1) := by decide +kernel
theorem dX8_letter_47 : decode cX8_letter 47 = .ok (.getfield 69, 3) := by decide +kernel
theorem dX8_letter_50 : decode cX8_letter 50 = .ok (.ireturn, 1) := by decide +kernel
theorem dX8_blank_0 : decode cX8_blank 0 = .ok (.aload_n 0, 1) := by decide +kernel
theorem dX8_blank_1 : decode cX8_blank 1 = .ok (.getfield 69, 3) := by decide +kernel
theorem dX8_blank_4 : decode cX8_blank 4 = .ok (.istore_n 1, 1) := by decide +kernel
theorem dX8_blank_5 : decode cX8_blank 5 = .ok (.aload_n 0, 1) := by decide +kernel
theorem dX8_blank_6 : decode cX8_blank 6 = .ok (.iconst 0, 1) := by decide +kernel
theorem dX8_blank_7 : decode cX8_blank 7 = .ok (.putfield 69, 3) := by decide +kernel
theorem dX8_blank_10 : decode cX8_blank 10 = .ok (.iload_n 1, 1) := by decide +kernel
theorem dX8_blank_11 : decode cX8_blank 11 = .ok (.ireturn, 1) := by decide +kernel
theorem dX8_isTwice_0 : decode cX8_isTwice 0 = .ok (.iconst 0, 1) := by decide +kernel
theorem dX8_isTwice_1 : decode cX8_isTwice 1 = .ok (.istore_n 1, 1) := by decide +kernel
theorem dX8_isTwice_2 : decode cX8_isTwice 2 = .ok (.iconst 0, 1) := by decide +kernel
theorem dX8_isTwice_3 : decode cX8_isTwice 3 = .ok (.istore_n 2, 1) := by decide +kernel
theorem dX8_isTwice_4 : decode cX8_isTwice 4 = .ok (.iload_n 2, 1) := by decide +kernel
theorem dX8_isTwice_5 : decode cX8_isTwice 5 = .ok (.aload_n 0, 1) := by decide +kernel
theorem dX8_isTwice_6 : decode cX8_isTwice 6 = .ok (.getfield 73, 3) := by decide +kernel
theorem dX8_isTwice_9 : decode cX8_isTwice 9 = .ok (.if_icmp .ge 81, 3) := by decide +kernel
theorem dX8_isTwice_12 : decode cX8_isTwice 12 = .ok (.iconst 1, 1) := by decide +kernel
theorem dX8_isTwice_13 : decode cX8_isTwice 13 = .ok (.istore_n 3, 1) := by decide +kernel
theorem dX8_isTwice_14 : decode cX8_isTwice 14 = .ok (.iconst 0, 1) := by decide +kernel
theorem dX8_isTwice_15 : decode cX8_isTwice 15 = .ok (.istore 4, 2) := by decide +kernel
theorem dX8_isTwice_17 : decode cX8_isTwice 17 = .ok (.iload 4, 2) := by decide +kernel
theorem dX8_isTwice_19 : decode cX8_isTwice 19 = .ok (.aload_n 0, 1) := by decide +kernel
theorem dX8_isTwice_20 : decode cX8_isTwice 20 = .ok (.getfield 76, 3) := by decide +kernel
theorem dX8_isTwice_23 : decode cX8_isTwice 23 = .ok (.if_icmp .ge 47, 3) := by decide +kernel
theorem dX8_isTwice_26 : decode cX8_isTwice 26 = .ok (.iload_n 3, 1) := by decide +kernel
theorem dX8_isTwice_27 : decode cX8_isTwice 27 = .ok (.ifCond .eq 35, 3) := by decide +kernel
theorem dX8_isTwice_30 : decode cX8_isTwice 30 = .ok (.aload_n 0, 1) := by decide +kernel
theorem dX8_isTwice_31 : decode cX8_isTwice 31 = .ok (.getfield 22, 3) := by decide +kernel
theorem dX8_isTwice_34 : decode cX8_isTwice 34 = .ok (.iconst 4, 1) := by decide +kernel
theorem dX8_isTwice_35 : decode cX8_isTwice 35 = .ok (.iload_n 2, 1) := by decide +kernel
theorem dX8_isTwice_36 : decode cX8_isTwice 36 = .ok (.imul, 1) := by decide +kernel
theorem dX8_isTwice_37 : decode cX8_isTwice 37 = .ok (.iload 4, 2) := by decide +kernel
theorem dX8_isTwice_39 : decode cX8_isTwice 39 = .ok (.iadd, 1) := by decide +kernel
theorem dX8_isTwice_40 : decode cX8_isTwice 40 = .ok (.iaload, 1) := by decide +kernel
theorem dX8_isTwice_41 : decode cX8_isTwice 41 = .ok (.aload_n 0, 1) := by decide +kernel
theorem dX8_isTwice_42 : decode cX8_isTwice 42 = .ok (.getfield 22, 3) := by decide +kernel
theorem dX8_isTwice_45 : decode cX8_isTwice 45 = .ok (.iconst 4, 1) := by decide +kernel
theorem dX8_isTwice_46 : decode cX8_isTwice 46 = .ok (.aload_n 0, 1) := by decide +kernel
theorem dX8_isTwice_47 : decode cX8_isTwice 47 = .ok (.getfield 73, 3) := by decide +kernel
theorem dX8_isTwice_50 : decode cX8_isTwice 50 = .ok (.imul, 1) := by decide +kernel
theorem dX8_isTwice_51 : decode cX8_isTwice 51 = .ok (.iload 4, 2) := by decide +kernel
theorem dX8_isTwice_53 : decode cX8_isTwice 53 = .ok (.iadd, 1) := by decide +kernel
theorem dX8_isTwice_54 : decode cX8_isTwice 54 = .ok (.iaload, 1) := by decide +kernel
theorem dX8_isTwice_55 : decode cX8_isTwice 55 = .ok (.if_icmp .ne 7, 3) := by decide +kernel
theorem dX8_isTwice_58 : decode cX8_isTwice 58 = .ok (.iconst 1, 1) := by decide +kernel
theorem dX8_isTwice_59 : decode cX8_isTwice 59 = .ok (.goto 4, 3) := by decide +kernel
theorem dX8_isTwice_62 : decode cX8_isTwice 62 = .ok (.iconst 0, 1) := by decide +kernel
theorem dX8_isTwice_63 : decode cX8_isTwice 63 = .ok (.istore_n 3, 1) := by decide +kernel
theorem dX8_isTwice_64 : decode cX8_isTwice 64 = .ok (.iinc 4 1, 3) := by decide +kernel
theorem dX8_isTwice_67 : decode cX8_isTwice 67 = .ok (.goto (-50), 3) := by decide +kernel
theorem dX8_isTwice_70 : decode cX8_isTwice 70 = .ok (.iload_n 1, 1) := by decide +kernel
theorem dX8_isTwice_71 : decode cX8_isTwice 71 = .ok (.ifCond .ne 7, 3) := by decide +kernel
theorem dX8_isTwice_74 : decode cX8_isTwice 74 = .ok (.iload_n 3, 1) := by decide +kernel
theorem dX8_isTwice_75 : decode cX8_isTwice 75 = .ok (.ifCond .eq 7, 3) := by decide +kernel
theorem dX8_isTwice_78 : decode cX8_isTwice 78 = .ok (.iconst 1, 1) := by decide +kernel
theorem dX8_isTwice_79 : decode cX8_isTwice 79 = .ok (.goto 4, 3) := by decide +kernel
theorem dX8_isTwice_82 : decode cX8_isTwice 82 = .ok (.iconst 0, 1) := by decide +kernel
theorem dX8_isTwice_83 : decode cX8_isTwice 83 = .ok (.istore_n 1, 1) := by decide +kernel
theorem dX8_isTwice_84 : decode cX8_isTwice 84 = .ok (.iinc 2 1, 3) := by decide +kernel
theorem dX8_isTwice_87 : decode cX8_isTwice 87 = .ok (.goto (-83), 3) := by decide +kernel
theorem dX8_isTwice_90 : decode cX8_isTwice 90 = .ok (.iload_n 1, 1) := by decide +kernel
theorem dX8_isTwice_91 : decode cX8_isTwice 91 = .ok (.ireturn, 1) := by decide +kernel
theorem dX8_takesComma_0 : decode cX8_takesComma 0 = .ok (.aload_n 0, 1) := by decide +kernel
theorem dX8_takesComma_1 : decode cX8_takesComma 1 = .ok (.getfield 76, 3) := by decide +kernel
theorem dX8_takesComma_4 : decode cX8_takesComma 4 = .ok (.ifCond .ne 19, 3) := by decide +kernel
theorem dX8_takesComma_7 : decode cX8_takesComma 7 = .ok (.aload_n 0, 1) := by decide +kernel
theorem dX8_takesComma_8 : decode cX8_takesComma 8 = .ok (.getfield 79, 3) := by decide +kernel
theorem dX8_takesComma_11 : decode cX8_takesComma 11 = .ok (.iconst 2, 1) := by decide +kernel
theorem dX8_takesComma_12 : decode cX8_takesComma 12 = .ok (.if_icmp .lt 7, 3) := by decide +kernel
theorem dX8_takesComma_15 : decode cX8_takesComma 15 = .ok (.iconst 1, 1) := by decide +kernel
theorem dX8_takesComma_16 : decode cX8_takesComma 16 = .ok (.goto 23, 3) := by decide +kernel
theorem dX8_takesComma_19 : decode cX8_takesComma 19 = .ok (.iconst 0, 1) := by decide +kernel
theorem dX8_takesComma_20 : decode cX8_takesComma 20 = .ok (.goto 19, 3) := by decide +kernel
theorem dX8_takesComma_23 : decode cX8_takesComma 23 = .ok (.aload_n 0, 1) := by decide +kernel
theorem dX8_takesComma_24 : decode cX8_takesComma 24 = .ok (.getfield 79, 3) := by decide +kernel
theorem dX8_takesComma_27 : decode cX8_takesComma 27 = .ok (.aload_n 0, 1) := by decide +kernel
theorem dX8_takesComma_28 : decode cX8_takesComma 28 = .ok (.getfield 76, 3) := by decide +kernel
theorem dX8_takesComma_31 : decode cX8_takesComma 31 = .ok (.if_icmp .ne 7, 3) := by decide +kernel
theorem dX8_takesComma_34 : decode cX8_takesComma 34 = .ok (.iconst 1, 1) := by decide +kernel
theorem dX8_takesComma_35 : decode cX8_takesComma 35 = .ok (.goto 4, 3) := by decide +kernel
theorem dX8_takesComma_38 : decode cX8_takesComma 38 = .ok (.iconst 0, 1) := by decide +kernel
theorem dX8_takesComma_39 : decode cX8_takesComma 39 = .ok (.istore_n 1, 1) := by decide +kernel
theorem dX8_takesComma_40 : decode cX8_takesComma 40 = .ok (.iload_n 1, 1) := by decide +kernel
theorem dX8_takesComma_41 : decode cX8_takesComma 41 = .ok (.ifCond .eq 14, 3) := by decide +kernel
theorem dX8_takesComma_44 : decode cX8_takesComma 44 = .ok (.aload_n 0, 1) := by decide +kernel
theorem dX8_takesComma_45 : decode cX8_takesComma 45 = .ok (.getfield 73, 3) := by decide +kernel
theorem dX8_takesComma_48 : decode cX8_takesComma 48 = .ok (.iconst 1, 1) := by decide +kernel
theorem dX8_takesComma_49 : decode cX8_takesComma 49 = .ok (.iadd, 1) := by decide +kernel
theorem dX8_takesComma_50 : decode cX8_takesComma 50 = .ok (.bipush 12, 2) := by decide +kernel
theorem dX8_takesComma_52 : decode cX8_takesComma 52 = .ok (.if_icmp .ne 5, 3) := by decide +kernel
theorem dX8_takesComma_55 : decode cX8_takesComma 55 = .ok (.iconst 0, 1) := by decide +kernel
theorem dX8_takesComma_56 : decode cX8_takesComma 56 = .ok (.ireturn, 1) := by decide +kernel
theorem dX8_takesComma_57 : decode cX8_takesComma 57 = .ok (.aload_n 0, 1) := by decide +kernel
theorem dX8_takesComma_58 : decode cX8_takesComma 58 = .ok (.aload_n 0, 1) := by decide +kernel
theorem dX8_takesComma_59 : decode cX8_takesComma 59 = .ok (.getfield 79, 3) := by decide +kernel
theorem dX8_takesComma_62 : decode cX8_takesComma 62 = .ok (.putfield 76, 3) := by decide +kernel
theorem dX8_takesComma_65 : decode cX8_takesComma 65 = .ok (.aload_n 0, 1) := by decide +kernel
theorem dX8_takesComma_66 : decode cX8_takesComma 66 = .ok (.dup, 1) := by decide +kernel
theorem dX8_takesComma_67 : decode cX8_takesComma 67 = .ok (.getfield 73, 3) := by decide +kernel
theorem dX8_takesComma_70 : decode cX8_takesComma 70 = .ok (.iconst 1, 1) := by decide +kernel
theorem dX8_takesComma_71 : decode cX8_takesComma 71 = .ok (.iadd, 1) := by decide +kernel
theorem dX8_takesComma_72 : decode cX8_takesComma 72 = .ok (.putfield 73, 3) := by decide +kernel
theorem dX8_takesComma_75 : decode cX8_takesComma 75 = .ok (.aload_n 0, 1) := by decide +kernel
theorem dX8_takesComma_76 : decode cX8_takesComma 76 = .ok (.iconst 0, 1) := by decide +kernel
theorem dX8_takesComma_77 : decode cX8_takesComma 77 = .ok (.putfield 79, 3) := by decide +kernel
theorem dX8_takesComma_80 : decode cX8_takesComma 80 = .ok (.iconst 1, 1) := by decide +kernel
theorem dX8_takesComma_81 : decode cX8_takesComma 81 = .ok (.ireturn, 1) := by decide +kernel
theorem dX8_takes_0 : decode cX8_takes 0 = .ok (.iload_n 1, 1) := by decide +kernel
theorem dX8_takes_1 : decode cX8_takes 1 = .ok (.bipush 44, 2) := by decide +kernel
theorem dX8_takes_3 : decode cX8_takes 3 = .ok (.if_icmp .ne 8, 3) := by decide +kernel
theorem dX8_takes_6 : decode cX8_takes 6 = .ok (.aload_n 0, 1) := by decide +kernel
theorem dX8_takes_7 : decode cX8_takes 7 = .ok (.invokevirtual 82, 3) := by decide +kernel
theorem dX8_takes_10 : decode cX8_takes 10 = .ok (.ireturn, 1) := by decide +kernel
theorem dX8_takes_11 : decode cX8_takes 11 = .ok (.iload_n 1, 1) := by decide +kernel
theorem dX8_takes_12 : decode cX8_takes 12 = .ok (.bipush 97, 2) := by decide +kernel
theorem dX8_takes_14 : decode cX8_takes 14 = .ok (.bipush 122, 2) := by decide +kernel
theorem dX8_takes_16 : decode cX8_takes 16 = .ok (.invokestatic 65, 3) := by decide +kernel
theorem dX8_takes_19 : decode cX8_takes 19 = .ok (.ifCond .eq 25, 3) := by decide +kernel
theorem dX8_takes_22 : decode cX8_takes 22 = .ok (.aload_n 0, 1) := by decide +kernel
theorem dX8_takes_23 : decode cX8_takes 23 = .ok (.getfield 79, 3) := by decide +kernel
theorem dX8_takes_26 : decode cX8_takes 26 = .ok (.aload_n 0, 1) := by decide +kernel
theorem dX8_takes_27 : decode cX8_takes 27 = .ok (.getfield 76, 3) := by decide +kernel
theorem dX8_takes_30 : decode cX8_takes 30 = .ok (.ifCond .ne 7, 3) := by decide +kernel
theorem dX8_takes_33 : decode cX8_takes 33 = .ok (.iconst 4, 1) := by decide +kernel
theorem dX8_takes_34 : decode cX8_takes 34 = .ok (.goto 7, 3) := by decide +kernel
theorem dX8_takes_37 : decode cX8_takes 37 = .ok (.aload_n 0, 1) := by decide +kernel
theorem dX8_takes_38 : decode cX8_takes 38 = .ok (.getfield 76, 3) := by decide +kernel
theorem dX8_takes_41 : decode cX8_takes 41 = .ok (.if_icmp .ne 5, 3) := by decide +kernel
theorem dX8_takes_44 : decode cX8_takes 44 = .ok (.iconst 0, 1) := by decide +kernel
theorem dX8_takes_45 : decode cX8_takes 45 = .ok (.ireturn, 1) := by decide +kernel
theorem dX8_takes_46 : decode cX8_takes 46 = .ok (.aload_n 0, 1) := by decide +kernel
theorem dX8_takes_47 : decode cX8_takes 47 = .ok (.getfield 22, 3) := by decide +kernel
theorem dX8_takes_50 : decode cX8_takes 50 = .ok (.iconst 4, 1) := by decide +kernel
theorem dX8_takes_51 : decode cX8_takes 51 = .ok (.aload_n 0, 1) := by decide +kernel
theorem dX8_takes_52 : decode cX8_takes 52 = .ok (.getfield 73, 3) := by decide +kernel
theorem dX8_takes_55 : decode cX8_takes 55 = .ok (.imul, 1) := by decide +kernel
theorem dX8_takes_56 : decode cX8_takes 56 = .ok (.aload_n 0, 1) := by decide +kernel
theorem dX8_takes_57 : decode cX8_takes 57 = .ok (.getfield 79, 3) := by decide +kernel
theorem dX8_takes_60 : decode cX8_takes 60 = .ok (.iadd, 1) := by decide +kernel
theorem dX8_takes_61 : decode cX8_takes 61 = .ok (.iload_n 1, 1) := by decide +kernel
theorem dX8_takes_62 : decode cX8_takes 62 = .ok (.iastore, 1) := by decide +kernel
theorem dX8_takes_63 : decode cX8_takes 63 = .ok (.aload_n 0, 1) := by decide +kernel
theorem dX8_takes_64 : decode cX8_takes 64 = .ok (.dup, 1) := by decide +kernel
theorem dX8_takes_65 : decode cX8_takes 65 = .ok (.getfield 79, 3) := by decide +kernel
theorem dX8_takes_68 : decode cX8_takes 68 = .ok (.iconst 1, 1) := by decide +kernel
theorem dX8_takes_69 : decode cX8_takes 69 = .ok (.iadd, 1) := by decide +kernel
theorem dX8_takes_70 : decode cX8_takes 70 = .ok (.putfield 79, 3) := by decide +kernel
theorem dX8_takes_73 : decode cX8_takes 73 = .ok (.aload_n 0, 1) := by decide +kernel
theorem dX8_takes_74 : decode cX8_takes 74 = .ok (.getfield 76, 3) := by decide +kernel
theorem dX8_takes_77 : decode cX8_takes 77 = .ok (.ifCond .eq 21, 3) := by decide +kernel
theorem dX8_takes_80 : decode cX8_takes 80 = .ok (.aload_n 0, 1) := by decide +kernel
theorem dX8_takes_81 : decode cX8_takes 81 = .ok (.getfield 79, 3) := by decide +kernel
theorem dX8_takes_84 : decode cX8_takes 84 = .ok (.aload_n 0, 1) := by decide +kernel
theorem dX8_takes_85 : decode cX8_takes 85 = .ok (.getfield 76, 3) := by decide +kernel
theorem dX8_takes_88 : decode cX8_takes 88 = .ok (.if_icmp .lt 10, 3) := by decide +kernel
theorem dX8_takes_91 : decode cX8_takes 91 = .ok (.aload_n 0, 1) := by decide +kernel
theorem dX8_takes_92 : decode cX8_takes 92 = .ok (.invokevirtual 86, 3) := by decide +kernel
theorem dX8_takes_95 : decode cX8_takes 95 = .ok (.ifCond .ne 7, 3) := by decide +kernel
theorem dX8_takes_98 : decode cX8_takes 98 = .ok (.iconst 1, 1) := by decide +kernel
theorem dX8_takes_99 : decode cX8_takes 99 = .ok (.goto 4, 3) := by decide +kernel
theorem dX8_takes_102 : decode cX8_takes 102 = .ok (.iconst 0, 1) := by decide +kernel
theorem dX8_takes_103 : decode cX8_takes 103 = .ok (.ireturn, 1) := by decide +kernel
theorem dX8_read_0 : decode cX8_read 0 = .ok (.aload_n 0, 1) := by decide +kernel
theorem dX8_read_1 : decode cX8_read 1 = .ok (.iconst 0, 1) := by decide +kernel
theorem dX8_read_2 : decode cX8_read 2 = .ok (.putfield 73, 3) := by decide +kernel
theorem dX8_read_5 : decode cX8_read 5 = .ok (.aload_n 0, 1) := by decide +kernel
theorem dX8_read_6 : decode cX8_read 6 = .ok (.iconst 0, 1) := by decide +kernel
theorem dX8_read_7 : decode cX8_read 7 = .ok (.putfield 79, 3) := by decide +kernel
theorem dX8_read_10 : decode cX8_read 10 = .ok (.aload_n 0, 1) := by decide +kernel
theorem dX8_read_11 : decode cX8_read 11 = .ok (.iconst 0, 1) := by decide +kernel
theorem dX8_read_12 : decode cX8_read 12 = .ok (.putfield 76, 3) := by decide +kernel
theorem dX8_read_15 : decode cX8_read 15 = .ok (.iconst 0, 1) := by decide +kernel
theorem dX8_read_16 : decode cX8_read 16 = .ok (.istore_n 1, 1) := by decide +kernel
theorem dX8_read_17 : decode cX8_read 17 = .ok (.iload_n 1, 1) := by decide +kernel
theorem dX8_read_18 : decode cX8_read 18 = .ok (.aload_n 0, 1) := by decide +kernel
theorem dX8_read_19 : decode cX8_read 19 = .ok (.getfield 69, 3) := by decide +kernel
theorem dX8_read_22 : decode cX8_read 22 = .ok (.if_icmp .ge 22, 3) := by decide +kernel
theorem dX8_read_25 : decode cX8_read 25 = .ok (.aload_n 0, 1) := by decide +kernel
theorem dX8_read_26 : decode cX8_read 26 = .ok (.aload_n 0, 1) := by decide +kernel
theorem dX8_read_27 : decode cX8_read 27 = .ok (.getfield 19, 3) := by decide +kernel
theorem dX8_read_30 : decode cX8_read 30 = .ok (.iload_n 1, 1) := by decide +kernel
theorem dX8_read_31 : decode cX8_read 31 = .ok (.iaload, 1) := by decide +kernel
theorem dX8_read_32 : decode cX8_read 32 = .ok (.invokevirtual 89, 3) := by decide +kernel
theorem dX8_read_35 : decode cX8_read 35 = .ok (.ifCond .eq 9, 3) := by decide +kernel
theorem dX8_read_38 : decode cX8_read 38 = .ok (.iinc 1 1, 3) := by decide +kernel
theorem dX8_read_41 : decode cX8_read 41 = .ok (.goto (-24), 3) := by decide +kernel
theorem dX8_read_44 : decode cX8_read 44 = .ok (.iload_n 1, 1) := by decide +kernel
theorem dX8_read_45 : decode cX8_read 45 = .ok (.ireturn, 1) := by decide +kernel
theorem dX8_fault_0 : decode cX8_fault 0 = .ok (.aload_n 0, 1) := by decide +kernel
theorem dX8_fault_1 : decode cX8_fault 1 = .ok (.invokevirtual 93, 3) := by decide +kernel
theorem dX8_fault_4 : decode cX8_fault 4 = .ok (.ireturn, 1) := by decide +kernel
theorem dX8_isThere_0 : decode cX8_isThere 0 = .ok (.iconst 0, 1) := by decide +kernel
theorem dX8_isThere_1 : decode cX8_isThere 1 = .ok (.istore_n 2, 1) := by decide +kernel
theorem dX8_isThere_2 : decode cX8_isThere 2 = .ok (.iconst 0, 1) := by decide +kernel
theorem dX8_isThere_3 : decode cX8_isThere 3 = .ok (.istore_n 3, 1) := by decide +kernel
theorem dX8_isThere_4 : decode cX8_isThere 4 = .ok (.iload_n 3, 1) := by decide +kernel
theorem dX8_isThere_5 : decode cX8_isThere 5 = .ok (.aload_n 0, 1) := by decide +kernel
theorem dX8_isThere_6 : decode cX8_isThere 6 = .ok (.getfield 97, 3) := by decide +kernel
theorem dX8_isThere_9 : decode cX8_isThere 9 = .ok (.if_icmp .ge 82, 3) := by decide +kernel
theorem dX8_isThere_12 : decode cX8_isThere 12 = .ok (.iconst 1, 1) := by decide +kernel
theorem dX8_isThere_13 : decode cX8_isThere 13 = .ok (.istore 4, 2) := by decide +kernel
theorem dX8_isThere_15 : decode cX8_isThere 15 = .ok (.iconst 0, 1) := by decide +kernel
theorem dX8_isThere_16 : decode cX8_isThere 16 = .ok (.istore 5, 2) := by decide +kernel
theorem dX8_isThere_18 : decode cX8_isThere 18 = .ok (.iload 5, 2) := by decide +kernel
theorem dX8_isThere_20 : decode cX8_isThere 20 = .ok (.aload_n 0, 1) := by decide +kernel
theorem dX8_isThere_21 : decode cX8_isThere 21 = .ok (.getfield 100, 3) := by decide +kernel
theorem dX8_isThere_24 : decode cX8_isThere 24 = .ok (.if_icmp .ge 46, 3) := by decide +kernel
theorem dX8_isThere_27 : decode cX8_isThere 27 = .ok (.iload 4, 2) := by decide +kernel
theorem dX8_isThere_29 : decode cX8_isThere 29 = .ok (.ifCond .eq 32, 3) := by decide +kernel
theorem dX8_isThere_32 : decode cX8_isThere 32 = .ok (.aload_n 0, 1) := by decide +kernel
theorem dX8_isThere_33 : decode cX8_isThere 33 = .ok (.getfield 7, 3) := by decide +kernel
theorem dX8_isThere_36 : decode cX8_isThere 36 = .ok (.iconst 4, 1) := by decide +kernel
theorem dX8_isThere_37 : decode cX8_isThere 37 = .ok (.iload_n 3, 1) := by decide +kernel
theorem dX8_isThere_38 : decode cX8_isThere 38 = .ok (.imul, 1) := by decide +kernel
theorem dX8_isThere_39 : decode cX8_isThere 39 = .ok (.iload 5, 2) := by decide +kernel
theorem dX8_isThere_41 : decode cX8_isThere 41 = .ok (.iadd, 1) := by decide +kernel
theorem dX8_isThere_42 : decode cX8_isThere 42 = .ok (.iaload, 1) := by decide +kernel
theorem dX8_isThere_43 : decode cX8_isThere 43 = .ok (.aload_n 0, 1) := by decide +kernel
theorem dX8_isThere_44 : decode cX8_isThere 44 = .ok (.getfield 22, 3) := by decide +kernel
theorem dX8_isThere_47 : decode cX8_isThere 47 = .ok (.iconst 4, 1) := by decide +kernel
theorem dX8_isThere_48 : decode cX8_isThere 48 = .ok (.iload_n 1, 1) := by decide +kernel
theorem dX8_isThere_49 : decode cX8_isThere 49 = .ok (.imul, 1) := by decide +kernel
theorem dX8_isThere_50 : decode cX8_isThere 50 = .ok (.iload 5, 2) := by decide +kernel
theorem dX8_isThere_52 : decode cX8_isThere 52 = .ok (.iadd, 1) := by decide +kernel
theorem dX8_isThere_53 : decode cX8_isThere 53 = .ok (.iaload, 1) := by decide +kernel
theorem dX8_isThere_54 : decode cX8_isThere 54 = .ok (.if_icmp .ne 7, 3) := by decide +kernel
theorem dX8_isThere_57 : decode cX8_isThere 57 = .ok (.iconst 1, 1) := by decide +kernel
theorem dX8_isThere_58 : decode cX8_isThere 58 = .ok (.goto 4, 3) := by decide +kernel
theorem dX8_isThere_61 : decode cX8_isThere 61 = .ok (.iconst 0, 1) := by decide +kernel
theorem dX8_isThere_62 : decode cX8_isThere 62 = .ok (.istore 4, 2) := by decide +kernel
theorem dX8_isThere_64 : decode cX8_isThere 64 = .ok (.iinc 5 1, 3) := by decide +kernel
theorem dX8_isThere_67 : decode cX8_isThere 67 = .ok (.goto (-49), 3) := by decide +kernel
theorem dX8_isThere_70 : decode cX8_isThere 70 = .ok (.iload_n 2, 1) := by decide +kernel
theorem dX8_isThere_71 : decode cX8_isThere 71 = .ok (.ifCond .ne 8, 3) := by decide +kernel
theorem dX8_isThere_74 : decode cX8_isThere 74 = .ok (.iload 4, 2) := by decide +kernel
theorem dX8_isThere_76 : decode cX8_isThere 76 = .ok (.ifCond .eq 7, 3) := by decide +kernel
theorem dX8_isThere_79 : decode cX8_isThere 79 = .ok (.iconst 1, 1) := by decide +kernel
theorem dX8_isThere_80 : decode cX8_isThere 80 = .ok (.goto 4, 3) := by decide +kernel
theorem dX8_isThere_83 : decode cX8_isThere 83 = .ok (.iconst 0, 1) := by decide +kernel
theorem dX8_isThere_84 : decode cX8_isThere 84 = .ok (.istore_n 2, 1) := by decide +kernel
theorem dX8_isThere_85 : decode cX8_isThere 85 = .ok (.iinc 3 1, 3) := by decide +kernel
theorem dX8_isThere_88 : decode cX8_isThere 88 = .ok (.goto (-84), 3) := by decide +kernel
theorem dX8_isThere_91 : decode cX8_isThere 91 = .ok (.iload_n 2, 1) := by decide +kernel
theorem dX8_isThere_92 : decode cX8_isThere 92 = .ok (.ireturn, 1) := by decide +kernel
theorem dX8_isAhead_0 : decode cX8_isAhead 0 = .ok (.iconst 0, 1) := by decide +kernel
theorem dX8_isAhead_1 : decode cX8_isAhead 1 = .ok (.istore_n 3, 1) := by decide +kernel
theorem dX8_isAhead_2 : decode cX8_isAhead 2 = .ok (.iload_n 3, 1) := by decide +kernel
theorem dX8_isAhead_3 : decode cX8_isAhead 3 = .ok (.aload_n 0, 1) := by decide +kernel
theorem dX8_isAhead_4 : decode cX8_isAhead 4 = .ok (.getfield 100, 3) := by decide +kernel
theorem dX8_isAhead_7 : decode cX8_isAhead 7 = .ok (.if_icmp .ge 48, 3) := by decide +kernel
theorem dX8_isAhead_10 : decode cX8_isAhead 10 = .ok (.aload_n 0, 1) := by decide +kernel
theorem dX8_isAhead_11 : decode cX8_isAhead 11 = .ok (.getfield 22, 3) := by decide +kernel
theorem dX8_isAhead_14 : decode cX8_isAhead 14 = .ok (.iconst 4, 1) := by decide +kernel
theorem dX8_isAhead_15 : decode cX8_isAhead 15 = .ok (.iload_n 1, 1) := by decide +kernel
theorem dX8_isAhead_16 : decode cX8_isAhead 16 = .ok (.imul, 1) := by decide +kernel
theorem dX8_isAhead_17 : decode cX8_isAhead 17 = .ok (.iload_n 3, 1) := by decide +kernel
theorem dX8_isAhead_18 : decode cX8_isAhead 18 = .ok (.iadd, 1) := by decide +kernel
theorem dX8_isAhead_19 : decode cX8_isAhead 19 = .ok (.iaload, 1) := by decide +kernel
theorem dX8_isAhead_20 : decode cX8_isAhead 20 = .ok (.aload_n 0, 1) := by decide +kernel
theorem dX8_isAhead_21 : decode cX8_isAhead 21 = .ok (.getfield 7, 3) := by decide +kernel
theorem dX8_isAhead_24 : decode cX8_isAhead 24 = .ok (.iconst 4, 1) := by decide +kernel
theorem dX8_isAhead_25 : decode cX8_isAhead 25 = .ok (.iload_n 2, 1) := by decide +kernel
theorem dX8_isAhead_26 : decode cX8_isAhead 26 = .ok (.imul, 1) := by decide +kernel
theorem dX8_isAhead_27 : decode cX8_isAhead 27 = .ok (.iload_n 3, 1) := by decide +kernel
theorem dX8_isAhead_28 : decode cX8_isAhead 28 = .ok (.iadd, 1) := by decide +kernel
theorem dX8_isAhead_29 : decode cX8_isAhead 29 = .ok (.iaload, 1) := by decide +kernel
theorem dX8_isAhead_30 : decode cX8_isAhead 30 = .ok (.isub, 1) := by decide +kernel
theorem dX8_isAhead_31 : decode cX8_isAhead 31 = .ok (.istore 4, 2) := by decide +kernel
theorem dX8_isAhead_33 : decode cX8_isAhead 33 = .ok (.iload 4, 2) := by decide +kernel
theorem dX8_isAhead_35 : decode cX8_isAhead 35 = .ok (.ifCond .eq 14, 3) := by decide +kernel
theorem dX8_isAhead_38 : decode cX8_isAhead 38 = .ok (.iload 4, 2) := by decide +kernel
theorem dX8_isAhead_40 : decode cX8_isAhead 40 = .ok (.ifCond .ge 7, 3) := by decide +kernel
theorem dX8_isAhead_43 : decode cX8_isAhead 43 = .ok (.iconst 1, 1) := by decide +kernel
theorem dX8_isAhead_44 : decode cX8_isAhead 44 = .ok (.goto 4, 3) := by decide +kernel
theorem dX8_isAhead_47 : decode cX8_isAhead 47 = .ok (.iconst 0, 1) := by decide +kernel
theorem dX8_isAhead_48 : decode cX8_isAhead 48 = .ok (.ireturn, 1) := by decide +kernel
theorem dX8_isAhead_49 : decode cX8_isAhead 49 = .ok (.iinc 3 1, 3) := by decide +kernel
theorem dX8_isAhead_52 : decode cX8_isAhead 52 = .ok (.goto (-50), 3) := by decide +kernel
theorem dX8_isAhead_55 : decode cX8_isAhead 55 = .ok (.iconst 0, 1) := by decide +kernel
theorem dX8_isAhead_56 : decode cX8_isAhead 56 = .ok (.ireturn, 1) := by decide +kernel
theorem dX8_move_0 : decode cX8_move 0 = .ok (.aload_n 0, 1) := by decide +kernel
theorem dX8_move_1 : decode cX8_move 1 = .ok (.getfield 13, 3) := by decide +kernel
theorem dX8_move_4 : decode cX8_move 4 = .ok (.iload_n 2, 1) := by decide +kernel
theorem dX8_move_5 : decode cX8_move 5 = .ok (.aload_n 0, 1) := by decide +kernel
theorem dX8_move_6 : decode cX8_move 6 = .ok (.getfield 13, 3) := by decide +kernel
theorem dX8_move_9 : decode cX8_move 9 = .ok (.iload_n 1, 1) := by decide +kernel
theorem dX8_move_10 : decode cX8_move 10 = .ok (.iaload, 1) := by decide +kernel
theorem dX8_move_11 : decode cX8_move 11 = .ok (.iastore, 1) := by decide +kernel
theorem dX8_move_12 : decode cX8_move 12 = .ok (.iconst 0, 1) := by decide +kernel
theorem dX8_move_13 : decode cX8_move 13 = .ok (.istore_n 3, 1) := by decide +kernel
theorem dX8_move_14 : decode cX8_move 14 = .ok (.iload_n 3, 1) := by decide +kernel
theorem dX8_move_15 : decode cX8_move 15 = .ok (.iconst 4, 1) := by decide +kernel
theorem dX8_move_16 : decode cX8_move 16 = .ok (.if_icmp .ge 29, 3) := by decide +kernel
theorem dX8_move_19 : decode cX8_move 19 = .ok (.aload_n 0, 1) := by decide +kernel
theorem dX8_move_20 : decode cX8_move 20 = .ok (.getfield 7, 3) := by decide +kernel
theorem dX8_move_23 : decode cX8_move 23 = .ok (.iconst 4, 1) := by decide +kernel
theorem dX8_move_24 : decode cX8_move 24 = .ok (.iload_n 2, 1) := by decide +kernel
theorem dX8_move_25 : decode cX8_move 25 = .ok (.imul, 1) := by decide +kernel
theorem dX8_move_26 : decode cX8_move 26 = .ok (.iload_n 3, 1) := by decide +kernel
theorem dX8_move_27 : decode cX8_move 27 = .ok (.iadd, 1) := by decide +kernel
theorem dX8_move_28 : decode cX8_move 28 = .ok (.aload_n 0, 1) := by decide +kernel
theorem dX8_move_29 : decode cX8_move 29 = .ok (.getfield 7, 3) := by decide +kernel
theorem dX8_move_32 : decode cX8_move 32 = .ok (.iconst 4, 1) := by decide +kernel
theorem dX8_move_33 : decode cX8_move 33 = .ok (.iload_n 1, 1) := by decide +kernel
theorem dX8_move_34 : decode cX8_move 34 = .ok (.imul, 1) := by decide +kernel
theorem dX8_move_35 : decode cX8_move 35 = .ok (.iload_n 3, 1) := by decide +kernel
theorem dX8_move_36 : decode cX8_move 36 = .ok (.iadd, 1) := by decide +kernel
theorem dX8_move_37 : decode cX8_move 37 = .ok (.iaload, 1) := by decide +kernel
theorem dX8_move_38 : decode cX8_move 38 = .ok (.iastore, 1) := by decide +kernel
theorem dX8_move_39 : decode cX8_move 39 = .ok (.iinc 3 1, 3) := by decide +kernel
theorem dX8_move_42 : decode cX8_move 42 = .ok (.goto (-28), 3) := by decide +kernel
theorem dX8_move_45 : decode cX8_move 45 = .ok (.return_, 1) := by decide +kernel
theorem dX8_comes_0 : decode cX8_comes 0 = .ok (.aload_n 0, 1) := by decide +kernel
theorem dX8_comes_1 : decode cX8_comes 1 = .ok (.getfield 97, 3) := by decide +kernel
theorem dX8_comes_4 : decode cX8_comes 4 = .ok (.istore_n 2, 1) := by decide +kernel
theorem dX8_comes_5 : decode cX8_comes 5 = .ok (.iload_n 2, 1) := by decide +kernel
theorem dX8_comes_6 : decode cX8_comes 6 = .ok (.ifCond .le 28, 3) := by decide +kernel
theorem dX8_comes_9 : decode cX8_comes 9 = .ok (.aload_n 0, 1) := by decide +kernel
theorem dX8_comes_10 : decode cX8_comes 10 = .ok (.iload_n 1, 1) := by decide +kernel
theorem dX8_comes_11 : decode cX8_comes 11 = .ok (.iload_n 2, 1) := by decide +kernel
theorem dX8_comes_12 : decode cX8_comes 12 = .ok (.iconst 1, 1) := by decide +kernel
theorem dX8_comes_13 : decode cX8_comes 13 = .ok (.isub, 1) := by decide +kernel
theorem dX8_comes_14 : decode cX8_comes 14 = .ok (.invokevirtual 103, 3) := by decide +kernel
theorem dX8_comes_17 : decode cX8_comes 17 = .ok (.ifCond .eq 17, 3) := by decide +kernel
theorem dX8_comes_20 : decode cX8_comes 20 = .ok (.aload_n 0, 1) := by decide +kernel
theorem dX8_comes_21 : decode cX8_comes 21 = .ok (.iload_n 2, 1) := by decide +kernel
theorem dX8_comes_22 : decode cX8_comes 22 = .ok (.iconst 1, 1) := by decide +kernel
theorem dX8_comes_23 : decode cX8_comes 23 = .ok (.isub, 1) := by decide +kernel
theorem dX8_comes_24 : decode cX8_comes 24 = .ok (.iload_n 2, 1) := by decide +kernel
theorem dX8_comes_25 : decode cX8_comes 25 = .ok (.invokevirtual 107, 3) := by decide +kernel
theorem dX8_comes_28 : decode cX8_comes 28 = .ok (.iinc 2 (-1), 3) := by decide +kernel
theorem dX8_comes_31 : decode cX8_comes 31 = .ok (.goto (-26), 3) := by decide +kernel
theorem dX8_comes_34 : decode cX8_comes 34 = .ok (.aload_n 0, 1) := by decide +kernel
theorem dX8_comes_35 : decode cX8_comes 35 = .ok (.getfield 13, 3) := by decide +kernel
theorem dX8_comes_38 : decode cX8_comes 38 = .ok (.iload_n 2, 1) := by decide +kernel
theorem dX8_comes_39 : decode cX8_comes 39 = .ok (.iconst 1, 1) := by decide +kernel
theorem dX8_comes_40 : decode cX8_comes 40 = .ok (.iastore, 1) := by decide +kernel
theorem dX8_comes_41 : decode cX8_comes 41 = .ok (.iconst 0, 1) := by decide +kernel
theorem dX8_comes_42 : decode cX8_comes 42 = .ok (.istore_n 3, 1) := by decide +kernel
theorem dX8_comes_43 : decode cX8_comes 43 = .ok (.iload_n 3, 1) := by decide +kernel
theorem dX8_comes_44 : decode cX8_comes 44 = .ok (.iconst 4, 1) := by decide +kernel
theorem dX8_comes_45 : decode cX8_comes 45 = .ok (.if_icmp .ge 29, 3) := by decide +kernel
theorem dX8_comes_48 : decode cX8_comes 48 = .ok (.aload_n 0, 1) := by decide +kernel
theorem dX8_comes_49 : decode cX8_comes 49 = .ok (.getfield 7, 3) := by decide +kernel
theorem dX8_comes_52 : decode cX8_comes 52 = .ok (.iconst 4, 1) := by decide +kernel
theorem dX8_comes_53 : decode cX8_comes 53 = .ok (.iload_n 2, 1) := by decide +kernel
theorem dX8_comes_54 : decode cX8_comes 54 = .ok (.imul, 1) := by decide +kernel
theorem dX8_comes_55 : decode cX8_comes 55 = .ok (.iload_n 3, 1) := by decide +kernel
theorem dX8_comes_56 : decode cX8_comes 56 = .ok (.iadd, 1) := by decide +kernel
theorem dX8_comes_57 : decode cX8_comes 57 = .ok (.aload_n 0, 1) := by decide +kernel
theorem dX8_comes_58 : decode cX8_comes 58 = .ok (.getfield 22, 3) := by decide +kernel
theorem dX8_comes_61 : decode cX8_comes 61 = .ok (.iconst 4, 1) := by decide +kernel
theorem dX8_comes_62 : decode cX8_comes 62 = .ok (.iload_n 1, 1) := by decide +kernel
theorem dX8_comes_63 : decode cX8_comes 63 = .ok (.imul, 1) := by decide +kernel
theorem dX8_comes_64 : decode cX8_comes 64 = .ok (.iload_n 3, 1) := by decide +kernel
theorem dX8_comes_65 : decode cX8_comes 65 = .ok (.iadd, 1) := by decide +kernel
theorem dX8_comes_66 : decode cX8_comes 66 = .ok (.iaload, 1) := by decide +kernel
theorem dX8_comes_67 : decode cX8_comes 67 = .ok (.iastore, 1) := by decide +kernel
theorem dX8_comes_68 : decode cX8_comes 68 = .ok (.iinc 3 1, 3) := by decide +kernel
theorem dX8_comes_71 : decode cX8_comes 71 = .ok (.goto (-28), 3) := by decide +kernel
theorem dX8_comes_74 : decode cX8_comes 74 = .ok (.aload_n 0, 1) := by decide +kernel
theorem dX8_comes_75 : decode cX8_comes 75 = .ok (.dup, 1) := by decide +kernel
theorem dX8_comes_76 : decode cX8_comes 76 = .ok (.getfield 97, 3) := by decide +kernel
theorem dX8_comes_79 : decode cX8_comes 79 = .ok (.iconst 1, 1) := by decide +kernel
theorem dX8_comes_80 : decode cX8_comes 80 = .ok (.iadd, 1) := by decide +kernel
theorem dX8_comes_81 : decode cX8_comes 81 = .ok (.putfield 97, 3) := by decide +kernel
theorem dX8_comes_84 : decode cX8_comes 84 = .ok (.return_, 1) := by decide +kernel
theorem dX8_isNew_0 : decode cX8_isNew 0 = .ok (.aload_n 0, 1) := by decide +kernel
theorem dX8_isNew_1 : decode cX8_isNew 1 = .ok (.getfield 97, 3) := by decide +kernel
theorem dX8_isNew_4 : decode cX8_isNew 4 = .ok (.ifCond .eq 14, 3) := by decide +kernel
theorem dX8_isNew_7 : decode cX8_isNew 7 = .ok (.aload_n 0, 1) := by decide +kernel
theorem dX8_isNew_8 : decode cX8_isNew 8 = .ok (.getfield 79, 3) := by decide +kernel
theorem dX8_isNew_11 : decode cX8_isNew 11 = .ok (.aload_n 0, 1) := by decide +kernel
theorem dX8_isNew_12 : decode cX8_isNew 12 = .ok (.getfield 100, 3) := by decide +kernel
theorem dX8_isNew_15 : decode cX8_isNew 15 = .ok (.if_icmp .ne 7, 3) := by decide +kernel
theorem dX8_isNew_18 : decode cX8_isNew 18 = .ok (.iconst 1, 1) := by decide +kernel
theorem dX8_isNew_19 : decode cX8_isNew 19 = .ok (.goto 4, 3) := by decide +kernel
theorem dX8_isNew_22 : decode cX8_isNew 22 = .ok (.iconst 0, 1) := by decide +kernel
theorem dX8_isNew_23 : decode cX8_isNew 23 = .ok (.istore_n 2, 1) := by decide +kernel
theorem dX8_isNew_24 : decode cX8_isNew 24 = .ok (.iconst 0, 1) := by decide +kernel
theorem dX8_isNew_25 : decode cX8_isNew 25 = .ok (.istore_n 3, 1) := by decide +kernel
theorem dX8_isNew_26 : decode cX8_isNew 26 = .ok (.iload_n 3, 1) := by decide +kernel
theorem dX8_isNew_27 : decode cX8_isNew 27 = .ok (.iload_n 1, 1) := by decide +kernel
theorem dX8_isNew_28 : decode cX8_isNew 28 = .ok (.if_icmp .ge 34, 3) := by decide +kernel
theorem dX8_isNew_31 : decode cX8_isNew 31 = .ok (.iload_n 2, 1) := by decide +kernel
theorem dX8_isNew_32 : decode cX8_isNew 32 = .ok (.ifCond .eq 22, 3) := by decide +kernel
theorem dX8_isNew_35 : decode cX8_isNew 35 = .ok (.aload_n 0, 1) := by decide +kernel
theorem dX8_isNew_36 : decode cX8_isNew 36 = .ok (.getfield 97, 3) := by decide +kernel
theorem dX8_isNew_39 : decode cX8_isNew 39 = .ok (.ifCond .eq 11, 3) := by decide +kernel
theorem dX8_isNew_42 : decode cX8_isNew 42 = .ok (.aload_n 0, 1) := by decide +kernel
theorem dX8_isNew_43 : decode cX8_isNew 43 = .ok (.iload_n 3, 1) := by decide +kernel
theorem dX8_isNew_44 : decode cX8_isNew 44 = .ok (.invokevirtual 111, 3) := by decide +kernel
theorem dX8_isNew_47 : decode cX8_isNew 47 = .ok (.ifCond .ne 7, 3) := by decide +kernel
theorem dX8_isNew_50 : decode cX8_isNew 50 = .ok (.iconst 1, 1) := by decide +kernel
theorem dX8_isNew_51 : decode cX8_isNew 51 = .ok (.goto 4, 3) := by decide +kernel
theorem dX8_isNew_54 : decode cX8_isNew 54 = .ok (.iconst 0, 1) := by decide +kernel
theorem dX8_isNew_55 : decode cX8_isNew 55 = .ok (.istore_n 2, 1) := by decide +kernel
theorem dX8_isNew_56 : decode cX8_isNew 56 = .ok (.iinc 3 1, 3) := by decide +kernel
theorem dX8_isNew_59 : decode cX8_isNew 59 = .ok (.goto (-33), 3) := by decide +kernel
theorem dX8_isNew_62 : decode cX8_isNew 62 = .ok (.iload_n 2, 1) := by decide +kernel
theorem dX8_isNew_63 : decode cX8_isNew 63 = .ok (.ireturn, 1) := by decide +kernel
theorem dX8_words_0 : decode cX8_words 0 = .ok (.aload_n 0, 1) := by decide +kernel
theorem dX8_words_1 : decode cX8_words 1 = .ok (.invokevirtual 93, 3) := by decide +kernel
theorem dX8_words_4 : decode cX8_words 4 = .ok (.aload_n 0, 1) := by decide +kernel
theorem dX8_words_5 : decode cX8_words 5 = .ok (.getfield 69, 3) := by decide +kernel
theorem dX8_words_8 : decode cX8_words 8 = .ok (.if_icmp .ne 33, 3) := by decide +kernel
theorem dX8_words_11 : decode cX8_words 11 = .ok (.aload_n 0, 1) := by decide +kernel
theorem dX8_words_12 : decode cX8_words 12 = .ok (.getfield 79, 3) := by decide +kernel
theorem dX8_words_15 : decode cX8_words 15 = .ok (.iconst 2, 1) := by decide +kernel
theorem dX8_words_16 : decode cX8_words 16 = .ok (.if_icmp .lt 25, 3) := by decide +kernel
theorem dX8_words_19 : decode cX8_words 19 = .ok (.aload_n 0, 1) := by decide +kernel
theorem dX8_words_20 : decode cX8_words 20 = .ok (.getfield 76, 3) := by decide +kernel
theorem dX8_words_23 : decode cX8_words 23 = .ok (.ifCond .eq 14, 3) := by decide +kernel
theorem dX8_words_26 : decode cX8_words 26 = .ok (.aload_n 0, 1) := by decide +kernel
theorem dX8_words_27 : decode cX8_words 27 = .ok (.getfield 79, 3) := by decide +kernel
theorem dX8_words_30 : decode cX8_words 30 = .ok (.aload_n 0, 1) := by decide +kernel
theorem dX8_words_31 : decode cX8_words 31 = .ok (.getfield 76, 3) := by decide +kernel
theorem dX8_words_34 : decode cX8_words 34 = .ok (.if_icmp .ne 7, 3) := by decide +kernel
theorem dX8_words_37 : decode cX8_words 37 = .ok (.iconst 1, 1) := by decide +kernel
theorem dX8_words_38 : decode cX8_words 38 = .ok (.goto 4, 3) := by decide +kernel
theorem dX8_words_41 : decode cX8_words 41 = .ok (.iconst 0, 1) := by decide +kernel
theorem dX8_words_42 : decode cX8_words 42 = .ok (.istore_n 1, 1) := by decide +kernel
theorem dX8_words_43 : decode cX8_words 43 = .ok (.aload_n 0, 1) := by decide +kernel
theorem dX8_words_44 : decode cX8_words 44 = .ok (.getfield 73, 3) := by decide +kernel
theorem dX8_words_47 : decode cX8_words 47 = .ok (.iconst 1, 1) := by decide +kernel
theorem dX8_words_48 : decode cX8_words 48 = .ok (.iadd, 1) := by decide +kernel
theorem dX8_words_49 : decode cX8_words 49 = .ok (.istore_n 2, 1) := by decide +kernel
theorem dX8_words_50 : decode cX8_words 50 = .ok (.iload_n 1, 1) := by decide +kernel
theorem dX8_words_51 : decode cX8_words 51 = .ok (.ifCond .eq 11, 3) := by decide +kernel
theorem dX8_words_54 : decode cX8_words 54 = .ok (.aload_n 0, 1) := by decide +kernel
theorem dX8_words_55 : decode cX8_words 55 = .ok (.iload_n 2, 1) := by decide +kernel
theorem dX8_words_56 : decode cX8_words 56 = .ok (.invokevirtual 114, 3) := by decide +kernel
theorem dX8_words_59 : decode cX8_words 59 = .ok (.ifCond .ne 6, 3) := by decide +kernel
theorem dX8_words_62 : decode cX8_words 62 = .ok (.bipush (-103), 2) := by decide +kernel
theorem dX8_words_64 : decode cX8_words 64 = .ok (.ireturn, 1) := by decide +kernel
theorem dX8_words_65 : decode cX8_words 65 = .ok (.aload_n 0, 1) := by decide +kernel
theorem dX8_words_66 : decode cX8_words 66 = .ok (.getfield 97, 3) := by decide +kernel
theorem dX8_words_69 : decode cX8_words 69 = .ok (.iload_n 2, 1) := by decide +kernel
theorem dX8_words_70 : decode cX8_words 70 = .ok (.iadd, 1) := by decide +kernel
theorem dX8_words_71 : decode cX8_words 71 = .ok (.bipush 12, 2) := by decide +kernel
theorem dX8_words_73 : decode cX8_words 73 = .ok (.if_icmp .le 6, 3) := by decide +kernel
theorem dX8_words_76 : decode cX8_words 76 = .ok (.bipush (-104), 2) := by decide +kernel
theorem dX8_words_78 : decode cX8_words 78 = .ok (.ireturn, 1) := by decide +kernel
theorem dX8_words_79 : decode cX8_words 79 = .ok (.aload_n 0, 1) := by decide +kernel
theorem dX8_words_80 : decode cX8_words 80 = .ok (.aload_n 0, 1) := by decide +kernel
theorem dX8_words_81 : decode cX8_words 81 = .ok (.getfield 79, 3) := by decide +kernel
theorem dX8_words_84 : decode cX8_words 84 = .ok (.putfield 100, 3) := by decide +kernel
theorem dX8_words_87 : decode cX8_words 87 = .ok (.iconst 0, 1) := by decide +kernel
theorem dX8_words_88 : decode cX8_words 88 = .ok (.istore_n 3, 1) := by decide +kernel
theorem dX8_words_89 : decode cX8_words 89 = .ok (.iload_n 3, 1) := by decide +kernel
theorem dX8_words_90 : decode cX8_words 90 = .ok (.iload_n 2, 1) := by decide +kernel
theorem dX8_words_91 : decode cX8_words 91 = .ok (.if_icmp .ge 14, 3) := by decide +kernel
theorem dX8_words_94 : decode cX8_words 94 = .ok (.aload_n 0, 1) := by decide +kernel
theorem dX8_words_95 : decode cX8_words 95 = .ok (.iload_n 3, 1) := by decide +kernel
theorem dX8_words_96 : decode cX8_words 96 = .ok (.invokevirtual 117, 3) := by decide +kernel
theorem dX8_words_99 : decode cX8_words 99 = .ok (.iinc 3 1, 3) := by decide +kernel
theorem dX8_words_102 : decode cX8_words 102 = .ok (.goto (-13), 3) := by decide +kernel
theorem dX8_words_105 : decode cX8_words 105 = .ok (.aload_n 0, 1) := by decide +kernel
theorem dX8_words_106 : decode cX8_words 106 = .ok (.invokevirtual 62, 3) := by decide +kernel
theorem dX8_words_109 : decode cX8_words 109 = .ok (.aload_n 0, 1) := by decide +kernel
theorem dX8_words_110 : decode cX8_words 110 = .ok (.dup, 1) := by decide +kernel
theorem dX8_words_111 : decode cX8_words 111 = .ok (.getfield 121, 3) := by decide +kernel
theorem dX8_words_114 : decode cX8_words 114 = .ok (.iconst 1, 1) := by decide +kernel
theorem dX8_words_115 : decode cX8_words 115 = .ok (.iadd, 1) := by decide +kernel
theorem dX8_words_116 : decode cX8_words 116 = .ok (.putfield 121, 3) := by decide +kernel
theorem dX8_words_119 : decode cX8_words 119 = .ok (.aload_n 0, 1) := by decide +kernel
theorem dX8_words_120 : decode cX8_words 120 = .ok (.iconst 0, 1) := by decide +kernel
theorem dX8_words_121 : decode cX8_words 121 = .ok (.putfield 69, 3) := by decide +kernel
theorem dX8_words_124 : decode cX8_words 124 = .ok (.iload_n 2, 1) := by decide +kernel
theorem dX8_words_125 : decode cX8_words 125 = .ok (.ireturn, 1) := by decide +kernel
theorem dX8_isWord_0 : decode cX8_isWord 0 = .ok (.iload_n 1, 1) := by decide +kernel
theorem dX8_isWord_1 : decode cX8_isWord 1 = .ok (.iconst 0, 1) := by decide +kernel
theorem dX8_isWord_2 : decode cX8_isWord 2 = .ok (.aload_n 0, 1) := by decide +kernel
theorem dX8_isWord_3 : decode cX8_isWord 3 = .ok (.getfield 97, 3) := by decide +kernel
theorem dX8_isWord_6 : decode cX8_isWord 6 = .ok (.iconst 1, 1) := by decide +kernel
theorem dX8_isWord_7 : decode cX8_isWord 7 = .ok (.isub, 1) := by decide +kernel
theorem dX8_isWord_8 : decode cX8_isWord 8 = .ok (.invokestatic 65, 3) := by decide +kernel
theorem dX8_isWord_11 : decode cX8_isWord 11 = .ok (.ireturn, 1) := by decide +kernel
theorem dX8_strike_0 : decode cX8_strike 0 = .ok (.aload_n 0, 1) := by decide +kernel
theorem dX8_strike_1 : decode cX8_strike 1 = .ok (.iload_n 1, 1) := by decide +kernel
theorem dX8_strike_2 : decode cX8_strike 2 = .ok (.invokevirtual 124, 3) := by decide +kernel
theorem dX8_strike_5 : decode cX8_strike 5 = .ok (.ifCond .ne 6, 3) := by decide +kernel
theorem dX8_strike_8 : decode cX8_strike 8 = .ok (.bipush (-101), 2) := by decide +kernel
theorem dX8_strike_10 : decode cX8_strike 10 = .ok (.ireturn, 1) := by decide +kernel
theorem dX8_strike_11 : decode cX8_strike 11 = .ok (.aload_n 0, 1) := by decide +kernel
theorem dX8_strike_12 : decode cX8_strike 12 = .ok (.dup, 1) := by decide +kernel
theorem dX8_strike_13 : decode cX8_strike 13 = .ok (.getfield 97, 3) := by decide +kernel
theorem dX8_strike_16 : decode cX8_strike 16 = .ok (.iconst 1, 1) := by decide +kernel
theorem dX8_strike_17 : decode cX8_strike 17 = .ok (.isub, 1) := by decide +kernel
theorem dX8_strike_18 : decode cX8_strike 18 = .ok (.putfield 97, 3) := by decide +kernel
theorem dX8_strike_21 : decode cX8_strike 21 = .ok (.iload_n 1, 1) := by decide +kernel
theorem dX8_strike_22 : decode cX8_strike 22 = .ok (.istore_n 2, 1) := by decide +kernel
theorem dX8_strike_23 : decode cX8_strike 23 = .ok (.iload_n 2, 1) := by decide +kernel
theorem dX8_strike_24 : decode cX8_strike 24 = .ok (.aload_n 0, 1) := by decide +kernel
theorem dX8_strike_25 : decode cX8_strike 25 = .ok (.getfield 97, 3) := by decide +kernel
theorem dX8_strike_28 : decode cX8_strike 28 = .ok (.if_icmp .ge 17, 3) := by decide +kernel
theorem dX8_strike_31 : decode cX8_strike 31 = .ok (.aload_n 0, 1) := by decide +kernel
theorem dX8_strike_32 : decode cX8_strike 32 = .ok (.iload_n 2, 1) := by decide +kernel
theorem dX8_strike_33 : decode cX8_strike 33 = .ok (.iconst 1, 1) := by decide +kernel
theorem dX8_strike_34 : decode cX8_strike 34 = .ok (.iadd, 1) := by decide +kernel
theorem dX8_strike_35 : decode cX8_strike 35 = .ok (.iload_n 2, 1) := by decide +kernel
theorem dX8_strike_36 : decode cX8_strike 36 = .ok (.invokevirtual 107, 3) := by decide +kernel
theorem dX8_strike_39 : decode cX8_strike 39 = .ok (.iinc 2 1, 3) := by decide +kernel
theorem dX8_strike_42 : decode cX8_strike 42 = .ok (.goto (-19), 3) := by decide +kernel
theorem dX8_strike_45 : decode cX8_strike 45 = .ok (.aload_n 0, 1) := by decide +kernel
theorem dX8_strike_46 : decode cX8_strike 46 = .ok (.aload_n 0, 1) := by decide +kernel
theorem dX8_strike_47 : decode cX8_strike 47 = .ok (.getfield 97, 3) := by decide +kernel
theorem dX8_strike_50 : decode cX8_strike 50 = .ok (.ifCond .ne 7, 3) := by decide +kernel
theorem dX8_strike_53 : decode cX8_strike 53 = .ok (.iconst 0, 1) := by decide +kernel
theorem dX8_strike_54 : decode cX8_strike 54 = .ok (.goto 7, 3) := by decide +kernel
theorem dX8_strike_57 : decode cX8_strike 57 = .ok (.aload_n 0, 1) := by decide +kernel
theorem dX8_strike_58 : decode cX8_strike 58 = .ok (.getfield 100, 3) := by decide +kernel
theorem dX8_strike_61 : decode cX8_strike 61 = .ok (.putfield 100, 3) := by decide +kernel
theorem dX8_strike_64 : decode cX8_strike 64 = .ok (.aload_n 0, 1) := by decide +kernel
theorem dX8_strike_65 : decode cX8_strike 65 = .ok (.invokevirtual 62, 3) := by decide +kernel
theorem dX8_strike_68 : decode cX8_strike 68 = .ok (.aload_n 0, 1) := by decide +kernel
theorem dX8_strike_69 : decode cX8_strike 69 = .ok (.dup, 1) := by decide +kernel
theorem dX8_strike_70 : decode cX8_strike 70 = .ok (.getfield 127, 3) := by decide +kernel
theorem dX8_strike_73 : decode cX8_strike 73 = .ok (.iconst 1, 1) := by decide +kernel
theorem dX8_strike_74 : decode cX8_strike 74 = .ok (.iadd, 1) := by decide +kernel
theorem dX8_strike_75 : decode cX8_strike 75 = .ok (.putfield 127, 3) := by decide +kernel
theorem dX8_strike_78 : decode cX8_strike 78 = .ok (.aload_n 0, 1) := by decide +kernel
theorem dX8_strike_79 : decode cX8_strike 79 = .ok (.getfield 97, 3) := by decide +kernel
theorem dX8_strike_82 : decode cX8_strike 82 = .ok (.ireturn, 1) := by decide +kernel
theorem dX8_weigh_0 : decode cX8_weigh 0 = .ok (.aload_n 0, 1) := by decide +kernel
theorem dX8_weigh_1 : decode cX8_weigh 1 = .ok (.iload_n 1, 1) := by decide +kernel
theorem dX8_weigh_2 : decode cX8_weigh 2 = .ok (.invokevirtual 124, 3) := by decide +kernel
theorem dX8_weigh_5 : decode cX8_weigh 5 = .ok (.ifCond .ne 6, 3) := by decide +kernel
theorem dX8_weigh_8 : decode cX8_weigh 8 = .ok (.bipush (-101), 2) := by decide +kernel
theorem dX8_weigh_10 : decode cX8_weigh 10 = .ok (.ireturn, 1) := by decide +kernel
theorem dX8_weigh_11 : decode cX8_weigh 11 = .ok (.iload_n 2, 1) := by decide +kernel
theorem dX8_weigh_12 : decode cX8_weigh 12 = .ok (.iconst 1, 1) := by decide +kernel
theorem dX8_weigh_13 : decode cX8_weigh 13 = .ok (.bipush 9, 2) := by decide +kernel
theorem dX8_weigh_15 : decode cX8_weigh 15 = .ok (.invokestatic 65, 3) := by decide +kernel
theorem dX8_weigh_18 : decode cX8_weigh 18 = .ok (.ifCond .ne 6, 3) := by decide +kernel
theorem dX8_weigh_21 : decode cX8_weigh 21 = .ok (.bipush (-102), 2) := by decide +kernel
theorem dX8_weigh_23 : decode cX8_weigh 23 = .ok (.ireturn, 1) := by decide +kernel
theorem dX8_weigh_24 : decode cX8_weigh 24 = .ok (.aload_n 0, 1) := by decide +kernel
theorem dX8_weigh_25 : decode cX8_weigh 25 = .ok (.getfield 13, 3) := by decide +kernel
theorem dX8_weigh_28 : decode cX8_weigh 28 = .ok (.iload_n 1, 1) := by decide +kernel
theorem dX8_weigh_29 : decode cX8_weigh 29 = .ok (.iaload, 1) := by decide +kernel
theorem dX8_weigh_30 : decode cX8_weigh 30 = .ok (.istore_n 3, 1) := by decide +kernel
theorem dX8_weigh_31 : decode cX8_weigh 31 = .ok (.aload_n 0, 1) := by decide +kernel
theorem dX8_weigh_32 : decode cX8_weigh 32 = .ok (.getfield 13, 3) := by decide +kernel
theorem dX8_weigh_35 : decode cX8_weigh 35 = .ok (.iload_n 1, 1) := by decide +kernel
theorem dX8_weigh_36 : decode cX8_weigh 36 = .ok (.iload_n 2, 1) := by decide +kernel
theorem dX8_weigh_37 : decode cX8_weigh 37 = .ok (.iastore, 1) := by decide +kernel
theorem dX8_weigh_38 : decode cX8_weigh 38 = .ok (.iload_n 3, 1) := by decide +kernel
theorem dX8_weigh_39 : decode cX8_weigh 39 = .ok (.ireturn, 1) := by decide +kernel
theorem dX8_at_0 : decode cX8_at 0 = .ok (.aload_n 0, 1) := by decide +kernel
theorem dX8_at_1 : decode cX8_at 1 = .ok (.getfield 7, 3) := by decide +kernel
theorem dX8_at_4 : decode cX8_at 4 = .ok (.iconst 4, 1) := by decide +kernel
theorem dX8_at_5 : decode cX8_at 5 = .ok (.iload_n 1, 1) := by decide +kernel
theorem dX8_at_6 : decode cX8_at 6 = .ok (.imul, 1) := by decide +kernel
theorem dX8_at_7 : decode cX8_at 7 = .ok (.iload_n 2, 1) := by decide +kernel
theorem dX8_at_8 : decode cX8_at 8 = .ok (.iadd, 1) := by decide +kernel
theorem dX8_at_9 : decode cX8_at 9 = .ok (.iaload, 1) := by decide +kernel
theorem dX8_at_10 : decode cX8_at 10 = .ok (.ireturn, 1) := by decide +kernel
theorem dX8_alike_0 : decode cX8_alike 0 = .ok (.iconst 0, 1) := by decide +kernel
theorem dX8_alike_1 : decode cX8_alike 1 = .ok (.istore_n 3, 1) := by decide +kernel
theorem dX8_alike_2 : decode cX8_alike 2 = .ok (.iload_n 3, 1) := by decide +kernel
theorem dX8_alike_3 : decode cX8_alike 3 = .ok (.aload_n 0, 1) := by decide +kernel
theorem dX8_alike_4 : decode cX8_alike 4 = .ok (.getfield 100, 3) := by decide +kernel
theorem dX8_alike_7 : decode cX8_alike 7 = .ok (.if_icmp .ge 24, 3) := by decide +kernel
theorem dX8_alike_10 : decode cX8_alike 10 = .ok (.aload_n 0, 1) := by decide +kernel
theorem dX8_alike_11 : decode cX8_alike 11 = .ok (.iload_n 1, 1) := by decide +kernel
theorem dX8_alike_12 : decode cX8_alike 12 = .ok (.iload_n 3, 1) := by decide +kernel
theorem dX8_alike_13 : decode cX8_alike 13 = .ok (.invokevirtual 130, 3) := by decide +kernel
theorem dX8_alike_16 : decode cX8_alike 16 = .ok (.aload_n 0, 1) := by decide +kernel
theorem dX8_alike_17 : decode cX8_alike 17 = .ok (.iload_n 2, 1) := by decide +kernel
theorem dX8_alike_18 : decode cX8_alike 18 = .ok (.iload_n 3, 1) := by decide +kernel
theorem dX8_alike_19 : decode cX8_alike 19 = .ok (.invokevirtual 130, 3) := by decide +kernel
theorem dX8_alike_22 : decode cX8_alike 22 = .ok (.if_icmp .ne 9, 3) := by decide +kernel
theorem dX8_alike_25 : decode cX8_alike 25 = .ok (.iinc 3 1, 3) := by decide +kernel
theorem dX8_alike_28 : decode cX8_alike 28 = .ok (.goto (-26), 3) := by decide +kernel
theorem dX8_alike_31 : decode cX8_alike 31 = .ok (.iload_n 3, 1) := by decide +kernel
theorem dX8_alike_32 : decode cX8_alike 32 = .ok (.ireturn, 1) := by decide +kernel
theorem dX8_beginnings_0 : decode cX8_beginnings 0 = .ok (.aload_n 0, 1) := by decide +kernel
theorem dX8_beginnings_1 : decode cX8_beginnings 1 = .ok (.getfield 97, 3) := by decide +kernel
theorem dX8_beginnings_4 : decode cX8_beginnings 4 = .ok (.ifCond .ne 7, 3) := by decide +kernel
theorem dX8_beginnings_7 : decode cX8_beginnings 7 = .ok (.iconst 0, 1) := by decide +kernel
theorem dX8_beginnings_8 : decode cX8_beginnings 8 = .ok (.goto 4, 3) := by decide +kernel
theorem dX8_beginnings_11 : decode cX8_beginnings 11 = .ok (.iconst 1, 1) := by decide +kernel
theorem dX8_beginnings_12 : decode cX8_beginnings 12 = .ok (.istore_n 1, 1) := by decide +kernel
theorem dX8_beginnings_13 : decode cX8_beginnings 13 = .ok (.iconst 0, 1) := by decide +kernel
theorem dX8_beginnings_14 : decode cX8_beginnings 14 = .ok (.istore_n 2, 1) := by decide +kernel
theorem dX8_beginnings_15 : decode cX8_beginnings 15 = .ok (.iload_n 2, 1) := by decide +kernel
theorem dX8_beginnings_16 : decode cX8_beginnings 16 = .ok (.aload_n 0, 1) := by decide +kernel
theorem dX8_beginnings_17 : decode cX8_beginnings 17 = .ok (.getfield 97, 3) := by decide +kernel
theorem dX8_beginnings_20 : decode cX8_beginnings 20 = .ok (.if_icmp .ge 33, 3) := by decide +kernel
theorem dX8_beginnings_23 : decode cX8_beginnings 23 = .ok (.iload_n 1, 1) := by decide +kernel
theorem dX8_beginnings_24 : decode cX8_beginnings 24 = .ok (.aload_n 0, 1) := by decide +kernel
theorem dX8_beginnings_25 : decode cX8_beginnings 25 = .ok (.getfield 100, 3) := by decide +kernel
theorem dX8_beginnings_28 : decode cX8_beginnings 28 = .ok (.iload_n 2, 1) := by decide +kernel
theorem dX8_beginnings_29 : decode cX8_beginnings 29 = .ok (.ifCond .ne 7, 3) := by decide +kernel
theorem dX8_beginnings_32 : decode cX8_beginnings 32 = .ok (.iconst 0, 1) := by decide +kernel
theorem dX8_beginnings_33 : decode cX8_beginnings 33 = .ok (.goto 11, 3) := by decide +kernel
theorem dX8_beginnings_36 : decode cX8_beginnings 36 = .ok (.aload_n 0, 1) := by decide +kernel
theorem dX8_beginnings_37 : decode cX8_beginnings 37 = .ok (.iload_n 2, 1) := by decide +kernel
theorem dX8_beginnings_38 : decode cX8_beginnings 38 = .ok (.iconst 1, 1) := by decide +kernel
theorem dX8_beginnings_39 : decode cX8_beginnings 39 = .ok (.isub, 1) := by decide +kernel
theorem dX8_beginnings_40 : decode cX8_beginnings 40 = .ok (.iload_n 2, 1) := by decide +kernel
theorem dX8_beginnings_41 : decode cX8_beginnings 41 = .ok (.invokevirtual 134, 3) := by decide +kernel
theorem dX8_beginnings_44 : decode cX8_beginnings 44 = .ok (.isub, 1) := by decide +kernel
theorem dX8_beginnings_45 : decode cX8_beginnings 45 = .ok (.iadd, 1) := by decide +kernel
theorem dX8_beginnings_46 : decode cX8_beginnings 46 = .ok (.istore_n 1, 1) := by decide +kernel
theorem dX8_beginnings_47 : decode cX8_beginnings 47 = .ok (.iinc 2 1, 3) := by decide +kernel
theorem dX8_beginnings_50 : decode cX8_beginnings 50 = .ok (.goto (-35), 3) := by decide +kernel
theorem dX8_beginnings_53 : decode cX8_beginnings 53 = .ok (.iload_n 1, 1) := by decide +kernel
theorem dX8_beginnings_54 : decode cX8_beginnings 54 = .ok (.ireturn, 1) := by decide +kernel
theorem dX8_lettersMany_0 : decode cX8_lettersMany 0 = .ok (.iconst 0, 1) := by decide +kernel
theorem dX8_lettersMany_1 : decode cX8_lettersMany 1 = .ok (.istore_n 1, 1) := by decide +kernel
theorem dX8_lettersMany_2 : decode cX8_lettersMany 2 = .ok (.iconst 0, 1) := by decide +kernel
theorem dX8_lettersMany_3 : decode cX8_lettersMany 3 = .ok (.istore_n 2, 1) := by decide +kernel
theorem dX8_lettersMany_4 : decode cX8_lettersMany 4 = .ok (.iload_n 2, 1) := by decide +kernel
theorem dX8_lettersMany_5 : decode cX8_lettersMany 5 = .ok (.aload_n 0, 1) := by decide +kernel
theorem dX8_lettersMany_6 : decode cX8_lettersMany 6 = .ok (.getfield 97, 3) := by decide +kernel
theorem dX8_lettersMany_9 : decode cX8_lettersMany 9 = .ok (.if_icmp .ge 39, 3) := by decide +kernel
theorem dX8_lettersMany_12 : decode cX8_lettersMany 12 = .ok (.iconst 0, 1) := by decide +kernel
theorem dX8_lettersMany_13 : decode cX8_lettersMany 13 = .ok (.istore_n 3, 1) := by decide +kernel
theorem dX8_lettersMany_14 : decode cX8_lettersMany 14 = .ok (.iload_n 3, 1) := by decide +kernel
theorem dX8_lettersMany_15 : decode cX8_lettersMany 15 = .ok (.aload_n 0, 1) := by decide +kernel
theorem dX8_lettersMany_16 : decode cX8_lettersMany 16 = .ok (.getfield 100, 3) := by decide +kernel
theorem dX8_lettersMany_19 : decode cX8_lettersMany 19 = .ok (.if_icmp .ge 23, 3) := by decide +kernel
theorem dX8_lettersMany_22 : decode cX8_lettersMany 22 = .ok (.iload_n 1, 1) := by decide +kernel
theorem dX8_lettersMany_23 : decode cX8_lettersMany 23 = .ok (.iconst 1, 1) := by decide +kernel
theorem dX8_lettersMany_24 : decode cX8_lettersMany 24 = .ok (.aload_n 0, 1) := by decide +kernel
theorem dX8_lettersMany_25 : decode cX8_lettersMany 25 = .ok (.iload_n 2, 1) := by decide +kernel
theorem dX8_lettersMany_26 : decode cX8_lettersMany 26 = .ok (.iload_n 3, 1) := by decide +kernel
theorem dX8_lettersMany_27 : decode cX8_lettersMany 27 = .ok (.invokevirtual 130, 3) := by decide +kernel
theorem dX8_lettersMany_30 : decode cX8_lettersMany 30 = .ok (.bipush 97, 2) := by decide +kernel
theorem dX8_lettersMany_32 : decode cX8_lettersMany 32 = .ok (.isub, 1) := by decide +kernel
theorem dX8_lettersMany_33 : decode cX8_lettersMany 33 = .ok (.ishl, 1) := by decide +kernel
theorem dX8_lettersMany_34 : decode cX8_lettersMany 34 = .ok (.ior, 1) := by decide +kernel
theorem dX8_lettersMany_35 : decode cX8_lettersMany 35 = .ok (.istore_n 1, 1) := by decide +kernel
theorem dX8_lettersMany_36 : decode cX8_lettersMany 36 = .ok (.iinc 3 1, 3) := by decide +kernel
theorem dX8_lettersMany_39 : decode cX8_lettersMany 39 = .ok (.goto (-25), 3) := by decide +kernel
theorem dX8_lettersMany_42 : decode cX8_lettersMany 42 = .ok (.iinc 2 1, 3) := by decide +kernel
theorem dX8_lettersMany_45 : decode cX8_lettersMany 45 = .ok (.goto (-41), 3) := by decide +kernel
theorem dX8_lettersMany_48 : decode cX8_lettersMany 48 = .ok (.iconst 0, 1) := by decide +kernel
theorem dX8_lettersMany_49 : decode cX8_lettersMany 49 = .ok (.istore_n 2, 1) := by decide +kernel
theorem dX8_lettersMany_50 : decode cX8_lettersMany 50 = .ok (.iconst 0, 1) := by decide +kernel
theorem dX8_lettersMany_51 : decode cX8_lettersMany 51 = .ok (.istore_n 3, 1) := by decide +kernel
theorem dX8_lettersMany_52 : decode cX8_lettersMany 52 = .ok (.iload_n 3, 1) := by decide +kernel
theorem dX8_lettersMany_53 : decode cX8_lettersMany 53 = .ok (.bipush 26, 2) := by decide +kernel
theorem dX8_lettersMany_55 : decode cX8_lettersMany 55 = .ok (.if_icmp .ge 17, 3) := by decide +kernel
theorem dX8_lettersMany_58 : decode cX8_lettersMany 58 = .ok (.iload_n 2, 1) := by decide +kernel
theorem dX8_lettersMany_59 : decode cX8_lettersMany 59 = .ok (.iload_n 1, 1) := by decide +kernel
theorem dX8_lettersMany_60 : decode cX8_lettersMany 60 = .ok (.iload_n 3, 1) := by decide +kernel
theorem dX8_lettersMany_61 : decode cX8_lettersMany 61 = .ok (.ishr, 1) := by decide +kernel
theorem dX8_lettersMany_62 : decode cX8_lettersMany 62 = .ok (.iconst 1, 1) := by decide +kernel
theorem dX8_lettersMany_63 : decode cX8_lettersMany 63 = .ok (.iand, 1) := by decide +kernel
theorem dX8_lettersMany_64 : decode cX8_lettersMany 64 = .ok (.iadd, 1) := by decide +kernel
theorem dX8_lettersMany_65 : decode cX8_lettersMany 65 = .ok (.istore_n 2, 1) := by decide +kernel
theorem dX8_lettersMany_66 : decode cX8_lettersMany 66 = .ok (.iinc 3 1, 3) := by decide +kernel
theorem dX8_lettersMany_69 : decode cX8_lettersMany 69 = .ok (.goto (-17), 3) := by decide +kernel
theorem dX8_lettersMany_72 : decode cX8_lettersMany 72 = .ok (.iload_n 2, 1) := by decide +kernel
theorem dX8_lettersMany_73 : decode cX8_lettersMany 73 = .ok (.ireturn, 1) := by decide +kernel
theorem dX8_weightsAll_0 : decode cX8_weightsAll 0 = .ok (.iconst 0, 1) := by decide +kernel
theorem dX8_weightsAll_1 : decode cX8_weightsAll 1 = .ok (.istore_n 1, 1) := by decide +kernel
theorem dX8_weightsAll_2 : decode cX8_weightsAll 2 = .ok (.iconst 0, 1) := by decide +kernel
theorem dX8_weightsAll_3 : decode cX8_weightsAll 3 = .ok (.istore_n 2, 1) := by decide +kernel
theorem dX8_weightsAll_4 : decode cX8_weightsAll 4 = .ok (.iload_n 2, 1) := by decide +kernel
theorem dX8_weightsAll_5 : decode cX8_weightsAll 5 = .ok (.aload_n 0, 1) := by decide +kernel
theorem dX8_weightsAll_6 : decode cX8_weightsAll 6 = .ok (.getfield 97, 3) := by decide +kernel
theorem dX8_weightsAll_9 : decode cX8_weightsAll 9 = .ok (.if_icmp .ge 18, 3) := by decide +kernel
theorem dX8_weightsAll_12 : decode cX8_weightsAll 12 = .ok (.iload_n 1, 1) := by decide +kernel
theorem dX8_weightsAll_13 : decode cX8_weightsAll 13 = .ok (.aload_n 0, 1) := by decide +kernel
theorem dX8_weightsAll_14 : decode cX8_weightsAll 14 = .ok (.getfield 13, 3) := by decide +kernel
theorem dX8_weightsAll_17 : decode cX8_weightsAll 17 = .ok (.iload_n 2, 1) := by decide +kernel
theorem dX8_weightsAll_18 : decode cX8_weightsAll 18 = .ok (.iaload, 1) := by decide +kernel
theorem dX8_weightsAll_19 : decode cX8_weightsAll 19 = .ok (.iadd, 1) := by decide +kernel
theorem dX8_weightsAll_20 : decode cX8_weightsAll 20 = .ok (.istore_n 1, 1) := by decide +kernel
theorem dX8_weightsAll_21 : decode cX8_weightsAll 21 = .ok (.iinc 2 1, 3) := by decide +kernel
theorem dX8_weightsAll_24 : decode cX8_weightsAll 24 = .ok (.goto (-20), 3) := by decide +kernel
theorem dX8_weightsAll_27 : decode cX8_weightsAll 27 = .ok (.iload_n 1, 1) := by decide +kernel
theorem dX8_weightsAll_28 : decode cX8_weightsAll 28 = .ok (.ireturn, 1) := by decide +kernel
theorem dX8_mirrorOf_0 : decode cX8_mirrorOf 0 = .ok (.iconst 0, 1) := by decide +kernel
theorem dX8_mirrorOf_1 : decode cX8_mirrorOf 1 = .ok (.istore_n 2, 1) := by decide +kernel
theorem dX8_mirrorOf_2 : decode cX8_mirrorOf 2 = .ok (.iload_n 2, 1) := by decide +kernel
theorem dX8_mirrorOf_3 : decode cX8_mirrorOf 3 = .ok (.aload_n 0, 1) := by decide +kernel
theorem dX8_mirrorOf_4 : decode cX8_mirrorOf 4 = .ok (.getfield 97, 3) := by decide +kernel
theorem dX8_mirrorOf_7 : decode cX8_mirrorOf 7 = .ok (.if_icmp .ge 69, 3) := by decide +kernel
theorem dX8_mirrorOf_10 : decode cX8_mirrorOf 10 = .ok (.iconst 1, 1) := by decide +kernel
theorem dX8_mirrorOf_11 : decode cX8_mirrorOf 11 = .ok (.istore_n 3, 1) := by decide +kernel
theorem dX8_mirrorOf_12 : decode cX8_mirrorOf 12 = .ok (.iconst 0, 1) := by decide +kernel
theorem dX8_mirrorOf_13 : decode cX8_mirrorOf 13 = .ok (.istore 4, 2) := by decide +kernel
theorem dX8_mirrorOf_15 : decode cX8_mirrorOf 15 = .ok (.iload 4, 2) := by decide +kernel
theorem dX8_mirrorOf_17 : decode cX8_mirrorOf 17 = .ok (.aload_n 0, 1) := by decide +kernel
theorem dX8_mirrorOf_18 : decode cX8_mirrorOf 18 = .ok (.getfield 100, 3) := by decide +kernel
theorem dX8_mirrorOf_21 : decode cX8_mirrorOf 21 = .ok (.if_icmp .ge 43, 3) := by decide +kernel
theorem dX8_mirrorOf_24 : decode cX8_mirrorOf 24 = .ok (.iload_n 3, 1) := by decide +kernel
theorem dX8_mirrorOf_25 : decode cX8_mirrorOf 25 = .ok (.ifCond .eq 31, 3) := by decide +kernel
theorem dX8_mirrorOf_28 : decode cX8_mirrorOf 28 = .ok (.aload_n 0, 1) := by decide +kernel
theorem dX8_mirrorOf_29 : decode cX8_mirrorOf 29 = .ok (.iload_n 2, 1) := by decide +kernel
theorem dX8_mirrorOf_30 : decode cX8_mirrorOf 30 = .ok (.iload 4, 2) := by decide +kernel
theorem dX8_mirrorOf_32 : decode cX8_mirrorOf 32 = .ok (.invokevirtual 130, 3) := by decide +kernel
theorem dX8_mirrorOf_35 : decode cX8_mirrorOf 35 = .ok (.aload_n 0, 1) := by decide +kernel
theorem dX8_mirrorOf_36 : decode cX8_mirrorOf 36 = .ok (.iload_n 1, 1) := by decide +kernel
theorem dX8_mirrorOf_37 : decode cX8_mirrorOf 37 = .ok (.aload_n 0, 1) := by decide +kernel
theorem dX8_mirrorOf_38 : decode cX8_mirrorOf 38 = .ok (.getfield 100, 3) := by decide +kernel
theorem dX8_mirrorOf_41 : decode cX8_mirrorOf 41 = .ok (.iconst 1, 1) := by decide +kernel
theorem dX8_mirrorOf_42 : decode cX8_mirrorOf 42 = .ok (.isub, 1) := by decide +kernel
theorem dX8_mirrorOf_43 : decode cX8_mirrorOf 43 = .ok (.iload 4, 2) := by decide +kernel
theorem dX8_mirrorOf_45 : decode cX8_mirrorOf 45 = .ok (.isub, 1) := by decide +kernel
theorem dX8_mirrorOf_46 : decode cX8_mirrorOf 46 = .ok (.invokevirtual 130, 3) := by decide +kernel
theorem dX8_mirrorOf_49 : decode cX8_mirrorOf 49 = .ok (.if_icmp .ne 7, 3) := by decide +kernel
theorem dX8_mirrorOf_52 : decode cX8_mirrorOf 52 = .ok (.iconst 1, 1) := by decide +kernel
theorem dX8_mirrorOf_53 : decode cX8_mirrorOf 53 = .ok (.goto 4, 3) := by decide +kernel
theorem dX8_mirrorOf_56 : decode cX8_mirrorOf 56 = .ok (.iconst 0, 1) := by decide +kernel
theorem dX8_mirrorOf_57 : decode cX8_mirrorOf 57 = .ok (.istore_n 3, 1) := by decide +kernel
theorem dX8_mirrorOf_58 : decode cX8_mirrorOf 58 = .ok (.iinc 4 1, 3) := by decide +kernel
theorem dX8_mirrorOf_61 : decode cX8_mirrorOf 61 = .ok (.goto (-46), 3) := by decide +kernel
theorem dX8_mirrorOf_64 : decode cX8_mirrorOf 64 = .ok (.iload_n 3, 1) := by decide +kernel
theorem dX8_mirrorOf_65 : decode cX8_mirrorOf 65 = .ok (.ifCond .eq 5, 3) := by decide +kernel
theorem dX8_mirrorOf_68 : decode cX8_mirrorOf 68 = .ok (.iload_n 2, 1) := by decide +kernel
theorem dX8_mirrorOf_69 : decode cX8_mirrorOf 69 = .ok (.ireturn, 1) := by decide +kernel
theorem dX8_mirrorOf_70 : decode cX8_mirrorOf 70 = .ok (.iinc 2 1, 3) := by decide +kernel
theorem dX8_mirrorOf_73 : decode cX8_mirrorOf 73 = .ok (.goto (-71), 3) := by decide +kernel
theorem dX8_mirrorOf_76 : decode cX8_mirrorOf 76 = .ok (.iconst (-1), 1) := by decide +kernel
theorem dX8_mirrorOf_77 : decode cX8_mirrorOf 77 = .ok (.ireturn, 1) := by decide +kernel
theorem dX8_mirrored_0 : decode cX8_mirrored 0 = .ok (.iconst 0, 1) := by decide +kernel
theorem dX8_mirrored_1 : decode cX8_mirrored 1 = .ok (.istore_n 1, 1) := by decide +kernel
theorem dX8_mirrored_2 : decode cX8_mirrored 2 = .ok (.iconst 0, 1) := by decide +kernel
theorem dX8_mirrored_3 : decode cX8_mirrored 3 = .ok (.istore_n 2, 1) := by decide +kernel
theorem dX8_mirrored_4 : decode cX8_mirrored 4 = .ok (.iload_n 2, 1) := by decide +kernel
theorem dX8_mirrored_5 : decode cX8_mirrored 5 = .ok (.aload_n 0, 1) := by decide +kernel
theorem dX8_mirrored_6 : decode cX8_mirrored 6 = .ok (.getfield 97, 3) := by decide +kernel
theorem dX8_mirrored_9 : decode cX8_mirrored 9 = .ok (.if_icmp .ge 26, 3) := by decide +kernel
theorem dX8_mirrored_12 : decode cX8_mirrored 12 = .ok (.iload_n 1, 1) := by decide +kernel
theorem dX8_mirrored_13 : decode cX8_mirrored 13 = .ok (.aload_n 0, 1) := by decide +kernel
theorem dX8_mirrored_14 : decode cX8_mirrored 14 = .ok (.iload_n 2, 1) := by decide +kernel
theorem dX8_mirrored_15 : decode cX8_mirrored 15 = .ok (.invokevirtual 137, 3) := by decide +kernel
theorem dX8_mirrored_18 : decode cX8_mirrored 18 = .ok (.iconst (-1), 1) := by decide +kernel
theorem dX8_mirrored_19 : decode cX8_mirrored 19 = .ok (.if_icmp .ne 7, 3) := by decide +kernel
theorem dX8_mirrored_22 : decode cX8_mirrored 22 = .ok (.iconst 0, 1) := by decide +kernel
theorem dX8_mirrored_23 : decode cX8_mirrored 23 = .ok (.goto 4, 3) := by decide +kernel
theorem dX8_mirrored_26 : decode cX8_mirrored 26 = .ok (.iconst 1, 1) := by decide +kernel
theorem dX8_mirrored_27 : decode cX8_mirrored 27 = .ok (.iadd, 1) := by decide +kernel
theorem dX8_mirrored_28 : decode cX8_mirrored 28 = .ok (.istore_n 1, 1) := by decide +kernel
theorem dX8_mirrored_29 : decode cX8_mirrored 29 = .ok (.iinc 2 1, 3) := by decide +kernel
theorem dX8_mirrored_32 : decode cX8_mirrored 32 = .ok (.goto (-28), 3) := by decide +kernel
theorem dX8_mirrored_35 : decode cX8_mirrored 35 = .ok (.iload_n 1, 1) := by decide +kernel
theorem dX8_mirrored_36 : decode cX8_mirrored 36 = .ok (.ireturn, 1) := by decide +kernel
theorem dX8_aboutNow_0 : decode cX8_aboutNow 0 = .ok (.iload_n 1, 1) := by decide +kernel
theorem dX8_aboutNow_1 : decode cX8_aboutNow 1 = .ok (.tableswitch 60 0 4 #[35, 40, 45, 50, 55], 35) := by decide +kernel
theorem dX8_aboutNow_36 : decode cX8_aboutNow 36 = .ok (.aload_n 0, 1) := by decide +kernel
theorem dX8_aboutNow_37 : decode cX8_aboutNow 37 = .ok (.getfield 100, 3) := by decide +kernel
theorem dX8_aboutNow_40 : decode cX8_aboutNow 40 = .ok (.ireturn, 1) := by decide +kernel
theorem dX8_aboutNow_41 : decode cX8_aboutNow 41 = .ok (.aload_n 0, 1) := by decide +kernel
theorem dX8_aboutNow_42 : decode cX8_aboutNow 42 = .ok (.getfield 97, 3) := by decide +kernel
theorem dX8_aboutNow_45 : decode cX8_aboutNow 45 = .ok (.ireturn, 1) := by decide +kernel
theorem dX8_aboutNow_46 : decode cX8_aboutNow 46 = .ok (.aload_n 0, 1) := by decide +kernel
theorem dX8_aboutNow_47 : decode cX8_aboutNow 47 = .ok (.invokevirtual 141, 3) := by decide +kernel
theorem dX8_aboutNow_50 : decode cX8_aboutNow 50 = .ok (.ireturn, 1) := by decide +kernel
theorem dX8_aboutNow_51 : decode cX8_aboutNow 51 = .ok (.aload_n 0, 1) := by decide +kernel
theorem dX8_aboutNow_52 : decode cX8_aboutNow 52 = .ok (.invokevirtual 144, 3) := by decide +kernel
theorem dX8_aboutNow_55 : decode cX8_aboutNow 55 = .ok (.ireturn, 1) := by decide +kernel
theorem dX8_aboutNow_56 : decode cX8_aboutNow 56 = .ok (.aload_n 0, 1) := by decide +kernel
theorem dX8_aboutNow_57 : decode cX8_aboutNow 57 = .ok (.invokevirtual 147, 3) := by decide +kernel
theorem dX8_aboutNow_60 : decode cX8_aboutNow 60 = .ok (.ireturn, 1) := by decide +kernel
theorem dX8_aboutNow_61 : decode cX8_aboutNow 61 = .ok (.aload_n 0, 1) := by decide +kernel
theorem dX8_aboutNow_62 : decode cX8_aboutNow 62 = .ok (.invokevirtual 150, 3) := by decide +kernel
theorem dX8_aboutNow_65 : decode cX8_aboutNow 65 = .ok (.ireturn, 1) := by decide +kernel
theorem dX8_about_0 : decode cX8_about 0 = .ok (.iload_n 1, 1) := by decide +kernel
theorem dX8_about_1 : decode cX8_about 1 = .ok (.iconst 0, 1) := by decide +kernel
theorem dX8_about_2 : decode cX8_about 2 = .ok (.iconst 5, 1) := by decide +kernel
theorem dX8_about_3 : decode cX8_about 3 = .ok (.invokestatic 65, 3) := by decide +kernel
theorem dX8_about_6 : decode cX8_about 6 = .ok (.ifCond .eq 11, 3) := by decide +kernel
theorem dX8_about_9 : decode cX8_about 9 = .ok (.aload_n 0, 1) := by decide +kernel
theorem dX8_about_10 : decode cX8_about 10 = .ok (.iload_n 1, 1) := by decide +kernel
theorem dX8_about_11 : decode cX8_about 11 = .ok (.invokevirtual 153, 3) := by decide +kernel
theorem dX8_about_14 : decode cX8_about 14 = .ok (.goto 5, 3) := by decide +kernel
theorem dX8_about_17 : decode cX8_about 17 = .ok (.bipush (-102), 2) := by decide +kernel
theorem dX8_about_19 : decode cX8_about 19 = .ok (.ireturn, 1) := by decide +kernel
theorem dX8_sign_0 : decode cX8_sign 0 = .ok (.aload_n 0, 1) := by decide +kernel
theorem dX8_sign_1 : decode cX8_sign 1 = .ok (.iload_n 1, 1) := by decide +kernel
theorem dX8_sign_2 : decode cX8_sign 2 = .ok (.invokevirtual 124, 3) := by decide +kernel
theorem dX8_sign_5 : decode cX8_sign 5 = .ok (.ifCond .eq 26, 3) := by decide +kernel
theorem dX8_sign_8 : decode cX8_sign 8 = .ok (.iload_n 2, 1) := by decide +kernel
theorem dX8_sign_9 : decode cX8_sign 9 = .ok (.iconst 0, 1) := by decide +kernel
theorem dX8_sign_10 : decode cX8_sign 10 = .ok (.aload_n 0, 1) := by decide +kernel
theorem dX8_sign_11 : decode cX8_sign 11 = .ok (.getfield 100, 3) := by decide +kernel
theorem dX8_sign_14 : decode cX8_sign 14 = .ok (.iconst 1, 1) := by decide +kernel
theorem dX8_sign_15 : decode cX8_sign 15 = .ok (.isub, 1) := by decide +kernel
theorem dX8_sign_16 : decode cX8_sign 16 = .ok (.invokestatic 65, 3) := by decide +kernel
theorem dX8_sign_19 : decode cX8_sign 19 = .ok (.ifCond .eq 12, 3) := by decide +kernel
theorem dX8_sign_22 : decode cX8_sign 22 = .ok (.aload_n 0, 1) := by decide +kernel
theorem dX8_sign_23 : decode cX8_sign 23 = .ok (.iload_n 1, 1) := by decide +kernel
theorem dX8_sign_24 : decode cX8_sign 24 = .ok (.iload_n 2, 1) := by decide +kernel
theorem dX8_sign_25 : decode cX8_sign 25 = .ok (.invokevirtual 130, 3) := by decide +kernel
theorem dX8_sign_28 : decode cX8_sign 28 = .ok (.goto 5, 3) := by decide +kernel
theorem dX8_sign_31 : decode cX8_sign 31 = .ok (.bipush (-101), 2) := by decide +kernel
theorem dX8_sign_33 : decode cX8_sign 33 = .ok (.ireturn, 1) := by decide +kernel
theorem dX8_beginsNow_0 : decode cX8_beginsNow 0 = .ok (.iconst 0, 1) := by decide +kernel
theorem dX8_beginsNow_1 : decode cX8_beginsNow 1 = .ok (.istore_n 3, 1) := by decide +kernel
theorem dX8_beginsNow_2 : decode cX8_beginsNow 2 = .ok (.iconst 0, 1) := by decide +kernel
theorem dX8_beginsNow_3 : decode cX8_beginsNow 3 = .ok (.istore 4, 2) := by decide +kernel
theorem dX8_beginsNow_5 : decode cX8_beginsNow 5 = .ok (.iload 4, 2) := by decide +kernel
theorem dX8_beginsNow_7 : decode cX8_beginsNow 7 = .ok (.aload_n 0, 1) := by decide +kernel
theorem dX8_beginsNow_8 : decode cX8_beginsNow 8 = .ok (.getfield 97, 3) := by decide +kernel
theorem dX8_beginsNow_11 : decode cX8_beginsNow 11 = .ok (.if_icmp .ge 28, 3) := by decide +kernel
theorem dX8_beginsNow_14 : decode cX8_beginsNow 14 = .ok (.iload_n 3, 1) := by decide +kernel
theorem dX8_beginsNow_15 : decode cX8_beginsNow 15 = .ok (.aload_n 0, 1) := by decide +kernel
theorem dX8_beginsNow_16 : decode cX8_beginsNow 16 = .ok (.iload_n 1, 1) := by decide +kernel
theorem dX8_beginsNow_17 : decode cX8_beginsNow 17 = .ok (.iload 4, 2) := by decide +kernel
theorem dX8_beginsNow_19 : decode cX8_beginsNow 19 = .ok (.invokevirtual 134, 3) := by decide +kernel
theorem dX8_beginsNow_22 : decode cX8_beginsNow 22 = .ok (.iload_n 2, 1) := by decide +kernel
theorem dX8_beginsNow_23 : decode cX8_beginsNow 23 = .ok (.if_icmp .lt 7, 3) := by decide +kernel
theorem dX8_beginsNow_26 : decode cX8_beginsNow 26 = .ok (.iconst 1, 1) := by decide +kernel
theorem dX8_beginsNow_27 : decode cX8_beginsNow 27 = .ok (.goto 4, 3) := by decide +kernel
theorem dX8_beginsNow_30 : decode cX8_beginsNow 30 = .ok (.iconst 0, 1) := by decide +kernel
theorem dX8_beginsNow_31 : decode cX8_beginsNow 31 = .ok (.iadd, 1) := by decide +kernel
theorem dX8_beginsNow_32 : decode cX8_beginsNow 32 = .ok (.istore_n 3, 1) := by decide +kernel
theorem dX8_beginsNow_33 : decode cX8_beginsNow 33 = .ok (.iinc 4 1, 3) := by decide +kernel
theorem dX8_beginsNow_36 : decode cX8_beginsNow 36 = .ok (.goto (-31), 3) := by decide +kernel
theorem dX8_beginsNow_39 : decode cX8_beginsNow 39 = .ok (.iload_n 3, 1) := by decide +kernel
theorem dX8_beginsNow_40 : decode cX8_beginsNow 40 = .ok (.ireturn, 1) := by decide +kernel
theorem dX8_begins_0 : decode cX8_begins 0 = .ok (.aload_n 0, 1) := by decide +kernel
theorem dX8_begins_1 : decode cX8_begins 1 = .ok (.iload_n 1, 1) := by decide +kernel
theorem dX8_begins_2 : decode cX8_begins 2 = .ok (.invokevirtual 124, 3) := by decide +kernel
theorem dX8_begins_5 : decode cX8_begins 5 = .ok (.ifCond .ne 6, 3) := by decide +kernel
theorem dX8_begins_8 : decode cX8_begins 8 = .ok (.bipush (-101), 2) := by decide +kernel
theorem dX8_begins_10 : decode cX8_begins 10 = .ok (.ireturn, 1) := by decide +kernel
theorem dX8_begins_11 : decode cX8_begins 11 = .ok (.iload_n 2, 1) := by decide +kernel
theorem dX8_begins_12 : decode cX8_begins 12 = .ok (.iconst 0, 1) := by decide +kernel
theorem dX8_begins_13 : decode cX8_begins 13 = .ok (.aload_n 0, 1) := by decide +kernel
theorem dX8_begins_14 : decode cX8_begins 14 = .ok (.getfield 100, 3) := by decide +kernel
theorem dX8_begins_17 : decode cX8_begins 17 = .ok (.invokestatic 65, 3) := by decide +kernel
theorem dX8_begins_20 : decode cX8_begins 20 = .ok (.ifCond .eq 12, 3) := by decide +kernel
theorem dX8_begins_23 : decode cX8_begins 23 = .ok (.aload_n 0, 1) := by decide +kernel
theorem dX8_begins_24 : decode cX8_begins 24 = .ok (.iload_n 1, 1) := by decide +kernel
theorem dX8_begins_25 : decode cX8_begins 25 = .ok (.iload_n 2, 1) := by decide +kernel
theorem dX8_begins_26 : decode cX8_begins 26 = .ok (.invokevirtual 156, 3) := by decide +kernel
theorem dX8_begins_29 : decode cX8_begins 29 = .ok (.goto 5, 3) := by decide +kernel
theorem dX8_begins_32 : decode cX8_begins 32 = .ok (.bipush (-102), 2) := by decide +kernel
theorem dX8_begins_34 : decode cX8_begins 34 = .ok (.ireturn, 1) := by decide +kernel
theorem dX8_begin_0 : decode cX8_begin 0 = .ok (.iconst 0, 1) := by decide +kernel
theorem dX8_begin_1 : decode cX8_begin 1 = .ok (.istore_n 1, 1) := by decide +kernel
theorem dX8_begin_2 : decode cX8_begin 2 = .ok (.iload_n 1, 1) := by decide +kernel
theorem dX8_begin_3 : decode cX8_begin 3 = .ok (.iconst 4, 1) := by decide +kernel
theorem dX8_begin_4 : decode cX8_begin 4 = .ok (.if_icmp .ge 16, 3) := by decide +kernel
theorem dX8_begin_7 : decode cX8_begin 7 = .ok (.aload_n 0, 1) := by decide +kernel
theorem dX8_begin_8 : decode cX8_begin 8 = .ok (.getfield 25, 3) := by decide +kernel
theorem dX8_begin_11 : decode cX8_begin 11 = .ok (.iload_n 1, 1) := by decide +kernel
theorem dX8_begin_12 : decode cX8_begin 12 = .ok (.iconst 0, 1) := by decide +kernel
theorem dX8_begin_13 : decode cX8_begin 13 = .ok (.iastore, 1) := by decide +kernel
theorem dX8_begin_14 : decode cX8_begin 14 = .ok (.iinc 1 1, 3) := by decide +kernel
theorem dX8_begin_17 : decode cX8_begin 17 = .ok (.goto (-15), 3) := by decide +kernel
theorem dX8_begin_20 : decode cX8_begin 20 = .ok (.return_, 1) := by decide +kernel
theorem dX8_next_0 : decode cX8_next 0 = .ok (.aload_n 0, 1) := by decide +kernel
theorem dX8_next_1 : decode cX8_next 1 = .ok (.getfield 100, 3) := by decide +kernel
theorem dX8_next_4 : decode cX8_next 4 = .ok (.iconst 1, 1) := by decide +kernel
theorem dX8_next_5 : decode cX8_next 5 = .ok (.isub, 1) := by decide +kernel
theorem dX8_next_6 : decode cX8_next 6 = .ok (.istore_n 1, 1) := by decide +kernel
theorem dX8_next_7 : decode cX8_next 7 = .ok (.iload_n 1, 1) := by decide +kernel
theorem dX8_next_8 : decode cX8_next 8 = .ok (.ifCond .lt 31, 3) := by decide +kernel
theorem dX8_next_11 : decode cX8_next 11 = .ok (.aload_n 0, 1) := by decide +kernel
theorem dX8_next_12 : decode cX8_next 12 = .ok (.getfield 25, 3) := by decide +kernel
theorem dX8_next_15 : decode cX8_next 15 = .ok (.iload_n 1, 1) := by decide +kernel
theorem dX8_next_16 : decode cX8_next 16 = .ok (.iaload, 1) := by decide +kernel
theorem dX8_next_17 : decode cX8_next 17 = .ok (.aload_n 0, 1) := by decide +kernel
theorem dX8_next_18 : decode cX8_next 18 = .ok (.getfield 97, 3) := by decide +kernel
theorem dX8_next_21 : decode cX8_next 21 = .ok (.iconst 1, 1) := by decide +kernel
theorem dX8_next_22 : decode cX8_next 22 = .ok (.isub, 1) := by decide +kernel
theorem dX8_next_23 : decode cX8_next 23 = .ok (.if_icmp .ne 16, 3) := by decide +kernel
theorem dX8_next_26 : decode cX8_next 26 = .ok (.aload_n 0, 1) := by decide +kernel
theorem dX8_next_27 : decode cX8_next 27 = .ok (.getfield 25, 3) := by decide +kernel
theorem dX8_next_30 : decode cX8_next 30 = .ok (.iload_n 1, 1) := by decide +kernel
theorem dX8_next_31 : decode cX8_next 31 = .ok (.iconst 0, 1) := by decide +kernel
theorem dX8_next_32 : decode cX8_next 32 = .ok (.iastore, 1) := by decide +kernel
theorem dX8_next_33 : decode cX8_next 33 = .ok (.iinc 1 (-1), 3) := by decide +kernel
theorem dX8_next_36 : decode cX8_next 36 = .ok (.goto (-29), 3) := by decide +kernel
theorem dX8_next_39 : decode cX8_next 39 = .ok (.iload_n 1, 1) := by decide +kernel
theorem dX8_next_40 : decode cX8_next 40 = .ok (.ifCond .ge 5, 3) := by decide +kernel
theorem dX8_next_43 : decode cX8_next 43 = .ok (.iconst 0, 1) := by decide +kernel
theorem dX8_next_44 : decode cX8_next 44 = .ok (.ireturn, 1) := by decide +kernel
theorem dX8_next_45 : decode cX8_next 45 = .ok (.aload_n 0, 1) := by decide +kernel
theorem dX8_next_46 : decode cX8_next 46 = .ok (.getfield 25, 3) := by decide +kernel
theorem dX8_next_49 : decode cX8_next 49 = .ok (.iload_n 1, 1) := by decide +kernel
theorem dX8_next_50 : decode cX8_next 50 = .ok (.dup2, 1) := by decide +kernel
theorem dX8_next_51 : decode cX8_next 51 = .ok (.iaload, 1) := by decide +kernel
theorem dX8_next_52 : decode cX8_next 52 = .ok (.iconst 1, 1) := by decide +kernel
theorem dX8_next_53 : decode cX8_next 53 = .ok (.iadd, 1) := by decide +kernel
theorem dX8_next_54 : decode cX8_next 54 = .ok (.iastore, 1) := by decide +kernel
theorem dX8_next_55 : decode cX8_next 55 = .ok (.iconst 1, 1) := by decide +kernel
theorem dX8_next_56 : decode cX8_next 56 = .ok (.ireturn, 1) := by decide +kernel
theorem dX8_wordOfColumn_0 : decode cX8_wordOfColumn 0 = .ok (.iconst 0, 1) := by decide +kernel
theorem dX8_wordOfColumn_1 : decode cX8_wordOfColumn 1 = .ok (.istore_n 2, 1) := by decide +kernel
theorem dX8_wordOfColumn_2 : decode cX8_wordOfColumn 2 = .ok (.iload_n 2, 1) := by decide +kernel
theorem dX8_wordOfColumn_3 : decode cX8_wordOfColumn 3 = .ok (.aload_n 0, 1) := by decide +kernel
theorem dX8_wordOfColumn_4 : decode cX8_wordOfColumn 4 = .ok (.getfield 97, 3) := by decide +kernel
theorem dX8_wordOfColumn_7 : decode cX8_wordOfColumn 7 = .ok (.if_icmp .ge 67, 3) := by decide +kernel
theorem dX8_wordOfColumn_10 : decode cX8_wordOfColumn 10 = .ok (.iconst 1, 1) := by decide +kernel
theorem dX8_wordOfColumn_11 : decode cX8_wordOfColumn 11 = .ok (.istore_n 3, 1) := by decide +kernel
theorem dX8_wordOfColumn_12 : decode cX8_wordOfColumn 12 = .ok (.iconst 0, 1) := by decide +kernel
theorem dX8_wordOfColumn_13 : decode cX8_wordOfColumn 13 = .ok (.istore 4, 2) := by decide +kernel
theorem dX8_wordOfColumn_15 : decode cX8_wordOfColumn 15 = .ok (.iload 4, 2) := by decide +kernel
theorem dX8_wordOfColumn_17 : decode cX8_wordOfColumn 17 = .ok (.aload_n 0, 1) := by decide +kernel
theorem dX8_wordOfColumn_18 : decode cX8_wordOfColumn 18 = .ok (.getfield 100, 3) := by decide +kernel
theorem dX8_wordOfColumn_21 : decode cX8_wordOfColumn 21 = .ok (.if_icmp .ge 41, 3) := by decide +kernel
theorem dX8_wordOfColumn_24 : decode cX8_wordOfColumn 24 = .ok (.iload_n 3, 1) := by decide +kernel
theorem dX8_wordOfColumn_25 : decode cX8_wordOfColumn 25 = .ok (.ifCond .eq 37, 3) := by decide +kernel
theorem dX8_wordOfColumn_28 : decode cX8_wordOfColumn 28 = .ok (.aload_n 0, 1) := by decide +kernel
theorem dX8_wordOfColumn_29 : decode cX8_wordOfColumn 29 = .ok (.aload_n 0, 1) := by decide +kernel
theorem dX8_wordOfColumn_30 : decode cX8_wordOfColumn 30 = .ok (.getfield 25, 3) := by decide +kernel
theorem dX8_wordOfColumn_33 : decode cX8_wordOfColumn 33 = .ok (.iload 4, 2) := by decide +kernel
theorem dX8_wordOfColumn_35 : decode cX8_wordOfColumn 35 = .ok (.iaload, 1) := by decide +kernel
theorem dX8_wordOfColumn_36 : decode cX8_wordOfColumn 36 = .ok (.iload_n 1, 1) := by decide +kernel
theorem dX8_wordOfColumn_37 : decode cX8_wordOfColumn 37 = .ok (.invokevirtual 130, 3) := by decide +kernel
theorem dX8_wordOfColumn_40 : decode cX8_wordOfColumn 40 = .ok (.aload_n 0, 1) := by decide +kernel
theorem dX8_wordOfColumn_41 : decode cX8_wordOfColumn 41 = .ok (.iload_n 2, 1) := by decide +kernel
theorem dX8_wordOfColumn_42 : decode cX8_wordOfColumn 42 = .ok (.iload 4, 2) := by decide +kernel
theorem dX8_wordOfColumn_44 : decode cX8_wordOfColumn 44 = .ok (.invokevirtual 130, 3) := by decide +kernel
theorem dX8_wordOfColumn_47 : decode cX8_wordOfColumn 47 = .ok (.if_icmp .ne 7, 3) := by decide +kernel
theorem dX8_wordOfColumn_50 : decode cX8_wordOfColumn 50 = .ok (.iconst 1, 1) := by decide +kernel
theorem dX8_wordOfColumn_51 : decode cX8_wordOfColumn 51 = .ok (.goto 4, 3) := by decide +kernel
theorem dX8_wordOfColumn_54 : decode cX8_wordOfColumn 54 = .ok (.iconst 0, 1) := by decide +kernel
theorem dX8_wordOfColumn_55 : decode cX8_wordOfColumn 55 = .ok (.istore_n 3, 1) := by decide +kernel
theorem dX8_wordOfColumn_56 : decode cX8_wordOfColumn 56 = .ok (.iinc 4 1, 3) := by decide +kernel
theorem dX8_wordOfColumn_59 : decode cX8_wordOfColumn 59 = .ok (.goto (-44), 3) := by decide +kernel
theorem dX8_wordOfColumn_62 : decode cX8_wordOfColumn 62 = .ok (.iload_n 3, 1) := by decide +kernel
theorem dX8_wordOfColumn_63 : decode cX8_wordOfColumn 63 = .ok (.ifCond .eq 5, 3) := by decide +kernel
theorem dX8_wordOfColumn_66 : decode cX8_wordOfColumn 66 = .ok (.iload_n 2, 1) := by decide +kernel
theorem dX8_wordOfColumn_67 : decode cX8_wordOfColumn 67 = .ok (.ireturn, 1) := by decide +kernel
theorem dX8_wordOfColumn_68 : decode cX8_wordOfColumn 68 = .ok (.iinc 2 1, 3) := by decide +kernel
theorem dX8_wordOfColumn_71 : decode cX8_wordOfColumn 71 = .ok (.goto (-69), 3) := by decide +kernel
theorem dX8_wordOfColumn_74 : decode cX8_wordOfColumn 74 = .ok (.iconst (-1), 1) := by decide +kernel
theorem dX8_wordOfColumn_75 : decode cX8_wordOfColumn 75 = .ok (.ireturn, 1) := by decide +kernel
theorem dX8_isSquare_0 : decode cX8_isSquare 0 = .ok (.iconst 0, 1) := by decide +kernel
theorem dX8_isSquare_1 : decode cX8_isSquare 1 = .ok (.istore_n 1, 1) := by decide +kernel
theorem dX8_isSquare_2 : decode cX8_isSquare 2 = .ok (.iload_n 1, 1) := by decide +kernel
theorem dX8_isSquare_3 : decode cX8_isSquare 3 = .ok (.aload_n 0, 1) := by decide +kernel
theorem dX8_isSquare_4 : decode cX8_isSquare 4 = .ok (.getfield 100, 3) := by decide +kernel
theorem dX8_isSquare_7 : decode cX8_isSquare 7 = .ok (.if_icmp .ge 32, 3) := by decide +kernel
theorem dX8_isSquare_10 : decode cX8_isSquare 10 = .ok (.aload_n 0, 1) := by decide +kernel
theorem dX8_isSquare_11 : decode cX8_isSquare 11 = .ok (.getfield 28, 3) := by decide +kernel
theorem dX8_isSquare_14 : decode cX8_isSquare 14 = .ok (.iload_n 1, 1) := by decide +kernel
theorem dX8_isSquare_15 : decode cX8_isSquare 15 = .ok (.aload_n 0, 1) := by decide +kernel
theorem dX8_isSquare_16 : decode cX8_isSquare 16 = .ok (.iload_n 1, 1) := by decide +kernel
theorem dX8_isSquare_17 : decode cX8_isSquare 17 = .ok (.invokevirtual 159, 3) := by decide +kernel
theorem dX8_isSquare_20 : decode cX8_isSquare 20 = .ok (.iastore, 1) := by decide +kernel
theorem dX8_isSquare_21 : decode cX8_isSquare 21 = .ok (.aload_n 0, 1) := by decide +kernel
theorem dX8_isSquare_22 : decode cX8_isSquare 22 = .ok (.getfield 28, 3) := by decide +kernel
theorem dX8_isSquare_25 : decode cX8_isSquare 25 = .ok (.iload_n 1, 1) := by decide +kernel
theorem dX8_isSquare_26 : decode cX8_isSquare 26 = .ok (.iaload, 1) := by decide +kernel
theorem dX8_isSquare_27 : decode cX8_isSquare 27 = .ok (.iconst (-1), 1) := by decide +kernel
theorem dX8_isSquare_28 : decode cX8_isSquare 28 = .ok (.if_icmp .ne 5, 3) := by decide +kernel
theorem dX8_isSquare_31 : decode cX8_isSquare 31 = .ok (.iconst 0, 1) := by decide +kernel
theorem dX8_isSquare_32 : decode cX8_isSquare 32 = .ok (.ireturn, 1) := by decide +kernel
theorem dX8_isSquare_33 : decode cX8_isSquare 33 = .ok (.iinc 1 1, 3) := by decide +kernel
theorem dX8_isSquare_36 : decode cX8_isSquare 36 = .ok (.goto (-34), 3) := by decide +kernel
theorem dX8_isSquare_39 : decode cX8_isSquare 39 = .ok (.aload_n 0, 1) := by decide +kernel
theorem dX8_isSquare_40 : decode cX8_isSquare 40 = .ok (.getfield 97, 3) := by decide +kernel
theorem dX8_isSquare_43 : decode cX8_isSquare 43 = .ok (.ifCond .le 7, 3) := by decide +kernel
theorem dX8_isSquare_46 : decode cX8_isSquare 46 = .ok (.iconst 1, 1) := by decide +kernel
theorem dX8_isSquare_47 : decode cX8_isSquare 47 = .ok (.goto 4, 3) := by decide +kernel
theorem dX8_isSquare_50 : decode cX8_isSquare 50 = .ok (.iconst 0, 1) := by decide +kernel
theorem dX8_isSquare_51 : decode cX8_isSquare 51 = .ok (.ireturn, 1) := by decide +kernel
theorem dX8_isSame_0 : decode cX8_isSame 0 = .ok (.iconst 1, 1) := by decide +kernel
theorem dX8_isSame_1 : decode cX8_isSame 1 = .ok (.istore_n 1, 1) := by decide +kernel
theorem dX8_isSame_2 : decode cX8_isSame 2 = .ok (.iconst 0, 1) := by decide +kernel
theorem dX8_isSame_3 : decode cX8_isSame 3 = .ok (.istore_n 2, 1) := by decide +kernel
theorem dX8_isSame_4 : decode cX8_isSame 4 = .ok (.iload_n 2, 1) := by decide +kernel
theorem dX8_isSame_5 : decode cX8_isSame 5 = .ok (.aload_n 0, 1) := by decide +kernel
theorem dX8_isSame_6 : decode cX8_isSame 6 = .ok (.getfield 100, 3) := by decide +kernel
theorem dX8_isSame_9 : decode cX8_isSame 9 = .ok (.if_icmp .ge 34, 3) := by decide +kernel
theorem dX8_isSame_12 : decode cX8_isSame 12 = .ok (.iload_n 1, 1) := by decide +kernel
theorem dX8_isSame_13 : decode cX8_isSame 13 = .ok (.ifCond .eq 22, 3) := by decide +kernel
theorem dX8_isSame_16 : decode cX8_isSame 16 = .ok (.aload_n 0, 1) := by decide +kernel
theorem dX8_isSame_17 : decode cX8_isSame 17 = .ok (.getfield 25, 3) := by decide +kernel
theorem dX8_isSame_20 : decode cX8_isSame 20 = .ok (.iload_n 2, 1) := by decide +kernel
theorem dX8_isSame_21 : decode cX8_isSame 21 = .ok (.iaload, 1) := by decide +kernel
theorem dX8_isSame_22 : decode cX8_isSame 22 = .ok (.aload_n 0, 1) := by decide +kernel
theorem dX8_isSame_23 : decode cX8_isSame 23 = .ok (.getfield 28, 3) := by decide +kernel
theorem dX8_isSame_26 : decode cX8_isSame 26 = .ok (.iload_n 2, 1) := by decide +kernel
theorem dX8_isSame_27 : decode cX8_isSame 27 = .ok (.iaload, 1) := by decide +kernel
theorem dX8_isSame_28 : decode cX8_isSame 28 = .ok (.if_icmp .ne 7, 3) := by decide +kernel
theorem dX8_isSame_31 : decode cX8_isSame 31 = .ok (.iconst 1, 1) := by decide +kernel
theorem dX8_isSame_32 : decode cX8_isSame 32 = .ok (.goto 4, 3) := by decide +kernel
theorem dX8_isSame_35 : decode cX8_isSame 35 = .ok (.iconst 0, 1) := by decide +kernel
theorem dX8_isSame_36 : decode cX8_isSame 36 = .ok (.istore_n 1, 1) := by decide +kernel
theorem dX8_isSame_37 : decode cX8_isSame 37 = .ok (.iinc 2 1, 3) := by decide +kernel
theorem dX8_isSame_40 : decode cX8_isSame 40 = .ok (.goto (-36), 3) := by decide +kernel
theorem dX8_isSame_43 : decode cX8_isSame 43 = .ok (.iload_n 1, 1) := by decide +kernel
theorem dX8_isSame_44 : decode cX8_isSame 44 = .ok (.ireturn, 1) := by decide +kernel
theorem dX8_isUnlike_0 : decode cX8_isUnlike 0 = .ok (.iconst 0, 1) := by decide +kernel
theorem dX8_isUnlike_1 : decode cX8_isUnlike 1 = .ok (.istore_n 1, 1) := by decide +kernel
theorem dX8_isUnlike_2 : decode cX8_isUnlike 2 = .ok (.iconst 0, 1) := by decide +kernel
theorem dX8_isUnlike_3 : decode cX8_isUnlike 3 = .ok (.istore_n 2, 1) := by decide +kernel
theorem dX8_isUnlike_4 : decode cX8_isUnlike 4 = .ok (.iload_n 2, 1) := by decide +kernel
theorem dX8_isUnlike_5 : decode cX8_isUnlike 5 = .ok (.aload_n 0, 1) := by decide +kernel
theorem dX8_isUnlike_6 : decode cX8_isUnlike 6 = .ok (.getfield 100, 3) := by decide +kernel
theorem dX8_isUnlike_9 : decode cX8_isUnlike 9 = .ok (.if_icmp .ge 94, 3) := by decide +kernel
theorem dX8_isUnlike_12 : decode cX8_isUnlike 12 = .ok (.iload_n 1, 1) := by decide +kernel
theorem dX8_isUnlike_13 : decode cX8_isUnlike 13 = .ok (.aload_n 0, 1) := by decide +kernel
theorem dX8_isUnlike_14 : decode cX8_isUnlike 14 = .ok (.getfield 25, 3) := by decide +kernel
theorem dX8_isUnlike_17 : decode cX8_isUnlike 17 = .ok (.iload_n 2, 1) := by decide +kernel
theorem dX8_isUnlike_18 : decode cX8_isUnlike 18 = .ok (.iaload, 1) := by decide +kernel
theorem dX8_isUnlike_19 : decode cX8_isUnlike 19 = .ok (.ishr, 1) := by decide +kernel
theorem dX8_isUnlike_20 : decode cX8_isUnlike 20 = .ok (.iconst 1, 1) := by decide +kernel
theorem dX8_isUnlike_21 : decode cX8_isUnlike 21 = .ok (.iand, 1) := by decide +kernel
theorem dX8_isUnlike_22 : decode cX8_isUnlike 22 = .ok (.ifCond .ne 22, 3) := by decide +kernel
theorem dX8_isUnlike_25 : decode cX8_isUnlike 25 = .ok (.aload_n 0, 1) := by decide +kernel
theorem dX8_isUnlike_26 : decode cX8_isUnlike 26 = .ok (.getfield 25, 3) := by decide +kernel
theorem dX8_isUnlike_29 : decode cX8_isUnlike 29 = .ok (.iload_n 2, 1) := by decide +kernel
theorem dX8_isUnlike_30 : decode cX8_isUnlike 30 = .ok (.iaload, 1) := by decide +kernel
theorem dX8_isUnlike_31 : decode cX8_isUnlike 31 = .ok (.aload_n 0, 1) := by decide +kernel
theorem dX8_isUnlike_32 : decode cX8_isUnlike 32 = .ok (.getfield 28, 3) := by decide +kernel
theorem dX8_isUnlike_35 : decode cX8_isUnlike 35 = .ok (.iload_n 2, 1) := by decide +kernel
theorem dX8_isUnlike_36 : decode cX8_isUnlike 36 = .ok (.iaload, 1) := by decide +kernel
theorem dX8_isUnlike_37 : decode cX8_isUnlike 37 = .ok (.if_icmp .eq 7, 3) := by decide +kernel
theorem dX8_isUnlike_40 : decode cX8_isUnlike 40 = .ok (.iconst 1, 1) := by decide +kernel
theorem dX8_isUnlike_41 : decode cX8_isUnlike 41 = .ok (.goto 4, 3) := by decide +kernel
theorem dX8_isUnlike_44 : decode cX8_isUnlike 44 = .ok (.iconst 0, 1) := by decide +kernel
theorem dX8_isUnlike_45 : decode cX8_isUnlike 45 = .ok (.istore_n 3, 1) := by decide +kernel
theorem dX8_isUnlike_46 : decode cX8_isUnlike 46 = .ok (.iload_n 1, 1) := by decide +kernel
theorem dX8_isUnlike_47 : decode cX8_isUnlike 47 = .ok (.iconst 1, 1) := by decide +kernel
theorem dX8_isUnlike_48 : decode cX8_isUnlike 48 = .ok (.aload_n 0, 1) := by decide +kernel
theorem dX8_isUnlike_49 : decode cX8_isUnlike 49 = .ok (.getfield 25, 3) := by decide +kernel
theorem dX8_isUnlike_52 : decode cX8_isUnlike 52 = .ok (.iload_n 2, 1) := by decide +kernel
theorem dX8_isUnlike_53 : decode cX8_isUnlike 53 = .ok (.iaload, 1) := by decide +kernel
theorem dX8_isUnlike_54 : decode cX8_isUnlike 54 = .ok (.ishl, 1) := by decide +kernel
theorem dX8_isUnlike_55 : decode cX8_isUnlike 55 = .ok (.ior, 1) := by decide +kernel
theorem dX8_isUnlike_56 : decode cX8_isUnlike 56 = .ok (.istore_n 1, 1) := by decide +kernel
theorem dX8_isUnlike_57 : decode cX8_isUnlike 57 = .ok (.iload_n 3, 1) := by decide +kernel
theorem dX8_isUnlike_58 : decode cX8_isUnlike 58 = .ok (.ifCond .eq 20, 3) := by decide +kernel
theorem dX8_isUnlike_61 : decode cX8_isUnlike 61 = .ok (.iload_n 1, 1) := by decide +kernel
theorem dX8_isUnlike_62 : decode cX8_isUnlike 62 = .ok (.aload_n 0, 1) := by decide +kernel
theorem dX8_isUnlike_63 : decode cX8_isUnlike 63 = .ok (.getfield 28, 3) := by decide +kernel
theorem dX8_isUnlike_66 : decode cX8_isUnlike 66 = .ok (.iload_n 2, 1) := by decide +kernel
theorem dX8_isUnlike_67 : decode cX8_isUnlike 67 = .ok (.iaload, 1) := by decide +kernel
theorem dX8_isUnlike_68 : decode cX8_isUnlike 68 = .ok (.ishr, 1) := by decide +kernel
theorem dX8_isUnlike_69 : decode cX8_isUnlike 69 = .ok (.iconst 1, 1) := by decide +kernel
theorem dX8_isUnlike_70 : decode cX8_isUnlike 70 = .ok (.iand, 1) := by decide +kernel
theorem dX8_isUnlike_71 : decode cX8_isUnlike 71 = .ok (.ifCond .ne 7, 3) := by decide +kernel
theorem dX8_isUnlike_74 : decode cX8_isUnlike 74 = .ok (.iconst 1, 1) := by decide +kernel
theorem dX8_isUnlike_75 : decode cX8_isUnlike 75 = .ok (.goto 4, 3) := by decide +kernel
theorem dX8_isUnlike_78 : decode cX8_isUnlike 78 = .ok (.iconst 0, 1) := by decide +kernel
theorem dX8_isUnlike_79 : decode cX8_isUnlike 79 = .ok (.istore_n 3, 1) := by decide +kernel
theorem dX8_isUnlike_80 : decode cX8_isUnlike 80 = .ok (.iload_n 1, 1) := by decide +kernel
theorem dX8_isUnlike_81 : decode cX8_isUnlike 81 = .ok (.iconst 1, 1) := by decide +kernel
theorem dX8_isUnlike_82 : decode cX8_isUnlike 82 = .ok (.aload_n 0, 1) := by decide +kernel
theorem dX8_isUnlike_83 : decode cX8_isUnlike 83 = .ok (.getfield 28, 3) := by decide +kernel
theorem dX8_isUnlike_86 : decode cX8_isUnlike 86 = .ok (.iload_n 2, 1) := by decide +kernel
theorem dX8_isUnlike_87 : decode cX8_isUnlike 87 = .ok (.iaload, 1) := by decide +kernel
theorem dX8_isUnlike_88 : decode cX8_isUnlike 88 = .ok (.ishl, 1) := by decide +kernel
theorem dX8_isUnlike_89 : decode cX8_isUnlike 89 = .ok (.ior, 1) := by decide +kernel
theorem dX8_isUnlike_90 : decode cX8_isUnlike 90 = .ok (.istore_n 1, 1) := by decide +kernel
theorem dX8_isUnlike_91 : decode cX8_isUnlike 91 = .ok (.iload_n 3, 1) := by decide +kernel
theorem dX8_isUnlike_92 : decode cX8_isUnlike 92 = .ok (.ifCond .ne 5, 3) := by decide +kernel
theorem dX8_isUnlike_95 : decode cX8_isUnlike 95 = .ok (.iconst 0, 1) := by decide +kernel
theorem dX8_isUnlike_96 : decode cX8_isUnlike 96 = .ok (.ireturn, 1) := by decide +kernel
theorem dX8_isUnlike_97 : decode cX8_isUnlike 97 = .ok (.iinc 2 1, 3) := by decide +kernel
theorem dX8_isUnlike_100 : decode cX8_isUnlike 100 = .ok (.goto (-96), 3) := by decide +kernel
theorem dX8_isUnlike_103 : decode cX8_isUnlike 103 = .ok (.iconst 1, 1) := by decide +kernel
theorem dX8_isUnlike_104 : decode cX8_isUnlike 104 = .ok (.ireturn, 1) := by decide +kernel
theorem dX8_isOf_0 : decode cX8_isOf 0 = .ok (.aload_n 0, 1) := by decide +kernel
theorem dX8_isOf_1 : decode cX8_isOf 1 = .ok (.invokevirtual 162, 3) := by decide +kernel
theorem dX8_isOf_4 : decode cX8_isOf 4 = .ok (.ifCond .eq 33, 3) := by decide +kernel
theorem dX8_isOf_7 : decode cX8_isOf 7 = .ok (.iload_n 1, 1) := by decide +kernel
theorem dX8_isOf_8 : decode cX8_isOf 8 = .ok (.ifCond .eq 25, 3) := by decide +kernel
theorem dX8_isOf_11 : decode cX8_isOf 11 = .ok (.iload_n 1, 1) := by decide +kernel
theorem dX8_isOf_12 : decode cX8_isOf 12 = .ok (.iconst 1, 1) := by decide +kernel
theorem dX8_isOf_13 : decode cX8_isOf 13 = .ok (.if_icmp .ne 13, 3) := by decide +kernel
theorem dX8_isOf_16 : decode cX8_isOf 16 = .ok (.aload_n 0, 1) := by decide +kernel
theorem dX8_isOf_17 : decode cX8_isOf 17 = .ok (.invokevirtual 165, 3) := by decide +kernel
theorem dX8_isOf_20 : decode cX8_isOf 20 = .ok (.ifCond .eq 17, 3) := by decide +kernel
theorem dX8_isOf_23 : decode cX8_isOf 23 = .ok (.goto 10, 3) := by decide +kernel
theorem dX8_isOf_26 : decode cX8_isOf 26 = .ok (.aload_n 0, 1) := by decide +kernel
theorem dX8_isOf_27 : decode cX8_isOf 27 = .ok (.invokevirtual 168, 3) := by decide +kernel
theorem dX8_isOf_30 : decode cX8_isOf 30 = .ok (.ifCond .eq 7, 3) := by decide +kernel
theorem dX8_isOf_33 : decode cX8_isOf 33 = .ok (.iconst 1, 1) := by decide +kernel
theorem dX8_isOf_34 : decode cX8_isOf 34 = .ok (.goto 4, 3) := by decide +kernel
theorem dX8_isOf_37 : decode cX8_isOf 37 = .ok (.iconst 0, 1) := by decide +kernel
theorem dX8_isOf_38 : decode cX8_isOf 38 = .ok (.ireturn, 1) := by decide +kernel
theorem dX8_squaresNow_0 : decode cX8_squaresNow 0 = .ok (.iconst 0, 1) := by decide +kernel
theorem dX8_squaresNow_1 : decode cX8_squaresNow 1 = .ok (.istore_n 2, 1) := by decide +kernel
theorem dX8_squaresNow_2 : decode cX8_squaresNow 2 = .ok (.aload_n 0, 1) := by decide +kernel
theorem dX8_squaresNow_3 : decode cX8_squaresNow 3 = .ok (.invokevirtual 171, 3) := by decide +kernel
theorem dX8_squaresNow_6 : decode cX8_squaresNow 6 = .ok (.aload_n 0, 1) := by decide +kernel
theorem dX8_squaresNow_7 : decode cX8_squaresNow 7 = .ok (.getfield 97, 3) := by decide +kernel
theorem dX8_squaresNow_10 : decode cX8_squaresNow 10 = .ok (.ifCond .le 7, 3) := by decide +kernel
theorem dX8_squaresNow_13 : decode cX8_squaresNow 13 = .ok (.iconst 1, 1) := by decide +kernel
theorem dX8_squaresNow_14 : decode cX8_squaresNow 14 = .ok (.goto 4, 3) := by decide +kernel
theorem dX8_squaresNow_17 : decode cX8_squaresNow 17 = .ok (.iconst 0, 1) := by decide +kernel
theorem dX8_squaresNow_18 : decode cX8_squaresNow 18 = .ok (.istore_n 3, 1) := by decide +kernel
theorem dX8_squaresNow_19 : decode cX8_squaresNow 19 = .ok (.iload_n 3, 1) := by decide +kernel
theorem dX8_squaresNow_20 : decode cX8_squaresNow 20 = .ok (.ifCond .eq 27, 3) := by decide +kernel
theorem dX8_squaresNow_23 : decode cX8_squaresNow 23 = .ok (.iload_n 2, 1) := by decide +kernel
theorem dX8_squaresNow_24 : decode cX8_squaresNow 24 = .ok (.aload_n 0, 1) := by decide +kernel
theorem dX8_squaresNow_25 : decode cX8_squaresNow 25 = .ok (.iload_n 1, 1) := by decide +kernel
theorem dX8_squaresNow_26 : decode cX8_squaresNow 26 = .ok (.invokevirtual 174, 3) := by decide +kernel
theorem dX8_squaresNow_29 : decode cX8_squaresNow 29 = .ok (.ifCond .eq 7, 3) := by decide +kernel
theorem dX8_squaresNow_32 : decode cX8_squaresNow 32 = .ok (.iconst 1, 1) := by decide +kernel
theorem dX8_squaresNow_33 : decode cX8_squaresNow 33 = .ok (.goto 4, 3) := by decide +kernel
theorem dX8_squaresNow_36 : decode cX8_squaresNow 36 = .ok (.iconst 0, 1) := by decide +kernel
theorem dX8_squaresNow_37 : decode cX8_squaresNow 37 = .ok (.iadd, 1) := by decide +kernel
theorem dX8_squaresNow_38 : decode cX8_squaresNow 38 = .ok (.istore_n 2, 1) := by decide +kernel
theorem dX8_squaresNow_39 : decode cX8_squaresNow 39 = .ok (.aload_n 0, 1) := by decide +kernel
theorem dX8_squaresNow_40 : decode cX8_squaresNow 40 = .ok (.invokevirtual 177, 3) := by decide +kernel
theorem dX8_squaresNow_43 : decode cX8_squaresNow 43 = .ok (.istore_n 3, 1) := by decide +kernel
theorem dX8_squaresNow_44 : decode cX8_squaresNow 44 = .ok (.goto (-25), 3) := by decide +kernel
theorem dX8_squaresNow_47 : decode cX8_squaresNow 47 = .ok (.iload_n 2, 1) := by decide +kernel
theorem dX8_squaresNow_48 : decode cX8_squaresNow 48 = .ok (.ireturn, 1) := by decide +kernel
theorem dX8_squares_0 : decode cX8_squares 0 = .ok (.iload_n 1, 1) := by decide +kernel
theorem dX8_squares_1 : decode cX8_squares 1 = .ok (.iconst 0, 1) := by decide +kernel
theorem dX8_squares_2 : decode cX8_squares 2 = .ok (.iconst 2, 1) := by decide +kernel
theorem dX8_squares_3 : decode cX8_squares 3 = .ok (.invokestatic 65, 3) := by decide +kernel
theorem dX8_squares_6 : decode cX8_squares 6 = .ok (.ifCond .eq 11, 3) := by decide +kernel
theorem dX8_squares_9 : decode cX8_squares 9 = .ok (.aload_n 0, 1) := by decide +kernel
theorem dX8_squares_10 : decode cX8_squares 10 = .ok (.iload_n 1, 1) := by decide +kernel
theorem dX8_squares_11 : decode cX8_squares 11 = .ok (.invokevirtual 180, 3) := by decide +kernel
theorem dX8_squares_14 : decode cX8_squares 14 = .ok (.goto 5, 3) := by decide +kernel
theorem dX8_squares_17 : decode cX8_squares 17 = .ok (.bipush (-102), 2) := by decide +kernel
theorem dX8_squares_19 : decode cX8_squares 19 = .ok (.ireturn, 1) := by decide +kernel
theorem dX8_lay_0 : decode cX8_lay 0 = .ok (.iload_n 2, 1) := by decide +kernel
theorem dX8_lay_1 : decode cX8_lay 1 = .ok (.istore_n 3, 1) := by decide +kernel
theorem dX8_lay_2 : decode cX8_lay 2 = .ok (.aload_n 0, 1) := by decide +kernel
theorem dX8_lay_3 : decode cX8_lay 3 = .ok (.invokevirtual 171, 3) := by decide +kernel
theorem dX8_lay_6 : decode cX8_lay 6 = .ok (.aload_n 0, 1) := by decide +kernel
theorem dX8_lay_7 : decode cX8_lay 7 = .ok (.getfield 97, 3) := by decide +kernel
theorem dX8_lay_10 : decode cX8_lay 10 = .ok (.ifCond .le 11, 3) := by decide +kernel
theorem dX8_lay_13 : decode cX8_lay 13 = .ok (.iload_n 2, 1) := by decide +kernel
theorem dX8_lay_14 : decode cX8_lay 14 = .ok (.ifCond .lt 7, 3) := by decide +kernel
theorem dX8_lay_17 : decode cX8_lay 17 = .ok (.iconst 1, 1) := by decide +kernel
theorem dX8_lay_18 : decode cX8_lay 18 = .ok (.goto 4, 3) := by decide +kernel
theorem dX8_lay_21 : decode cX8_lay 21 = .ok (.iconst 0, 1) := by decide +kernel
theorem dX8_lay_22 : decode cX8_lay 22 = .ok (.istore 4, 2) := by decide +kernel
theorem dX8_lay_24 : decode cX8_lay 24 = .ok (.iload 4, 2) := by decide +kernel
theorem dX8_lay_26 : decode cX8_lay 26 = .ok (.ifCond .eq 29, 3) := by decide +kernel
theorem dX8_lay_29 : decode cX8_lay 29 = .ok (.aload_n 0, 1) := by decide +kernel
theorem dX8_lay_30 : decode cX8_lay 30 = .ok (.iload_n 1, 1) := by decide +kernel
theorem dX8_lay_31 : decode cX8_lay 31 = .ok (.invokevirtual 174, 3) := by decide +kernel
theorem dX8_lay_34 : decode cX8_lay 34 = .ok (.ifCond .eq 12, 3) := by decide +kernel
theorem dX8_lay_37 : decode cX8_lay 37 = .ok (.iload_n 3, 1) := by decide +kernel
theorem dX8_lay_38 : decode cX8_lay 38 = .ok (.ifCond .ne 5, 3) := by decide +kernel
theorem dX8_lay_41 : decode cX8_lay 41 = .ok (.iconst 1, 1) := by decide +kernel
theorem dX8_lay_42 : decode cX8_lay 42 = .ok (.ireturn, 1) := by decide +kernel
theorem dX8_lay_43 : decode cX8_lay 43 = .ok (.iinc 3 (-1), 3) := by decide +kernel
theorem dX8_lay_46 : decode cX8_lay 46 = .ok (.aload_n 0, 1) := by decide +kernel
theorem dX8_lay_47 : decode cX8_lay 47 = .ok (.invokevirtual 177, 3) := by decide +kernel
theorem dX8_lay_50 : decode cX8_lay 50 = .ok (.istore 4, 2) := by decide +kernel
theorem dX8_lay_52 : decode cX8_lay 52 = .ok (.goto (-28), 3) := by decide +kernel
theorem dX8_lay_55 : decode cX8_lay 55 = .ok (.iconst 0, 1) := by decide +kernel
theorem dX8_lay_56 : decode cX8_lay 56 = .ok (.ireturn, 1) := by decide +kernel
theorem dX8_row_0 : decode cX8_row 0 = .ok (.iload_n 1, 1) := by decide +kernel
theorem dX8_row_1 : decode cX8_row 1 = .ok (.iconst 0, 1) := by decide +kernel
theorem dX8_row_2 : decode cX8_row 2 = .ok (.iconst 2, 1) := by decide +kernel
theorem dX8_row_3 : decode cX8_row 3 = .ok (.invokestatic 65, 3) := by decide +kernel
theorem dX8_row_6 : decode cX8_row 6 = .ok (.ifCond .ne 6, 3) := by decide +kernel
theorem dX8_row_9 : decode cX8_row 9 = .ok (.bipush (-102), 2) := by decide +kernel
theorem dX8_row_11 : decode cX8_row 11 = .ok (.ireturn, 1) := by decide +kernel
theorem dX8_row_12 : decode cX8_row 12 = .ok (.iload_n 3, 1) := by decide +kernel
theorem dX8_row_13 : decode cX8_row 13 = .ok (.iconst 0, 1) := by decide +kernel
theorem dX8_row_14 : decode cX8_row 14 = .ok (.aload_n 0, 1) := by decide +kernel
theorem dX8_row_15 : decode cX8_row 15 = .ok (.getfield 100, 3) := by decide +kernel
theorem dX8_row_18 : decode cX8_row 18 = .ok (.iconst 1, 1) := by decide +kernel
theorem dX8_row_19 : decode cX8_row 19 = .ok (.isub, 1) := by decide +kernel
theorem dX8_row_20 : decode cX8_row 20 = .ok (.invokestatic 65, 3) := by decide +kernel
theorem dX8_row_23 : decode cX8_row 23 = .ok (.ifCond .eq 21, 3) := by decide +kernel
theorem dX8_row_26 : decode cX8_row 26 = .ok (.aload_n 0, 1) := by decide +kernel
theorem dX8_row_27 : decode cX8_row 27 = .ok (.iload_n 1, 1) := by decide +kernel
theorem dX8_row_28 : decode cX8_row 28 = .ok (.iload_n 2, 1) := by decide +kernel
theorem dX8_row_29 : decode cX8_row 29 = .ok (.invokevirtual 183, 3) := by decide +kernel
theorem dX8_row_32 : decode cX8_row 32 = .ok (.ifCond .eq 12, 3) := by decide +kernel
theorem dX8_row_35 : decode cX8_row 35 = .ok (.aload_n 0, 1) := by decide +kernel
theorem dX8_row_36 : decode cX8_row 36 = .ok (.getfield 25, 3) := by decide +kernel
theorem dX8_row_39 : decode cX8_row 39 = .ok (.iload_n 3, 1) := by decide +kernel
theorem dX8_row_40 : decode cX8_row 40 = .ok (.iaload, 1) := by decide +kernel
theorem dX8_row_41 : decode cX8_row 41 = .ok (.goto 5, 3) := by decide +kernel
theorem dX8_row_44 : decode cX8_row 44 = .ok (.bipush (-101), 2) := by decide +kernel
theorem dX8_row_46 : decode cX8_row 46 = .ok (.ireturn, 1) := by decide +kernel
theorem dX8_turnedNow_0 : decode cX8_turnedNow 0 = .ok (.iconst 0, 1) := by decide +kernel
theorem dX8_turnedNow_1 : decode cX8_turnedNow 1 = .ok (.istore_n 1, 1) := by decide +kernel
theorem dX8_turnedNow_2 : decode cX8_turnedNow 2 = .ok (.iload_n 1, 1) := by decide +kernel
theorem dX8_turnedNow_3 : decode cX8_turnedNow 3 = .ok (.iconst 4, 1) := by decide +kernel
theorem dX8_turnedNow_4 : decode cX8_turnedNow 4 = .ok (.if_icmp .ge 21, 3) := by decide +kernel
theorem dX8_turnedNow_7 : decode cX8_turnedNow 7 = .ok (.aload_n 0, 1) := by decide +kernel
theorem dX8_turnedNow_8 : decode cX8_turnedNow 8 = .ok (.getfield 31, 3) := by decide +kernel
theorem dX8_turnedNow_11 : decode cX8_turnedNow 11 = .ok (.iload_n 1, 1) := by decide +kernel
theorem dX8_turnedNow_12 : decode cX8_turnedNow 12 = .ok (.aload_n 0, 1) := by decide +kernel
theorem dX8_turnedNow_13 : decode cX8_turnedNow 13 = .ok (.getfield 28, 3) := by decide +kernel
theorem dX8_turnedNow_16 : decode cX8_turnedNow 16 = .ok (.iload_n 1, 1) := by decide +kernel
theorem dX8_turnedNow_17 : decode cX8_turnedNow 17 = .ok (.iaload, 1) := by decide +kernel
theorem dX8_turnedNow_18 : decode cX8_turnedNow 18 = .ok (.iastore, 1) := by decide +kernel
theorem dX8_turnedNow_19 : decode cX8_turnedNow 19 = .ok (.iinc 1 1, 3) := by decide +kernel
theorem dX8_turnedNow_22 : decode cX8_turnedNow 22 = .ok (.goto (-20), 3) := by decide +kernel
theorem dX8_turnedNow_25 : decode cX8_turnedNow 25 = .ok (.iconst 0, 1) := by decide +kernel
theorem dX8_turnedNow_26 : decode cX8_turnedNow 26 = .ok (.istore_n 1, 1) := by decide +kernel
theorem dX8_turnedNow_27 : decode cX8_turnedNow 27 = .ok (.aload_n 0, 1) := by decide +kernel
theorem dX8_turnedNow_28 : decode cX8_turnedNow 28 = .ok (.invokevirtual 171, 3) := by decide +kernel
theorem dX8_turnedNow_31 : decode cX8_turnedNow 31 = .ok (.iconst 0, 1) := by decide +kernel
theorem dX8_turnedNow_32 : decode cX8_turnedNow 32 = .ok (.istore_n 2, 1) := by decide +kernel
theorem dX8_turnedNow_33 : decode cX8_turnedNow 33 = .ok (.iload_n 2, 1) := by decide +kernel
theorem dX8_turnedNow_34 : decode cX8_turnedNow 34 = .ok (.ifCond .ne 73, 3) := by decide +kernel
theorem dX8_turnedNow_37 : decode cX8_turnedNow 37 = .ok (.iconst 1, 1) := by decide +kernel
theorem dX8_turnedNow_38 : decode cX8_turnedNow 38 = .ok (.istore_n 2, 1) := by decide +kernel
theorem dX8_turnedNow_39 : decode cX8_turnedNow 39 = .ok (.iconst 0, 1) := by decide +kernel
theorem dX8_turnedNow_40 : decode cX8_turnedNow 40 = .ok (.istore_n 3, 1) := by decide +kernel
theorem dX8_turnedNow_41 : decode cX8_turnedNow 41 = .ok (.iload_n 3, 1) := by decide +kernel
theorem dX8_turnedNow_42 : decode cX8_turnedNow 42 = .ok (.aload_n 0, 1) := by decide +kernel
theorem dX8_turnedNow_43 : decode cX8_turnedNow 43 = .ok (.getfield 100, 3) := by decide +kernel
theorem dX8_turnedNow_46 : decode cX8_turnedNow 46 = .ok (.if_icmp .ge 34, 3) := by decide +kernel
theorem dX8_turnedNow_49 : decode cX8_turnedNow 49 = .ok (.iload_n 2, 1) := by decide +kernel
theorem dX8_turnedNow_50 : decode cX8_turnedNow 50 = .ok (.ifCond .eq 22, 3) := by decide +kernel
theorem dX8_turnedNow_53 : decode cX8_turnedNow 53 = .ok (.aload_n 0, 1) := by decide +kernel
theorem dX8_turnedNow_54 : decode cX8_turnedNow 54 = .ok (.getfield 25, 3) := by decide +kernel
theorem dX8_turnedNow_57 : decode cX8_turnedNow 57 = .ok (.iload_n 3, 1) := by decide +kernel
theorem dX8_turnedNow_58 : decode cX8_turnedNow 58 = .ok (.iaload, 1) := by decide +kernel
theorem dX8_turnedNow_59 : decode cX8_turnedNow 59 = .ok (.aload_n 0, 1) := by decide +kernel
theorem dX8_turnedNow_60 : decode cX8_turnedNow 60 = .ok (.getfield 31, 3) := by decide +kernel
theorem dX8_turnedNow_63 : decode cX8_turnedNow 63 = .ok (.iload_n 3, 1) := by decide +kernel
theorem dX8_turnedNow_64 : decode cX8_turnedNow 64 = .ok (.iaload, 1) := by decide +kernel
theorem dX8_turnedNow_65 : decode cX8_turnedNow 65 = .ok (.if_icmp .ne 7, 3) := by decide +kernel
theorem dX8_turnedNow_68 : decode cX8_turnedNow 68 = .ok (.iconst 1, 1) := by decide +kernel
theorem dX8_turnedNow_69 : decode cX8_turnedNow 69 = .ok (.goto 4, 3) := by decide +kernel
theorem dX8_turnedNow_72 : decode cX8_turnedNow 72 = .ok (.iconst 0, 1) := by decide +kernel
theorem dX8_turnedNow_73 : decode cX8_turnedNow 73 = .ok (.istore_n 2, 1) := by decide +kernel
theorem dX8_turnedNow_74 : decode cX8_turnedNow 74 = .ok (.iinc 3 1, 3) := by decide +kernel
theorem dX8_turnedNow_77 : decode cX8_turnedNow 77 = .ok (.goto (-36), 3) := by decide +kernel
theorem dX8_turnedNow_80 : decode cX8_turnedNow 80 = .ok (.iload_n 2, 1) := by decide +kernel
theorem dX8_turnedNow_81 : decode cX8_turnedNow 81 = .ok (.ifCond .ne (-48), 3) := by decide +kernel
theorem dX8_turnedNow_84 : decode cX8_turnedNow 84 = .ok (.iload_n 1, 1) := by decide +kernel
theorem dX8_turnedNow_85 : decode cX8_turnedNow 85 = .ok (.aload_n 0, 1) := by decide +kernel
theorem dX8_turnedNow_86 : decode cX8_turnedNow 86 = .ok (.invokevirtual 162, 3) := by decide +kernel
theorem dX8_turnedNow_89 : decode cX8_turnedNow 89 = .ok (.ifCond .eq 7, 3) := by decide +kernel
theorem dX8_turnedNow_92 : decode cX8_turnedNow 92 = .ok (.iconst 1, 1) := by decide +kernel
theorem dX8_turnedNow_93 : decode cX8_turnedNow 93 = .ok (.goto 4, 3) := by decide +kernel
theorem dX8_turnedNow_96 : decode cX8_turnedNow 96 = .ok (.iconst 0, 1) := by decide +kernel
theorem dX8_turnedNow_97 : decode cX8_turnedNow 97 = .ok (.iadd, 1) := by decide +kernel
theorem dX8_turnedNow_98 : decode cX8_turnedNow 98 = .ok (.istore_n 1, 1) := by decide +kernel
theorem dX8_turnedNow_99 : decode cX8_turnedNow 99 = .ok (.aload_n 0, 1) := by decide +kernel
theorem dX8_turnedNow_100 : decode cX8_turnedNow 100 = .ok (.invokevirtual 177, 3) := by decide +kernel
theorem dX8_turnedNow_103 : decode cX8_turnedNow 103 = .ok (.pop, 1) := by decide +kernel
theorem dX8_turnedNow_104 : decode cX8_turnedNow 104 = .ok (.goto (-71), 3) := by decide +kernel
theorem dX8_turnedNow_107 : decode cX8_turnedNow 107 = .ok (.iload_n 1, 1) := by decide +kernel
theorem dX8_turnedNow_108 : decode cX8_turnedNow 108 = .ok (.ireturn, 1) := by decide +kernel
theorem dX8_turned_0 : decode cX8_turned 0 = .ok (.aload_n 0, 1) := by decide +kernel
theorem dX8_turned_1 : decode cX8_turned 1 = .ok (.iconst 0, 1) := by decide +kernel
theorem dX8_turned_2 : decode cX8_turned 2 = .ok (.iload_n 1, 1) := by decide +kernel
theorem dX8_turned_3 : decode cX8_turned 3 = .ok (.invokevirtual 183, 3) := by decide +kernel
theorem dX8_turned_6 : decode cX8_turned 6 = .ok (.ifCond .eq 10, 3) := by decide +kernel
theorem dX8_turned_9 : decode cX8_turned 9 = .ok (.aload_n 0, 1) := by decide +kernel
theorem dX8_turned_10 : decode cX8_turned 10 = .ok (.invokevirtual 186, 3) := by decide +kernel
theorem dX8_turned_13 : decode cX8_turned 13 = .ok (.goto 5, 3) := by decide +kernel
theorem dX8_turned_16 : decode cX8_turned 16 = .ok (.bipush (-101), 2) := by decide +kernel
theorem dX8_turned_18 : decode cX8_turned 18 = .ok (.ireturn, 1) := by decide +kernel
theorem dX8_heavyNow_0 : decode cX8_heavyNow 0 = .ok (.iconst 0, 1) := by decide +kernel
theorem dX8_heavyNow_1 : decode cX8_heavyNow 1 = .ok (.istore_n 1, 1) := by decide +kernel
theorem dX8_heavyNow_2 : decode cX8_heavyNow 2 = .ok (.iconst 0, 1) := by decide +kernel
theorem dX8_heavyNow_3 : decode cX8_heavyNow 3 = .ok (.istore_n 2, 1) := by decide +kernel
theorem dX8_heavyNow_4 : decode cX8_heavyNow 4 = .ok (.iload_n 2, 1) := by decide +kernel
theorem dX8_heavyNow_5 : decode cX8_heavyNow 5 = .ok (.aload_n 0, 1) := by decide +kernel
theorem dX8_heavyNow_6 : decode cX8_heavyNow 6 = .ok (.getfield 100, 3) := by decide +kernel
theorem dX8_heavyNow_9 : decode cX8_heavyNow 9 = .ok (.if_icmp .ge 35, 3) := by decide +kernel
theorem dX8_heavyNow_12 : decode cX8_heavyNow 12 = .ok (.iload_n 1, 1) := by decide +kernel
theorem dX8_heavyNow_13 : decode cX8_heavyNow 13 = .ok (.aload_n 0, 1) := by decide +kernel
theorem dX8_heavyNow_14 : decode cX8_heavyNow 14 = .ok (.getfield 13, 3) := by decide +kernel
theorem dX8_heavyNow_17 : decode cX8_heavyNow 17 = .ok (.aload_n 0, 1) := by decide +kernel
theorem dX8_heavyNow_18 : decode cX8_heavyNow 18 = .ok (.getfield 25, 3) := by decide +kernel
theorem dX8_heavyNow_21 : decode cX8_heavyNow 21 = .ok (.iload_n 2, 1) := by decide +kernel
theorem dX8_heavyNow_22 : decode cX8_heavyNow 22 = .ok (.iaload, 1) := by decide +kernel
theorem dX8_heavyNow_23 : decode cX8_heavyNow 23 = .ok (.iaload, 1) := by decide +kernel
theorem dX8_heavyNow_24 : decode cX8_heavyNow 24 = .ok (.aload_n 0, 1) := by decide +kernel
theorem dX8_heavyNow_25 : decode cX8_heavyNow 25 = .ok (.getfield 13, 3) := by decide +kernel
theorem dX8_heavyNow_28 : decode cX8_heavyNow 28 = .ok (.aload_n 0, 1) := by decide +kernel
theorem dX8_heavyNow_29 : decode cX8_heavyNow 29 = .ok (.getfield 28, 3) := by decide +kernel
theorem dX8_heavyNow_32 : decode cX8_heavyNow 32 = .ok (.iload_n 2, 1) := by decide +kernel
theorem dX8_heavyNow_33 : decode cX8_heavyNow 33 = .ok (.iaload, 1) := by decide +kernel
theorem dX8_heavyNow_34 : decode cX8_heavyNow 34 = .ok (.iaload, 1) := by decide +kernel
theorem dX8_heavyNow_35 : decode cX8_heavyNow 35 = .ok (.iadd, 1) := by decide +kernel
theorem dX8_heavyNow_36 : decode cX8_heavyNow 36 = .ok (.iadd, 1) := by decide +kernel
theorem dX8_heavyNow_37 : decode cX8_heavyNow 37 = .ok (.istore_n 1, 1) := by decide +kernel
theorem dX8_heavyNow_38 : decode cX8_heavyNow 38 = .ok (.iinc 2 1, 3) := by decide +kernel
theorem dX8_heavyNow_41 : decode cX8_heavyNow 41 = .ok (.goto (-37), 3) := by decide +kernel
theorem dX8_heavyNow_44 : decode cX8_heavyNow 44 = .ok (.iload_n 1, 1) := by decide +kernel
theorem dX8_heavyNow_45 : decode cX8_heavyNow 45 = .ok (.ireturn, 1) := by decide +kernel
theorem dX8_heavy_0 : decode cX8_heavy 0 = .ok (.aload_n 0, 1) := by decide +kernel
theorem dX8_heavy_1 : decode cX8_heavy 1 = .ok (.iconst 0, 1) := by decide +kernel
theorem dX8_heavy_2 : decode cX8_heavy 2 = .ok (.iload_n 1, 1) := by decide +kernel
theorem dX8_heavy_3 : decode cX8_heavy 3 = .ok (.invokevirtual 183, 3) := by decide +kernel
theorem dX8_heavy_6 : decode cX8_heavy 6 = .ok (.ifCond .eq 10, 3) := by decide +kernel
theorem dX8_heavy_9 : decode cX8_heavy 9 = .ok (.aload_n 0, 1) := by decide +kernel
theorem dX8_heavy_10 : decode cX8_heavy 10 = .ok (.invokevirtual 189, 3) := by decide +kernel
theorem dX8_heavy_13 : decode cX8_heavy 13 = .ok (.goto 5, 3) := by decide +kernel
theorem dX8_heavy_16 : decode cX8_heavy 16 = .ok (.bipush (-101), 2) := by decide +kernel
theorem dX8_heavy_18 : decode cX8_heavy 18 = .ok (.ireturn, 1) := by decide +kernel
theorem dX8_heaviestNow_0 : decode cX8_heaviestNow 0 = .ok (.iconst (-1), 1) := by decide +kernel
theorem dX8_heaviestNow_1 : decode cX8_heaviestNow 1 = .ok (.istore_n 2, 1) := by decide +kernel
theorem dX8_heaviestNow_2 : decode cX8_heaviestNow 2 = .ok (.iconst 0, 1) := by decide +kernel
theorem dX8_heaviestNow_3 : decode cX8_heaviestNow 3 = .ok (.istore_n 3, 1) := by decide +kernel
theorem dX8_heaviestNow_4 : decode cX8_heaviestNow 4 = .ok (.iconst 0, 1) := by decide +kernel
theorem dX8_heaviestNow_5 : decode cX8_heaviestNow 5 = .ok (.istore 4, 2) := by decide +kernel
theorem dX8_heaviestNow_7 : decode cX8_heaviestNow 7 = .ok (.aload_n 0, 1) := by decide +kernel
theorem dX8_heaviestNow_8 : decode cX8_heaviestNow 8 = .ok (.invokevirtual 171, 3) := by decide +kernel
theorem dX8_heaviestNow_11 : decode cX8_heaviestNow 11 = .ok (.aload_n 0, 1) := by decide +kernel
theorem dX8_heaviestNow_12 : decode cX8_heaviestNow 12 = .ok (.getfield 97, 3) := by decide +kernel
theorem dX8_heaviestNow_15 : decode cX8_heaviestNow 15 = .ok (.ifCond .le 7, 3) := by decide +kernel
theorem dX8_heaviestNow_18 : decode cX8_heaviestNow 18 = .ok (.iconst 1, 1) := by decide +kernel
theorem dX8_heaviestNow_19 : decode cX8_heaviestNow 19 = .ok (.goto 4, 3) := by decide +kernel
theorem dX8_heaviestNow_22 : decode cX8_heaviestNow 22 = .ok (.iconst 0, 1) := by decide +kernel
theorem dX8_heaviestNow_23 : decode cX8_heaviestNow 23 = .ok (.istore 5, 2) := by decide +kernel
theorem dX8_heaviestNow_25 : decode cX8_heaviestNow 25 = .ok (.iload 5, 2) := by decide +kernel
theorem dX8_heaviestNow_27 : decode cX8_heaviestNow 27 = .ok (.ifCond .eq 55, 3) := by decide +kernel
theorem dX8_heaviestNow_30 : decode cX8_heaviestNow 30 = .ok (.aload_n 0, 1) := by decide +kernel
theorem dX8_heaviestNow_31 : decode cX8_heaviestNow 31 = .ok (.iload_n 1, 1) := by decide +kernel
theorem dX8_heaviestNow_32 : decode cX8_heaviestNow 32 = .ok (.invokevirtual 174, 3) := by decide +kernel
theorem dX8_heaviestNow_35 : decode cX8_heaviestNow 35 = .ok (.ifCond .eq 38, 3) := by decide +kernel
theorem dX8_heaviestNow_38 : decode cX8_heaviestNow 38 = .ok (.aload_n 0, 1) := by decide +kernel
theorem dX8_heaviestNow_39 : decode cX8_heaviestNow 39 = .ok (.invokevirtual 189, 3) := by decide +kernel
theorem dX8_heaviestNow_42 : decode cX8_heaviestNow 42 = .ok (.istore 6, 2) := by decide +kernel
theorem dX8_heaviestNow_44 : decode cX8_heaviestNow 44 = .ok (.iload 6, 2) := by decide +kernel
theorem dX8_heaviestNow_46 : decode cX8_heaviestNow 46 = .ok (.iload_n 3, 1) := by decide +kernel
theorem dX8_heaviestNow_47 : decode cX8_heaviestNow 47 = .ok (.if_icmp .le 8, 3) := by decide +kernel
theorem dX8_heaviestNow_50 : decode cX8_heaviestNow 50 = .ok (.iload 4, 2) := by decide +kernel
theorem dX8_heaviestNow_52 : decode cX8_heaviestNow 52 = .ok (.goto 4, 3) := by decide +kernel
theorem dX8_heaviestNow_55 : decode cX8_heaviestNow 55 = .ok (.iload_n 2, 1) := by decide +kernel
theorem dX8_heaviestNow_56 : decode cX8_heaviestNow 56 = .ok (.istore_n 2, 1) := by decide +kernel
theorem dX8_heaviestNow_57 : decode cX8_heaviestNow 57 = .ok (.iload 6, 2) := by decide +kernel
theorem dX8_heaviestNow_59 : decode cX8_heaviestNow 59 = .ok (.iload_n 3, 1) := by decide +kernel
theorem dX8_heaviestNow_60 : decode cX8_heaviestNow 60 = .ok (.if_icmp .le 8, 3) := by decide +kernel
theorem dX8_heaviestNow_63 : decode cX8_heaviestNow 63 = .ok (.iload 6, 2) := by decide +kernel
theorem dX8_heaviestNow_65 : decode cX8_heaviestNow 65 = .ok (.goto 4, 3) := by decide +kernel
theorem dX8_heaviestNow_68 : decode cX8_heaviestNow 68 = .ok (.iload_n 3, 1) := by decide +kernel
theorem dX8_heaviestNow_69 : decode cX8_heaviestNow 69 = .ok (.istore_n 3, 1) := by decide +kernel
theorem dX8_heaviestNow_70 : decode cX8_heaviestNow 70 = .ok (.iinc 4 1, 3) := by decide +kernel
theorem dX8_heaviestNow_73 : decode cX8_heaviestNow 73 = .ok (.aload_n 0, 1) := by decide +kernel
theorem dX8_heaviestNow_74 : decode cX8_heaviestNow 74 = .ok (.invokevirtual 177, 3) := by decide +kernel
theorem dX8_heaviestNow_77 : decode cX8_heaviestNow 77 = .ok (.istore 5, 2) := by decide +kernel
theorem dX8_heaviestNow_79 : decode cX8_heaviestNow 79 = .ok (.goto (-54), 3) := by decide +kernel
theorem dX8_heaviestNow_82 : decode cX8_heaviestNow 82 = .ok (.iload_n 2, 1) := by decide +kernel
theorem dX8_heaviestNow_83 : decode cX8_heaviestNow 83 = .ok (.ireturn, 1) := by decide +kernel
theorem dX8_heaviest_0 : decode cX8_heaviest 0 = .ok (.iload_n 1, 1) := by decide +kernel
theorem dX8_heaviest_1 : decode cX8_heaviest 1 = .ok (.iconst 0, 1) := by decide +kernel
theorem dX8_heaviest_2 : decode cX8_heaviest 2 = .ok (.iconst 2, 1) := by decide +kernel
theorem dX8_heaviest_3 : decode cX8_heaviest 3 = .ok (.invokestatic 65, 3) := by decide +kernel
theorem dX8_heaviest_6 : decode cX8_heaviest 6 = .ok (.ifCond .eq 11, 3) := by decide +kernel
theorem dX8_heaviest_9 : decode cX8_heaviest 9 = .ok (.aload_n 0, 1) := by decide +kernel
theorem dX8_heaviest_10 : decode cX8_heaviest 10 = .ok (.iload_n 1, 1) := by decide +kernel
theorem dX8_heaviest_11 : decode cX8_heaviest 11 = .ok (.invokevirtual 192, 3) := by decide +kernel
theorem dX8_heaviest_14 : decode cX8_heaviest 14 = .ok (.goto 5, 3) := by decide +kernel
theorem dX8_heaviest_17 : decode cX8_heaviest 17 = .ok (.bipush (-102), 2) := by decide +kernel
theorem dX8_heaviest_19 : decode cX8_heaviest 19 = .ok (.ireturn, 1) := by decide +kernel
theorem dX8_countSquare_0 : decode cX8_countSquare 0 = .ok (.iconst 0, 1) := by decide +kernel
theorem dX8_countSquare_1 : decode cX8_countSquare 1 = .ok (.istore_n 1, 1) := by decide +kernel
theorem dX8_countSquare_2 : decode cX8_countSquare 2 = .ok (.iconst 0, 1) := by decide +kernel
theorem dX8_countSquare_3 : decode cX8_countSquare 3 = .ok (.istore_n 2, 1) := by decide +kernel
theorem dX8_countSquare_4 : decode cX8_countSquare 4 = .ok (.iload_n 2, 1) := by decide +kernel
theorem dX8_countSquare_5 : decode cX8_countSquare 5 = .ok (.aload_n 0, 1) := by decide +kernel
theorem dX8_countSquare_6 : decode cX8_countSquare 6 = .ok (.getfield 100, 3) := by decide +kernel
theorem dX8_countSquare_9 : decode cX8_countSquare 9 = .ok (.if_icmp .ge 50, 3) := by decide +kernel
theorem dX8_countSquare_12 : decode cX8_countSquare 12 = .ok (.aload_n 0, 1) := by decide +kernel
theorem dX8_countSquare_13 : decode cX8_countSquare 13 = .ok (.getfield 34, 3) := by decide +kernel
theorem dX8_countSquare_16 : decode cX8_countSquare 16 = .ok (.aload_n 0, 1) := by decide +kernel
theorem dX8_countSquare_17 : decode cX8_countSquare 17 = .ok (.getfield 25, 3) := by decide +kernel
theorem dX8_countSquare_20 : decode cX8_countSquare 20 = .ok (.iload_n 2, 1) := by decide +kernel
theorem dX8_countSquare_21 : decode cX8_countSquare 21 = .ok (.iaload, 1) := by decide +kernel
theorem dX8_countSquare_22 : decode cX8_countSquare 22 = .ok (.dup2, 1) := by decide +kernel
theorem dX8_countSquare_23 : decode cX8_countSquare 23 = .ok (.iaload, 1) := by decide +kernel
theorem dX8_countSquare_24 : decode cX8_countSquare 24 = .ok (.iconst 1, 1) := by decide +kernel
theorem dX8_countSquare_25 : decode cX8_countSquare 25 = .ok (.iadd, 1) := by decide +kernel
theorem dX8_countSquare_26 : decode cX8_countSquare 26 = .ok (.iastore, 1) := by decide +kernel
theorem dX8_countSquare_27 : decode cX8_countSquare 27 = .ok (.aload_n 0, 1) := by decide +kernel
theorem dX8_countSquare_28 : decode cX8_countSquare 28 = .ok (.getfield 37, 3) := by decide +kernel
theorem dX8_countSquare_31 : decode cX8_countSquare 31 = .ok (.aload_n 0, 1) := by decide +kernel
theorem dX8_countSquare_32 : decode cX8_countSquare 32 = .ok (.getfield 28, 3) := by decide +kernel
theorem dX8_countSquare_35 : decode cX8_countSquare 35 = .ok (.iload_n 2, 1) := by decide +kernel
theorem dX8_countSquare_36 : decode cX8_countSquare 36 = .ok (.iaload, 1) := by decide +kernel
theorem dX8_countSquare_37 : decode cX8_countSquare 37 = .ok (.dup2, 1) := by decide +kernel
theorem dX8_countSquare_38 : decode cX8_countSquare 38 = .ok (.iaload, 1) := by decide +kernel
theorem dX8_countSquare_39 : decode cX8_countSquare 39 = .ok (.iconst 1, 1) := by decide +kernel
theorem dX8_countSquare_40 : decode cX8_countSquare 40 = .ok (.iadd, 1) := by decide +kernel
theorem dX8_countSquare_41 : decode cX8_countSquare 41 = .ok (.iastore, 1) := by decide +kernel
theorem dX8_countSquare_42 : decode cX8_countSquare 42 = .ok (.iload_n 1, 1) := by decide +kernel
theorem dX8_countSquare_43 : decode cX8_countSquare 43 = .ok (.iconst 1, 1) := by decide +kernel
theorem dX8_countSquare_44 : decode cX8_countSquare 44 = .ok (.aload_n 0, 1) := by decide +kernel
theorem dX8_countSquare_45 : decode cX8_countSquare 45 = .ok (.getfield 25, 3) := by decide +kernel
theorem dX8_countSquare_48 : decode cX8_countSquare 48 = .ok (.iload_n 2, 1) := by decide +kernel
theorem dX8_countSquare_49 : decode cX8_countSquare 49 = .ok (.iaload, 1) := by decide +kernel
theorem dX8_countSquare_50 : decode cX8_countSquare 50 = .ok (.ishl, 1) := by decide +kernel
theorem dX8_countSquare_51 : decode cX8_countSquare 51 = .ok (.ior, 1) := by decide +kernel
theorem dX8_countSquare_52 : decode cX8_countSquare 52 = .ok (.istore_n 1, 1) := by decide +kernel
theorem dX8_countSquare_53 : decode cX8_countSquare 53 = .ok (.iinc 2 1, 3) := by decide +kernel
theorem dX8_countSquare_56 : decode cX8_countSquare 56 = .ok (.goto (-52), 3) := by decide +kernel
theorem dX8_countSquare_59 : decode cX8_countSquare 59 = .ok (.aload_n 0, 1) := by decide +kernel
theorem dX8_countSquare_60 : decode cX8_countSquare 60 = .ok (.invokevirtual 165, 3) := by decide +kernel
theorem dX8_countSquare_63 : decode cX8_countSquare 63 = .ok (.istore_n 2, 1) := by decide +kernel
theorem dX8_countSquare_64 : decode cX8_countSquare 64 = .ok (.iconst 0, 1) := by decide +kernel
theorem dX8_countSquare_65 : decode cX8_countSquare 65 = .ok (.istore_n 3, 1) := by decide +kernel
theorem dX8_countSquare_66 : decode cX8_countSquare 66 = .ok (.iload_n 3, 1) := by decide +kernel
theorem dX8_countSquare_67 : decode cX8_countSquare 67 = .ok (.aload_n 0, 1) := by decide +kernel
theorem dX8_countSquare_68 : decode cX8_countSquare 68 = .ok (.getfield 97, 3) := by decide +kernel
theorem dX8_countSquare_71 : decode cX8_countSquare 71 = .ok (.if_icmp .ge 36, 3) := by decide +kernel
theorem dX8_countSquare_74 : decode cX8_countSquare 74 = .ok (.aload_n 0, 1) := by decide +kernel
theorem dX8_countSquare_75 : decode cX8_countSquare 75 = .ok (.getfield 40, 3) := by decide +kernel
theorem dX8_countSquare_78 : decode cX8_countSquare 78 = .ok (.iload_n 3, 1) := by decide +kernel
theorem dX8_countSquare_79 : decode cX8_countSquare 79 = .ok (.dup2, 1) := by decide +kernel
theorem dX8_countSquare_80 : decode cX8_countSquare 80 = .ok (.iaload, 1) := by decide +kernel
theorem dX8_countSquare_81 : decode cX8_countSquare 81 = .ok (.iload_n 2, 1) := by decide +kernel
theorem dX8_countSquare_82 : decode cX8_countSquare 82 = .ok (.ifCond .eq 16, 3) := by decide +kernel
theorem dX8_countSquare_85 : decode cX8_countSquare 85 = .ok (.iload_n 1, 1) := by decide +kernel
theorem dX8_countSquare_86 : decode cX8_countSquare 86 = .ok (.iload_n 3, 1) := by decide +kernel
theorem dX8_countSquare_87 : decode cX8_countSquare 87 = .ok (.ishr, 1) := by decide +kernel
theorem dX8_countSquare_88 : decode cX8_countSquare 88 = .ok (.iconst 1, 1) := by decide +kernel
theorem dX8_countSquare_89 : decode cX8_countSquare 89 = .ok (.iand, 1) := by decide +kernel
theorem dX8_countSquare_90 : decode cX8_countSquare 90 = .ok (.iconst 1, 1) := by decide +kernel
theorem dX8_countSquare_91 : decode cX8_countSquare 91 = .ok (.if_icmp .ne 7, 3) := by decide +kernel
theorem dX8_countSquare_94 : decode cX8_countSquare 94 = .ok (.iconst 1, 1) := by decide +kernel
theorem dX8_countSquare_95 : decode cX8_countSquare 95 = .ok (.goto 4, 3) := by decide +kernel
theorem dX8_countSquare_98 : decode cX8_countSquare 98 = .ok (.iconst 0, 1) := by decide +kernel
theorem dX8_countSquare_99 : decode cX8_countSquare 99 = .ok (.iadd, 1) := by decide +kernel
theorem dX8_countSquare_100 : decode cX8_countSquare 100 = .ok (.iastore, 1) := by decide +kernel
theorem dX8_countSquare_101 : decode cX8_countSquare 101 = .ok (.iinc 3 1, 3) := by decide +kernel
theorem dX8_countSquare_104 : decode cX8_countSquare 104 = .ok (.goto (-38), 3) := by decide +kernel
theorem dX8_countSquare_107 : decode cX8_countSquare 107 = .ok (.return_, 1) := by decide +kernel
theorem dX8_layCounts_0 : decode cX8_layCounts 0 = .ok (.iconst 0, 1) := by decide +kernel
theorem dX8_layCounts_1 : decode cX8_layCounts 1 = .ok (.istore_n 1, 1) := by decide +kernel
theorem dX8_layCounts_2 : decode cX8_layCounts 2 = .ok (.iload_n 1, 1) := by decide +kernel
theorem dX8_layCounts_3 : decode cX8_layCounts 3 = .ok (.bipush 12, 2) := by decide +kernel
theorem dX8_layCounts_5 : decode cX8_layCounts 5 = .ok (.if_icmp .ge 30, 3) := by decide +kernel
theorem dX8_layCounts_8 : decode cX8_layCounts 8 = .ok (.aload_n 0, 1) := by decide +kernel
theorem dX8_layCounts_9 : decode cX8_layCounts 9 = .ok (.getfield 34, 3) := by decide +kernel
theorem dX8_layCounts_12 : decode cX8_layCounts 12 = .ok (.iload_n 1, 1) := by decide +kernel
theorem dX8_layCounts_13 : decode cX8_layCounts 13 = .ok (.iconst 0, 1) := by decide +kernel
theorem dX8_layCounts_14 : decode cX8_layCounts 14 = .ok (.iastore, 1) := by decide +kernel
theorem dX8_layCounts_15 : decode cX8_layCounts 15 = .ok (.aload_n 0, 1) := by decide +kernel
theorem dX8_layCounts_16 : decode cX8_layCounts 16 = .ok (.getfield 37, 3) := by decide +kernel
theorem dX8_layCounts_19 : decode cX8_layCounts 19 = .ok (.iload_n 1, 1) := by decide +kernel
theorem dX8_layCounts_20 : decode cX8_layCounts 20 = .ok (.iconst 0, 1) := by decide +kernel
theorem dX8_layCounts_21 : decode cX8_layCounts 21 = .ok (.iastore, 1) := by decide +kernel
theorem dX8_layCounts_22 : decode cX8_layCounts 22 = .ok (.aload_n 0, 1) := by decide +kernel
theorem dX8_layCounts_23 : decode cX8_layCounts 23 = .ok (.getfield 40, 3) := by decide +kernel
theorem dX8_layCounts_26 : decode cX8_layCounts 26 = .ok (.iload_n 1, 1) := by decide +kernel
theorem dX8_layCounts_27 : decode cX8_layCounts 27 = .ok (.iconst 0, 1) := by decide +kernel
theorem dX8_layCounts_28 : decode cX8_layCounts 28 = .ok (.iastore, 1) := by decide +kernel
theorem dX8_layCounts_29 : decode cX8_layCounts 29 = .ok (.iinc 1 1, 3) := by decide +kernel
theorem dX8_layCounts_32 : decode cX8_layCounts 32 = .ok (.goto (-30), 3) := by decide +kernel
theorem dX8_layCounts_35 : decode cX8_layCounts 35 = .ok (.aload_n 0, 1) := by decide +kernel
theorem dX8_layCounts_36 : decode cX8_layCounts 36 = .ok (.invokevirtual 171, 3) := by decide +kernel
theorem dX8_layCounts_39 : decode cX8_layCounts 39 = .ok (.aload_n 0, 1) := by decide +kernel
theorem dX8_layCounts_40 : decode cX8_layCounts 40 = .ok (.getfield 97, 3) := by decide +kernel
theorem dX8_layCounts_43 : decode cX8_layCounts 43 = .ok (.ifCond .le 7, 3) := by decide +kernel
theorem dX8_layCounts_46 : decode cX8_layCounts 46 = .ok (.iconst 1, 1) := by decide +kernel
theorem dX8_layCounts_47 : decode cX8_layCounts 47 = .ok (.goto 4, 3) := by decide +kernel
theorem dX8_layCounts_50 : decode cX8_layCounts 50 = .ok (.iconst 0, 1) := by decide +kernel
theorem dX8_layCounts_51 : decode cX8_layCounts 51 = .ok (.istore_n 1, 1) := by decide +kernel
theorem dX8_layCounts_52 : decode cX8_layCounts 52 = .ok (.iload_n 1, 1) := by decide +kernel
theorem dX8_layCounts_53 : decode cX8_layCounts 53 = .ok (.ifCond .eq 22, 3) := by decide +kernel
theorem dX8_layCounts_56 : decode cX8_layCounts 56 = .ok (.aload_n 0, 1) := by decide +kernel
theorem dX8_layCounts_57 : decode cX8_layCounts 57 = .ok (.invokevirtual 162, 3) := by decide +kernel
theorem dX8_layCounts_60 : decode cX8_layCounts 60 = .ok (.ifCond .eq 7, 3) := by decide +kernel
theorem dX8_layCounts_63 : decode cX8_layCounts 63 = .ok (.aload_n 0, 1) := by decide +kernel
theorem dX8_layCounts_64 : decode cX8_layCounts 64 = .ok (.invokevirtual 195, 3) := by decide +kernel
theorem dX8_layCounts_67 : decode cX8_layCounts 67 = .ok (.aload_n 0, 1) := by decide +kernel
theorem dX8_layCounts_68 : decode cX8_layCounts 68 = .ok (.invokevirtual 177, 3) := by decide +kernel
theorem dX8_layCounts_71 : decode cX8_layCounts 71 = .ok (.istore_n 1, 1) := by decide +kernel
theorem dX8_layCounts_72 : decode cX8_layCounts 72 = .ok (.goto (-20), 3) := by decide +kernel
theorem dX8_layCounts_75 : decode cX8_layCounts 75 = .ok (.return_, 1) := by decide +kernel
theorem dX8_wordNow_0 : decode cX8_wordNow 0 = .ok (.iload_n 2, 1) := by decide +kernel
theorem dX8_wordNow_1 : decode cX8_wordNow 1 = .ok (.tableswitch 58 0 3 #[31, 38, 44, 51], 31) := by decide +kernel
theorem dX8_wordNow_32 : decode cX8_wordNow 32 = .ok (.aload_n 0, 1) := by decide +kernel
theorem dX8_wordNow_33 : decode cX8_wordNow 33 = .ok (.getfield 13, 3) := by decide +kernel
theorem dX8_wordNow_36 : decode cX8_wordNow 36 = .ok (.iload_n 1, 1) := by decide +kernel
theorem dX8_wordNow_37 : decode cX8_wordNow 37 = .ok (.iaload, 1) := by decide +kernel
theorem dX8_wordNow_38 : decode cX8_wordNow 38 = .ok (.ireturn, 1) := by decide +kernel
theorem dX8_wordNow_39 : decode cX8_wordNow 39 = .ok (.aload_n 0, 1) := by decide +kernel
theorem dX8_wordNow_40 : decode cX8_wordNow 40 = .ok (.iload_n 1, 1) := by decide +kernel
theorem dX8_wordNow_41 : decode cX8_wordNow 41 = .ok (.invokevirtual 137, 3) := by decide +kernel
theorem dX8_wordNow_44 : decode cX8_wordNow 44 = .ok (.ireturn, 1) := by decide +kernel
theorem dX8_wordNow_45 : decode cX8_wordNow 45 = .ok (.aload_n 0, 1) := by decide +kernel
theorem dX8_wordNow_46 : decode cX8_wordNow 46 = .ok (.getfield 34, 3) := by decide +kernel
theorem dX8_wordNow_49 : decode cX8_wordNow 49 = .ok (.iload_n 1, 1) := by decide +kernel
theorem dX8_wordNow_50 : decode cX8_wordNow 50 = .ok (.iaload, 1) := by decide +kernel
theorem dX8_wordNow_51 : decode cX8_wordNow 51 = .ok (.ireturn, 1) := by decide +kernel
theorem dX8_wordNow_52 : decode cX8_wordNow 52 = .ok (.aload_n 0, 1) := by decide +kernel
theorem dX8_wordNow_53 : decode cX8_wordNow 53 = .ok (.getfield 37, 3) := by decide +kernel
theorem dX8_wordNow_56 : decode cX8_wordNow 56 = .ok (.iload_n 1, 1) := by decide +kernel
theorem dX8_wordNow_57 : decode cX8_wordNow 57 = .ok (.iaload, 1) := by decide +kernel
theorem dX8_wordNow_58 : decode cX8_wordNow 58 = .ok (.ireturn, 1) := by decide +kernel
theorem dX8_wordNow_59 : decode cX8_wordNow 59 = .ok (.aload_n 0, 1) := by decide +kernel
theorem dX8_wordNow_60 : decode cX8_wordNow 60 = .ok (.getfield 40, 3) := by decide +kernel
theorem dX8_wordNow_63 : decode cX8_wordNow 63 = .ok (.iload_n 1, 1) := by decide +kernel
theorem dX8_wordNow_64 : decode cX8_wordNow 64 = .ok (.iaload, 1) := by decide +kernel
theorem dX8_wordNow_65 : decode cX8_wordNow 65 = .ok (.ireturn, 1) := by decide +kernel
theorem dX8_wordTold_0 : decode cX8_wordTold 0 = .ok (.iload_n 2, 1) := by decide +kernel
theorem dX8_wordTold_1 : decode cX8_wordTold 1 = .ok (.iconst 1, 1) := by decide +kernel
theorem dX8_wordTold_2 : decode cX8_wordTold 2 = .ok (.if_icmp .le 7, 3) := by decide +kernel
theorem dX8_wordTold_5 : decode cX8_wordTold 5 = .ok (.aload_n 0, 1) := by decide +kernel
theorem dX8_wordTold_6 : decode cX8_wordTold 6 = .ok (.invokevirtual 198, 3) := by decide +kernel
theorem dX8_wordTold_9 : decode cX8_wordTold 9 = .ok (.aload_n 0, 1) := by decide +kernel
theorem dX8_wordTold_10 : decode cX8_wordTold 10 = .ok (.iload_n 1, 1) := by decide +kernel
theorem dX8_wordTold_11 : decode cX8_wordTold 11 = .ok (.iload_n 2, 1) := by decide +kernel
theorem dX8_wordTold_12 : decode cX8_wordTold 12 = .ok (.invokevirtual 201, 3) := by decide +kernel
theorem dX8_wordTold_15 : decode cX8_wordTold 15 = .ok (.ireturn, 1) := by decide +kernel
theorem dX8_word_0 : decode cX8_word 0 = .ok (.aload_n 0, 1) := by decide +kernel
theorem dX8_word_1 : decode cX8_word 1 = .ok (.iload_n 1, 1) := by decide +kernel
theorem dX8_word_2 : decode cX8_word 2 = .ok (.invokevirtual 124, 3) := by decide +kernel
theorem dX8_word_5 : decode cX8_word 5 = .ok (.ifCond .ne 8, 3) := by decide +kernel
theorem dX8_word_8 : decode cX8_word 8 = .ok (.bipush (-101), 2) := by decide +kernel
theorem dX8_word_10 : decode cX8_word 10 = .ok (.goto 23, 3) := by decide +kernel
theorem dX8_word_13 : decode cX8_word 13 = .ok (.iload_n 2, 1) := by decide +kernel
theorem dX8_word_14 : decode cX8_word 14 = .ok (.iconst 0, 1) := by decide +kernel
theorem dX8_word_15 : decode cX8_word 15 = .ok (.iconst 4, 1) := by decide +kernel
theorem dX8_word_16 : decode cX8_word 16 = .ok (.invokestatic 65, 3) := by decide +kernel
theorem dX8_word_19 : decode cX8_word 19 = .ok (.ifCond .eq 12, 3) := by decide +kernel
theorem dX8_word_22 : decode cX8_word 22 = .ok (.aload_n 0, 1) := by decide +kernel
theorem dX8_word_23 : decode cX8_word 23 = .ok (.iload_n 1, 1) := by decide +kernel
theorem dX8_word_24 : decode cX8_word 24 = .ok (.iload_n 2, 1) := by decide +kernel
theorem dX8_word_25 : decode cX8_word 25 = .ok (.invokevirtual 204, 3) := by decide +kernel
theorem dX8_word_28 : decode cX8_word 28 = .ok (.goto 5, 3) := by decide +kernel
theorem dX8_word_31 : decode cX8_word 31 = .ok (.bipush (-102), 2) := by decide +kernel
theorem dX8_word_33 : decode cX8_word 33 = .ok (.ireturn, 1) := by decide +kernel
theorem dX8_isRow_0 : decode cX8_isRow 0 = .ok (.iload_n 1, 1) := by decide +kernel
theorem dX8_isRow_1 : decode cX8_isRow 1 = .ok (.iconst 0, 1) := by decide +kernel
theorem dX8_isRow_2 : decode cX8_isRow 2 = .ok (.aload_n 0, 1) := by decide +kernel
theorem dX8_isRow_3 : decode cX8_isRow 3 = .ok (.getfield 100, 3) := by decide +kernel
theorem dX8_isRow_6 : decode cX8_isRow 6 = .ok (.iconst 1, 1) := by decide +kernel
theorem dX8_isRow_7 : decode cX8_isRow 7 = .ok (.isub, 1) := by decide +kernel
theorem dX8_isRow_8 : decode cX8_isRow 8 = .ok (.invokestatic 65, 3) := by decide +kernel
theorem dX8_isRow_11 : decode cX8_isRow 11 = .ok (.ireturn, 1) := by decide +kernel
theorem dX8_put_0 : decode cX8_put 0 = .ok (.aload_n 0, 1) := by decide +kernel
theorem dX8_put_1 : decode cX8_put 1 = .ok (.iload_n 1, 1) := by decide +kernel
theorem dX8_put_2 : decode cX8_put 2 = .ok (.invokevirtual 207, 3) := by decide +kernel
theorem dX8_put_5 : decode cX8_put 5 = .ok (.ifCond .eq 11, 3) := by decide +kernel
theorem dX8_put_8 : decode cX8_put 8 = .ok (.aload_n 0, 1) := by decide +kernel
theorem dX8_put_9 : decode cX8_put 9 = .ok (.iload_n 2, 1) := by decide +kernel
theorem dX8_put_10 : decode cX8_put 10 = .ok (.invokevirtual 124, 3) := by decide +kernel
theorem dX8_put_13 : decode cX8_put 13 = .ok (.ifCond .ne 6, 3) := by decide +kernel
theorem dX8_put_16 : decode cX8_put 16 = .ok (.bipush (-101), 2) := by decide +kernel
theorem dX8_put_18 : decode cX8_put 18 = .ok (.ireturn, 1) := by decide +kernel
theorem dX8_put_19 : decode cX8_put 19 = .ok (.aload_n 0, 1) := by decide +kernel
theorem dX8_put_20 : decode cX8_put 20 = .ok (.getfield 16, 3) := by decide +kernel
theorem dX8_put_23 : decode cX8_put 23 = .ok (.iload_n 1, 1) := by decide +kernel
theorem dX8_put_24 : decode cX8_put 24 = .ok (.iaload, 1) := by decide +kernel
theorem dX8_put_25 : decode cX8_put 25 = .ok (.istore_n 3, 1) := by decide +kernel
theorem dX8_put_26 : decode cX8_put 26 = .ok (.aload_n 0, 1) := by decide +kernel
theorem dX8_put_27 : decode cX8_put 27 = .ok (.getfield 16, 3) := by decide +kernel
theorem dX8_put_30 : decode cX8_put 30 = .ok (.iload_n 1, 1) := by decide +kernel
theorem dX8_put_31 : decode cX8_put 31 = .ok (.iload_n 2, 1) := by decide +kernel
theorem dX8_put_32 : decode cX8_put 32 = .ok (.iastore, 1) := by decide +kernel
theorem dX8_put_33 : decode cX8_put 33 = .ok (.iload_n 3, 1) := by decide +kernel
theorem dX8_put_34 : decode cX8_put 34 = .ok (.ireturn, 1) := by decide +kernel
theorem dX8_lift_0 : decode cX8_lift 0 = .ok (.aload_n 0, 1) := by decide +kernel
theorem dX8_lift_1 : decode cX8_lift 1 = .ok (.iload_n 1, 1) := by decide +kernel
theorem dX8_lift_2 : decode cX8_lift 2 = .ok (.invokevirtual 207, 3) := by decide +kernel
theorem dX8_lift_5 : decode cX8_lift 5 = .ok (.ifCond .ne 6, 3) := by decide +kernel
theorem dX8_lift_8 : decode cX8_lift 8 = .ok (.bipush (-101), 2) := by decide +kernel
theorem dX8_lift_10 : decode cX8_lift 10 = .ok (.ireturn, 1) := by decide +kernel
theorem dX8_lift_11 : decode cX8_lift 11 = .ok (.aload_n 0, 1) := by decide +kernel
theorem dX8_lift_12 : decode cX8_lift 12 = .ok (.getfield 16, 3) := by decide +kernel
theorem dX8_lift_15 : decode cX8_lift 15 = .ok (.iload_n 1, 1) := by decide +kernel
theorem dX8_lift_16 : decode cX8_lift 16 = .ok (.iaload, 1) := by decide +kernel
theorem dX8_lift_17 : decode cX8_lift 17 = .ok (.iconst (-1), 1) := by decide +kernel
theorem dX8_lift_18 : decode cX8_lift 18 = .ok (.if_icmp .ne 6, 3) := by decide +kernel
theorem dX8_lift_21 : decode cX8_lift 21 = .ok (.bipush (-103), 2) := by decide +kernel
theorem dX8_lift_23 : decode cX8_lift 23 = .ok (.ireturn, 1) := by decide +kernel
theorem dX8_lift_24 : decode cX8_lift 24 = .ok (.aload_n 0, 1) := by decide +kernel
theorem dX8_lift_25 : decode cX8_lift 25 = .ok (.getfield 16, 3) := by decide +kernel
theorem dX8_lift_28 : decode cX8_lift 28 = .ok (.iload_n 1, 1) := by decide +kernel
theorem dX8_lift_29 : decode cX8_lift 29 = .ok (.iaload, 1) := by decide +kernel
theorem dX8_lift_30 : decode cX8_lift 30 = .ok (.istore_n 2, 1) := by decide +kernel
theorem dX8_lift_31 : decode cX8_lift 31 = .ok (.aload_n 0, 1) := by decide +kernel
theorem dX8_lift_32 : decode cX8_lift 32 = .ok (.getfield 16, 3) := by decide +kernel
theorem dX8_lift_35 : decode cX8_lift 35 = .ok (.iload_n 1, 1) := by decide +kernel
theorem dX8_lift_36 : decode cX8_lift 36 = .ok (.iconst (-1), 1) := by decide +kernel
theorem dX8_lift_37 : decode cX8_lift 37 = .ok (.iastore, 1) := by decide +kernel
theorem dX8_lift_38 : decode cX8_lift 38 = .ok (.iload_n 2, 1) := by decide +kernel
theorem dX8_lift_39 : decode cX8_lift 39 = .ok (.ireturn, 1) := by decide +kernel
theorem dX8_board_0 : decode cX8_board 0 = .ok (.aload_n 0, 1) := by decide +kernel
theorem dX8_board_1 : decode cX8_board 1 = .ok (.iload_n 1, 1) := by decide +kernel
theorem dX8_board_2 : decode cX8_board 2 = .ok (.invokevirtual 207, 3) := by decide +kernel
theorem dX8_board_5 : decode cX8_board 5 = .ok (.ifCond .eq 12, 3) := by decide +kernel
theorem dX8_board_8 : decode cX8_board 8 = .ok (.aload_n 0, 1) := by decide +kernel
theorem dX8_board_9 : decode cX8_board 9 = .ok (.getfield 16, 3) := by decide +kernel
theorem dX8_board_12 : decode cX8_board 12 = .ok (.iload_n 1, 1) := by decide +kernel
theorem dX8_board_13 : decode cX8_board 13 = .ok (.iaload, 1) := by decide +kernel
theorem dX8_board_14 : decode cX8_board 14 = .ok (.goto 5, 3) := by decide +kernel
theorem dX8_board_17 : decode cX8_board 17 = .ok (.bipush (-101), 2) := by decide +kernel
theorem dX8_board_19 : decode cX8_board 19 = .ok (.ireturn, 1) := by decide +kernel
theorem dX8_isFitting_0 : decode cX8_isFitting 0 = .ok (.iconst 1, 1) := by decide +kernel
theorem dX8_isFitting_1 : decode cX8_isFitting 1 = .ok (.istore_n 1, 1) := by decide +kernel
theorem dX8_isFitting_2 : decode cX8_isFitting 2 = .ok (.iconst 0, 1) := by decide +kernel
theorem dX8_isFitting_3 : decode cX8_isFitting 3 = .ok (.istore_n 2, 1) := by decide +kernel
theorem dX8_isFitting_4 : decode cX8_isFitting 4 = .ok (.iload_n 2, 1) := by decide +kernel
theorem dX8_isFitting_5 : decode cX8_isFitting 5 = .ok (.aload_n 0, 1) := by decide +kernel
theorem dX8_isFitting_6 : decode cX8_isFitting 6 = .ok (.getfield 100, 3) := by decide +kernel
theorem dX8_isFitting_9 : decode cX8_isFitting 9 = .ok (.if_icmp .ge 44, 3) := by decide +kernel
theorem dX8_isFitting_12 : decode cX8_isFitting 12 = .ok (.iload_n 1, 1) := by decide +kernel
theorem dX8_isFitting_13 : decode cX8_isFitting 13 = .ok (.ifCond .eq 32, 3) := by decide +kernel
theorem dX8_isFitting_16 : decode cX8_isFitting 16 = .ok (.aload_n 0, 1) := by decide +kernel
theorem dX8_isFitting_17 : decode cX8_isFitting 17 = .ok (.getfield 16, 3) := by decide +kernel
theorem dX8_isFitting_20 : decode cX8_isFitting 20 = .ok (.iload_n 2, 1) := by decide +kernel
theorem dX8_isFitting_21 : decode cX8_isFitting 21 = .ok (.iaload, 1) := by decide +kernel
theorem dX8_isFitting_22 : decode cX8_isFitting 22 = .ok (.iconst (-1), 1) := by decide +kernel
theorem dX8_isFitting_23 : decode cX8_isFitting 23 = .ok (.if_icmp .eq 18, 3) := by decide +kernel
theorem dX8_isFitting_26 : decode cX8_isFitting 26 = .ok (.aload_n 0, 1) := by decide +kernel
theorem dX8_isFitting_27 : decode cX8_isFitting 27 = .ok (.getfield 16, 3) := by decide +kernel
theorem dX8_isFitting_30 : decode cX8_isFitting 30 = .ok (.iload_n 2, 1) := by decide +kernel
theorem dX8_isFitting_31 : decode cX8_isFitting 31 = .ok (.iaload, 1) := by decide +kernel
theorem dX8_isFitting_32 : decode cX8_isFitting 32 = .ok (.aload_n 0, 1) := by decide +kernel
theorem dX8_isFitting_33 : decode cX8_isFitting 33 = .ok (.getfield 25, 3) := by decide +kernel
theorem dX8_isFitting_36 : decode cX8_isFitting 36 = .ok (.iload_n 2, 1) := by decide +kernel
theorem dX8_isFitting_37 : decode cX8_isFitting 37 = .ok (.iaload, 1) := by decide +kernel
theorem dX8_isFitting_38 : decode cX8_isFitting 38 = .ok (.if_icmp .ne 7, 3) := by decide +kernel
theorem dX8_isFitting_41 : decode cX8_isFitting 41 = .ok (.iconst 1, 1) := by decide +kernel
theorem dX8_isFitting_42 : decode cX8_isFitting 42 = .ok (.goto 4, 3) := by decide +kernel
theorem dX8_isFitting_45 : decode cX8_isFitting 45 = .ok (.iconst 0, 1) := by decide +kernel
theorem dX8_isFitting_46 : decode cX8_isFitting 46 = .ok (.istore_n 1, 1) := by decide +kernel
theorem dX8_isFitting_47 : decode cX8_isFitting 47 = .ok (.iinc 2 1, 3) := by decide +kernel
theorem dX8_isFitting_50 : decode cX8_isFitting 50 = .ok (.goto (-46), 3) := by decide +kernel
theorem dX8_isFitting_53 : decode cX8_isFitting 53 = .ok (.iload_n 1, 1) := by decide +kernel
theorem dX8_isFitting_54 : decode cX8_isFitting 54 = .ok (.ifCond .eq 14, 3) := by decide +kernel
theorem dX8_isFitting_57 : decode cX8_isFitting 57 = .ok (.aload_n 0, 1) := by decide +kernel
theorem dX8_isFitting_58 : decode cX8_isFitting 58 = .ok (.invokevirtual 162, 3) := by decide +kernel
theorem dX8_isFitting_61 : decode cX8_isFitting 61 = .ok (.ifCond .eq 7, 3) := by decide +kernel
theorem dX8_isFitting_64 : decode cX8_isFitting 64 = .ok (.iconst 1, 1) := by decide +kernel
theorem dX8_isFitting_65 : decode cX8_isFitting 65 = .ok (.goto 4, 3) := by decide +kernel
theorem dX8_isFitting_68 : decode cX8_isFitting 68 = .ok (.iconst 0, 1) := by decide +kernel
theorem dX8_isFitting_69 : decode cX8_isFitting 69 = .ok (.ireturn, 1) := by decide +kernel
theorem dX8_countFitting_0 : decode cX8_countFitting 0 = .ok (.iconst 0, 1) := by decide +kernel
theorem dX8_countFitting_1 : decode cX8_countFitting 1 = .ok (.istore_n 1, 1) := by decide +kernel
theorem dX8_countFitting_2 : decode cX8_countFitting 2 = .ok (.iload_n 1, 1) := by decide +kernel
theorem dX8_countFitting_3 : decode cX8_countFitting 3 = .ok (.aload_n 0, 1) := by decide +kernel
theorem dX8_countFitting_4 : decode cX8_countFitting 4 = .ok (.getfield 100, 3) := by decide +kernel
theorem dX8_countFitting_7 : decode cX8_countFitting 7 = .ok (.if_icmp .ge 90, 3) := by decide +kernel
theorem dX8_countFitting_10 : decode cX8_countFitting 10 = .ok (.aload_n 0, 1) := by decide +kernel
theorem dX8_countFitting_11 : decode cX8_countFitting 11 = .ok (.getfield 43, 3) := by decide +kernel
theorem dX8_countFitting_14 : decode cX8_countFitting 14 = .ok (.iload_n 1, 1) := by decide +kernel
theorem dX8_countFitting_15 : decode cX8_countFitting 15 = .ok (.dup2, 1) := by decide +kernel
theorem dX8_countFitting_16 : decode cX8_countFitting 16 = .ok (.iaload, 1) := by decide +kernel
theorem dX8_countFitting_17 : decode cX8_countFitting 17 = .ok (.iconst 1, 1) := by decide +kernel
theorem dX8_countFitting_18 : decode cX8_countFitting 18 = .ok (.aload_n 0, 1) := by decide +kernel
theorem dX8_countFitting_19 : decode cX8_countFitting 19 = .ok (.getfield 25, 3) := by decide +kernel
theorem dX8_countFitting_22 : decode cX8_countFitting 22 = .ok (.iload_n 1, 1) := by decide +kernel
theorem dX8_countFitting_23 : decode cX8_countFitting 23 = .ok (.iaload, 1) := by decide +kernel
theorem dX8_countFitting_24 : decode cX8_countFitting 24 = .ok (.ishl, 1) := by decide +kernel
theorem dX8_countFitting_25 : decode cX8_countFitting 25 = .ok (.ior, 1) := by decide +kernel
theorem dX8_countFitting_26 : decode cX8_countFitting 26 = .ok (.iastore, 1) := by decide +kernel
theorem dX8_countFitting_27 : decode cX8_countFitting 27 = .ok (.iconst 0, 1) := by decide +kernel
theorem dX8_countFitting_28 : decode cX8_countFitting 28 = .ok (.istore_n 2, 1) := by decide +kernel
theorem dX8_countFitting_29 : decode cX8_countFitting 29 = .ok (.iload_n 2, 1) := by decide +kernel
theorem dX8_countFitting_30 : decode cX8_countFitting 30 = .ok (.aload_n 0, 1) := by decide +kernel
theorem dX8_countFitting_31 : decode cX8_countFitting 31 = .ok (.getfield 100, 3) := by decide +kernel
theorem dX8_countFitting_34 : decode cX8_countFitting 34 = .ok (.if_icmp .ge 57, 3) := by decide +kernel
theorem dX8_countFitting_37 : decode cX8_countFitting 37 = .ok (.aload_n 0, 1) := by decide +kernel
theorem dX8_countFitting_38 : decode cX8_countFitting 38 = .ok (.aload_n 0, 1) := by decide +kernel
theorem dX8_countFitting_39 : decode cX8_countFitting 39 = .ok (.getfield 25, 3) := by decide +kernel
theorem dX8_countFitting_42 : decode cX8_countFitting 42 = .ok (.iload_n 1, 1) := by decide +kernel
theorem dX8_countFitting_43 : decode cX8_countFitting 43 = .ok (.iaload, 1) := by decide +kernel
theorem dX8_countFitting_44 : decode cX8_countFitting 44 = .ok (.iload_n 2, 1) := by decide +kernel
theorem dX8_countFitting_45 : decode cX8_countFitting 45 = .ok (.invokevirtual 130, 3) := by decide +kernel
theorem dX8_countFitting_48 : decode cX8_countFitting 48 = .ok (.istore_n 3, 1) := by decide +kernel
theorem dX8_countFitting_49 : decode cX8_countFitting 49 = .ok (.aload_n 0, 1) := by decide +kernel
theorem dX8_countFitting_50 : decode cX8_countFitting 50 = .ok (.getfield 46, 3) := by decide +kernel
theorem dX8_countFitting_53 : decode cX8_countFitting 53 = .ok (.iconst 4, 1) := by decide +kernel
theorem dX8_countFitting_54 : decode cX8_countFitting 54 = .ok (.iload_n 1, 1) := by decide +kernel
theorem dX8_countFitting_55 : decode cX8_countFitting 55 = .ok (.imul, 1) := by decide +kernel
theorem dX8_countFitting_56 : decode cX8_countFitting 56 = .ok (.iload_n 2, 1) := by decide +kernel
theorem dX8_countFitting_57 : decode cX8_countFitting 57 = .ok (.iadd, 1) := by decide +kernel
theorem dX8_countFitting_58 : decode cX8_countFitting 58 = .ok (.aload_n 0, 1) := by decide +kernel
theorem dX8_countFitting_59 : decode cX8_countFitting 59 = .ok (.getfield 210, 3) := by decide +kernel
theorem dX8_countFitting_62 : decode cX8_countFitting 62 = .ok (.ifCond .eq 17, 3) := by decide +kernel
theorem dX8_countFitting_65 : decode cX8_countFitting 65 = .ok (.aload_n 0, 1) := by decide +kernel
theorem dX8_countFitting_66 : decode cX8_countFitting 66 = .ok (.getfield 46, 3) := by decide +kernel
theorem dX8_countFitting_69 : decode cX8_countFitting 69 = .ok (.iconst 4, 1) := by decide +kernel
theorem dX8_countFitting_70 : decode cX8_countFitting 70 = .ok (.iload_n 1, 1) := by decide +kernel
theorem dX8_countFitting_71 : decode cX8_countFitting 71 = .ok (.imul, 1) := by decide +kernel
theorem dX8_countFitting_72 : decode cX8_countFitting 72 = .ok (.iload_n 2, 1) := by decide +kernel
theorem dX8_countFitting_73 : decode cX8_countFitting 73 = .ok (.iadd, 1) := by decide +kernel
theorem dX8_countFitting_74 : decode cX8_countFitting 74 = .ok (.iaload, 1) := by decide +kernel
theorem dX8_countFitting_75 : decode cX8_countFitting 75 = .ok (.iload_n 3, 1) := by decide +kernel
theorem dX8_countFitting_76 : decode cX8_countFitting 76 = .ok (.if_icmp .ne 7, 3) := by decide +kernel
theorem dX8_countFitting_79 : decode cX8_countFitting 79 = .ok (.iload_n 3, 1) := by decide +kernel
theorem dX8_countFitting_80 : decode cX8_countFitting 80 = .ok (.goto 4, 3) := by decide +kernel
theorem dX8_countFitting_83 : decode cX8_countFitting 83 = .ok (.iconst 0, 1) := by decide +kernel
theorem dX8_countFitting_84 : decode cX8_countFitting 84 = .ok (.iastore, 1) := by decide +kernel
theorem dX8_countFitting_85 : decode cX8_countFitting 85 = .ok (.iinc 2 1, 3) := by decide +kernel
theorem dX8_countFitting_88 : decode cX8_countFitting 88 = .ok (.goto (-59), 3) := by decide +kernel
theorem dX8_countFitting_91 : decode cX8_countFitting 91 = .ok (.iinc 1 1, 3) := by decide +kernel
theorem dX8_countFitting_94 : decode cX8_countFitting 94 = .ok (.goto (-92), 3) := by decide +kernel
theorem dX8_countFitting_97 : decode cX8_countFitting 97 = .ok (.aload_n 0, 1) := by decide +kernel
theorem dX8_countFitting_98 : decode cX8_countFitting 98 = .ok (.dup, 1) := by decide +kernel
theorem dX8_countFitting_99 : decode cX8_countFitting 99 = .ok (.getfield 210, 3) := by decide +kernel
theorem dX8_countFitting_102 : decode cX8_countFitting 102 = .ok (.iconst 1, 1) := by decide +kernel
theorem dX8_countFitting_103 : decode cX8_countFitting 103 = .ok (.iadd, 1) := by decide +kernel
theorem dX8_countFitting_104 : decode cX8_countFitting 104 = .ok (.putfield 210, 3) := by decide +kernel
theorem dX8_countFitting_107 : decode cX8_countFitting 107 = .ok (.return_, 1) := by decide +kernel
theorem dX8_layFitting_0 : decode cX8_layFitting 0 = .ok (.aload_n 0, 1) := by decide +kernel
theorem dX8_layFitting_1 : decode cX8_layFitting 1 = .ok (.iconst 0, 1) := by decide +kernel
theorem dX8_layFitting_2 : decode cX8_layFitting 2 = .ok (.putfield 210, 3) := by decide +kernel
theorem dX8_layFitting_5 : decode cX8_layFitting 5 = .ok (.iconst 0, 1) := by decide +kernel
theorem dX8_layFitting_6 : decode cX8_layFitting 6 = .ok (.istore_n 1, 1) := by decide +kernel
theorem dX8_layFitting_7 : decode cX8_layFitting 7 = .ok (.iload_n 1, 1) := by decide +kernel
theorem dX8_layFitting_8 : decode cX8_layFitting 8 = .ok (.iconst 4, 1) := by decide +kernel
theorem dX8_layFitting_9 : decode cX8_layFitting 9 = .ok (.if_icmp .ge 16, 3) := by decide +kernel
theorem dX8_layFitting_12 : decode cX8_layFitting 12 = .ok (.aload_n 0, 1) := by decide +kernel
theorem dX8_layFitting_13 : decode cX8_layFitting 13 = .ok (.getfield 43, 3) := by decide +kernel
theorem dX8_layFitting_16 : decode cX8_layFitting 16 = .ok (.iload_n 1, 1) := by decide +kernel
theorem dX8_layFitting_17 : decode cX8_layFitting 17 = .ok (.iconst 0, 1) := by decide +kernel
theorem dX8_layFitting_18 : decode cX8_layFitting 18 = .ok (.iastore, 1) := by decide +kernel
theorem dX8_layFitting_19 : decode cX8_layFitting 19 = .ok (.iinc 1 1, 3) := by decide +kernel
theorem dX8_layFitting_22 : decode cX8_layFitting 22 = .ok (.goto (-15), 3) := by decide +kernel
theorem dX8_layFitting_25 : decode cX8_layFitting 25 = .ok (.aload_n 0, 1) := by decide +kernel
theorem dX8_layFitting_26 : decode cX8_layFitting 26 = .ok (.invokevirtual 171, 3) := by decide +kernel
theorem dX8_layFitting_29 : decode cX8_layFitting 29 = .ok (.aload_n 0, 1) := by decide +kernel
theorem dX8_layFitting_30 : decode cX8_layFitting 30 = .ok (.getfield 97, 3) := by decide +kernel
theorem dX8_layFitting_33 : decode cX8_layFitting 33 = .ok (.ifCond .le 7, 3) := by decide +kernel
theorem dX8_layFitting_36 : decode cX8_layFitting 36 = .ok (.iconst 1, 1) := by decide +kernel
theorem dX8_layFitting_37 : decode cX8_layFitting 37 = .ok (.goto 4, 3) := by decide +kernel
theorem dX8_layFitting_40 : decode cX8_layFitting 40 = .ok (.iconst 0, 1) := by decide +kernel
theorem dX8_layFitting_41 : decode cX8_layFitting 41 = .ok (.istore_n 1, 1) := by decide +kernel
theorem dX8_layFitting_42 : decode cX8_layFitting 42 = .ok (.iload_n 1, 1) := by decide +kernel
theorem dX8_layFitting_43 : decode cX8_layFitting 43 = .ok (.ifCond .eq 22, 3) := by decide +kernel
theorem dX8_layFitting_46 : decode cX8_layFitting 46 = .ok (.aload_n 0, 1) := by decide +kernel
theorem dX8_layFitting_47 : decode cX8_layFitting 47 = .ok (.invokevirtual 213, 3) := by decide +kernel
theorem dX8_layFitting_50 : decode cX8_layFitting 50 = .ok (.ifCond .eq 7, 3) := by decide +kernel
theorem dX8_layFitting_53 : decode cX8_layFitting 53 = .ok (.aload_n 0, 1) := by decide +kernel
theorem dX8_layFitting_54 : decode cX8_layFitting 54 = .ok (.invokevirtual 216, 3) := by decide +kernel
theorem dX8_layFitting_57 : decode cX8_layFitting 57 = .ok (.aload_n 0, 1) := by decide +kernel
theorem dX8_layFitting_58 : decode cX8_layFitting 58 = .ok (.invokevirtual 177, 3) := by decide +kernel
theorem dX8_layFitting_61 : decode cX8_layFitting 61 = .ok (.istore_n 1, 1) := by decide +kernel
theorem dX8_layFitting_62 : decode cX8_layFitting 62 = .ok (.goto (-20), 3) := by decide +kernel
theorem dX8_layFitting_65 : decode cX8_layFitting 65 = .ok (.return_, 1) := by decide +kernel
theorem dX8_fittingNow_0 : decode cX8_fittingNow 0 = .ok (.aload_n 0, 1) := by decide +kernel
theorem dX8_fittingNow_1 : decode cX8_fittingNow 1 = .ok (.invokevirtual 219, 3) := by decide +kernel
theorem dX8_fittingNow_4 : decode cX8_fittingNow 4 = .ok (.aload_n 0, 1) := by decide +kernel
theorem dX8_fittingNow_5 : decode cX8_fittingNow 5 = .ok (.getfield 210, 3) := by decide +kernel
theorem dX8_fittingNow_8 : decode cX8_fittingNow 8 = .ok (.ireturn, 1) := by decide +kernel
theorem dX8_fitting_0 : decode cX8_fitting 0 = .ok (.aload_n 0, 1) := by decide +kernel
theorem dX8_fitting_1 : decode cX8_fitting 1 = .ok (.invokevirtual 222, 3) := by decide +kernel
theorem dX8_fitting_4 : decode cX8_fitting 4 = .ok (.ireturn, 1) := by decide +kernel
theorem dX8_mayNow_0 : decode cX8_mayNow 0 = .ok (.aload_n 0, 1) := by decide +kernel
theorem dX8_mayNow_1 : decode cX8_mayNow 1 = .ok (.invokevirtual 219, 3) := by decide +kernel
theorem dX8_mayNow_4 : decode cX8_mayNow 4 = .ok (.aload_n 0, 1) := by decide +kernel
theorem dX8_mayNow_5 : decode cX8_mayNow 5 = .ok (.getfield 43, 3) := by decide +kernel
theorem dX8_mayNow_8 : decode cX8_mayNow 8 = .ok (.iload_n 1, 1) := by decide +kernel
theorem dX8_mayNow_9 : decode cX8_mayNow 9 = .ok (.iaload, 1) := by decide +kernel
theorem dX8_mayNow_10 : decode cX8_mayNow 10 = .ok (.ireturn, 1) := by decide +kernel
theorem dX8_may_0 : decode cX8_may 0 = .ok (.aload_n 0, 1) := by decide +kernel
theorem dX8_may_1 : decode cX8_may 1 = .ok (.iload_n 1, 1) := by decide +kernel
theorem dX8_may_2 : decode cX8_may 2 = .ok (.invokevirtual 207, 3) := by decide +kernel
theorem dX8_may_5 : decode cX8_may 5 = .ok (.ifCond .eq 11, 3) := by decide +kernel
theorem dX8_may_8 : decode cX8_may 8 = .ok (.aload_n 0, 1) := by decide +kernel
theorem dX8_may_9 : decode cX8_may 9 = .ok (.iload_n 1, 1) := by decide +kernel
theorem dX8_may_10 : decode cX8_may 10 = .ok (.invokevirtual 225, 3) := by decide +kernel
theorem dX8_may_13 : decode cX8_may 13 = .ok (.goto 5, 3) := by decide +kernel
theorem dX8_may_16 : decode cX8_may 16 = .ok (.bipush (-101), 2) := by decide +kernel
theorem dX8_may_18 : decode cX8_may 18 = .ok (.ireturn, 1) := by decide +kernel
theorem dX8_sureNow_0 : decode cX8_sureNow 0 = .ok (.aload_n 0, 1) := by decide +kernel
theorem dX8_sureNow_1 : decode cX8_sureNow 1 = .ok (.getfield 46, 3) := by decide +kernel
theorem dX8_sureNow_4 : decode cX8_sureNow 4 = .ok (.iconst 4, 1) := by decide +kernel
theorem dX8_sureNow_5 : decode cX8_sureNow 5 = .ok (.iload_n 1, 1) := by decide +kernel
theorem dX8_sureNow_6 : decode cX8_sureNow 6 = .ok (.imul, 1) := by decide +kernel
theorem dX8_sureNow_7 : decode cX8_sureNow 7 = .ok (.iload_n 2, 1) := by decide +kernel
theorem dX8_sureNow_8 : decode cX8_sureNow 8 = .ok (.iadd, 1) := by decide +kernel
theorem dX8_sureNow_9 : decode cX8_sureNow 9 = .ok (.iaload, 1) := by decide +kernel
theorem dX8_sureNow_10 : decode cX8_sureNow 10 = .ok (.istore_n 3, 1) := by decide +kernel
theorem dX8_sureNow_11 : decode cX8_sureNow 11 = .ok (.iload_n 3, 1) := by decide +kernel
theorem dX8_sureNow_12 : decode cX8_sureNow 12 = .ok (.ifCond .ne 7, 3) := by decide +kernel
theorem dX8_sureNow_15 : decode cX8_sureNow 15 = .ok (.iconst (-1), 1) := by decide +kernel
theorem dX8_sureNow_16 : decode cX8_sureNow 16 = .ok (.goto 4, 3) := by decide +kernel
theorem dX8_sureNow_19 : decode cX8_sureNow 19 = .ok (.iload_n 3, 1) := by decide +kernel
theorem dX8_sureNow_20 : decode cX8_sureNow 20 = .ok (.ireturn, 1) := by decide +kernel
theorem dX8_sure_0 : decode cX8_sure 0 = .ok (.aload_n 0, 1) := by decide +kernel
theorem dX8_sure_1 : decode cX8_sure 1 = .ok (.iload_n 1, 1) := by decide +kernel
theorem dX8_sure_2 : decode cX8_sure 2 = .ok (.invokevirtual 207, 3) := by decide +kernel
theorem dX8_sure_5 : decode cX8_sure 5 = .ok (.ifCond .eq 11, 3) := by decide +kernel
theorem dX8_sure_8 : decode cX8_sure 8 = .ok (.aload_n 0, 1) := by decide +kernel
theorem dX8_sure_9 : decode cX8_sure 9 = .ok (.iload_n 2, 1) := by decide +kernel
theorem dX8_sure_10 : decode cX8_sure 10 = .ok (.invokevirtual 207, 3) := by decide +kernel
theorem dX8_sure_13 : decode cX8_sure 13 = .ok (.ifCond .ne 6, 3) := by decide +kernel
theorem dX8_sure_16 : decode cX8_sure 16 = .ok (.bipush (-101), 2) := by decide +kernel
theorem dX8_sure_18 : decode cX8_sure 18 = .ok (.ireturn, 1) := by decide +kernel
theorem dX8_sure_19 : decode cX8_sure 19 = .ok (.aload_n 0, 1) := by decide +kernel
theorem dX8_sure_20 : decode cX8_sure 20 = .ok (.invokevirtual 219, 3) := by decide +kernel
theorem dX8_sure_23 : decode cX8_sure 23 = .ok (.aload_n 0, 1) := by decide +kernel
theorem dX8_sure_24 : decode cX8_sure 24 = .ok (.getfield 210, 3) := by decide +kernel
theorem dX8_sure_27 : decode cX8_sure 27 = .ok (.ifCond .ne 8, 3) := by decide +kernel
theorem dX8_sure_30 : decode cX8_sure 30 = .ok (.bipush (-103), 2) := by decide +kernel
theorem dX8_sure_32 : decode cX8_sure 32 = .ok (.goto 9, 3) := by decide +kernel
theorem dX8_sure_35 : decode cX8_sure 35 = .ok (.aload_n 0, 1) := by decide +kernel
theorem dX8_sure_36 : decode cX8_sure 36 = .ok (.iload_n 1, 1) := by decide +kernel
theorem dX8_sure_37 : decode cX8_sure 37 = .ok (.iload_n 2, 1) := by decide +kernel
theorem dX8_sure_38 : decode cX8_sure 38 = .ok (.invokevirtual 228, 3) := by decide +kernel
theorem dX8_sure_41 : decode cX8_sure 41 = .ok (.ireturn, 1) := by decide +kernel
theorem dX8_beginOfColumn_0 : decode cX8_beginOfColumn 0 = .ok (.iconst 0, 1) := by decide +kernel
theorem dX8_beginOfColumn_1 : decode cX8_beginOfColumn 1 = .ok (.istore_n 3, 1) := by decide +kernel
theorem dX8_beginOfColumn_2 : decode cX8_beginOfColumn 2 = .ok (.iload_n 3, 1) := by decide +kernel
theorem dX8_beginOfColumn_3 : decode cX8_beginOfColumn 3 = .ok (.aload_n 0, 1) := by decide +kernel
theorem dX8_beginOfColumn_4 : decode cX8_beginOfColumn 4 = .ok (.getfield 97, 3) := by decide +kernel
theorem dX8_beginOfColumn_7 : decode cX8_beginOfColumn 7 = .ok (.if_icmp .ge 68, 3) := by decide +kernel
theorem dX8_beginOfColumn_10 : decode cX8_beginOfColumn 10 = .ok (.iconst 1, 1) := by decide +kernel
theorem dX8_beginOfColumn_11 : decode cX8_beginOfColumn 11 = .ok (.istore 4, 2) := by decide +kernel
theorem dX8_beginOfColumn_13 : decode cX8_beginOfColumn 13 = .ok (.iconst 0, 1) := by decide +kernel
theorem dX8_beginOfColumn_14 : decode cX8_beginOfColumn 14 = .ok (.istore 5, 2) := by decide +kernel
theorem dX8_beginOfColumn_16 : decode cX8_beginOfColumn 16 = .ok (.iload 5, 2) := by decide +kernel
theorem dX8_beginOfColumn_18 : decode cX8_beginOfColumn 18 = .ok (.iload_n 2, 1) := by decide +kernel
theorem dX8_beginOfColumn_19 : decode cX8_beginOfColumn 19 = .ok (.if_icmp .ge 43, 3) := by decide +kernel
theorem dX8_beginOfColumn_22 : decode cX8_beginOfColumn 22 = .ok (.iload 4, 2) := by decide +kernel
theorem dX8_beginOfColumn_24 : decode cX8_beginOfColumn 24 = .ok (.ifCond .eq 38, 3) := by decide +kernel
theorem dX8_beginOfColumn_27 : decode cX8_beginOfColumn 27 = .ok (.aload_n 0, 1) := by decide +kernel
theorem dX8_beginOfColumn_28 : decode cX8_beginOfColumn 28 = .ok (.aload_n 0, 1) := by decide +kernel
theorem dX8_beginOfColumn_29 : decode cX8_beginOfColumn 29 = .ok (.getfield 25, 3) := by decide +kernel
theorem dX8_beginOfColumn_32 : decode cX8_beginOfColumn 32 = .ok (.iload 5, 2) := by decide +kernel
theorem dX8_beginOfColumn_34 : decode cX8_beginOfColumn 34 = .ok (.iaload, 1) := by decide +kernel
theorem dX8_beginOfColumn_35 : decode cX8_beginOfColumn 35 = .ok (.iload_n 1, 1) := by decide +kernel
theorem dX8_beginOfColumn_36 : decode cX8_beginOfColumn 36 = .ok (.invokevirtual 130, 3) := by decide +kernel
theorem dX8_beginOfColumn_39 : decode cX8_beginOfColumn 39 = .ok (.aload_n 0, 1) := by decide +kernel
theorem dX8_beginOfColumn_40 : decode cX8_beginOfColumn 40 = .ok (.iload_n 3, 1) := by decide +kernel
theorem dX8_beginOfColumn_41 : decode cX8_beginOfColumn 41 = .ok (.iload 5, 2) := by decide +kernel
theorem dX8_beginOfColumn_43 : decode cX8_beginOfColumn 43 = .ok (.invokevirtual 130, 3) := by decide +kernel
theorem dX8_beginOfColumn_46 : decode cX8_beginOfColumn 46 = .ok (.if_icmp .ne 7, 3) := by decide +kernel
theorem dX8_beginOfColumn_49 : decode cX8_beginOfColumn 49 = .ok (.iconst 1, 1) := by decide +kernel
theorem dX8_beginOfColumn_50 : decode cX8_beginOfColumn 50 = .ok (.goto 4, 3) := by decide +kernel
theorem dX8_beginOfColumn_53 : decode cX8_beginOfColumn 53 = .ok (.iconst 0, 1) := by decide +kernel
theorem dX8_beginOfColumn_54 : decode cX8_beginOfColumn 54 = .ok (.istore 4, 2) := by decide +kernel
theorem dX8_beginOfColumn_56 : decode cX8_beginOfColumn 56 = .ok (.iinc 5 1, 3) := by decide +kernel
theorem dX8_beginOfColumn_59 : decode cX8_beginOfColumn 59 = .ok (.goto (-43), 3) := by decide +kernel
theorem dX8_beginOfColumn_62 : decode cX8_beginOfColumn 62 = .ok (.iload 4, 2) := by decide +kernel
theorem dX8_beginOfColumn_64 : decode cX8_beginOfColumn 64 = .ok (.ifCond .eq 5, 3) := by decide +kernel
theorem dX8_beginOfColumn_67 : decode cX8_beginOfColumn 67 = .ok (.iload_n 3, 1) := by decide +kernel
theorem dX8_beginOfColumn_68 : decode cX8_beginOfColumn 68 = .ok (.ireturn, 1) := by decide +kernel
theorem dX8_beginOfColumn_69 : decode cX8_beginOfColumn 69 = .ok (.iinc 3 1, 3) := by decide +kernel
theorem dX8_beginOfColumn_72 : decode cX8_beginOfColumn 72 = .ok (.goto (-70), 3) := by decide +kernel
theorem dX8_beginOfColumn_75 : decode cX8_beginOfColumn 75 = .ok (.iconst (-1), 1) := by decide +kernel
theorem dX8_beginOfColumn_76 : decode cX8_beginOfColumn 76 = .ok (.ireturn, 1) := by decide +kernel
theorem dX8_isState_0 : decode cX8_isState 0 = .ok (.iconst 1, 1) := by decide +kernel
theorem dX8_isState_1 : decode cX8_isState 1 = .ok (.istore_n 2, 1) := by decide +kernel
theorem dX8_isState_2 : decode cX8_isState 2 = .ok (.iconst 0, 1) := by decide +kernel
theorem dX8_isState_3 : decode cX8_isState 3 = .ok (.istore_n 3, 1) := by decide +kernel
theorem dX8_isState_4 : decode cX8_isState 4 = .ok (.iload_n 3, 1) := by decide +kernel
theorem dX8_isState_5 : decode cX8_isState 5 = .ok (.aload_n 0, 1) := by decide +kernel
theorem dX8_isState_6 : decode cX8_isState 6 = .ok (.getfield 100, 3) := by decide +kernel
theorem dX8_isState_9 : decode cX8_isState 9 = .ok (.if_icmp .ge 41, 3) := by decide +kernel
theorem dX8_isState_12 : decode cX8_isState 12 = .ok (.iload_n 2, 1) := by decide +kernel
theorem dX8_isState_13 : decode cX8_isState 13 = .ok (.ifCond .eq 37, 3) := by decide +kernel
theorem dX8_isState_16 : decode cX8_isState 16 = .ok (.aload_n 0, 1) := by decide +kernel
theorem dX8_isState_17 : decode cX8_isState 17 = .ok (.getfield 56, 3) := by decide +kernel
theorem dX8_isState_20 : decode cX8_isState 20 = .ok (.iload_n 3, 1) := by decide +kernel
theorem dX8_isState_21 : decode cX8_isState 21 = .ok (.aload_n 0, 1) := by decide +kernel
theorem dX8_isState_22 : decode cX8_isState 22 = .ok (.iload_n 3, 1) := by decide +kernel
theorem dX8_isState_23 : decode cX8_isState 23 = .ok (.iload_n 1, 1) := by decide +kernel
theorem dX8_isState_24 : decode cX8_isState 24 = .ok (.invokevirtual 231, 3) := by decide +kernel
theorem dX8_isState_27 : decode cX8_isState 27 = .ok (.iastore, 1) := by decide +kernel
theorem dX8_isState_28 : decode cX8_isState 28 = .ok (.aload_n 0, 1) := by decide +kernel
theorem dX8_isState_29 : decode cX8_isState 29 = .ok (.getfield 56, 3) := by decide +kernel
theorem dX8_isState_32 : decode cX8_isState 32 = .ok (.iload_n 3, 1) := by decide +kernel
theorem dX8_isState_33 : decode cX8_isState 33 = .ok (.iaload, 1) := by decide +kernel
theorem dX8_isState_34 : decode cX8_isState 34 = .ok (.iconst (-1), 1) := by decide +kernel
theorem dX8_isState_35 : decode cX8_isState 35 = .ok (.if_icmp .eq 7, 3) := by decide +kernel
theorem dX8_isState_38 : decode cX8_isState 38 = .ok (.iconst 1, 1) := by decide +kernel
theorem dX8_isState_39 : decode cX8_isState 39 = .ok (.goto 4, 3) := by decide +kernel
theorem dX8_isState_42 : decode cX8_isState 42 = .ok (.iconst 0, 1) := by decide +kernel
theorem dX8_isState_43 : decode cX8_isState 43 = .ok (.istore_n 2, 1) := by decide +kernel
theorem dX8_isState_44 : decode cX8_isState 44 = .ok (.iinc 3 1, 3) := by decide +kernel
theorem dX8_isState_47 : decode cX8_isState 47 = .ok (.goto (-43), 3) := by decide +kernel
theorem dX8_isState_50 : decode cX8_isState 50 = .ok (.iload_n 2, 1) := by decide +kernel
theorem dX8_isState_51 : decode cX8_isState 51 = .ok (.ireturn, 1) := by decide +kernel
theorem dX8_hasRest_0 : decode cX8_hasRest 0 = .ok (.iconst 0, 1) := by decide +kernel
theorem dX8_hasRest_1 : decode cX8_hasRest 1 = .ok (.istore 4, 2) := by decide +kernel
theorem dX8_hasRest_3 : decode cX8_hasRest 3 = .ok (.iconst 0, 1) := by decide +kernel
theorem dX8_hasRest_4 : decode cX8_hasRest 4 = .ok (.istore 5, 2) := by decide +kernel
theorem dX8_hasRest_6 : decode cX8_hasRest 6 = .ok (.iload 5, 2) := by decide +kernel
theorem dX8_hasRest_8 : decode cX8_hasRest 8 = .ok (.aload_n 0, 1) := by decide +kernel
theorem dX8_hasRest_9 : decode cX8_hasRest 9 = .ok (.getfield 97, 3) := by decide +kernel
theorem dX8_hasRest_12 : decode cX8_hasRest 12 = .ok (.if_icmp .ge 92, 3) := by decide +kernel
theorem dX8_hasRest_15 : decode cX8_hasRest 15 = .ok (.aload_n 0, 1) := by decide +kernel
theorem dX8_hasRest_16 : decode cX8_hasRest 16 = .ok (.iload_n 1, 1) := by decide +kernel
theorem dX8_hasRest_17 : decode cX8_hasRest 17 = .ok (.iload 5, 2) := by decide +kernel
theorem dX8_hasRest_19 : decode cX8_hasRest 19 = .ok (.invokevirtual 134, 3) := by decide +kernel
theorem dX8_hasRest_22 : decode cX8_hasRest 22 = .ok (.iload_n 2, 1) := by decide +kernel
theorem dX8_hasRest_23 : decode cX8_hasRest 23 = .ok (.if_icmp .lt 7, 3) := by decide +kernel
theorem dX8_hasRest_26 : decode cX8_hasRest 26 = .ok (.iconst 1, 1) := by decide +kernel
theorem dX8_hasRest_27 : decode cX8_hasRest 27 = .ok (.goto 4, 3) := by decide +kernel
theorem dX8_hasRest_30 : decode cX8_hasRest 30 = .ok (.iconst 0, 1) := by decide +kernel
theorem dX8_hasRest_31 : decode cX8_hasRest 31 = .ok (.istore 6, 2) := by decide +kernel
theorem dX8_hasRest_33 : decode cX8_hasRest 33 = .ok (.iload_n 2, 1) := by decide +kernel
theorem dX8_hasRest_34 : decode cX8_hasRest 34 = .ok (.istore 7, 2) := by decide +kernel
theorem dX8_hasRest_36 : decode cX8_hasRest 36 = .ok (.iload 7, 2) := by decide +kernel
theorem dX8_hasRest_38 : decode cX8_hasRest 38 = .ok (.aload_n 0, 1) := by decide +kernel
theorem dX8_hasRest_39 : decode cX8_hasRest 39 = .ok (.getfield 100, 3) := by decide +kernel
theorem dX8_hasRest_42 : decode cX8_hasRest 42 = .ok (.if_icmp .ge 39, 3) := by decide +kernel
theorem dX8_hasRest_45 : decode cX8_hasRest 45 = .ok (.iload 6, 2) := by decide +kernel
theorem dX8_hasRest_47 : decode cX8_hasRest 47 = .ok (.ifCond .eq 25, 3) := by decide +kernel
theorem dX8_hasRest_50 : decode cX8_hasRest 50 = .ok (.aload_n 0, 1) := by decide +kernel
theorem dX8_hasRest_51 : decode cX8_hasRest 51 = .ok (.iload 5, 2) := by decide +kernel
theorem dX8_hasRest_53 : decode cX8_hasRest 53 = .ok (.iload 7, 2) := by decide +kernel
theorem dX8_hasRest_55 : decode cX8_hasRest 55 = .ok (.invokevirtual 130, 3) := by decide +kernel
theorem dX8_hasRest_58 : decode cX8_hasRest 58 = .ok (.aload_n 0, 1) := by decide +kernel
theorem dX8_hasRest_59 : decode cX8_hasRest 59 = .ok (.iload_n 3, 1) := by decide +kernel
theorem dX8_hasRest_60 : decode cX8_hasRest 60 = .ok (.iload 7, 2) := by decide +kernel
theorem dX8_hasRest_62 : decode cX8_hasRest 62 = .ok (.invokevirtual 130, 3) := by decide +kernel
theorem dX8_hasRest_65 : decode cX8_hasRest 65 = .ok (.if_icmp .ne 7, 3) := by decide +kernel
theorem dX8_hasRest_68 : decode cX8_hasRest 68 = .ok (.iconst 1, 1) := by decide +kernel
theorem dX8_hasRest_69 : decode cX8_hasRest 69 = .ok (.goto 4, 3) := by decide +kernel
theorem dX8_hasRest_72 : decode cX8_hasRest 72 = .ok (.iconst 0, 1) := by decide +kernel
theorem dX8_hasRest_73 : decode cX8_hasRest 73 = .ok (.istore 6, 2) := by decide +kernel
theorem dX8_hasRest_75 : decode cX8_hasRest 75 = .ok (.iinc 7 1, 3) := by decide +kernel
theorem dX8_hasRest_78 : decode cX8_hasRest 78 = .ok (.goto (-42), 3) := by decide +kernel
theorem dX8_hasRest_81 : decode cX8_hasRest 81 = .ok (.iload 4, 2) := by decide +kernel
theorem dX8_hasRest_83 : decode cX8_hasRest 83 = .ok (.ifCond .ne 8, 3) := by decide +kernel
theorem dX8_hasRest_86 : decode cX8_hasRest 86 = .ok (.iload 6, 2) := by decide +kernel
theorem dX8_hasRest_88 : decode cX8_hasRest 88 = .ok (.ifCond .eq 7, 3) := by decide +kernel
theorem dX8_hasRest_91 : decode cX8_hasRest 91 = .ok (.iconst 1, 1) := by decide +kernel
theorem dX8_hasRest_92 : decode cX8_hasRest 92 = .ok (.goto 4, 3) := by decide +kernel
theorem dX8_hasRest_95 : decode cX8_hasRest 95 = .ok (.iconst 0, 1) := by decide +kernel
theorem dX8_hasRest_96 : decode cX8_hasRest 96 = .ok (.istore 4, 2) := by decide +kernel
theorem dX8_hasRest_98 : decode cX8_hasRest 98 = .ok (.iinc 5 1, 3) := by decide +kernel
theorem dX8_hasRest_101 : decode cX8_hasRest 101 = .ok (.goto (-95), 3) := by decide +kernel
theorem dX8_hasRest_104 : decode cX8_hasRest 104 = .ok (.iload 4, 2) := by decide +kernel
theorem dX8_hasRest_106 : decode cX8_hasRest 106 = .ok (.ireturn, 1) := by decide +kernel
theorem dX8_hasAllRests_0 : decode cX8_hasAllRests 0 = .ok (.iconst 1, 1) := by decide +kernel
theorem dX8_hasAllRests_1 : decode cX8_hasAllRests 1 = .ok (.istore 4, 2) := by decide +kernel
theorem dX8_hasAllRests_3 : decode cX8_hasAllRests 3 = .ok (.iconst 0, 1) := by decide +kernel
theorem dX8_hasAllRests_4 : decode cX8_hasAllRests 4 = .ok (.istore 5, 2) := by decide +kernel
theorem dX8_hasAllRests_6 : decode cX8_hasAllRests 6 = .ok (.iload 5, 2) := by decide +kernel
theorem dX8_hasAllRests_8 : decode cX8_hasAllRests 8 = .ok (.aload_n 0, 1) := by decide +kernel
theorem dX8_hasAllRests_9 : decode cX8_hasAllRests 9 = .ok (.getfield 97, 3) := by decide +kernel
theorem dX8_hasAllRests_12 : decode cX8_hasAllRests 12 = .ok (.if_icmp .ge 43, 3) := by decide +kernel
theorem dX8_hasAllRests_15 : decode cX8_hasAllRests 15 = .ok (.iload 4, 2) := by decide +kernel
theorem dX8_hasAllRests_17 : decode cX8_hasAllRests 17 = .ok (.ifCond .eq 29, 3) := by decide +kernel
theorem dX8_hasAllRests_20 : decode cX8_hasAllRests 20 = .ok (.aload_n 0, 1) := by decide +kernel
theorem dX8_hasAllRests_21 : decode cX8_hasAllRests 21 = .ok (.iload_n 2, 1) := by decide +kernel
theorem dX8_hasAllRests_22 : decode cX8_hasAllRests 22 = .ok (.iload 5, 2) := by decide +kernel
theorem dX8_hasAllRests_24 : decode cX8_hasAllRests 24 = .ok (.invokevirtual 134, 3) := by decide +kernel
theorem dX8_hasAllRests_27 : decode cX8_hasAllRests 27 = .ok (.iload_n 3, 1) := by decide +kernel
theorem dX8_hasAllRests_28 : decode cX8_hasAllRests 28 = .ok (.if_icmp .lt 14, 3) := by decide +kernel
theorem dX8_hasAllRests_31 : decode cX8_hasAllRests 31 = .ok (.aload_n 0, 1) := by decide +kernel
theorem dX8_hasAllRests_32 : decode cX8_hasAllRests 32 = .ok (.iload_n 1, 1) := by decide +kernel
theorem dX8_hasAllRests_33 : decode cX8_hasAllRests 33 = .ok (.iload_n 3, 1) := by decide +kernel
theorem dX8_hasAllRests_34 : decode cX8_hasAllRests 34 = .ok (.iload 5, 2) := by decide +kernel
theorem dX8_hasAllRests_36 : decode cX8_hasAllRests 36 = .ok (.invokevirtual 234, 3) := by decide +kernel
theorem dX8_hasAllRests_39 : decode cX8_hasAllRests 39 = .ok (.ifCond .eq 7, 3) := by decide +kernel
theorem dX8_hasAllRests_42 : decode cX8_hasAllRests 42 = .ok (.iconst 1, 1) := by decide +kernel
theorem dX8_hasAllRests_43 : decode cX8_hasAllRests 43 = .ok (.goto 4, 3) := by decide +kernel
theorem dX8_hasAllRests_46 : decode cX8_hasAllRests 46 = .ok (.iconst 0, 1) := by decide +kernel
theorem dX8_hasAllRests_47 : decode cX8_hasAllRests 47 = .ok (.istore 4, 2) := by decide +kernel
theorem dX8_hasAllRests_49 : decode cX8_hasAllRests 49 = .ok (.iinc 5 1, 3) := by decide +kernel
theorem dX8_hasAllRests_52 : decode cX8_hasAllRests 52 = .ok (.goto (-46), 3) := by decide +kernel
theorem dX8_hasAllRests_55 : decode cX8_hasAllRests 55 = .ok (.iload 4, 2) := by decide +kernel
theorem dX8_hasAllRests_57 : decode cX8_hasAllRests 57 = .ok (.ireturn, 1) := by decide +kernel
theorem dX8_likeOf_0 : decode cX8_likeOf 0 = .ok (.iconst 0, 1) := by decide +kernel
theorem dX8_likeOf_1 : decode cX8_likeOf 1 = .ok (.istore_n 3, 1) := by decide +kernel
theorem dX8_likeOf_2 : decode cX8_likeOf 2 = .ok (.aload_n 0, 1) := by decide +kernel
theorem dX8_likeOf_3 : decode cX8_likeOf 3 = .ok (.iload_n 3, 1) := by decide +kernel
theorem dX8_likeOf_4 : decode cX8_likeOf 4 = .ok (.iload_n 1, 1) := by decide +kernel
theorem dX8_likeOf_5 : decode cX8_likeOf 5 = .ok (.iload_n 2, 1) := by decide +kernel
theorem dX8_likeOf_6 : decode cX8_likeOf 6 = .ok (.invokevirtual 237, 3) := by decide +kernel
theorem dX8_likeOf_9 : decode cX8_likeOf 9 = .ok (.ifCond .eq 13, 3) := by decide +kernel
theorem dX8_likeOf_12 : decode cX8_likeOf 12 = .ok (.aload_n 0, 1) := by decide +kernel
theorem dX8_likeOf_13 : decode cX8_likeOf 13 = .ok (.iload_n 1, 1) := by decide +kernel
theorem dX8_likeOf_14 : decode cX8_likeOf 14 = .ok (.iload_n 3, 1) := by decide +kernel
theorem dX8_likeOf_15 : decode cX8_likeOf 15 = .ok (.iload_n 2, 1) := by decide +kernel
theorem dX8_likeOf_16 : decode cX8_likeOf 16 = .ok (.invokevirtual 237, 3) := by decide +kernel
theorem dX8_likeOf_19 : decode cX8_likeOf 19 = .ok (.ifCond .ne 9, 3) := by decide +kernel
theorem dX8_likeOf_22 : decode cX8_likeOf 22 = .ok (.iinc 3 1, 3) := by decide +kernel
theorem dX8_likeOf_25 : decode cX8_likeOf 25 = .ok (.goto (-23), 3) := by decide +kernel
theorem dX8_likeOf_28 : decode cX8_likeOf 28 = .ok (.iload_n 3, 1) := by decide +kernel
theorem dX8_likeOf_29 : decode cX8_likeOf 29 = .ok (.ireturn, 1) := by decide +kernel
theorem dX8_keyOf_0 : decode cX8_keyOf 0 = .ok (.iload_n 1, 1) := by decide +kernel
theorem dX8_keyOf_1 : decode cX8_keyOf 1 = .ok (.istore_n 2, 1) := by decide +kernel
theorem dX8_keyOf_2 : decode cX8_keyOf 2 = .ok (.iconst 0, 1) := by decide +kernel
theorem dX8_keyOf_3 : decode cX8_keyOf 3 = .ok (.istore_n 3, 1) := by decide +kernel
theorem dX8_keyOf_4 : decode cX8_keyOf 4 = .ok (.iload_n 3, 1) := by decide +kernel
theorem dX8_keyOf_5 : decode cX8_keyOf 5 = .ok (.aload_n 0, 1) := by decide +kernel
theorem dX8_keyOf_6 : decode cX8_keyOf 6 = .ok (.getfield 100, 3) := by decide +kernel
theorem dX8_keyOf_9 : decode cX8_keyOf 9 = .ok (.if_icmp .ge 34, 3) := by decide +kernel
theorem dX8_keyOf_12 : decode cX8_keyOf 12 = .ok (.bipush 16, 2) := by decide +kernel
theorem dX8_keyOf_14 : decode cX8_keyOf 14 = .ok (.iload_n 2, 1) := by decide +kernel
theorem dX8_keyOf_15 : decode cX8_keyOf 15 = .ok (.imul, 1) := by decide +kernel
theorem dX8_keyOf_16 : decode cX8_keyOf 16 = .ok (.iload_n 1, 1) := by decide +kernel
theorem dX8_keyOf_17 : decode cX8_keyOf 17 = .ok (.ifCond .ne 7, 3) := by decide +kernel
theorem dX8_keyOf_20 : decode cX8_keyOf 20 = .ok (.iconst 0, 1) := by decide +kernel
theorem dX8_keyOf_21 : decode cX8_keyOf 21 = .ok (.goto 14, 3) := by decide +kernel
theorem dX8_keyOf_24 : decode cX8_keyOf 24 = .ok (.aload_n 0, 1) := by decide +kernel
theorem dX8_keyOf_25 : decode cX8_keyOf 25 = .ok (.aload_n 0, 1) := by decide +kernel
theorem dX8_keyOf_26 : decode cX8_keyOf 26 = .ok (.getfield 56, 3) := by decide +kernel
theorem dX8_keyOf_29 : decode cX8_keyOf 29 = .ok (.iload_n 3, 1) := by decide +kernel
theorem dX8_keyOf_30 : decode cX8_keyOf 30 = .ok (.iaload, 1) := by decide +kernel
theorem dX8_keyOf_31 : decode cX8_keyOf 31 = .ok (.iload_n 1, 1) := by decide +kernel
theorem dX8_keyOf_32 : decode cX8_keyOf 32 = .ok (.invokevirtual 240, 3) := by decide +kernel
theorem dX8_keyOf_35 : decode cX8_keyOf 35 = .ok (.iadd, 1) := by decide +kernel
theorem dX8_keyOf_36 : decode cX8_keyOf 36 = .ok (.istore_n 2, 1) := by decide +kernel
theorem dX8_keyOf_37 : decode cX8_keyOf 37 = .ok (.iinc 3 1, 3) := by decide +kernel
theorem dX8_keyOf_40 : decode cX8_keyOf 40 = .ok (.goto (-36), 3) := by decide +kernel
theorem dX8_keyOf_43 : decode cX8_keyOf 43 = .ok (.iload_n 2, 1) := by decide +kernel
theorem dX8_keyOf_44 : decode cX8_keyOf 44 = .ok (.ireturn, 1) := by decide +kernel
theorem dX8_isKept_0 : decode cX8_isKept 0 = .ok (.iconst 0, 1) := by decide +kernel
theorem dX8_isKept_1 : decode cX8_isKept 1 = .ok (.istore_n 2, 1) := by decide +kernel
theorem dX8_isKept_2 : decode cX8_isKept 2 = .ok (.iconst 0, 1) := by decide +kernel
theorem dX8_isKept_3 : decode cX8_isKept 3 = .ok (.istore_n 3, 1) := by decide +kernel
theorem dX8_isKept_4 : decode cX8_isKept 4 = .ok (.iload_n 3, 1) := by decide +kernel
theorem dX8_isKept_5 : decode cX8_isKept 5 = .ok (.aload_n 0, 1) := by decide +kernel
theorem dX8_isKept_6 : decode cX8_isKept 6 = .ok (.getfield 243, 3) := by decide +kernel
theorem dX8_isKept_9 : decode cX8_isKept 9 = .ok (.if_icmp .ge 29, 3) := by decide +kernel
theorem dX8_isKept_12 : decode cX8_isKept 12 = .ok (.iload_n 2, 1) := by decide +kernel
theorem dX8_isKept_13 : decode cX8_isKept 13 = .ok (.ifCond .ne 13, 3) := by decide +kernel
theorem dX8_isKept_16 : decode cX8_isKept 16 = .ok (.aload_n 0, 1) := by decide +kernel
theorem dX8_isKept_17 : decode cX8_isKept 17 = .ok (.getfield 59, 3) := by decide +kernel
theorem dX8_isKept_20 : decode cX8_isKept 20 = .ok (.iload_n 3, 1) := by decide +kernel
theorem dX8_isKept_21 : decode cX8_isKept 21 = .ok (.iaload, 1) := by decide +kernel
theorem dX8_isKept_22 : decode cX8_isKept 22 = .ok (.iload_n 1, 1) := by decide +kernel
theorem dX8_isKept_23 : decode cX8_isKept 23 = .ok (.if_icmp .ne 7, 3) := by decide +kernel
theorem dX8_isKept_26 : decode cX8_isKept 26 = .ok (.iconst 1, 1) := by decide +kernel
theorem dX8_isKept_27 : decode cX8_isKept 27 = .ok (.goto 4, 3) := by decide +kernel
theorem dX8_isKept_30 : decode cX8_isKept 30 = .ok (.iconst 0, 1) := by decide +kernel
theorem dX8_isKept_31 : decode cX8_isKept 31 = .ok (.istore_n 2, 1) := by decide +kernel
theorem dX8_isKept_32 : decode cX8_isKept 32 = .ok (.iinc 3 1, 3) := by decide +kernel
theorem dX8_isKept_35 : decode cX8_isKept 35 = .ok (.goto (-31), 3) := by decide +kernel
theorem dX8_isKept_38 : decode cX8_isKept 38 = .ok (.iload_n 2, 1) := by decide +kernel
theorem dX8_isKept_39 : decode cX8_isKept 39 = .ok (.ireturn, 1) := by decide +kernel
theorem dX8_leave_0 : decode cX8_leave 0 = .ok (.aload_n 0, 1) := by decide +kernel
theorem dX8_leave_1 : decode cX8_leave 1 = .ok (.getfield 52, 3) := by decide +kernel
theorem dX8_leave_4 : decode cX8_leave 4 = .ok (.iload_n 1, 1) := by decide +kernel
theorem dX8_leave_5 : decode cX8_leave 5 = .ok (.baload, 1) := by decide +kernel
theorem dX8_leave_6 : decode cX8_leave 6 = .ok (.ifCond .eq 17, 3) := by decide +kernel
theorem dX8_leave_9 : decode cX8_leave 9 = .ok (.iload_n 1, 1) := by decide +kernel
theorem dX8_leave_10 : decode cX8_leave 10 = .ok (.ifCond .le 12, 3) := by decide +kernel
theorem dX8_leave_13 : decode cX8_leave 13 = .ok (.aload_n 0, 1) := by decide +kernel
theorem dX8_leave_14 : decode cX8_leave 14 = .ok (.getfield 52, 3) := by decide +kernel
theorem dX8_leave_17 : decode cX8_leave 17 = .ok (.iload_n 1, 1) := by decide +kernel
theorem dX8_leave_18 : decode cX8_leave 18 = .ok (.iconst 1, 1) := by decide +kernel
theorem dX8_leave_19 : decode cX8_leave 19 = .ok (.isub, 1) := by decide +kernel
theorem dX8_leave_20 : decode cX8_leave 20 = .ok (.iconst 1, 1) := by decide +kernel
theorem dX8_leave_21 : decode cX8_leave 21 = .ok (.bastore, 1) := by decide +kernel
theorem dX8_leave_22 : decode cX8_leave 22 = .ok (.return_, 1) := by decide +kernel
theorem dX8_leave_23 : decode cX8_leave 23 = .ok (.aload_n 0, 1) := by decide +kernel
theorem dX8_leave_24 : decode cX8_leave 24 = .ok (.dup, 1) := by decide +kernel
theorem dX8_leave_25 : decode cX8_leave 25 = .ok (.getfield 246, 3) := by decide +kernel
theorem dX8_leave_28 : decode cX8_leave 28 = .ok (.iconst 1, 1) := by decide +kernel
theorem dX8_leave_29 : decode cX8_leave 29 = .ok (.iadd, 1) := by decide +kernel
theorem dX8_leave_30 : decode cX8_leave 30 = .ok (.putfield 246, 3) := by decide +kernel
theorem dX8_leave_33 : decode cX8_leave 33 = .ok (.iload_n 2, 1) := by decide +kernel
theorem dX8_leave_34 : decode cX8_leave 34 = .ok (.ifCond .eq 43, 3) := by decide +kernel
theorem dX8_leave_37 : decode cX8_leave 37 = .ok (.aload_n 0, 1) := by decide +kernel
theorem dX8_leave_38 : decode cX8_leave 38 = .ok (.iload_n 1, 1) := by decide +kernel
theorem dX8_leave_39 : decode cX8_leave 39 = .ok (.invokevirtual 249, 3) := by decide +kernel
theorem dX8_leave_42 : decode cX8_leave 42 = .ok (.pop, 1) := by decide +kernel
theorem dX8_leave_43 : decode cX8_leave 43 = .ok (.aload_n 0, 1) := by decide +kernel
theorem dX8_leave_44 : decode cX8_leave 44 = .ok (.iload_n 1, 1) := by decide +kernel
theorem dX8_leave_45 : decode cX8_leave 45 = .ok (.invokevirtual 252, 3) := by decide +kernel
theorem dX8_leave_48 : decode cX8_leave 48 = .ok (.istore_n 3, 1) := by decide +kernel
theorem dX8_leave_49 : decode cX8_leave 49 = .ok (.aload_n 0, 1) := by decide +kernel
theorem dX8_leave_50 : decode cX8_leave 50 = .ok (.iload_n 3, 1) := by decide +kernel
theorem dX8_leave_51 : decode cX8_leave 51 = .ok (.invokevirtual 255, 3) := by decide +kernel
theorem dX8_leave_54 : decode cX8_leave 54 = .ok (.ifCond .ne 23, 3) := by decide +kernel
theorem dX8_leave_57 : decode cX8_leave 57 = .ok (.aload_n 0, 1) := by decide +kernel
theorem dX8_leave_58 : decode cX8_leave 58 = .ok (.getfield 59, 3) := by decide +kernel
theorem dX8_leave_61 : decode cX8_leave 61 = .ok (.aload_n 0, 1) := by decide +kernel
theorem dX8_leave_62 : decode cX8_leave 62 = .ok (.getfield 243, 3) := by decide +kernel
theorem dX8_leave_65 : decode cX8_leave 65 = .ok (.iload_n 3, 1) := by decide +kernel
theorem dX8_leave_66 : decode cX8_leave 66 = .ok (.iastore, 1) := by decide +kernel
theorem dX8_leave_67 : decode cX8_leave 67 = .ok (.aload_n 0, 1) := by decide +kernel
theorem dX8_leave_68 : decode cX8_leave 68 = .ok (.dup, 1) := by decide +kernel
theorem dX8_leave_69 : decode cX8_leave 69 = .ok (.getfield 243, 3) := by decide +kernel
theorem dX8_leave_72 : decode cX8_leave 72 = .ok (.iconst 1, 1) := by decide +kernel
theorem dX8_leave_73 : decode cX8_leave 73 = .ok (.iadd, 1) := by decide +kernel
theorem dX8_leave_74 : decode cX8_leave 74 = .ok (.putfield 243, 3) := by decide +kernel
theorem dX8_leave_77 : decode cX8_leave 77 = .ok (.return_, 1) := by decide +kernel
theorem dX8_visit_0 : decode cX8_visit 0 = .ok (.aload_n 0, 1) := by decide +kernel
theorem dX8_visit_1 : decode cX8_visit 1 = .ok (.dup, 1) := by decide +kernel
theorem dX8_visit_2 : decode cX8_visit 2 = .ok (.getfield 258, 3) := by decide +kernel
theorem dX8_visit_5 : decode cX8_visit 5 = .ok (.iconst 1, 1) := by decide +kernel
theorem dX8_visit_6 : decode cX8_visit 6 = .ok (.iadd, 1) := by decide +kernel
theorem dX8_visit_7 : decode cX8_visit 7 = .ok (.putfield 258, 3) := by decide +kernel
theorem dX8_visit_10 : decode cX8_visit 10 = .ok (.iload_n 1, 1) := by decide +kernel
theorem dX8_visit_11 : decode cX8_visit 11 = .ok (.aload_n 0, 1) := by decide +kernel
theorem dX8_visit_12 : decode cX8_visit 12 = .ok (.getfield 100, 3) := by decide +kernel
theorem dX8_visit_15 : decode cX8_visit 15 = .ok (.if_icmp .ne 16, 3) := by decide +kernel
theorem dX8_visit_18 : decode cX8_visit 18 = .ok (.aload_n 0, 1) := by decide +kernel
theorem dX8_visit_19 : decode cX8_visit 19 = .ok (.getfield 52, 3) := by decide +kernel
theorem dX8_visit_22 : decode cX8_visit 22 = .ok (.iload_n 1, 1) := by decide +kernel
theorem dX8_visit_23 : decode cX8_visit 23 = .ok (.iconst 1, 1) := by decide +kernel
theorem dX8_visit_24 : decode cX8_visit 24 = .ok (.isub, 1) := by decide +kernel
theorem dX8_visit_25 : decode cX8_visit 25 = .ok (.iconst 1, 1) := by decide +kernel
theorem dX8_visit_26 : decode cX8_visit 26 = .ok (.bastore, 1) := by decide +kernel
theorem dX8_visit_27 : decode cX8_visit 27 = .ok (.iload_n 1, 1) := by decide +kernel
theorem dX8_visit_28 : decode cX8_visit 28 = .ok (.iconst 1, 1) := by decide +kernel
theorem dX8_visit_29 : decode cX8_visit 29 = .ok (.isub, 1) := by decide +kernel
theorem dX8_visit_30 : decode cX8_visit 30 = .ok (.ireturn, 1) := by decide +kernel
theorem dX8_visit_31 : decode cX8_visit 31 = .ok (.iload_n 2, 1) := by decide +kernel
theorem dX8_visit_32 : decode cX8_visit 32 = .ok (.ifCond .eq 29, 3) := by decide +kernel
theorem dX8_visit_35 : decode cX8_visit 35 = .ok (.aload_n 0, 1) := by decide +kernel
theorem dX8_visit_36 : decode cX8_visit 36 = .ok (.aload_n 0, 1) := by decide +kernel
theorem dX8_visit_37 : decode cX8_visit 37 = .ok (.iload_n 1, 1) := by decide +kernel
theorem dX8_visit_38 : decode cX8_visit 38 = .ok (.invokevirtual 252, 3) := by decide +kernel
theorem dX8_visit_41 : decode cX8_visit 41 = .ok (.invokevirtual 255, 3) := by decide +kernel
theorem dX8_visit_44 : decode cX8_visit 44 = .ok (.ifCond .eq 17, 3) := by decide +kernel
theorem dX8_visit_47 : decode cX8_visit 47 = .ok (.aload_n 0, 1) := by decide +kernel
theorem dX8_visit_48 : decode cX8_visit 48 = .ok (.dup, 1) := by decide +kernel
theorem dX8_visit_49 : decode cX8_visit 49 = .ok (.getfield 261, 3) := by decide +kernel
theorem dX8_visit_52 : decode cX8_visit 52 = .ok (.iconst 1, 1) := by decide +kernel
theorem dX8_visit_53 : decode cX8_visit 53 = .ok (.iadd, 1) := by decide +kernel
theorem dX8_visit_54 : decode cX8_visit 54 = .ok (.putfield 261, 3) := by decide +kernel
theorem dX8_visit_57 : decode cX8_visit 57 = .ok (.iload_n 1, 1) := by decide +kernel
theorem dX8_visit_58 : decode cX8_visit 58 = .ok (.iconst 1, 1) := by decide +kernel
theorem dX8_visit_59 : decode cX8_visit 59 = .ok (.isub, 1) := by decide +kernel
theorem dX8_visit_60 : decode cX8_visit 60 = .ok (.ireturn, 1) := by decide +kernel
theorem dX8_visit_61 : decode cX8_visit 61 = .ok (.aload_n 0, 1) := by decide +kernel
theorem dX8_visit_62 : decode cX8_visit 62 = .ok (.getfield 49, 3) := by decide +kernel
theorem dX8_visit_65 : decode cX8_visit 65 = .ok (.iload_n 1, 1) := by decide +kernel
theorem dX8_visit_66 : decode cX8_visit 66 = .ok (.iconst 0, 1) := by decide +kernel
theorem dX8_visit_67 : decode cX8_visit 67 = .ok (.iastore, 1) := by decide +kernel
theorem dX8_visit_68 : decode cX8_visit 68 = .ok (.aload_n 0, 1) := by decide +kernel
theorem dX8_visit_69 : decode cX8_visit 69 = .ok (.getfield 52, 3) := by decide +kernel
theorem dX8_visit_72 : decode cX8_visit 72 = .ok (.iload_n 1, 1) := by decide +kernel
theorem dX8_visit_73 : decode cX8_visit 73 = .ok (.iconst 0, 1) := by decide +kernel
theorem dX8_visit_74 : decode cX8_visit 74 = .ok (.bastore, 1) := by decide +kernel
theorem dX8_visit_75 : decode cX8_visit 75 = .ok (.iload_n 1, 1) := by decide +kernel
theorem dX8_visit_76 : decode cX8_visit 76 = .ok (.ireturn, 1) := by decide +kernel
theorem dX8_goes_0 : decode cX8_goes 0 = .ok (.aload_n 0, 1) := by decide +kernel
theorem dX8_goes_1 : decode cX8_goes 1 = .ok (.iconst 1, 1) := by decide +kernel
theorem dX8_goes_2 : decode cX8_goes 2 = .ok (.putfield 258, 3) := by decide +kernel
theorem dX8_goes_5 : decode cX8_goes 5 = .ok (.aload_n 0, 1) := by decide +kernel
theorem dX8_goes_6 : decode cX8_goes 6 = .ok (.iconst 0, 1) := by decide +kernel
theorem dX8_goes_7 : decode cX8_goes 7 = .ok (.putfield 246, 3) := by decide +kernel
theorem dX8_goes_10 : decode cX8_goes 10 = .ok (.aload_n 0, 1) := by decide +kernel
theorem dX8_goes_11 : decode cX8_goes 11 = .ok (.iconst 0, 1) := by decide +kernel
theorem dX8_goes_12 : decode cX8_goes 12 = .ok (.putfield 261, 3) := by decide +kernel
theorem dX8_goes_15 : decode cX8_goes 15 = .ok (.aload_n 0, 1) := by decide +kernel
theorem dX8_goes_16 : decode cX8_goes 16 = .ok (.iconst 0, 1) := by decide +kernel
theorem dX8_goes_17 : decode cX8_goes 17 = .ok (.putfield 243, 3) := by decide +kernel
theorem dX8_goes_20 : decode cX8_goes 20 = .ok (.aload_n 0, 1) := by decide +kernel
theorem dX8_goes_21 : decode cX8_goes 21 = .ok (.getfield 49, 3) := by decide +kernel
theorem dX8_goes_24 : decode cX8_goes 24 = .ok (.iconst 0, 1) := by decide +kernel
theorem dX8_goes_25 : decode cX8_goes 25 = .ok (.iconst 0, 1) := by decide +kernel
theorem dX8_goes_26 : decode cX8_goes 26 = .ok (.iastore, 1) := by decide +kernel
theorem dX8_goes_27 : decode cX8_goes 27 = .ok (.aload_n 0, 1) := by decide +kernel
theorem dX8_goes_28 : decode cX8_goes 28 = .ok (.getfield 52, 3) := by decide +kernel
theorem dX8_goes_31 : decode cX8_goes 31 = .ok (.iconst 0, 1) := by decide +kernel
theorem dX8_goes_32 : decode cX8_goes 32 = .ok (.iconst 0, 1) := by decide +kernel
theorem dX8_goes_33 : decode cX8_goes 33 = .ok (.bastore, 1) := by decide +kernel
theorem dX8_goes_34 : decode cX8_goes 34 = .ok (.iconst 0, 1) := by decide +kernel
theorem dX8_goes_35 : decode cX8_goes 35 = .ok (.istore_n 2, 1) := by decide +kernel
theorem dX8_goes_36 : decode cX8_goes 36 = .ok (.iload_n 2, 1) := by decide +kernel
theorem dX8_goes_37 : decode cX8_goes 37 = .ok (.ifCond .lt 76, 3) := by decide +kernel
theorem dX8_goes_40 : decode cX8_goes 40 = .ok (.aload_n 0, 1) := by decide +kernel
theorem dX8_goes_41 : decode cX8_goes 41 = .ok (.getfield 49, 3) := by decide +kernel
theorem dX8_goes_44 : decode cX8_goes 44 = .ok (.iload_n 2, 1) := by decide +kernel
theorem dX8_goes_45 : decode cX8_goes 45 = .ok (.iaload, 1) := by decide +kernel
theorem dX8_goes_46 : decode cX8_goes 46 = .ok (.aload_n 0, 1) := by decide +kernel
theorem dX8_goes_47 : decode cX8_goes 47 = .ok (.getfield 97, 3) := by decide +kernel
theorem dX8_goes_50 : decode cX8_goes 50 = .ok (.if_icmp .ne 15, 3) := by decide +kernel
theorem dX8_goes_53 : decode cX8_goes 53 = .ok (.aload_n 0, 1) := by decide +kernel
theorem dX8_goes_54 : decode cX8_goes 54 = .ok (.iload_n 2, 1) := by decide +kernel
theorem dX8_goes_55 : decode cX8_goes 55 = .ok (.iload_n 1, 1) := by decide +kernel
theorem dX8_goes_56 : decode cX8_goes 56 = .ok (.invokevirtual 264, 3) := by decide +kernel
theorem dX8_goes_59 : decode cX8_goes 59 = .ok (.iinc 2 (-1), 3) := by decide +kernel
theorem dX8_goes_62 : decode cX8_goes 62 = .ok (.goto (-26), 3) := by decide +kernel
theorem dX8_goes_65 : decode cX8_goes 65 = .ok (.aload_n 0, 1) := by decide +kernel
theorem dX8_goes_66 : decode cX8_goes 66 = .ok (.getfield 25, 3) := by decide +kernel
theorem dX8_goes_69 : decode cX8_goes 69 = .ok (.iload_n 2, 1) := by decide +kernel
theorem dX8_goes_70 : decode cX8_goes 70 = .ok (.aload_n 0, 1) := by decide +kernel
theorem dX8_goes_71 : decode cX8_goes 71 = .ok (.getfield 49, 3) := by decide +kernel
theorem dX8_goes_74 : decode cX8_goes 74 = .ok (.iload_n 2, 1) := by decide +kernel
theorem dX8_goes_75 : decode cX8_goes 75 = .ok (.iaload, 1) := by decide +kernel
theorem dX8_goes_76 : decode cX8_goes 76 = .ok (.iastore, 1) := by decide +kernel
theorem dX8_goes_77 : decode cX8_goes 77 = .ok (.aload_n 0, 1) := by decide +kernel
theorem dX8_goes_78 : decode cX8_goes 78 = .ok (.getfield 49, 3) := by decide +kernel
theorem dX8_goes_81 : decode cX8_goes 81 = .ok (.iload_n 2, 1) := by decide +kernel
theorem dX8_goes_82 : decode cX8_goes 82 = .ok (.dup2, 1) := by decide +kernel
theorem dX8_goes_83 : decode cX8_goes 83 = .ok (.iaload, 1) := by decide +kernel
theorem dX8_goes_84 : decode cX8_goes 84 = .ok (.iconst 1, 1) := by decide +kernel
theorem dX8_goes_85 : decode cX8_goes 85 = .ok (.iadd, 1) := by decide +kernel
theorem dX8_goes_86 : decode cX8_goes 86 = .ok (.iastore, 1) := by decide +kernel
theorem dX8_goes_87 : decode cX8_goes 87 = .ok (.aload_n 0, 1) := by decide +kernel
theorem dX8_goes_88 : decode cX8_goes 88 = .ok (.iload_n 2, 1) := by decide +kernel
theorem dX8_goes_89 : decode cX8_goes 89 = .ok (.iconst 1, 1) := by decide +kernel
theorem dX8_goes_90 : decode cX8_goes 90 = .ok (.iadd, 1) := by decide +kernel
theorem dX8_goes_91 : decode cX8_goes 91 = .ok (.invokevirtual 249, 3) := by decide +kernel
theorem dX8_goes_94 : decode cX8_goes 94 = .ok (.ifCond .eq 14, 3) := by decide +kernel
theorem dX8_goes_97 : decode cX8_goes 97 = .ok (.aload_n 0, 1) := by decide +kernel
theorem dX8_goes_98 : decode cX8_goes 98 = .ok (.iload_n 2, 1) := by decide +kernel
theorem dX8_goes_99 : decode cX8_goes 99 = .ok (.iconst 1, 1) := by decide +kernel
theorem dX8_goes_100 : decode cX8_goes 100 = .ok (.iadd, 1) := by decide +kernel
theorem dX8_goes_101 : decode cX8_goes 101 = .ok (.iload_n 1, 1) := by decide +kernel
theorem dX8_goes_102 : decode cX8_goes 102 = .ok (.invokevirtual 268, 3) := by decide +kernel
theorem dX8_goes_105 : decode cX8_goes 105 = .ok (.goto 4, 3) := by decide +kernel
theorem dX8_goes_108 : decode cX8_goes 108 = .ok (.iload_n 2, 1) := by decide +kernel
theorem dX8_goes_109 : decode cX8_goes 109 = .ok (.istore_n 2, 1) := by decide +kernel
theorem dX8_goes_110 : decode cX8_goes 110 = .ok (.goto (-74), 3) := by decide +kernel
theorem dX8_goes_113 : decode cX8_goes 113 = .ok (.return_, 1) := by decide +kernel
theorem dX8_searchNow_0 : decode cX8_searchNow 0 = .ok (.aload_n 0, 1) := by decide +kernel
theorem dX8_searchNow_1 : decode cX8_searchNow 1 = .ok (.iload_n 1, 1) := by decide +kernel
theorem dX8_searchNow_2 : decode cX8_searchNow 2 = .ok (.iconst 1, 1) := by decide +kernel
theorem dX8_searchNow_3 : decode cX8_searchNow 3 = .ok (.if_icmp .le 7, 3) := by decide +kernel
theorem dX8_searchNow_6 : decode cX8_searchNow 6 = .ok (.iconst 1, 1) := by decide +kernel
theorem dX8_searchNow_7 : decode cX8_searchNow 7 = .ok (.goto 4, 3) := by decide +kernel
theorem dX8_searchNow_10 : decode cX8_searchNow 10 = .ok (.iconst 0, 1) := by decide +kernel
theorem dX8_searchNow_11 : decode cX8_searchNow 11 = .ok (.invokevirtual 272, 3) := by decide +kernel
theorem dX8_searchNow_14 : decode cX8_searchNow 14 = .ok (.iload_n 1, 1) := by decide +kernel
theorem dX8_searchNow_15 : decode cX8_searchNow 15 = .ok (.ifCond .eq 8, 3) := by decide +kernel
theorem dX8_searchNow_18 : decode cX8_searchNow 18 = .ok (.iload_n 1, 1) := by decide +kernel
theorem dX8_searchNow_19 : decode cX8_searchNow 19 = .ok (.iconst 2, 1) := by decide +kernel
theorem dX8_searchNow_20 : decode cX8_searchNow 20 = .ok (.if_icmp .ne 10, 3) := by decide +kernel
theorem dX8_searchNow_23 : decode cX8_searchNow 23 = .ok (.aload_n 0, 1) := by decide +kernel
theorem dX8_searchNow_24 : decode cX8_searchNow 24 = .ok (.getfield 258, 3) := by decide +kernel
theorem dX8_searchNow_27 : decode cX8_searchNow 27 = .ok (.goto 31, 3) := by decide +kernel
theorem dX8_searchNow_30 : decode cX8_searchNow 30 = .ok (.iload_n 1, 1) := by decide +kernel
theorem dX8_searchNow_31 : decode cX8_searchNow 31 = .ok (.iconst 1, 1) := by decide +kernel
theorem dX8_searchNow_32 : decode cX8_searchNow 32 = .ok (.if_icmp .ne 10, 3) := by decide +kernel
theorem dX8_searchNow_35 : decode cX8_searchNow 35 = .ok (.aload_n 0, 1) := by decide +kernel
theorem dX8_searchNow_36 : decode cX8_searchNow 36 = .ok (.getfield 246, 3) := by decide +kernel
theorem dX8_searchNow_39 : decode cX8_searchNow 39 = .ok (.goto 19, 3) := by decide +kernel
theorem dX8_searchNow_42 : decode cX8_searchNow 42 = .ok (.iload_n 1, 1) := by decide +kernel
theorem dX8_searchNow_43 : decode cX8_searchNow 43 = .ok (.iconst 3, 1) := by decide +kernel
theorem dX8_searchNow_44 : decode cX8_searchNow 44 = .ok (.if_icmp .ne 10, 3) := by decide +kernel
theorem dX8_searchNow_47 : decode cX8_searchNow 47 = .ok (.aload_n 0, 1) := by decide +kernel
theorem dX8_searchNow_48 : decode cX8_searchNow 48 = .ok (.getfield 261, 3) := by decide +kernel
theorem dX8_searchNow_51 : decode cX8_searchNow 51 = .ok (.goto 7, 3) := by decide +kernel
theorem dX8_searchNow_54 : decode cX8_searchNow 54 = .ok (.aload_n 0, 1) := by decide +kernel
theorem dX8_searchNow_55 : decode cX8_searchNow 55 = .ok (.getfield 243, 3) := by decide +kernel
theorem dX8_searchNow_58 : decode cX8_searchNow 58 = .ok (.ireturn, 1) := by decide +kernel
theorem dX8_search_0 : decode cX8_search 0 = .ok (.iload_n 1, 1) := by decide +kernel
theorem dX8_search_1 : decode cX8_search 1 = .ok (.iconst 0, 1) := by decide +kernel
theorem dX8_search_2 : decode cX8_search 2 = .ok (.iconst 4, 1) := by decide +kernel
theorem dX8_search_3 : decode cX8_search 3 = .ok (.invokestatic 65, 3) := by decide +kernel
theorem dX8_search_6 : decode cX8_search 6 = .ok (.ifCond .ne 6, 3) := by decide +kernel
theorem dX8_search_9 : decode cX8_search 9 = .ok (.bipush (-102), 2) := by decide +kernel
theorem dX8_search_11 : decode cX8_search 11 = .ok (.ireturn, 1) := by decide +kernel
theorem dX8_search_12 : decode cX8_search 12 = .ok (.aload_n 0, 1) := by decide +kernel
theorem dX8_search_13 : decode cX8_search 13 = .ok (.getfield 97, 3) := by decide +kernel
theorem dX8_search_16 : decode cX8_search 16 = .ok (.ifCond .le 11, 3) := by decide +kernel
theorem dX8_search_19 : decode cX8_search 19 = .ok (.aload_n 0, 1) := by decide +kernel
theorem dX8_search_20 : decode cX8_search 20 = .ok (.iload_n 1, 1) := by decide +kernel
theorem dX8_search_21 : decode cX8_search 21 = .ok (.invokevirtual 276, 3) := by decide +kernel
theorem dX8_search_24 : decode cX8_search 24 = .ok (.goto 5, 3) := by decide +kernel
theorem dX8_search_27 : decode cX8_search 27 = .ok (.bipush (-103), 2) := by decide +kernel
theorem dX8_search_29 : decode cX8_search 29 = .ok (.ireturn, 1) := by decide +kernel
theorem dX8_laidMany_0 : decode cX8_laidMany 0 = .ok (.iconst 0, 1) := by decide +kernel
theorem dX8_laidMany_1 : decode cX8_laidMany 1 = .ok (.istore_n 1, 1) := by decide +kernel
theorem dX8_laidMany_2 : decode cX8_laidMany 2 = .ok (.iconst 0, 1) := by decide +kernel
theorem dX8_laidMany_3 : decode cX8_laidMany 3 = .ok (.istore_n 2, 1) := by decide +kernel
theorem dX8_laidMany_4 : decode cX8_laidMany 4 = .ok (.iload_n 2, 1) := by decide +kernel
theorem dX8_laidMany_5 : decode cX8_laidMany 5 = .ok (.aload_n 0, 1) := by decide +kernel
theorem dX8_laidMany_6 : decode cX8_laidMany 6 = .ok (.getfield 100, 3) := by decide +kernel
theorem dX8_laidMany_9 : decode cX8_laidMany 9 = .ok (.if_icmp .ge 27, 3) := by decide +kernel
theorem dX8_laidMany_12 : decode cX8_laidMany 12 = .ok (.iload_n 1, 1) := by decide +kernel
theorem dX8_laidMany_13 : decode cX8_laidMany 13 = .ok (.aload_n 0, 1) := by decide +kernel
theorem dX8_laidMany_14 : decode cX8_laidMany 14 = .ok (.getfield 16, 3) := by decide +kernel
theorem dX8_laidMany_17 : decode cX8_laidMany 17 = .ok (.iload_n 2, 1) := by decide +kernel
theorem dX8_laidMany_18 : decode cX8_laidMany 18 = .ok (.iaload, 1) := by decide +kernel
theorem dX8_laidMany_19 : decode cX8_laidMany 19 = .ok (.iconst (-1), 1) := by decide +kernel
theorem dX8_laidMany_20 : decode cX8_laidMany 20 = .ok (.if_icmp .ne 7, 3) := by decide +kernel
theorem dX8_laidMany_23 : decode cX8_laidMany 23 = .ok (.iconst 0, 1) := by decide +kernel
theorem dX8_laidMany_24 : decode cX8_laidMany 24 = .ok (.goto 4, 3) := by decide +kernel
theorem dX8_laidMany_27 : decode cX8_laidMany 27 = .ok (.iconst 1, 1) := by decide +kernel
theorem dX8_laidMany_28 : decode cX8_laidMany 28 = .ok (.iadd, 1) := by decide +kernel
theorem dX8_laidMany_29 : decode cX8_laidMany 29 = .ok (.istore_n 1, 1) := by decide +kernel
theorem dX8_laidMany_30 : decode cX8_laidMany 30 = .ok (.iinc 2 1, 3) := by decide +kernel
theorem dX8_laidMany_33 : decode cX8_laidMany 33 = .ok (.goto (-29), 3) := by decide +kernel
theorem dX8_laidMany_36 : decode cX8_laidMany 36 = .ok (.iload_n 1, 1) := by decide +kernel
theorem dX8_laidMany_37 : decode cX8_laidMany 37 = .ok (.ireturn, 1) := by decide +kernel
theorem dX8_howMany_0 : decode cX8_howMany 0 = .ok (.iload_n 1, 1) := by decide +kernel
theorem dX8_howMany_1 : decode cX8_howMany 1 = .ok (.tableswitch 60 0 4 #[35, 40, 45, 50, 55], 35) := by decide +kernel
theorem dX8_howMany_36 : decode cX8_howMany 36 = .ok (.aload_n 0, 1) := by decide +kernel
theorem dX8_howMany_37 : decode cX8_howMany 37 = .ok (.getfield 97, 3) := by decide +kernel
theorem dX8_howMany_40 : decode cX8_howMany 40 = .ok (.ireturn, 1) := by decide +kernel
theorem dX8_howMany_41 : decode cX8_howMany 41 = .ok (.aload_n 0, 1) := by decide +kernel
theorem dX8_howMany_42 : decode cX8_howMany 42 = .ok (.getfield 69, 3) := by decide +kernel
theorem dX8_howMany_45 : decode cX8_howMany 45 = .ok (.ireturn, 1) := by decide +kernel
theorem dX8_howMany_46 : decode cX8_howMany 46 = .ok (.aload_n 0, 1) := by decide +kernel
theorem dX8_howMany_47 : decode cX8_howMany 47 = .ok (.invokevirtual 279, 3) := by decide +kernel
theorem dX8_howMany_50 : decode cX8_howMany 50 = .ok (.ireturn, 1) := by decide +kernel
theorem dX8_howMany_51 : decode cX8_howMany 51 = .ok (.aload_n 0, 1) := by decide +kernel
theorem dX8_howMany_52 : decode cX8_howMany 52 = .ok (.getfield 121, 3) := by decide +kernel
theorem dX8_howMany_55 : decode cX8_howMany 55 = .ok (.ireturn, 1) := by decide +kernel
theorem dX8_howMany_56 : decode cX8_howMany 56 = .ok (.aload_n 0, 1) := by decide +kernel
theorem dX8_howMany_57 : decode cX8_howMany 57 = .ok (.getfield 127, 3) := by decide +kernel
theorem dX8_howMany_60 : decode cX8_howMany 60 = .ok (.ireturn, 1) := by decide +kernel
theorem dX8_howMany_61 : decode cX8_howMany 61 = .ok (.bipush (-102), 2) := by decide +kernel
theorem dX8_howMany_63 : decode cX8_howMany 63 = .ok (.ireturn, 1) := by decide +kernel
theorem dX8_count_0 : decode cX8_count 0 = .ok (.aload_n 0, 1) := by decide +kernel
theorem dX8_count_1 : decode cX8_count 1 = .ok (.iload_n 1, 1) := by decide +kernel
theorem dX8_count_2 : decode cX8_count 2 = .ok (.invokevirtual 282, 3) := by decide +kernel
theorem dX8_count_5 : decode cX8_count 5 = .ok (.ireturn, 1) := by decide +kernel
theorem dX8_mix_0 : decode cX8_mix 0 = .ok (.aload_n 0, 1) := by decide +kernel
theorem dX8_mix_1 : decode cX8_mix 1 = .ok (.ldc2_w 285, 3) := by decide +kernel
theorem dX8_mix_4 : decode cX8_mix 4 = .ok (.aload_n 0, 1) := by decide +kernel
theorem dX8_mix_5 : decode cX8_mix 5 = .ok (.getfield 287, 3) := by decide +kernel
theorem dX8_mix_8 : decode cX8_mix 8 = .ok (.lmul, 1) := by decide +kernel
theorem dX8_mix_9 : decode cX8_mix 9 = .ok (.lload_n 1, 1) := by decide +kernel
theorem dX8_mix_10 : decode cX8_mix 10 = .ok (.ladd, 1) := by decide +kernel
theorem dX8_mix_11 : decode cX8_mix 11 = .ok (.putfield 287, 3) := by decide +kernel
theorem dX8_mix_14 : decode cX8_mix 14 = .ok (.return_, 1) := by decide +kernel
theorem dX8_mixWords_0 : decode cX8_mixWords 0 = .ok (.iconst 0, 1) := by decide +kernel
theorem dX8_mixWords_1 : decode cX8_mixWords 1 = .ok (.istore_n 1, 1) := by decide +kernel
theorem dX8_mixWords_2 : decode cX8_mixWords 2 = .ok (.iload_n 1, 1) := by decide +kernel
theorem dX8_mixWords_3 : decode cX8_mixWords 3 = .ok (.bipush 6, 2) := by decide +kernel
theorem dX8_mixWords_5 : decode cX8_mixWords 5 = .ok (.if_icmp .ge 19, 3) := by decide +kernel
theorem dX8_mixWords_8 : decode cX8_mixWords 8 = .ok (.aload_n 0, 1) := by decide +kernel
theorem dX8_mixWords_9 : decode cX8_mixWords 9 = .ok (.aload_n 0, 1) := by decide +kernel
theorem dX8_mixWords_10 : decode cX8_mixWords 10 = .ok (.iload_n 1, 1) := by decide +kernel
theorem dX8_mixWords_11 : decode cX8_mixWords 11 = .ok (.invokevirtual 153, 3) := by decide +kernel
theorem dX8_mixWords_14 : decode cX8_mixWords 14 = .ok (.i2l, 1) := by decide +kernel
theorem dX8_mixWords_15 : decode cX8_mixWords 15 = .ok (.invokevirtual 291, 3) := by decide +kernel
theorem dX8_mixWords_18 : decode cX8_mixWords 18 = .ok (.iinc 1 1, 3) := by decide +kernel
theorem dX8_mixWords_21 : decode cX8_mixWords 21 = .ok (.goto (-19), 3) := by decide +kernel
theorem dX8_mixWords_24 : decode cX8_mixWords 24 = .ok (.aload_n 0, 1) := by decide +kernel
theorem dX8_mixWords_25 : decode cX8_mixWords 25 = .ok (.invokevirtual 198, 3) := by decide +kernel
theorem dX8_mixWords_28 : decode cX8_mixWords 28 = .ok (.iconst 0, 1) := by decide +kernel
theorem dX8_mixWords_29 : decode cX8_mixWords 29 = .ok (.istore_n 1, 1) := by decide +kernel
theorem dX8_mixWords_30 : decode cX8_mixWords 30 = .ok (.iload_n 1, 1) := by decide +kernel
theorem dX8_mixWords_31 : decode cX8_mixWords 31 = .ok (.aload_n 0, 1) := by decide +kernel
theorem dX8_mixWords_32 : decode cX8_mixWords 32 = .ok (.getfield 97, 3) := by decide +kernel
theorem dX8_mixWords_35 : decode cX8_mixWords 35 = .ok (.if_icmp .ge 60, 3) := by decide +kernel
theorem dX8_mixWords_38 : decode cX8_mixWords 38 = .ok (.iconst 0, 1) := by decide +kernel
theorem dX8_mixWords_39 : decode cX8_mixWords 39 = .ok (.istore_n 2, 1) := by decide +kernel
theorem dX8_mixWords_40 : decode cX8_mixWords 40 = .ok (.iload_n 2, 1) := by decide +kernel
theorem dX8_mixWords_41 : decode cX8_mixWords 41 = .ok (.aload_n 0, 1) := by decide +kernel
theorem dX8_mixWords_42 : decode cX8_mixWords 42 = .ok (.getfield 100, 3) := by decide +kernel
theorem dX8_mixWords_45 : decode cX8_mixWords 45 = .ok (.if_icmp .ge 20, 3) := by decide +kernel
theorem dX8_mixWords_48 : decode cX8_mixWords 48 = .ok (.aload_n 0, 1) := by decide +kernel
theorem dX8_mixWords_49 : decode cX8_mixWords 49 = .ok (.aload_n 0, 1) := by decide +kernel
theorem dX8_mixWords_50 : decode cX8_mixWords 50 = .ok (.iload_n 1, 1) := by decide +kernel
theorem dX8_mixWords_51 : decode cX8_mixWords 51 = .ok (.iload_n 2, 1) := by decide +kernel
theorem dX8_mixWords_52 : decode cX8_mixWords 52 = .ok (.invokevirtual 130, 3) := by decide +kernel
theorem dX8_mixWords_55 : decode cX8_mixWords 55 = .ok (.i2l, 1) := by decide +kernel
theorem dX8_mixWords_56 : decode cX8_mixWords 56 = .ok (.invokevirtual 291, 3) := by decide +kernel
theorem dX8_mixWords_59 : decode cX8_mixWords 59 = .ok (.iinc 2 1, 3) := by decide +kernel
theorem dX8_mixWords_62 : decode cX8_mixWords 62 = .ok (.goto (-22), 3) := by decide +kernel
theorem dX8_mixWords_65 : decode cX8_mixWords 65 = .ok (.iconst 0, 1) := by decide +kernel
theorem dX8_mixWords_66 : decode cX8_mixWords 66 = .ok (.istore_n 2, 1) := by decide +kernel
theorem dX8_mixWords_67 : decode cX8_mixWords 67 = .ok (.iload_n 2, 1) := by decide +kernel
theorem dX8_mixWords_68 : decode cX8_mixWords 68 = .ok (.iconst 5, 1) := by decide +kernel
theorem dX8_mixWords_69 : decode cX8_mixWords 69 = .ok (.if_icmp .ge 20, 3) := by decide +kernel
theorem dX8_mixWords_72 : decode cX8_mixWords 72 = .ok (.aload_n 0, 1) := by decide +kernel
theorem dX8_mixWords_73 : decode cX8_mixWords 73 = .ok (.aload_n 0, 1) := by decide +kernel
theorem dX8_mixWords_74 : decode cX8_mixWords 74 = .ok (.iload_n 1, 1) := by decide +kernel
theorem dX8_mixWords_75 : decode cX8_mixWords 75 = .ok (.iload_n 2, 1) := by decide +kernel
theorem dX8_mixWords_76 : decode cX8_mixWords 76 = .ok (.invokevirtual 201, 3) := by decide +kernel
theorem dX8_mixWords_79 : decode cX8_mixWords 79 = .ok (.i2l, 1) := by decide +kernel
theorem dX8_mixWords_80 : decode cX8_mixWords 80 = .ok (.invokevirtual 291, 3) := by decide +kernel
theorem dX8_mixWords_83 : decode cX8_mixWords 83 = .ok (.iinc 2 1, 3) := by decide +kernel
theorem dX8_mixWords_86 : decode cX8_mixWords 86 = .ok (.goto (-19), 3) := by decide +kernel
theorem dX8_mixWords_89 : decode cX8_mixWords 89 = .ok (.iinc 1 1, 3) := by decide +kernel
theorem dX8_mixWords_92 : decode cX8_mixWords 92 = .ok (.goto (-62), 3) := by decide +kernel
theorem dX8_mixWords_95 : decode cX8_mixWords 95 = .ok (.return_, 1) := by decide +kernel
theorem dX8_mixSquares_0 : decode cX8_mixSquares 0 = .ok (.iconst 0, 1) := by decide +kernel
theorem dX8_mixSquares_1 : decode cX8_mixSquares 1 = .ok (.istore_n 1, 1) := by decide +kernel
theorem dX8_mixSquares_2 : decode cX8_mixSquares 2 = .ok (.iload_n 1, 1) := by decide +kernel
theorem dX8_mixSquares_3 : decode cX8_mixSquares 3 = .ok (.iconst 3, 1) := by decide +kernel
theorem dX8_mixSquares_4 : decode cX8_mixSquares 4 = .ok (.if_icmp .ge 19, 3) := by decide +kernel
theorem dX8_mixSquares_7 : decode cX8_mixSquares 7 = .ok (.aload_n 0, 1) := by decide +kernel
theorem dX8_mixSquares_8 : decode cX8_mixSquares 8 = .ok (.aload_n 0, 1) := by decide +kernel
theorem dX8_mixSquares_9 : decode cX8_mixSquares 9 = .ok (.iload_n 1, 1) := by decide +kernel
theorem dX8_mixSquares_10 : decode cX8_mixSquares 10 = .ok (.invokevirtual 180, 3) := by decide +kernel
theorem dX8_mixSquares_13 : decode cX8_mixSquares 13 = .ok (.i2l, 1) := by decide +kernel
theorem dX8_mixSquares_14 : decode cX8_mixSquares 14 = .ok (.invokevirtual 291, 3) := by decide +kernel
theorem dX8_mixSquares_17 : decode cX8_mixSquares 17 = .ok (.iinc 1 1, 3) := by decide +kernel
theorem dX8_mixSquares_20 : decode cX8_mixSquares 20 = .ok (.goto (-18), 3) := by decide +kernel
theorem dX8_mixSquares_23 : decode cX8_mixSquares 23 = .ok (.iconst 0, 1) := by decide +kernel
theorem dX8_mixSquares_24 : decode cX8_mixSquares 24 = .ok (.istore_n 1, 1) := by decide +kernel
theorem dX8_mixSquares_25 : decode cX8_mixSquares 25 = .ok (.aload_n 0, 1) := by decide +kernel
theorem dX8_mixSquares_26 : decode cX8_mixSquares 26 = .ok (.invokevirtual 171, 3) := by decide +kernel
theorem dX8_mixSquares_29 : decode cX8_mixSquares 29 = .ok (.aload_n 0, 1) := by decide +kernel
theorem dX8_mixSquares_30 : decode cX8_mixSquares 30 = .ok (.getfield 97, 3) := by decide +kernel
theorem dX8_mixSquares_33 : decode cX8_mixSquares 33 = .ok (.ifCond .le 7, 3) := by decide +kernel
theorem dX8_mixSquares_36 : decode cX8_mixSquares 36 = .ok (.iconst 1, 1) := by decide +kernel
theorem dX8_mixSquares_37 : decode cX8_mixSquares 37 = .ok (.goto 4, 3) := by decide +kernel
theorem dX8_mixSquares_40 : decode cX8_mixSquares 40 = .ok (.iconst 0, 1) := by decide +kernel
theorem dX8_mixSquares_41 : decode cX8_mixSquares 41 = .ok (.istore_n 2, 1) := by decide +kernel
theorem dX8_mixSquares_42 : decode cX8_mixSquares 42 = .ok (.iload_n 2, 1) := by decide +kernel
theorem dX8_mixSquares_43 : decode cX8_mixSquares 43 = .ok (.ifCond .eq 68, 3) := by decide +kernel
theorem dX8_mixSquares_46 : decode cX8_mixSquares 46 = .ok (.aload_n 0, 1) := by decide +kernel
theorem dX8_mixSquares_47 : decode cX8_mixSquares 47 = .ok (.invokevirtual 162, 3) := by decide +kernel
theorem dX8_mixSquares_50 : decode cX8_mixSquares 50 = .ok (.ifCond .eq 39, 3) := by decide +kernel
theorem dX8_mixSquares_53 : decode cX8_mixSquares 53 = .ok (.iconst 0, 1) := by decide +kernel
theorem dX8_mixSquares_54 : decode cX8_mixSquares 54 = .ok (.istore_n 3, 1) := by decide +kernel
theorem dX8_mixSquares_55 : decode cX8_mixSquares 55 = .ok (.iload_n 3, 1) := by decide +kernel
theorem dX8_mixSquares_56 : decode cX8_mixSquares 56 = .ok (.aload_n 0, 1) := by decide +kernel
theorem dX8_mixSquares_57 : decode cX8_mixSquares 57 = .ok (.getfield 100, 3) := by decide +kernel
theorem dX8_mixSquares_60 : decode cX8_mixSquares 60 = .ok (.if_icmp .ge 26, 3) := by decide +kernel
theorem dX8_mixSquares_63 : decode cX8_mixSquares 63 = .ok (.iload_n 1, 1) := by decide +kernel
theorem dX8_mixSquares_64 : decode cX8_mixSquares 64 = .ok (.bipush 40, 2) := by decide +kernel
theorem dX8_mixSquares_66 : decode cX8_mixSquares 66 = .ok (.if_icmp .ge 20, 3) := by decide +kernel
theorem dX8_mixSquares_69 : decode cX8_mixSquares 69 = .ok (.aload_n 0, 1) := by decide +kernel
theorem dX8_mixSquares_70 : decode cX8_mixSquares 70 = .ok (.aload_n 0, 1) := by decide +kernel
theorem dX8_mixSquares_71 : decode cX8_mixSquares 71 = .ok (.getfield 25, 3) := by decide +kernel
theorem dX8_mixSquares_74 : decode cX8_mixSquares 74 = .ok (.iload_n 3, 1) := by decide +kernel
theorem dX8_mixSquares_75 : decode cX8_mixSquares 75 = .ok (.iaload, 1) := by decide +kernel
theorem dX8_mixSquares_76 : decode cX8_mixSquares 76 = .ok (.i2l, 1) := by decide +kernel
theorem dX8_mixSquares_77 : decode cX8_mixSquares 77 = .ok (.invokevirtual 291, 3) := by decide +kernel
theorem dX8_mixSquares_80 : decode cX8_mixSquares 80 = .ok (.iinc 3 1, 3) := by decide +kernel
theorem dX8_mixSquares_83 : decode cX8_mixSquares 83 = .ok (.goto (-28), 3) := by decide +kernel
theorem dX8_mixSquares_86 : decode cX8_mixSquares 86 = .ok (.iinc 1 1, 3) := by decide +kernel
theorem dX8_mixSquares_89 : decode cX8_mixSquares 89 = .ok (.iload_n 1, 1) := by decide +kernel
theorem dX8_mixSquares_90 : decode cX8_mixSquares 90 = .ok (.bipush 40, 2) := by decide +kernel
theorem dX8_mixSquares_92 : decode cX8_mixSquares 92 = .ok (.if_icmp .ge 14, 3) := by decide +kernel
theorem dX8_mixSquares_95 : decode cX8_mixSquares 95 = .ok (.aload_n 0, 1) := by decide +kernel
theorem dX8_mixSquares_96 : decode cX8_mixSquares 96 = .ok (.invokevirtual 177, 3) := by decide +kernel
theorem dX8_mixSquares_99 : decode cX8_mixSquares 99 = .ok (.ifCond .eq 7, 3) := by decide +kernel
theorem dX8_mixSquares_102 : decode cX8_mixSquares 102 = .ok (.iconst 1, 1) := by decide +kernel
theorem dX8_mixSquares_103 : decode cX8_mixSquares 103 = .ok (.goto 4, 3) := by decide +kernel
theorem dX8_mixSquares_106 : decode cX8_mixSquares 106 = .ok (.iconst 0, 1) := by decide +kernel
theorem dX8_mixSquares_107 : decode cX8_mixSquares 107 = .ok (.istore_n 2, 1) := by decide +kernel
theorem dX8_mixSquares_108 : decode cX8_mixSquares 108 = .ok (.goto (-66), 3) := by decide +kernel
theorem dX8_mixSquares_111 : decode cX8_mixSquares 111 = .ok (.iconst 0, 1) := by decide +kernel
theorem dX8_mixSquares_112 : decode cX8_mixSquares 112 = .ok (.istore_n 3, 1) := by decide +kernel
theorem dX8_mixSquares_113 : decode cX8_mixSquares 113 = .ok (.iload_n 3, 1) := by decide +kernel
theorem dX8_mixSquares_114 : decode cX8_mixSquares 114 = .ok (.iconst 3, 1) := by decide +kernel
theorem dX8_mixSquares_115 : decode cX8_mixSquares 115 = .ok (.if_icmp .ge 19, 3) := by decide +kernel
theorem dX8_mixSquares_118 : decode cX8_mixSquares 118 = .ok (.aload_n 0, 1) := by decide +kernel
theorem dX8_mixSquares_119 : decode cX8_mixSquares 119 = .ok (.aload_n 0, 1) := by decide +kernel
theorem dX8_mixSquares_120 : decode cX8_mixSquares 120 = .ok (.iload_n 3, 1) := by decide +kernel
theorem dX8_mixSquares_121 : decode cX8_mixSquares 121 = .ok (.invokevirtual 192, 3) := by decide +kernel
theorem dX8_mixSquares_124 : decode cX8_mixSquares 124 = .ok (.i2l, 1) := by decide +kernel
theorem dX8_mixSquares_125 : decode cX8_mixSquares 125 = .ok (.invokevirtual 291, 3) := by decide +kernel
theorem dX8_mixSquares_128 : decode cX8_mixSquares 128 = .ok (.iinc 3 1, 3) := by decide +kernel
theorem dX8_mixSquares_131 : decode cX8_mixSquares 131 = .ok (.goto (-18), 3) := by decide +kernel
theorem dX8_mixSquares_134 : decode cX8_mixSquares 134 = .ok (.return_, 1) := by decide +kernel
theorem dX8_mixBoard_0 : decode cX8_mixBoard 0 = .ok (.aload_n 0, 1) := by decide +kernel
theorem dX8_mixBoard_1 : decode cX8_mixBoard 1 = .ok (.invokevirtual 219, 3) := by decide +kernel
theorem dX8_mixBoard_4 : decode cX8_mixBoard 4 = .ok (.iconst 0, 1) := by decide +kernel
theorem dX8_mixBoard_5 : decode cX8_mixBoard 5 = .ok (.istore_n 1, 1) := by decide +kernel
theorem dX8_mixBoard_6 : decode cX8_mixBoard 6 = .ok (.iload_n 1, 1) := by decide +kernel
theorem dX8_mixBoard_7 : decode cX8_mixBoard 7 = .ok (.aload_n 0, 1) := by decide +kernel
theorem dX8_mixBoard_8 : decode cX8_mixBoard 8 = .ok (.getfield 100, 3) := by decide +kernel
theorem dX8_mixBoard_11 : decode cX8_mixBoard 11 = .ok (.if_icmp .ge 65, 3) := by decide +kernel
theorem dX8_mixBoard_14 : decode cX8_mixBoard 14 = .ok (.aload_n 0, 1) := by decide +kernel
theorem dX8_mixBoard_15 : decode cX8_mixBoard 15 = .ok (.aload_n 0, 1) := by decide +kernel
theorem dX8_mixBoard_16 : decode cX8_mixBoard 16 = .ok (.getfield 16, 3) := by decide +kernel
theorem dX8_mixBoard_19 : decode cX8_mixBoard 19 = .ok (.iload_n 1, 1) := by decide +kernel
theorem dX8_mixBoard_20 : decode cX8_mixBoard 20 = .ok (.iaload, 1) := by decide +kernel
theorem dX8_mixBoard_21 : decode cX8_mixBoard 21 = .ok (.i2l, 1) := by decide +kernel
theorem dX8_mixBoard_22 : decode cX8_mixBoard 22 = .ok (.invokevirtual 291, 3) := by decide +kernel
theorem dX8_mixBoard_25 : decode cX8_mixBoard 25 = .ok (.aload_n 0, 1) := by decide +kernel
theorem dX8_mixBoard_26 : decode cX8_mixBoard 26 = .ok (.aload_n 0, 1) := by decide +kernel
theorem dX8_mixBoard_27 : decode cX8_mixBoard 27 = .ok (.getfield 43, 3) := by decide +kernel
theorem dX8_mixBoard_30 : decode cX8_mixBoard 30 = .ok (.iload_n 1, 1) := by decide +kernel
theorem dX8_mixBoard_31 : decode cX8_mixBoard 31 = .ok (.iaload, 1) := by decide +kernel
theorem dX8_mixBoard_32 : decode cX8_mixBoard 32 = .ok (.i2l, 1) := by decide +kernel
theorem dX8_mixBoard_33 : decode cX8_mixBoard 33 = .ok (.invokevirtual 291, 3) := by decide +kernel
theorem dX8_mixBoard_36 : decode cX8_mixBoard 36 = .ok (.iconst 0, 1) := by decide +kernel
theorem dX8_mixBoard_37 : decode cX8_mixBoard 37 = .ok (.istore_n 2, 1) := by decide +kernel
theorem dX8_mixBoard_38 : decode cX8_mixBoard 38 = .ok (.iload_n 2, 1) := by decide +kernel
theorem dX8_mixBoard_39 : decode cX8_mixBoard 39 = .ok (.aload_n 0, 1) := by decide +kernel
theorem dX8_mixBoard_40 : decode cX8_mixBoard 40 = .ok (.getfield 100, 3) := by decide +kernel
theorem dX8_mixBoard_43 : decode cX8_mixBoard 43 = .ok (.if_icmp .ge 27, 3) := by decide +kernel
theorem dX8_mixBoard_46 : decode cX8_mixBoard 46 = .ok (.aload_n 0, 1) := by decide +kernel
theorem dX8_mixBoard_47 : decode cX8_mixBoard 47 = .ok (.getfield 210, 3) := by decide +kernel
theorem dX8_mixBoard_50 : decode cX8_mixBoard 50 = .ok (.ifCond .le 20, 3) := by decide +kernel
theorem dX8_mixBoard_53 : decode cX8_mixBoard 53 = .ok (.aload_n 0, 1) := by decide +kernel
theorem dX8_mixBoard_54 : decode cX8_mixBoard 54 = .ok (.aload_n 0, 1) := by decide +kernel
theorem dX8_mixBoard_55 : decode cX8_mixBoard 55 = .ok (.iload_n 1, 1) := by decide +kernel
theorem dX8_mixBoard_56 : decode cX8_mixBoard 56 = .ok (.iload_n 2, 1) := by decide +kernel
theorem dX8_mixBoard_57 : decode cX8_mixBoard 57 = .ok (.invokevirtual 228, 3) := by decide +kernel
theorem dX8_mixBoard_60 : decode cX8_mixBoard 60 = .ok (.i2l, 1) := by decide +kernel
theorem dX8_mixBoard_61 : decode cX8_mixBoard 61 = .ok (.invokevirtual 291, 3) := by decide +kernel
theorem dX8_mixBoard_64 : decode cX8_mixBoard 64 = .ok (.iinc 2 1, 3) := by decide +kernel
theorem dX8_mixBoard_67 : decode cX8_mixBoard 67 = .ok (.goto (-29), 3) := by decide +kernel
theorem dX8_mixBoard_70 : decode cX8_mixBoard 70 = .ok (.iinc 1 1, 3) := by decide +kernel
theorem dX8_mixBoard_73 : decode cX8_mixBoard 73 = .ok (.goto (-67), 3) := by decide +kernel
theorem dX8_mixBoard_76 : decode cX8_mixBoard 76 = .ok (.aload_n 0, 1) := by decide +kernel
theorem dX8_mixBoard_77 : decode cX8_mixBoard 77 = .ok (.aload_n 0, 1) := by decide +kernel
theorem dX8_mixBoard_78 : decode cX8_mixBoard 78 = .ok (.getfield 210, 3) := by decide +kernel
theorem dX8_mixBoard_81 : decode cX8_mixBoard 81 = .ok (.i2l, 1) := by decide +kernel
theorem dX8_mixBoard_82 : decode cX8_mixBoard 82 = .ok (.invokevirtual 291, 3) := by decide +kernel
theorem dX8_mixBoard_85 : decode cX8_mixBoard 85 = .ok (.return_, 1) := by decide +kernel
theorem dX8_digest_0 : decode cX8_digest 0 = .ok (.aload_n 0, 1) := by decide +kernel
theorem dX8_digest_1 : decode cX8_digest 1 = .ok (.ldc2_w 295, 3) := by decide +kernel
theorem dX8_digest_4 : decode cX8_digest 4 = .ok (.putfield 287, 3) := by decide +kernel
theorem dX8_digest_7 : decode cX8_digest 7 = .ok (.aload_n 0, 1) := by decide +kernel
theorem dX8_digest_8 : decode cX8_digest 8 = .ok (.invokevirtual 297, 3) := by decide +kernel
theorem dX8_digest_11 : decode cX8_digest 11 = .ok (.aload_n 0, 1) := by decide +kernel
theorem dX8_digest_12 : decode cX8_digest 12 = .ok (.invokevirtual 300, 3) := by decide +kernel
theorem dX8_digest_15 : decode cX8_digest 15 = .ok (.aload_n 0, 1) := by decide +kernel
theorem dX8_digest_16 : decode cX8_digest 16 = .ok (.invokevirtual 303, 3) := by decide +kernel
theorem dX8_digest_19 : decode cX8_digest 19 = .ok (.iconst 0, 1) := by decide +kernel
theorem dX8_digest_20 : decode cX8_digest 20 = .ok (.istore_n 1, 1) := by decide +kernel
theorem dX8_digest_21 : decode cX8_digest 21 = .ok (.iload_n 1, 1) := by decide +kernel
theorem dX8_digest_22 : decode cX8_digest 22 = .ok (.iconst 5, 1) := by decide +kernel
theorem dX8_digest_23 : decode cX8_digest 23 = .ok (.if_icmp .ge 26, 3) := by decide +kernel
theorem dX8_digest_26 : decode cX8_digest 26 = .ok (.aload_n 0, 1) := by decide +kernel
theorem dX8_digest_27 : decode cX8_digest 27 = .ok (.getfield 97, 3) := by decide +kernel
theorem dX8_digest_30 : decode cX8_digest 30 = .ok (.ifCond .le 19, 3) := by decide +kernel
theorem dX8_digest_33 : decode cX8_digest 33 = .ok (.aload_n 0, 1) := by decide +kernel
theorem dX8_digest_34 : decode cX8_digest 34 = .ok (.aload_n 0, 1) := by decide +kernel
theorem dX8_digest_35 : decode cX8_digest 35 = .ok (.iload_n 1, 1) := by decide +kernel
theorem dX8_digest_36 : decode cX8_digest 36 = .ok (.invokevirtual 276, 3) := by decide +kernel
theorem dX8_digest_39 : decode cX8_digest 39 = .ok (.i2l, 1) := by decide +kernel
theorem dX8_digest_40 : decode cX8_digest 40 = .ok (.invokevirtual 291, 3) := by decide +kernel
theorem dX8_digest_43 : decode cX8_digest 43 = .ok (.iinc 1 1, 3) := by decide +kernel
theorem dX8_digest_46 : decode cX8_digest 46 = .ok (.goto (-25), 3) := by decide +kernel
theorem dX8_digest_49 : decode cX8_digest 49 = .ok (.iconst 0, 1) := by decide +kernel
theorem dX8_digest_50 : decode cX8_digest 50 = .ok (.istore_n 1, 1) := by decide +kernel
theorem dX8_digest_51 : decode cX8_digest 51 = .ok (.iload_n 1, 1) := by decide +kernel
theorem dX8_digest_52 : decode cX8_digest 52 = .ok (.aload_n 0, 1) := by decide +kernel
theorem dX8_digest_53 : decode cX8_digest 53 = .ok (.getfield 69, 3) := by decide +kernel
theorem dX8_digest_56 : decode cX8_digest 56 = .ok (.if_icmp .ge 20, 3) := by decide +kernel
theorem dX8_digest_59 : decode cX8_digest 59 = .ok (.aload_n 0, 1) := by decide +kernel
theorem dX8_digest_60 : decode cX8_digest 60 = .ok (.aload_n 0, 1) := by decide +kernel
theorem dX8_digest_61 : decode cX8_digest 61 = .ok (.getfield 19, 3) := by decide +kernel
theorem dX8_digest_64 : decode cX8_digest 64 = .ok (.iload_n 1, 1) := by decide +kernel
theorem dX8_digest_65 : decode cX8_digest 65 = .ok (.iaload, 1) := by decide +kernel
theorem dX8_digest_66 : decode cX8_digest 66 = .ok (.i2l, 1) := by decide +kernel
theorem dX8_digest_67 : decode cX8_digest 67 = .ok (.invokevirtual 291, 3) := by decide +kernel
theorem dX8_digest_70 : decode cX8_digest 70 = .ok (.iinc 1 1, 3) := by decide +kernel
theorem dX8_digest_73 : decode cX8_digest 73 = .ok (.goto (-22), 3) := by decide +kernel
theorem dX8_digest_76 : decode cX8_digest 76 = .ok (.iconst 0, 1) := by decide +kernel
theorem dX8_digest_77 : decode cX8_digest 77 = .ok (.istore_n 1, 1) := by decide +kernel
theorem dX8_digest_78 : decode cX8_digest 78 = .ok (.iload_n 1, 1) := by decide +kernel
theorem dX8_digest_79 : decode cX8_digest 79 = .ok (.iconst 5, 1) := by decide +kernel
theorem dX8_digest_80 : decode cX8_digest 80 = .ok (.if_icmp .ge 19, 3) := by decide +kernel
theorem dX8_digest_83 : decode cX8_digest 83 = .ok (.aload_n 0, 1) := by decide +kernel
theorem dX8_digest_84 : decode cX8_digest 84 = .ok (.aload_n 0, 1) := by decide +kernel
theorem dX8_digest_85 : decode cX8_digest 85 = .ok (.iload_n 1, 1) := by decide +kernel
theorem dX8_digest_86 : decode cX8_digest 86 = .ok (.invokevirtual 282, 3) := by decide +kernel
theorem dX8_digest_89 : decode cX8_digest 89 = .ok (.i2l, 1) := by decide +kernel
theorem dX8_digest_90 : decode cX8_digest 90 = .ok (.invokevirtual 291, 3) := by decide +kernel
theorem dX8_digest_93 : decode cX8_digest 93 = .ok (.iinc 1 1, 3) := by decide +kernel
theorem dX8_digest_96 : decode cX8_digest 96 = .ok (.goto (-18), 3) := by decide +kernel
theorem dX8_digest_99 : decode cX8_digest 99 = .ok (.aload_n 0, 1) := by decide +kernel
theorem dX8_digest_100 : decode cX8_digest 100 = .ok (.getfield 287, 3) := by decide +kernel
theorem dX8_digest_103 : decode cX8_digest 103 = .ok (.lreturn, 1) := by decide +kernel
end
section
def G : List Cond := lw_tbl.filter goodWord
theorem inG {w : Cond} (i : Nat) (h : lw_tbl[i]? = some w) (hg : goodWord w = true) : w ∈ G := List.mem_filter.mpr ⟨List.mem_of_getElem? h, hg⟩
theorem G_tbl {w : Cond} (h : w ∈ G) : w ∈ lw_tbl := (List.mem_filter.mp h).1
/-- the links of nest mates: said apart -/
def nestL : List (String × Nat × MethodName × String) := [(RX7, 9, yX5_init, RX7), (RX7, 18, yX6_init, RX7), (RX2, 11, yX1_init, RX7), (RX2, 20, yX4_init, RX7), (RX7, 34, yX0_init, RX7), (RX2, 125, yX7_packedWord, RX7), (RX3, 77, yX7_packedWord, RX7), (RX0, 42, yX7_packedWord, RX7)]
def Nst (U : State) : Prop := ∀ q ∈ nestL, va_Nw (.methodLinkNest q.1 q.2.1 q.2.2.1 q.2.2.2) U
theorem Nst.moved {s U : State} (hw : s.WarmedH U.vm) (h : Nst s) : Nst U := fun q hq => va_Nw.warmM hw (h q hq)
theorem Nst.same {s U : State} (e : s.vm = U.vm) (h : Nst s) : Nst U := fun q hq => va_Nw.same rfl e (h q hq)
theorem G_ok {y : MethodName} {cc : ByteArray} {n : Nat} {ret : Option FieldType} (h : Cond.code y cc n ret ∈ G) : GoodIn G (Cond.code y cc n ret :: G) := fun w hw => by
  have hm : w ∈ G := by
    rcases List.mem_cons.mp hw with e | e
    · rw [e]; exact h
    · exact e
  exact ⟨hm, good_of_word (List.mem_filter.mp hm).2⟩
/-- all fuel that a loop needs -/
theorem FU_ex : ∃ n : Nat, 1000000 ≤ n := ⟨1000000, Nat.le_refl _⟩
noncomputable def FU : Nat := Classical.choose FU_ex
theorem FU_big : 1000000 ≤ FU := Classical.choose_spec FU_ex
/-- a state: numbers, rows of numbers, longs, lengths -/
abbrev St : Type := (Nat → Int32) × (Nat → Nat → Int32) × (Nat → Int64) × (Nat → Nat)
def sI (st : St) (k : Nat) (v : Int32) : St := (va_up st.1 k v, st.2)
def sA (st : St) (c i : Nat) (v : Int32) : St := (st.1, va_up st.2.1 c (upd (st.2.1 c) i v), st.2.2)
def sJ (st : St) (i : Nat) (v : Int64) : St := (st.1, st.2.1, vp_updL st.2.2.1 i v, st.2.2.2)
def inb (i : Int32) (n : Nat) : Bool := decide (0 ≤ i.toInt ∧ i.toInt < n)
theorem inb_in {i : Int32} {n : Nat} (h : inb i n = true) : vp_in i n := vp_in_iff.mpr (of_decide_eq_true h)
theorem ite_n {α : Type} {c : Prop} {x : Decidable c} {a : Option α} {r : α} (h : (@ite _ c x a none) = some r) : c ∧ a = some r := by
  by_cases hc : c
  · rw [if_pos hc] at h; exact ⟨hc, h⟩
  · rw [if_neg hc] at h; cases h
theorem ite_t {α : Type} {c : Prop} {x : Decidable c} {a b : Option α} {r : α} (hc : c) (h : (@ite _ c x a b) = some r) : a = some r := by
  rw [if_pos hc] at h; exact h
theorem ite_f {α : Type} {c : Prop} {x : Decidable c} {a b : Option α} {r : α} (hc : ¬ c) (h : (@ite _ c x a b) = some r) : b = some r := by
  rw [if_neg hc] at h; exact h
theorem bnd {α β : Type} {o : Option α} {f : α → Option β} {r : β} (h : o.bind f = some r) : ∃ a, o = some a ∧ f a = some r := Option.bind_eq_some_iff.mp h
/-- cells by number -/
def cw (ad : Nat → Nat) (E : Nat → va_E) (n : Nat) : va_W := (List.range n).map (fun c => (ad c, E c))
theorem cw_at {ad : Nat → Nat} {E : Nat → va_E} {n c : Nat} (h : c < n) : (cw ad E n)[c]? = some (ad c, E c) := by
  unfold cw
  rw [List.getElem?_map, List.getElem?_range h]
  rfl
theorem cw_ate {ad : Nat → Nat} {E : Nat → va_E} {n c : Nat} {x : va_E} (h : c < n) (he : E c = x) : (cw ad E n)[c]? = some (ad c, x) := by
  rw [← he]; exact cw_at h
theorem cw_out {ad : Nat → Nat} {E : Nat → va_E} {n c : Nat} (h : ¬ c < n) : (cw ad E n)[c]? = none := by
  unfold cw
  apply List.getElem?_eq_none
  rw [List.length_map, List.length_range]
  omega
theorem cw_set {ad : Nat → Nat} {E E' : Nat → va_E} {n c : Nat} {x : va_E} (h : c < n) (hc : E' c = x) (ho : ∀ j, j < n → j ≠ c → E' j = E j) : (cw ad E n).set c (ad c, x) = cw ad E' n := by
  apply List.ext_getElem?
  intro j
  rw [List.getElem?_set]
  by_cases hj : j < n
  · by_cases e : c = j
    · subst e
      rw [if_pos rfl, cw_at hj, hc]
      have hl : c < (cw ad E n).length := by unfold cw; rw [List.length_map, List.length_range]; exact h
      rw [if_pos hl]
    · rw [if_neg e, cw_at hj, cw_at hj, ho j hj (fun q => e q.symm)]
  · have hl : (cw ad E' n)[j]? = none := cw_out hj
    rw [hl, if_neg (by omega), cw_out hj]
abbrev Ev : Type := va_G × (ClassId × ClassId × ClassId × ClassId)
abbrev tyL (V : Ev) : List (ClassId × FieldType) := [(V.2.1, .int), (V.2.2.1, .long), (V.2.2.2.1, .boolean), (V.2.2.2.2, .array .int)]
/-- what stands at each step of a method -/
def Cx (V : Ev) (A : Nat → Prop) (cc : ByteArray) (nL : Nat) (own : String) (p : Program) (m : MethodId) (c : Code) (s : State) (args : Array Value) : Prop :=
  CallFix p m c cc nL s args G own ∧ va_K V.1 vwCl (tyL V) s ∧ (∀ q, s.heap.size ≤ q → A q) ∧ Nst s
def Pw (V : Ev) (A : Nat → Prop) (Wd : St → Heap → Prop) (st : St) (av : List Value) : Array Value → State → Prop := va_Pc av (fun U => Wd st U.heap ∧ va_K V.1 vwCl (tyL V) U ∧ (∀ q, U.heap.size ≤ q → A q) ∧ Nst U)
theorem Pw_blind {V : Ev} {A : Nat → Prop} {Wd : St → Heap → Prop} {st : St} {av : List Value} : FrameBlind (Pw V A Wd st av) := fun a U g mk h => by
  obtain ⟨h0, h1, h2, h3, h4⟩ := h
  exact ⟨h0, h1, va_K.moved (u := U) (U := U.calling g mk a) (Vm.Alike.refl U.vm) h2, h3, h4.same rfl⟩
theorem Pw_at {V : Ev} {A : Nat → Prop} {Wd : St → Heap → Prop} {st : St} {av : List Value} {s : State} {H : Heap} {locs : List Loc} (hW : Wd st H) (hK : va_K V.1 vwCl (tyL V) s) (hA : ∀ q, s.heap.size ≤ q → A q) (hN : Nst s) (hS : va_S A s.heap H locs) : ∀ U : State, U.heap = H → s.WarmedH U.vm → Pw V A Wd st av av.toArray U := fun U hU hw =>
  ⟨rfl, by rw [hU]; exact hW, va_K.moved hw.alike hK, fun q hq => hA q (Nat.le_trans hS.1 (by rw [← hU]; exact hq)), hN.moved hw⟩
abbrev Qwi (A : Nat → Prop) (Wd : St → Heap → Prop) (r : Int32) (st' : St) := va_Qi (fun (r' : Int32) (_ : Unit) => r' = r) (fun _ t => Wd st' t.heap) A
abbrev Qwl (A : Nat → Prop) (Wd : St → Heap → Prop) (r : Int64) (st' : St) := va_Ql (fun (r' : Int64) (_ : Unit) => r' = r) (fun _ t => Wd st' t.heap) A
abbrev Qwv (A : Nat → Prop) (Wd : St → Heap → Prop) (st' : St) := va_Qv (fun (_ : Unit) => True) (fun _ t => Wd st' t.heap) A
abbrev Qwr (A : Nat → Prop) (Wd : St → Heap → Prop) (r : Nat) (st' : St) := va_Qr (fun (_ : Unit) => True) (fun _ a t => a = r ∧ Wd st' t.heap) A
abbrev rmF (fr lo mc ms : Nat) : Room := { frames := fr, cells := mc, slots := ms, locals := lo }
abbrev Cn (l : Launch) (y : MethodName) (cc : ByteArray) (n : Nat) (ret : Option FieldType) (fr lo mc ms : Nat) (V : Ev) (A : Nat → Prop) (Wd : St → Heap → Prop) (st : St) (av : List Value) (Qc : Array Value → State → Outcome → State → Prop) : Prop :=
  Met l y (Cond.code y cc n ret :: G) (rmF fr lo mc ms) (Pw V A Wd st av) Qc mc ms A
/-- a method's words: of an instance's, of a static one -/
def Mwv (y : MethodName) (cc : ByteArray) (n k : Nat) (ret : Option FieldType) : Prop := Cond.code y cc n ret ∈ G ∧ Cond.instanceMethod y ∈ G ∧ Cond.selects y.cls y y ∈ G ∧ Cond.initialized y.cls ∈ G ∧ (y.cls ≠ "java/lang/invoke/MethodHandle" ∧ y.cls ≠ "java/lang/invoke/VarHandle" ∧ (parseMethodDescriptor y.desc).map (fun d => d.parameters.length) = some k)
def Mws (y : MethodName) (cc : ByteArray) (n k : Nat) (ret : Option FieldType) : Prop := Cond.code y cc n ret ∈ G ∧ Cond.static y ∈ G ∧ Cond.initialized y.cls ∈ G ∧ (y.cls ≠ "java/lang/invoke/MethodHandle" ∧ y.cls ≠ "java/lang/invoke/VarHandle" ∧ (parseMethodDescriptor y.desc).map (fun d => d.parameters.length) = some k)
section BASE
variable {p : Program} {l : Launch} {e : Env} {R : Room} {s : State} {m : MethodId} {args : Array Value} {below : List Frame} {meth : Method} {c : Code} {H : Heap} {locs : List Loc} {cells slots : Nat} {Q : State → Prop}
variable {pc : Nat} {ls : Array Slot} {rest stk As : List Value} {cc bytes : ByteArray} {nL maxL idx n fr lo mc ms b : Nat} {own host : String} {V : Ev} {A : Nat → Prop} {Wd : St → Heap → Prop} {st st' : St} {y : MethodName} {ret : Option FieldType} {Qc : Array Value → State → Outcome → State → Prop}
theorem Cx.hx (X : Cx V A cc nL own p m c s args) : p.tables.exec = Jvm.exec := X.1.1
theorem Cx.hb (X : Cx V A cc nL own p m c s args) : c.code = cc := X.1.2.1
theorem Cx.hml (X : Cx V A cc nL own p m c s args) : c.maxLocals = nL := X.1.2.2.1
theorem Cx.ho (X : Cx V A cc nL own p m c s args) : s.vm.findClass own = some m.cls := X.1.2.2.2.1
theorem Cx.ts (X : Cx V A cc nL own p m c s args) {w : Cond} (h : w ∈ G) : w.before args s = true := X.1.2.2.2.2 w h
theorem Cx.hK (X : Cx V A cc nL own p m c s args) : va_K V.1 vwCl (tyL V) s := X.2.1
theorem Cx.hA (X : Cx V A cc nL own p m c s args) : ∀ q, s.heap.size ≤ q → A q := X.2.2.1
theorem Cx.hN (X : Cx V A cc nL own p m c s args) : Nst s := X.2.2.2
/-- an object's cell of a class -/
def Rcv (s : State) (H : Heap) (C : String) (b : Nat) : Prop := ∃ cell : Cell, H[b]? = some cell ∧ cell.vm.isStatics = false ∧ s.vm.findClass C = some cell.cls
theorem run_V (X : Cx V A cc nL own p m c s args) (hM : Cn l y bytes maxL ret fr lo mc ms V A Wd st (.ref b :: As) Qc) (mw : Mwv y bytes maxL n ret) (hl : Cond.methodLink own idx y ∈ G) (hrc : Rcv s H y.cls b) (hW : Wd st H) (hS : va_S A s.heap H locs)
    (hn : As.length = n) (hsz : ls.size = nL) (hstk : stk = As.reverse ++ .ref b :: rest) (hcat : (rest.map fun v => v.category).sum ≤ 8) (hR : fr + 1 ≤ R.frames ∧ 8 + (maxL + 11) + lo ≤ R.locals) (hf : cells + mc ≤ R.cells ∧ slots + ms ≤ R.slots) (hdg : decode cc pc = .ok (.invokevirtual idx, 3)) :
    va_Run p l e R s m args below meth c H locs cells slots mc ms (F0 m pc ls stk) rest (Qc (Value.ref b :: As).toArray) A :=
  va_runV X.1 hM ⟨callB_of n X.1.2.2.2.2 (G_ok mw.1) rfl rfl rfl (X.ts mw.2.2.2.1) (X.ts hl) mw.2.2.2.2 hR, X.ts mw.2.1, X.ts mw.2.2.1⟩ ⟨Pw_blind, hrc, Pw_at hW X.hK X.hA X.hN hS⟩ rfl hn hsz hstk (lv_room hcat) hdg hf
theorem run_S (X : Cx V A cc nL own p m c s args) (hM : Cn l y bytes maxL ret fr lo mc ms V A Wd st As Qc) (mw : Mws y bytes maxL n ret) (hl : Cond.methodLink own idx y ∈ G) (hW : Wd st H) (hS : va_S A s.heap H locs)
    (hn : As.length = n) (hsz : ls.size = nL) (hstk : stk = As.reverse ++ rest) (hcat : (rest.map fun v => v.category).sum ≤ 8) (hR : fr + 1 ≤ R.frames ∧ 8 + (maxL + 11) + lo ≤ R.locals) (hf : cells + mc ≤ R.cells ∧ slots + ms ≤ R.slots) (hdg : decode cc pc = .ok (.invokestatic idx, 3)) :
    va_Run p l e R s m args below meth c H locs cells slots mc ms (F0 m pc ls stk) rest (Qc As.toArray) A :=
  va_runS X.1 hM ⟨callB_of n X.1.2.2.2.2 (G_ok mw.1) rfl rfl rfl (X.ts mw.2.2.1) (X.ts hl) mw.2.2.2 hR, X.ts mw.2.1⟩ ⟨Pw_blind, Pw_at hW X.hK X.hA X.hN hS⟩ rfl hn hsz hstk (lv_room hcat) hdg hf
theorem run_SN (X : Cx V A cc nL own p m c s args) (hM : Cn l y bytes maxL ret fr lo mc ms V A Wd st As Qc) (mw : Mws y bytes maxL n ret) (hl : (own, idx, y, host) ∈ nestL) (hW : Wd st H) (hS : va_S A s.heap H locs)
    (hn : As.length = n) (hsz : ls.size = nL) (hstk : stk = As.reverse ++ rest) (hcat : (rest.map fun v => v.category).sum ≤ 8) (hR : fr + 1 ≤ R.frames ∧ 8 + (maxL + 11) + lo ≤ R.locals) (hf : cells + mc ≤ R.cells ∧ slots + ms ≤ R.slots) (hdg : decode cc pc = .ok (.invokestatic idx, 3)) :
    va_Run p l e R s m args below meth c H locs cells slots mc ms (F0 m pc ls stk) rest (Qc As.toArray) A :=
  va_runSN (host := host) X.1 hM ⟨va_cnB n X.1.2.2.2.2 (G_ok mw.1) rfl rfl rfl (X.hN _ hl) (X.ts mw.2.2.1) mw.2.2.2 hR, X.ts mw.2.1, trivial⟩ ⟨Pw_blind, Pw_at hW X.hK X.hA X.hN hS⟩ rfl hn hsz hstk (lv_room hcat) hdg hf
theorem cl_i {r : Int32} {a : Array Value} (hr : va_Run p l e R s m args below meth c H locs cells slots mc ms (F0 m pc ls stk) rest (Qwi A Wd r st' a) A) (hS : va_S A s.heap H locs)
    (kk : ∀ (H : Heap) (locs : List Loc), Wd st' H → va_S A s.heap H locs → W p l e R s m args below meth c H locs (cells + mc) (slots + ms) Q (F0 m (pc + 3) ls (.int r :: rest))) : W p l e R s m args below meth c H locs cells slots Q (F0 m pc ls stk) :=
  va_calli hr hS (fun _ _ h => h) (fun _ h => h) (fun r2 u t H1 locs1 ht hvm hp hB _ _ hS => by
    subst hp
    rw [ht] at hB
    exact kk H1 locs1 hB hS)
theorem cl_l {r : Int64} {a : Array Value} (hr : va_Run p l e R s m args below meth c H locs cells slots mc ms (F0 m pc ls stk) rest (Qwl A Wd r st' a) A) (hS : va_S A s.heap H locs)
    (kk : ∀ (H : Heap) (locs : List Loc), Wd st' H → va_S A s.heap H locs → W p l e R s m args below meth c H locs (cells + mc) (slots + ms) Q (F0 m (pc + 3) ls (.long r :: rest))) : W p l e R s m args below meth c H locs cells slots Q (F0 m pc ls stk) :=
  va_calll hr hS (fun _ _ h => h) (fun _ h => h) (fun r2 u t H1 locs1 ht hvm hp hB _ _ hS => by
    subst hp
    rw [ht] at hB
    exact kk H1 locs1 hB hS)
theorem cl_v {a : Array Value} (hr : va_Run p l e R s m args below meth c H locs cells slots mc ms (F0 m pc ls stk) rest (Qwv A Wd st' a) A) (hS : va_S A s.heap H locs)
    (kk : ∀ (H : Heap) (locs : List Loc), Wd st' H → va_S A s.heap H locs → W p l e R s m args below meth c H locs (cells + mc) (slots + ms) Q (F0 m (pc + 3) ls rest)) : W p l e R s m args below meth c H locs cells slots Q (F0 m pc ls stk) :=
  va_callv hr hS (fun _ _ h => h) (fun _ h => h) (fun u t H1 locs1 ht hvm hp hB _ _ hS => by
    rw [ht] at hB
    exact kk H1 locs1 hB hS)
theorem cl_r {r : Nat} {a : Array Value} (hr : va_Run p l e R s m args below meth c H locs cells slots mc ms (F0 m pc ls stk) rest (Qwr A Wd r st' a) A) (hS : va_S A s.heap H locs)
    (kk : ∀ (H : Heap) (locs : List Loc), Wd st' H → va_S A s.heap H locs → W p l e R s m args below meth c H locs (cells + mc) (slots + ms) Q (F0 m (pc + 3) ls (.ref r :: rest))) : W p l e R s m args below meth c H locs cells slots Q (F0 m pc ls stk) :=
  va_callr hr hS (fun _ _ h => h) (fun _ h => h) (fun u a t H1 locs1 ht hvm hp hB _ _ hS => by
    obtain ⟨rfl, hB⟩ := hB
    rw [ht] at hB
    exact kk H1 locs1 hB hS)
/-- ends -/
theorem rt_i {r v : Int32} (X : Cx V A cc nL own p m c s args) (hr : meth.sig.returnType = some .int) (hlocks : meth.locks = false) (hW : Wd st H) (hS : va_S A s.heap H locs) (hv : v = r) (h1 : cells ≤ mc) (h2 : slots ≤ ms) (hdg : decode cc pc = .ok (.ireturn, 1)) :
    W p l e R s m args below meth c H locs cells slots (MQ below (Qwi A Wd r st) args s mc ms A) (F0 m pc ls [.int v]) :=
  W.widen h1 h2 (W.iret (v := v) X.hx X.hb hr (fun t ht _ => ⟨⟨v, (), rfl, hv, by show Wd st t.heap; rw [ht]; exact hW⟩, hS.F ht⟩) hS.2.2 hdg)
theorem rt_z {r v : Int32} (X : Cx V A cc nL own p m c s args) (hr : meth.sig.returnType = some .boolean) (hlocks : meth.locks = false) (hW : Wd st H) (hS : va_S A s.heap H locs) (hz : v = 0 ∨ v = 1) (hv : v = r) (h1 : cells ≤ mc) (h2 : slots ≤ ms) (hdg : decode cc pc = .ok (.ireturn, 1)) :
    W p l e R s m args below meth c H locs cells slots (MQ below (Qwi A Wd r st) args s mc ms A) (F0 m pc ls [.int v]) :=
  W.widen h1 h2 (W.zret (v := v) X.hx X.hb hr (by rcases hz with h | h <;> rw [h] <;> decide) (fun t ht _ => ⟨⟨v, (), rfl, hv, by show Wd st t.heap; rw [ht]; exact hW⟩, hS.F ht⟩) hS.2.2 hdg)
theorem rt_l {r v : Int64} (X : Cx V A cc nL own p m c s args) (hr : meth.sig.returnType = some .long) (hlocks : meth.locks = false) (hW : Wd st H) (hS : va_S A s.heap H locs) (hv : v = r) (h1 : cells ≤ mc) (h2 : slots ≤ ms) (hdg : decode cc pc = .ok (.lreturn, 1)) :
    W p l e R s m args below meth c H locs cells slots (MQ below (Qwl A Wd r st) args s mc ms A) (F0 m pc ls [.long v]) :=
  W.widen h1 h2 (W.lret (v := v) X.hx X.hb hr (fun t ht _ => ⟨⟨v, (), rfl, hv, by show Wd st t.heap; rw [ht]; exact hW⟩, hS.F ht⟩) hS.2.2 hdg)
theorem rt_v (X : Cx V A cc nL own p m c s args) (hr : meth.sig.returnType = none) (hlocks : meth.locks = false) (hW : Wd st H) (hS : va_S A s.heap H locs) (h1 : cells ≤ mc) (h2 : slots ≤ ms) (hdg : decode cc pc = .ok (.return_, 1)) :
    W p l e R s m args below meth c H locs cells slots (MQ below (Qwv A Wd st) args s mc ms A) (F0 m pc ls []) :=
  W.widen h1 h2 (W.vret X.hx X.hb hr (fun t ht _ => ⟨⟨(), rfl, trivial, by show Wd st t.heap; rw [ht]; exact hW⟩, hS.F ht⟩) hS.2.2 hdg)
theorem rt_r {r : Nat} {C : String} (X : Cx V A cc nL own p m c s args) (hr : meth.sig.returnType = some (.object C)) (hlocks : meth.locks = false) (hW : Wd st H) (hS : va_S A s.heap H locs) {v : Nat} (hv : v = r) (h1 : cells ≤ mc) (h2 : slots ≤ ms) (hdg : decode cc pc = .ok (.areturn, 1)) :
    W p l e R s m args below meth c H locs cells slots (MQ below (Qwr A Wd r st) args s mc ms A) (F0 m pc ls [.ref v]) :=
  W.widen h1 h2 (W.aret (v := .ref v) X.hx X.hb hr (Or.inl ⟨_, rfl⟩) (Or.inr ⟨_, rfl⟩) (fun t ht _ => ⟨⟨(), v, rfl, trivial, hv, by show Wd st t.heap; rw [ht]; exact hW⟩, hS.F ht⟩) hS.2.2 hdg)
/-- a method's start: its contract out of the walk from its entry -/
theorem cn_of {cc : ByteArray} {av : List Value} (own : String) (hy : plainName y.cls = true) (ho : y.cls = own)
    (body : ∀ (p : Program) (e : Env) (s : State) (m : MethodId) (below : List Frame) (meth : Method) (c : Code) (ls : Array Slot), Cx V A cc maxL own p m c s av.toArray → meth.sig.returnType = ret → meth.locks = false → Wd st s.heap → va_S A s.heap s.heap [] → lv_has ls maxL (lv_args 0 av) →
      W p l e (rmF fr lo mc ms) s m av.toArray below meth c s.heap [] 0 0 (MQ below Qc av.toArray s mc ms A) (F0 m 0 ls [])) (hle : (lg_sl av).length ≤ maxL) : Cn l y cc maxL ret fr lo mc ms V A Wd st av Qc := by
  refine Met.ofW (cc := cc) (maxL := maxL) (ret := ret) hy rfl ?_
  intro p e s m args below meth c s₁ B hml hv
  obtain ⟨rfl, hW, hK, hA, hN⟩ := hv
  have hts := atoms_spec (ws := Cond.code y cc maxL ret :: G) B.pre
  have hown : s.vm.findClass own = some m.cls := by rw [← ho]; exact findClass_of_methodNamed B.named
  have hl := lv_entry av (n := maxL) hle
  rw [lg_entry_eq]
  generalize (lg_sl av ++ List.replicate (maxL - (lg_sl av).length) Slot.unset).toArray = ls at hl ⊢
  exact body p e s m below meth c ls ⟨⟨B.exec, B.bytes, hml, hown, fun w hw => hts w (List.mem_cons_of_mem _ hw)⟩, hK, hA, hN⟩ B.returns B.notSynchronized hW va_S.rf hl
end BASE
end
section
theorem fl_X7_additions : Cond.fieldLink RX7 50 "WordSquares" "additions" "I" ∈ G := inG 253 (by decide +kernel) (by decide +kernel)
theorem fl_X7_best : Cond.fieldLink RX7 39 "WordSquares" "best" "[I" ∈ G := inG 250 (by decide +kernel) (by decide +kernel)
theorem fl_X7_compared : Cond.fieldLink RX7 43 "WordSquares" "compared" "Z" ∈ G := inG 251 (by decide +kernel) (by decide +kernel)
theorem fl_X7_finder : Cond.fieldLink RX7 28 "WordSquares" "finder" "LWordSquares$Finder;" ∈ G := inG 248 (by decide +kernel) (by decide +kernel)
theorem fl_X7_list : Cond.fieldLink RX7 19 "WordSquares" "list" "LWordSquares$WordList;" ∈ G := inG 247 (by decide +kernel) (by decide +kernel)
theorem fl_X7_looked : Cond.fieldLink RX7 47 "WordSquares" "looked" "Z" ∈ G := inG 252 (by decide +kernel) (by decide +kernel)
theorem fl_X7_removals : Cond.fieldLink RX7 54 "WordSquares" "removals" "I" ∈ G := inG 254 (by decide +kernel) (by decide +kernel)
theorem fl_X7_table : Cond.fieldLink RX7 35 "WordSquares" "table" "LWordSquares$Board;" ∈ G := inG 249 (by decide +kernel) (by decide +kernel)
theorem fl_X7_text : Cond.fieldLink RX7 10 "WordSquares" "text" "LWordSquares$Text;" ∈ G := inG 246 (by decide +kernel) (by decide +kernel)
theorem fl_X0_fits : Cond.fieldLink RX0 18 "WordSquares$Board" "fits" "I" ∈ G := inG 238 (by decide +kernel) (by decide +kernel)
theorem fl_X0_placed : Cond.fieldLink RX0 9 "WordSquares$Board" "placed" "[I" ∈ G := inG 236 (by decide +kernel) (by decide +kernel)
theorem fl_X0_sets : Cond.fieldLink RX0 15 "WordSquares$Board" "sets" "[I" ∈ G := inG 237 (by decide +kernel) (by decide +kernel)
theorem fl_X1_seen : Cond.fieldLink RX1 9 "WordSquares$DeadEnds" "seen" "[J" ∈ G := inG 148 (by decide +kernel) (by decide +kernel)
theorem fl_X1_size : Cond.fieldLink RX1 13 "WordSquares$DeadEnds" "size" "I" ∈ G := inG 149 (by decide +kernel) (by decide +kernel)
theorem fl_X2_all : Cond.fieldLink RX2 21 "WordSquares$Finder" "all" "LWordSquares$SquareList;" ∈ G := inG 193 (by decide +kernel) (by decide +kernel)
theorem fl_X2_cuts : Cond.fieldLink RX2 51 "WordSquares$Finder" "cuts" "I" ∈ G := inG 202 (by decide +kernel) (by decide +kernel)
theorem fl_X2_dead : Cond.fieldLink RX2 45 "WordSquares$Finder" "dead" "I" ∈ G := inG 200 (by decide +kernel) (by decide +kernel)
theorem fl_X2_deadEnds : Cond.fieldLink RX2 12 "WordSquares$Finder" "deadEnds" "LWordSquares$DeadEnds;" ∈ G := inG 192 (by decide +kernel) (by decide +kernel)
theorem fl_X2_different : Cond.fieldLink RX2 28 "WordSquares$Finder" "different" "LWordSquares$SquareList;" ∈ G := inG 195 (by decide +kernel) (by decide +kernel)
theorem fl_X2_inColumns : Cond.fieldLink RX2 35 "WordSquares$Finder" "inColumns" "[I" ∈ G := inG 197 (by decide +kernel) (by decide +kernel)
theorem fl_X2_inRows : Cond.fieldLink RX2 31 "WordSquares$Finder" "inRows" "[I" ∈ G := inG 196 (by decide +kernel) (by decide +kernel)
theorem fl_X2_inSymmetric : Cond.fieldLink RX2 38 "WordSquares$Finder" "inSymmetric" "[I" ∈ G := inG 198 (by decide +kernel) (by decide +kernel)
theorem fl_X2_list : Cond.fieldLink RX2 54 "WordSquares$Finder" "list" "LWordSquares$WordList;" ∈ G := inG 190 (by decide +kernel) (by decide +kernel)
theorem fl_X2_prefixes : Cond.fieldLink RX2 63 "WordSquares$Finder" "prefixes" "LWordSquares$Prefixes;" ∈ G := inG 191 (by decide +kernel) (by decide +kernel)
theorem fl_X2_symmetric : Cond.fieldLink RX2 25 "WordSquares$Finder" "symmetric" "LWordSquares$SquareList;" ∈ G := inG 194 (by decide +kernel) (by decide +kernel)
theorem fl_X2_visits : Cond.fieldLink RX2 41 "WordSquares$Finder" "visits" "I" ∈ G := inG 199 (by decide +kernel) (by decide +kernel)
theorem fl_X2_visitsWithMemory : Cond.fieldLink RX2 48 "WordSquares$Finder" "visitsWithMemory" "I" ∈ G := inG 201 (by decide +kernel) (by decide +kernel)
theorem fl_X3_likes : Cond.fieldLink RX3 19 "WordSquares$Prefixes" "likes" "[[I" ∈ G := inG 180 (by decide +kernel) (by decide +kernel)
theorem fl_X3_list : Cond.fieldLink RX3 22 "WordSquares$Prefixes" "list" "LWordSquares$WordList;" ∈ G := inG 177 (by decide +kernel) (by decide +kernel)
theorem fl_X3_longer : Cond.fieldLink RX3 11 "WordSquares$Prefixes" "longer" "[[I" ∈ G := inG 178 (by decide +kernel) (by decide +kernel)
theorem fl_X3_takers : Cond.fieldLink RX3 16 "WordSquares$Prefixes" "takers" "[[I" ∈ G := inG 179 (by decide +kernel) (by decide +kernel)
theorem fl_X4_items : Cond.fieldLink RX4 9 "WordSquares$SquareList" "items" "[I" ∈ G := inG 162 (by decide +kernel) (by decide +kernel)
theorem fl_X4_size : Cond.fieldLink RX4 13 "WordSquares$SquareList" "size" "I" ∈ G := inG 163 (by decide +kernel) (by decide +kernel)
theorem fl_X5_signs : Cond.fieldLink RX5 9 "WordSquares$Text" "signs" "[I" ∈ G := inG 109 (by decide +kernel) (by decide +kernel)
theorem fl_X5_size : Cond.fieldLink RX5 15 "WordSquares$Text" "size" "I" ∈ G := inG 110 (by decide +kernel) (by decide +kernel)
theorem fl_X6_codes : Cond.fieldLink RX6 9 "WordSquares$WordList" "codes" "[I" ∈ G := inG 123 (by decide +kernel) (by decide +kernel)
theorem fl_X6_length : Cond.fieldLink RX6 22 "WordSquares$WordList" "length" "I" ∈ G := inG 126 (by decide +kernel) (by decide +kernel)
theorem fl_X6_size : Cond.fieldLink RX6 18 "WordSquares$WordList" "size" "I" ∈ G := inG 125 (by decide +kernel) (by decide +kernel)
theorem fl_X6_weights : Cond.fieldLink RX6 15 "WordSquares$WordList" "weights" "[I" ∈ G := inG 124 (by decide +kernel) (by decide +kernel)
theorem fl_X8_columnBy : Cond.fieldLink RX8 56 "WordSquaresModel" "columnBy" "[I" ∈ G := inG 817 (by decide +kernel) (by decide +kernel)
theorem fl_X8_columnWord : Cond.fieldLink RX8 28 "WordSquaresModel" "columnWord" "[I" ∈ G := inG 807 (by decide +kernel) (by decide +kernel)
theorem fl_X8_cuts : Cond.fieldLink RX8 261 "WordSquaresModel" "cuts" "I" ∈ G := inG 820 (by decide +kernel) (by decide +kernel)
theorem fl_X8_dead : Cond.fieldLink RX8 246 "WordSquaresModel" "dead" "I" ∈ G := inG 819 (by decide +kernel) (by decide +kernel)
theorem fl_X8_fitting : Cond.fieldLink RX8 210 "WordSquaresModel" "fitting" "I" ∈ G := inG 812 (by decide +kernel) (by decide +kernel)
theorem fl_X8_h : Cond.fieldLink RX8 287 "WordSquaresModel" "h" "J" ∈ G := inG 823 (by decide +kernel) (by decide +kernel)
theorem fl_X8_inColumns : Cond.fieldLink RX8 37 "WordSquaresModel" "inColumns" "[I" ∈ G := inG 810 (by decide +kernel) (by decide +kernel)
theorem fl_X8_inRows : Cond.fieldLink RX8 34 "WordSquaresModel" "inRows" "[I" ∈ G := inG 809 (by decide +kernel) (by decide +kernel)
theorem fl_X8_inSame : Cond.fieldLink RX8 40 "WordSquaresModel" "inSame" "[I" ∈ G := inG 811 (by decide +kernel) (by decide +kernel)
theorem fl_X8_isLed : Cond.fieldLink RX8 52 "WordSquaresModel" "isLed" "[Z" ∈ G := inG 816 (by decide +kernel) (by decide +kernel)
theorem fl_X8_kept : Cond.fieldLink RX8 59 "WordSquaresModel" "kept" "[I" ∈ G := inG 822 (by decide +kernel) (by decide +kernel)
theorem fl_X8_keptMany : Cond.fieldLink RX8 243 "WordSquaresModel" "keptMany" "I" ∈ G := inG 821 (by decide +kernel) (by decide +kernel)
theorem fl_X8_laid : Cond.fieldLink RX8 16 "WordSquaresModel" "laid" "[I" ∈ G := inG 797 (by decide +kernel) (by decide +kernel)
theorem fl_X8_length : Cond.fieldLink RX8 100 "WordSquaresModel" "length" "I" ∈ G := inG 793 (by decide +kernel) (by decide +kernel)
theorem fl_X8_letters : Cond.fieldLink RX8 7 "WordSquaresModel" "letters" "[I" ∈ G := inG 795 (by decide +kernel) (by decide +kernel)
theorem fl_X8_mayBe : Cond.fieldLink RX8 43 "WordSquaresModel" "mayBe" "[I" ∈ G := inG 813 (by decide +kernel) (by decide +kernel)
theorem fl_X8_newAt : Cond.fieldLink RX8 79 "WordSquaresModel" "newAt" "I" ∈ G := inG 803 (by decide +kernel) (by decide +kernel)
theorem fl_X8_newLength : Cond.fieldLink RX8 76 "WordSquaresModel" "newLength" "I" ∈ G := inG 804 (by decide +kernel) (by decide +kernel)
theorem fl_X8_newLetters : Cond.fieldLink RX8 22 "WordSquaresModel" "newLetters" "[I" ∈ G := inG 805 (by decide +kernel) (by decide +kernel)
theorem fl_X8_newWords : Cond.fieldLink RX8 73 "WordSquaresModel" "newWords" "I" ∈ G := inG 802 (by decide +kernel) (by decide +kernel)
theorem fl_X8_page : Cond.fieldLink RX8 19 "WordSquaresModel" "page" "[I" ∈ G := inG 801 (by decide +kernel) (by decide +kernel)
theorem fl_X8_pageLength : Cond.fieldLink RX8 69 "WordSquaresModel" "pageLength" "I" ∈ G := inG 800 (by decide +kernel) (by decide +kernel)
theorem fl_X8_reads : Cond.fieldLink RX8 121 "WordSquaresModel" "reads" "I" ∈ G := inG 798 (by decide +kernel) (by decide +kernel)
theorem fl_X8_rowWord : Cond.fieldLink RX8 25 "WordSquaresModel" "rowWord" "[I" ∈ G := inG 806 (by decide +kernel) (by decide +kernel)
theorem fl_X8_sought : Cond.fieldLink RX8 31 "WordSquaresModel" "sought" "[I" ∈ G := inG 808 (by decide +kernel) (by decide +kernel)
theorem fl_X8_struck : Cond.fieldLink RX8 127 "WordSquaresModel" "struck" "I" ∈ G := inG 799 (by decide +kernel) (by decide +kernel)
theorem fl_X8_sureOf : Cond.fieldLink RX8 46 "WordSquaresModel" "sureOf" "[I" ∈ G := inG 814 (by decide +kernel) (by decide +kernel)
theorem fl_X8_tried : Cond.fieldLink RX8 49 "WordSquaresModel" "tried" "[I" ∈ G := inG 815 (by decide +kernel) (by decide +kernel)
theorem fl_X8_visited : Cond.fieldLink RX8 258 "WordSquaresModel" "visited" "I" ∈ G := inG 818 (by decide +kernel) (by decide +kernel)
theorem fl_X8_weights : Cond.fieldLink RX8 13 "WordSquaresModel" "weights" "[I" ∈ G := inG 796 (by decide +kernel) (by decide +kernel)
theorem fl_X8_words : Cond.fieldLink RX8 97 "WordSquaresModel" "words" "I" ∈ G := inG 794 (by decide +kernel) (by decide +kernel)
theorem inG_X0 : ∀ w ∈ u_ws RX0 TX0 3, w ∈ G := by decide +kernel
theorem ini_X0 : Cond.initialized RX0 ∈ G := inG 89 (by decide +kernel) (by decide +kernel)
theorem inG_X1 : ∀ w ∈ u_ws RX1 TX1 2, w ∈ G := by decide +kernel
theorem ini_X1 : Cond.initialized RX1 ∈ G := inG 86 (by decide +kernel) (by decide +kernel)
theorem inG_X2 : ∀ w ∈ u_ws RX2 TX2 13, w ∈ G := by decide +kernel
theorem ini_X2 : Cond.initialized RX2 ∈ G := inG 85 (by decide +kernel) (by decide +kernel)
theorem inG_X3 : ∀ w ∈ u_ws RX3 TX3 4, w ∈ G := by decide +kernel
theorem ini_X3 : Cond.initialized RX3 ∈ G := inG 88 (by decide +kernel) (by decide +kernel)
theorem inG_X4 : ∀ w ∈ u_ws RX4 TX4 2, w ∈ G := by decide +kernel
theorem ini_X4 : Cond.initialized RX4 ∈ G := inG 87 (by decide +kernel) (by decide +kernel)
theorem inG_X5 : ∀ w ∈ u_ws RX5 TX5 2, w ∈ G := by decide +kernel
theorem ini_X5 : Cond.initialized RX5 ∈ G := inG 83 (by decide +kernel) (by decide +kernel)
theorem inG_X6 : ∀ w ∈ u_ws RX6 TX6 4, w ∈ G := by decide +kernel
theorem ini_X6 : Cond.initialized RX6 ∈ G := inG 84 (by decide +kernel) (by decide +kernel)
theorem inG_X7 : ∀ w ∈ u_ws RX7 TX7 9, w ∈ G := by decide +kernel
theorem ini_X7 : Cond.initialized RX7 ∈ G := inG 82 (by decide +kernel) (by decide +kernel)
theorem inG_X8 : ∀ w ∈ u_ws RX8 TX8 31, w ∈ G := by decide +kernel
theorem ini_X8 : Cond.initialized RX8 ∈ G := inG 90 (by decide +kernel) (by decide +kernel)
theorem ini_J6 : Cond.initialized RJ6 ∈ G := inG 94 (by decide +kernel) (by decide +kernel)
theorem ini_J9 : Cond.initialized RJ9 ∈ G := inG 92 (by decide +kernel) (by decide +kernel)
theorem ini_J10 : Cond.initialized RJ10 ∈ G := inG 93 (by decide +kernel) (by decide +kernel)
theorem ini_J7 : Cond.initialized RJ7 ∈ G := inG 91 (by decide +kernel) (by decide +kernel)
theorem ini_L : Cond.initialized RL ∈ G := inG 81 (by decide +kernel) (by decide +kernel)
theorem kc_X0_init : Cond.code yX0_init cX0_init 1 none ∈ G := inG 234 (by decide +kernel) (by decide +kernel)
theorem kc_X0_clear : Cond.code yX0_clear cX0_clear 1 none ∈ G := inG 502 (by decide +kernel) (by decide +kernel)
theorem im_X0_clear : Cond.instanceMethod yX0_clear ∈ G := inG 500 (by decide +kernel) (by decide +kernel)
theorem se_X0_clear : Cond.selects yX0_clear.cls yX0_clear yX0_clear ∈ G := inG 501 (by decide +kernel) (by decide +kernel)
theorem mw_X0_clear : Mwv yX0_clear cX0_clear 1 0 none := ⟨kc_X0_clear, im_X0_clear, se_X0_clear, ini_X0, by decide +kernel⟩
theorem kc_X0_given : Cond.code yX0_given cX0_given 2 (some .int) ∈ G := inG 660 (by decide +kernel) (by decide +kernel)
theorem im_X0_given : Cond.instanceMethod yX0_given ∈ G := inG 658 (by decide +kernel) (by decide +kernel)
theorem se_X0_given : Cond.selects yX0_given.cls yX0_given yX0_given ∈ G := inG 659 (by decide +kernel) (by decide +kernel)
theorem mw_X0_given : Mwv yX0_given cX0_given 2 1 (some .int) := ⟨kc_X0_given, im_X0_given, se_X0_given, ini_X0, by decide +kernel⟩
theorem kc_X0_give : Cond.code yX0_give cX0_give 3 none ∈ G := inG 664 (by decide +kernel) (by decide +kernel)
theorem im_X0_give : Cond.instanceMethod yX0_give ∈ G := inG 662 (by decide +kernel) (by decide +kernel)
theorem se_X0_give : Cond.selects yX0_give.cls yX0_give yX0_give ∈ G := inG 663 (by decide +kernel) (by decide +kernel)
theorem mw_X0_give : Mwv yX0_give cX0_give 3 2 none := ⟨kc_X0_give, im_X0_give, se_X0_give, ini_X0, by decide +kernel⟩
theorem kc_X0_numberOfGiven : Cond.code yX0_numberOfGiven cX0_numberOfGiven 3 (some .int) ∈ G := inG 747 (by decide +kernel) (by decide +kernel)
theorem im_X0_numberOfGiven : Cond.instanceMethod yX0_numberOfGiven ∈ G := inG 745 (by decide +kernel) (by decide +kernel)
theorem se_X0_numberOfGiven : Cond.selects yX0_numberOfGiven.cls yX0_numberOfGiven yX0_numberOfGiven ∈ G := inG 746 (by decide +kernel) (by decide +kernel)
theorem mw_X0_numberOfGiven : Mwv yX0_numberOfGiven cX0_numberOfGiven 3 0 (some .int) := ⟨kc_X0_numberOfGiven, im_X0_numberOfGiven, se_X0_numberOfGiven, ini_X0, by decide +kernel⟩
theorem kc_X0_numberOfFitting : Cond.code yX0_numberOfFitting cX0_numberOfFitting 1 (some .int) ∈ G := inG 695 (by decide +kernel) (by decide +kernel)
theorem im_X0_numberOfFitting : Cond.instanceMethod yX0_numberOfFitting ∈ G := inG 693 (by decide +kernel) (by decide +kernel)
theorem se_X0_numberOfFitting : Cond.selects yX0_numberOfFitting.cls yX0_numberOfFitting yX0_numberOfFitting ∈ G := inG 694 (by decide +kernel) (by decide +kernel)
theorem mw_X0_numberOfFitting : Mwv yX0_numberOfFitting cX0_numberOfFitting 1 0 (some .int) := ⟨kc_X0_numberOfFitting, im_X0_numberOfFitting, se_X0_numberOfFitting, ini_X0, by decide +kernel⟩
theorem kc_X0_possible : Cond.code yX0_possible cX0_possible 2 (some .int) ∈ G := inG 703 (by decide +kernel) (by decide +kernel)
theorem im_X0_possible : Cond.instanceMethod yX0_possible ∈ G := inG 701 (by decide +kernel) (by decide +kernel)
theorem se_X0_possible : Cond.selects yX0_possible.cls yX0_possible yX0_possible ∈ G := inG 702 (by decide +kernel) (by decide +kernel)
theorem mw_X0_possible : Mwv yX0_possible cX0_possible 2 1 (some .int) := ⟨kc_X0_possible, im_X0_possible, se_X0_possible, ini_X0, by decide +kernel⟩
theorem kc_X0_look : Cond.code yX0_look cX0_look 7 none ∈ G := inG 684 (by decide +kernel) (by decide +kernel)
theorem im_X0_look : Cond.instanceMethod yX0_look ∈ G := inG 682 (by decide +kernel) (by decide +kernel)
theorem se_X0_look : Cond.selects yX0_look.cls yX0_look yX0_look ∈ G := inG 683 (by decide +kernel) (by decide +kernel)
theorem mw_X0_look : Mwv yX0_look cX0_look 7 2 none := ⟨kc_X0_look, im_X0_look, se_X0_look, ini_X0, by decide +kernel⟩
theorem kc_X0_addRows : Cond.code yX0_addRows cX0_addRows 4 none ∈ G := inG 690 (by decide +kernel) (by decide +kernel)
theorem im_X0_addRows : Cond.instanceMethod yX0_addRows ∈ G := inG 689 (by decide +kernel) (by decide +kernel)
theorem se_X0_addRows : Cond.selects yX0_addRows.cls yX0_addRows yX0_addRows ∈ G := inG 17 (by decide +kernel) (by decide +kernel)
theorem mw_X0_addRows : Mwv yX0_addRows cX0_addRows 4 2 none := ⟨kc_X0_addRows, im_X0_addRows, se_X0_addRows, ini_X0, by decide +kernel⟩
theorem kc_X1_init : Cond.code yX1_init cX1_init 1 none ∈ G := inG 146 (by decide +kernel) (by decide +kernel)
theorem kc_X1_size : Cond.code yX1_size cX1_size 1 (some .int) ∈ G := inG 739 (by decide +kernel) (by decide +kernel)
theorem im_X1_size : Cond.instanceMethod yX1_size ∈ G := inG 737 (by decide +kernel) (by decide +kernel)
theorem se_X1_size : Cond.selects yX1_size.cls yX1_size yX1_size ∈ G := inG 738 (by decide +kernel) (by decide +kernel)
theorem mw_X1_size : Mwv yX1_size cX1_size 1 0 (some .int) := ⟨kc_X1_size, im_X1_size, se_X1_size, ini_X1, by decide +kernel⟩
theorem kc_X1_clear : Cond.code yX1_clear cX1_clear 1 none ∈ G := inG 369 (by decide +kernel) (by decide +kernel)
theorem im_X1_clear : Cond.instanceMethod yX1_clear ∈ G := inG 367 (by decide +kernel) (by decide +kernel)
theorem se_X1_clear : Cond.selects yX1_clear.cls yX1_clear yX1_clear ∈ G := inG 368 (by decide +kernel) (by decide +kernel)
theorem mw_X1_clear : Mwv yX1_clear cX1_clear 1 0 none := ⟨kc_X1_clear, im_X1_clear, se_X1_clear, ini_X1, by decide +kernel⟩
theorem kc_X1_has : Cond.code yX1_has cX1_has 2 (some .boolean) ∈ G := inG 492 (by decide +kernel) (by decide +kernel)
theorem im_X1_has : Cond.instanceMethod yX1_has ∈ G := inG 490 (by decide +kernel) (by decide +kernel)
theorem se_X1_has : Cond.selects yX1_has.cls yX1_has yX1_has ∈ G := inG 491 (by decide +kernel) (by decide +kernel)
theorem mw_X1_has : Mwv yX1_has cX1_has 2 1 (some .boolean) := ⟨kc_X1_has, im_X1_has, se_X1_has, ini_X1, by decide +kernel⟩
theorem kc_X1_add : Cond.code yX1_add cX1_add 2 none ∈ G := inG 497 (by decide +kernel) (by decide +kernel)
theorem im_X1_add : Cond.instanceMethod yX1_add ∈ G := inG 495 (by decide +kernel) (by decide +kernel)
theorem se_X1_add : Cond.selects yX1_add.cls yX1_add yX1_add ∈ G := inG 496 (by decide +kernel) (by decide +kernel)
theorem mw_X1_add : Mwv yX1_add cX1_add 2 1 none := ⟨kc_X1_add, im_X1_add, se_X1_add, ini_X1, by decide +kernel⟩
theorem kc_X2_init : Cond.code yX2_init cX2_init 2 none ∈ G := inG 140 (by decide +kernel) (by decide +kernel)
theorem kc_X2_ofKind : Cond.code yX2_ofKind cX2_ofKind 2 (some (.object "WordSquares$SquareList")) ∈ G := inG 604 (by decide +kernel) (by decide +kernel)
theorem im_X2_ofKind : Cond.instanceMethod yX2_ofKind ∈ G := inG 602 (by decide +kernel) (by decide +kernel)
theorem se_X2_ofKind : Cond.selects yX2_ofKind.cls yX2_ofKind yX2_ofKind ∈ G := inG 603 (by decide +kernel) (by decide +kernel)
theorem mw_X2_ofKind : Mwv yX2_ofKind cX2_ofKind 2 1 (some (.object "WordSquares$SquareList")) := ⟨kc_X2_ofKind, im_X2_ofKind, se_X2_ofKind, ini_X2, by decide +kernel⟩
theorem kc_X2_timesInRows : Cond.code yX2_timesInRows cX2_timesInRows 2 (some .int) ∈ G := inG 563 (by decide +kernel) (by decide +kernel)
theorem im_X2_timesInRows : Cond.instanceMethod yX2_timesInRows ∈ G := inG 561 (by decide +kernel) (by decide +kernel)
theorem se_X2_timesInRows : Cond.selects yX2_timesInRows.cls yX2_timesInRows yX2_timesInRows ∈ G := inG 562 (by decide +kernel) (by decide +kernel)
theorem mw_X2_timesInRows : Mwv yX2_timesInRows cX2_timesInRows 2 1 (some .int) := ⟨kc_X2_timesInRows, im_X2_timesInRows, se_X2_timesInRows, ini_X2, by decide +kernel⟩
theorem kc_X2_timesInColumns : Cond.code yX2_timesInColumns cX2_timesInColumns 2 (some .int) ∈ G := inG 567 (by decide +kernel) (by decide +kernel)
theorem im_X2_timesInColumns : Cond.instanceMethod yX2_timesInColumns ∈ G := inG 565 (by decide +kernel) (by decide +kernel)
theorem se_X2_timesInColumns : Cond.selects yX2_timesInColumns.cls yX2_timesInColumns yX2_timesInColumns ∈ G := inG 566 (by decide +kernel) (by decide +kernel)
theorem mw_X2_timesInColumns : Mwv yX2_timesInColumns cX2_timesInColumns 2 1 (some .int) := ⟨kc_X2_timesInColumns, im_X2_timesInColumns, se_X2_timesInColumns, ini_X2, by decide +kernel⟩
theorem kc_X2_timesInSymmetric : Cond.code yX2_timesInSymmetric cX2_timesInSymmetric 2 (some .int) ∈ G := inG 571 (by decide +kernel) (by decide +kernel)
theorem im_X2_timesInSymmetric : Cond.instanceMethod yX2_timesInSymmetric ∈ G := inG 569 (by decide +kernel) (by decide +kernel)
theorem se_X2_timesInSymmetric : Cond.selects yX2_timesInSymmetric.cls yX2_timesInSymmetric yX2_timesInSymmetric ∈ G := inG 570 (by decide +kernel) (by decide +kernel)
theorem mw_X2_timesInSymmetric : Mwv yX2_timesInSymmetric cX2_timesInSymmetric 2 1 (some .int) := ⟨kc_X2_timesInSymmetric, im_X2_timesInSymmetric, se_X2_timesInSymmetric, ini_X2, by decide +kernel⟩
theorem kc_X2_plainVisits : Cond.code yX2_plainVisits cX2_plainVisits 1 (some .int) ∈ G := inG 719 (by decide +kernel) (by decide +kernel)
theorem im_X2_plainVisits : Cond.instanceMethod yX2_plainVisits ∈ G := inG 717 (by decide +kernel) (by decide +kernel)
theorem se_X2_plainVisits : Cond.selects yX2_plainVisits.cls yX2_plainVisits yX2_plainVisits ∈ G := inG 718 (by decide +kernel) (by decide +kernel)
theorem mw_X2_plainVisits : Mwv yX2_plainVisits cX2_plainVisits 1 0 (some .int) := ⟨kc_X2_plainVisits, im_X2_plainVisits, se_X2_plainVisits, ini_X2, by decide +kernel⟩
theorem kc_X2_plainDead : Cond.code yX2_plainDead cX2_plainDead 1 (some .int) ∈ G := inG 723 (by decide +kernel) (by decide +kernel)
theorem im_X2_plainDead : Cond.instanceMethod yX2_plainDead ∈ G := inG 721 (by decide +kernel) (by decide +kernel)
theorem se_X2_plainDead : Cond.selects yX2_plainDead.cls yX2_plainDead yX2_plainDead ∈ G := inG 722 (by decide +kernel) (by decide +kernel)
theorem mw_X2_plainDead : Mwv yX2_plainDead cX2_plainDead 1 0 (some .int) := ⟨kc_X2_plainDead, im_X2_plainDead, se_X2_plainDead, ini_X2, by decide +kernel⟩
theorem kc_X2_memoryVisits : Cond.code yX2_memoryVisits cX2_memoryVisits 1 (some .int) ∈ G := inG 727 (by decide +kernel) (by decide +kernel)
theorem im_X2_memoryVisits : Cond.instanceMethod yX2_memoryVisits ∈ G := inG 725 (by decide +kernel) (by decide +kernel)
theorem se_X2_memoryVisits : Cond.selects yX2_memoryVisits.cls yX2_memoryVisits yX2_memoryVisits ∈ G := inG 726 (by decide +kernel) (by decide +kernel)
theorem mw_X2_memoryVisits : Mwv yX2_memoryVisits cX2_memoryVisits 1 0 (some .int) := ⟨kc_X2_memoryVisits, im_X2_memoryVisits, se_X2_memoryVisits, ini_X2, by decide +kernel⟩
theorem kc_X2_memoryCuts : Cond.code yX2_memoryCuts cX2_memoryCuts 1 (some .int) ∈ G := inG 731 (by decide +kernel) (by decide +kernel)
theorem im_X2_memoryCuts : Cond.instanceMethod yX2_memoryCuts ∈ G := inG 729 (by decide +kernel) (by decide +kernel)
theorem se_X2_memoryCuts : Cond.selects yX2_memoryCuts.cls yX2_memoryCuts yX2_memoryCuts ∈ G := inG 730 (by decide +kernel) (by decide +kernel)
theorem mw_X2_memoryCuts : Mwv yX2_memoryCuts cX2_memoryCuts 1 0 (some .int) := ⟨kc_X2_memoryCuts, im_X2_memoryCuts, se_X2_memoryCuts, ini_X2, by decide +kernel⟩
theorem kc_X2_memorySize : Cond.code yX2_memorySize cX2_memorySize 1 (some .int) ∈ G := inG 735 (by decide +kernel) (by decide +kernel)
theorem im_X2_memorySize : Cond.instanceMethod yX2_memorySize ∈ G := inG 733 (by decide +kernel) (by decide +kernel)
theorem se_X2_memorySize : Cond.selects yX2_memorySize.cls yX2_memorySize yX2_memorySize ∈ G := inG 734 (by decide +kernel) (by decide +kernel)
theorem mw_X2_memorySize : Mwv yX2_memorySize cX2_memorySize 1 0 (some .int) := ⟨kc_X2_memorySize, im_X2_memorySize, se_X2_memorySize, ini_X2, by decide +kernel⟩
theorem kc_X2_run : Cond.code yX2_run cX2_run 1 none ∈ G := inG 361 (by decide +kernel) (by decide +kernel)
theorem im_X2_run : Cond.instanceMethod yX2_run ∈ G := inG 359 (by decide +kernel) (by decide +kernel)
theorem se_X2_run : Cond.selects yX2_run.cls yX2_run yX2_run ∈ G := inG 360 (by decide +kernel) (by decide +kernel)
theorem mw_X2_run : Mwv yX2_run cX2_run 1 0 none := ⟨kc_X2_run, im_X2_run, se_X2_run, ini_X2, by decide +kernel⟩
theorem kc_X2_clear : Cond.code yX2_clear cX2_clear 1 none ∈ G := inG 365 (by decide +kernel) (by decide +kernel)
theorem im_X2_clear : Cond.instanceMethod yX2_clear ∈ G := inG 364 (by decide +kernel) (by decide +kernel)
theorem se_X2_clear : Cond.selects yX2_clear.cls yX2_clear yX2_clear ∈ G := inG 4 (by decide +kernel) (by decide +kernel)
theorem mw_X2_clear : Mwv yX2_clear cX2_clear 1 0 none := ⟨kc_X2_clear, im_X2_clear, se_X2_clear, ini_X2, by decide +kernel⟩
theorem kc_X2_explore : Cond.code yX2_explore cX2_explore 7 (some .boolean) ∈ G := inG 433 (by decide +kernel) (by decide +kernel)
theorem im_X2_explore : Cond.instanceMethod yX2_explore ∈ G := inG 432 (by decide +kernel) (by decide +kernel)
theorem se_X2_explore : Cond.selects yX2_explore.cls yX2_explore yX2_explore ∈ G := inG 10 (by decide +kernel) (by decide +kernel)
theorem mw_X2_explore : Mwv yX2_explore cX2_explore 7 3 (some .boolean) := ⟨kc_X2_explore, im_X2_explore, se_X2_explore, ini_X2, by decide +kernel⟩
theorem kc_X2_exploreWithMemory : Cond.code yX2_exploreWithMemory cX2_exploreWithMemory 7 (some .boolean) ∈ G := inG 484 (by decide +kernel) (by decide +kernel)
theorem im_X2_exploreWithMemory : Cond.instanceMethod yX2_exploreWithMemory ∈ G := inG 483 (by decide +kernel) (by decide +kernel)
theorem se_X2_exploreWithMemory : Cond.selects yX2_exploreWithMemory.cls yX2_exploreWithMemory yX2_exploreWithMemory ∈ G := inG 13 (by decide +kernel) (by decide +kernel)
theorem mw_X2_exploreWithMemory : Mwv yX2_exploreWithMemory cX2_exploreWithMemory 7 2 (some .boolean) := ⟨kc_X2_exploreWithMemory, im_X2_exploreWithMemory, se_X2_exploreWithMemory, ini_X2, by decide +kernel⟩
theorem kc_X2_keep : Cond.code yX2_keep cX2_keep 8 none ∈ G := inG 438 (by decide +kernel) (by decide +kernel)
theorem im_X2_keep : Cond.instanceMethod yX2_keep ∈ G := inG 437 (by decide +kernel) (by decide +kernel)
theorem se_X2_keep : Cond.selects yX2_keep.cls yX2_keep yX2_keep ∈ G := inG 11 (by decide +kernel) (by decide +kernel)
theorem mw_X2_keep : Mwv yX2_keep cX2_keep 8 2 none := ⟨kc_X2_keep, im_X2_keep, se_X2_keep, ini_X2, by decide +kernel⟩
theorem kc_X2_countSymmetric : Cond.code yX2_countSymmetric cX2_countSymmetric 3 none ∈ G := inG 465 (by decide +kernel) (by decide +kernel)
theorem im_X2_countSymmetric : Cond.instanceMethod yX2_countSymmetric ∈ G := inG 464 (by decide +kernel) (by decide +kernel)
theorem se_X2_countSymmetric : Cond.selects yX2_countSymmetric.cls yX2_countSymmetric yX2_countSymmetric ∈ G := inG 12 (by decide +kernel) (by decide +kernel)
theorem mw_X2_countSymmetric : Mwv yX2_countSymmetric cX2_countSymmetric 3 1 none := ⟨kc_X2_countSymmetric, im_X2_countSymmetric, se_X2_countSymmetric, ini_X2, by decide +kernel⟩
theorem kc_X3_init : Cond.code yX3_init cX3_init 2 none ∈ G := inG 173 (by decide +kernel) (by decide +kernel)
theorem kc_X3_build : Cond.code yX3_build cX3_build 3 none ∈ G := inG 384 (by decide +kernel) (by decide +kernel)
theorem im_X3_build : Cond.instanceMethod yX3_build ∈ G := inG 382 (by decide +kernel) (by decide +kernel)
theorem se_X3_build : Cond.selects yX3_build.cls yX3_build yX3_build ∈ G := inG 383 (by decide +kernel) (by decide +kernel)
theorem mw_X3_build : Mwv yX3_build cX3_build 3 0 none := ⟨kc_X3_build, im_X3_build, se_X3_build, ini_X3, by decide +kernel⟩
theorem kc_X3_isHead : Cond.code yX3_isHead cX3_isHead 3 (some .boolean) ∈ G := inG 398 (by decide +kernel) (by decide +kernel)
theorem im_X3_isHead : Cond.instanceMethod yX3_isHead ∈ G := inG 397 (by decide +kernel) (by decide +kernel)
theorem se_X3_isHead : Cond.selects yX3_isHead.cls yX3_isHead yX3_isHead ∈ G := inG 6 (by decide +kernel) (by decide +kernel)
theorem mw_X3_isHead : Mwv yX3_isHead cX3_isHead 3 2 (some .boolean) := ⟨kc_X3_isHead, im_X3_isHead, se_X3_isHead, ini_X3, by decide +kernel⟩
theorem kc_X3_buildLonger : Cond.code yX3_buildLonger cX3_buildLonger 5 none ∈ G := inG 392 (by decide +kernel) (by decide +kernel)
theorem im_X3_buildLonger : Cond.instanceMethod yX3_buildLonger ∈ G := inG 391 (by decide +kernel) (by decide +kernel)
theorem se_X3_buildLonger : Cond.selects yX3_buildLonger.cls yX3_buildLonger yX3_buildLonger ∈ G := inG 5 (by decide +kernel) (by decide +kernel)
theorem mw_X3_buildLonger : Mwv yX3_buildLonger cX3_buildLonger 5 1 none := ⟨kc_X3_buildLonger, im_X3_buildLonger, se_X3_buildLonger, ini_X3, by decide +kernel⟩
theorem kc_X3_buildTakers : Cond.code yX3_buildTakers cX3_buildTakers 6 none ∈ G := inG 413 (by decide +kernel) (by decide +kernel)
theorem im_X3_buildTakers : Cond.instanceMethod yX3_buildTakers ∈ G := inG 412 (by decide +kernel) (by decide +kernel)
theorem se_X3_buildTakers : Cond.selects yX3_buildTakers.cls yX3_buildTakers yX3_buildTakers ∈ G := inG 7 (by decide +kernel) (by decide +kernel)
theorem mw_X3_buildTakers : Mwv yX3_buildTakers cX3_buildTakers 6 2 none := ⟨kc_X3_buildTakers, im_X3_buildTakers, se_X3_buildTakers, ini_X3, by decide +kernel⟩
theorem kc_X3_firstAlike : Cond.code yX3_firstAlike cX3_firstAlike 4 (some .int) ∈ G := inG 417 (by decide +kernel) (by decide +kernel)
theorem im_X3_firstAlike : Cond.instanceMethod yX3_firstAlike ∈ G := inG 416 (by decide +kernel) (by decide +kernel)
theorem se_X3_firstAlike : Cond.selects yX3_firstAlike.cls yX3_firstAlike yX3_firstAlike ∈ G := inG 8 (by decide +kernel) (by decide +kernel)
theorem mw_X3_firstAlike : Mwv yX3_firstAlike cX3_firstAlike 4 2 (some .int) := ⟨kc_X3_firstAlike, im_X3_firstAlike, se_X3_firstAlike, ini_X3, by decide +kernel⟩
theorem kc_X3_sameRests : Cond.code yX3_sameRests cX3_sameRests 7 (some .boolean) ∈ G := inG 421 (by decide +kernel) (by decide +kernel)
theorem im_X3_sameRests : Cond.instanceMethod yX3_sameRests ∈ G := inG 420 (by decide +kernel) (by decide +kernel)
theorem se_X3_sameRests : Cond.selects yX3_sameRests.cls yX3_sameRests yX3_sameRests ∈ G := inG 9 (by decide +kernel) (by decide +kernel)
theorem mw_X3_sameRests : Mwv yX3_sameRests cX3_sameRests 7 3 (some .boolean) := ⟨kc_X3_sameRests, im_X3_sameRests, se_X3_sameRests, ini_X3, by decide +kernel⟩
theorem kc_X3_placeOf : Cond.code yX3_placeOf cX3_placeOf 2 (some .int) ∈ G := inG 409 (by decide +kernel) (by decide +kernel)
theorem st_X3_placeOf : Cond.static yX3_placeOf ∈ G := inG 408 (by decide +kernel) (by decide +kernel)
theorem mw_X3_placeOf : Mws yX3_placeOf cX3_placeOf 2 2 (some .int) := ⟨kc_X3_placeOf, st_X3_placeOf, ini_X3, by decide +kernel⟩
theorem kc_X3_nextRows : Cond.code yX3_nextRows cX3_nextRows 6 (some .int) ∈ G := inG 475 (by decide +kernel) (by decide +kernel)
theorem im_X3_nextRows : Cond.instanceMethod yX3_nextRows ∈ G := inG 473 (by decide +kernel) (by decide +kernel)
theorem se_X3_nextRows : Cond.selects yX3_nextRows.cls yX3_nextRows yX3_nextRows ∈ G := inG 474 (by decide +kernel) (by decide +kernel)
theorem mw_X3_nextRows : Mwv yX3_nextRows cX3_nextRows 6 2 (some .int) := ⟨kc_X3_nextRows, im_X3_nextRows, se_X3_nextRows, ini_X3, by decide +kernel⟩
theorem kc_X3_headsWith : Cond.code yX3_headsWith cX3_headsWith 8 (some .int) ∈ G := inG 480 (by decide +kernel) (by decide +kernel)
theorem im_X3_headsWith : Cond.instanceMethod yX3_headsWith ∈ G := inG 478 (by decide +kernel) (by decide +kernel)
theorem se_X3_headsWith : Cond.selects yX3_headsWith.cls yX3_headsWith yX3_headsWith ∈ G := inG 479 (by decide +kernel) (by decide +kernel)
theorem mw_X3_headsWith : Mwv yX3_headsWith cX3_headsWith 8 3 (some .int) := ⟨kc_X3_headsWith, im_X3_headsWith, se_X3_headsWith, ini_X3, by decide +kernel⟩
theorem kc_X3_likeness : Cond.code yX3_likeness cX3_likeness 6 (some .int) ∈ G := inG 488 (by decide +kernel) (by decide +kernel)
theorem im_X3_likeness : Cond.instanceMethod yX3_likeness ∈ G := inG 486 (by decide +kernel) (by decide +kernel)
theorem se_X3_likeness : Cond.selects yX3_likeness.cls yX3_likeness yX3_likeness ∈ G := inG 487 (by decide +kernel) (by decide +kernel)
theorem mw_X3_likeness : Mwv yX3_likeness cX3_likeness 6 2 (some .int) := ⟨kc_X3_likeness, im_X3_likeness, se_X3_likeness, ini_X3, by decide +kernel⟩
theorem kc_X4_init : Cond.code yX4_init cX4_init 1 none ∈ G := inG 160 (by decide +kernel) (by decide +kernel)
theorem kc_X4_size : Cond.code yX4_size cX4_size 1 (some .int) ∈ G := inG 608 (by decide +kernel) (by decide +kernel)
theorem im_X4_size : Cond.instanceMethod yX4_size ∈ G := inG 606 (by decide +kernel) (by decide +kernel)
theorem se_X4_size : Cond.selects yX4_size.cls yX4_size yX4_size ∈ G := inG 607 (by decide +kernel) (by decide +kernel)
theorem mw_X4_size : Mwv yX4_size cX4_size 1 0 (some .int) := ⟨kc_X4_size, im_X4_size, se_X4_size, ini_X4, by decide +kernel⟩
theorem kc_X4_clear : Cond.code yX4_clear cX4_clear 1 none ∈ G := inG 376 (by decide +kernel) (by decide +kernel)
theorem im_X4_clear : Cond.instanceMethod yX4_clear ∈ G := inG 374 (by decide +kernel) (by decide +kernel)
theorem se_X4_clear : Cond.selects yX4_clear.cls yX4_clear yX4_clear ∈ G := inG 375 (by decide +kernel) (by decide +kernel)
theorem mw_X4_clear : Mwv yX4_clear cX4_clear 1 0 none := ⟨kc_X4_clear, im_X4_clear, se_X4_clear, ini_X4, by decide +kernel⟩
theorem kc_X4_append : Cond.code yX4_append cX4_append 3 none ∈ G := inG 442 (by decide +kernel) (by decide +kernel)
theorem im_X4_append : Cond.instanceMethod yX4_append ∈ G := inG 440 (by decide +kernel) (by decide +kernel)
theorem se_X4_append : Cond.selects yX4_append.cls yX4_append yX4_append ∈ G := inG 441 (by decide +kernel) (by decide +kernel)
theorem mw_X4_append : Mwv yX4_append cX4_append 3 2 none := ⟨kc_X4_append, im_X4_append, se_X4_append, ini_X4, by decide +kernel⟩
theorem kc_X4_has : Cond.code yX4_has cX4_has 2 (some .boolean) ∈ G := inG 616 (by decide +kernel) (by decide +kernel)
theorem im_X4_has : Cond.instanceMethod yX4_has ∈ G := inG 614 (by decide +kernel) (by decide +kernel)
theorem se_X4_has : Cond.selects yX4_has.cls yX4_has yX4_has ∈ G := inG 615 (by decide +kernel) (by decide +kernel)
theorem mw_X4_has : Mwv yX4_has cX4_has 2 1 (some .boolean) := ⟨kc_X4_has, im_X4_has, se_X4_has, ini_X4, by decide +kernel⟩
theorem kc_X4_rowsOf : Cond.code yX4_rowsOf cX4_rowsOf 2 (some .int) ∈ G := inG 620 (by decide +kernel) (by decide +kernel)
theorem im_X4_rowsOf : Cond.instanceMethod yX4_rowsOf ∈ G := inG 618 (by decide +kernel) (by decide +kernel)
theorem se_X4_rowsOf : Cond.selects yX4_rowsOf.cls yX4_rowsOf yX4_rowsOf ∈ G := inG 619 (by decide +kernel) (by decide +kernel)
theorem mw_X4_rowsOf : Mwv yX4_rowsOf cX4_rowsOf 2 1 (some .int) := ⟨kc_X4_rowsOf, im_X4_rowsOf, se_X4_rowsOf, ini_X4, by decide +kernel⟩
theorem kc_X4_columnsOf : Cond.code yX4_columnsOf cX4_columnsOf 2 (some .int) ∈ G := inG 631 (by decide +kernel) (by decide +kernel)
theorem im_X4_columnsOf : Cond.instanceMethod yX4_columnsOf ∈ G := inG 629 (by decide +kernel) (by decide +kernel)
theorem se_X4_columnsOf : Cond.selects yX4_columnsOf.cls yX4_columnsOf yX4_columnsOf ∈ G := inG 630 (by decide +kernel) (by decide +kernel)
theorem mw_X4_columnsOf : Mwv yX4_columnsOf cX4_columnsOf 2 1 (some .int) := ⟨kc_X4_columnsOf, im_X4_columnsOf, se_X4_columnsOf, ini_X4, by decide +kernel⟩
theorem kc_X4_withRows : Cond.code yX4_withRows cX4_withRows 4 (some .int) ∈ G := inG 635 (by decide +kernel) (by decide +kernel)
theorem im_X4_withRows : Cond.instanceMethod yX4_withRows ∈ G := inG 633 (by decide +kernel) (by decide +kernel)
theorem se_X4_withRows : Cond.selects yX4_withRows.cls yX4_withRows yX4_withRows ∈ G := inG 634 (by decide +kernel) (by decide +kernel)
theorem mw_X4_withRows : Mwv yX4_withRows cX4_withRows 4 1 (some .int) := ⟨kc_X4_withRows, im_X4_withRows, se_X4_withRows, ini_X4, by decide +kernel⟩
theorem kc_X5_init : Cond.code yX5_init cX5_init 1 none ∈ G := inG 107 (by decide +kernel) (by decide +kernel)
theorem kc_X5_size : Cond.code yX5_size cX5_size 1 (some .int) ∈ G := inG 281 (by decide +kernel) (by decide +kernel)
theorem im_X5_size : Cond.instanceMethod yX5_size ∈ G := inG 279 (by decide +kernel) (by decide +kernel)
theorem se_X5_size : Cond.selects yX5_size.cls yX5_size yX5_size ∈ G := inG 280 (by decide +kernel) (by decide +kernel)
theorem mw_X5_size : Mwv yX5_size cX5_size 1 0 (some .int) := ⟨kc_X5_size, im_X5_size, se_X5_size, ini_X5, by decide +kernel⟩
theorem kc_X5_append : Cond.code yX5_append cX5_append 2 none ∈ G := inG 285 (by decide +kernel) (by decide +kernel)
theorem im_X5_append : Cond.instanceMethod yX5_append ∈ G := inG 283 (by decide +kernel) (by decide +kernel)
theorem se_X5_append : Cond.selects yX5_append.cls yX5_append yX5_append ∈ G := inG 284 (by decide +kernel) (by decide +kernel)
theorem mw_X5_append : Mwv yX5_append cX5_append 2 1 none := ⟨kc_X5_append, im_X5_append, se_X5_append, ini_X5, by decide +kernel⟩
theorem kc_X5_clear : Cond.code yX5_clear cX5_clear 1 none ∈ G := inG 293 (by decide +kernel) (by decide +kernel)
theorem im_X5_clear : Cond.instanceMethod yX5_clear ∈ G := inG 291 (by decide +kernel) (by decide +kernel)
theorem se_X5_clear : Cond.selects yX5_clear.cls yX5_clear yX5_clear ∈ G := inG 292 (by decide +kernel) (by decide +kernel)
theorem mw_X5_clear : Mwv yX5_clear cX5_clear 1 0 none := ⟨kc_X5_clear, im_X5_clear, se_X5_clear, ini_X5, by decide +kernel⟩
theorem kc_X5_codeAt : Cond.code yX5_codeAt cX5_codeAt 2 (some .int) ∈ G := inG 316 (by decide +kernel) (by decide +kernel)
theorem im_X5_codeAt : Cond.instanceMethod yX5_codeAt ∈ G := inG 314 (by decide +kernel) (by decide +kernel)
theorem se_X5_codeAt : Cond.selects yX5_codeAt.cls yX5_codeAt yX5_codeAt ∈ G := inG 315 (by decide +kernel) (by decide +kernel)
theorem mw_X5_codeAt : Mwv yX5_codeAt cX5_codeAt 2 1 (some .int) := ⟨kc_X5_codeAt, im_X5_codeAt, se_X5_codeAt, ini_X5, by decide +kernel⟩
theorem kc_X5_firstFault : Cond.code yX5_firstFault cX5_firstFault 7 (some .int) ∈ G := inG 301 (by decide +kernel) (by decide +kernel)
theorem im_X5_firstFault : Cond.instanceMethod yX5_firstFault ∈ G := inG 299 (by decide +kernel) (by decide +kernel)
theorem se_X5_firstFault : Cond.selects yX5_firstFault.cls yX5_firstFault yX5_firstFault ∈ G := inG 300 (by decide +kernel) (by decide +kernel)
theorem mw_X5_firstFault : Mwv yX5_firstFault cX5_firstFault 7 0 (some .int) := ⟨kc_X5_firstFault, im_X5_firstFault, se_X5_firstFault, ini_X5, by decide +kernel⟩
theorem kc_X5_isLetter : Cond.code yX5_isLetter cX5_isLetter 1 (some .boolean) ∈ G := inG 304 (by decide +kernel) (by decide +kernel)
theorem st_X5_isLetter : Cond.static yX5_isLetter ∈ G := inG 303 (by decide +kernel) (by decide +kernel)
theorem mw_X5_isLetter : Mws yX5_isLetter cX5_isLetter 1 1 (some .boolean) := ⟨kc_X5_isLetter, st_X5_isLetter, ini_X5, by decide +kernel⟩
theorem kc_X5_repeats : Cond.code yX5_repeats cX5_repeats 4 (some .boolean) ∈ G := inG 308 (by decide +kernel) (by decide +kernel)
theorem im_X5_repeats : Cond.instanceMethod yX5_repeats ∈ G := inG 307 (by decide +kernel) (by decide +kernel)
theorem se_X5_repeats : Cond.selects yX5_repeats.cls yX5_repeats yX5_repeats ∈ G := inG 0 (by decide +kernel) (by decide +kernel)
theorem mw_X5_repeats : Mwv yX5_repeats cX5_repeats 4 2 (some .boolean) := ⟨kc_X5_repeats, im_X5_repeats, se_X5_repeats, ini_X5, by decide +kernel⟩
theorem kc_X5_sameWord : Cond.code yX5_sameWord cX5_sameWord 5 (some .boolean) ∈ G := inG 312 (by decide +kernel) (by decide +kernel)
theorem im_X5_sameWord : Cond.instanceMethod yX5_sameWord ∈ G := inG 311 (by decide +kernel) (by decide +kernel)
theorem se_X5_sameWord : Cond.selects yX5_sameWord.cls yX5_sameWord yX5_sameWord ∈ G := inG 1 (by decide +kernel) (by decide +kernel)
theorem mw_X5_sameWord : Mwv yX5_sameWord cX5_sameWord 5 3 (some .boolean) := ⟨kc_X5_sameWord, im_X5_sameWord, se_X5_sameWord, ini_X5, by decide +kernel⟩
theorem kc_X5_lengthOfWords : Cond.code yX5_lengthOfWords cX5_lengthOfWords 2 (some .int) ∈ G := inG 324 (by decide +kernel) (by decide +kernel)
theorem im_X5_lengthOfWords : Cond.instanceMethod yX5_lengthOfWords ∈ G := inG 322 (by decide +kernel) (by decide +kernel)
theorem se_X5_lengthOfWords : Cond.selects yX5_lengthOfWords.cls yX5_lengthOfWords yX5_lengthOfWords ∈ G := inG 323 (by decide +kernel) (by decide +kernel)
theorem mw_X5_lengthOfWords : Mwv yX5_lengthOfWords cX5_lengthOfWords 2 0 (some .int) := ⟨kc_X5_lengthOfWords, im_X5_lengthOfWords, se_X5_lengthOfWords, ini_X5, by decide +kernel⟩
theorem kc_X5_firstComma : Cond.code yX5_firstComma cX5_firstComma 2 (some .int) ∈ G := inG 329 (by decide +kernel) (by decide +kernel)
theorem im_X5_firstComma : Cond.instanceMethod yX5_firstComma ∈ G := inG 328 (by decide +kernel) (by decide +kernel)
theorem se_X5_firstComma : Cond.selects yX5_firstComma.cls yX5_firstComma yX5_firstComma ∈ G := inG 2 (by decide +kernel) (by decide +kernel)
theorem mw_X5_firstComma : Mwv yX5_firstComma cX5_firstComma 2 0 (some .int) := ⟨kc_X5_firstComma, im_X5_firstComma, se_X5_firstComma, ini_X5, by decide +kernel⟩
theorem kc_X5_numberOfWords : Cond.code yX5_numberOfWords cX5_numberOfWords 2 (some .int) ∈ G := inG 337 (by decide +kernel) (by decide +kernel)
theorem im_X5_numberOfWords : Cond.instanceMethod yX5_numberOfWords ∈ G := inG 335 (by decide +kernel) (by decide +kernel)
theorem se_X5_numberOfWords : Cond.selects yX5_numberOfWords.cls yX5_numberOfWords yX5_numberOfWords ∈ G := inG 336 (by decide +kernel) (by decide +kernel)
theorem mw_X5_numberOfWords : Mwv yX5_numberOfWords cX5_numberOfWords 2 1 (some .int) := ⟨kc_X5_numberOfWords, im_X5_numberOfWords, se_X5_numberOfWords, ini_X5, by decide +kernel⟩
theorem kc_X5_codeOf : Cond.code yX5_codeOf cX5_codeOf 6 (some .int) ∈ G := inG 341 (by decide +kernel) (by decide +kernel)
theorem im_X5_codeOf : Cond.instanceMethod yX5_codeOf ∈ G := inG 339 (by decide +kernel) (by decide +kernel)
theorem se_X5_codeOf : Cond.selects yX5_codeOf.cls yX5_codeOf yX5_codeOf ∈ G := inG 340 (by decide +kernel) (by decide +kernel)
theorem mw_X5_codeOf : Mwv yX5_codeOf cX5_codeOf 6 2 (some .int) := ⟨kc_X5_codeOf, im_X5_codeOf, se_X5_codeOf, ini_X5, by decide +kernel⟩
theorem kc_X6_init : Cond.code yX6_init cX6_init 1 none ∈ G := inG 121 (by decide +kernel) (by decide +kernel)
theorem kc_X6_size : Cond.code yX6_size cX6_size 1 (some .int) ∈ G := inG 349 (by decide +kernel) (by decide +kernel)
theorem im_X6_size : Cond.instanceMethod yX6_size ∈ G := inG 347 (by decide +kernel) (by decide +kernel)
theorem se_X6_size : Cond.selects yX6_size.cls yX6_size yX6_size ∈ G := inG 348 (by decide +kernel) (by decide +kernel)
theorem mw_X6_size : Mwv yX6_size cX6_size 1 0 (some .int) := ⟨kc_X6_size, im_X6_size, se_X6_size, ini_X6, by decide +kernel⟩
theorem kc_X6_length : Cond.code yX6_length cX6_length 1 (some .int) ∈ G := inG 388 (by decide +kernel) (by decide +kernel)
theorem im_X6_length : Cond.instanceMethod yX6_length ∈ G := inG 386 (by decide +kernel) (by decide +kernel)
theorem se_X6_length : Cond.selects yX6_length.cls yX6_length yX6_length ∈ G := inG 387 (by decide +kernel) (by decide +kernel)
theorem mw_X6_length : Mwv yX6_length cX6_length 1 0 (some .int) := ⟨kc_X6_length, im_X6_length, se_X6_length, ini_X6, by decide +kernel⟩
theorem kc_X6_has : Cond.code yX6_has cX6_has 2 (some .boolean) ∈ G := inG 425 (by decide +kernel) (by decide +kernel)
theorem im_X6_has : Cond.instanceMethod yX6_has ∈ G := inG 423 (by decide +kernel) (by decide +kernel)
theorem se_X6_has : Cond.selects yX6_has.cls yX6_has yX6_has ∈ G := inG 424 (by decide +kernel) (by decide +kernel)
theorem mw_X6_has : Mwv yX6_has cX6_has 2 1 (some .boolean) := ⟨kc_X6_has, im_X6_has, se_X6_has, ini_X6, by decide +kernel⟩
theorem kc_X6_hasPlace : Cond.code yX6_hasPlace cX6_hasPlace 2 (some .boolean) ∈ G := inG 579 (by decide +kernel) (by decide +kernel)
theorem im_X6_hasPlace : Cond.instanceMethod yX6_hasPlace ∈ G := inG 577 (by decide +kernel) (by decide +kernel)
theorem se_X6_hasPlace : Cond.selects yX6_hasPlace.cls yX6_hasPlace yX6_hasPlace ∈ G := inG 578 (by decide +kernel) (by decide +kernel)
theorem mw_X6_hasPlace : Mwv yX6_hasPlace cX6_hasPlace 2 1 (some .boolean) := ⟨kc_X6_hasPlace, im_X6_hasPlace, se_X6_hasPlace, ini_X6, by decide +kernel⟩
theorem kc_X6_takesLength : Cond.code yX6_takesLength cX6_takesLength 2 (some .boolean) ∈ G := inG 333 (by decide +kernel) (by decide +kernel)
theorem im_X6_takesLength : Cond.instanceMethod yX6_takesLength ∈ G := inG 331 (by decide +kernel) (by decide +kernel)
theorem se_X6_takesLength : Cond.selects yX6_takesLength.cls yX6_takesLength yX6_takesLength ∈ G := inG 332 (by decide +kernel) (by decide +kernel)
theorem mw_X6_takesLength : Mwv yX6_takesLength cX6_takesLength 2 1 (some .boolean) := ⟨kc_X6_takesLength, im_X6_takesLength, se_X6_takesLength, ini_X6, by decide +kernel⟩
theorem kc_X6_find : Cond.code yX6_find cX6_find 3 (some .int) ∈ G := inG 345 (by decide +kernel) (by decide +kernel)
theorem im_X6_find : Cond.instanceMethod yX6_find ∈ G := inG 343 (by decide +kernel) (by decide +kernel)
theorem se_X6_find : Cond.selects yX6_find.cls yX6_find yX6_find ∈ G := inG 344 (by decide +kernel) (by decide +kernel)
theorem mw_X6_find : Mwv yX6_find cX6_find 3 1 (some .int) := ⟨kc_X6_find, im_X6_find, se_X6_find, ini_X6, by decide +kernel⟩
theorem kc_X6_insert : Cond.code yX6_insert cX6_insert 4 none ∈ G := inG 353 (by decide +kernel) (by decide +kernel)
theorem im_X6_insert : Cond.instanceMethod yX6_insert ∈ G := inG 351 (by decide +kernel) (by decide +kernel)
theorem se_X6_insert : Cond.selects yX6_insert.cls yX6_insert yX6_insert ∈ G := inG 352 (by decide +kernel) (by decide +kernel)
theorem mw_X6_insert : Mwv yX6_insert cX6_insert 4 2 none := ⟨kc_X6_insert, im_X6_insert, se_X6_insert, ini_X6, by decide +kernel⟩
theorem kc_X6_delete : Cond.code yX6_delete cX6_delete 3 none ∈ G := inG 512 (by decide +kernel) (by decide +kernel)
theorem im_X6_delete : Cond.instanceMethod yX6_delete ∈ G := inG 510 (by decide +kernel) (by decide +kernel)
theorem se_X6_delete : Cond.selects yX6_delete.cls yX6_delete yX6_delete ∈ G := inG 511 (by decide +kernel) (by decide +kernel)
theorem mw_X6_delete : Mwv yX6_delete cX6_delete 3 1 none := ⟨kc_X6_delete, im_X6_delete, se_X6_delete, ini_X6, by decide +kernel⟩
theorem kc_X6_weightOf : Cond.code yX6_weightOf cX6_weightOf 2 (some .int) ∈ G := inG 521 (by decide +kernel) (by decide +kernel)
theorem im_X6_weightOf : Cond.instanceMethod yX6_weightOf ∈ G := inG 519 (by decide +kernel) (by decide +kernel)
theorem se_X6_weightOf : Cond.selects yX6_weightOf.cls yX6_weightOf yX6_weightOf ∈ G := inG 520 (by decide +kernel) (by decide +kernel)
theorem mw_X6_weightOf : Mwv yX6_weightOf cX6_weightOf 2 1 (some .int) := ⟨kc_X6_weightOf, im_X6_weightOf, se_X6_weightOf, ini_X6, by decide +kernel⟩
theorem kc_X6_setWeight : Cond.code yX6_setWeight cX6_setWeight 3 none ∈ G := inG 525 (by decide +kernel) (by decide +kernel)
theorem im_X6_setWeight : Cond.instanceMethod yX6_setWeight ∈ G := inG 523 (by decide +kernel) (by decide +kernel)
theorem se_X6_setWeight : Cond.selects yX6_setWeight.cls yX6_setWeight yX6_setWeight ∈ G := inG 524 (by decide +kernel) (by decide +kernel)
theorem mw_X6_setWeight : Mwv yX6_setWeight cX6_setWeight 3 2 none := ⟨kc_X6_setWeight, im_X6_setWeight, se_X6_setWeight, ini_X6, by decide +kernel⟩
theorem kc_X6_letterAt : Cond.code yX6_letterAt cX6_letterAt 3 (some .int) ∈ G := inG 406 (by decide +kernel) (by decide +kernel)
theorem im_X6_letterAt : Cond.instanceMethod yX6_letterAt ∈ G := inG 404 (by decide +kernel) (by decide +kernel)
theorem se_X6_letterAt : Cond.selects yX6_letterAt.cls yX6_letterAt yX6_letterAt ∈ G := inG 405 (by decide +kernel) (by decide +kernel)
theorem mw_X6_letterAt : Mwv yX6_letterAt cX6_letterAt 3 2 (some .int) := ⟨kc_X6_letterAt, im_X6_letterAt, se_X6_letterAt, ini_X6, by decide +kernel⟩
theorem kc_X6_prefixOf : Cond.code yX6_prefixOf cX6_prefixOf 3 (some .int) ∈ G := inG 588 (by decide +kernel) (by decide +kernel)
theorem im_X6_prefixOf : Cond.instanceMethod yX6_prefixOf ∈ G := inG 586 (by decide +kernel) (by decide +kernel)
theorem se_X6_prefixOf : Cond.selects yX6_prefixOf.cls yX6_prefixOf yX6_prefixOf ∈ G := inG 587 (by decide +kernel) (by decide +kernel)
theorem mw_X6_prefixOf : Mwv yX6_prefixOf cX6_prefixOf 3 2 (some .int) := ⟨kc_X6_prefixOf, im_X6_prefixOf, se_X6_prefixOf, ini_X6, by decide +kernel⟩
theorem kc_X6_restOf : Cond.code yX6_restOf cX6_restOf 3 (some .int) ∈ G := inG 429 (by decide +kernel) (by decide +kernel)
theorem im_X6_restOf : Cond.instanceMethod yX6_restOf ∈ G := inG 427 (by decide +kernel) (by decide +kernel)
theorem se_X6_restOf : Cond.selects yX6_restOf.cls yX6_restOf yX6_restOf ∈ G := inG 428 (by decide +kernel) (by decide +kernel)
theorem mw_X6_restOf : Mwv yX6_restOf cX6_restOf 3 2 (some .int) := ⟨kc_X6_restOf, im_X6_restOf, se_X6_restOf, ini_X6, by decide +kernel⟩
theorem kc_X6_samePrefix : Cond.code yX6_samePrefix cX6_samePrefix 5 (some .boolean) ∈ G := inG 402 (by decide +kernel) (by decide +kernel)
theorem im_X6_samePrefix : Cond.instanceMethod yX6_samePrefix ∈ G := inG 400 (by decide +kernel) (by decide +kernel)
theorem se_X6_samePrefix : Cond.selects yX6_samePrefix.cls yX6_samePrefix yX6_samePrefix ∈ G := inG 401 (by decide +kernel) (by decide +kernel)
theorem mw_X6_samePrefix : Mwv yX6_samePrefix cX6_samePrefix 5 3 (some .boolean) := ⟨kc_X6_samePrefix, im_X6_samePrefix, se_X6_samePrefix, ini_X6, by decide +kernel⟩
theorem kc_X6_reversalOf : Cond.code yX6_reversalOf cX6_reversalOf 4 (some .int) ∈ G := inG 553 (by decide +kernel) (by decide +kernel)
theorem im_X6_reversalOf : Cond.instanceMethod yX6_reversalOf ∈ G := inG 551 (by decide +kernel) (by decide +kernel)
theorem se_X6_reversalOf : Cond.selects yX6_reversalOf.cls yX6_reversalOf yX6_reversalOf ∈ G := inG 552 (by decide +kernel) (by decide +kernel)
theorem mw_X6_reversalOf : Mwv yX6_reversalOf cX6_reversalOf 4 1 (some .int) := ⟨kc_X6_reversalOf, im_X6_reversalOf, se_X6_reversalOf, ini_X6, by decide +kernel⟩
theorem kc_X6_numberWithPrefix : Cond.code yX6_numberWithPrefix cX6_numberWithPrefix 5 (some .int) ∈ G := inG 592 (by decide +kernel) (by decide +kernel)
theorem im_X6_numberWithPrefix : Cond.instanceMethod yX6_numberWithPrefix ∈ G := inG 590 (by decide +kernel) (by decide +kernel)
theorem se_X6_numberWithPrefix : Cond.selects yX6_numberWithPrefix.cls yX6_numberWithPrefix yX6_numberWithPrefix ∈ G := inG 591 (by decide +kernel) (by decide +kernel)
theorem mw_X6_numberWithPrefix : Mwv yX6_numberWithPrefix cX6_numberWithPrefix 5 2 (some .int) := ⟨kc_X6_numberWithPrefix, im_X6_numberWithPrefix, se_X6_numberWithPrefix, ini_X6, by decide +kernel⟩
theorem kc_X6_numberOfPrefixes : Cond.code yX6_numberOfPrefixes cX6_numberOfPrefixes 4 (some .int) ∈ G := inG 534 (by decide +kernel) (by decide +kernel)
theorem im_X6_numberOfPrefixes : Cond.instanceMethod yX6_numberOfPrefixes ∈ G := inG 532 (by decide +kernel) (by decide +kernel)
theorem se_X6_numberOfPrefixes : Cond.selects yX6_numberOfPrefixes.cls yX6_numberOfPrefixes yX6_numberOfPrefixes ∈ G := inG 533 (by decide +kernel) (by decide +kernel)
theorem mw_X6_numberOfPrefixes : Mwv yX6_numberOfPrefixes cX6_numberOfPrefixes 4 0 (some .int) := ⟨kc_X6_numberOfPrefixes, im_X6_numberOfPrefixes, se_X6_numberOfPrefixes, ini_X6, by decide +kernel⟩
theorem kc_X6_numberOfLetters : Cond.code yX6_numberOfLetters cX6_numberOfLetters 4 (some .int) ∈ G := inG 539 (by decide +kernel) (by decide +kernel)
theorem im_X6_numberOfLetters : Cond.instanceMethod yX6_numberOfLetters ∈ G := inG 537 (by decide +kernel) (by decide +kernel)
theorem se_X6_numberOfLetters : Cond.selects yX6_numberOfLetters.cls yX6_numberOfLetters yX6_numberOfLetters ∈ G := inG 538 (by decide +kernel) (by decide +kernel)
theorem mw_X6_numberOfLetters : Mwv yX6_numberOfLetters cX6_numberOfLetters 4 0 (some .int) := ⟨kc_X6_numberOfLetters, im_X6_numberOfLetters, se_X6_numberOfLetters, ini_X6, by decide +kernel⟩
theorem kc_X6_sumOfWeights : Cond.code yX6_sumOfWeights cX6_sumOfWeights 3 (some .int) ∈ G := inG 545 (by decide +kernel) (by decide +kernel)
theorem im_X6_sumOfWeights : Cond.instanceMethod yX6_sumOfWeights ∈ G := inG 543 (by decide +kernel) (by decide +kernel)
theorem se_X6_sumOfWeights : Cond.selects yX6_sumOfWeights.cls yX6_sumOfWeights yX6_sumOfWeights ∈ G := inG 544 (by decide +kernel) (by decide +kernel)
theorem mw_X6_sumOfWeights : Mwv yX6_sumOfWeights cX6_sumOfWeights 3 0 (some .int) := ⟨kc_X6_sumOfWeights, im_X6_sumOfWeights, se_X6_sumOfWeights, ini_X6, by decide +kernel⟩
theorem kc_X6_numberOfReversible : Cond.code yX6_numberOfReversible cX6_numberOfReversible 3 (some .int) ∈ G := inG 549 (by decide +kernel) (by decide +kernel)
theorem im_X6_numberOfReversible : Cond.instanceMethod yX6_numberOfReversible ∈ G := inG 547 (by decide +kernel) (by decide +kernel)
theorem se_X6_numberOfReversible : Cond.selects yX6_numberOfReversible.cls yX6_numberOfReversible yX6_numberOfReversible ∈ G := inG 548 (by decide +kernel) (by decide +kernel)
theorem mw_X6_numberOfReversible : Mwv yX6_numberOfReversible cX6_numberOfReversible 3 0 (some .int) := ⟨kc_X6_numberOfReversible, im_X6_numberOfReversible, se_X6_numberOfReversible, ini_X6, by decide +kernel⟩
theorem kc_X6_commonLetter : Cond.code yX6_commonLetter cX6_commonLetter 6 (some .int) ∈ G := inG 711 (by decide +kernel) (by decide +kernel)
theorem im_X6_commonLetter : Cond.instanceMethod yX6_commonLetter ∈ G := inG 709 (by decide +kernel) (by decide +kernel)
theorem se_X6_commonLetter : Cond.selects yX6_commonLetter.cls yX6_commonLetter yX6_commonLetter ∈ G := inG 710 (by decide +kernel) (by decide +kernel)
theorem mw_X6_commonLetter : Mwv yX6_commonLetter cX6_commonLetter 6 2 (some .int) := ⟨kc_X6_commonLetter, im_X6_commonLetter, se_X6_commonLetter, ini_X6, by decide +kernel⟩
theorem kc_X7_init : Cond.code yX7_init cX7_init 1 none ∈ G := inG 99 (by decide +kernel) (by decide +kernel)
theorem kc_X7_letter : Cond.code yX7_letter cX7_letter 2 (some .int) ∈ G := inG 277 (by decide +kernel) (by decide +kernel)
theorem im_X7_letter : Cond.instanceMethod yX7_letter ∈ G := inG 275 (by decide +kernel) (by decide +kernel)
theorem se_X7_letter : Cond.selects yX7_letter.cls yX7_letter yX7_letter ∈ G := inG 276 (by decide +kernel) (by decide +kernel)
theorem mw_X7_letter : Mwv yX7_letter cX7_letter 2 1 (some .int) := ⟨kc_X7_letter, im_X7_letter, se_X7_letter, ini_X7, by decide +kernel⟩
theorem kc_X7_blank : Cond.code yX7_blank cX7_blank 2 (some .int) ∈ G := inG 289 (by decide +kernel) (by decide +kernel)
theorem im_X7_blank : Cond.instanceMethod yX7_blank ∈ G := inG 287 (by decide +kernel) (by decide +kernel)
theorem se_X7_blank : Cond.selects yX7_blank.cls yX7_blank yX7_blank ∈ G := inG 288 (by decide +kernel) (by decide +kernel)
theorem mw_X7_blank : Mwv yX7_blank cX7_blank 2 0 (some .int) := ⟨kc_X7_blank, im_X7_blank, se_X7_blank, ini_X7, by decide +kernel⟩
theorem kc_X7_fault : Cond.code yX7_fault cX7_fault 1 (some .int) ∈ G := inG 297 (by decide +kernel) (by decide +kernel)
theorem im_X7_fault : Cond.instanceMethod yX7_fault ∈ G := inG 295 (by decide +kernel) (by decide +kernel)
theorem se_X7_fault : Cond.selects yX7_fault.cls yX7_fault yX7_fault ∈ G := inG 296 (by decide +kernel) (by decide +kernel)
theorem mw_X7_fault : Mwv yX7_fault cX7_fault 1 0 (some .int) := ⟨kc_X7_fault, im_X7_fault, se_X7_fault, ini_X7, by decide +kernel⟩
theorem kc_X7_words : Cond.code yX7_words cX7_words 4 (some .int) ∈ G := inG 320 (by decide +kernel) (by decide +kernel)
theorem im_X7_words : Cond.instanceMethod yX7_words ∈ G := inG 318 (by decide +kernel) (by decide +kernel)
theorem se_X7_words : Cond.selects yX7_words.cls yX7_words yX7_words ∈ G := inG 319 (by decide +kernel) (by decide +kernel)
theorem mw_X7_words : Mwv yX7_words cX7_words 4 0 (some .int) := ⟨kc_X7_words, im_X7_words, se_X7_words, ini_X7, by decide +kernel⟩
theorem kc_X7_strike : Cond.code yX7_strike cX7_strike 2 (some .int) ∈ G := inG 507 (by decide +kernel) (by decide +kernel)
theorem im_X7_strike : Cond.instanceMethod yX7_strike ∈ G := inG 505 (by decide +kernel) (by decide +kernel)
theorem se_X7_strike : Cond.selects yX7_strike.cls yX7_strike yX7_strike ∈ G := inG 506 (by decide +kernel) (by decide +kernel)
theorem mw_X7_strike : Mwv yX7_strike cX7_strike 2 1 (some .int) := ⟨kc_X7_strike, im_X7_strike, se_X7_strike, ini_X7, by decide +kernel⟩
theorem kc_X7_weigh : Cond.code yX7_weigh cX7_weigh 4 (some .int) ∈ G := inG 517 (by decide +kernel) (by decide +kernel)
theorem im_X7_weigh : Cond.instanceMethod yX7_weigh ∈ G := inG 515 (by decide +kernel) (by decide +kernel)
theorem se_X7_weigh : Cond.selects yX7_weigh.cls yX7_weigh yX7_weigh ∈ G := inG 516 (by decide +kernel) (by decide +kernel)
theorem mw_X7_weigh : Mwv yX7_weigh cX7_weigh 4 2 (some .int) := ⟨kc_X7_weigh, im_X7_weigh, se_X7_weigh, ini_X7, by decide +kernel⟩
theorem kc_X7_about : Cond.code yX7_about cX7_about 2 (some .int) ∈ G := inG 529 (by decide +kernel) (by decide +kernel)
theorem im_X7_about : Cond.instanceMethod yX7_about ∈ G := inG 527 (by decide +kernel) (by decide +kernel)
theorem se_X7_about : Cond.selects yX7_about.cls yX7_about yX7_about ∈ G := inG 528 (by decide +kernel) (by decide +kernel)
theorem mw_X7_about : Mwv yX7_about cX7_about 2 1 (some .int) := ⟨kc_X7_about, im_X7_about, se_X7_about, ini_X7, by decide +kernel⟩
theorem kc_X7_word : Cond.code yX7_word cX7_word 3 (some .int) ∈ G := inG 558 (by decide +kernel) (by decide +kernel)
theorem im_X7_word : Cond.instanceMethod yX7_word ∈ G := inG 556 (by decide +kernel) (by decide +kernel)
theorem se_X7_word : Cond.selects yX7_word.cls yX7_word yX7_word ∈ G := inG 557 (by decide +kernel) (by decide +kernel)
theorem mw_X7_word : Mwv yX7_word cX7_word 3 2 (some .int) := ⟨kc_X7_word, im_X7_word, se_X7_word, ini_X7, by decide +kernel⟩
theorem kc_X7_sign : Cond.code yX7_sign cX7_sign 3 (some .int) ∈ G := inG 575 (by decide +kernel) (by decide +kernel)
theorem im_X7_sign : Cond.instanceMethod yX7_sign ∈ G := inG 573 (by decide +kernel) (by decide +kernel)
theorem se_X7_sign : Cond.selects yX7_sign.cls yX7_sign yX7_sign ∈ G := inG 574 (by decide +kernel) (by decide +kernel)
theorem mw_X7_sign : Mwv yX7_sign cX7_sign 3 2 (some .int) := ⟨kc_X7_sign, im_X7_sign, se_X7_sign, ini_X7, by decide +kernel⟩
theorem kc_X7_begins : Cond.code yX7_begins cX7_begins 3 (some .int) ∈ G := inG 584 (by decide +kernel) (by decide +kernel)
theorem im_X7_begins : Cond.instanceMethod yX7_begins ∈ G := inG 582 (by decide +kernel) (by decide +kernel)
theorem se_X7_begins : Cond.selects yX7_begins.cls yX7_begins yX7_begins ∈ G := inG 583 (by decide +kernel) (by decide +kernel)
theorem mw_X7_begins : Mwv yX7_begins cX7_begins 3 2 (some .int) := ⟨kc_X7_begins, im_X7_begins, se_X7_begins, ini_X7, by decide +kernel⟩
theorem kc_X7_squares : Cond.code yX7_squares cX7_squares 2 (some .int) ∈ G := inG 597 (by decide +kernel) (by decide +kernel)
theorem im_X7_squares : Cond.instanceMethod yX7_squares ∈ G := inG 595 (by decide +kernel) (by decide +kernel)
theorem se_X7_squares : Cond.selects yX7_squares.cls yX7_squares yX7_squares ∈ G := inG 596 (by decide +kernel) (by decide +kernel)
theorem mw_X7_squares : Mwv yX7_squares cX7_squares 2 1 (some .int) := ⟨kc_X7_squares, im_X7_squares, se_X7_squares, ini_X7, by decide +kernel⟩
theorem kc_X7_row : Cond.code yX7_row cX7_row 5 (some .int) ∈ G := inG 612 (by decide +kernel) (by decide +kernel)
theorem im_X7_row : Cond.instanceMethod yX7_row ∈ G := inG 610 (by decide +kernel) (by decide +kernel)
theorem se_X7_row : Cond.selects yX7_row.cls yX7_row yX7_row ∈ G := inG 611 (by decide +kernel) (by decide +kernel)
theorem mw_X7_row : Mwv yX7_row cX7_row 5 3 (some .int) := ⟨kc_X7_row, im_X7_row, se_X7_row, ini_X7, by decide +kernel⟩
theorem kc_X7_turned : Cond.code yX7_turned cX7_turned 3 (some .int) ∈ G := inG 627 (by decide +kernel) (by decide +kernel)
theorem im_X7_turned : Cond.instanceMethod yX7_turned ∈ G := inG 625 (by decide +kernel) (by decide +kernel)
theorem se_X7_turned : Cond.selects yX7_turned.cls yX7_turned yX7_turned ∈ G := inG 626 (by decide +kernel) (by decide +kernel)
theorem mw_X7_turned : Mwv yX7_turned cX7_turned 3 1 (some .int) := ⟨kc_X7_turned, im_X7_turned, se_X7_turned, ini_X7, by decide +kernel⟩
theorem kc_X7_heaviest : Cond.code yX7_heaviest cX7_heaviest 3 (some .int) ∈ G := inG 640 (by decide +kernel) (by decide +kernel)
theorem im_X7_heaviest : Cond.instanceMethod yX7_heaviest ∈ G := inG 638 (by decide +kernel) (by decide +kernel)
theorem se_X7_heaviest : Cond.selects yX7_heaviest.cls yX7_heaviest yX7_heaviest ∈ G := inG 639 (by decide +kernel) (by decide +kernel)
theorem mw_X7_heaviest : Mwv yX7_heaviest cX7_heaviest 3 1 (some .int) := ⟨kc_X7_heaviest, im_X7_heaviest, se_X7_heaviest, ini_X7, by decide +kernel⟩
theorem kc_X7_heavy : Cond.code yX7_heavy cX7_heavy 3 (some .int) ∈ G := inG 652 (by decide +kernel) (by decide +kernel)
theorem im_X7_heavy : Cond.instanceMethod yX7_heavy ∈ G := inG 650 (by decide +kernel) (by decide +kernel)
theorem se_X7_heavy : Cond.selects yX7_heavy.cls yX7_heavy yX7_heavy ∈ G := inG 651 (by decide +kernel) (by decide +kernel)
theorem mw_X7_heavy : Mwv yX7_heavy cX7_heavy 3 1 (some .int) := ⟨kc_X7_heavy, im_X7_heavy, se_X7_heavy, ini_X7, by decide +kernel⟩
theorem kc_X7_put : Cond.code yX7_put cX7_put 4 (some .int) ∈ G := inG 656 (by decide +kernel) (by decide +kernel)
theorem im_X7_put : Cond.instanceMethod yX7_put ∈ G := inG 654 (by decide +kernel) (by decide +kernel)
theorem se_X7_put : Cond.selects yX7_put.cls yX7_put yX7_put ∈ G := inG 655 (by decide +kernel) (by decide +kernel)
theorem mw_X7_put : Mwv yX7_put cX7_put 4 2 (some .int) := ⟨kc_X7_put, im_X7_put, se_X7_put, ini_X7, by decide +kernel⟩
theorem kc_X7_lift : Cond.code yX7_lift cX7_lift 3 (some .int) ∈ G := inG 668 (by decide +kernel) (by decide +kernel)
theorem im_X7_lift : Cond.instanceMethod yX7_lift ∈ G := inG 666 (by decide +kernel) (by decide +kernel)
theorem se_X7_lift : Cond.selects yX7_lift.cls yX7_lift yX7_lift ∈ G := inG 667 (by decide +kernel) (by decide +kernel)
theorem mw_X7_lift : Mwv yX7_lift cX7_lift 3 1 (some .int) := ⟨kc_X7_lift, im_X7_lift, se_X7_lift, ini_X7, by decide +kernel⟩
theorem kc_X7_board : Cond.code yX7_board cX7_board 2 (some .int) ∈ G := inG 672 (by decide +kernel) (by decide +kernel)
theorem im_X7_board : Cond.instanceMethod yX7_board ∈ G := inG 670 (by decide +kernel) (by decide +kernel)
theorem se_X7_board : Cond.selects yX7_board.cls yX7_board yX7_board ∈ G := inG 671 (by decide +kernel) (by decide +kernel)
theorem mw_X7_board : Mwv yX7_board cX7_board 2 1 (some .int) := ⟨kc_X7_board, im_X7_board, se_X7_board, ini_X7, by decide +kernel⟩
theorem kc_X7_fitting : Cond.code yX7_fitting cX7_fitting 1 (some .int) ∈ G := inG 676 (by decide +kernel) (by decide +kernel)
theorem im_X7_fitting : Cond.instanceMethod yX7_fitting ∈ G := inG 674 (by decide +kernel) (by decide +kernel)
theorem se_X7_fitting : Cond.selects yX7_fitting.cls yX7_fitting yX7_fitting ∈ G := inG 675 (by decide +kernel) (by decide +kernel)
theorem mw_X7_fitting : Mwv yX7_fitting cX7_fitting 1 0 (some .int) := ⟨kc_X7_fitting, im_X7_fitting, se_X7_fitting, ini_X7, by decide +kernel⟩
theorem kc_X7_may : Cond.code yX7_may cX7_may 2 (some .int) ∈ G := inG 699 (by decide +kernel) (by decide +kernel)
theorem im_X7_may : Cond.instanceMethod yX7_may ∈ G := inG 697 (by decide +kernel) (by decide +kernel)
theorem se_X7_may : Cond.selects yX7_may.cls yX7_may yX7_may ∈ G := inG 698 (by decide +kernel) (by decide +kernel)
theorem mw_X7_may : Mwv yX7_may cX7_may 2 1 (some .int) := ⟨kc_X7_may, im_X7_may, se_X7_may, ini_X7, by decide +kernel⟩
theorem kc_X7_sure : Cond.code yX7_sure cX7_sure 4 (some .int) ∈ G := inG 707 (by decide +kernel) (by decide +kernel)
theorem im_X7_sure : Cond.instanceMethod yX7_sure ∈ G := inG 705 (by decide +kernel) (by decide +kernel)
theorem se_X7_sure : Cond.selects yX7_sure.cls yX7_sure yX7_sure ∈ G := inG 706 (by decide +kernel) (by decide +kernel)
theorem mw_X7_sure : Mwv yX7_sure cX7_sure 4 2 (some .int) := ⟨kc_X7_sure, im_X7_sure, se_X7_sure, ini_X7, by decide +kernel⟩
theorem kc_X7_search : Cond.code yX7_search cX7_search 2 (some .int) ∈ G := inG 715 (by decide +kernel) (by decide +kernel)
theorem im_X7_search : Cond.instanceMethod yX7_search ∈ G := inG 713 (by decide +kernel) (by decide +kernel)
theorem se_X7_search : Cond.selects yX7_search.cls yX7_search yX7_search ∈ G := inG 714 (by decide +kernel) (by decide +kernel)
theorem mw_X7_search : Mwv yX7_search cX7_search 2 1 (some .int) := ⟨kc_X7_search, im_X7_search, se_X7_search, ini_X7, by decide +kernel⟩
theorem kc_X7_count : Cond.code yX7_count cX7_count 2 (some .int) ∈ G := inG 743 (by decide +kernel) (by decide +kernel)
theorem im_X7_count : Cond.instanceMethod yX7_count ∈ G := inG 741 (by decide +kernel) (by decide +kernel)
theorem se_X7_count : Cond.selects yX7_count.cls yX7_count yX7_count ∈ G := inG 742 (by decide +kernel) (by decide +kernel)
theorem mw_X7_count : Mwv yX7_count cX7_count 2 1 (some .int) := ⟨kc_X7_count, im_X7_count, se_X7_count, ini_X7, by decide +kernel⟩
theorem kc_X7_digest : Cond.code yX7_digest cX7_digest 4 (some .long) ∈ G := inG 751 (by decide +kernel) (by decide +kernel)
theorem im_X7_digest : Cond.instanceMethod yX7_digest ∈ G := inG 749 (by decide +kernel) (by decide +kernel)
theorem se_X7_digest : Cond.selects yX7_digest.cls yX7_digest yX7_digest ∈ G := inG 750 (by decide +kernel) (by decide +kernel)
theorem mw_X7_digest : Mwv yX7_digest cX7_digest 4 0 (some .long) := ⟨kc_X7_digest, im_X7_digest, se_X7_digest, ini_X7, by decide +kernel⟩
theorem kc_X7_mixWords : Cond.code yX7_mixWords cX7_mixWords 7 (some .long) ∈ G := inG 761 (by decide +kernel) (by decide +kernel)
theorem im_X7_mixWords : Cond.instanceMethod yX7_mixWords ∈ G := inG 760 (by decide +kernel) (by decide +kernel)
theorem se_X7_mixWords : Cond.selects yX7_mixWords.cls yX7_mixWords yX7_mixWords ∈ G := inG 18 (by decide +kernel) (by decide +kernel)
theorem mw_X7_mixWords : Mwv yX7_mixWords cX7_mixWords 7 1 (some .long) := ⟨kc_X7_mixWords, im_X7_mixWords, se_X7_mixWords, ini_X7, by decide +kernel⟩
theorem kc_X7_mixSquares : Cond.code yX7_mixSquares cX7_mixSquares 8 (some .long) ∈ G := inG 767 (by decide +kernel) (by decide +kernel)
theorem im_X7_mixSquares : Cond.instanceMethod yX7_mixSquares ∈ G := inG 766 (by decide +kernel) (by decide +kernel)
theorem se_X7_mixSquares : Cond.selects yX7_mixSquares.cls yX7_mixSquares yX7_mixSquares ∈ G := inG 19 (by decide +kernel) (by decide +kernel)
theorem mw_X7_mixSquares : Mwv yX7_mixSquares cX7_mixSquares 8 1 (some .long) := ⟨kc_X7_mixSquares, im_X7_mixSquares, se_X7_mixSquares, ini_X7, by decide +kernel⟩
theorem kc_X7_mixBoard : Cond.code yX7_mixBoard cX7_mixBoard 8 (some .long) ∈ G := inG 775 (by decide +kernel) (by decide +kernel)
theorem im_X7_mixBoard : Cond.instanceMethod yX7_mixBoard ∈ G := inG 774 (by decide +kernel) (by decide +kernel)
theorem se_X7_mixBoard : Cond.selects yX7_mixBoard.cls yX7_mixBoard yX7_mixBoard ∈ G := inG 20 (by decide +kernel) (by decide +kernel)
theorem mw_X7_mixBoard : Mwv yX7_mixBoard cX7_mixBoard 8 1 (some .long) := ⟨kc_X7_mixBoard, im_X7_mixBoard, se_X7_mixBoard, ini_X7, by decide +kernel⟩
theorem kc_X7_mix : Cond.code yX7_mix cX7_mix 3 (some .long) ∈ G := inG 756 (by decide +kernel) (by decide +kernel)
theorem st_X7_mix : Cond.static yX7_mix ∈ G := inG 755 (by decide +kernel) (by decide +kernel)
theorem mw_X7_mix : Mws yX7_mix cX7_mix 3 2 (some .long) := ⟨kc_X7_mix, st_X7_mix, ini_X7, by decide +kernel⟩
theorem kc_X7_isKind : Cond.code yX7_isKind cX7_isKind 1 (some .boolean) ∈ G := inG 600 (by decide +kernel) (by decide +kernel)
theorem st_X7_isKind : Cond.static yX7_isKind ∈ G := inG 599 (by decide +kernel) (by decide +kernel)
theorem mw_X7_isKind : Mws yX7_isKind cX7_isKind 1 1 (some .boolean) := ⟨kc_X7_isKind, st_X7_isKind, ini_X7, by decide +kernel⟩
theorem kc_X7_packedWord : Cond.code yX7_packedWord cX7_packedWord 3 (some .int) ∈ G := inG 461 (by decide +kernel) (by decide +kernel)
theorem st_X7_packedWord : Cond.static yX7_packedWord ∈ G := inG 460 (by decide +kernel) (by decide +kernel)
theorem mw_X7_packedWord : Mws yX7_packedWord cX7_packedWord 3 3 (some .int) := ⟨kc_X7_packedWord, st_X7_packedWord, ini_X7, by decide +kernel⟩
theorem kc_X7_renew : Cond.code yX7_renew cX7_renew 1 none ∈ G := inG 357 (by decide +kernel) (by decide +kernel)
theorem im_X7_renew : Cond.instanceMethod yX7_renew ∈ G := inG 356 (by decide +kernel) (by decide +kernel)
theorem se_X7_renew : Cond.selects yX7_renew.cls yX7_renew yX7_renew ∈ G := inG 3 (by decide +kernel) (by decide +kernel)
theorem mw_X7_renew : Mwv yX7_renew cX7_renew 1 0 none := ⟨kc_X7_renew, im_X7_renew, se_X7_renew, ini_X7, by decide +kernel⟩
theorem kc_X7_lookedBoard : Cond.code yX7_lookedBoard cX7_lookedBoard 1 (some (.object "WordSquares$Board")) ∈ G := inG 680 (by decide +kernel) (by decide +kernel)
theorem im_X7_lookedBoard : Cond.instanceMethod yX7_lookedBoard ∈ G := inG 679 (by decide +kernel) (by decide +kernel)
theorem se_X7_lookedBoard : Cond.selects yX7_lookedBoard.cls yX7_lookedBoard yX7_lookedBoard ∈ G := inG 16 (by decide +kernel) (by decide +kernel)
theorem mw_X7_lookedBoard : Mwv yX7_lookedBoard cX7_lookedBoard 1 0 (some (.object "WordSquares$Board")) := ⟨kc_X7_lookedBoard, im_X7_lookedBoard, se_X7_lookedBoard, ini_X7, by decide +kernel⟩
theorem kc_X7_greatestOf : Cond.code yX7_greatestOf cX7_greatestOf 6 (some .int) ∈ G := inG 644 (by decide +kernel) (by decide +kernel)
theorem im_X7_greatestOf : Cond.instanceMethod yX7_greatestOf ∈ G := inG 643 (by decide +kernel) (by decide +kernel)
theorem se_X7_greatestOf : Cond.selects yX7_greatestOf.cls yX7_greatestOf yX7_greatestOf ∈ G := inG 14 (by decide +kernel) (by decide +kernel)
theorem mw_X7_greatestOf : Mwv yX7_greatestOf cX7_greatestOf 6 1 (some .int) := ⟨kc_X7_greatestOf, im_X7_greatestOf, se_X7_greatestOf, ini_X7, by decide +kernel⟩
theorem kc_X7_weightOfSquare : Cond.code yX7_weightOfSquare cX7_weightOfSquare 7 (some .int) ∈ G := inG 648 (by decide +kernel) (by decide +kernel)
theorem im_X7_weightOfSquare : Cond.instanceMethod yX7_weightOfSquare ∈ G := inG 647 (by decide +kernel) (by decide +kernel)
theorem se_X7_weightOfSquare : Cond.selects yX7_weightOfSquare.cls yX7_weightOfSquare yX7_weightOfSquare ∈ G := inG 15 (by decide +kernel) (by decide +kernel)
theorem mw_X7_weightOfSquare : Mwv yX7_weightOfSquare cX7_weightOfSquare 7 2 (some .int) := ⟨kc_X7_weightOfSquare, im_X7_weightOfSquare, se_X7_weightOfSquare, ini_X7, by decide +kernel⟩
theorem kc_X8_init : Cond.code yX8_init cX8_init 1 none ∈ G := inG 787 (by decide +kernel) (by decide +kernel)
theorem kc_X8_within : Cond.code yX8_within cX8_within 3 (some .boolean) ∈ G := inG 894 (by decide +kernel) (by decide +kernel)
theorem st_X8_within : Cond.static yX8_within ∈ G := inG 893 (by decide +kernel) (by decide +kernel)
theorem mw_X8_within : Mws yX8_within cX8_within 3 3 (some .boolean) := ⟨kc_X8_within, st_X8_within, ini_X8, by decide +kernel⟩
theorem kc_X8_clearBoard : Cond.code yX8_clearBoard cX8_clearBoard 2 none ∈ G := inG 792 (by decide +kernel) (by decide +kernel)
theorem im_X8_clearBoard : Cond.instanceMethod yX8_clearBoard ∈ G := inG 791 (by decide +kernel) (by decide +kernel)
theorem se_X8_clearBoard : Cond.selects yX8_clearBoard.cls yX8_clearBoard yX8_clearBoard ∈ G := inG 21 (by decide +kernel) (by decide +kernel)
theorem mw_X8_clearBoard : Mwv yX8_clearBoard cX8_clearBoard 2 0 none := ⟨kc_X8_clearBoard, im_X8_clearBoard, se_X8_clearBoard, ini_X8, by decide +kernel⟩
theorem kc_X8_letter : Cond.code yX8_letter cX8_letter 2 (some .int) ∈ G := inG 891 (by decide +kernel) (by decide +kernel)
theorem im_X8_letter : Cond.instanceMethod yX8_letter ∈ G := inG 889 (by decide +kernel) (by decide +kernel)
theorem se_X8_letter : Cond.selects yX8_letter.cls yX8_letter yX8_letter ∈ G := inG 890 (by decide +kernel) (by decide +kernel)
theorem mw_X8_letter : Mwv yX8_letter cX8_letter 2 1 (some .int) := ⟨kc_X8_letter, im_X8_letter, se_X8_letter, ini_X8, by decide +kernel⟩
theorem kc_X8_blank : Cond.code yX8_blank cX8_blank 2 (some .int) ∈ G := inG 898 (by decide +kernel) (by decide +kernel)
theorem im_X8_blank : Cond.instanceMethod yX8_blank ∈ G := inG 896 (by decide +kernel) (by decide +kernel)
theorem se_X8_blank : Cond.selects yX8_blank.cls yX8_blank yX8_blank ∈ G := inG 897 (by decide +kernel) (by decide +kernel)
theorem mw_X8_blank : Mwv yX8_blank cX8_blank 2 0 (some .int) := ⟨kc_X8_blank, im_X8_blank, se_X8_blank, ini_X8, by decide +kernel⟩
theorem kc_X8_isTwice : Cond.code yX8_isTwice cX8_isTwice 5 (some .boolean) ∈ G := inG 918 (by decide +kernel) (by decide +kernel)
theorem im_X8_isTwice : Cond.instanceMethod yX8_isTwice ∈ G := inG 917 (by decide +kernel) (by decide +kernel)
theorem se_X8_isTwice : Cond.selects yX8_isTwice.cls yX8_isTwice yX8_isTwice ∈ G := inG 25 (by decide +kernel) (by decide +kernel)
theorem mw_X8_isTwice : Mwv yX8_isTwice cX8_isTwice 5 0 (some .boolean) := ⟨kc_X8_isTwice, im_X8_isTwice, se_X8_isTwice, ini_X8, by decide +kernel⟩
theorem kc_X8_takesComma : Cond.code yX8_takesComma cX8_takesComma 2 (some .boolean) ∈ G := inG 914 (by decide +kernel) (by decide +kernel)
theorem im_X8_takesComma : Cond.instanceMethod yX8_takesComma ∈ G := inG 913 (by decide +kernel) (by decide +kernel)
theorem se_X8_takesComma : Cond.selects yX8_takesComma.cls yX8_takesComma yX8_takesComma ∈ G := inG 24 (by decide +kernel) (by decide +kernel)
theorem mw_X8_takesComma : Mwv yX8_takesComma cX8_takesComma 2 0 (some .boolean) := ⟨kc_X8_takesComma, im_X8_takesComma, se_X8_takesComma, ini_X8, by decide +kernel⟩
theorem kc_X8_takes : Cond.code yX8_takes cX8_takes 2 (some .boolean) ∈ G := inG 910 (by decide +kernel) (by decide +kernel)
theorem im_X8_takes : Cond.instanceMethod yX8_takes ∈ G := inG 909 (by decide +kernel) (by decide +kernel)
theorem se_X8_takes : Cond.selects yX8_takes.cls yX8_takes yX8_takes ∈ G := inG 23 (by decide +kernel) (by decide +kernel)
theorem mw_X8_takes : Mwv yX8_takes cX8_takes 2 1 (some .boolean) := ⟨kc_X8_takes, im_X8_takes, se_X8_takes, ini_X8, by decide +kernel⟩
theorem kc_X8_read : Cond.code yX8_read cX8_read 2 (some .int) ∈ G := inG 906 (by decide +kernel) (by decide +kernel)
theorem im_X8_read : Cond.instanceMethod yX8_read ∈ G := inG 905 (by decide +kernel) (by decide +kernel)
theorem se_X8_read : Cond.selects yX8_read.cls yX8_read yX8_read ∈ G := inG 22 (by decide +kernel) (by decide +kernel)
theorem mw_X8_read : Mwv yX8_read cX8_read 2 0 (some .int) := ⟨kc_X8_read, im_X8_read, se_X8_read, ini_X8, by decide +kernel⟩
theorem kc_X8_fault : Cond.code yX8_fault cX8_fault 1 (some .int) ∈ G := inG 902 (by decide +kernel) (by decide +kernel)
theorem im_X8_fault : Cond.instanceMethod yX8_fault ∈ G := inG 900 (by decide +kernel) (by decide +kernel)
theorem se_X8_fault : Cond.selects yX8_fault.cls yX8_fault yX8_fault ∈ G := inG 901 (by decide +kernel) (by decide +kernel)
theorem mw_X8_fault : Mwv yX8_fault cX8_fault 1 0 (some .int) := ⟨kc_X8_fault, im_X8_fault, se_X8_fault, ini_X8, by decide +kernel⟩
theorem kc_X8_isThere : Cond.code yX8_isThere cX8_isThere 6 (some .boolean) ∈ G := inG 930 (by decide +kernel) (by decide +kernel)
theorem im_X8_isThere : Cond.instanceMethod yX8_isThere ∈ G := inG 929 (by decide +kernel) (by decide +kernel)
theorem se_X8_isThere : Cond.selects yX8_isThere.cls yX8_isThere yX8_isThere ∈ G := inG 27 (by decide +kernel) (by decide +kernel)
theorem mw_X8_isThere : Mwv yX8_isThere cX8_isThere 6 1 (some .boolean) := ⟨kc_X8_isThere, im_X8_isThere, se_X8_isThere, ini_X8, by decide +kernel⟩
theorem kc_X8_isAhead : Cond.code yX8_isAhead cX8_isAhead 5 (some .boolean) ∈ G := inG 938 (by decide +kernel) (by decide +kernel)
theorem im_X8_isAhead : Cond.instanceMethod yX8_isAhead ∈ G := inG 937 (by decide +kernel) (by decide +kernel)
theorem se_X8_isAhead : Cond.selects yX8_isAhead.cls yX8_isAhead yX8_isAhead ∈ G := inG 29 (by decide +kernel) (by decide +kernel)
theorem mw_X8_isAhead : Mwv yX8_isAhead cX8_isAhead 5 2 (some .boolean) := ⟨kc_X8_isAhead, im_X8_isAhead, se_X8_isAhead, ini_X8, by decide +kernel⟩
theorem kc_X8_move : Cond.code yX8_move cX8_move 4 none ∈ G := inG 942 (by decide +kernel) (by decide +kernel)
theorem im_X8_move : Cond.instanceMethod yX8_move ∈ G := inG 941 (by decide +kernel) (by decide +kernel)
theorem se_X8_move : Cond.selects yX8_move.cls yX8_move yX8_move ∈ G := inG 30 (by decide +kernel) (by decide +kernel)
theorem mw_X8_move : Mwv yX8_move cX8_move 4 2 none := ⟨kc_X8_move, im_X8_move, se_X8_move, ini_X8, by decide +kernel⟩
theorem kc_X8_comes : Cond.code yX8_comes cX8_comes 4 none ∈ G := inG 934 (by decide +kernel) (by decide +kernel)
theorem im_X8_comes : Cond.instanceMethod yX8_comes ∈ G := inG 933 (by decide +kernel) (by decide +kernel)
theorem se_X8_comes : Cond.selects yX8_comes.cls yX8_comes yX8_comes ∈ G := inG 28 (by decide +kernel) (by decide +kernel)
theorem mw_X8_comes : Mwv yX8_comes cX8_comes 4 1 none := ⟨kc_X8_comes, im_X8_comes, se_X8_comes, ini_X8, by decide +kernel⟩
theorem kc_X8_isNew : Cond.code yX8_isNew cX8_isNew 4 (some .boolean) ∈ G := inG 926 (by decide +kernel) (by decide +kernel)
theorem im_X8_isNew : Cond.instanceMethod yX8_isNew ∈ G := inG 925 (by decide +kernel) (by decide +kernel)
theorem se_X8_isNew : Cond.selects yX8_isNew.cls yX8_isNew yX8_isNew ∈ G := inG 26 (by decide +kernel) (by decide +kernel)
theorem mw_X8_isNew : Mwv yX8_isNew cX8_isNew 4 1 (some .boolean) := ⟨kc_X8_isNew, im_X8_isNew, se_X8_isNew, ini_X8, by decide +kernel⟩
theorem kc_X8_words : Cond.code yX8_words cX8_words 4 (some .int) ∈ G := inG 922 (by decide +kernel) (by decide +kernel)
theorem im_X8_words : Cond.instanceMethod yX8_words ∈ G := inG 920 (by decide +kernel) (by decide +kernel)
theorem se_X8_words : Cond.selects yX8_words.cls yX8_words yX8_words ∈ G := inG 921 (by decide +kernel) (by decide +kernel)
theorem mw_X8_words : Mwv yX8_words cX8_words 4 0 (some .int) := ⟨kc_X8_words, im_X8_words, se_X8_words, ini_X8, by decide +kernel⟩
theorem kc_X8_isWord : Cond.code yX8_isWord cX8_isWord 2 (some .boolean) ∈ G := inG 950 (by decide +kernel) (by decide +kernel)
theorem im_X8_isWord : Cond.instanceMethod yX8_isWord ∈ G := inG 949 (by decide +kernel) (by decide +kernel)
theorem se_X8_isWord : Cond.selects yX8_isWord.cls yX8_isWord yX8_isWord ∈ G := inG 31 (by decide +kernel) (by decide +kernel)
theorem mw_X8_isWord : Mwv yX8_isWord cX8_isWord 2 1 (some .boolean) := ⟨kc_X8_isWord, im_X8_isWord, se_X8_isWord, ini_X8, by decide +kernel⟩
theorem kc_X8_strike : Cond.code yX8_strike cX8_strike 3 (some .int) ∈ G := inG 946 (by decide +kernel) (by decide +kernel)
theorem im_X8_strike : Cond.instanceMethod yX8_strike ∈ G := inG 944 (by decide +kernel) (by decide +kernel)
theorem se_X8_strike : Cond.selects yX8_strike.cls yX8_strike yX8_strike ∈ G := inG 945 (by decide +kernel) (by decide +kernel)
theorem mw_X8_strike : Mwv yX8_strike cX8_strike 3 1 (some .int) := ⟨kc_X8_strike, im_X8_strike, se_X8_strike, ini_X8, by decide +kernel⟩
theorem kc_X8_weigh : Cond.code yX8_weigh cX8_weigh 4 (some .int) ∈ G := inG 954 (by decide +kernel) (by decide +kernel)
theorem im_X8_weigh : Cond.instanceMethod yX8_weigh ∈ G := inG 952 (by decide +kernel) (by decide +kernel)
theorem se_X8_weigh : Cond.selects yX8_weigh.cls yX8_weigh yX8_weigh ∈ G := inG 953 (by decide +kernel) (by decide +kernel)
theorem mw_X8_weigh : Mwv yX8_weigh cX8_weigh 4 2 (some .int) := ⟨kc_X8_weigh, im_X8_weigh, se_X8_weigh, ini_X8, by decide +kernel⟩
theorem kc_X8_at : Cond.code yX8_at cX8_at 3 (some .int) ∈ G := inG 974 (by decide +kernel) (by decide +kernel)
theorem im_X8_at : Cond.instanceMethod yX8_at ∈ G := inG 973 (by decide +kernel) (by decide +kernel)
theorem se_X8_at : Cond.selects yX8_at.cls yX8_at yX8_at ∈ G := inG 35 (by decide +kernel) (by decide +kernel)
theorem mw_X8_at : Mwv yX8_at cX8_at 3 2 (some .int) := ⟨kc_X8_at, im_X8_at, se_X8_at, ini_X8, by decide +kernel⟩
theorem kc_X8_alike : Cond.code yX8_alike cX8_alike 4 (some .int) ∈ G := inG 970 (by decide +kernel) (by decide +kernel)
theorem im_X8_alike : Cond.instanceMethod yX8_alike ∈ G := inG 969 (by decide +kernel) (by decide +kernel)
theorem se_X8_alike : Cond.selects yX8_alike.cls yX8_alike yX8_alike ∈ G := inG 34 (by decide +kernel) (by decide +kernel)
theorem mw_X8_alike : Mwv yX8_alike cX8_alike 4 2 (some .int) := ⟨kc_X8_alike, im_X8_alike, se_X8_alike, ini_X8, by decide +kernel⟩
theorem kc_X8_beginnings : Cond.code yX8_beginnings cX8_beginnings 3 (some .int) ∈ G := inG 966 (by decide +kernel) (by decide +kernel)
theorem im_X8_beginnings : Cond.instanceMethod yX8_beginnings ∈ G := inG 965 (by decide +kernel) (by decide +kernel)
theorem se_X8_beginnings : Cond.selects yX8_beginnings.cls yX8_beginnings yX8_beginnings ∈ G := inG 33 (by decide +kernel) (by decide +kernel)
theorem mw_X8_beginnings : Mwv yX8_beginnings cX8_beginnings 3 0 (some .int) := ⟨kc_X8_beginnings, im_X8_beginnings, se_X8_beginnings, ini_X8, by decide +kernel⟩
theorem kc_X8_lettersMany : Cond.code yX8_lettersMany cX8_lettersMany 4 (some .int) ∈ G := inG 978 (by decide +kernel) (by decide +kernel)
theorem im_X8_lettersMany : Cond.instanceMethod yX8_lettersMany ∈ G := inG 977 (by decide +kernel) (by decide +kernel)
theorem se_X8_lettersMany : Cond.selects yX8_lettersMany.cls yX8_lettersMany yX8_lettersMany ∈ G := inG 36 (by decide +kernel) (by decide +kernel)
theorem mw_X8_lettersMany : Mwv yX8_lettersMany cX8_lettersMany 4 0 (some .int) := ⟨kc_X8_lettersMany, im_X8_lettersMany, se_X8_lettersMany, ini_X8, by decide +kernel⟩
theorem kc_X8_weightsAll : Cond.code yX8_weightsAll cX8_weightsAll 3 (some .int) ∈ G := inG 982 (by decide +kernel) (by decide +kernel)
theorem im_X8_weightsAll : Cond.instanceMethod yX8_weightsAll ∈ G := inG 981 (by decide +kernel) (by decide +kernel)
theorem se_X8_weightsAll : Cond.selects yX8_weightsAll.cls yX8_weightsAll yX8_weightsAll ∈ G := inG 37 (by decide +kernel) (by decide +kernel)
theorem mw_X8_weightsAll : Mwv yX8_weightsAll cX8_weightsAll 3 0 (some .int) := ⟨kc_X8_weightsAll, im_X8_weightsAll, se_X8_weightsAll, ini_X8, by decide +kernel⟩
theorem kc_X8_mirrorOf : Cond.code yX8_mirrorOf cX8_mirrorOf 5 (some .int) ∈ G := inG 990 (by decide +kernel) (by decide +kernel)
theorem im_X8_mirrorOf : Cond.instanceMethod yX8_mirrorOf ∈ G := inG 989 (by decide +kernel) (by decide +kernel)
theorem se_X8_mirrorOf : Cond.selects yX8_mirrorOf.cls yX8_mirrorOf yX8_mirrorOf ∈ G := inG 39 (by decide +kernel) (by decide +kernel)
theorem mw_X8_mirrorOf : Mwv yX8_mirrorOf cX8_mirrorOf 5 1 (some .int) := ⟨kc_X8_mirrorOf, im_X8_mirrorOf, se_X8_mirrorOf, ini_X8, by decide +kernel⟩
theorem kc_X8_mirrored : Cond.code yX8_mirrored cX8_mirrored 3 (some .int) ∈ G := inG 986 (by decide +kernel) (by decide +kernel)
theorem im_X8_mirrored : Cond.instanceMethod yX8_mirrored ∈ G := inG 985 (by decide +kernel) (by decide +kernel)
theorem se_X8_mirrored : Cond.selects yX8_mirrored.cls yX8_mirrored yX8_mirrored ∈ G := inG 38 (by decide +kernel) (by decide +kernel)
theorem mw_X8_mirrored : Mwv yX8_mirrored cX8_mirrored 3 0 (some .int) := ⟨kc_X8_mirrored, im_X8_mirrored, se_X8_mirrored, ini_X8, by decide +kernel⟩
theorem kc_X8_aboutNow : Cond.code yX8_aboutNow cX8_aboutNow 2 (some .int) ∈ G := inG 962 (by decide +kernel) (by decide +kernel)
theorem im_X8_aboutNow : Cond.instanceMethod yX8_aboutNow ∈ G := inG 961 (by decide +kernel) (by decide +kernel)
theorem se_X8_aboutNow : Cond.selects yX8_aboutNow.cls yX8_aboutNow yX8_aboutNow ∈ G := inG 32 (by decide +kernel) (by decide +kernel)
theorem mw_X8_aboutNow : Mwv yX8_aboutNow cX8_aboutNow 2 1 (some .int) := ⟨kc_X8_aboutNow, im_X8_aboutNow, se_X8_aboutNow, ini_X8, by decide +kernel⟩
theorem kc_X8_about : Cond.code yX8_about cX8_about 2 (some .int) ∈ G := inG 958 (by decide +kernel) (by decide +kernel)
theorem im_X8_about : Cond.instanceMethod yX8_about ∈ G := inG 956 (by decide +kernel) (by decide +kernel)
theorem se_X8_about : Cond.selects yX8_about.cls yX8_about yX8_about ∈ G := inG 957 (by decide +kernel) (by decide +kernel)
theorem mw_X8_about : Mwv yX8_about cX8_about 2 1 (some .int) := ⟨kc_X8_about, im_X8_about, se_X8_about, ini_X8, by decide +kernel⟩
theorem kc_X8_sign : Cond.code yX8_sign cX8_sign 3 (some .int) ∈ G := inG 994 (by decide +kernel) (by decide +kernel)
theorem im_X8_sign : Cond.instanceMethod yX8_sign ∈ G := inG 992 (by decide +kernel) (by decide +kernel)
theorem se_X8_sign : Cond.selects yX8_sign.cls yX8_sign yX8_sign ∈ G := inG 993 (by decide +kernel) (by decide +kernel)
theorem mw_X8_sign : Mwv yX8_sign cX8_sign 3 2 (some .int) := ⟨kc_X8_sign, im_X8_sign, se_X8_sign, ini_X8, by decide +kernel⟩
theorem kc_X8_beginsNow : Cond.code yX8_beginsNow cX8_beginsNow 5 (some .int) ∈ G := inG 1002 (by decide +kernel) (by decide +kernel)
theorem im_X8_beginsNow : Cond.instanceMethod yX8_beginsNow ∈ G := inG 1001 (by decide +kernel) (by decide +kernel)
theorem se_X8_beginsNow : Cond.selects yX8_beginsNow.cls yX8_beginsNow yX8_beginsNow ∈ G := inG 40 (by decide +kernel) (by decide +kernel)
theorem mw_X8_beginsNow : Mwv yX8_beginsNow cX8_beginsNow 5 2 (some .int) := ⟨kc_X8_beginsNow, im_X8_beginsNow, se_X8_beginsNow, ini_X8, by decide +kernel⟩
theorem kc_X8_begins : Cond.code yX8_begins cX8_begins 3 (some .int) ∈ G := inG 998 (by decide +kernel) (by decide +kernel)
theorem im_X8_begins : Cond.instanceMethod yX8_begins ∈ G := inG 996 (by decide +kernel) (by decide +kernel)
theorem se_X8_begins : Cond.selects yX8_begins.cls yX8_begins yX8_begins ∈ G := inG 997 (by decide +kernel) (by decide +kernel)
theorem mw_X8_begins : Mwv yX8_begins cX8_begins 3 2 (some .int) := ⟨kc_X8_begins, im_X8_begins, se_X8_begins, ini_X8, by decide +kernel⟩
theorem kc_X8_begin : Cond.code yX8_begin cX8_begin 2 none ∈ G := inG 1014 (by decide +kernel) (by decide +kernel)
theorem im_X8_begin : Cond.instanceMethod yX8_begin ∈ G := inG 1013 (by decide +kernel) (by decide +kernel)
theorem se_X8_begin : Cond.selects yX8_begin.cls yX8_begin yX8_begin ∈ G := inG 42 (by decide +kernel) (by decide +kernel)
theorem mw_X8_begin : Mwv yX8_begin cX8_begin 2 0 none := ⟨kc_X8_begin, im_X8_begin, se_X8_begin, ini_X8, by decide +kernel⟩
theorem kc_X8_next : Cond.code yX8_next cX8_next 2 (some .boolean) ∈ G := inG 1038 (by decide +kernel) (by decide +kernel)
theorem im_X8_next : Cond.instanceMethod yX8_next ∈ G := inG 1037 (by decide +kernel) (by decide +kernel)
theorem se_X8_next : Cond.selects yX8_next.cls yX8_next yX8_next ∈ G := inG 48 (by decide +kernel) (by decide +kernel)
theorem mw_X8_next : Mwv yX8_next cX8_next 2 0 (some .boolean) := ⟨kc_X8_next, im_X8_next, se_X8_next, ini_X8, by decide +kernel⟩
theorem kc_X8_wordOfColumn : Cond.code yX8_wordOfColumn cX8_wordOfColumn 5 (some .int) ∈ G := inG 1026 (by decide +kernel) (by decide +kernel)
theorem im_X8_wordOfColumn : Cond.instanceMethod yX8_wordOfColumn ∈ G := inG 1025 (by decide +kernel) (by decide +kernel)
theorem se_X8_wordOfColumn : Cond.selects yX8_wordOfColumn.cls yX8_wordOfColumn yX8_wordOfColumn ∈ G := inG 45 (by decide +kernel) (by decide +kernel)
theorem mw_X8_wordOfColumn : Mwv yX8_wordOfColumn cX8_wordOfColumn 5 1 (some .int) := ⟨kc_X8_wordOfColumn, im_X8_wordOfColumn, se_X8_wordOfColumn, ini_X8, by decide +kernel⟩
theorem kc_X8_isSquare : Cond.code yX8_isSquare cX8_isSquare 2 (some .boolean) ∈ G := inG 1022 (by decide +kernel) (by decide +kernel)
theorem im_X8_isSquare : Cond.instanceMethod yX8_isSquare ∈ G := inG 1021 (by decide +kernel) (by decide +kernel)
theorem se_X8_isSquare : Cond.selects yX8_isSquare.cls yX8_isSquare yX8_isSquare ∈ G := inG 44 (by decide +kernel) (by decide +kernel)
theorem mw_X8_isSquare : Mwv yX8_isSquare cX8_isSquare 2 0 (some .boolean) := ⟨kc_X8_isSquare, im_X8_isSquare, se_X8_isSquare, ini_X8, by decide +kernel⟩
theorem kc_X8_isSame : Cond.code yX8_isSame cX8_isSame 3 (some .boolean) ∈ G := inG 1030 (by decide +kernel) (by decide +kernel)
theorem im_X8_isSame : Cond.instanceMethod yX8_isSame ∈ G := inG 1029 (by decide +kernel) (by decide +kernel)
theorem se_X8_isSame : Cond.selects yX8_isSame.cls yX8_isSame yX8_isSame ∈ G := inG 46 (by decide +kernel) (by decide +kernel)
theorem mw_X8_isSame : Mwv yX8_isSame cX8_isSame 3 0 (some .boolean) := ⟨kc_X8_isSame, im_X8_isSame, se_X8_isSame, ini_X8, by decide +kernel⟩
theorem kc_X8_isUnlike : Cond.code yX8_isUnlike cX8_isUnlike 4 (some .boolean) ∈ G := inG 1034 (by decide +kernel) (by decide +kernel)
theorem im_X8_isUnlike : Cond.instanceMethod yX8_isUnlike ∈ G := inG 1033 (by decide +kernel) (by decide +kernel)
theorem se_X8_isUnlike : Cond.selects yX8_isUnlike.cls yX8_isUnlike yX8_isUnlike ∈ G := inG 47 (by decide +kernel) (by decide +kernel)
theorem mw_X8_isUnlike : Mwv yX8_isUnlike cX8_isUnlike 4 0 (some .boolean) := ⟨kc_X8_isUnlike, im_X8_isUnlike, se_X8_isUnlike, ini_X8, by decide +kernel⟩
theorem kc_X8_isOf : Cond.code yX8_isOf cX8_isOf 2 (some .boolean) ∈ G := inG 1018 (by decide +kernel) (by decide +kernel)
theorem im_X8_isOf : Cond.instanceMethod yX8_isOf ∈ G := inG 1017 (by decide +kernel) (by decide +kernel)
theorem se_X8_isOf : Cond.selects yX8_isOf.cls yX8_isOf yX8_isOf ∈ G := inG 43 (by decide +kernel) (by decide +kernel)
theorem mw_X8_isOf : Mwv yX8_isOf cX8_isOf 2 1 (some .boolean) := ⟨kc_X8_isOf, im_X8_isOf, se_X8_isOf, ini_X8, by decide +kernel⟩
theorem kc_X8_squaresNow : Cond.code yX8_squaresNow cX8_squaresNow 4 (some .int) ∈ G := inG 1010 (by decide +kernel) (by decide +kernel)
theorem im_X8_squaresNow : Cond.instanceMethod yX8_squaresNow ∈ G := inG 1009 (by decide +kernel) (by decide +kernel)
theorem se_X8_squaresNow : Cond.selects yX8_squaresNow.cls yX8_squaresNow yX8_squaresNow ∈ G := inG 41 (by decide +kernel) (by decide +kernel)
theorem mw_X8_squaresNow : Mwv yX8_squaresNow cX8_squaresNow 4 1 (some .int) := ⟨kc_X8_squaresNow, im_X8_squaresNow, se_X8_squaresNow, ini_X8, by decide +kernel⟩
theorem kc_X8_squares : Cond.code yX8_squares cX8_squares 2 (some .int) ∈ G := inG 1006 (by decide +kernel) (by decide +kernel)
theorem im_X8_squares : Cond.instanceMethod yX8_squares ∈ G := inG 1004 (by decide +kernel) (by decide +kernel)
theorem se_X8_squares : Cond.selects yX8_squares.cls yX8_squares yX8_squares ∈ G := inG 1005 (by decide +kernel) (by decide +kernel)
theorem mw_X8_squares : Mwv yX8_squares cX8_squares 2 1 (some .int) := ⟨kc_X8_squares, im_X8_squares, se_X8_squares, ini_X8, by decide +kernel⟩
theorem kc_X8_lay : Cond.code yX8_lay cX8_lay 5 (some .boolean) ∈ G := inG 1046 (by decide +kernel) (by decide +kernel)
theorem im_X8_lay : Cond.instanceMethod yX8_lay ∈ G := inG 1045 (by decide +kernel) (by decide +kernel)
theorem se_X8_lay : Cond.selects yX8_lay.cls yX8_lay yX8_lay ∈ G := inG 49 (by decide +kernel) (by decide +kernel)
theorem mw_X8_lay : Mwv yX8_lay cX8_lay 5 2 (some .boolean) := ⟨kc_X8_lay, im_X8_lay, se_X8_lay, ini_X8, by decide +kernel⟩
theorem kc_X8_row : Cond.code yX8_row cX8_row 4 (some .int) ∈ G := inG 1042 (by decide +kernel) (by decide +kernel)
theorem im_X8_row : Cond.instanceMethod yX8_row ∈ G := inG 1040 (by decide +kernel) (by decide +kernel)
theorem se_X8_row : Cond.selects yX8_row.cls yX8_row yX8_row ∈ G := inG 1041 (by decide +kernel) (by decide +kernel)
theorem mw_X8_row : Mwv yX8_row cX8_row 4 3 (some .int) := ⟨kc_X8_row, im_X8_row, se_X8_row, ini_X8, by decide +kernel⟩
theorem kc_X8_turnedNow : Cond.code yX8_turnedNow cX8_turnedNow 4 (some .int) ∈ G := inG 1054 (by decide +kernel) (by decide +kernel)
theorem im_X8_turnedNow : Cond.instanceMethod yX8_turnedNow ∈ G := inG 1053 (by decide +kernel) (by decide +kernel)
theorem se_X8_turnedNow : Cond.selects yX8_turnedNow.cls yX8_turnedNow yX8_turnedNow ∈ G := inG 50 (by decide +kernel) (by decide +kernel)
theorem mw_X8_turnedNow : Mwv yX8_turnedNow cX8_turnedNow 4 0 (some .int) := ⟨kc_X8_turnedNow, im_X8_turnedNow, se_X8_turnedNow, ini_X8, by decide +kernel⟩
theorem kc_X8_turned : Cond.code yX8_turned cX8_turned 2 (some .int) ∈ G := inG 1050 (by decide +kernel) (by decide +kernel)
theorem im_X8_turned : Cond.instanceMethod yX8_turned ∈ G := inG 1048 (by decide +kernel) (by decide +kernel)
theorem se_X8_turned : Cond.selects yX8_turned.cls yX8_turned yX8_turned ∈ G := inG 1049 (by decide +kernel) (by decide +kernel)
theorem mw_X8_turned : Mwv yX8_turned cX8_turned 2 1 (some .int) := ⟨kc_X8_turned, im_X8_turned, se_X8_turned, ini_X8, by decide +kernel⟩
theorem kc_X8_heavyNow : Cond.code yX8_heavyNow cX8_heavyNow 3 (some .int) ∈ G := inG 1062 (by decide +kernel) (by decide +kernel)
theorem im_X8_heavyNow : Cond.instanceMethod yX8_heavyNow ∈ G := inG 1061 (by decide +kernel) (by decide +kernel)
theorem se_X8_heavyNow : Cond.selects yX8_heavyNow.cls yX8_heavyNow yX8_heavyNow ∈ G := inG 51 (by decide +kernel) (by decide +kernel)
theorem mw_X8_heavyNow : Mwv yX8_heavyNow cX8_heavyNow 3 0 (some .int) := ⟨kc_X8_heavyNow, im_X8_heavyNow, se_X8_heavyNow, ini_X8, by decide +kernel⟩
theorem kc_X8_heavy : Cond.code yX8_heavy cX8_heavy 2 (some .int) ∈ G := inG 1058 (by decide +kernel) (by decide +kernel)
theorem im_X8_heavy : Cond.instanceMethod yX8_heavy ∈ G := inG 1056 (by decide +kernel) (by decide +kernel)
theorem se_X8_heavy : Cond.selects yX8_heavy.cls yX8_heavy yX8_heavy ∈ G := inG 1057 (by decide +kernel) (by decide +kernel)
theorem mw_X8_heavy : Mwv yX8_heavy cX8_heavy 2 1 (some .int) := ⟨kc_X8_heavy, im_X8_heavy, se_X8_heavy, ini_X8, by decide +kernel⟩
theorem kc_X8_heaviestNow : Cond.code yX8_heaviestNow cX8_heaviestNow 7 (some .int) ∈ G := inG 1070 (by decide +kernel) (by decide +kernel)
theorem im_X8_heaviestNow : Cond.instanceMethod yX8_heaviestNow ∈ G := inG 1069 (by decide +kernel) (by decide +kernel)
theorem se_X8_heaviestNow : Cond.selects yX8_heaviestNow.cls yX8_heaviestNow yX8_heaviestNow ∈ G := inG 52 (by decide +kernel) (by decide +kernel)
theorem mw_X8_heaviestNow : Mwv yX8_heaviestNow cX8_heaviestNow 7 1 (some .int) := ⟨kc_X8_heaviestNow, im_X8_heaviestNow, se_X8_heaviestNow, ini_X8, by decide +kernel⟩
theorem kc_X8_heaviest : Cond.code yX8_heaviest cX8_heaviest 2 (some .int) ∈ G := inG 1066 (by decide +kernel) (by decide +kernel)
theorem im_X8_heaviest : Cond.instanceMethod yX8_heaviest ∈ G := inG 1064 (by decide +kernel) (by decide +kernel)
theorem se_X8_heaviest : Cond.selects yX8_heaviest.cls yX8_heaviest yX8_heaviest ∈ G := inG 1065 (by decide +kernel) (by decide +kernel)
theorem mw_X8_heaviest : Mwv yX8_heaviest cX8_heaviest 2 1 (some .int) := ⟨kc_X8_heaviest, im_X8_heaviest, se_X8_heaviest, ini_X8, by decide +kernel⟩
theorem kc_X8_countSquare : Cond.code yX8_countSquare cX8_countSquare 4 none ∈ G := inG 1086 (by decide +kernel) (by decide +kernel)
theorem im_X8_countSquare : Cond.instanceMethod yX8_countSquare ∈ G := inG 1085 (by decide +kernel) (by decide +kernel)
theorem se_X8_countSquare : Cond.selects yX8_countSquare.cls yX8_countSquare yX8_countSquare ∈ G := inG 55 (by decide +kernel) (by decide +kernel)
theorem mw_X8_countSquare : Mwv yX8_countSquare cX8_countSquare 4 0 none := ⟨kc_X8_countSquare, im_X8_countSquare, se_X8_countSquare, ini_X8, by decide +kernel⟩
theorem kc_X8_layCounts : Cond.code yX8_layCounts cX8_layCounts 2 none ∈ G := inG 1082 (by decide +kernel) (by decide +kernel)
theorem im_X8_layCounts : Cond.instanceMethod yX8_layCounts ∈ G := inG 1081 (by decide +kernel) (by decide +kernel)
theorem se_X8_layCounts : Cond.selects yX8_layCounts.cls yX8_layCounts yX8_layCounts ∈ G := inG 54 (by decide +kernel) (by decide +kernel)
theorem mw_X8_layCounts : Mwv yX8_layCounts cX8_layCounts 2 0 none := ⟨kc_X8_layCounts, im_X8_layCounts, se_X8_layCounts, ini_X8, by decide +kernel⟩
theorem kc_X8_wordNow : Cond.code yX8_wordNow cX8_wordNow 3 (some .int) ∈ G := inG 1090 (by decide +kernel) (by decide +kernel)
theorem im_X8_wordNow : Cond.instanceMethod yX8_wordNow ∈ G := inG 1089 (by decide +kernel) (by decide +kernel)
theorem se_X8_wordNow : Cond.selects yX8_wordNow.cls yX8_wordNow yX8_wordNow ∈ G := inG 56 (by decide +kernel) (by decide +kernel)
theorem mw_X8_wordNow : Mwv yX8_wordNow cX8_wordNow 3 2 (some .int) := ⟨kc_X8_wordNow, im_X8_wordNow, se_X8_wordNow, ini_X8, by decide +kernel⟩
theorem kc_X8_wordTold : Cond.code yX8_wordTold cX8_wordTold 3 (some .int) ∈ G := inG 1078 (by decide +kernel) (by decide +kernel)
theorem im_X8_wordTold : Cond.instanceMethod yX8_wordTold ∈ G := inG 1077 (by decide +kernel) (by decide +kernel)
theorem se_X8_wordTold : Cond.selects yX8_wordTold.cls yX8_wordTold yX8_wordTold ∈ G := inG 53 (by decide +kernel) (by decide +kernel)
theorem mw_X8_wordTold : Mwv yX8_wordTold cX8_wordTold 3 2 (some .int) := ⟨kc_X8_wordTold, im_X8_wordTold, se_X8_wordTold, ini_X8, by decide +kernel⟩
theorem kc_X8_word : Cond.code yX8_word cX8_word 3 (some .int) ∈ G := inG 1074 (by decide +kernel) (by decide +kernel)
theorem im_X8_word : Cond.instanceMethod yX8_word ∈ G := inG 1072 (by decide +kernel) (by decide +kernel)
theorem se_X8_word : Cond.selects yX8_word.cls yX8_word yX8_word ∈ G := inG 1073 (by decide +kernel) (by decide +kernel)
theorem mw_X8_word : Mwv yX8_word cX8_word 3 2 (some .int) := ⟨kc_X8_word, im_X8_word, se_X8_word, ini_X8, by decide +kernel⟩
theorem kc_X8_isRow : Cond.code yX8_isRow cX8_isRow 2 (some .boolean) ∈ G := inG 1098 (by decide +kernel) (by decide +kernel)
theorem im_X8_isRow : Cond.instanceMethod yX8_isRow ∈ G := inG 1097 (by decide +kernel) (by decide +kernel)
theorem se_X8_isRow : Cond.selects yX8_isRow.cls yX8_isRow yX8_isRow ∈ G := inG 57 (by decide +kernel) (by decide +kernel)
theorem mw_X8_isRow : Mwv yX8_isRow cX8_isRow 2 1 (some .boolean) := ⟨kc_X8_isRow, im_X8_isRow, se_X8_isRow, ini_X8, by decide +kernel⟩
theorem kc_X8_put : Cond.code yX8_put cX8_put 4 (some .int) ∈ G := inG 1094 (by decide +kernel) (by decide +kernel)
theorem im_X8_put : Cond.instanceMethod yX8_put ∈ G := inG 1092 (by decide +kernel) (by decide +kernel)
theorem se_X8_put : Cond.selects yX8_put.cls yX8_put yX8_put ∈ G := inG 1093 (by decide +kernel) (by decide +kernel)
theorem mw_X8_put : Mwv yX8_put cX8_put 4 2 (some .int) := ⟨kc_X8_put, im_X8_put, se_X8_put, ini_X8, by decide +kernel⟩
theorem kc_X8_lift : Cond.code yX8_lift cX8_lift 3 (some .int) ∈ G := inG 1102 (by decide +kernel) (by decide +kernel)
theorem im_X8_lift : Cond.instanceMethod yX8_lift ∈ G := inG 1100 (by decide +kernel) (by decide +kernel)
theorem se_X8_lift : Cond.selects yX8_lift.cls yX8_lift yX8_lift ∈ G := inG 1101 (by decide +kernel) (by decide +kernel)
theorem mw_X8_lift : Mwv yX8_lift cX8_lift 3 1 (some .int) := ⟨kc_X8_lift, im_X8_lift, se_X8_lift, ini_X8, by decide +kernel⟩
theorem kc_X8_board : Cond.code yX8_board cX8_board 2 (some .int) ∈ G := inG 1106 (by decide +kernel) (by decide +kernel)
theorem im_X8_board : Cond.instanceMethod yX8_board ∈ G := inG 1104 (by decide +kernel) (by decide +kernel)
theorem se_X8_board : Cond.selects yX8_board.cls yX8_board yX8_board ∈ G := inG 1105 (by decide +kernel) (by decide +kernel)
theorem mw_X8_board : Mwv yX8_board cX8_board 2 1 (some .int) := ⟨kc_X8_board, im_X8_board, se_X8_board, ini_X8, by decide +kernel⟩
theorem kc_X8_isFitting : Cond.code yX8_isFitting cX8_isFitting 3 (some .boolean) ∈ G := inG 1122 (by decide +kernel) (by decide +kernel)
theorem im_X8_isFitting : Cond.instanceMethod yX8_isFitting ∈ G := inG 1121 (by decide +kernel) (by decide +kernel)
theorem se_X8_isFitting : Cond.selects yX8_isFitting.cls yX8_isFitting yX8_isFitting ∈ G := inG 60 (by decide +kernel) (by decide +kernel)
theorem mw_X8_isFitting : Mwv yX8_isFitting cX8_isFitting 3 0 (some .boolean) := ⟨kc_X8_isFitting, im_X8_isFitting, se_X8_isFitting, ini_X8, by decide +kernel⟩
theorem kc_X8_countFitting : Cond.code yX8_countFitting cX8_countFitting 4 none ∈ G := inG 1126 (by decide +kernel) (by decide +kernel)
theorem im_X8_countFitting : Cond.instanceMethod yX8_countFitting ∈ G := inG 1125 (by decide +kernel) (by decide +kernel)
theorem se_X8_countFitting : Cond.selects yX8_countFitting.cls yX8_countFitting yX8_countFitting ∈ G := inG 61 (by decide +kernel) (by decide +kernel)
theorem mw_X8_countFitting : Mwv yX8_countFitting cX8_countFitting 4 0 none := ⟨kc_X8_countFitting, im_X8_countFitting, se_X8_countFitting, ini_X8, by decide +kernel⟩
theorem kc_X8_layFitting : Cond.code yX8_layFitting cX8_layFitting 2 none ∈ G := inG 1118 (by decide +kernel) (by decide +kernel)
theorem im_X8_layFitting : Cond.instanceMethod yX8_layFitting ∈ G := inG 1117 (by decide +kernel) (by decide +kernel)
theorem se_X8_layFitting : Cond.selects yX8_layFitting.cls yX8_layFitting yX8_layFitting ∈ G := inG 59 (by decide +kernel) (by decide +kernel)
theorem mw_X8_layFitting : Mwv yX8_layFitting cX8_layFitting 2 0 none := ⟨kc_X8_layFitting, im_X8_layFitting, se_X8_layFitting, ini_X8, by decide +kernel⟩
theorem kc_X8_fittingNow : Cond.code yX8_fittingNow cX8_fittingNow 1 (some .int) ∈ G := inG 1114 (by decide +kernel) (by decide +kernel)
theorem im_X8_fittingNow : Cond.instanceMethod yX8_fittingNow ∈ G := inG 1113 (by decide +kernel) (by decide +kernel)
theorem se_X8_fittingNow : Cond.selects yX8_fittingNow.cls yX8_fittingNow yX8_fittingNow ∈ G := inG 58 (by decide +kernel) (by decide +kernel)
theorem mw_X8_fittingNow : Mwv yX8_fittingNow cX8_fittingNow 1 0 (some .int) := ⟨kc_X8_fittingNow, im_X8_fittingNow, se_X8_fittingNow, ini_X8, by decide +kernel⟩
theorem kc_X8_fitting : Cond.code yX8_fitting cX8_fitting 1 (some .int) ∈ G := inG 1110 (by decide +kernel) (by decide +kernel)
theorem im_X8_fitting : Cond.instanceMethod yX8_fitting ∈ G := inG 1108 (by decide +kernel) (by decide +kernel)
theorem se_X8_fitting : Cond.selects yX8_fitting.cls yX8_fitting yX8_fitting ∈ G := inG 1109 (by decide +kernel) (by decide +kernel)
theorem mw_X8_fitting : Mwv yX8_fitting cX8_fitting 1 0 (some .int) := ⟨kc_X8_fitting, im_X8_fitting, se_X8_fitting, ini_X8, by decide +kernel⟩
theorem kc_X8_mayNow : Cond.code yX8_mayNow cX8_mayNow 2 (some .int) ∈ G := inG 1134 (by decide +kernel) (by decide +kernel)
theorem im_X8_mayNow : Cond.instanceMethod yX8_mayNow ∈ G := inG 1133 (by decide +kernel) (by decide +kernel)
theorem se_X8_mayNow : Cond.selects yX8_mayNow.cls yX8_mayNow yX8_mayNow ∈ G := inG 62 (by decide +kernel) (by decide +kernel)
theorem mw_X8_mayNow : Mwv yX8_mayNow cX8_mayNow 2 1 (some .int) := ⟨kc_X8_mayNow, im_X8_mayNow, se_X8_mayNow, ini_X8, by decide +kernel⟩
theorem kc_X8_may : Cond.code yX8_may cX8_may 2 (some .int) ∈ G := inG 1130 (by decide +kernel) (by decide +kernel)
theorem im_X8_may : Cond.instanceMethod yX8_may ∈ G := inG 1128 (by decide +kernel) (by decide +kernel)
theorem se_X8_may : Cond.selects yX8_may.cls yX8_may yX8_may ∈ G := inG 1129 (by decide +kernel) (by decide +kernel)
theorem mw_X8_may : Mwv yX8_may cX8_may 2 1 (some .int) := ⟨kc_X8_may, im_X8_may, se_X8_may, ini_X8, by decide +kernel⟩
theorem kc_X8_sureNow : Cond.code yX8_sureNow cX8_sureNow 4 (some .int) ∈ G := inG 1142 (by decide +kernel) (by decide +kernel)
theorem im_X8_sureNow : Cond.instanceMethod yX8_sureNow ∈ G := inG 1141 (by decide +kernel) (by decide +kernel)
theorem se_X8_sureNow : Cond.selects yX8_sureNow.cls yX8_sureNow yX8_sureNow ∈ G := inG 63 (by decide +kernel) (by decide +kernel)
theorem mw_X8_sureNow : Mwv yX8_sureNow cX8_sureNow 4 2 (some .int) := ⟨kc_X8_sureNow, im_X8_sureNow, se_X8_sureNow, ini_X8, by decide +kernel⟩
theorem kc_X8_sure : Cond.code yX8_sure cX8_sure 3 (some .int) ∈ G := inG 1138 (by decide +kernel) (by decide +kernel)
theorem im_X8_sure : Cond.instanceMethod yX8_sure ∈ G := inG 1136 (by decide +kernel) (by decide +kernel)
theorem se_X8_sure : Cond.selects yX8_sure.cls yX8_sure yX8_sure ∈ G := inG 1137 (by decide +kernel) (by decide +kernel)
theorem mw_X8_sure : Mwv yX8_sure cX8_sure 3 2 (some .int) := ⟨kc_X8_sure, im_X8_sure, se_X8_sure, ini_X8, by decide +kernel⟩
theorem kc_X8_beginOfColumn : Cond.code yX8_beginOfColumn cX8_beginOfColumn 6 (some .int) ∈ G := inG 1166 (by decide +kernel) (by decide +kernel)
theorem im_X8_beginOfColumn : Cond.instanceMethod yX8_beginOfColumn ∈ G := inG 1165 (by decide +kernel) (by decide +kernel)
theorem se_X8_beginOfColumn : Cond.selects yX8_beginOfColumn.cls yX8_beginOfColumn yX8_beginOfColumn ∈ G := inG 68 (by decide +kernel) (by decide +kernel)
theorem mw_X8_beginOfColumn : Mwv yX8_beginOfColumn cX8_beginOfColumn 6 2 (some .int) := ⟨kc_X8_beginOfColumn, im_X8_beginOfColumn, se_X8_beginOfColumn, ini_X8, by decide +kernel⟩
theorem kc_X8_isState : Cond.code yX8_isState cX8_isState 4 (some .boolean) ∈ G := inG 1162 (by decide +kernel) (by decide +kernel)
theorem im_X8_isState : Cond.instanceMethod yX8_isState ∈ G := inG 1161 (by decide +kernel) (by decide +kernel)
theorem se_X8_isState : Cond.selects yX8_isState.cls yX8_isState yX8_isState ∈ G := inG 67 (by decide +kernel) (by decide +kernel)
theorem mw_X8_isState : Mwv yX8_isState cX8_isState 4 1 (some .boolean) := ⟨kc_X8_isState, im_X8_isState, se_X8_isState, ini_X8, by decide +kernel⟩
theorem kc_X8_hasRest : Cond.code yX8_hasRest cX8_hasRest 8 (some .boolean) ∈ G := inG 1182 (by decide +kernel) (by decide +kernel)
theorem im_X8_hasRest : Cond.instanceMethod yX8_hasRest ∈ G := inG 1181 (by decide +kernel) (by decide +kernel)
theorem se_X8_hasRest : Cond.selects yX8_hasRest.cls yX8_hasRest yX8_hasRest ∈ G := inG 72 (by decide +kernel) (by decide +kernel)
theorem mw_X8_hasRest : Mwv yX8_hasRest cX8_hasRest 8 3 (some .boolean) := ⟨kc_X8_hasRest, im_X8_hasRest, se_X8_hasRest, ini_X8, by decide +kernel⟩
theorem kc_X8_hasAllRests : Cond.code yX8_hasAllRests cX8_hasAllRests 6 (some .boolean) ∈ G := inG 1178 (by decide +kernel) (by decide +kernel)
theorem im_X8_hasAllRests : Cond.instanceMethod yX8_hasAllRests ∈ G := inG 1177 (by decide +kernel) (by decide +kernel)
theorem se_X8_hasAllRests : Cond.selects yX8_hasAllRests.cls yX8_hasAllRests yX8_hasAllRests ∈ G := inG 71 (by decide +kernel) (by decide +kernel)
theorem mw_X8_hasAllRests : Mwv yX8_hasAllRests cX8_hasAllRests 6 3 (some .boolean) := ⟨kc_X8_hasAllRests, im_X8_hasAllRests, se_X8_hasAllRests, ini_X8, by decide +kernel⟩
theorem kc_X8_likeOf : Cond.code yX8_likeOf cX8_likeOf 4 (some .int) ∈ G := inG 1174 (by decide +kernel) (by decide +kernel)
theorem im_X8_likeOf : Cond.instanceMethod yX8_likeOf ∈ G := inG 1173 (by decide +kernel) (by decide +kernel)
theorem se_X8_likeOf : Cond.selects yX8_likeOf.cls yX8_likeOf yX8_likeOf ∈ G := inG 70 (by decide +kernel) (by decide +kernel)
theorem mw_X8_likeOf : Mwv yX8_likeOf cX8_likeOf 4 2 (some .int) := ⟨kc_X8_likeOf, im_X8_likeOf, se_X8_likeOf, ini_X8, by decide +kernel⟩
theorem kc_X8_keyOf : Cond.code yX8_keyOf cX8_keyOf 4 (some .int) ∈ G := inG 1170 (by decide +kernel) (by decide +kernel)
theorem im_X8_keyOf : Cond.instanceMethod yX8_keyOf ∈ G := inG 1169 (by decide +kernel) (by decide +kernel)
theorem se_X8_keyOf : Cond.selects yX8_keyOf.cls yX8_keyOf yX8_keyOf ∈ G := inG 69 (by decide +kernel) (by decide +kernel)
theorem mw_X8_keyOf : Mwv yX8_keyOf cX8_keyOf 4 1 (some .int) := ⟨kc_X8_keyOf, im_X8_keyOf, se_X8_keyOf, ini_X8, by decide +kernel⟩
theorem kc_X8_isKept : Cond.code yX8_isKept cX8_isKept 4 (some .boolean) ∈ G := inG 1186 (by decide +kernel) (by decide +kernel)
theorem im_X8_isKept : Cond.instanceMethod yX8_isKept ∈ G := inG 1185 (by decide +kernel) (by decide +kernel)
theorem se_X8_isKept : Cond.selects yX8_isKept.cls yX8_isKept yX8_isKept ∈ G := inG 73 (by decide +kernel) (by decide +kernel)
theorem mw_X8_isKept : Mwv yX8_isKept cX8_isKept 4 1 (some .boolean) := ⟨kc_X8_isKept, im_X8_isKept, se_X8_isKept, ini_X8, by decide +kernel⟩
theorem kc_X8_leave : Cond.code yX8_leave cX8_leave 4 none ∈ G := inG 1158 (by decide +kernel) (by decide +kernel)
theorem im_X8_leave : Cond.instanceMethod yX8_leave ∈ G := inG 1157 (by decide +kernel) (by decide +kernel)
theorem se_X8_leave : Cond.selects yX8_leave.cls yX8_leave yX8_leave ∈ G := inG 66 (by decide +kernel) (by decide +kernel)
theorem mw_X8_leave : Mwv yX8_leave cX8_leave 4 2 none := ⟨kc_X8_leave, im_X8_leave, se_X8_leave, ini_X8, by decide +kernel⟩
theorem kc_X8_visit : Cond.code yX8_visit cX8_visit 3 (some .int) ∈ G := inG 1190 (by decide +kernel) (by decide +kernel)
theorem im_X8_visit : Cond.instanceMethod yX8_visit ∈ G := inG 1189 (by decide +kernel) (by decide +kernel)
theorem se_X8_visit : Cond.selects yX8_visit.cls yX8_visit yX8_visit ∈ G := inG 74 (by decide +kernel) (by decide +kernel)
theorem mw_X8_visit : Mwv yX8_visit cX8_visit 3 2 (some .int) := ⟨kc_X8_visit, im_X8_visit, se_X8_visit, ini_X8, by decide +kernel⟩
theorem kc_X8_goes : Cond.code yX8_goes cX8_goes 3 none ∈ G := inG 1154 (by decide +kernel) (by decide +kernel)
theorem im_X8_goes : Cond.instanceMethod yX8_goes ∈ G := inG 1153 (by decide +kernel) (by decide +kernel)
theorem se_X8_goes : Cond.selects yX8_goes.cls yX8_goes yX8_goes ∈ G := inG 65 (by decide +kernel) (by decide +kernel)
theorem mw_X8_goes : Mwv yX8_goes cX8_goes 3 1 none := ⟨kc_X8_goes, im_X8_goes, se_X8_goes, ini_X8, by decide +kernel⟩
theorem kc_X8_searchNow : Cond.code yX8_searchNow cX8_searchNow 2 (some .int) ∈ G := inG 1150 (by decide +kernel) (by decide +kernel)
theorem im_X8_searchNow : Cond.instanceMethod yX8_searchNow ∈ G := inG 1149 (by decide +kernel) (by decide +kernel)
theorem se_X8_searchNow : Cond.selects yX8_searchNow.cls yX8_searchNow yX8_searchNow ∈ G := inG 64 (by decide +kernel) (by decide +kernel)
theorem mw_X8_searchNow : Mwv yX8_searchNow cX8_searchNow 2 1 (some .int) := ⟨kc_X8_searchNow, im_X8_searchNow, se_X8_searchNow, ini_X8, by decide +kernel⟩
theorem kc_X8_search : Cond.code yX8_search cX8_search 2 (some .int) ∈ G := inG 1146 (by decide +kernel) (by decide +kernel)
theorem im_X8_search : Cond.instanceMethod yX8_search ∈ G := inG 1144 (by decide +kernel) (by decide +kernel)
theorem se_X8_search : Cond.selects yX8_search.cls yX8_search yX8_search ∈ G := inG 1145 (by decide +kernel) (by decide +kernel)
theorem mw_X8_search : Mwv yX8_search cX8_search 2 1 (some .int) := ⟨kc_X8_search, im_X8_search, se_X8_search, ini_X8, by decide +kernel⟩
theorem kc_X8_laidMany : Cond.code yX8_laidMany cX8_laidMany 3 (some .int) ∈ G := inG 1202 (by decide +kernel) (by decide +kernel)
theorem im_X8_laidMany : Cond.instanceMethod yX8_laidMany ∈ G := inG 1201 (by decide +kernel) (by decide +kernel)
theorem se_X8_laidMany : Cond.selects yX8_laidMany.cls yX8_laidMany yX8_laidMany ∈ G := inG 76 (by decide +kernel) (by decide +kernel)
theorem mw_X8_laidMany : Mwv yX8_laidMany cX8_laidMany 3 0 (some .int) := ⟨kc_X8_laidMany, im_X8_laidMany, se_X8_laidMany, ini_X8, by decide +kernel⟩
theorem kc_X8_howMany : Cond.code yX8_howMany cX8_howMany 2 (some .int) ∈ G := inG 1198 (by decide +kernel) (by decide +kernel)
theorem im_X8_howMany : Cond.instanceMethod yX8_howMany ∈ G := inG 1197 (by decide +kernel) (by decide +kernel)
theorem se_X8_howMany : Cond.selects yX8_howMany.cls yX8_howMany yX8_howMany ∈ G := inG 75 (by decide +kernel) (by decide +kernel)
theorem mw_X8_howMany : Mwv yX8_howMany cX8_howMany 2 1 (some .int) := ⟨kc_X8_howMany, im_X8_howMany, se_X8_howMany, ini_X8, by decide +kernel⟩
theorem kc_X8_count : Cond.code yX8_count cX8_count 2 (some .int) ∈ G := inG 1194 (by decide +kernel) (by decide +kernel)
theorem im_X8_count : Cond.instanceMethod yX8_count ∈ G := inG 1192 (by decide +kernel) (by decide +kernel)
theorem se_X8_count : Cond.selects yX8_count.cls yX8_count yX8_count ∈ G := inG 1193 (by decide +kernel) (by decide +kernel)
theorem mw_X8_count : Mwv yX8_count cX8_count 2 1 (some .int) := ⟨kc_X8_count, im_X8_count, se_X8_count, ini_X8, by decide +kernel⟩
theorem kc_X8_mix : Cond.code yX8_mix cX8_mix 3 none ∈ G := inG 1215 (by decide +kernel) (by decide +kernel)
theorem im_X8_mix : Cond.instanceMethod yX8_mix ∈ G := inG 1214 (by decide +kernel) (by decide +kernel)
theorem se_X8_mix : Cond.selects yX8_mix.cls yX8_mix yX8_mix ∈ G := inG 78 (by decide +kernel) (by decide +kernel)
theorem mw_X8_mix : Mwv yX8_mix cX8_mix 3 1 none := ⟨kc_X8_mix, im_X8_mix, se_X8_mix, ini_X8, by decide +kernel⟩
theorem kc_X8_mixWords : Cond.code yX8_mixWords cX8_mixWords 3 none ∈ G := inG 1211 (by decide +kernel) (by decide +kernel)
theorem im_X8_mixWords : Cond.instanceMethod yX8_mixWords ∈ G := inG 1210 (by decide +kernel) (by decide +kernel)
theorem se_X8_mixWords : Cond.selects yX8_mixWords.cls yX8_mixWords yX8_mixWords ∈ G := inG 77 (by decide +kernel) (by decide +kernel)
theorem mw_X8_mixWords : Mwv yX8_mixWords cX8_mixWords 3 0 none := ⟨kc_X8_mixWords, im_X8_mixWords, se_X8_mixWords, ini_X8, by decide +kernel⟩
theorem kc_X8_mixSquares : Cond.code yX8_mixSquares cX8_mixSquares 4 none ∈ G := inG 1220 (by decide +kernel) (by decide +kernel)
theorem im_X8_mixSquares : Cond.instanceMethod yX8_mixSquares ∈ G := inG 1219 (by decide +kernel) (by decide +kernel)
theorem se_X8_mixSquares : Cond.selects yX8_mixSquares.cls yX8_mixSquares yX8_mixSquares ∈ G := inG 79 (by decide +kernel) (by decide +kernel)
theorem mw_X8_mixSquares : Mwv yX8_mixSquares cX8_mixSquares 4 0 none := ⟨kc_X8_mixSquares, im_X8_mixSquares, se_X8_mixSquares, ini_X8, by decide +kernel⟩
theorem kc_X8_mixBoard : Cond.code yX8_mixBoard cX8_mixBoard 3 none ∈ G := inG 1224 (by decide +kernel) (by decide +kernel)
theorem im_X8_mixBoard : Cond.instanceMethod yX8_mixBoard ∈ G := inG 1223 (by decide +kernel) (by decide +kernel)
theorem se_X8_mixBoard : Cond.selects yX8_mixBoard.cls yX8_mixBoard yX8_mixBoard ∈ G := inG 80 (by decide +kernel) (by decide +kernel)
theorem mw_X8_mixBoard : Mwv yX8_mixBoard cX8_mixBoard 3 0 none := ⟨kc_X8_mixBoard, im_X8_mixBoard, se_X8_mixBoard, ini_X8, by decide +kernel⟩
theorem kc_X8_digest : Cond.code yX8_digest cX8_digest 2 (some .long) ∈ G := inG 1206 (by decide +kernel) (by decide +kernel)
theorem im_X8_digest : Cond.instanceMethod yX8_digest ∈ G := inG 1204 (by decide +kernel) (by decide +kernel)
theorem se_X8_digest : Cond.selects yX8_digest.cls yX8_digest yX8_digest ∈ G := inG 1205 (by decide +kernel) (by decide +kernel)
theorem mw_X8_digest : Mwv yX8_digest cX8_digest 2 0 (some .long) := ⟨kc_X8_digest, im_X8_digest, se_X8_digest, ini_X8, by decide +kernel⟩
theorem kc_J6_bitCount_0f7a4 : Cond.code yJ6_bitCount_0f7a4 cJ6_bitCount_0f7a4 1 (some .int) ∈ G := inG 468 (by decide +kernel) (by decide +kernel)
theorem st_J6_bitCount_0f7a4 : Cond.static yJ6_bitCount_0f7a4 ∈ G := inG 467 (by decide +kernel) (by decide +kernel)
theorem mw_J6_bitCount_0f7a4 : Mws yJ6_bitCount_0f7a4 cJ6_bitCount_0f7a4 1 1 (some .int) := ⟨kc_J6_bitCount_0f7a4, st_J6_bitCount_0f7a4, ini_J6, by decide +kernel⟩
theorem kc_J9_min_7cf53 : Cond.code yJ9_min_7cf53 cJ9_min_7cf53 2 (some .int) ∈ G := inG 455 (by decide +kernel) (by decide +kernel)
theorem st_J9_min_7cf53 : Cond.static yJ9_min_7cf53 ∈ G := inG 454 (by decide +kernel) (by decide +kernel)
theorem mw_J9_min_7cf53 : Mws yJ9_min_7cf53 cJ9_min_7cf53 2 2 (some .int) := ⟨kc_J9_min_7cf53, st_J9_min_7cf53, ini_J9, by decide +kernel⟩
theorem kc_J7_fill_d0a16 : Cond.code yJ7_fill_d0a16 cJ7_fill_d0a16 5 none ∈ G := inG 372 (by decide +kernel) (by decide +kernel)
theorem st_J7_fill_d0a16 : Cond.static yJ7_fill_d0a16 ∈ G := inG 371 (by decide +kernel) (by decide +kernel)
theorem mw_J7_fill_d0a16 : Mws yJ7_fill_d0a16 cJ7_fill_d0a16 5 2 none := ⟨kc_J7_fill_d0a16, st_J7_fill_d0a16, ini_J7, by decide +kernel⟩
theorem kc_J7_fill_53178 : Cond.code yJ7_fill_53178 cJ7_fill_53178 4 none ∈ G := inG 379 (by decide +kernel) (by decide +kernel)
theorem st_J7_fill_53178 : Cond.static yJ7_fill_53178 ∈ G := inG 378 (by decide +kernel) (by decide +kernel)
theorem mw_J7_fill_53178 : Mws yJ7_fill_53178 cJ7_fill_53178 4 2 none := ⟨kc_J7_fill_53178, st_J7_fill_53178, ini_J7, by decide +kernel⟩
theorem kc_J7_copyOf_59c91 : Cond.code yJ7_copyOf_59c91 cJ7_copyOf_59c91 3 (some (.array .int)) ∈ G := inG 445 (by decide +kernel) (by decide +kernel)
theorem st_J7_copyOf_59c91 : Cond.static yJ7_copyOf_59c91 ∈ G := inG 444 (by decide +kernel) (by decide +kernel)
theorem mw_J7_copyOf_59c91 : Mws yJ7_copyOf_59c91 cJ7_copyOf_59c91 3 2 (some (.array .int)) := ⟨kc_J7_copyOf_59c91, st_J7_copyOf_59c91, ini_J7, by decide +kernel⟩
theorem ln_L_9 : Cond.methodLink RL 9 yX7_init ∈ G := inG 97 (by decide +kernel) (by decide +kernel)
theorem ln_X7_25 : Cond.methodLink RX7 25 yX2_init ∈ G := inG 138 (by decide +kernel) (by decide +kernel)
theorem ln_X2_60 : Cond.methodLink RX2 60 yX3_init ∈ G := inG 171 (by decide +kernel) (by decide +kernel)
theorem ln_L_13 : Cond.methodLink RL 13 yX7_letter ∈ G := inG 274 (by decide +kernel) (by decide +kernel)
theorem ln_X7_57 : Cond.methodLink RX7 57 yX5_size ∈ G := inG 278 (by decide +kernel) (by decide +kernel)
theorem ln_X7_61 : Cond.methodLink RX7 61 yX5_append ∈ G := inG 282 (by decide +kernel) (by decide +kernel)
theorem ln_L_18 : Cond.methodLink RL 18 yX7_blank ∈ G := inG 286 (by decide +kernel) (by decide +kernel)
theorem ln_X7_65 : Cond.methodLink RX7 65 yX5_clear ∈ G := inG 290 (by decide +kernel) (by decide +kernel)
theorem ln_L_23 : Cond.methodLink RL 23 yX7_fault ∈ G := inG 294 (by decide +kernel) (by decide +kernel)
theorem ln_X7_68 : Cond.methodLink RX7 68 yX5_firstFault ∈ G := inG 298 (by decide +kernel) (by decide +kernel)
theorem ln_X5_19 : Cond.methodLink RX5 19 yX5_isLetter ∈ G := inG 302 (by decide +kernel) (by decide +kernel)
theorem ln_X5_23 : Cond.methodLink RX5 23 yX5_repeats ∈ G := inG 305 (by decide +kernel) (by decide +kernel)
theorem ln_X5_27 : Cond.methodLink RX5 27 yX5_sameWord ∈ G := inG 309 (by decide +kernel) (by decide +kernel)
theorem ln_X5_31 : Cond.methodLink RX5 31 yX5_codeAt ∈ G := inG 313 (by decide +kernel) (by decide +kernel)
theorem ln_L_27 : Cond.methodLink RL 27 yX7_words ∈ G := inG 317 (by decide +kernel) (by decide +kernel)
theorem ln_X7_71 : Cond.methodLink RX7 71 yX5_lengthOfWords ∈ G := inG 321 (by decide +kernel) (by decide +kernel)
theorem ln_X5_35 : Cond.methodLink RX5 35 yX5_firstFault ∈ G := inG 325 (by decide +kernel) (by decide +kernel)
theorem ln_X5_39 : Cond.methodLink RX5 39 yX5_firstComma ∈ G := inG 326 (by decide +kernel) (by decide +kernel)
theorem ln_X7_74 : Cond.methodLink RX7 74 yX6_takesLength ∈ G := inG 330 (by decide +kernel) (by decide +kernel)
theorem ln_X7_78 : Cond.methodLink RX7 78 yX5_numberOfWords ∈ G := inG 334 (by decide +kernel) (by decide +kernel)
theorem ln_X7_82 : Cond.methodLink RX7 82 yX5_codeOf ∈ G := inG 338 (by decide +kernel) (by decide +kernel)
theorem ln_X7_86 : Cond.methodLink RX7 86 yX6_find ∈ G := inG 342 (by decide +kernel) (by decide +kernel)
theorem ln_X7_89 : Cond.methodLink RX7 89 yX6_size ∈ G := inG 346 (by decide +kernel) (by decide +kernel)
theorem ln_X7_90 : Cond.methodLink RX7 90 yX6_insert ∈ G := inG 350 (by decide +kernel) (by decide +kernel)
theorem ln_X7_94 : Cond.methodLink RX7 94 yX7_renew ∈ G := inG 354 (by decide +kernel) (by decide +kernel)
theorem ln_X7_279 : Cond.methodLink RX7 279 yX2_run ∈ G := inG 358 (by decide +kernel) (by decide +kernel)
theorem ln_X2_71 : Cond.methodLink RX2 71 yX2_clear ∈ G := inG 362 (by decide +kernel) (by decide +kernel)
theorem ln_X2_88 : Cond.methodLink RX2 88 yX1_clear ∈ G := inG 366 (by decide +kernel) (by decide +kernel)
theorem ln_X1_17 : Cond.methodLink RX1 17 yJ7_fill_d0a16 ∈ G := inG 370 (by decide +kernel) (by decide +kernel)
theorem ln_X2_89 : Cond.methodLink RX2 89 yX4_clear ∈ G := inG 373 (by decide +kernel) (by decide +kernel)
theorem ln_X2_90 : Cond.methodLink RX2 90 yJ7_fill_53178 ∈ G := inG 377 (by decide +kernel) (by decide +kernel)
theorem ln_X2_74 : Cond.methodLink RX2 74 yX6_size ∈ G := inG 380 (by decide +kernel) (by decide +kernel)
theorem ln_X2_77 : Cond.methodLink RX2 77 yX3_build ∈ G := inG 381 (by decide +kernel) (by decide +kernel)
theorem ln_X3_26 : Cond.methodLink RX3 26 yX6_length ∈ G := inG 385 (by decide +kernel) (by decide +kernel)
theorem ln_X3_32 : Cond.methodLink RX3 32 yX3_buildLonger ∈ G := inG 389 (by decide +kernel) (by decide +kernel)
theorem ln_X3_55 : Cond.methodLink RX3 55 yJ7_fill_53178 ∈ G := inG 393 (by decide +kernel) (by decide +kernel)
theorem ln_X3_36 : Cond.methodLink RX3 36 yX6_size ∈ G := inG 394 (by decide +kernel) (by decide +kernel)
theorem ln_X3_39 : Cond.methodLink RX3 39 yX3_isHead ∈ G := inG 395 (by decide +kernel) (by decide +kernel)
theorem ln_X3_51 : Cond.methodLink RX3 51 yX6_samePrefix ∈ G := inG 399 (by decide +kernel) (by decide +kernel)
theorem ln_X3_61 : Cond.methodLink RX3 61 yX6_letterAt ∈ G := inG 403 (by decide +kernel) (by decide +kernel)
theorem ln_X3_64 : Cond.methodLink RX3 64 yX3_placeOf ∈ G := inG 407 (by decide +kernel) (by decide +kernel)
theorem ln_X3_43 : Cond.methodLink RX3 43 yX3_buildTakers ∈ G := inG 410 (by decide +kernel) (by decide +kernel)
theorem ln_X3_47 : Cond.methodLink RX3 47 yX3_firstAlike ∈ G := inG 414 (by decide +kernel) (by decide +kernel)
theorem ln_X3_67 : Cond.methodLink RX3 67 yX3_sameRests ∈ G := inG 418 (by decide +kernel) (by decide +kernel)
theorem ln_X3_70 : Cond.methodLink RX3 70 yX6_has ∈ G := inG 422 (by decide +kernel) (by decide +kernel)
theorem ln_X3_74 : Cond.methodLink RX3 74 yX6_restOf ∈ G := inG 426 (by decide +kernel) (by decide +kernel)
theorem ln_X2_80 : Cond.methodLink RX2 80 yX2_explore ∈ G := inG 430 (by decide +kernel) (by decide +kernel)
theorem ln_X2_96 : Cond.methodLink RX2 96 yX6_length ∈ G := inG 434 (by decide +kernel) (by decide +kernel)
theorem ln_X2_99 : Cond.methodLink RX2 99 yX2_keep ∈ G := inG 435 (by decide +kernel) (by decide +kernel)
theorem ln_X2_122 : Cond.methodLink RX2 122 yX4_append ∈ G := inG 439 (by decide +kernel) (by decide +kernel)
theorem ln_X4_17 : Cond.methodLink RX4 17 yJ7_copyOf_59c91 ∈ G := inG 443 (by decide +kernel) (by decide +kernel)
theorem ln_J7_304 : Cond.methodLink RJ7 304 yJ9_min_7cf53 ∈ G := inG 453 (by decide +kernel) (by decide +kernel)
theorem ln_X2_128 : Cond.methodLink RX2 128 yX2_countSymmetric ∈ G := inG 462 (by decide +kernel) (by decide +kernel)
theorem ln_X2_131 : Cond.methodLink RX2 131 yJ6_bitCount_0f7a4 ∈ G := inG 466 (by decide +kernel) (by decide +kernel)
theorem kn_J6_265 : Cond.constant RJ6 265 1431655765 ∈ G := inG 469 (by decide +kernel) (by decide +kernel)
theorem kn_J6_266 : Cond.constant RJ6 266 858993459 ∈ G := inG 470 (by decide +kernel) (by decide +kernel)
theorem kn_J6_267 : Cond.constant RJ6 267 252645135 ∈ G := inG 471 (by decide +kernel) (by decide +kernel)
theorem ln_X2_103 : Cond.methodLink RX2 103 yX3_nextRows ∈ G := inG 472 (by decide +kernel) (by decide +kernel)
theorem ln_X2_107 : Cond.methodLink RX2 107 yX3_headsWith ∈ G := inG 477 (by decide +kernel) (by decide +kernel)
theorem ln_X2_84 : Cond.methodLink RX2 84 yX2_exploreWithMemory ∈ G := inG 481 (by decide +kernel) (by decide +kernel)
theorem ln_X2_111 : Cond.methodLink RX2 111 yX3_likeness ∈ G := inG 485 (by decide +kernel) (by decide +kernel)
theorem ln_X2_114 : Cond.methodLink RX2 114 yX1_has ∈ G := inG 489 (by decide +kernel) (by decide +kernel)
theorem kn_X1_23 : Cond.constant RX1 23 82944 ∈ G := inG 493 (by decide +kernel) (by decide +kernel)
theorem ln_X2_118 : Cond.methodLink RX2 118 yX1_add ∈ G := inG 494 (by decide +kernel) (by decide +kernel)
theorem ln_X1_24 : Cond.methodLink RX1 24 yX1_has ∈ G := inG 498 (by decide +kernel) (by decide +kernel)
theorem ln_X7_282 : Cond.methodLink RX7 282 yX0_clear ∈ G := inG 499 (by decide +kernel) (by decide +kernel)
theorem ln_X0_22 : Cond.methodLink RX0 22 yJ7_fill_53178 ∈ G := inG 503 (by decide +kernel) (by decide +kernel)
theorem ln_L_31 : Cond.methodLink RL 31 yX7_strike ∈ G := inG 504 (by decide +kernel) (by decide +kernel)
theorem ln_X7_97 : Cond.methodLink RX7 97 yX6_has ∈ G := inG 508 (by decide +kernel) (by decide +kernel)
theorem ln_X7_100 : Cond.methodLink RX7 100 yX6_delete ∈ G := inG 509 (by decide +kernel) (by decide +kernel)
theorem ln_X6_25 : Cond.methodLink RX6 25 yX6_has ∈ G := inG 513 (by decide +kernel) (by decide +kernel)
theorem ln_L_35 : Cond.methodLink RL 35 yX7_weigh ∈ G := inG 514 (by decide +kernel) (by decide +kernel)
theorem ln_X7_103 : Cond.methodLink RX7 103 yX6_weightOf ∈ G := inG 518 (by decide +kernel) (by decide +kernel)
theorem ln_X7_106 : Cond.methodLink RX7 106 yX6_setWeight ∈ G := inG 522 (by decide +kernel) (by decide +kernel)
theorem ln_L_40 : Cond.methodLink RL 40 yX7_about ∈ G := inG 526 (by decide +kernel) (by decide +kernel)
theorem ln_X7_109 : Cond.methodLink RX7 109 yX6_length ∈ G := inG 530 (by decide +kernel) (by decide +kernel)
theorem ln_X7_112 : Cond.methodLink RX7 112 yX6_numberOfPrefixes ∈ G := inG 531 (by decide +kernel) (by decide +kernel)
theorem ln_X6_36 : Cond.methodLink RX6 36 yX6_samePrefix ∈ G := inG 535 (by decide +kernel) (by decide +kernel)
theorem ln_X7_115 : Cond.methodLink RX7 115 yX6_numberOfLetters ∈ G := inG 536 (by decide +kernel) (by decide +kernel)
theorem ln_X6_29 : Cond.methodLink RX6 29 yX6_letterAt ∈ G := inG 540 (by decide +kernel) (by decide +kernel)
theorem ln_X6_40 : Cond.methodLink RX6 40 yJ6_bitCount_0f7a4 ∈ G := inG 541 (by decide +kernel) (by decide +kernel)
theorem ln_X7_118 : Cond.methodLink RX7 118 yX6_sumOfWeights ∈ G := inG 542 (by decide +kernel) (by decide +kernel)
theorem ln_X7_121 : Cond.methodLink RX7 121 yX6_numberOfReversible ∈ G := inG 546 (by decide +kernel) (by decide +kernel)
theorem ln_X6_46 : Cond.methodLink RX6 46 yX6_reversalOf ∈ G := inG 550 (by decide +kernel) (by decide +kernel)
theorem ln_X6_49 : Cond.methodLink RX6 49 yX6_find ∈ G := inG 554 (by decide +kernel) (by decide +kernel)
theorem ln_L_44 : Cond.methodLink RL 44 yX7_word ∈ G := inG 555 (by decide +kernel) (by decide +kernel)
theorem ln_X7_124 : Cond.methodLink RX7 124 yX6_reversalOf ∈ G := inG 559 (by decide +kernel) (by decide +kernel)
theorem ln_X7_127 : Cond.methodLink RX7 127 yX2_timesInRows ∈ G := inG 560 (by decide +kernel) (by decide +kernel)
theorem ln_X7_130 : Cond.methodLink RX7 130 yX2_timesInColumns ∈ G := inG 564 (by decide +kernel) (by decide +kernel)
theorem ln_X7_133 : Cond.methodLink RX7 133 yX2_timesInSymmetric ∈ G := inG 568 (by decide +kernel) (by decide +kernel)
theorem ln_L_48 : Cond.methodLink RL 48 yX7_sign ∈ G := inG 572 (by decide +kernel) (by decide +kernel)
theorem ln_X7_136 : Cond.methodLink RX7 136 yX6_hasPlace ∈ G := inG 576 (by decide +kernel) (by decide +kernel)
theorem ln_X7_139 : Cond.methodLink RX7 139 yX6_letterAt ∈ G := inG 580 (by decide +kernel) (by decide +kernel)
theorem ln_L_52 : Cond.methodLink RL 52 yX7_begins ∈ G := inG 581 (by decide +kernel) (by decide +kernel)
theorem ln_X7_142 : Cond.methodLink RX7 142 yX6_prefixOf ∈ G := inG 585 (by decide +kernel) (by decide +kernel)
theorem ln_X7_145 : Cond.methodLink RX7 145 yX6_numberWithPrefix ∈ G := inG 589 (by decide +kernel) (by decide +kernel)
theorem ln_X6_33 : Cond.methodLink RX6 33 yX6_prefixOf ∈ G := inG 593 (by decide +kernel) (by decide +kernel)
theorem ln_L_56 : Cond.methodLink RL 56 yX7_squares ∈ G := inG 594 (by decide +kernel) (by decide +kernel)
theorem ln_X7_148 : Cond.methodLink RX7 148 yX7_isKind ∈ G := inG 598 (by decide +kernel) (by decide +kernel)
theorem ln_X7_151 : Cond.methodLink RX7 151 yX2_ofKind ∈ G := inG 601 (by decide +kernel) (by decide +kernel)
theorem ln_X7_155 : Cond.methodLink RX7 155 yX4_size ∈ G := inG 605 (by decide +kernel) (by decide +kernel)
theorem ln_L_60 : Cond.methodLink RL 60 yX7_row ∈ G := inG 609 (by decide +kernel) (by decide +kernel)
theorem ln_X7_158 : Cond.methodLink RX7 158 yX4_has ∈ G := inG 613 (by decide +kernel) (by decide +kernel)
theorem ln_X7_159 : Cond.methodLink RX7 159 yX4_rowsOf ∈ G := inG 617 (by decide +kernel) (by decide +kernel)
theorem ln_X4_23 : Cond.methodLink RX4 23 yX4_has ∈ G := inG 621 (by decide +kernel) (by decide +kernel)
theorem kn_X4_27 : Cond.constant RX4 27 65535 ∈ G := inG 622 (by decide +kernel) (by decide +kernel)
theorem ln_X7_162 : Cond.methodLink RX7 162 yX7_packedWord ∈ G := inG 623 (by decide +kernel) (by decide +kernel)
theorem ln_L_65 : Cond.methodLink RL 65 yX7_turned ∈ G := inG 624 (by decide +kernel) (by decide +kernel)
theorem ln_X7_166 : Cond.methodLink RX7 166 yX4_columnsOf ∈ G := inG 628 (by decide +kernel) (by decide +kernel)
theorem ln_X7_169 : Cond.methodLink RX7 169 yX4_withRows ∈ G := inG 632 (by decide +kernel) (by decide +kernel)
theorem ln_X4_28 : Cond.methodLink RX4 28 yX4_rowsOf ∈ G := inG 636 (by decide +kernel) (by decide +kernel)
theorem ln_L_69 : Cond.methodLink RL 69 yX7_heaviest ∈ G := inG 637 (by decide +kernel) (by decide +kernel)
theorem ln_X7_172 : Cond.methodLink RX7 172 yX7_greatestOf ∈ G := inG 641 (by decide +kernel) (by decide +kernel)
theorem ln_X7_176 : Cond.methodLink RX7 176 yX7_weightOfSquare ∈ G := inG 645 (by decide +kernel) (by decide +kernel)
theorem ln_L_73 : Cond.methodLink RL 73 yX7_heavy ∈ G := inG 649 (by decide +kernel) (by decide +kernel)
theorem ln_L_77 : Cond.methodLink RL 77 yX7_put ∈ G := inG 653 (by decide +kernel) (by decide +kernel)
theorem ln_X7_180 : Cond.methodLink RX7 180 yX0_given ∈ G := inG 657 (by decide +kernel) (by decide +kernel)
theorem ln_X7_183 : Cond.methodLink RX7 183 yX0_give ∈ G := inG 661 (by decide +kernel) (by decide +kernel)
theorem ln_L_81 : Cond.methodLink RL 81 yX7_lift ∈ G := inG 665 (by decide +kernel) (by decide +kernel)
theorem ln_L_85 : Cond.methodLink RL 85 yX7_board ∈ G := inG 669 (by decide +kernel) (by decide +kernel)
theorem ln_L_89 : Cond.methodLink RL 89 yX7_fitting ∈ G := inG 673 (by decide +kernel) (by decide +kernel)
theorem ln_X7_186 : Cond.methodLink RX7 186 yX7_lookedBoard ∈ G := inG 677 (by decide +kernel) (by decide +kernel)
theorem ln_X7_283 : Cond.methodLink RX7 283 yX0_look ∈ G := inG 681 (by decide +kernel) (by decide +kernel)
theorem ln_X0_28 : Cond.methodLink RX0 28 yX4_size ∈ G := inG 685 (by decide +kernel) (by decide +kernel)
theorem ln_X0_34 : Cond.methodLink RX0 34 yX4_rowsOf ∈ G := inG 686 (by decide +kernel) (by decide +kernel)
theorem ln_X0_38 : Cond.methodLink RX0 38 yX0_addRows ∈ G := inG 687 (by decide +kernel) (by decide +kernel)
theorem ln_X7_190 : Cond.methodLink RX7 190 yX0_numberOfFitting ∈ G := inG 692 (by decide +kernel) (by decide +kernel)
theorem ln_L_93 : Cond.methodLink RL 93 yX7_may ∈ G := inG 696 (by decide +kernel) (by decide +kernel)
theorem ln_X7_193 : Cond.methodLink RX7 193 yX0_possible ∈ G := inG 700 (by decide +kernel) (by decide +kernel)
theorem ln_L_97 : Cond.methodLink RL 97 yX7_sure ∈ G := inG 704 (by decide +kernel) (by decide +kernel)
theorem ln_X7_196 : Cond.methodLink RX7 196 yX6_commonLetter ∈ G := inG 708 (by decide +kernel) (by decide +kernel)
theorem ln_L_101 : Cond.methodLink RL 101 yX7_search ∈ G := inG 712 (by decide +kernel) (by decide +kernel)
theorem ln_X7_199 : Cond.methodLink RX7 199 yX2_plainVisits ∈ G := inG 716 (by decide +kernel) (by decide +kernel)
theorem ln_X7_202 : Cond.methodLink RX7 202 yX2_plainDead ∈ G := inG 720 (by decide +kernel) (by decide +kernel)
theorem ln_X7_205 : Cond.methodLink RX7 205 yX2_memoryVisits ∈ G := inG 724 (by decide +kernel) (by decide +kernel)
theorem ln_X7_208 : Cond.methodLink RX7 208 yX2_memoryCuts ∈ G := inG 728 (by decide +kernel) (by decide +kernel)
theorem ln_X7_211 : Cond.methodLink RX7 211 yX2_memorySize ∈ G := inG 732 (by decide +kernel) (by decide +kernel)
theorem ln_X2_67 : Cond.methodLink RX2 67 yX1_size ∈ G := inG 736 (by decide +kernel) (by decide +kernel)
theorem ln_L_105 : Cond.methodLink RL 105 yX7_count ∈ G := inG 740 (by decide +kernel) (by decide +kernel)
theorem ln_X7_214 : Cond.methodLink RX7 214 yX0_numberOfGiven ∈ G := inG 744 (by decide +kernel) (by decide +kernel)
theorem ln_L_109 : Cond.methodLink RL 109 yX7_digest ∈ G := inG 748 (by decide +kernel) (by decide +kernel)
theorem kn_X7_217 : Cond.constantLong RX7 217 1579 ∈ G := inG 752 (by decide +kernel) (by decide +kernel)
theorem ln_X7_219 : Cond.methodLink RX7 219 yX7_about ∈ G := inG 753 (by decide +kernel) (by decide +kernel)
theorem ln_X7_222 : Cond.methodLink RX7 222 yX7_mix ∈ G := inG 754 (by decide +kernel) (by decide +kernel)
theorem kn_X7_277 : Cond.constantLong RX7 277 31 ∈ G := inG 757 (by decide +kernel) (by decide +kernel)
theorem ln_X7_226 : Cond.methodLink RX7 226 yX7_mixWords ∈ G := inG 758 (by decide +kernel) (by decide +kernel)
theorem ln_X7_245 : Cond.methodLink RX7 245 yX7_sign ∈ G := inG 762 (by decide +kernel) (by decide +kernel)
theorem ln_X7_248 : Cond.methodLink RX7 248 yX7_word ∈ G := inG 763 (by decide +kernel) (by decide +kernel)
theorem ln_X7_230 : Cond.methodLink RX7 230 yX7_mixSquares ∈ G := inG 764 (by decide +kernel) (by decide +kernel)
theorem ln_X7_251 : Cond.methodLink RX7 251 yX7_squares ∈ G := inG 768 (by decide +kernel) (by decide +kernel)
theorem ln_X7_254 : Cond.methodLink RX7 254 yJ9_min_7cf53 ∈ G := inG 769 (by decide +kernel) (by decide +kernel)
theorem ln_X7_259 : Cond.methodLink RX7 259 yX7_row ∈ G := inG 770 (by decide +kernel) (by decide +kernel)
theorem ln_X7_262 : Cond.methodLink RX7 262 yX7_heaviest ∈ G := inG 771 (by decide +kernel) (by decide +kernel)
theorem ln_X7_233 : Cond.methodLink RX7 233 yX7_mixBoard ∈ G := inG 772 (by decide +kernel) (by decide +kernel)
theorem ln_X7_265 : Cond.methodLink RX7 265 yX7_fitting ∈ G := inG 776 (by decide +kernel) (by decide +kernel)
theorem ln_X7_268 : Cond.methodLink RX7 268 yX7_board ∈ G := inG 777 (by decide +kernel) (by decide +kernel)
theorem ln_X7_271 : Cond.methodLink RX7 271 yX7_may ∈ G := inG 778 (by decide +kernel) (by decide +kernel)
theorem ln_X7_274 : Cond.methodLink RX7 274 yX7_sure ∈ G := inG 779 (by decide +kernel) (by decide +kernel)
theorem ln_X7_236 : Cond.methodLink RX7 236 yX7_search ∈ G := inG 780 (by decide +kernel) (by decide +kernel)
theorem ln_X7_239 : Cond.methodLink RX7 239 yX5_codeAt ∈ G := inG 781 (by decide +kernel) (by decide +kernel)
theorem ln_X7_242 : Cond.methodLink RX7 242 yX7_count ∈ G := inG 782 (by decide +kernel) (by decide +kernel)
theorem ln_L_12 : Cond.methodLink RL 12 yX8_init ∈ G := inG 785 (by decide +kernel) (by decide +kernel)
theorem ln_X8_62 : Cond.methodLink RX8 62 yX8_clearBoard ∈ G := inG 789 (by decide +kernel) (by decide +kernel)
theorem ln_L_17 : Cond.methodLink RL 17 yX8_letter ∈ G := inG 888 (by decide +kernel) (by decide +kernel)
theorem ln_X8_65 : Cond.methodLink RX8 65 yX8_within ∈ G := inG 892 (by decide +kernel) (by decide +kernel)
theorem ln_L_22 : Cond.methodLink RL 22 yX8_blank ∈ G := inG 895 (by decide +kernel) (by decide +kernel)
theorem ln_L_26 : Cond.methodLink RL 26 yX8_fault ∈ G := inG 899 (by decide +kernel) (by decide +kernel)
theorem ln_X8_93 : Cond.methodLink RX8 93 yX8_read ∈ G := inG 903 (by decide +kernel) (by decide +kernel)
theorem ln_X8_89 : Cond.methodLink RX8 89 yX8_takes ∈ G := inG 907 (by decide +kernel) (by decide +kernel)
theorem ln_X8_82 : Cond.methodLink RX8 82 yX8_takesComma ∈ G := inG 911 (by decide +kernel) (by decide +kernel)
theorem ln_X8_86 : Cond.methodLink RX8 86 yX8_isTwice ∈ G := inG 915 (by decide +kernel) (by decide +kernel)
theorem ln_L_30 : Cond.methodLink RL 30 yX8_words ∈ G := inG 919 (by decide +kernel) (by decide +kernel)
theorem ln_X8_114 : Cond.methodLink RX8 114 yX8_isNew ∈ G := inG 923 (by decide +kernel) (by decide +kernel)
theorem ln_X8_111 : Cond.methodLink RX8 111 yX8_isThere ∈ G := inG 927 (by decide +kernel) (by decide +kernel)
theorem ln_X8_117 : Cond.methodLink RX8 117 yX8_comes ∈ G := inG 931 (by decide +kernel) (by decide +kernel)
theorem ln_X8_103 : Cond.methodLink RX8 103 yX8_isAhead ∈ G := inG 935 (by decide +kernel) (by decide +kernel)
theorem ln_X8_107 : Cond.methodLink RX8 107 yX8_move ∈ G := inG 939 (by decide +kernel) (by decide +kernel)
theorem ln_L_34 : Cond.methodLink RL 34 yX8_strike ∈ G := inG 943 (by decide +kernel) (by decide +kernel)
theorem ln_X8_124 : Cond.methodLink RX8 124 yX8_isWord ∈ G := inG 947 (by decide +kernel) (by decide +kernel)
theorem ln_L_39 : Cond.methodLink RL 39 yX8_weigh ∈ G := inG 951 (by decide +kernel) (by decide +kernel)
theorem ln_L_43 : Cond.methodLink RL 43 yX8_about ∈ G := inG 955 (by decide +kernel) (by decide +kernel)
theorem ln_X8_153 : Cond.methodLink RX8 153 yX8_aboutNow ∈ G := inG 959 (by decide +kernel) (by decide +kernel)
theorem ln_X8_141 : Cond.methodLink RX8 141 yX8_beginnings ∈ G := inG 963 (by decide +kernel) (by decide +kernel)
theorem ln_X8_134 : Cond.methodLink RX8 134 yX8_alike ∈ G := inG 967 (by decide +kernel) (by decide +kernel)
theorem ln_X8_130 : Cond.methodLink RX8 130 yX8_at ∈ G := inG 971 (by decide +kernel) (by decide +kernel)
theorem ln_X8_144 : Cond.methodLink RX8 144 yX8_lettersMany ∈ G := inG 975 (by decide +kernel) (by decide +kernel)
theorem ln_X8_147 : Cond.methodLink RX8 147 yX8_weightsAll ∈ G := inG 979 (by decide +kernel) (by decide +kernel)
theorem ln_X8_150 : Cond.methodLink RX8 150 yX8_mirrored ∈ G := inG 983 (by decide +kernel) (by decide +kernel)
theorem ln_X8_137 : Cond.methodLink RX8 137 yX8_mirrorOf ∈ G := inG 987 (by decide +kernel) (by decide +kernel)
theorem ln_L_51 : Cond.methodLink RL 51 yX8_sign ∈ G := inG 991 (by decide +kernel) (by decide +kernel)
theorem ln_L_55 : Cond.methodLink RL 55 yX8_begins ∈ G := inG 995 (by decide +kernel) (by decide +kernel)
theorem ln_X8_156 : Cond.methodLink RX8 156 yX8_beginsNow ∈ G := inG 999 (by decide +kernel) (by decide +kernel)
theorem ln_L_59 : Cond.methodLink RL 59 yX8_squares ∈ G := inG 1003 (by decide +kernel) (by decide +kernel)
theorem ln_X8_180 : Cond.methodLink RX8 180 yX8_squaresNow ∈ G := inG 1007 (by decide +kernel) (by decide +kernel)
theorem ln_X8_171 : Cond.methodLink RX8 171 yX8_begin ∈ G := inG 1011 (by decide +kernel) (by decide +kernel)
theorem ln_X8_174 : Cond.methodLink RX8 174 yX8_isOf ∈ G := inG 1015 (by decide +kernel) (by decide +kernel)
theorem ln_X8_162 : Cond.methodLink RX8 162 yX8_isSquare ∈ G := inG 1019 (by decide +kernel) (by decide +kernel)
theorem ln_X8_159 : Cond.methodLink RX8 159 yX8_wordOfColumn ∈ G := inG 1023 (by decide +kernel) (by decide +kernel)
theorem ln_X8_165 : Cond.methodLink RX8 165 yX8_isSame ∈ G := inG 1027 (by decide +kernel) (by decide +kernel)
theorem ln_X8_168 : Cond.methodLink RX8 168 yX8_isUnlike ∈ G := inG 1031 (by decide +kernel) (by decide +kernel)
theorem ln_X8_177 : Cond.methodLink RX8 177 yX8_next ∈ G := inG 1035 (by decide +kernel) (by decide +kernel)
theorem ln_L_64 : Cond.methodLink RL 64 yX8_row ∈ G := inG 1039 (by decide +kernel) (by decide +kernel)
theorem ln_X8_183 : Cond.methodLink RX8 183 yX8_lay ∈ G := inG 1043 (by decide +kernel) (by decide +kernel)
theorem ln_L_68 : Cond.methodLink RL 68 yX8_turned ∈ G := inG 1047 (by decide +kernel) (by decide +kernel)
theorem ln_X8_186 : Cond.methodLink RX8 186 yX8_turnedNow ∈ G := inG 1051 (by decide +kernel) (by decide +kernel)
theorem ln_L_76 : Cond.methodLink RL 76 yX8_heavy ∈ G := inG 1055 (by decide +kernel) (by decide +kernel)
theorem ln_X8_189 : Cond.methodLink RX8 189 yX8_heavyNow ∈ G := inG 1059 (by decide +kernel) (by decide +kernel)
theorem ln_L_72 : Cond.methodLink RL 72 yX8_heaviest ∈ G := inG 1063 (by decide +kernel) (by decide +kernel)
theorem ln_X8_192 : Cond.methodLink RX8 192 yX8_heaviestNow ∈ G := inG 1067 (by decide +kernel) (by decide +kernel)
theorem ln_L_47 : Cond.methodLink RL 47 yX8_word ∈ G := inG 1071 (by decide +kernel) (by decide +kernel)
theorem ln_X8_204 : Cond.methodLink RX8 204 yX8_wordTold ∈ G := inG 1075 (by decide +kernel) (by decide +kernel)
theorem ln_X8_198 : Cond.methodLink RX8 198 yX8_layCounts ∈ G := inG 1079 (by decide +kernel) (by decide +kernel)
theorem ln_X8_195 : Cond.methodLink RX8 195 yX8_countSquare ∈ G := inG 1083 (by decide +kernel) (by decide +kernel)
theorem ln_X8_201 : Cond.methodLink RX8 201 yX8_wordNow ∈ G := inG 1087 (by decide +kernel) (by decide +kernel)
theorem ln_L_80 : Cond.methodLink RL 80 yX8_put ∈ G := inG 1091 (by decide +kernel) (by decide +kernel)
theorem ln_X8_207 : Cond.methodLink RX8 207 yX8_isRow ∈ G := inG 1095 (by decide +kernel) (by decide +kernel)
theorem ln_L_84 : Cond.methodLink RL 84 yX8_lift ∈ G := inG 1099 (by decide +kernel) (by decide +kernel)
theorem ln_L_88 : Cond.methodLink RL 88 yX8_board ∈ G := inG 1103 (by decide +kernel) (by decide +kernel)
theorem ln_L_92 : Cond.methodLink RL 92 yX8_fitting ∈ G := inG 1107 (by decide +kernel) (by decide +kernel)
theorem ln_X8_222 : Cond.methodLink RX8 222 yX8_fittingNow ∈ G := inG 1111 (by decide +kernel) (by decide +kernel)
theorem ln_X8_219 : Cond.methodLink RX8 219 yX8_layFitting ∈ G := inG 1115 (by decide +kernel) (by decide +kernel)
theorem ln_X8_213 : Cond.methodLink RX8 213 yX8_isFitting ∈ G := inG 1119 (by decide +kernel) (by decide +kernel)
theorem ln_X8_216 : Cond.methodLink RX8 216 yX8_countFitting ∈ G := inG 1123 (by decide +kernel) (by decide +kernel)
theorem ln_L_96 : Cond.methodLink RL 96 yX8_may ∈ G := inG 1127 (by decide +kernel) (by decide +kernel)
theorem ln_X8_225 : Cond.methodLink RX8 225 yX8_mayNow ∈ G := inG 1131 (by decide +kernel) (by decide +kernel)
theorem ln_L_100 : Cond.methodLink RL 100 yX8_sure ∈ G := inG 1135 (by decide +kernel) (by decide +kernel)
theorem ln_X8_228 : Cond.methodLink RX8 228 yX8_sureNow ∈ G := inG 1139 (by decide +kernel) (by decide +kernel)
theorem ln_L_104 : Cond.methodLink RL 104 yX8_search ∈ G := inG 1143 (by decide +kernel) (by decide +kernel)
theorem ln_X8_276 : Cond.methodLink RX8 276 yX8_searchNow ∈ G := inG 1147 (by decide +kernel) (by decide +kernel)
theorem ln_X8_272 : Cond.methodLink RX8 272 yX8_goes ∈ G := inG 1151 (by decide +kernel) (by decide +kernel)
theorem ln_X8_264 : Cond.methodLink RX8 264 yX8_leave ∈ G := inG 1155 (by decide +kernel) (by decide +kernel)
theorem ln_X8_249 : Cond.methodLink RX8 249 yX8_isState ∈ G := inG 1159 (by decide +kernel) (by decide +kernel)
theorem ln_X8_231 : Cond.methodLink RX8 231 yX8_beginOfColumn ∈ G := inG 1163 (by decide +kernel) (by decide +kernel)
theorem ln_X8_252 : Cond.methodLink RX8 252 yX8_keyOf ∈ G := inG 1167 (by decide +kernel) (by decide +kernel)
theorem ln_X8_240 : Cond.methodLink RX8 240 yX8_likeOf ∈ G := inG 1171 (by decide +kernel) (by decide +kernel)
theorem ln_X8_237 : Cond.methodLink RX8 237 yX8_hasAllRests ∈ G := inG 1175 (by decide +kernel) (by decide +kernel)
theorem ln_X8_234 : Cond.methodLink RX8 234 yX8_hasRest ∈ G := inG 1179 (by decide +kernel) (by decide +kernel)
theorem ln_X8_255 : Cond.methodLink RX8 255 yX8_isKept ∈ G := inG 1183 (by decide +kernel) (by decide +kernel)
theorem ln_X8_268 : Cond.methodLink RX8 268 yX8_visit ∈ G := inG 1187 (by decide +kernel) (by decide +kernel)
theorem ln_L_108 : Cond.methodLink RL 108 yX8_count ∈ G := inG 1191 (by decide +kernel) (by decide +kernel)
theorem ln_X8_282 : Cond.methodLink RX8 282 yX8_howMany ∈ G := inG 1195 (by decide +kernel) (by decide +kernel)
theorem ln_X8_279 : Cond.methodLink RX8 279 yX8_laidMany ∈ G := inG 1199 (by decide +kernel) (by decide +kernel)
theorem ln_L_113 : Cond.methodLink RL 113 yX8_digest ∈ G := inG 1203 (by decide +kernel) (by decide +kernel)
theorem kn_X8_295 : Cond.constantLong RX8 295 1579 ∈ G := inG 1207 (by decide +kernel) (by decide +kernel)
theorem ln_X8_297 : Cond.methodLink RX8 297 yX8_mixWords ∈ G := inG 1208 (by decide +kernel) (by decide +kernel)
theorem ln_X8_291 : Cond.methodLink RX8 291 yX8_mix ∈ G := inG 1212 (by decide +kernel) (by decide +kernel)
theorem kn_X8_285 : Cond.constantLong RX8 285 31 ∈ G := inG 1216 (by decide +kernel) (by decide +kernel)
theorem ln_X8_300 : Cond.methodLink RX8 300 yX8_mixSquares ∈ G := inG 1217 (by decide +kernel) (by decide +kernel)
theorem ln_X8_303 : Cond.methodLink RX8 303 yX8_mixBoard ∈ G := inG 1221 (by decide +kernel) (by decide +kernel)
end
section
/-- the lengths of the rows of numbers -/
def aln (st : St) (c : Nat) : Nat := match c with
  | 10 => 3
  | 11 => 60
  | 12 => 16
  | 13 => 16
  | 14 => 16
  | 15 => 16
  | 16 => 16
  | 17 => 4
  | 18 => 4
  | 24 => 512
  | 25 => 512
  | 26 => 512
  | 27 => 512
  | 29 => 64
  | 30 => 64
  | 31 => 64
  | 32 => 64
  | 34 => 16
  | 35 => 16
  | 36 => 16
  | 37 => 16
  | 20 => st.2.2.2 0
  | 21 => st.2.2.2 1
  | 22 => st.2.2.2 2
  | _ => 0
/-- the cells of the class: 0 WordSquares, 1 Text, 2 WordList, 3 Finder, 4 Prefixes, 5 DeadEnds, 6 Board, 7 8 9 SquareList, then rows -/
def cE (V : Ev) (ad : Nat → Nat) (st : St) (c : Nat) : va_E := match c with
  | 0 => .inr (7, [.ref (ad 1), .ref (ad 2), .ref (ad 3), .ref (ad 6), .ref (ad 10), .int (st.1 0), .int (st.1 1), .int (st.1 2), .int (st.1 3)])
  | 1 => .inr (5, [.ref (ad 11), .int (st.1 4)])
  | 2 => .inr (6, [.ref (ad 12), .ref (ad 13), .int (st.1 5), .int (st.1 6)])
  | 3 => .inr (2, [.ref (ad 2), .ref (ad 4), .ref (ad 5), .ref (ad 7), .ref (ad 8), .ref (ad 9), .ref (ad 14), .ref (ad 15), .ref (ad 16), .int (st.1 7), .int (st.1 8), .int (st.1 9), .int (st.1 10)])
  | 4 => .inr (3, [.ref (ad 2), .ref (ad 23), .ref (ad 28), .ref (ad 33)])
  | 5 => .inr (1, [.ref (ad 19), .int (st.1 11)])
  | 6 => .inr (0, [.ref (ad 17), .ref (ad 18), .int (st.1 12)])
  | 7 => .inr (4, [.ref (ad 20), .int (st.1 13)])
  | 8 => .inr (4, [.ref (ad 21), .int (st.1 14)])
  | 9 => .inr (4, [.ref (ad 22), .int (st.1 15)])
  | 19 => .inl (V.2.2.1, 1296, .inr (.inl st.2.2.1))
  | 23 => .inl (V.2.2.2.2, 4, .inr (.inr (.inr (.inr (fun i => if i < 4 then some (ad (24 + i)) else none)))))
  | 28 => .inl (V.2.2.2.2, 4, .inr (.inr (.inr (.inr (fun i => if i < 4 then some (ad (29 + i)) else none)))))
  | 33 => .inl (V.2.2.2.2, 4, .inr (.inr (.inr (.inr (fun i => if i < 4 then some (ad (34 + i)) else none)))))
  | c => .inl (V.2.1, aln st c, .inl (st.2.1 c))
def WdC (V : Ev) (ad : Nat → Nat) (A : Nat → Prop) (st : St) (H : Heap) : Prop := ∃ ad' : Nat → Nat, (∀ c, ¬ (20 ≤ c ∧ c ≤ 22) → ad' c = ad c) ∧ va_P V.1 vwCl (cw ad' (cE V ad' st) 38) H ∧ va_D A (cw ad' (cE V ad' st) 38)
/-- the same, and where the row of the list of squares k lies -/
def WdQ (V : Ev) (ad : Nat → Nat) (A : Nat → Prop) (k q : Nat) (st : St) (H : Heap) : Prop := ∃ ad' : Nat → Nat, (∀ c, ¬ (20 ≤ c ∧ c ≤ 22) → ad' c = ad c) ∧ va_P V.1 vwCl (cw ad' (cE V ad' st) 38) H ∧ va_D A (cw ad' (cE V ad' st) 38) ∧ ad' (20 + k) = q
theorem WdQ.wd {V : Ev} {ad : Nat → Nat} {A : Nat → Prop} {k q : Nat} {st : St} {H : Heap} (h : WdQ V ad A k q st H) : WdC V ad A st H := by
  obtain ⟨ad', h1, h2, h3, -⟩ := h
  exact ⟨ad', h1, h2, h3⟩
def isR (c : Nat) : Prop := 10 ≤ c ∧ c < 38 ∧ c ≠ 19 ∧ c ≠ 23 ∧ c ≠ 28 ∧ c ≠ 33
def isA (c : Nat) : Prop := isR c ∧ ¬ (20 ≤ c ∧ c ≤ 22)
theorem cE_row {V : Ev} {ad : Nat → Nat} {st : St} {c : Nat} (h : isR c) : cE V ad st c = .inl (V.2.1, aln st c, .inl (st.2.1 c)) := by
  obtain ⟨h1, h2, h3, h4, h5, h6⟩ := h
  unfold cE
  split <;> first | rfl | omega
theorem cE_I {V : Ev} {ad : Nat → Nat} {st : St} {k c : Nat} {v : Int32} (h : ∀ j, j < 10 → j ≠ c → cE V ad (sI st k v) j = cE V ad st j) : ∀ j, j < 38 → j ≠ c → cE V ad (sI st k v) j = cE V ad st j := fun j hj hc => by
  by_cases h9 : j < 10
  · exact h j h9 hc
  · unfold cE
    split <;> first | omega | rfl
theorem lt10 {P : Nat → Prop} (h0 : P 0) (h1 : P 1) (h2 : P 2) (h3 : P 3) (h4 : P 4) (h5 : P 5) (h6 : P 6) (h7 : P 7) (h8 : P 8) (h9 : P 9) : ∀ j, j < 10 → P j := fun j hj => by
  match j, hj with
  | 0, _ => exact h0
  | 1, _ => exact h1
  | 2, _ => exact h2
  | 3, _ => exact h3
  | 4, _ => exact h4
  | 5, _ => exact h5
  | 6, _ => exact h6
  | 7, _ => exact h7
  | 8, _ => exact h8
  | 9, _ => exact h9
  | n + 10, h => omega
theorem cE_A {V : Ev} {ad : Nat → Nat} {st : St} {c i : Nat} {v : Int32} (hc : isR c) : ∀ j, j < 38 → j ≠ c → cE V ad (sA st c i v) j = cE V ad st j := fun j hj hne => by
  obtain ⟨h1, h2, h3, h4, h5, h6⟩ := hc
  unfold cE
  split <;> first | rfl | (show Sum.inl (V.2.1, aln st j, Sum.inl (va_up st.2.1 c _ j)) = _; rw [va_up_ne _ _ hne])
theorem cE_J {V : Ev} {ad : Nat → Nat} {st : St} {i : Nat} {v : Int64} : ∀ j, j < 38 → j ≠ 19 → cE V ad (sJ st i v) j = cE V ad st j := fun j hj hne => by
  unfold cE
  split <;> first | rfl | exact absurd rfl hne
section WC
variable {p : Program} {l : Launch} {e : Env} {R : Room} {s : State} {m : MethodId} {args : Array Value} {below : List Frame} {meth : Method} {c : Code} {H : Heap} {locs : List Loc} {cells slots : Nat} {Q : State → Prop}
variable {pc : Nat} {ls : Array Slot} {rest : List Value} {cc : ByteArray} {nL : Nat} {own : String} {V : Ev} {A : Nat → Prop} {ad : Nat → Nat} {st : St}

theorem gX7_text (X : Cx V A cc nL RX7 p m c s args) (hW : WdC V ad A st H) (hdg : decode cc pc = .ok (.getfield 10, 3)) (kk : W p l e R s m args below meth c H locs cells slots Q (F0 m (pc + 3) ls (.ref (ad 1) :: rest))) : W p l e R s m args below meth c H locs cells slots Q (F0 m pc ls (.ref (ad 0) :: rest)) := by
  obtain ⟨ad', ha, hP, -⟩ := hW
  rw [← ha 0 (by decide)]
  rw [← ha 1 (by decide)] at kk
  exact va_get (D := V.1) (ci := 7) (C := RX7) (T := TX7) (N := 9) X.hx X.hb X.1.2.2.2.2 inG_X7 X.ho X.hK hP 0 (cw_ate (by decide) rfl) rfl 0 (by decide) (X.ts fl_X7_text) (fun _ h => h) rfl hdg kk
theorem gX7_list (X : Cx V A cc nL RX7 p m c s args) (hW : WdC V ad A st H) (hdg : decode cc pc = .ok (.getfield 19, 3)) (kk : W p l e R s m args below meth c H locs cells slots Q (F0 m (pc + 3) ls (.ref (ad 2) :: rest))) : W p l e R s m args below meth c H locs cells slots Q (F0 m pc ls (.ref (ad 0) :: rest)) := by
  obtain ⟨ad', ha, hP, -⟩ := hW
  rw [← ha 0 (by decide)]
  rw [← ha 2 (by decide)] at kk
  exact va_get (D := V.1) (ci := 7) (C := RX7) (T := TX7) (N := 9) X.hx X.hb X.1.2.2.2.2 inG_X7 X.ho X.hK hP 0 (cw_ate (by decide) rfl) rfl 1 (by decide) (X.ts fl_X7_list) (fun _ h => h) rfl hdg kk
theorem gX7_finder (X : Cx V A cc nL RX7 p m c s args) (hW : WdC V ad A st H) (hdg : decode cc pc = .ok (.getfield 28, 3)) (kk : W p l e R s m args below meth c H locs cells slots Q (F0 m (pc + 3) ls (.ref (ad 3) :: rest))) : W p l e R s m args below meth c H locs cells slots Q (F0 m pc ls (.ref (ad 0) :: rest)) := by
  obtain ⟨ad', ha, hP, -⟩ := hW
  rw [← ha 0 (by decide)]
  rw [← ha 3 (by decide)] at kk
  exact va_get (D := V.1) (ci := 7) (C := RX7) (T := TX7) (N := 9) X.hx X.hb X.1.2.2.2.2 inG_X7 X.ho X.hK hP 0 (cw_ate (by decide) rfl) rfl 2 (by decide) (X.ts fl_X7_finder) (fun _ h => h) rfl hdg kk
theorem gX7_table (X : Cx V A cc nL RX7 p m c s args) (hW : WdC V ad A st H) (hdg : decode cc pc = .ok (.getfield 35, 3)) (kk : W p l e R s m args below meth c H locs cells slots Q (F0 m (pc + 3) ls (.ref (ad 6) :: rest))) : W p l e R s m args below meth c H locs cells slots Q (F0 m pc ls (.ref (ad 0) :: rest)) := by
  obtain ⟨ad', ha, hP, -⟩ := hW
  rw [← ha 0 (by decide)]
  rw [← ha 6 (by decide)] at kk
  exact va_get (D := V.1) (ci := 7) (C := RX7) (T := TX7) (N := 9) X.hx X.hb X.1.2.2.2.2 inG_X7 X.ho X.hK hP 0 (cw_ate (by decide) rfl) rfl 3 (by decide) (X.ts fl_X7_table) (fun _ h => h) rfl hdg kk
theorem gX7_best (X : Cx V A cc nL RX7 p m c s args) (hW : WdC V ad A st H) (hdg : decode cc pc = .ok (.getfield 39, 3)) (kk : W p l e R s m args below meth c H locs cells slots Q (F0 m (pc + 3) ls (.ref (ad 10) :: rest))) : W p l e R s m args below meth c H locs cells slots Q (F0 m pc ls (.ref (ad 0) :: rest)) := by
  obtain ⟨ad', ha, hP, -⟩ := hW
  rw [← ha 0 (by decide)]
  rw [← ha 10 (by decide)] at kk
  exact va_get (D := V.1) (ci := 7) (C := RX7) (T := TX7) (N := 9) X.hx X.hb X.1.2.2.2.2 inG_X7 X.ho X.hK hP 0 (cw_ate (by decide) rfl) rfl 4 (by decide) (X.ts fl_X7_best) (fun _ h => h) rfl hdg kk
theorem gX7_compared (X : Cx V A cc nL RX7 p m c s args) (hW : WdC V ad A st H) (hdg : decode cc pc = .ok (.getfield 43, 3)) (kk : W p l e R s m args below meth c H locs cells slots Q (F0 m (pc + 3) ls (.int (st.1 0) :: rest))) : W p l e R s m args below meth c H locs cells slots Q (F0 m pc ls (.ref (ad 0) :: rest)) := by
  obtain ⟨ad', ha, hP, -⟩ := hW
  rw [← ha 0 (by decide)]
  exact va_get (D := V.1) (ci := 7) (C := RX7) (T := TX7) (N := 9) X.hx X.hb X.1.2.2.2.2 inG_X7 X.ho X.hK hP 0 (cw_ate (by decide) rfl) rfl 5 (by decide) (X.ts fl_X7_compared) (fun _ h => h) rfl hdg kk
theorem pX7_compared (X : Cx V A cc nL RX7 p m c s args) (hW : WdC V ad A st H) (hS : va_S A s.heap H locs) {v : Int32} (hz : v = 0 ∨ v = 1) (hdg : decode cc pc = .ok (.putfield 43, 3)) (kk : ∀ (H : Heap) (locs : List Loc), WdC V ad A (sI st 0 v) H → va_S A s.heap H locs → W p l e R s m args below meth c H locs cells slots Q (F0 m (pc + 3) ls rest)) : W p l e R s m args below meth c H locs cells slots Q (F0 m pc ls (.int v :: .ref (ad 0) :: rest)) := by
  obtain ⟨ad', ha, hP, hD⟩ := hW
  rw [← ha 0 (by decide)]
  have e : (cw ad' (cE V ad' st) 38).set 0 (ad' 0, .inr (7, [.ref (ad' 1), .ref (ad' 2), .ref (ad' 3), .ref (ad' 6), .ref (ad' 10), .int v, .int (st.1 1), .int (st.1 2), .int (st.1 3)])) = cw ad' (cE V ad' (sI st 0 v)) 38 := cw_set (by decide) rfl (cE_I (lt10 (fun h => absurd rfl h) (fun _ => rfl) (fun _ => rfl) (fun _ => rfl) (fun _ => rfl) (fun _ => rfl) (fun _ => rfl) (fun _ => rfl) (fun _ => rfl) (fun _ => rfl)))
  refine va_put (D := V.1) (ci := 7) (v := .int v) (ty := .boolean) (C := RX7) (T := TX7) (N := 9) X.hx X.hb X.1.2.2.2.2 inG_X7 tyX7 tyX7_ok nmX7 X.ho X.hK hP hD hS 0 (cw_ate (by decide) rfl) rfl 5 (by decide) (X.ts fl_X7_compared) (fun _ h => h) rfl (by decide +kernel) (by rcases hz with h | h <;> rw [h] <;> decide) (by rcases hz with h | h <;> rw [h] <;> decide) (Nat.le_of_ble_eq_true rfl) hdg (fun H1 locs1 hP hD hS => ?_)
  exact kk H1 locs1 ⟨ad', ha, e ▸ hP, e ▸ hD⟩ hS
theorem gX7_looked (X : Cx V A cc nL RX7 p m c s args) (hW : WdC V ad A st H) (hdg : decode cc pc = .ok (.getfield 47, 3)) (kk : W p l e R s m args below meth c H locs cells slots Q (F0 m (pc + 3) ls (.int (st.1 1) :: rest))) : W p l e R s m args below meth c H locs cells slots Q (F0 m pc ls (.ref (ad 0) :: rest)) := by
  obtain ⟨ad', ha, hP, -⟩ := hW
  rw [← ha 0 (by decide)]
  exact va_get (D := V.1) (ci := 7) (C := RX7) (T := TX7) (N := 9) X.hx X.hb X.1.2.2.2.2 inG_X7 X.ho X.hK hP 0 (cw_ate (by decide) rfl) rfl 6 (by decide) (X.ts fl_X7_looked) (fun _ h => h) rfl hdg kk
theorem pX7_looked (X : Cx V A cc nL RX7 p m c s args) (hW : WdC V ad A st H) (hS : va_S A s.heap H locs) {v : Int32} (hz : v = 0 ∨ v = 1) (hdg : decode cc pc = .ok (.putfield 47, 3)) (kk : ∀ (H : Heap) (locs : List Loc), WdC V ad A (sI st 1 v) H → va_S A s.heap H locs → W p l e R s m args below meth c H locs cells slots Q (F0 m (pc + 3) ls rest)) : W p l e R s m args below meth c H locs cells slots Q (F0 m pc ls (.int v :: .ref (ad 0) :: rest)) := by
  obtain ⟨ad', ha, hP, hD⟩ := hW
  rw [← ha 0 (by decide)]
  have e : (cw ad' (cE V ad' st) 38).set 0 (ad' 0, .inr (7, [.ref (ad' 1), .ref (ad' 2), .ref (ad' 3), .ref (ad' 6), .ref (ad' 10), .int (st.1 0), .int v, .int (st.1 2), .int (st.1 3)])) = cw ad' (cE V ad' (sI st 1 v)) 38 := cw_set (by decide) rfl (cE_I (lt10 (fun h => absurd rfl h) (fun _ => rfl) (fun _ => rfl) (fun _ => rfl) (fun _ => rfl) (fun _ => rfl) (fun _ => rfl) (fun _ => rfl) (fun _ => rfl) (fun _ => rfl)))
  refine va_put (D := V.1) (ci := 7) (v := .int v) (ty := .boolean) (C := RX7) (T := TX7) (N := 9) X.hx X.hb X.1.2.2.2.2 inG_X7 tyX7 tyX7_ok nmX7 X.ho X.hK hP hD hS 0 (cw_ate (by decide) rfl) rfl 6 (by decide) (X.ts fl_X7_looked) (fun _ h => h) rfl (by decide +kernel) (by rcases hz with h | h <;> rw [h] <;> decide) (by rcases hz with h | h <;> rw [h] <;> decide) (Nat.le_of_ble_eq_true rfl) hdg (fun H1 locs1 hP hD hS => ?_)
  exact kk H1 locs1 ⟨ad', ha, e ▸ hP, e ▸ hD⟩ hS
theorem gX7_additions (X : Cx V A cc nL RX7 p m c s args) (hW : WdC V ad A st H) (hdg : decode cc pc = .ok (.getfield 50, 3)) (kk : W p l e R s m args below meth c H locs cells slots Q (F0 m (pc + 3) ls (.int (st.1 2) :: rest))) : W p l e R s m args below meth c H locs cells slots Q (F0 m pc ls (.ref (ad 0) :: rest)) := by
  obtain ⟨ad', ha, hP, -⟩ := hW
  rw [← ha 0 (by decide)]
  exact va_get (D := V.1) (ci := 7) (C := RX7) (T := TX7) (N := 9) X.hx X.hb X.1.2.2.2.2 inG_X7 X.ho X.hK hP 0 (cw_ate (by decide) rfl) rfl 7 (by decide) (X.ts fl_X7_additions) (fun _ h => h) rfl hdg kk
theorem pX7_additions (X : Cx V A cc nL RX7 p m c s args) (hW : WdC V ad A st H) (hS : va_S A s.heap H locs) {v : Int32} (hdg : decode cc pc = .ok (.putfield 50, 3)) (kk : ∀ (H : Heap) (locs : List Loc), WdC V ad A (sI st 2 v) H → va_S A s.heap H locs → W p l e R s m args below meth c H locs cells slots Q (F0 m (pc + 3) ls rest)) : W p l e R s m args below meth c H locs cells slots Q (F0 m pc ls (.int v :: .ref (ad 0) :: rest)) := by
  obtain ⟨ad', ha, hP, hD⟩ := hW
  rw [← ha 0 (by decide)]
  have e : (cw ad' (cE V ad' st) 38).set 0 (ad' 0, .inr (7, [.ref (ad' 1), .ref (ad' 2), .ref (ad' 3), .ref (ad' 6), .ref (ad' 10), .int (st.1 0), .int (st.1 1), .int v, .int (st.1 3)])) = cw ad' (cE V ad' (sI st 2 v)) 38 := cw_set (by decide) rfl (cE_I (lt10 (fun h => absurd rfl h) (fun _ => rfl) (fun _ => rfl) (fun _ => rfl) (fun _ => rfl) (fun _ => rfl) (fun _ => rfl) (fun _ => rfl) (fun _ => rfl) (fun _ => rfl)))
  refine va_put (D := V.1) (ci := 7) (v := .int v) (ty := .int) (C := RX7) (T := TX7) (N := 9) X.hx X.hb X.1.2.2.2.2 inG_X7 tyX7 tyX7_ok nmX7 X.ho X.hK hP hD hS 0 (cw_ate (by decide) rfl) rfl 7 (by decide) (X.ts fl_X7_additions) (fun _ h => h) rfl (by decide +kernel) rfl rfl (Nat.le_of_ble_eq_true rfl) hdg (fun H1 locs1 hP hD hS => ?_)
  exact kk H1 locs1 ⟨ad', ha, e ▸ hP, e ▸ hD⟩ hS
theorem gX7_removals (X : Cx V A cc nL RX7 p m c s args) (hW : WdC V ad A st H) (hdg : decode cc pc = .ok (.getfield 54, 3)) (kk : W p l e R s m args below meth c H locs cells slots Q (F0 m (pc + 3) ls (.int (st.1 3) :: rest))) : W p l e R s m args below meth c H locs cells slots Q (F0 m pc ls (.ref (ad 0) :: rest)) := by
  obtain ⟨ad', ha, hP, -⟩ := hW
  rw [← ha 0 (by decide)]
  exact va_get (D := V.1) (ci := 7) (C := RX7) (T := TX7) (N := 9) X.hx X.hb X.1.2.2.2.2 inG_X7 X.ho X.hK hP 0 (cw_ate (by decide) rfl) rfl 8 (by decide) (X.ts fl_X7_removals) (fun _ h => h) rfl hdg kk
theorem pX7_removals (X : Cx V A cc nL RX7 p m c s args) (hW : WdC V ad A st H) (hS : va_S A s.heap H locs) {v : Int32} (hdg : decode cc pc = .ok (.putfield 54, 3)) (kk : ∀ (H : Heap) (locs : List Loc), WdC V ad A (sI st 3 v) H → va_S A s.heap H locs → W p l e R s m args below meth c H locs cells slots Q (F0 m (pc + 3) ls rest)) : W p l e R s m args below meth c H locs cells slots Q (F0 m pc ls (.int v :: .ref (ad 0) :: rest)) := by
  obtain ⟨ad', ha, hP, hD⟩ := hW
  rw [← ha 0 (by decide)]
  have e : (cw ad' (cE V ad' st) 38).set 0 (ad' 0, .inr (7, [.ref (ad' 1), .ref (ad' 2), .ref (ad' 3), .ref (ad' 6), .ref (ad' 10), .int (st.1 0), .int (st.1 1), .int (st.1 2), .int v])) = cw ad' (cE V ad' (sI st 3 v)) 38 := cw_set (by decide) rfl (cE_I (lt10 (fun h => absurd rfl h) (fun _ => rfl) (fun _ => rfl) (fun _ => rfl) (fun _ => rfl) (fun _ => rfl) (fun _ => rfl) (fun _ => rfl) (fun _ => rfl) (fun _ => rfl)))
  refine va_put (D := V.1) (ci := 7) (v := .int v) (ty := .int) (C := RX7) (T := TX7) (N := 9) X.hx X.hb X.1.2.2.2.2 inG_X7 tyX7 tyX7_ok nmX7 X.ho X.hK hP hD hS 0 (cw_ate (by decide) rfl) rfl 8 (by decide) (X.ts fl_X7_removals) (fun _ h => h) rfl (by decide +kernel) rfl rfl (Nat.le_of_ble_eq_true rfl) hdg (fun H1 locs1 hP hD hS => ?_)
  exact kk H1 locs1 ⟨ad', ha, e ▸ hP, e ▸ hD⟩ hS
theorem rcX7 (X : Cx V A cc nL own p m c s args) (hW : WdC V ad A st H) : Rcv s H RX7 (ad 0) := by
  obtain ⟨ad', ha, hP, -⟩ := hW
  rw [← ha 0 (by decide)]
  exact va_recv X.hK hP (ci := 7) (q := (RX7, TX7, 9)) (q0 := 0) rfl (cw_ate (by decide) rfl)
theorem gX5_signs (X : Cx V A cc nL RX5 p m c s args) (hW : WdC V ad A st H) (hdg : decode cc pc = .ok (.getfield 9, 3)) (kk : W p l e R s m args below meth c H locs cells slots Q (F0 m (pc + 3) ls (.ref (ad 11) :: rest))) : W p l e R s m args below meth c H locs cells slots Q (F0 m pc ls (.ref (ad 1) :: rest)) := by
  obtain ⟨ad', ha, hP, -⟩ := hW
  rw [← ha 1 (by decide)]
  rw [← ha 11 (by decide)] at kk
  exact va_get (D := V.1) (ci := 5) (C := RX5) (T := TX5) (N := 2) X.hx X.hb X.1.2.2.2.2 inG_X5 X.ho X.hK hP 1 (cw_ate (by decide) rfl) rfl 0 (by decide) (X.ts fl_X5_signs) (fun _ h => h) rfl hdg kk
theorem gX5_size (X : Cx V A cc nL RX5 p m c s args) (hW : WdC V ad A st H) (hdg : decode cc pc = .ok (.getfield 15, 3)) (kk : W p l e R s m args below meth c H locs cells slots Q (F0 m (pc + 3) ls (.int (st.1 4) :: rest))) : W p l e R s m args below meth c H locs cells slots Q (F0 m pc ls (.ref (ad 1) :: rest)) := by
  obtain ⟨ad', ha, hP, -⟩ := hW
  rw [← ha 1 (by decide)]
  exact va_get (D := V.1) (ci := 5) (C := RX5) (T := TX5) (N := 2) X.hx X.hb X.1.2.2.2.2 inG_X5 X.ho X.hK hP 1 (cw_ate (by decide) rfl) rfl 1 (by decide) (X.ts fl_X5_size) (fun _ h => h) rfl hdg kk
theorem pX5_size (X : Cx V A cc nL RX5 p m c s args) (hW : WdC V ad A st H) (hS : va_S A s.heap H locs) {v : Int32} (hdg : decode cc pc = .ok (.putfield 15, 3)) (kk : ∀ (H : Heap) (locs : List Loc), WdC V ad A (sI st 4 v) H → va_S A s.heap H locs → W p l e R s m args below meth c H locs cells slots Q (F0 m (pc + 3) ls rest)) : W p l e R s m args below meth c H locs cells slots Q (F0 m pc ls (.int v :: .ref (ad 1) :: rest)) := by
  obtain ⟨ad', ha, hP, hD⟩ := hW
  rw [← ha 1 (by decide)]
  have e : (cw ad' (cE V ad' st) 38).set 1 (ad' 1, .inr (5, [.ref (ad' 11), .int v])) = cw ad' (cE V ad' (sI st 4 v)) 38 := cw_set (by decide) rfl (cE_I (lt10 (fun _ => rfl) (fun h => absurd rfl h) (fun _ => rfl) (fun _ => rfl) (fun _ => rfl) (fun _ => rfl) (fun _ => rfl) (fun _ => rfl) (fun _ => rfl) (fun _ => rfl)))
  refine va_put (D := V.1) (ci := 5) (v := .int v) (ty := .int) (C := RX5) (T := TX5) (N := 2) X.hx X.hb X.1.2.2.2.2 inG_X5 tyX5 tyX5_ok nmX5 X.ho X.hK hP hD hS 1 (cw_ate (by decide) rfl) rfl 1 (by decide) (X.ts fl_X5_size) (fun _ h => h) rfl (by decide +kernel) rfl rfl (Nat.le_of_ble_eq_true rfl) hdg (fun H1 locs1 hP hD hS => ?_)
  exact kk H1 locs1 ⟨ad', ha, e ▸ hP, e ▸ hD⟩ hS
theorem rcX5 (X : Cx V A cc nL own p m c s args) (hW : WdC V ad A st H) : Rcv s H RX5 (ad 1) := by
  obtain ⟨ad', ha, hP, -⟩ := hW
  rw [← ha 1 (by decide)]
  exact va_recv X.hK hP (ci := 5) (q := (RX5, TX5, 2)) (q0 := 1) rfl (cw_ate (by decide) rfl)
theorem gX6_codes (X : Cx V A cc nL RX6 p m c s args) (hW : WdC V ad A st H) (hdg : decode cc pc = .ok (.getfield 9, 3)) (kk : W p l e R s m args below meth c H locs cells slots Q (F0 m (pc + 3) ls (.ref (ad 12) :: rest))) : W p l e R s m args below meth c H locs cells slots Q (F0 m pc ls (.ref (ad 2) :: rest)) := by
  obtain ⟨ad', ha, hP, -⟩ := hW
  rw [← ha 2 (by decide)]
  rw [← ha 12 (by decide)] at kk
  exact va_get (D := V.1) (ci := 6) (C := RX6) (T := TX6) (N := 4) X.hx X.hb X.1.2.2.2.2 inG_X6 X.ho X.hK hP 2 (cw_ate (by decide) rfl) rfl 0 (by decide) (X.ts fl_X6_codes) (fun _ h => h) rfl hdg kk
theorem gX6_weights (X : Cx V A cc nL RX6 p m c s args) (hW : WdC V ad A st H) (hdg : decode cc pc = .ok (.getfield 15, 3)) (kk : W p l e R s m args below meth c H locs cells slots Q (F0 m (pc + 3) ls (.ref (ad 13) :: rest))) : W p l e R s m args below meth c H locs cells slots Q (F0 m pc ls (.ref (ad 2) :: rest)) := by
  obtain ⟨ad', ha, hP, -⟩ := hW
  rw [← ha 2 (by decide)]
  rw [← ha 13 (by decide)] at kk
  exact va_get (D := V.1) (ci := 6) (C := RX6) (T := TX6) (N := 4) X.hx X.hb X.1.2.2.2.2 inG_X6 X.ho X.hK hP 2 (cw_ate (by decide) rfl) rfl 1 (by decide) (X.ts fl_X6_weights) (fun _ h => h) rfl hdg kk
theorem gX6_size (X : Cx V A cc nL RX6 p m c s args) (hW : WdC V ad A st H) (hdg : decode cc pc = .ok (.getfield 18, 3)) (kk : W p l e R s m args below meth c H locs cells slots Q (F0 m (pc + 3) ls (.int (st.1 5) :: rest))) : W p l e R s m args below meth c H locs cells slots Q (F0 m pc ls (.ref (ad 2) :: rest)) := by
  obtain ⟨ad', ha, hP, -⟩ := hW
  rw [← ha 2 (by decide)]
  exact va_get (D := V.1) (ci := 6) (C := RX6) (T := TX6) (N := 4) X.hx X.hb X.1.2.2.2.2 inG_X6 X.ho X.hK hP 2 (cw_ate (by decide) rfl) rfl 2 (by decide) (X.ts fl_X6_size) (fun _ h => h) rfl hdg kk
theorem pX6_size (X : Cx V A cc nL RX6 p m c s args) (hW : WdC V ad A st H) (hS : va_S A s.heap H locs) {v : Int32} (hdg : decode cc pc = .ok (.putfield 18, 3)) (kk : ∀ (H : Heap) (locs : List Loc), WdC V ad A (sI st 5 v) H → va_S A s.heap H locs → W p l e R s m args below meth c H locs cells slots Q (F0 m (pc + 3) ls rest)) : W p l e R s m args below meth c H locs cells slots Q (F0 m pc ls (.int v :: .ref (ad 2) :: rest)) := by
  obtain ⟨ad', ha, hP, hD⟩ := hW
  rw [← ha 2 (by decide)]
  have e : (cw ad' (cE V ad' st) 38).set 2 (ad' 2, .inr (6, [.ref (ad' 12), .ref (ad' 13), .int v, .int (st.1 6)])) = cw ad' (cE V ad' (sI st 5 v)) 38 := cw_set (by decide) rfl (cE_I (lt10 (fun _ => rfl) (fun _ => rfl) (fun h => absurd rfl h) (fun _ => rfl) (fun _ => rfl) (fun _ => rfl) (fun _ => rfl) (fun _ => rfl) (fun _ => rfl) (fun _ => rfl)))
  refine va_put (D := V.1) (ci := 6) (v := .int v) (ty := .int) (C := RX6) (T := TX6) (N := 4) X.hx X.hb X.1.2.2.2.2 inG_X6 tyX6 tyX6_ok nmX6 X.ho X.hK hP hD hS 2 (cw_ate (by decide) rfl) rfl 2 (by decide) (X.ts fl_X6_size) (fun _ h => h) rfl (by decide +kernel) rfl rfl (Nat.le_of_ble_eq_true rfl) hdg (fun H1 locs1 hP hD hS => ?_)
  exact kk H1 locs1 ⟨ad', ha, e ▸ hP, e ▸ hD⟩ hS
theorem gX6_length (X : Cx V A cc nL RX6 p m c s args) (hW : WdC V ad A st H) (hdg : decode cc pc = .ok (.getfield 22, 3)) (kk : W p l e R s m args below meth c H locs cells slots Q (F0 m (pc + 3) ls (.int (st.1 6) :: rest))) : W p l e R s m args below meth c H locs cells slots Q (F0 m pc ls (.ref (ad 2) :: rest)) := by
  obtain ⟨ad', ha, hP, -⟩ := hW
  rw [← ha 2 (by decide)]
  exact va_get (D := V.1) (ci := 6) (C := RX6) (T := TX6) (N := 4) X.hx X.hb X.1.2.2.2.2 inG_X6 X.ho X.hK hP 2 (cw_ate (by decide) rfl) rfl 3 (by decide) (X.ts fl_X6_length) (fun _ h => h) rfl hdg kk
theorem pX6_length (X : Cx V A cc nL RX6 p m c s args) (hW : WdC V ad A st H) (hS : va_S A s.heap H locs) {v : Int32} (hdg : decode cc pc = .ok (.putfield 22, 3)) (kk : ∀ (H : Heap) (locs : List Loc), WdC V ad A (sI st 6 v) H → va_S A s.heap H locs → W p l e R s m args below meth c H locs cells slots Q (F0 m (pc + 3) ls rest)) : W p l e R s m args below meth c H locs cells slots Q (F0 m pc ls (.int v :: .ref (ad 2) :: rest)) := by
  obtain ⟨ad', ha, hP, hD⟩ := hW
  rw [← ha 2 (by decide)]
  have e : (cw ad' (cE V ad' st) 38).set 2 (ad' 2, .inr (6, [.ref (ad' 12), .ref (ad' 13), .int (st.1 5), .int v])) = cw ad' (cE V ad' (sI st 6 v)) 38 := cw_set (by decide) rfl (cE_I (lt10 (fun _ => rfl) (fun _ => rfl) (fun h => absurd rfl h) (fun _ => rfl) (fun _ => rfl) (fun _ => rfl) (fun _ => rfl) (fun _ => rfl) (fun _ => rfl) (fun _ => rfl)))
  refine va_put (D := V.1) (ci := 6) (v := .int v) (ty := .int) (C := RX6) (T := TX6) (N := 4) X.hx X.hb X.1.2.2.2.2 inG_X6 tyX6 tyX6_ok nmX6 X.ho X.hK hP hD hS 2 (cw_ate (by decide) rfl) rfl 3 (by decide) (X.ts fl_X6_length) (fun _ h => h) rfl (by decide +kernel) rfl rfl (Nat.le_of_ble_eq_true rfl) hdg (fun H1 locs1 hP hD hS => ?_)
  exact kk H1 locs1 ⟨ad', ha, e ▸ hP, e ▸ hD⟩ hS
theorem rcX6 (X : Cx V A cc nL own p m c s args) (hW : WdC V ad A st H) : Rcv s H RX6 (ad 2) := by
  obtain ⟨ad', ha, hP, -⟩ := hW
  rw [← ha 2 (by decide)]
  exact va_recv X.hK hP (ci := 6) (q := (RX6, TX6, 4)) (q0 := 2) rfl (cw_ate (by decide) rfl)
theorem gX2_list (X : Cx V A cc nL RX2 p m c s args) (hW : WdC V ad A st H) (hdg : decode cc pc = .ok (.getfield 54, 3)) (kk : W p l e R s m args below meth c H locs cells slots Q (F0 m (pc + 3) ls (.ref (ad 2) :: rest))) : W p l e R s m args below meth c H locs cells slots Q (F0 m pc ls (.ref (ad 3) :: rest)) := by
  obtain ⟨ad', ha, hP, -⟩ := hW
  rw [← ha 3 (by decide)]
  rw [← ha 2 (by decide)] at kk
  exact va_get (D := V.1) (ci := 2) (C := RX2) (T := TX2) (N := 13) X.hx X.hb X.1.2.2.2.2 inG_X2 X.ho X.hK hP 3 (cw_ate (by decide) rfl) rfl 0 (by decide) (X.ts fl_X2_list) (fun _ h => h) rfl hdg kk
theorem gX2_prefixes (X : Cx V A cc nL RX2 p m c s args) (hW : WdC V ad A st H) (hdg : decode cc pc = .ok (.getfield 63, 3)) (kk : W p l e R s m args below meth c H locs cells slots Q (F0 m (pc + 3) ls (.ref (ad 4) :: rest))) : W p l e R s m args below meth c H locs cells slots Q (F0 m pc ls (.ref (ad 3) :: rest)) := by
  obtain ⟨ad', ha, hP, -⟩ := hW
  rw [← ha 3 (by decide)]
  rw [← ha 4 (by decide)] at kk
  exact va_get (D := V.1) (ci := 2) (C := RX2) (T := TX2) (N := 13) X.hx X.hb X.1.2.2.2.2 inG_X2 X.ho X.hK hP 3 (cw_ate (by decide) rfl) rfl 1 (by decide) (X.ts fl_X2_prefixes) (fun _ h => h) rfl hdg kk
theorem gX2_deadEnds (X : Cx V A cc nL RX2 p m c s args) (hW : WdC V ad A st H) (hdg : decode cc pc = .ok (.getfield 12, 3)) (kk : W p l e R s m args below meth c H locs cells slots Q (F0 m (pc + 3) ls (.ref (ad 5) :: rest))) : W p l e R s m args below meth c H locs cells slots Q (F0 m pc ls (.ref (ad 3) :: rest)) := by
  obtain ⟨ad', ha, hP, -⟩ := hW
  rw [← ha 3 (by decide)]
  rw [← ha 5 (by decide)] at kk
  exact va_get (D := V.1) (ci := 2) (C := RX2) (T := TX2) (N := 13) X.hx X.hb X.1.2.2.2.2 inG_X2 X.ho X.hK hP 3 (cw_ate (by decide) rfl) rfl 2 (by decide) (X.ts fl_X2_deadEnds) (fun _ h => h) rfl hdg kk
theorem gX2_all (X : Cx V A cc nL RX2 p m c s args) (hW : WdC V ad A st H) (hdg : decode cc pc = .ok (.getfield 21, 3)) (kk : W p l e R s m args below meth c H locs cells slots Q (F0 m (pc + 3) ls (.ref (ad 7) :: rest))) : W p l e R s m args below meth c H locs cells slots Q (F0 m pc ls (.ref (ad 3) :: rest)) := by
  obtain ⟨ad', ha, hP, -⟩ := hW
  rw [← ha 3 (by decide)]
  rw [← ha 7 (by decide)] at kk
  exact va_get (D := V.1) (ci := 2) (C := RX2) (T := TX2) (N := 13) X.hx X.hb X.1.2.2.2.2 inG_X2 X.ho X.hK hP 3 (cw_ate (by decide) rfl) rfl 3 (by decide) (X.ts fl_X2_all) (fun _ h => h) rfl hdg kk
theorem gX2_symmetric (X : Cx V A cc nL RX2 p m c s args) (hW : WdC V ad A st H) (hdg : decode cc pc = .ok (.getfield 25, 3)) (kk : W p l e R s m args below meth c H locs cells slots Q (F0 m (pc + 3) ls (.ref (ad 8) :: rest))) : W p l e R s m args below meth c H locs cells slots Q (F0 m pc ls (.ref (ad 3) :: rest)) := by
  obtain ⟨ad', ha, hP, -⟩ := hW
  rw [← ha 3 (by decide)]
  rw [← ha 8 (by decide)] at kk
  exact va_get (D := V.1) (ci := 2) (C := RX2) (T := TX2) (N := 13) X.hx X.hb X.1.2.2.2.2 inG_X2 X.ho X.hK hP 3 (cw_ate (by decide) rfl) rfl 4 (by decide) (X.ts fl_X2_symmetric) (fun _ h => h) rfl hdg kk
theorem gX2_different (X : Cx V A cc nL RX2 p m c s args) (hW : WdC V ad A st H) (hdg : decode cc pc = .ok (.getfield 28, 3)) (kk : W p l e R s m args below meth c H locs cells slots Q (F0 m (pc + 3) ls (.ref (ad 9) :: rest))) : W p l e R s m args below meth c H locs cells slots Q (F0 m pc ls (.ref (ad 3) :: rest)) := by
  obtain ⟨ad', ha, hP, -⟩ := hW
  rw [← ha 3 (by decide)]
  rw [← ha 9 (by decide)] at kk
  exact va_get (D := V.1) (ci := 2) (C := RX2) (T := TX2) (N := 13) X.hx X.hb X.1.2.2.2.2 inG_X2 X.ho X.hK hP 3 (cw_ate (by decide) rfl) rfl 5 (by decide) (X.ts fl_X2_different) (fun _ h => h) rfl hdg kk
theorem gX2_inRows (X : Cx V A cc nL RX2 p m c s args) (hW : WdC V ad A st H) (hdg : decode cc pc = .ok (.getfield 31, 3)) (kk : W p l e R s m args below meth c H locs cells slots Q (F0 m (pc + 3) ls (.ref (ad 14) :: rest))) : W p l e R s m args below meth c H locs cells slots Q (F0 m pc ls (.ref (ad 3) :: rest)) := by
  obtain ⟨ad', ha, hP, -⟩ := hW
  rw [← ha 3 (by decide)]
  rw [← ha 14 (by decide)] at kk
  exact va_get (D := V.1) (ci := 2) (C := RX2) (T := TX2) (N := 13) X.hx X.hb X.1.2.2.2.2 inG_X2 X.ho X.hK hP 3 (cw_ate (by decide) rfl) rfl 6 (by decide) (X.ts fl_X2_inRows) (fun _ h => h) rfl hdg kk
theorem gX2_inColumns (X : Cx V A cc nL RX2 p m c s args) (hW : WdC V ad A st H) (hdg : decode cc pc = .ok (.getfield 35, 3)) (kk : W p l e R s m args below meth c H locs cells slots Q (F0 m (pc + 3) ls (.ref (ad 15) :: rest))) : W p l e R s m args below meth c H locs cells slots Q (F0 m pc ls (.ref (ad 3) :: rest)) := by
  obtain ⟨ad', ha, hP, -⟩ := hW
  rw [← ha 3 (by decide)]
  rw [← ha 15 (by decide)] at kk
  exact va_get (D := V.1) (ci := 2) (C := RX2) (T := TX2) (N := 13) X.hx X.hb X.1.2.2.2.2 inG_X2 X.ho X.hK hP 3 (cw_ate (by decide) rfl) rfl 7 (by decide) (X.ts fl_X2_inColumns) (fun _ h => h) rfl hdg kk
theorem gX2_inSymmetric (X : Cx V A cc nL RX2 p m c s args) (hW : WdC V ad A st H) (hdg : decode cc pc = .ok (.getfield 38, 3)) (kk : W p l e R s m args below meth c H locs cells slots Q (F0 m (pc + 3) ls (.ref (ad 16) :: rest))) : W p l e R s m args below meth c H locs cells slots Q (F0 m pc ls (.ref (ad 3) :: rest)) := by
  obtain ⟨ad', ha, hP, -⟩ := hW
  rw [← ha 3 (by decide)]
  rw [← ha 16 (by decide)] at kk
  exact va_get (D := V.1) (ci := 2) (C := RX2) (T := TX2) (N := 13) X.hx X.hb X.1.2.2.2.2 inG_X2 X.ho X.hK hP 3 (cw_ate (by decide) rfl) rfl 8 (by decide) (X.ts fl_X2_inSymmetric) (fun _ h => h) rfl hdg kk
theorem gX2_visits (X : Cx V A cc nL RX2 p m c s args) (hW : WdC V ad A st H) (hdg : decode cc pc = .ok (.getfield 41, 3)) (kk : W p l e R s m args below meth c H locs cells slots Q (F0 m (pc + 3) ls (.int (st.1 7) :: rest))) : W p l e R s m args below meth c H locs cells slots Q (F0 m pc ls (.ref (ad 3) :: rest)) := by
  obtain ⟨ad', ha, hP, -⟩ := hW
  rw [← ha 3 (by decide)]
  exact va_get (D := V.1) (ci := 2) (C := RX2) (T := TX2) (N := 13) X.hx X.hb X.1.2.2.2.2 inG_X2 X.ho X.hK hP 3 (cw_ate (by decide) rfl) rfl 9 (by decide) (X.ts fl_X2_visits) (fun _ h => h) rfl hdg kk
theorem pX2_visits (X : Cx V A cc nL RX2 p m c s args) (hW : WdC V ad A st H) (hS : va_S A s.heap H locs) {v : Int32} (hdg : decode cc pc = .ok (.putfield 41, 3)) (kk : ∀ (H : Heap) (locs : List Loc), WdC V ad A (sI st 7 v) H → va_S A s.heap H locs → W p l e R s m args below meth c H locs cells slots Q (F0 m (pc + 3) ls rest)) : W p l e R s m args below meth c H locs cells slots Q (F0 m pc ls (.int v :: .ref (ad 3) :: rest)) := by
  obtain ⟨ad', ha, hP, hD⟩ := hW
  rw [← ha 3 (by decide)]
  have e : (cw ad' (cE V ad' st) 38).set 3 (ad' 3, .inr (2, [.ref (ad' 2), .ref (ad' 4), .ref (ad' 5), .ref (ad' 7), .ref (ad' 8), .ref (ad' 9), .ref (ad' 14), .ref (ad' 15), .ref (ad' 16), .int v, .int (st.1 8), .int (st.1 9), .int (st.1 10)])) = cw ad' (cE V ad' (sI st 7 v)) 38 := cw_set (by decide) rfl (cE_I (lt10 (fun _ => rfl) (fun _ => rfl) (fun _ => rfl) (fun h => absurd rfl h) (fun _ => rfl) (fun _ => rfl) (fun _ => rfl) (fun _ => rfl) (fun _ => rfl) (fun _ => rfl)))
  refine va_put (D := V.1) (ci := 2) (v := .int v) (ty := .int) (C := RX2) (T := TX2) (N := 13) X.hx X.hb X.1.2.2.2.2 inG_X2 tyX2 tyX2_ok nmX2 X.ho X.hK hP hD hS 3 (cw_ate (by decide) rfl) rfl 9 (by decide) (X.ts fl_X2_visits) (fun _ h => h) rfl (by decide +kernel) rfl rfl (Nat.le_of_ble_eq_true rfl) hdg (fun H1 locs1 hP hD hS => ?_)
  exact kk H1 locs1 ⟨ad', ha, e ▸ hP, e ▸ hD⟩ hS
theorem gX2_dead (X : Cx V A cc nL RX2 p m c s args) (hW : WdC V ad A st H) (hdg : decode cc pc = .ok (.getfield 45, 3)) (kk : W p l e R s m args below meth c H locs cells slots Q (F0 m (pc + 3) ls (.int (st.1 8) :: rest))) : W p l e R s m args below meth c H locs cells slots Q (F0 m pc ls (.ref (ad 3) :: rest)) := by
  obtain ⟨ad', ha, hP, -⟩ := hW
  rw [← ha 3 (by decide)]
  exact va_get (D := V.1) (ci := 2) (C := RX2) (T := TX2) (N := 13) X.hx X.hb X.1.2.2.2.2 inG_X2 X.ho X.hK hP 3 (cw_ate (by decide) rfl) rfl 10 (by decide) (X.ts fl_X2_dead) (fun _ h => h) rfl hdg kk
theorem pX2_dead (X : Cx V A cc nL RX2 p m c s args) (hW : WdC V ad A st H) (hS : va_S A s.heap H locs) {v : Int32} (hdg : decode cc pc = .ok (.putfield 45, 3)) (kk : ∀ (H : Heap) (locs : List Loc), WdC V ad A (sI st 8 v) H → va_S A s.heap H locs → W p l e R s m args below meth c H locs cells slots Q (F0 m (pc + 3) ls rest)) : W p l e R s m args below meth c H locs cells slots Q (F0 m pc ls (.int v :: .ref (ad 3) :: rest)) := by
  obtain ⟨ad', ha, hP, hD⟩ := hW
  rw [← ha 3 (by decide)]
  have e : (cw ad' (cE V ad' st) 38).set 3 (ad' 3, .inr (2, [.ref (ad' 2), .ref (ad' 4), .ref (ad' 5), .ref (ad' 7), .ref (ad' 8), .ref (ad' 9), .ref (ad' 14), .ref (ad' 15), .ref (ad' 16), .int (st.1 7), .int v, .int (st.1 9), .int (st.1 10)])) = cw ad' (cE V ad' (sI st 8 v)) 38 := cw_set (by decide) rfl (cE_I (lt10 (fun _ => rfl) (fun _ => rfl) (fun _ => rfl) (fun h => absurd rfl h) (fun _ => rfl) (fun _ => rfl) (fun _ => rfl) (fun _ => rfl) (fun _ => rfl) (fun _ => rfl)))
  refine va_put (D := V.1) (ci := 2) (v := .int v) (ty := .int) (C := RX2) (T := TX2) (N := 13) X.hx X.hb X.1.2.2.2.2 inG_X2 tyX2 tyX2_ok nmX2 X.ho X.hK hP hD hS 3 (cw_ate (by decide) rfl) rfl 10 (by decide) (X.ts fl_X2_dead) (fun _ h => h) rfl (by decide +kernel) rfl rfl (Nat.le_of_ble_eq_true rfl) hdg (fun H1 locs1 hP hD hS => ?_)
  exact kk H1 locs1 ⟨ad', ha, e ▸ hP, e ▸ hD⟩ hS
theorem gX2_visitsWithMemory (X : Cx V A cc nL RX2 p m c s args) (hW : WdC V ad A st H) (hdg : decode cc pc = .ok (.getfield 48, 3)) (kk : W p l e R s m args below meth c H locs cells slots Q (F0 m (pc + 3) ls (.int (st.1 9) :: rest))) : W p l e R s m args below meth c H locs cells slots Q (F0 m pc ls (.ref (ad 3) :: rest)) := by
  obtain ⟨ad', ha, hP, -⟩ := hW
  rw [← ha 3 (by decide)]
  exact va_get (D := V.1) (ci := 2) (C := RX2) (T := TX2) (N := 13) X.hx X.hb X.1.2.2.2.2 inG_X2 X.ho X.hK hP 3 (cw_ate (by decide) rfl) rfl 11 (by decide) (X.ts fl_X2_visitsWithMemory) (fun _ h => h) rfl hdg kk
theorem pX2_visitsWithMemory (X : Cx V A cc nL RX2 p m c s args) (hW : WdC V ad A st H) (hS : va_S A s.heap H locs) {v : Int32} (hdg : decode cc pc = .ok (.putfield 48, 3)) (kk : ∀ (H : Heap) (locs : List Loc), WdC V ad A (sI st 9 v) H → va_S A s.heap H locs → W p l e R s m args below meth c H locs cells slots Q (F0 m (pc + 3) ls rest)) : W p l e R s m args below meth c H locs cells slots Q (F0 m pc ls (.int v :: .ref (ad 3) :: rest)) := by
  obtain ⟨ad', ha, hP, hD⟩ := hW
  rw [← ha 3 (by decide)]
  have e : (cw ad' (cE V ad' st) 38).set 3 (ad' 3, .inr (2, [.ref (ad' 2), .ref (ad' 4), .ref (ad' 5), .ref (ad' 7), .ref (ad' 8), .ref (ad' 9), .ref (ad' 14), .ref (ad' 15), .ref (ad' 16), .int (st.1 7), .int (st.1 8), .int v, .int (st.1 10)])) = cw ad' (cE V ad' (sI st 9 v)) 38 := cw_set (by decide) rfl (cE_I (lt10 (fun _ => rfl) (fun _ => rfl) (fun _ => rfl) (fun h => absurd rfl h) (fun _ => rfl) (fun _ => rfl) (fun _ => rfl) (fun _ => rfl) (fun _ => rfl) (fun _ => rfl)))
  refine va_put (D := V.1) (ci := 2) (v := .int v) (ty := .int) (C := RX2) (T := TX2) (N := 13) X.hx X.hb X.1.2.2.2.2 inG_X2 tyX2 tyX2_ok nmX2 X.ho X.hK hP hD hS 3 (cw_ate (by decide) rfl) rfl 11 (by decide) (X.ts fl_X2_visitsWithMemory) (fun _ h => h) rfl (by decide +kernel) rfl rfl (Nat.le_of_ble_eq_true rfl) hdg (fun H1 locs1 hP hD hS => ?_)
  exact kk H1 locs1 ⟨ad', ha, e ▸ hP, e ▸ hD⟩ hS
theorem gX2_cuts (X : Cx V A cc nL RX2 p m c s args) (hW : WdC V ad A st H) (hdg : decode cc pc = .ok (.getfield 51, 3)) (kk : W p l e R s m args below meth c H locs cells slots Q (F0 m (pc + 3) ls (.int (st.1 10) :: rest))) : W p l e R s m args below meth c H locs cells slots Q (F0 m pc ls (.ref (ad 3) :: rest)) := by
  obtain ⟨ad', ha, hP, -⟩ := hW
  rw [← ha 3 (by decide)]
  exact va_get (D := V.1) (ci := 2) (C := RX2) (T := TX2) (N := 13) X.hx X.hb X.1.2.2.2.2 inG_X2 X.ho X.hK hP 3 (cw_ate (by decide) rfl) rfl 12 (by decide) (X.ts fl_X2_cuts) (fun _ h => h) rfl hdg kk
theorem pX2_cuts (X : Cx V A cc nL RX2 p m c s args) (hW : WdC V ad A st H) (hS : va_S A s.heap H locs) {v : Int32} (hdg : decode cc pc = .ok (.putfield 51, 3)) (kk : ∀ (H : Heap) (locs : List Loc), WdC V ad A (sI st 10 v) H → va_S A s.heap H locs → W p l e R s m args below meth c H locs cells slots Q (F0 m (pc + 3) ls rest)) : W p l e R s m args below meth c H locs cells slots Q (F0 m pc ls (.int v :: .ref (ad 3) :: rest)) := by
  obtain ⟨ad', ha, hP, hD⟩ := hW
  rw [← ha 3 (by decide)]
  have e : (cw ad' (cE V ad' st) 38).set 3 (ad' 3, .inr (2, [.ref (ad' 2), .ref (ad' 4), .ref (ad' 5), .ref (ad' 7), .ref (ad' 8), .ref (ad' 9), .ref (ad' 14), .ref (ad' 15), .ref (ad' 16), .int (st.1 7), .int (st.1 8), .int (st.1 9), .int v])) = cw ad' (cE V ad' (sI st 10 v)) 38 := cw_set (by decide) rfl (cE_I (lt10 (fun _ => rfl) (fun _ => rfl) (fun _ => rfl) (fun h => absurd rfl h) (fun _ => rfl) (fun _ => rfl) (fun _ => rfl) (fun _ => rfl) (fun _ => rfl) (fun _ => rfl)))
  refine va_put (D := V.1) (ci := 2) (v := .int v) (ty := .int) (C := RX2) (T := TX2) (N := 13) X.hx X.hb X.1.2.2.2.2 inG_X2 tyX2 tyX2_ok nmX2 X.ho X.hK hP hD hS 3 (cw_ate (by decide) rfl) rfl 12 (by decide) (X.ts fl_X2_cuts) (fun _ h => h) rfl (by decide +kernel) rfl rfl (Nat.le_of_ble_eq_true rfl) hdg (fun H1 locs1 hP hD hS => ?_)
  exact kk H1 locs1 ⟨ad', ha, e ▸ hP, e ▸ hD⟩ hS
theorem rcX2 (X : Cx V A cc nL own p m c s args) (hW : WdC V ad A st H) : Rcv s H RX2 (ad 3) := by
  obtain ⟨ad', ha, hP, -⟩ := hW
  rw [← ha 3 (by decide)]
  exact va_recv X.hK hP (ci := 2) (q := (RX2, TX2, 13)) (q0 := 3) rfl (cw_ate (by decide) rfl)
theorem gX3_list (X : Cx V A cc nL RX3 p m c s args) (hW : WdC V ad A st H) (hdg : decode cc pc = .ok (.getfield 22, 3)) (kk : W p l e R s m args below meth c H locs cells slots Q (F0 m (pc + 3) ls (.ref (ad 2) :: rest))) : W p l e R s m args below meth c H locs cells slots Q (F0 m pc ls (.ref (ad 4) :: rest)) := by
  obtain ⟨ad', ha, hP, -⟩ := hW
  rw [← ha 4 (by decide)]
  rw [← ha 2 (by decide)] at kk
  exact va_get (D := V.1) (ci := 3) (C := RX3) (T := TX3) (N := 4) X.hx X.hb X.1.2.2.2.2 inG_X3 X.ho X.hK hP 4 (cw_ate (by decide) rfl) rfl 0 (by decide) (X.ts fl_X3_list) (fun _ h => h) rfl hdg kk
theorem gX3_longer (X : Cx V A cc nL RX3 p m c s args) (hW : WdC V ad A st H) (hdg : decode cc pc = .ok (.getfield 11, 3)) (kk : W p l e R s m args below meth c H locs cells slots Q (F0 m (pc + 3) ls (.ref (ad 23) :: rest))) : W p l e R s m args below meth c H locs cells slots Q (F0 m pc ls (.ref (ad 4) :: rest)) := by
  obtain ⟨ad', ha, hP, -⟩ := hW
  rw [← ha 4 (by decide)]
  rw [← ha 23 (by decide)] at kk
  exact va_get (D := V.1) (ci := 3) (C := RX3) (T := TX3) (N := 4) X.hx X.hb X.1.2.2.2.2 inG_X3 X.ho X.hK hP 4 (cw_ate (by decide) rfl) rfl 1 (by decide) (X.ts fl_X3_longer) (fun _ h => h) rfl hdg kk
theorem gX3_takers (X : Cx V A cc nL RX3 p m c s args) (hW : WdC V ad A st H) (hdg : decode cc pc = .ok (.getfield 16, 3)) (kk : W p l e R s m args below meth c H locs cells slots Q (F0 m (pc + 3) ls (.ref (ad 28) :: rest))) : W p l e R s m args below meth c H locs cells slots Q (F0 m pc ls (.ref (ad 4) :: rest)) := by
  obtain ⟨ad', ha, hP, -⟩ := hW
  rw [← ha 4 (by decide)]
  rw [← ha 28 (by decide)] at kk
  exact va_get (D := V.1) (ci := 3) (C := RX3) (T := TX3) (N := 4) X.hx X.hb X.1.2.2.2.2 inG_X3 X.ho X.hK hP 4 (cw_ate (by decide) rfl) rfl 2 (by decide) (X.ts fl_X3_takers) (fun _ h => h) rfl hdg kk
theorem gX3_likes (X : Cx V A cc nL RX3 p m c s args) (hW : WdC V ad A st H) (hdg : decode cc pc = .ok (.getfield 19, 3)) (kk : W p l e R s m args below meth c H locs cells slots Q (F0 m (pc + 3) ls (.ref (ad 33) :: rest))) : W p l e R s m args below meth c H locs cells slots Q (F0 m pc ls (.ref (ad 4) :: rest)) := by
  obtain ⟨ad', ha, hP, -⟩ := hW
  rw [← ha 4 (by decide)]
  rw [← ha 33 (by decide)] at kk
  exact va_get (D := V.1) (ci := 3) (C := RX3) (T := TX3) (N := 4) X.hx X.hb X.1.2.2.2.2 inG_X3 X.ho X.hK hP 4 (cw_ate (by decide) rfl) rfl 3 (by decide) (X.ts fl_X3_likes) (fun _ h => h) rfl hdg kk
theorem rcX3 (X : Cx V A cc nL own p m c s args) (hW : WdC V ad A st H) : Rcv s H RX3 (ad 4) := by
  obtain ⟨ad', ha, hP, -⟩ := hW
  rw [← ha 4 (by decide)]
  exact va_recv X.hK hP (ci := 3) (q := (RX3, TX3, 4)) (q0 := 4) rfl (cw_ate (by decide) rfl)
theorem gX1_seen (X : Cx V A cc nL RX1 p m c s args) (hW : WdC V ad A st H) (hdg : decode cc pc = .ok (.getfield 9, 3)) (kk : W p l e R s m args below meth c H locs cells slots Q (F0 m (pc + 3) ls (.ref (ad 19) :: rest))) : W p l e R s m args below meth c H locs cells slots Q (F0 m pc ls (.ref (ad 5) :: rest)) := by
  obtain ⟨ad', ha, hP, -⟩ := hW
  rw [← ha 5 (by decide)]
  rw [← ha 19 (by decide)] at kk
  exact va_get (D := V.1) (ci := 1) (C := RX1) (T := TX1) (N := 2) X.hx X.hb X.1.2.2.2.2 inG_X1 X.ho X.hK hP 5 (cw_ate (by decide) rfl) rfl 0 (by decide) (X.ts fl_X1_seen) (fun _ h => h) rfl hdg kk
theorem gX1_size (X : Cx V A cc nL RX1 p m c s args) (hW : WdC V ad A st H) (hdg : decode cc pc = .ok (.getfield 13, 3)) (kk : W p l e R s m args below meth c H locs cells slots Q (F0 m (pc + 3) ls (.int (st.1 11) :: rest))) : W p l e R s m args below meth c H locs cells slots Q (F0 m pc ls (.ref (ad 5) :: rest)) := by
  obtain ⟨ad', ha, hP, -⟩ := hW
  rw [← ha 5 (by decide)]
  exact va_get (D := V.1) (ci := 1) (C := RX1) (T := TX1) (N := 2) X.hx X.hb X.1.2.2.2.2 inG_X1 X.ho X.hK hP 5 (cw_ate (by decide) rfl) rfl 1 (by decide) (X.ts fl_X1_size) (fun _ h => h) rfl hdg kk
theorem pX1_size (X : Cx V A cc nL RX1 p m c s args) (hW : WdC V ad A st H) (hS : va_S A s.heap H locs) {v : Int32} (hdg : decode cc pc = .ok (.putfield 13, 3)) (kk : ∀ (H : Heap) (locs : List Loc), WdC V ad A (sI st 11 v) H → va_S A s.heap H locs → W p l e R s m args below meth c H locs cells slots Q (F0 m (pc + 3) ls rest)) : W p l e R s m args below meth c H locs cells slots Q (F0 m pc ls (.int v :: .ref (ad 5) :: rest)) := by
  obtain ⟨ad', ha, hP, hD⟩ := hW
  rw [← ha 5 (by decide)]
  have e : (cw ad' (cE V ad' st) 38).set 5 (ad' 5, .inr (1, [.ref (ad' 19), .int v])) = cw ad' (cE V ad' (sI st 11 v)) 38 := cw_set (by decide) rfl (cE_I (lt10 (fun _ => rfl) (fun _ => rfl) (fun _ => rfl) (fun _ => rfl) (fun _ => rfl) (fun h => absurd rfl h) (fun _ => rfl) (fun _ => rfl) (fun _ => rfl) (fun _ => rfl)))
  refine va_put (D := V.1) (ci := 1) (v := .int v) (ty := .int) (C := RX1) (T := TX1) (N := 2) X.hx X.hb X.1.2.2.2.2 inG_X1 tyX1 tyX1_ok nmX1 X.ho X.hK hP hD hS 5 (cw_ate (by decide) rfl) rfl 1 (by decide) (X.ts fl_X1_size) (fun _ h => h) rfl (by decide +kernel) rfl rfl (Nat.le_of_ble_eq_true rfl) hdg (fun H1 locs1 hP hD hS => ?_)
  exact kk H1 locs1 ⟨ad', ha, e ▸ hP, e ▸ hD⟩ hS
theorem rcX1 (X : Cx V A cc nL own p m c s args) (hW : WdC V ad A st H) : Rcv s H RX1 (ad 5) := by
  obtain ⟨ad', ha, hP, -⟩ := hW
  rw [← ha 5 (by decide)]
  exact va_recv X.hK hP (ci := 1) (q := (RX1, TX1, 2)) (q0 := 5) rfl (cw_ate (by decide) rfl)
theorem gX0_placed (X : Cx V A cc nL RX0 p m c s args) (hW : WdC V ad A st H) (hdg : decode cc pc = .ok (.getfield 9, 3)) (kk : W p l e R s m args below meth c H locs cells slots Q (F0 m (pc + 3) ls (.ref (ad 17) :: rest))) : W p l e R s m args below meth c H locs cells slots Q (F0 m pc ls (.ref (ad 6) :: rest)) := by
  obtain ⟨ad', ha, hP, -⟩ := hW
  rw [← ha 6 (by decide)]
  rw [← ha 17 (by decide)] at kk
  exact va_get (D := V.1) (ci := 0) (C := RX0) (T := TX0) (N := 3) X.hx X.hb X.1.2.2.2.2 inG_X0 X.ho X.hK hP 6 (cw_ate (by decide) rfl) rfl 0 (by decide) (X.ts fl_X0_placed) (fun _ h => h) rfl hdg kk
theorem gX0_sets (X : Cx V A cc nL RX0 p m c s args) (hW : WdC V ad A st H) (hdg : decode cc pc = .ok (.getfield 15, 3)) (kk : W p l e R s m args below meth c H locs cells slots Q (F0 m (pc + 3) ls (.ref (ad 18) :: rest))) : W p l e R s m args below meth c H locs cells slots Q (F0 m pc ls (.ref (ad 6) :: rest)) := by
  obtain ⟨ad', ha, hP, -⟩ := hW
  rw [← ha 6 (by decide)]
  rw [← ha 18 (by decide)] at kk
  exact va_get (D := V.1) (ci := 0) (C := RX0) (T := TX0) (N := 3) X.hx X.hb X.1.2.2.2.2 inG_X0 X.ho X.hK hP 6 (cw_ate (by decide) rfl) rfl 1 (by decide) (X.ts fl_X0_sets) (fun _ h => h) rfl hdg kk
theorem gX0_fits (X : Cx V A cc nL RX0 p m c s args) (hW : WdC V ad A st H) (hdg : decode cc pc = .ok (.getfield 18, 3)) (kk : W p l e R s m args below meth c H locs cells slots Q (F0 m (pc + 3) ls (.int (st.1 12) :: rest))) : W p l e R s m args below meth c H locs cells slots Q (F0 m pc ls (.ref (ad 6) :: rest)) := by
  obtain ⟨ad', ha, hP, -⟩ := hW
  rw [← ha 6 (by decide)]
  exact va_get (D := V.1) (ci := 0) (C := RX0) (T := TX0) (N := 3) X.hx X.hb X.1.2.2.2.2 inG_X0 X.ho X.hK hP 6 (cw_ate (by decide) rfl) rfl 2 (by decide) (X.ts fl_X0_fits) (fun _ h => h) rfl hdg kk
theorem pX0_fits (X : Cx V A cc nL RX0 p m c s args) (hW : WdC V ad A st H) (hS : va_S A s.heap H locs) {v : Int32} (hdg : decode cc pc = .ok (.putfield 18, 3)) (kk : ∀ (H : Heap) (locs : List Loc), WdC V ad A (sI st 12 v) H → va_S A s.heap H locs → W p l e R s m args below meth c H locs cells slots Q (F0 m (pc + 3) ls rest)) : W p l e R s m args below meth c H locs cells slots Q (F0 m pc ls (.int v :: .ref (ad 6) :: rest)) := by
  obtain ⟨ad', ha, hP, hD⟩ := hW
  rw [← ha 6 (by decide)]
  have e : (cw ad' (cE V ad' st) 38).set 6 (ad' 6, .inr (0, [.ref (ad' 17), .ref (ad' 18), .int v])) = cw ad' (cE V ad' (sI st 12 v)) 38 := cw_set (by decide) rfl (cE_I (lt10 (fun _ => rfl) (fun _ => rfl) (fun _ => rfl) (fun _ => rfl) (fun _ => rfl) (fun _ => rfl) (fun h => absurd rfl h) (fun _ => rfl) (fun _ => rfl) (fun _ => rfl)))
  refine va_put (D := V.1) (ci := 0) (v := .int v) (ty := .int) (C := RX0) (T := TX0) (N := 3) X.hx X.hb X.1.2.2.2.2 inG_X0 tyX0 tyX0_ok nmX0 X.ho X.hK hP hD hS 6 (cw_ate (by decide) rfl) rfl 2 (by decide) (X.ts fl_X0_fits) (fun _ h => h) rfl (by decide +kernel) rfl rfl (Nat.le_of_ble_eq_true rfl) hdg (fun H1 locs1 hP hD hS => ?_)
  exact kk H1 locs1 ⟨ad', ha, e ▸ hP, e ▸ hD⟩ hS
theorem rcX0 (X : Cx V A cc nL own p m c s args) (hW : WdC V ad A st H) : Rcv s H RX0 (ad 6) := by
  obtain ⟨ad', ha, hP, -⟩ := hW
  rw [← ha 6 (by decide)]
  exact va_recv X.hK hP (ci := 0) (q := (RX0, TX0, 3)) (q0 := 6) rfl (cw_ate (by decide) rfl)
theorem rcX4 (X : Cx V A cc nL own p m c s args) {k : Nat} (hk : k < 3) (hW : WdC V ad A st H) : Rcv s H RX4 (ad (7 + k)) := by
  obtain ⟨ad', ha, hP, -⟩ := hW
  rw [← ha (7 + k) (by omega)]
  rcases (show k = 0 ∨ k = 1 ∨ k = 2 by omega) with rfl | rfl | rfl
  · exact va_recv X.hK hP (ci := 4) (q := (RX4, TX4, 2)) (q0 := 7) rfl (cw_ate (by decide) rfl)
  · exact va_recv X.hK hP (ci := 4) (q := (RX4, TX4, 2)) (q0 := 8) rfl (cw_ate (by decide) rfl)
  · exact va_recv X.hK hP (ci := 4) (q := (RX4, TX4, 2)) (q0 := 9) rfl (cw_ate (by decide) rfl)
theorem gX4_size (X : Cx V A cc nL RX4 p m c s args) {k : Nat} (hk : k < 3) (hW : WdC V ad A st H) (hdg : decode cc pc = .ok (.getfield 13, 3)) (kk : W p l e R s m args below meth c H locs cells slots Q (F0 m (pc + 3) ls (.int (st.1 (13 + k)) :: rest))) : W p l e R s m args below meth c H locs cells slots Q (F0 m pc ls (.ref (ad (7 + k)) :: rest)) := by
  obtain ⟨ad', ha, hP, -⟩ := hW
  rw [← ha (7 + k) (by omega)]
  rcases (show k = 0 ∨ k = 1 ∨ k = 2 by omega) with rfl | rfl | rfl
  · exact va_get (D := V.1) (ci := 4) (v := .int (st.1 13)) (C := RX4) (T := TX4) (N := 2) X.hx X.hb X.1.2.2.2.2 inG_X4 X.ho X.hK hP 7 (cw_ate (by decide) rfl) rfl 1 (by decide) (X.ts fl_X4_size) (fun _ h => h) rfl hdg kk
  · exact va_get (D := V.1) (ci := 4) (v := .int (st.1 14)) (C := RX4) (T := TX4) (N := 2) X.hx X.hb X.1.2.2.2.2 inG_X4 X.ho X.hK hP 8 (cw_ate (by decide) rfl) rfl 1 (by decide) (X.ts fl_X4_size) (fun _ h => h) rfl hdg kk
  · exact va_get (D := V.1) (ci := 4) (v := .int (st.1 15)) (C := RX4) (T := TX4) (N := 2) X.hx X.hb X.1.2.2.2.2 inG_X4 X.ho X.hK hP 9 (cw_ate (by decide) rfl) rfl 1 (by decide) (X.ts fl_X4_size) (fun _ h => h) rfl hdg kk
theorem gX4_items (X : Cx V A cc nL RX4 p m c s args) {k : Nat} (hk : k < 3) (hW : WdC V ad A st H) (hdg : decode cc pc = .ok (.getfield 9, 3)) (kk : ∀ q : Nat, WdQ V ad A k q st H → W p l e R s m args below meth c H locs cells slots Q (F0 m (pc + 3) ls (.ref q :: rest))) : W p l e R s m args below meth c H locs cells slots Q (F0 m pc ls (.ref (ad (7 + k)) :: rest)) := by
  obtain ⟨ad', ha, hP, hD⟩ := hW
  rw [← ha (7 + k) (by omega)]
  have hq := kk (ad' (20 + k)) ⟨ad', ha, hP, hD, rfl⟩
  rcases (show k = 0 ∨ k = 1 ∨ k = 2 by omega) with rfl | rfl | rfl
  · exact va_get (D := V.1) (ci := 4) (v := .ref (ad' 20)) (C := RX4) (T := TX4) (N := 2) X.hx X.hb X.1.2.2.2.2 inG_X4 X.ho X.hK hP 7 (cw_ate (by decide) rfl) rfl 0 (by decide) (X.ts fl_X4_items) (fun _ h => h) rfl hdg hq
  · exact va_get (D := V.1) (ci := 4) (v := .ref (ad' 21)) (C := RX4) (T := TX4) (N := 2) X.hx X.hb X.1.2.2.2.2 inG_X4 X.ho X.hK hP 8 (cw_ate (by decide) rfl) rfl 0 (by decide) (X.ts fl_X4_items) (fun _ h => h) rfl hdg hq
  · exact va_get (D := V.1) (ci := 4) (v := .ref (ad' 22)) (C := RX4) (T := TX4) (N := 2) X.hx X.hb X.1.2.2.2.2 inG_X4 X.ho X.hK hP 9 (cw_ate (by decide) rfl) rfl 0 (by decide) (X.ts fl_X4_items) (fun _ h => h) rfl hdg hq
theorem pX4_size (X : Cx V A cc nL RX4 p m c s args) {k : Nat} (hk : k < 3) (hW : WdC V ad A st H) (hS : va_S A s.heap H locs) {v : Int32} (hdg : decode cc pc = .ok (.putfield 13, 3)) (kk : ∀ (H : Heap) (locs : List Loc), WdC V ad A (sI st (13 + k) v) H → va_S A s.heap H locs → W p l e R s m args below meth c H locs cells slots Q (F0 m (pc + 3) ls rest)) : W p l e R s m args below meth c H locs cells slots Q (F0 m pc ls (.int v :: .ref (ad (7 + k)) :: rest)) := by
  obtain ⟨ad', ha, hP, hD⟩ := hW
  rw [← ha (7 + k) (by omega)]
  rcases (show k = 0 ∨ k = 1 ∨ k = 2 by omega) with rfl | rfl | rfl
  · have e : (cw ad' (cE V ad' st) 38).set 7 (ad' 7, .inr (4, [.ref (ad' 20), .int v])) = cw ad' (cE V ad' (sI st 13 v)) 38 := cw_set (by decide) rfl (cE_I (lt10 (fun _ => rfl) (fun _ => rfl) (fun _ => rfl) (fun _ => rfl) (fun _ => rfl) (fun _ => rfl) (fun _ => rfl) (fun h => absurd rfl h) (fun _ => rfl) (fun _ => rfl)))
    refine va_put (D := V.1) (ci := 4) (v := .int v) (ty := .int) (C := RX4) (T := TX4) (N := 2) X.hx X.hb X.1.2.2.2.2 inG_X4 tyX4 tyX4_ok nmX4 X.ho X.hK hP hD hS 7 (cw_ate (by decide) rfl) rfl 1 (by decide) (X.ts fl_X4_size) (fun _ h => h) rfl (by decide +kernel) rfl rfl (Nat.le_of_ble_eq_true rfl) hdg (fun H1 locs1 hP hD hS => ?_)
    exact kk H1 locs1 ⟨ad', ha, e ▸ hP, e ▸ hD⟩ hS
  · have e : (cw ad' (cE V ad' st) 38).set 8 (ad' 8, .inr (4, [.ref (ad' 21), .int v])) = cw ad' (cE V ad' (sI st 14 v)) 38 := cw_set (by decide) rfl (cE_I (lt10 (fun _ => rfl) (fun _ => rfl) (fun _ => rfl) (fun _ => rfl) (fun _ => rfl) (fun _ => rfl) (fun _ => rfl) (fun _ => rfl) (fun h => absurd rfl h) (fun _ => rfl)))
    refine va_put (D := V.1) (ci := 4) (v := .int v) (ty := .int) (C := RX4) (T := TX4) (N := 2) X.hx X.hb X.1.2.2.2.2 inG_X4 tyX4 tyX4_ok nmX4 X.ho X.hK hP hD hS 8 (cw_ate (by decide) rfl) rfl 1 (by decide) (X.ts fl_X4_size) (fun _ h => h) rfl (by decide +kernel) rfl rfl (Nat.le_of_ble_eq_true rfl) hdg (fun H1 locs1 hP hD hS => ?_)
    exact kk H1 locs1 ⟨ad', ha, e ▸ hP, e ▸ hD⟩ hS
  · have e : (cw ad' (cE V ad' st) 38).set 9 (ad' 9, .inr (4, [.ref (ad' 22), .int v])) = cw ad' (cE V ad' (sI st 15 v)) 38 := cw_set (by decide) rfl (cE_I (lt10 (fun _ => rfl) (fun _ => rfl) (fun _ => rfl) (fun _ => rfl) (fun _ => rfl) (fun _ => rfl) (fun _ => rfl) (fun _ => rfl) (fun _ => rfl) (fun h => absurd rfl h)))
    refine va_put (D := V.1) (ci := 4) (v := .int v) (ty := .int) (C := RX4) (T := TX4) (N := 2) X.hx X.hb X.1.2.2.2.2 inG_X4 tyX4 tyX4_ok nmX4 X.ho X.hK hP hD hS 9 (cw_ate (by decide) rfl) rfl 1 (by decide) (X.ts fl_X4_size) (fun _ h => h) rfl (by decide +kernel) rfl rfl (Nat.le_of_ble_eq_true rfl) hdg (fun H1 locs1 hP hD hS => ?_)
    exact kk H1 locs1 ⟨ad', ha, e ▸ hP, e ▸ hD⟩ hS
theorem aC_ld (X : Cx V A cc nL own p m c s args) (hW : WdC V ad A st H) {q n : Nat} (hq : isA q) (hn : aln st q = n) {i : Int32} (hin : inb i n = true) (hdg : decode cc pc = .ok (.iaload, 1)) (kk : W p l e R s m args below meth c H locs cells slots Q (F0 m (pc + 1) ls (.int (st.2.1 q i.toNatClampNeg) :: rest))) : W p l e R s m args below meth c H locs cells slots Q (F0 m pc ls (.int i :: .ref (ad q) :: rest)) := by
  obtain ⟨ad', ha, hP, -⟩ := hW
  rw [← ha q hq.2]
  exact va_iald X.hx X.hb X.hK hP q 0 (cw_ate hq.1.2.1 (cE_row hq.1)) rfl (inb_in (by rw [hn]; exact hin)) hdg kk
theorem aC_st (X : Cx V A cc nL own p m c s args) (hW : WdC V ad A st H) (hS : va_S A s.heap H locs) {q n : Nat} (hq : isA q) (hn : aln st q = n) {i v : Int32} (hin : inb i n = true) (hdg : decode cc pc = .ok (.iastore, 1)) (kk : ∀ (H : Heap) (locs : List Loc), WdC V ad A (sA st q i.toNatClampNeg v) H → va_S A s.heap H locs → W p l e R s m args below meth c H locs cells slots Q (F0 m (pc + 1) ls rest)) : W p l e R s m args below meth c H locs cells slots Q (F0 m pc ls (.int v :: .int i :: .ref (ad q) :: rest)) := by
  obtain ⟨ad', ha, hP, hD⟩ := hW
  rw [← ha q hq.2]
  refine va_iast X.hx X.hb X.hK hP hD hS q 0 (cw_ate hq.1.2.1 (cE_row hq.1)) rfl (inb_in (by rw [hn]; exact hin)) hdg (fun H1 locs1 hP hD hS => ?_)
  have e : (cw ad' (cE V ad' st) 38).set q (ad' q, .inl (V.2.1, aln st q, .inl (upd (st.2.1 q) i.toNatClampNeg v))) = cw ad' (cE V ad' (sA st q i.toNatClampNeg v)) 38 := cw_set hq.1.2.1 (by rw [cE_row hq.1]; show Sum.inl (V.2.1, aln st q, Sum.inl (va_up st.2.1 q _ q)) = _; rw [va_up_self]) (cE_A hq.1)
  exact kk H1 locs1 ⟨ad', ha, e ▸ hP, e ▸ hD⟩ hS
theorem aC_len (X : Cx V A cc nL own p m c s args) (hW : WdC V ad A st H) {q n : Nat} (hq : isA q) (hn : aln st q = n) (hdg : decode cc pc = .ok (.arraylength, 1)) (kk : W p l e R s m args below meth c H locs cells slots Q (F0 m (pc + 1) ls (.int (nI n) :: rest))) : W p l e R s m args below meth c H locs cells slots Q (F0 m pc ls (.ref (ad q) :: rest)) := by
  obtain ⟨ad', ha, hP, -⟩ := hW
  rw [← ha q hq.2]
  exact va_alen X.hx X.hb X.hK hP q 0 (cw_ate hq.1.2.1 (cE_row hq.1)) rfl (by rw [← hn]; rfl) hdg kk
theorem aC_lenJ (X : Cx V A cc nL own p m c s args) (hW : WdC V ad A st H) (hdg : decode cc pc = .ok (.arraylength, 1)) (kk : W p l e R s m args below meth c H locs cells slots Q (F0 m (pc + 1) ls (.int (nI 1296) :: rest))) : W p l e R s m args below meth c H locs cells slots Q (F0 m pc ls (.ref (ad 19) :: rest)) := by
  obtain ⟨ad', ha, hP, -⟩ := hW
  rw [← ha 19 (by decide)]
  exact va_alen X.hx X.hb X.hK hP 19 1 (cw_ate (by decide) rfl) rfl rfl hdg kk
theorem aC_ldQ (X : Cx V A cc nL own p m c s args) {k q n : Nat} (hk : k < 3) (hW : WdQ V ad A k q st H) (hn : aln st (20 + k) = n) {i : Int32} (hin : inb i n = true) (hdg : decode cc pc = .ok (.iaload, 1)) (kk : W p l e R s m args below meth c H locs cells slots Q (F0 m (pc + 1) ls (.int (st.2.1 (20 + k) i.toNatClampNeg) :: rest))) : W p l e R s m args below meth c H locs cells slots Q (F0 m pc ls (.int i :: .ref q :: rest)) := by
  obtain ⟨ad', ha, hP, -, rfl⟩ := hW
  have hr : isR (20 + k) := ⟨by omega, by omega, by omega, by omega, by omega, by omega⟩
  exact va_iald X.hx X.hb X.hK hP (20 + k) 0 (cw_ate hr.2.1 (cE_row hr)) rfl (inb_in (by rw [hn]; exact hin)) hdg kk
theorem aC_lenQ (X : Cx V A cc nL own p m c s args) {k q n : Nat} (hk : k < 3) (hW : WdQ V ad A k q st H) (hn : aln st (20 + k) = n) (hdg : decode cc pc = .ok (.arraylength, 1)) (kk : W p l e R s m args below meth c H locs cells slots Q (F0 m (pc + 1) ls (.int (nI n) :: rest))) : W p l e R s m args below meth c H locs cells slots Q (F0 m pc ls (.ref q :: rest)) := by
  obtain ⟨ad', ha, hP, -, rfl⟩ := hW
  have hr : isR (20 + k) := ⟨by omega, by omega, by omega, by omega, by omega, by omega⟩
  exact va_alen X.hx X.hb X.hK hP (20 + k) 0 (cw_ate hr.2.1 (cE_row hr)) rfl (by rw [← hn]; rfl) hdg kk
theorem aC_stQ (X : Cx V A cc nL own p m c s args) (hS : va_S A s.heap H locs) {k q n : Nat} (hk : k < 3) (hW : WdQ V ad A k q st H) (hn : aln st (20 + k) = n) {i v : Int32} (hin : inb i n = true) (hdg : decode cc pc = .ok (.iastore, 1)) (kk : ∀ (H : Heap) (locs : List Loc), WdC V ad A (sA st (20 + k) i.toNatClampNeg v) H → va_S A s.heap H locs → W p l e R s m args below meth c H locs cells slots Q (F0 m (pc + 1) ls rest)) : W p l e R s m args below meth c H locs cells slots Q (F0 m pc ls (.int v :: .int i :: .ref q :: rest)) := by
  obtain ⟨ad', ha, hP, hD, rfl⟩ := hW
  have hr : isR (20 + k) := ⟨by omega, by omega, by omega, by omega, by omega, by omega⟩
  refine va_iast X.hx X.hb X.hK hP hD hS (20 + k) 0 (cw_ate hr.2.1 (cE_row hr)) rfl (inb_in (by rw [hn]; exact hin)) hdg (fun H1 locs1 hP hD hS => ?_)
  have e : (cw ad' (cE V ad' st) 38).set (20 + k) (ad' (20 + k), .inl (V.2.1, aln st (20 + k), .inl (upd (st.2.1 (20 + k)) i.toNatClampNeg v))) = cw ad' (cE V ad' (sA st (20 + k) i.toNatClampNeg v)) 38 := cw_set hr.2.1 (by rw [cE_row hr]; show Sum.inl (V.2.1, aln st (20 + k), Sum.inl (va_up st.2.1 (20 + k) _ (20 + k))) = _; rw [va_up_self]) (cE_A hr)
  exact kk H1 locs1 ⟨ad', ha, e ▸ hP, e ▸ hD⟩ hS
theorem jC_ld (X : Cx V A cc nL own p m c s args) (hW : WdC V ad A st H) {i : Int32} (hin : inb i 1296 = true) (hdg : decode cc pc = .ok (.laload, 1)) (kk : W p l e R s m args below meth c H locs cells slots Q (F0 m (pc + 1) ls (.long (st.2.2.1 i.toNatClampNeg) :: rest))) : W p l e R s m args below meth c H locs cells slots Q (F0 m pc ls (.int i :: .ref (ad 19) :: rest)) := by
  obtain ⟨ad', ha, hP, -⟩ := hW
  rw [← ha 19 (by decide)]
  exact va_lald X.hx X.hb X.hK hP 19 1 (cw_ate (by decide) rfl) rfl (inb_in hin) hdg kk
theorem jC_st (X : Cx V A cc nL own p m c s args) (hW : WdC V ad A st H) (hS : va_S A s.heap H locs) {i : Int32} {v : Int64} (hin : inb i 1296 = true) (hdg : decode cc pc = .ok (.lastore, 1)) (kk : ∀ (H : Heap) (locs : List Loc), WdC V ad A (sJ st i.toNatClampNeg v) H → va_S A s.heap H locs → W p l e R s m args below meth c H locs cells slots Q (F0 m (pc + 1) ls rest)) : W p l e R s m args below meth c H locs cells slots Q (F0 m pc ls (.long v :: .int i :: .ref (ad 19) :: rest)) := by
  obtain ⟨ad', ha, hP, hD⟩ := hW
  rw [← ha 19 (by decide)]
  refine va_last X.hx X.hb X.hK hP hD hS 19 1 (cw_ate (by decide) rfl) rfl (inb_in hin) hdg (fun H1 locs1 hP hD hS => ?_)
  have e : (cw ad' (cE V ad' st) 38).set 19 (ad' 19, .inl (V.2.2.1, 1296, .inr (.inl (vp_updL st.2.2.1 i.toNatClampNeg v)))) = cw ad' (cE V ad' (sJ st i.toNatClampNeg v)) 38 := cw_set (by decide) rfl cE_J
  exact kk H1 locs1 ⟨ad', ha, e ▸ hP, e ▸ hD⟩ hS
theorem oC_23 (X : Cx V A cc nL own p m c s args) (hW : WdC V ad A st H) {i : Int32} (hin : inb i 4 = true) (hdg : decode cc pc = .ok (.aaload, 1)) (kk : W p l e R s m args below meth c H locs cells slots Q (F0 m (pc + 1) ls (.ref (ad (24 + i.toNatClampNeg)) :: rest))) : W p l e R s m args below meth c H locs cells slots Q (F0 m pc ls (.int i :: .ref (ad 23) :: rest)) := by
  obtain ⟨ad', ha, hP, -⟩ := hW
  rw [← ha 23 (by decide)]
  have hi := inb_in hin
  have hlt : i.toNatClampNeg < 4 := Nat.not_le.mp fun q => hi (Or.inr q)
  rw [← ha (24 + i.toNatClampNeg) (by omega)] at kk
  exact W.aald (v := .ref (ad' (24 + i.toNatClampNeg))) (ty := .array .int) X.hx X.hb (hP 23 _ (cw_ate (by decide) rfl)) ((X.hK.2 3 _ rfl).1 4 (fun j => va_rf (if j < 4 then some (ad' (24 + j)) else none))) rfl (fun q => by cases q) (by show ¬ (i < 0 ∨ (arrV _ _ _).slots.size ≤ _); rw [arrV_size]; exact hi) (by show (arrV _ _ _).slots[_]? = _; rw [arrV_read _ _ hlt]; show some (va_rf (if i.toNatClampNeg < 4 then _ else none)) = _; rw [if_pos hlt]; rfl) rfl rfl hdg kk
theorem oC_28 (X : Cx V A cc nL own p m c s args) (hW : WdC V ad A st H) {i : Int32} (hin : inb i 4 = true) (hdg : decode cc pc = .ok (.aaload, 1)) (kk : W p l e R s m args below meth c H locs cells slots Q (F0 m (pc + 1) ls (.ref (ad (29 + i.toNatClampNeg)) :: rest))) : W p l e R s m args below meth c H locs cells slots Q (F0 m pc ls (.int i :: .ref (ad 28) :: rest)) := by
  obtain ⟨ad', ha, hP, -⟩ := hW
  rw [← ha 28 (by decide)]
  have hi := inb_in hin
  have hlt : i.toNatClampNeg < 4 := Nat.not_le.mp fun q => hi (Or.inr q)
  rw [← ha (29 + i.toNatClampNeg) (by omega)] at kk
  exact W.aald (v := .ref (ad' (29 + i.toNatClampNeg))) (ty := .array .int) X.hx X.hb (hP 28 _ (cw_ate (by decide) rfl)) ((X.hK.2 3 _ rfl).1 4 (fun j => va_rf (if j < 4 then some (ad' (29 + j)) else none))) rfl (fun q => by cases q) (by show ¬ (i < 0 ∨ (arrV _ _ _).slots.size ≤ _); rw [arrV_size]; exact hi) (by show (arrV _ _ _).slots[_]? = _; rw [arrV_read _ _ hlt]; show some (va_rf (if i.toNatClampNeg < 4 then _ else none)) = _; rw [if_pos hlt]; rfl) rfl rfl hdg kk
theorem oC_33 (X : Cx V A cc nL own p m c s args) (hW : WdC V ad A st H) {i : Int32} (hin : inb i 4 = true) (hdg : decode cc pc = .ok (.aaload, 1)) (kk : W p l e R s m args below meth c H locs cells slots Q (F0 m (pc + 1) ls (.ref (ad (34 + i.toNatClampNeg)) :: rest))) : W p l e R s m args below meth c H locs cells slots Q (F0 m pc ls (.int i :: .ref (ad 33) :: rest)) := by
  obtain ⟨ad', ha, hP, -⟩ := hW
  rw [← ha 33 (by decide)]
  have hi := inb_in hin
  have hlt : i.toNatClampNeg < 4 := Nat.not_le.mp fun q => hi (Or.inr q)
  rw [← ha (34 + i.toNatClampNeg) (by omega)] at kk
  exact W.aald (v := .ref (ad' (34 + i.toNatClampNeg))) (ty := .array .int) X.hx X.hb (hP 33 _ (cw_ate (by decide) rfl)) ((X.hK.2 3 _ rfl).1 4 (fun j => va_rf (if j < 4 then some (ad' (34 + j)) else none))) rfl (fun q => by cases q) (by show ¬ (i < 0 ∨ (arrV _ _ _).slots.size ≤ _); rw [arrV_size]; exact hi) (by show (arrV _ _ _).slots[_]? = _; rw [arrV_read _ _ hlt]; show some (va_rf (if i.toNatClampNeg < 4 then _ else none)) = _; rw [if_pos hlt]; rfl) rfl rfl hdg kk
theorem aln_24 {st : St} {i : Int32} (hin : inb i 4 = true) : aln st (24 + i.toNatClampNeg) = 512 := by
  have hi := inb_in hin
  have hlt : i.toNatClampNeg < 4 := Nat.not_le.mp fun q => hi (Or.inr q)
  rcases (show i.toNatClampNeg = 0 ∨ i.toNatClampNeg = 1 ∨ i.toNatClampNeg = 2 ∨ i.toNatClampNeg = 3 by omega) with h | h | h | h <;> rw [h] <;> rfl
theorem isA_24 {i : Int32} (hin : inb i 4 = true) : isA (24 + i.toNatClampNeg) := by
  have hi := inb_in hin
  have hlt : i.toNatClampNeg < 4 := Nat.not_le.mp fun q => hi (Or.inr q)
  exact ⟨⟨by omega, by omega, by omega, by omega, by omega, by omega⟩, by omega⟩
theorem aln_29 {st : St} {i : Int32} (hin : inb i 4 = true) : aln st (29 + i.toNatClampNeg) = 64 := by
  have hi := inb_in hin
  have hlt : i.toNatClampNeg < 4 := Nat.not_le.mp fun q => hi (Or.inr q)
  rcases (show i.toNatClampNeg = 0 ∨ i.toNatClampNeg = 1 ∨ i.toNatClampNeg = 2 ∨ i.toNatClampNeg = 3 by omega) with h | h | h | h <;> rw [h] <;> rfl
theorem isA_29 {i : Int32} (hin : inb i 4 = true) : isA (29 + i.toNatClampNeg) := by
  have hi := inb_in hin
  have hlt : i.toNatClampNeg < 4 := Nat.not_le.mp fun q => hi (Or.inr q)
  exact ⟨⟨by omega, by omega, by omega, by omega, by omega, by omega⟩, by omega⟩
theorem aln_34 {st : St} {i : Int32} (hin : inb i 4 = true) : aln st (34 + i.toNatClampNeg) = 16 := by
  have hi := inb_in hin
  have hlt : i.toNatClampNeg < 4 := Nat.not_le.mp fun q => hi (Or.inr q)
  rcases (show i.toNatClampNeg = 0 ∨ i.toNatClampNeg = 1 ∨ i.toNatClampNeg = 2 ∨ i.toNatClampNeg = 3 by omega) with h | h | h | h <;> rw [h] <;> rfl
theorem isA_34 {i : Int32} (hin : inb i 4 = true) : isA (34 + i.toNatClampNeg) := by
  have hi := inb_in hin
  have hlt : i.toNatClampNeg < 4 := Nat.not_le.mp fun q => hi (Or.inr q)
  exact ⟨⟨by omega, by omega, by omega, by omega, by omega, by omega⟩, by omega⟩
end WC
end
section
def mln (c : Nat) : Nat := match c with
  | 1 => 48
  | 2 => 12
  | 3 => 4
  | 4 => 60
  | 5 => 48
  | 6 => 4
  | 7 => 4
  | 8 => 4
  | 9 => 12
  | 10 => 12
  | 11 => 12
  | 12 => 4
  | 13 => 16
  | 14 => 5
  | 15 => 5
  | 16 => 4
  | 17 => 2000
  | _ => 0
/-- the cells of the reference: 0 the object, then its rows; 15 is one of booleans -/
def mE (V : Ev) (ad : Nat → Nat) (st : St) (c : Nat) : va_E := match c with
  | 0 => .inr (8, [.int (st.1 0), .int (st.1 1), .ref (ad 1), .ref (ad 2), .ref (ad 3), .int (st.1 2), .int (st.1 3), .int (st.1 4), .ref (ad 4), .int (st.1 5), .int (st.1 6), .int (st.1 7), .ref (ad 5), .ref (ad 6), .ref (ad 7), .ref (ad 8), .ref (ad 9), .ref (ad 10), .ref (ad 11), .int (st.1 8), .ref (ad 12), .ref (ad 13), .ref (ad 14), .ref (ad 15), .ref (ad 16), .int (st.1 9), .int (st.1 10), .int (st.1 11), .int (st.1 12), .ref (ad 17), .long (st.2.2.1 0)])
  | 15 => .inl (V.2.2.2.1, 5, .inl (st.2.1 15))
  | c => .inl (V.2.1, mln c, .inl (st.2.1 c))
def WdM (V : Ev) (ad : Nat → Nat) (A : Nat → Prop) (st : St) (H : Heap) : Prop := va_P V.1 vwCl (cw ad (mE V ad st) 18) H ∧ va_D A (cw ad (mE V ad st) 18)
def isM (c : Nat) : Prop := 1 ≤ c ∧ c < 18 ∧ c ≠ 15
theorem mE_row {V : Ev} {ad : Nat → Nat} {st : St} {c : Nat} (h : isM c) : mE V ad st c = .inl (V.2.1, mln c, .inl (st.2.1 c)) := by
  obtain ⟨h1, h2, h3⟩ := h
  unfold mE
  split <;> first | rfl | omega
theorem mE_I {V : Ev} {ad : Nat → Nat} {st : St} {k : Nat} {v : Int32} : ∀ j, j < 18 → j ≠ 0 → mE V ad (sI st k v) j = mE V ad st j := fun j hj hc => by
  unfold mE
  split <;> first | rfl | exact absurd rfl hc
theorem mE_J {V : Ev} {ad : Nat → Nat} {st : St} {k : Nat} {v : Int64} : ∀ j, j < 18 → j ≠ 0 → mE V ad (sJ st k v) j = mE V ad st j := fun j hj hc => by
  unfold mE
  split <;> first | rfl | exact absurd rfl hc
theorem mE_A {V : Ev} {ad : Nat → Nat} {st : St} {c i : Nat} {v : Int32} (h0 : c ≠ 0) : ∀ j, j < 18 → j ≠ c → mE V ad (sA st c i v) j = mE V ad st j := fun j hj hne => by
  unfold mE
  split
  · rfl
  · show Sum.inl (V.2.2.2.1, 5, Sum.inl (va_up st.2.1 c _ 15)) = _
    rw [va_up_ne _ _ hne]
  · show Sum.inl (V.2.1, mln _, Sum.inl (va_up st.2.1 c _ _)) = _
    rw [va_up_ne _ _ hne]
section WM
variable {p : Program} {l : Launch} {e : Env} {R : Room} {s : State} {m : MethodId} {args : Array Value} {below : List Frame} {meth : Method} {c : Code} {H : Heap} {locs : List Loc} {cells slots : Nat} {Q : State → Prop}
variable {pc : Nat} {ls : Array Slot} {rest : List Value} {cc : ByteArray} {nL : Nat} {own : String} {V : Ev} {A : Nat → Prop} {ad : Nat → Nat} {st : St}

theorem gX8_length (X : Cx V A cc nL RX8 p m c s args) (hW : WdM V ad A st H) (hdg : decode cc pc = .ok (.getfield 100, 3)) (kk : W p l e R s m args below meth c H locs cells slots Q (F0 m (pc + 3) ls (.int (st.1 0) :: rest))) : W p l e R s m args below meth c H locs cells slots Q (F0 m pc ls (.ref (ad 0) :: rest)) :=
  va_get (D := V.1) (ci := 8) (C := RX8) (T := TX8) (N := 31) X.hx X.hb X.1.2.2.2.2 inG_X8 X.ho X.hK hW.1 0 (cw_ate (by decide) rfl) rfl 0 (by decide) (X.ts fl_X8_length) (fun _ h => h) rfl hdg kk
theorem pX8_length (X : Cx V A cc nL RX8 p m c s args) (hW : WdM V ad A st H) (hS : va_S A s.heap H locs) {v : Int32} (hdg : decode cc pc = .ok (.putfield 100, 3)) (kk : ∀ (H : Heap) (locs : List Loc), WdM V ad A (sI st 0 v) H → va_S A s.heap H locs → W p l e R s m args below meth c H locs cells slots Q (F0 m (pc + 3) ls rest)) : W p l e R s m args below meth c H locs cells slots Q (F0 m pc ls (.int v :: .ref (ad 0) :: rest)) := by
  obtain ⟨hP, hD⟩ := hW
  have e : (cw ad (mE V ad st) 18).set 0 (ad 0, .inr (8, [.int v, .int (st.1 1), .ref (ad 1), .ref (ad 2), .ref (ad 3), .int (st.1 2), .int (st.1 3), .int (st.1 4), .ref (ad 4), .int (st.1 5), .int (st.1 6), .int (st.1 7), .ref (ad 5), .ref (ad 6), .ref (ad 7), .ref (ad 8), .ref (ad 9), .ref (ad 10), .ref (ad 11), .int (st.1 8), .ref (ad 12), .ref (ad 13), .ref (ad 14), .ref (ad 15), .ref (ad 16), .int (st.1 9), .int (st.1 10), .int (st.1 11), .int (st.1 12), .ref (ad 17), .long (st.2.2.1 0)])) = cw ad (mE V ad (sI st 0 v)) 18 := cw_set (by decide) rfl mE_I
  refine va_put (D := V.1) (ci := 8) (v := .int v) (ty := .int) (C := RX8) (T := TX8) (N := 31) X.hx X.hb X.1.2.2.2.2 inG_X8 tyX8 tyX8_ok nmX8 X.ho X.hK hP hD hS 0 (cw_ate (by decide) rfl) rfl 0 (by decide) (X.ts fl_X8_length) (fun _ h => h) rfl (by decide +kernel) rfl rfl (Nat.le_of_ble_eq_true rfl) hdg (fun H1 locs1 hP hD hS => ?_)
  exact kk H1 locs1 ⟨e ▸ hP, e ▸ hD⟩ hS
theorem gX8_words (X : Cx V A cc nL RX8 p m c s args) (hW : WdM V ad A st H) (hdg : decode cc pc = .ok (.getfield 97, 3)) (kk : W p l e R s m args below meth c H locs cells slots Q (F0 m (pc + 3) ls (.int (st.1 1) :: rest))) : W p l e R s m args below meth c H locs cells slots Q (F0 m pc ls (.ref (ad 0) :: rest)) :=
  va_get (D := V.1) (ci := 8) (C := RX8) (T := TX8) (N := 31) X.hx X.hb X.1.2.2.2.2 inG_X8 X.ho X.hK hW.1 0 (cw_ate (by decide) rfl) rfl 1 (by decide) (X.ts fl_X8_words) (fun _ h => h) rfl hdg kk
theorem pX8_words (X : Cx V A cc nL RX8 p m c s args) (hW : WdM V ad A st H) (hS : va_S A s.heap H locs) {v : Int32} (hdg : decode cc pc = .ok (.putfield 97, 3)) (kk : ∀ (H : Heap) (locs : List Loc), WdM V ad A (sI st 1 v) H → va_S A s.heap H locs → W p l e R s m args below meth c H locs cells slots Q (F0 m (pc + 3) ls rest)) : W p l e R s m args below meth c H locs cells slots Q (F0 m pc ls (.int v :: .ref (ad 0) :: rest)) := by
  obtain ⟨hP, hD⟩ := hW
  have e : (cw ad (mE V ad st) 18).set 0 (ad 0, .inr (8, [.int (st.1 0), .int v, .ref (ad 1), .ref (ad 2), .ref (ad 3), .int (st.1 2), .int (st.1 3), .int (st.1 4), .ref (ad 4), .int (st.1 5), .int (st.1 6), .int (st.1 7), .ref (ad 5), .ref (ad 6), .ref (ad 7), .ref (ad 8), .ref (ad 9), .ref (ad 10), .ref (ad 11), .int (st.1 8), .ref (ad 12), .ref (ad 13), .ref (ad 14), .ref (ad 15), .ref (ad 16), .int (st.1 9), .int (st.1 10), .int (st.1 11), .int (st.1 12), .ref (ad 17), .long (st.2.2.1 0)])) = cw ad (mE V ad (sI st 1 v)) 18 := cw_set (by decide) rfl mE_I
  refine va_put (D := V.1) (ci := 8) (v := .int v) (ty := .int) (C := RX8) (T := TX8) (N := 31) X.hx X.hb X.1.2.2.2.2 inG_X8 tyX8 tyX8_ok nmX8 X.ho X.hK hP hD hS 0 (cw_ate (by decide) rfl) rfl 1 (by decide) (X.ts fl_X8_words) (fun _ h => h) rfl (by decide +kernel) rfl rfl (Nat.le_of_ble_eq_true rfl) hdg (fun H1 locs1 hP hD hS => ?_)
  exact kk H1 locs1 ⟨e ▸ hP, e ▸ hD⟩ hS
theorem gX8_letters (X : Cx V A cc nL RX8 p m c s args) (hW : WdM V ad A st H) (hdg : decode cc pc = .ok (.getfield 7, 3)) (kk : W p l e R s m args below meth c H locs cells slots Q (F0 m (pc + 3) ls (.ref (ad 1) :: rest))) : W p l e R s m args below meth c H locs cells slots Q (F0 m pc ls (.ref (ad 0) :: rest)) :=
  va_get (D := V.1) (ci := 8) (C := RX8) (T := TX8) (N := 31) X.hx X.hb X.1.2.2.2.2 inG_X8 X.ho X.hK hW.1 0 (cw_ate (by decide) rfl) rfl 2 (by decide) (X.ts fl_X8_letters) (fun _ h => h) rfl hdg kk
theorem gX8_weights (X : Cx V A cc nL RX8 p m c s args) (hW : WdM V ad A st H) (hdg : decode cc pc = .ok (.getfield 13, 3)) (kk : W p l e R s m args below meth c H locs cells slots Q (F0 m (pc + 3) ls (.ref (ad 2) :: rest))) : W p l e R s m args below meth c H locs cells slots Q (F0 m pc ls (.ref (ad 0) :: rest)) :=
  va_get (D := V.1) (ci := 8) (C := RX8) (T := TX8) (N := 31) X.hx X.hb X.1.2.2.2.2 inG_X8 X.ho X.hK hW.1 0 (cw_ate (by decide) rfl) rfl 3 (by decide) (X.ts fl_X8_weights) (fun _ h => h) rfl hdg kk
theorem gX8_laid (X : Cx V A cc nL RX8 p m c s args) (hW : WdM V ad A st H) (hdg : decode cc pc = .ok (.getfield 16, 3)) (kk : W p l e R s m args below meth c H locs cells slots Q (F0 m (pc + 3) ls (.ref (ad 3) :: rest))) : W p l e R s m args below meth c H locs cells slots Q (F0 m pc ls (.ref (ad 0) :: rest)) :=
  va_get (D := V.1) (ci := 8) (C := RX8) (T := TX8) (N := 31) X.hx X.hb X.1.2.2.2.2 inG_X8 X.ho X.hK hW.1 0 (cw_ate (by decide) rfl) rfl 4 (by decide) (X.ts fl_X8_laid) (fun _ h => h) rfl hdg kk
theorem gX8_reads (X : Cx V A cc nL RX8 p m c s args) (hW : WdM V ad A st H) (hdg : decode cc pc = .ok (.getfield 121, 3)) (kk : W p l e R s m args below meth c H locs cells slots Q (F0 m (pc + 3) ls (.int (st.1 2) :: rest))) : W p l e R s m args below meth c H locs cells slots Q (F0 m pc ls (.ref (ad 0) :: rest)) :=
  va_get (D := V.1) (ci := 8) (C := RX8) (T := TX8) (N := 31) X.hx X.hb X.1.2.2.2.2 inG_X8 X.ho X.hK hW.1 0 (cw_ate (by decide) rfl) rfl 5 (by decide) (X.ts fl_X8_reads) (fun _ h => h) rfl hdg kk
theorem pX8_reads (X : Cx V A cc nL RX8 p m c s args) (hW : WdM V ad A st H) (hS : va_S A s.heap H locs) {v : Int32} (hdg : decode cc pc = .ok (.putfield 121, 3)) (kk : ∀ (H : Heap) (locs : List Loc), WdM V ad A (sI st 2 v) H → va_S A s.heap H locs → W p l e R s m args below meth c H locs cells slots Q (F0 m (pc + 3) ls rest)) : W p l e R s m args below meth c H locs cells slots Q (F0 m pc ls (.int v :: .ref (ad 0) :: rest)) := by
  obtain ⟨hP, hD⟩ := hW
  have e : (cw ad (mE V ad st) 18).set 0 (ad 0, .inr (8, [.int (st.1 0), .int (st.1 1), .ref (ad 1), .ref (ad 2), .ref (ad 3), .int v, .int (st.1 3), .int (st.1 4), .ref (ad 4), .int (st.1 5), .int (st.1 6), .int (st.1 7), .ref (ad 5), .ref (ad 6), .ref (ad 7), .ref (ad 8), .ref (ad 9), .ref (ad 10), .ref (ad 11), .int (st.1 8), .ref (ad 12), .ref (ad 13), .ref (ad 14), .ref (ad 15), .ref (ad 16), .int (st.1 9), .int (st.1 10), .int (st.1 11), .int (st.1 12), .ref (ad 17), .long (st.2.2.1 0)])) = cw ad (mE V ad (sI st 2 v)) 18 := cw_set (by decide) rfl mE_I
  refine va_put (D := V.1) (ci := 8) (v := .int v) (ty := .int) (C := RX8) (T := TX8) (N := 31) X.hx X.hb X.1.2.2.2.2 inG_X8 tyX8 tyX8_ok nmX8 X.ho X.hK hP hD hS 0 (cw_ate (by decide) rfl) rfl 5 (by decide) (X.ts fl_X8_reads) (fun _ h => h) rfl (by decide +kernel) rfl rfl (Nat.le_of_ble_eq_true rfl) hdg (fun H1 locs1 hP hD hS => ?_)
  exact kk H1 locs1 ⟨e ▸ hP, e ▸ hD⟩ hS
theorem gX8_struck (X : Cx V A cc nL RX8 p m c s args) (hW : WdM V ad A st H) (hdg : decode cc pc = .ok (.getfield 127, 3)) (kk : W p l e R s m args below meth c H locs cells slots Q (F0 m (pc + 3) ls (.int (st.1 3) :: rest))) : W p l e R s m args below meth c H locs cells slots Q (F0 m pc ls (.ref (ad 0) :: rest)) :=
  va_get (D := V.1) (ci := 8) (C := RX8) (T := TX8) (N := 31) X.hx X.hb X.1.2.2.2.2 inG_X8 X.ho X.hK hW.1 0 (cw_ate (by decide) rfl) rfl 6 (by decide) (X.ts fl_X8_struck) (fun _ h => h) rfl hdg kk
theorem pX8_struck (X : Cx V A cc nL RX8 p m c s args) (hW : WdM V ad A st H) (hS : va_S A s.heap H locs) {v : Int32} (hdg : decode cc pc = .ok (.putfield 127, 3)) (kk : ∀ (H : Heap) (locs : List Loc), WdM V ad A (sI st 3 v) H → va_S A s.heap H locs → W p l e R s m args below meth c H locs cells slots Q (F0 m (pc + 3) ls rest)) : W p l e R s m args below meth c H locs cells slots Q (F0 m pc ls (.int v :: .ref (ad 0) :: rest)) := by
  obtain ⟨hP, hD⟩ := hW
  have e : (cw ad (mE V ad st) 18).set 0 (ad 0, .inr (8, [.int (st.1 0), .int (st.1 1), .ref (ad 1), .ref (ad 2), .ref (ad 3), .int (st.1 2), .int v, .int (st.1 4), .ref (ad 4), .int (st.1 5), .int (st.1 6), .int (st.1 7), .ref (ad 5), .ref (ad 6), .ref (ad 7), .ref (ad 8), .ref (ad 9), .ref (ad 10), .ref (ad 11), .int (st.1 8), .ref (ad 12), .ref (ad 13), .ref (ad 14), .ref (ad 15), .ref (ad 16), .int (st.1 9), .int (st.1 10), .int (st.1 11), .int (st.1 12), .ref (ad 17), .long (st.2.2.1 0)])) = cw ad (mE V ad (sI st 3 v)) 18 := cw_set (by decide) rfl mE_I
  refine va_put (D := V.1) (ci := 8) (v := .int v) (ty := .int) (C := RX8) (T := TX8) (N := 31) X.hx X.hb X.1.2.2.2.2 inG_X8 tyX8 tyX8_ok nmX8 X.ho X.hK hP hD hS 0 (cw_ate (by decide) rfl) rfl 6 (by decide) (X.ts fl_X8_struck) (fun _ h => h) rfl (by decide +kernel) rfl rfl (Nat.le_of_ble_eq_true rfl) hdg (fun H1 locs1 hP hD hS => ?_)
  exact kk H1 locs1 ⟨e ▸ hP, e ▸ hD⟩ hS
theorem gX8_pageLength (X : Cx V A cc nL RX8 p m c s args) (hW : WdM V ad A st H) (hdg : decode cc pc = .ok (.getfield 69, 3)) (kk : W p l e R s m args below meth c H locs cells slots Q (F0 m (pc + 3) ls (.int (st.1 4) :: rest))) : W p l e R s m args below meth c H locs cells slots Q (F0 m pc ls (.ref (ad 0) :: rest)) :=
  va_get (D := V.1) (ci := 8) (C := RX8) (T := TX8) (N := 31) X.hx X.hb X.1.2.2.2.2 inG_X8 X.ho X.hK hW.1 0 (cw_ate (by decide) rfl) rfl 7 (by decide) (X.ts fl_X8_pageLength) (fun _ h => h) rfl hdg kk
theorem pX8_pageLength (X : Cx V A cc nL RX8 p m c s args) (hW : WdM V ad A st H) (hS : va_S A s.heap H locs) {v : Int32} (hdg : decode cc pc = .ok (.putfield 69, 3)) (kk : ∀ (H : Heap) (locs : List Loc), WdM V ad A (sI st 4 v) H → va_S A s.heap H locs → W p l e R s m args below meth c H locs cells slots Q (F0 m (pc + 3) ls rest)) : W p l e R s m args below meth c H locs cells slots Q (F0 m pc ls (.int v :: .ref (ad 0) :: rest)) := by
  obtain ⟨hP, hD⟩ := hW
  have e : (cw ad (mE V ad st) 18).set 0 (ad 0, .inr (8, [.int (st.1 0), .int (st.1 1), .ref (ad 1), .ref (ad 2), .ref (ad 3), .int (st.1 2), .int (st.1 3), .int v, .ref (ad 4), .int (st.1 5), .int (st.1 6), .int (st.1 7), .ref (ad 5), .ref (ad 6), .ref (ad 7), .ref (ad 8), .ref (ad 9), .ref (ad 10), .ref (ad 11), .int (st.1 8), .ref (ad 12), .ref (ad 13), .ref (ad 14), .ref (ad 15), .ref (ad 16), .int (st.1 9), .int (st.1 10), .int (st.1 11), .int (st.1 12), .ref (ad 17), .long (st.2.2.1 0)])) = cw ad (mE V ad (sI st 4 v)) 18 := cw_set (by decide) rfl mE_I
  refine va_put (D := V.1) (ci := 8) (v := .int v) (ty := .int) (C := RX8) (T := TX8) (N := 31) X.hx X.hb X.1.2.2.2.2 inG_X8 tyX8 tyX8_ok nmX8 X.ho X.hK hP hD hS 0 (cw_ate (by decide) rfl) rfl 7 (by decide) (X.ts fl_X8_pageLength) (fun _ h => h) rfl (by decide +kernel) rfl rfl (Nat.le_of_ble_eq_true rfl) hdg (fun H1 locs1 hP hD hS => ?_)
  exact kk H1 locs1 ⟨e ▸ hP, e ▸ hD⟩ hS
theorem gX8_page (X : Cx V A cc nL RX8 p m c s args) (hW : WdM V ad A st H) (hdg : decode cc pc = .ok (.getfield 19, 3)) (kk : W p l e R s m args below meth c H locs cells slots Q (F0 m (pc + 3) ls (.ref (ad 4) :: rest))) : W p l e R s m args below meth c H locs cells slots Q (F0 m pc ls (.ref (ad 0) :: rest)) :=
  va_get (D := V.1) (ci := 8) (C := RX8) (T := TX8) (N := 31) X.hx X.hb X.1.2.2.2.2 inG_X8 X.ho X.hK hW.1 0 (cw_ate (by decide) rfl) rfl 8 (by decide) (X.ts fl_X8_page) (fun _ h => h) rfl hdg kk
theorem gX8_newWords (X : Cx V A cc nL RX8 p m c s args) (hW : WdM V ad A st H) (hdg : decode cc pc = .ok (.getfield 73, 3)) (kk : W p l e R s m args below meth c H locs cells slots Q (F0 m (pc + 3) ls (.int (st.1 5) :: rest))) : W p l e R s m args below meth c H locs cells slots Q (F0 m pc ls (.ref (ad 0) :: rest)) :=
  va_get (D := V.1) (ci := 8) (C := RX8) (T := TX8) (N := 31) X.hx X.hb X.1.2.2.2.2 inG_X8 X.ho X.hK hW.1 0 (cw_ate (by decide) rfl) rfl 9 (by decide) (X.ts fl_X8_newWords) (fun _ h => h) rfl hdg kk
theorem pX8_newWords (X : Cx V A cc nL RX8 p m c s args) (hW : WdM V ad A st H) (hS : va_S A s.heap H locs) {v : Int32} (hdg : decode cc pc = .ok (.putfield 73, 3)) (kk : ∀ (H : Heap) (locs : List Loc), WdM V ad A (sI st 5 v) H → va_S A s.heap H locs → W p l e R s m args below meth c H locs cells slots Q (F0 m (pc + 3) ls rest)) : W p l e R s m args below meth c H locs cells slots Q (F0 m pc ls (.int v :: .ref (ad 0) :: rest)) := by
  obtain ⟨hP, hD⟩ := hW
  have e : (cw ad (mE V ad st) 18).set 0 (ad 0, .inr (8, [.int (st.1 0), .int (st.1 1), .ref (ad 1), .ref (ad 2), .ref (ad 3), .int (st.1 2), .int (st.1 3), .int (st.1 4), .ref (ad 4), .int v, .int (st.1 6), .int (st.1 7), .ref (ad 5), .ref (ad 6), .ref (ad 7), .ref (ad 8), .ref (ad 9), .ref (ad 10), .ref (ad 11), .int (st.1 8), .ref (ad 12), .ref (ad 13), .ref (ad 14), .ref (ad 15), .ref (ad 16), .int (st.1 9), .int (st.1 10), .int (st.1 11), .int (st.1 12), .ref (ad 17), .long (st.2.2.1 0)])) = cw ad (mE V ad (sI st 5 v)) 18 := cw_set (by decide) rfl mE_I
  refine va_put (D := V.1) (ci := 8) (v := .int v) (ty := .int) (C := RX8) (T := TX8) (N := 31) X.hx X.hb X.1.2.2.2.2 inG_X8 tyX8 tyX8_ok nmX8 X.ho X.hK hP hD hS 0 (cw_ate (by decide) rfl) rfl 9 (by decide) (X.ts fl_X8_newWords) (fun _ h => h) rfl (by decide +kernel) rfl rfl (Nat.le_of_ble_eq_true rfl) hdg (fun H1 locs1 hP hD hS => ?_)
  exact kk H1 locs1 ⟨e ▸ hP, e ▸ hD⟩ hS
theorem gX8_newAt (X : Cx V A cc nL RX8 p m c s args) (hW : WdM V ad A st H) (hdg : decode cc pc = .ok (.getfield 79, 3)) (kk : W p l e R s m args below meth c H locs cells slots Q (F0 m (pc + 3) ls (.int (st.1 6) :: rest))) : W p l e R s m args below meth c H locs cells slots Q (F0 m pc ls (.ref (ad 0) :: rest)) :=
  va_get (D := V.1) (ci := 8) (C := RX8) (T := TX8) (N := 31) X.hx X.hb X.1.2.2.2.2 inG_X8 X.ho X.hK hW.1 0 (cw_ate (by decide) rfl) rfl 10 (by decide) (X.ts fl_X8_newAt) (fun _ h => h) rfl hdg kk
theorem pX8_newAt (X : Cx V A cc nL RX8 p m c s args) (hW : WdM V ad A st H) (hS : va_S A s.heap H locs) {v : Int32} (hdg : decode cc pc = .ok (.putfield 79, 3)) (kk : ∀ (H : Heap) (locs : List Loc), WdM V ad A (sI st 6 v) H → va_S A s.heap H locs → W p l e R s m args below meth c H locs cells slots Q (F0 m (pc + 3) ls rest)) : W p l e R s m args below meth c H locs cells slots Q (F0 m pc ls (.int v :: .ref (ad 0) :: rest)) := by
  obtain ⟨hP, hD⟩ := hW
  have e : (cw ad (mE V ad st) 18).set 0 (ad 0, .inr (8, [.int (st.1 0), .int (st.1 1), .ref (ad 1), .ref (ad 2), .ref (ad 3), .int (st.1 2), .int (st.1 3), .int (st.1 4), .ref (ad 4), .int (st.1 5), .int v, .int (st.1 7), .ref (ad 5), .ref (ad 6), .ref (ad 7), .ref (ad 8), .ref (ad 9), .ref (ad 10), .ref (ad 11), .int (st.1 8), .ref (ad 12), .ref (ad 13), .ref (ad 14), .ref (ad 15), .ref (ad 16), .int (st.1 9), .int (st.1 10), .int (st.1 11), .int (st.1 12), .ref (ad 17), .long (st.2.2.1 0)])) = cw ad (mE V ad (sI st 6 v)) 18 := cw_set (by decide) rfl mE_I
  refine va_put (D := V.1) (ci := 8) (v := .int v) (ty := .int) (C := RX8) (T := TX8) (N := 31) X.hx X.hb X.1.2.2.2.2 inG_X8 tyX8 tyX8_ok nmX8 X.ho X.hK hP hD hS 0 (cw_ate (by decide) rfl) rfl 10 (by decide) (X.ts fl_X8_newAt) (fun _ h => h) rfl (by decide +kernel) rfl rfl (Nat.le_of_ble_eq_true rfl) hdg (fun H1 locs1 hP hD hS => ?_)
  exact kk H1 locs1 ⟨e ▸ hP, e ▸ hD⟩ hS
theorem gX8_newLength (X : Cx V A cc nL RX8 p m c s args) (hW : WdM V ad A st H) (hdg : decode cc pc = .ok (.getfield 76, 3)) (kk : W p l e R s m args below meth c H locs cells slots Q (F0 m (pc + 3) ls (.int (st.1 7) :: rest))) : W p l e R s m args below meth c H locs cells slots Q (F0 m pc ls (.ref (ad 0) :: rest)) :=
  va_get (D := V.1) (ci := 8) (C := RX8) (T := TX8) (N := 31) X.hx X.hb X.1.2.2.2.2 inG_X8 X.ho X.hK hW.1 0 (cw_ate (by decide) rfl) rfl 11 (by decide) (X.ts fl_X8_newLength) (fun _ h => h) rfl hdg kk
theorem pX8_newLength (X : Cx V A cc nL RX8 p m c s args) (hW : WdM V ad A st H) (hS : va_S A s.heap H locs) {v : Int32} (hdg : decode cc pc = .ok (.putfield 76, 3)) (kk : ∀ (H : Heap) (locs : List Loc), WdM V ad A (sI st 7 v) H → va_S A s.heap H locs → W p l e R s m args below meth c H locs cells slots Q (F0 m (pc + 3) ls rest)) : W p l e R s m args below meth c H locs cells slots Q (F0 m pc ls (.int v :: .ref (ad 0) :: rest)) := by
  obtain ⟨hP, hD⟩ := hW
  have e : (cw ad (mE V ad st) 18).set 0 (ad 0, .inr (8, [.int (st.1 0), .int (st.1 1), .ref (ad 1), .ref (ad 2), .ref (ad 3), .int (st.1 2), .int (st.1 3), .int (st.1 4), .ref (ad 4), .int (st.1 5), .int (st.1 6), .int v, .ref (ad 5), .ref (ad 6), .ref (ad 7), .ref (ad 8), .ref (ad 9), .ref (ad 10), .ref (ad 11), .int (st.1 8), .ref (ad 12), .ref (ad 13), .ref (ad 14), .ref (ad 15), .ref (ad 16), .int (st.1 9), .int (st.1 10), .int (st.1 11), .int (st.1 12), .ref (ad 17), .long (st.2.2.1 0)])) = cw ad (mE V ad (sI st 7 v)) 18 := cw_set (by decide) rfl mE_I
  refine va_put (D := V.1) (ci := 8) (v := .int v) (ty := .int) (C := RX8) (T := TX8) (N := 31) X.hx X.hb X.1.2.2.2.2 inG_X8 tyX8 tyX8_ok nmX8 X.ho X.hK hP hD hS 0 (cw_ate (by decide) rfl) rfl 11 (by decide) (X.ts fl_X8_newLength) (fun _ h => h) rfl (by decide +kernel) rfl rfl (Nat.le_of_ble_eq_true rfl) hdg (fun H1 locs1 hP hD hS => ?_)
  exact kk H1 locs1 ⟨e ▸ hP, e ▸ hD⟩ hS
theorem gX8_newLetters (X : Cx V A cc nL RX8 p m c s args) (hW : WdM V ad A st H) (hdg : decode cc pc = .ok (.getfield 22, 3)) (kk : W p l e R s m args below meth c H locs cells slots Q (F0 m (pc + 3) ls (.ref (ad 5) :: rest))) : W p l e R s m args below meth c H locs cells slots Q (F0 m pc ls (.ref (ad 0) :: rest)) :=
  va_get (D := V.1) (ci := 8) (C := RX8) (T := TX8) (N := 31) X.hx X.hb X.1.2.2.2.2 inG_X8 X.ho X.hK hW.1 0 (cw_ate (by decide) rfl) rfl 12 (by decide) (X.ts fl_X8_newLetters) (fun _ h => h) rfl hdg kk
theorem gX8_rowWord (X : Cx V A cc nL RX8 p m c s args) (hW : WdM V ad A st H) (hdg : decode cc pc = .ok (.getfield 25, 3)) (kk : W p l e R s m args below meth c H locs cells slots Q (F0 m (pc + 3) ls (.ref (ad 6) :: rest))) : W p l e R s m args below meth c H locs cells slots Q (F0 m pc ls (.ref (ad 0) :: rest)) :=
  va_get (D := V.1) (ci := 8) (C := RX8) (T := TX8) (N := 31) X.hx X.hb X.1.2.2.2.2 inG_X8 X.ho X.hK hW.1 0 (cw_ate (by decide) rfl) rfl 13 (by decide) (X.ts fl_X8_rowWord) (fun _ h => h) rfl hdg kk
theorem gX8_columnWord (X : Cx V A cc nL RX8 p m c s args) (hW : WdM V ad A st H) (hdg : decode cc pc = .ok (.getfield 28, 3)) (kk : W p l e R s m args below meth c H locs cells slots Q (F0 m (pc + 3) ls (.ref (ad 7) :: rest))) : W p l e R s m args below meth c H locs cells slots Q (F0 m pc ls (.ref (ad 0) :: rest)) :=
  va_get (D := V.1) (ci := 8) (C := RX8) (T := TX8) (N := 31) X.hx X.hb X.1.2.2.2.2 inG_X8 X.ho X.hK hW.1 0 (cw_ate (by decide) rfl) rfl 14 (by decide) (X.ts fl_X8_columnWord) (fun _ h => h) rfl hdg kk
theorem gX8_sought (X : Cx V A cc nL RX8 p m c s args) (hW : WdM V ad A st H) (hdg : decode cc pc = .ok (.getfield 31, 3)) (kk : W p l e R s m args below meth c H locs cells slots Q (F0 m (pc + 3) ls (.ref (ad 8) :: rest))) : W p l e R s m args below meth c H locs cells slots Q (F0 m pc ls (.ref (ad 0) :: rest)) :=
  va_get (D := V.1) (ci := 8) (C := RX8) (T := TX8) (N := 31) X.hx X.hb X.1.2.2.2.2 inG_X8 X.ho X.hK hW.1 0 (cw_ate (by decide) rfl) rfl 15 (by decide) (X.ts fl_X8_sought) (fun _ h => h) rfl hdg kk
theorem gX8_inRows (X : Cx V A cc nL RX8 p m c s args) (hW : WdM V ad A st H) (hdg : decode cc pc = .ok (.getfield 34, 3)) (kk : W p l e R s m args below meth c H locs cells slots Q (F0 m (pc + 3) ls (.ref (ad 9) :: rest))) : W p l e R s m args below meth c H locs cells slots Q (F0 m pc ls (.ref (ad 0) :: rest)) :=
  va_get (D := V.1) (ci := 8) (C := RX8) (T := TX8) (N := 31) X.hx X.hb X.1.2.2.2.2 inG_X8 X.ho X.hK hW.1 0 (cw_ate (by decide) rfl) rfl 16 (by decide) (X.ts fl_X8_inRows) (fun _ h => h) rfl hdg kk
theorem gX8_inColumns (X : Cx V A cc nL RX8 p m c s args) (hW : WdM V ad A st H) (hdg : decode cc pc = .ok (.getfield 37, 3)) (kk : W p l e R s m args below meth c H locs cells slots Q (F0 m (pc + 3) ls (.ref (ad 10) :: rest))) : W p l e R s m args below meth c H locs cells slots Q (F0 m pc ls (.ref (ad 0) :: rest)) :=
  va_get (D := V.1) (ci := 8) (C := RX8) (T := TX8) (N := 31) X.hx X.hb X.1.2.2.2.2 inG_X8 X.ho X.hK hW.1 0 (cw_ate (by decide) rfl) rfl 17 (by decide) (X.ts fl_X8_inColumns) (fun _ h => h) rfl hdg kk
theorem gX8_inSame (X : Cx V A cc nL RX8 p m c s args) (hW : WdM V ad A st H) (hdg : decode cc pc = .ok (.getfield 40, 3)) (kk : W p l e R s m args below meth c H locs cells slots Q (F0 m (pc + 3) ls (.ref (ad 11) :: rest))) : W p l e R s m args below meth c H locs cells slots Q (F0 m pc ls (.ref (ad 0) :: rest)) :=
  va_get (D := V.1) (ci := 8) (C := RX8) (T := TX8) (N := 31) X.hx X.hb X.1.2.2.2.2 inG_X8 X.ho X.hK hW.1 0 (cw_ate (by decide) rfl) rfl 18 (by decide) (X.ts fl_X8_inSame) (fun _ h => h) rfl hdg kk
theorem gX8_fitting (X : Cx V A cc nL RX8 p m c s args) (hW : WdM V ad A st H) (hdg : decode cc pc = .ok (.getfield 210, 3)) (kk : W p l e R s m args below meth c H locs cells slots Q (F0 m (pc + 3) ls (.int (st.1 8) :: rest))) : W p l e R s m args below meth c H locs cells slots Q (F0 m pc ls (.ref (ad 0) :: rest)) :=
  va_get (D := V.1) (ci := 8) (C := RX8) (T := TX8) (N := 31) X.hx X.hb X.1.2.2.2.2 inG_X8 X.ho X.hK hW.1 0 (cw_ate (by decide) rfl) rfl 19 (by decide) (X.ts fl_X8_fitting) (fun _ h => h) rfl hdg kk
theorem pX8_fitting (X : Cx V A cc nL RX8 p m c s args) (hW : WdM V ad A st H) (hS : va_S A s.heap H locs) {v : Int32} (hdg : decode cc pc = .ok (.putfield 210, 3)) (kk : ∀ (H : Heap) (locs : List Loc), WdM V ad A (sI st 8 v) H → va_S A s.heap H locs → W p l e R s m args below meth c H locs cells slots Q (F0 m (pc + 3) ls rest)) : W p l e R s m args below meth c H locs cells slots Q (F0 m pc ls (.int v :: .ref (ad 0) :: rest)) := by
  obtain ⟨hP, hD⟩ := hW
  have e : (cw ad (mE V ad st) 18).set 0 (ad 0, .inr (8, [.int (st.1 0), .int (st.1 1), .ref (ad 1), .ref (ad 2), .ref (ad 3), .int (st.1 2), .int (st.1 3), .int (st.1 4), .ref (ad 4), .int (st.1 5), .int (st.1 6), .int (st.1 7), .ref (ad 5), .ref (ad 6), .ref (ad 7), .ref (ad 8), .ref (ad 9), .ref (ad 10), .ref (ad 11), .int v, .ref (ad 12), .ref (ad 13), .ref (ad 14), .ref (ad 15), .ref (ad 16), .int (st.1 9), .int (st.1 10), .int (st.1 11), .int (st.1 12), .ref (ad 17), .long (st.2.2.1 0)])) = cw ad (mE V ad (sI st 8 v)) 18 := cw_set (by decide) rfl mE_I
  refine va_put (D := V.1) (ci := 8) (v := .int v) (ty := .int) (C := RX8) (T := TX8) (N := 31) X.hx X.hb X.1.2.2.2.2 inG_X8 tyX8 tyX8_ok nmX8 X.ho X.hK hP hD hS 0 (cw_ate (by decide) rfl) rfl 19 (by decide) (X.ts fl_X8_fitting) (fun _ h => h) rfl (by decide +kernel) rfl rfl (Nat.le_of_ble_eq_true rfl) hdg (fun H1 locs1 hP hD hS => ?_)
  exact kk H1 locs1 ⟨e ▸ hP, e ▸ hD⟩ hS
theorem gX8_mayBe (X : Cx V A cc nL RX8 p m c s args) (hW : WdM V ad A st H) (hdg : decode cc pc = .ok (.getfield 43, 3)) (kk : W p l e R s m args below meth c H locs cells slots Q (F0 m (pc + 3) ls (.ref (ad 12) :: rest))) : W p l e R s m args below meth c H locs cells slots Q (F0 m pc ls (.ref (ad 0) :: rest)) :=
  va_get (D := V.1) (ci := 8) (C := RX8) (T := TX8) (N := 31) X.hx X.hb X.1.2.2.2.2 inG_X8 X.ho X.hK hW.1 0 (cw_ate (by decide) rfl) rfl 20 (by decide) (X.ts fl_X8_mayBe) (fun _ h => h) rfl hdg kk
theorem gX8_sureOf (X : Cx V A cc nL RX8 p m c s args) (hW : WdM V ad A st H) (hdg : decode cc pc = .ok (.getfield 46, 3)) (kk : W p l e R s m args below meth c H locs cells slots Q (F0 m (pc + 3) ls (.ref (ad 13) :: rest))) : W p l e R s m args below meth c H locs cells slots Q (F0 m pc ls (.ref (ad 0) :: rest)) :=
  va_get (D := V.1) (ci := 8) (C := RX8) (T := TX8) (N := 31) X.hx X.hb X.1.2.2.2.2 inG_X8 X.ho X.hK hW.1 0 (cw_ate (by decide) rfl) rfl 21 (by decide) (X.ts fl_X8_sureOf) (fun _ h => h) rfl hdg kk
theorem gX8_tried (X : Cx V A cc nL RX8 p m c s args) (hW : WdM V ad A st H) (hdg : decode cc pc = .ok (.getfield 49, 3)) (kk : W p l e R s m args below meth c H locs cells slots Q (F0 m (pc + 3) ls (.ref (ad 14) :: rest))) : W p l e R s m args below meth c H locs cells slots Q (F0 m pc ls (.ref (ad 0) :: rest)) :=
  va_get (D := V.1) (ci := 8) (C := RX8) (T := TX8) (N := 31) X.hx X.hb X.1.2.2.2.2 inG_X8 X.ho X.hK hW.1 0 (cw_ate (by decide) rfl) rfl 22 (by decide) (X.ts fl_X8_tried) (fun _ h => h) rfl hdg kk
theorem gX8_isLed (X : Cx V A cc nL RX8 p m c s args) (hW : WdM V ad A st H) (hdg : decode cc pc = .ok (.getfield 52, 3)) (kk : W p l e R s m args below meth c H locs cells slots Q (F0 m (pc + 3) ls (.ref (ad 15) :: rest))) : W p l e R s m args below meth c H locs cells slots Q (F0 m pc ls (.ref (ad 0) :: rest)) :=
  va_get (D := V.1) (ci := 8) (C := RX8) (T := TX8) (N := 31) X.hx X.hb X.1.2.2.2.2 inG_X8 X.ho X.hK hW.1 0 (cw_ate (by decide) rfl) rfl 23 (by decide) (X.ts fl_X8_isLed) (fun _ h => h) rfl hdg kk
theorem gX8_columnBy (X : Cx V A cc nL RX8 p m c s args) (hW : WdM V ad A st H) (hdg : decode cc pc = .ok (.getfield 56, 3)) (kk : W p l e R s m args below meth c H locs cells slots Q (F0 m (pc + 3) ls (.ref (ad 16) :: rest))) : W p l e R s m args below meth c H locs cells slots Q (F0 m pc ls (.ref (ad 0) :: rest)) :=
  va_get (D := V.1) (ci := 8) (C := RX8) (T := TX8) (N := 31) X.hx X.hb X.1.2.2.2.2 inG_X8 X.ho X.hK hW.1 0 (cw_ate (by decide) rfl) rfl 24 (by decide) (X.ts fl_X8_columnBy) (fun _ h => h) rfl hdg kk
theorem gX8_visited (X : Cx V A cc nL RX8 p m c s args) (hW : WdM V ad A st H) (hdg : decode cc pc = .ok (.getfield 258, 3)) (kk : W p l e R s m args below meth c H locs cells slots Q (F0 m (pc + 3) ls (.int (st.1 9) :: rest))) : W p l e R s m args below meth c H locs cells slots Q (F0 m pc ls (.ref (ad 0) :: rest)) :=
  va_get (D := V.1) (ci := 8) (C := RX8) (T := TX8) (N := 31) X.hx X.hb X.1.2.2.2.2 inG_X8 X.ho X.hK hW.1 0 (cw_ate (by decide) rfl) rfl 25 (by decide) (X.ts fl_X8_visited) (fun _ h => h) rfl hdg kk
theorem pX8_visited (X : Cx V A cc nL RX8 p m c s args) (hW : WdM V ad A st H) (hS : va_S A s.heap H locs) {v : Int32} (hdg : decode cc pc = .ok (.putfield 258, 3)) (kk : ∀ (H : Heap) (locs : List Loc), WdM V ad A (sI st 9 v) H → va_S A s.heap H locs → W p l e R s m args below meth c H locs cells slots Q (F0 m (pc + 3) ls rest)) : W p l e R s m args below meth c H locs cells slots Q (F0 m pc ls (.int v :: .ref (ad 0) :: rest)) := by
  obtain ⟨hP, hD⟩ := hW
  have e : (cw ad (mE V ad st) 18).set 0 (ad 0, .inr (8, [.int (st.1 0), .int (st.1 1), .ref (ad 1), .ref (ad 2), .ref (ad 3), .int (st.1 2), .int (st.1 3), .int (st.1 4), .ref (ad 4), .int (st.1 5), .int (st.1 6), .int (st.1 7), .ref (ad 5), .ref (ad 6), .ref (ad 7), .ref (ad 8), .ref (ad 9), .ref (ad 10), .ref (ad 11), .int (st.1 8), .ref (ad 12), .ref (ad 13), .ref (ad 14), .ref (ad 15), .ref (ad 16), .int v, .int (st.1 10), .int (st.1 11), .int (st.1 12), .ref (ad 17), .long (st.2.2.1 0)])) = cw ad (mE V ad (sI st 9 v)) 18 := cw_set (by decide) rfl mE_I
  refine va_put (D := V.1) (ci := 8) (v := .int v) (ty := .int) (C := RX8) (T := TX8) (N := 31) X.hx X.hb X.1.2.2.2.2 inG_X8 tyX8 tyX8_ok nmX8 X.ho X.hK hP hD hS 0 (cw_ate (by decide) rfl) rfl 25 (by decide) (X.ts fl_X8_visited) (fun _ h => h) rfl (by decide +kernel) rfl rfl (Nat.le_of_ble_eq_true rfl) hdg (fun H1 locs1 hP hD hS => ?_)
  exact kk H1 locs1 ⟨e ▸ hP, e ▸ hD⟩ hS
theorem gX8_dead (X : Cx V A cc nL RX8 p m c s args) (hW : WdM V ad A st H) (hdg : decode cc pc = .ok (.getfield 246, 3)) (kk : W p l e R s m args below meth c H locs cells slots Q (F0 m (pc + 3) ls (.int (st.1 10) :: rest))) : W p l e R s m args below meth c H locs cells slots Q (F0 m pc ls (.ref (ad 0) :: rest)) :=
  va_get (D := V.1) (ci := 8) (C := RX8) (T := TX8) (N := 31) X.hx X.hb X.1.2.2.2.2 inG_X8 X.ho X.hK hW.1 0 (cw_ate (by decide) rfl) rfl 26 (by decide) (X.ts fl_X8_dead) (fun _ h => h) rfl hdg kk
theorem pX8_dead (X : Cx V A cc nL RX8 p m c s args) (hW : WdM V ad A st H) (hS : va_S A s.heap H locs) {v : Int32} (hdg : decode cc pc = .ok (.putfield 246, 3)) (kk : ∀ (H : Heap) (locs : List Loc), WdM V ad A (sI st 10 v) H → va_S A s.heap H locs → W p l e R s m args below meth c H locs cells slots Q (F0 m (pc + 3) ls rest)) : W p l e R s m args below meth c H locs cells slots Q (F0 m pc ls (.int v :: .ref (ad 0) :: rest)) := by
  obtain ⟨hP, hD⟩ := hW
  have e : (cw ad (mE V ad st) 18).set 0 (ad 0, .inr (8, [.int (st.1 0), .int (st.1 1), .ref (ad 1), .ref (ad 2), .ref (ad 3), .int (st.1 2), .int (st.1 3), .int (st.1 4), .ref (ad 4), .int (st.1 5), .int (st.1 6), .int (st.1 7), .ref (ad 5), .ref (ad 6), .ref (ad 7), .ref (ad 8), .ref (ad 9), .ref (ad 10), .ref (ad 11), .int (st.1 8), .ref (ad 12), .ref (ad 13), .ref (ad 14), .ref (ad 15), .ref (ad 16), .int (st.1 9), .int v, .int (st.1 11), .int (st.1 12), .ref (ad 17), .long (st.2.2.1 0)])) = cw ad (mE V ad (sI st 10 v)) 18 := cw_set (by decide) rfl mE_I
  refine va_put (D := V.1) (ci := 8) (v := .int v) (ty := .int) (C := RX8) (T := TX8) (N := 31) X.hx X.hb X.1.2.2.2.2 inG_X8 tyX8 tyX8_ok nmX8 X.ho X.hK hP hD hS 0 (cw_ate (by decide) rfl) rfl 26 (by decide) (X.ts fl_X8_dead) (fun _ h => h) rfl (by decide +kernel) rfl rfl (Nat.le_of_ble_eq_true rfl) hdg (fun H1 locs1 hP hD hS => ?_)
  exact kk H1 locs1 ⟨e ▸ hP, e ▸ hD⟩ hS
theorem gX8_cuts (X : Cx V A cc nL RX8 p m c s args) (hW : WdM V ad A st H) (hdg : decode cc pc = .ok (.getfield 261, 3)) (kk : W p l e R s m args below meth c H locs cells slots Q (F0 m (pc + 3) ls (.int (st.1 11) :: rest))) : W p l e R s m args below meth c H locs cells slots Q (F0 m pc ls (.ref (ad 0) :: rest)) :=
  va_get (D := V.1) (ci := 8) (C := RX8) (T := TX8) (N := 31) X.hx X.hb X.1.2.2.2.2 inG_X8 X.ho X.hK hW.1 0 (cw_ate (by decide) rfl) rfl 27 (by decide) (X.ts fl_X8_cuts) (fun _ h => h) rfl hdg kk
theorem pX8_cuts (X : Cx V A cc nL RX8 p m c s args) (hW : WdM V ad A st H) (hS : va_S A s.heap H locs) {v : Int32} (hdg : decode cc pc = .ok (.putfield 261, 3)) (kk : ∀ (H : Heap) (locs : List Loc), WdM V ad A (sI st 11 v) H → va_S A s.heap H locs → W p l e R s m args below meth c H locs cells slots Q (F0 m (pc + 3) ls rest)) : W p l e R s m args below meth c H locs cells slots Q (F0 m pc ls (.int v :: .ref (ad 0) :: rest)) := by
  obtain ⟨hP, hD⟩ := hW
  have e : (cw ad (mE V ad st) 18).set 0 (ad 0, .inr (8, [.int (st.1 0), .int (st.1 1), .ref (ad 1), .ref (ad 2), .ref (ad 3), .int (st.1 2), .int (st.1 3), .int (st.1 4), .ref (ad 4), .int (st.1 5), .int (st.1 6), .int (st.1 7), .ref (ad 5), .ref (ad 6), .ref (ad 7), .ref (ad 8), .ref (ad 9), .ref (ad 10), .ref (ad 11), .int (st.1 8), .ref (ad 12), .ref (ad 13), .ref (ad 14), .ref (ad 15), .ref (ad 16), .int (st.1 9), .int (st.1 10), .int v, .int (st.1 12), .ref (ad 17), .long (st.2.2.1 0)])) = cw ad (mE V ad (sI st 11 v)) 18 := cw_set (by decide) rfl mE_I
  refine va_put (D := V.1) (ci := 8) (v := .int v) (ty := .int) (C := RX8) (T := TX8) (N := 31) X.hx X.hb X.1.2.2.2.2 inG_X8 tyX8 tyX8_ok nmX8 X.ho X.hK hP hD hS 0 (cw_ate (by decide) rfl) rfl 27 (by decide) (X.ts fl_X8_cuts) (fun _ h => h) rfl (by decide +kernel) rfl rfl (Nat.le_of_ble_eq_true rfl) hdg (fun H1 locs1 hP hD hS => ?_)
  exact kk H1 locs1 ⟨e ▸ hP, e ▸ hD⟩ hS
theorem gX8_keptMany (X : Cx V A cc nL RX8 p m c s args) (hW : WdM V ad A st H) (hdg : decode cc pc = .ok (.getfield 243, 3)) (kk : W p l e R s m args below meth c H locs cells slots Q (F0 m (pc + 3) ls (.int (st.1 12) :: rest))) : W p l e R s m args below meth c H locs cells slots Q (F0 m pc ls (.ref (ad 0) :: rest)) :=
  va_get (D := V.1) (ci := 8) (C := RX8) (T := TX8) (N := 31) X.hx X.hb X.1.2.2.2.2 inG_X8 X.ho X.hK hW.1 0 (cw_ate (by decide) rfl) rfl 28 (by decide) (X.ts fl_X8_keptMany) (fun _ h => h) rfl hdg kk
theorem pX8_keptMany (X : Cx V A cc nL RX8 p m c s args) (hW : WdM V ad A st H) (hS : va_S A s.heap H locs) {v : Int32} (hdg : decode cc pc = .ok (.putfield 243, 3)) (kk : ∀ (H : Heap) (locs : List Loc), WdM V ad A (sI st 12 v) H → va_S A s.heap H locs → W p l e R s m args below meth c H locs cells slots Q (F0 m (pc + 3) ls rest)) : W p l e R s m args below meth c H locs cells slots Q (F0 m pc ls (.int v :: .ref (ad 0) :: rest)) := by
  obtain ⟨hP, hD⟩ := hW
  have e : (cw ad (mE V ad st) 18).set 0 (ad 0, .inr (8, [.int (st.1 0), .int (st.1 1), .ref (ad 1), .ref (ad 2), .ref (ad 3), .int (st.1 2), .int (st.1 3), .int (st.1 4), .ref (ad 4), .int (st.1 5), .int (st.1 6), .int (st.1 7), .ref (ad 5), .ref (ad 6), .ref (ad 7), .ref (ad 8), .ref (ad 9), .ref (ad 10), .ref (ad 11), .int (st.1 8), .ref (ad 12), .ref (ad 13), .ref (ad 14), .ref (ad 15), .ref (ad 16), .int (st.1 9), .int (st.1 10), .int (st.1 11), .int v, .ref (ad 17), .long (st.2.2.1 0)])) = cw ad (mE V ad (sI st 12 v)) 18 := cw_set (by decide) rfl mE_I
  refine va_put (D := V.1) (ci := 8) (v := .int v) (ty := .int) (C := RX8) (T := TX8) (N := 31) X.hx X.hb X.1.2.2.2.2 inG_X8 tyX8 tyX8_ok nmX8 X.ho X.hK hP hD hS 0 (cw_ate (by decide) rfl) rfl 28 (by decide) (X.ts fl_X8_keptMany) (fun _ h => h) rfl (by decide +kernel) rfl rfl (Nat.le_of_ble_eq_true rfl) hdg (fun H1 locs1 hP hD hS => ?_)
  exact kk H1 locs1 ⟨e ▸ hP, e ▸ hD⟩ hS
theorem gX8_kept (X : Cx V A cc nL RX8 p m c s args) (hW : WdM V ad A st H) (hdg : decode cc pc = .ok (.getfield 59, 3)) (kk : W p l e R s m args below meth c H locs cells slots Q (F0 m (pc + 3) ls (.ref (ad 17) :: rest))) : W p l e R s m args below meth c H locs cells slots Q (F0 m pc ls (.ref (ad 0) :: rest)) :=
  va_get (D := V.1) (ci := 8) (C := RX8) (T := TX8) (N := 31) X.hx X.hb X.1.2.2.2.2 inG_X8 X.ho X.hK hW.1 0 (cw_ate (by decide) rfl) rfl 29 (by decide) (X.ts fl_X8_kept) (fun _ h => h) rfl hdg kk
theorem gX8_h (X : Cx V A cc nL RX8 p m c s args) (hW : WdM V ad A st H) (hdg : decode cc pc = .ok (.getfield 287, 3)) (kk : W p l e R s m args below meth c H locs cells slots Q (F0 m (pc + 3) ls (.long (st.2.2.1 0) :: rest))) : W p l e R s m args below meth c H locs cells slots Q (F0 m pc ls (.ref (ad 0) :: rest)) :=
  va_get (D := V.1) (ci := 8) (C := RX8) (T := TX8) (N := 31) X.hx X.hb X.1.2.2.2.2 inG_X8 X.ho X.hK hW.1 0 (cw_ate (by decide) rfl) rfl 30 (by decide) (X.ts fl_X8_h) (fun _ h => h) rfl hdg kk
theorem pX8_h (X : Cx V A cc nL RX8 p m c s args) (hW : WdM V ad A st H) (hS : va_S A s.heap H locs) {v : Int64} (hdg : decode cc pc = .ok (.putfield 287, 3)) (kk : ∀ (H : Heap) (locs : List Loc), WdM V ad A (sJ st 0 v) H → va_S A s.heap H locs → W p l e R s m args below meth c H locs cells slots Q (F0 m (pc + 3) ls rest)) : W p l e R s m args below meth c H locs cells slots Q (F0 m pc ls (.long v :: .ref (ad 0) :: rest)) := by
  obtain ⟨hP, hD⟩ := hW
  have e : (cw ad (mE V ad st) 18).set 0 (ad 0, .inr (8, [.int (st.1 0), .int (st.1 1), .ref (ad 1), .ref (ad 2), .ref (ad 3), .int (st.1 2), .int (st.1 3), .int (st.1 4), .ref (ad 4), .int (st.1 5), .int (st.1 6), .int (st.1 7), .ref (ad 5), .ref (ad 6), .ref (ad 7), .ref (ad 8), .ref (ad 9), .ref (ad 10), .ref (ad 11), .int (st.1 8), .ref (ad 12), .ref (ad 13), .ref (ad 14), .ref (ad 15), .ref (ad 16), .int (st.1 9), .int (st.1 10), .int (st.1 11), .int (st.1 12), .ref (ad 17), .long v])) = cw ad (mE V ad (sJ st 0 v)) 18 := cw_set (by decide) rfl mE_J
  refine va_put (D := V.1) (ci := 8) (v := .long v) (ty := .long) (C := RX8) (T := TX8) (N := 31) X.hx X.hb X.1.2.2.2.2 inG_X8 tyX8 tyX8_ok nmX8 X.ho X.hK hP hD hS 0 (cw_ate (by decide) rfl) rfl 30 (by decide) (X.ts fl_X8_h) (fun _ h => h) rfl (by decide +kernel) rfl rfl (Nat.le_of_ble_eq_true rfl) hdg (fun H1 locs1 hP hD hS => ?_)
  exact kk H1 locs1 ⟨e ▸ hP, e ▸ hD⟩ hS
theorem rcX8 (X : Cx V A cc nL own p m c s args) (hW : WdM V ad A st H) : Rcv s H RX8 (ad 0) := va_recv X.hK hW.1 (ci := 8) (q := (RX8, TX8, 31)) (q0 := 0) rfl (cw_ate (by decide) rfl)
theorem aM_ld (X : Cx V A cc nL own p m c s args) (hW : WdM V ad A st H) {q n : Nat} (hq : isM q) (hn : mln q = n) {i : Int32} (hin : inb i n = true) (hdg : decode cc pc = .ok (.iaload, 1)) (kk : W p l e R s m args below meth c H locs cells slots Q (F0 m (pc + 1) ls (.int (st.2.1 q i.toNatClampNeg) :: rest))) : W p l e R s m args below meth c H locs cells slots Q (F0 m pc ls (.int i :: .ref (ad q) :: rest)) :=
  va_iald X.hx X.hb X.hK hW.1 q 0 (cw_ate hq.2.1 (mE_row hq)) rfl (inb_in (by rw [hn]; exact hin)) hdg kk
theorem aM_st (X : Cx V A cc nL own p m c s args) (hW : WdM V ad A st H) (hS : va_S A s.heap H locs) {q n : Nat} (hq : isM q) (hn : mln q = n) {i v : Int32} (hin : inb i n = true) (hdg : decode cc pc = .ok (.iastore, 1)) (kk : ∀ (H : Heap) (locs : List Loc), WdM V ad A (sA st q i.toNatClampNeg v) H → va_S A s.heap H locs → W p l e R s m args below meth c H locs cells slots Q (F0 m (pc + 1) ls rest)) : W p l e R s m args below meth c H locs cells slots Q (F0 m pc ls (.int v :: .int i :: .ref (ad q) :: rest)) := by
  obtain ⟨hP, hD⟩ := hW
  refine va_iast X.hx X.hb X.hK hP hD hS q 0 (cw_ate hq.2.1 (mE_row hq)) rfl (inb_in (by rw [hn]; exact hin)) hdg (fun H1 locs1 hP hD hS => ?_)
  have e : (cw ad (mE V ad st) 18).set q (ad q, .inl (V.2.1, mln q, .inl (upd (st.2.1 q) i.toNatClampNeg v))) = cw ad (mE V ad (sA st q i.toNatClampNeg v)) 18 := cw_set hq.2.1 (by rw [mE_row hq]; show Sum.inl (V.2.1, mln q, Sum.inl (va_up st.2.1 q _ q)) = _; rw [va_up_self]) (mE_A (by have := hq.1; omega))
  exact kk H1 locs1 ⟨e ▸ hP, e ▸ hD⟩ hS
theorem zM_ld (X : Cx V A cc nL own p m c s args) (hW : WdM V ad A st H) {i : Int32} (hin : inb i 5 = true) (hdg : decode cc pc = .ok (.baload, 1)) (kk : W p l e R s m args below meth c H locs cells slots Q (F0 m (pc + 1) ls (.int (st.2.1 15 i.toNatClampNeg) :: rest))) : W p l e R s m args below meth c H locs cells slots Q (F0 m pc ls (.int i :: .ref (ad 15) :: rest)) :=
  va_zald X.hx X.hb X.hK hW.1 15 2 (cw_ate (by decide) rfl) rfl (inb_in hin) hdg kk
theorem zM_st (X : Cx V A cc nL own p m c s args) (hW : WdM V ad A st H) (hS : va_S A s.heap H locs) {i v : Int32} (hz : v = 0 ∨ v = 1) (hin : inb i 5 = true) (hdg : decode cc pc = .ok (.bastore, 1)) (kk : ∀ (H : Heap) (locs : List Loc), WdM V ad A (sA st 15 i.toNatClampNeg v) H → va_S A s.heap H locs → W p l e R s m args below meth c H locs cells slots Q (F0 m (pc + 1) ls rest)) : W p l e R s m args below meth c H locs cells slots Q (F0 m pc ls (.int v :: .int i :: .ref (ad 15) :: rest)) := by
  obtain ⟨hP, hD⟩ := hW
  refine va_zast X.hx X.hb X.hK hP hD hS 15 2 (cw_ate (by decide) rfl) rfl (inb_in hin) hdg (fun H1 locs1 hP hD hS => ?_)
  have ev : vp_nar .boolean v = v := by rcases hz with h | h <;> rw [h] <;> decide
  rw [ev] at hP hD
  have e : (cw ad (mE V ad st) 18).set 15 (ad 15, .inl (V.2.2.2.1, 5, .inl (upd (st.2.1 15) i.toNatClampNeg v))) = cw ad (mE V ad (sA st 15 i.toNatClampNeg v)) 18 := cw_set (by decide) (congrArg (fun f => (Sum.inl (V.2.2.2.1, 5, Sum.inl f) : va_E)) (va_up_self st.2.1 15 (upd (st.2.1 15) i.toNatClampNeg v))) (mE_A (by decide))
  exact kk H1 locs1 ⟨e ▸ hP, e ▸ hD⟩ hS
end WM
end
