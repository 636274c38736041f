section
-- ===== PART A: goes FIRST, ahead of the names: the tables' words, and 'selects' of the private methods out of them =====
/-- a private method of a class that the tables say can be made, by its rows of tables_1 -/
def lw_okq (q : MethodName × Nat) : Prop := (q.1.cls ≠ "java/lang/invoke/MethodHandle" ∧ q.1.cls ≠ "java/lang/invoke/VarHandle") ∧ Cond.instantiable q.1.cls q.2 ∈ tables_1 ∧ Cond.privateMethod q.1 ∈ tables_1 ∧ Cond.instanceMethod q.1 ∈ tables_1
theorem lw_p0 : lw_okq (⟨"GrownKinds", "putFour", "(I)V"⟩, 19) := ⟨⟨by decide +kernel, by decide +kernel⟩, List.mem_of_getElem? (i := 23) (by decide +kernel), List.mem_of_getElem? (i := 554) (by decide +kernel), List.mem_of_getElem? (i := 555) (by decide +kernel)⟩
theorem lw_p1 : lw_okq (⟨"GrownKinds$Reader", "advance", "()V"⟩, 13) := ⟨⟨by decide +kernel, by decide +kernel⟩, List.mem_of_getElem? (i := 132) (by decide +kernel), List.mem_of_getElem? (i := 577) (by decide +kernel), List.mem_of_getElem? (i := 578) (by decide +kernel)⟩
theorem lw_p2 : lw_okq (⟨"GrownKinds$Reader", "readHead", "()V"⟩, 13) := ⟨⟨by decide +kernel, by decide +kernel⟩, List.mem_of_getElem? (i := 132) (by decide +kernel), List.mem_of_getElem? (i := 590) (by decide +kernel), List.mem_of_getElem? (i := 591) (by decide +kernel)⟩
theorem lw_p3 : lw_okq (⟨"GrownKinds$Reader", "expectWord", "(Ljava/lang/String;)V"⟩, 13) := ⟨⟨by decide +kernel, by decide +kernel⟩, List.mem_of_getElem? (i := 132) (by decide +kernel), List.mem_of_getElem? (i := 595) (by decide +kernel), List.mem_of_getElem? (i := 596) (by decide +kernel)⟩
theorem lw_p4 : lw_okq (⟨"GrownKinds$Reader", "isWord", "(Ljava/lang/String;)Z"⟩, 13) := ⟨⟨by decide +kernel, by decide +kernel⟩, List.mem_of_getElem? (i := 132) (by decide +kernel), List.mem_of_getElem? (i := 599) (by decide +kernel), List.mem_of_getElem? (i := 600) (by decide +kernel)⟩
theorem lw_p5 : lw_okq (⟨"GrownKinds$Reader", "refuse", "(I)V"⟩, 13) := ⟨⟨by decide +kernel, by decide +kernel⟩, List.mem_of_getElem? (i := 132) (by decide +kernel), List.mem_of_getElem? (i := 651) (by decide +kernel), List.mem_of_getElem? (i := 652) (by decide +kernel)⟩
theorem lw_p6 : lw_okq (⟨"GrownKinds$Reader", "readName", "()V"⟩, 13) := ⟨⟨by decide +kernel, by decide +kernel⟩, List.mem_of_getElem? (i := 132) (by decide +kernel), List.mem_of_getElem? (i := 656) (by decide +kernel), List.mem_of_getElem? (i := 657) (by decide +kernel)⟩
theorem lw_p7 : lw_okq (⟨"GrownKinds$Reader", "partBegun", "()I"⟩, 13) := ⟨⟨by decide +kernel, by decide +kernel⟩, List.mem_of_getElem? (i := 132) (by decide +kernel), List.mem_of_getElem? (i := 660) (by decide +kernel), List.mem_of_getElem? (i := 661) (by decide +kernel)⟩
theorem lw_p8 : lw_okq (⟨"GrownKinds$Reader", "kindNamed", "()I"⟩, 13) := ⟨⟨by decide +kernel, by decide +kernel⟩, List.mem_of_getElem? (i := 132) (by decide +kernel), List.mem_of_getElem? (i := 672) (by decide +kernel), List.mem_of_getElem? (i := 673) (by decide +kernel)⟩
theorem lw_p9 : lw_okq (⟨"GrownKinds$Reader", "sameBytes", "(III)Z"⟩, 13) := ⟨⟨by decide +kernel, by decide +kernel⟩, List.mem_of_getElem? (i := 132) (by decide +kernel), List.mem_of_getElem? (i := 676) (by decide +kernel), List.mem_of_getElem? (i := 677) (by decide +kernel)⟩
theorem lw_p10 : lw_okq (⟨"GrownKinds$Reader", "expectSign", "(I)V"⟩, 13) := ⟨⟨by decide +kernel, by decide +kernel⟩, List.mem_of_getElem? (i := 132) (by decide +kernel), List.mem_of_getElem? (i := 680) (by decide +kernel), List.mem_of_getElem? (i := 681) (by decide +kernel)⟩
theorem lw_p11 : lw_okq (⟨"GrownKinds$Reader", "readLine", "()V"⟩, 13) := ⟨⟨by decide +kernel, by decide +kernel⟩, List.mem_of_getElem? (i := 132) (by decide +kernel), List.mem_of_getElem? (i := 684) (by decide +kernel), List.mem_of_getElem? (i := 685) (by decide +kernel)⟩
theorem lw_p12 : lw_okq (⟨"GrownKinds$Reader", "readExpr", "(II)V"⟩, 13) := ⟨⟨by decide +kernel, by decide +kernel⟩, List.mem_of_getElem? (i := 132) (by decide +kernel), List.mem_of_getElem? (i := 688) (by decide +kernel), List.mem_of_getElem? (i := 689) (by decide +kernel)⟩
theorem lw_p13 : lw_okq (⟨"GrownKinds$Reader", "readTerm", "(IZ)I"⟩, 13) := ⟨⟨by decide +kernel, by decide +kernel⟩, List.mem_of_getElem? (i := 132) (by decide +kernel), List.mem_of_getElem? (i := 692) (by decide +kernel), List.mem_of_getElem? (i := 693) (by decide +kernel)⟩
theorem lw_p14 : lw_okq (⟨"GrownKinds$Reader", "readPart", "(IZ)I"⟩, 13) := ⟨⟨by decide +kernel, by decide +kernel⟩, List.mem_of_getElem? (i := 132) (by decide +kernel), List.mem_of_getElem? (i := 696) (by decide +kernel), List.mem_of_getElem? (i := 697) (by decide +kernel)⟩
theorem lw_p15 : lw_okq (⟨"GrownKinds$Reader", "faultOfPart", "(IIIZ)I"⟩, 13) := ⟨⟨by decide +kernel, by decide +kernel⟩, List.mem_of_getElem? (i := 132) (by decide +kernel), List.mem_of_getElem? (i := 700) (by decide +kernel), List.mem_of_getElem? (i := 701) (by decide +kernel)⟩
def lw_privs_1 : List (MethodName × Nat) := [(⟨"GrownKinds", "putFour", "(I)V"⟩, 19), (⟨"GrownKinds$Reader", "advance", "()V"⟩, 13), (⟨"GrownKinds$Reader", "readHead", "()V"⟩, 13), (⟨"GrownKinds$Reader", "expectWord", "(Ljava/lang/String;)V"⟩, 13), (⟨"GrownKinds$Reader", "isWord", "(Ljava/lang/String;)Z"⟩, 13), (⟨"GrownKinds$Reader", "refuse", "(I)V"⟩, 13), (⟨"GrownKinds$Reader", "readName", "()V"⟩, 13), (⟨"GrownKinds$Reader", "partBegun", "()I"⟩, 13), (⟨"GrownKinds$Reader", "kindNamed", "()I"⟩, 13), (⟨"GrownKinds$Reader", "sameBytes", "(III)Z"⟩, 13), (⟨"GrownKinds$Reader", "expectSign", "(I)V"⟩, 13), (⟨"GrownKinds$Reader", "readLine", "()V"⟩, 13), (⟨"GrownKinds$Reader", "readExpr", "(II)V"⟩, 13), (⟨"GrownKinds$Reader", "readTerm", "(IZ)I"⟩, 13), (⟨"GrownKinds$Reader", "readPart", "(IZ)I"⟩, 13), (⟨"GrownKinds$Reader", "faultOfPart", "(IIIZ)I"⟩, 13)]
theorem lw_r1 : ∀ q ∈ lw_privs_1, lw_okq q := List.forall_mem_cons.mpr ⟨lw_p0, List.forall_mem_cons.mpr ⟨lw_p1, List.forall_mem_cons.mpr ⟨lw_p2, List.forall_mem_cons.mpr ⟨lw_p3, List.forall_mem_cons.mpr ⟨lw_p4, List.forall_mem_cons.mpr ⟨lw_p5, List.forall_mem_cons.mpr ⟨lw_p6, List.forall_mem_cons.mpr ⟨lw_p7, List.forall_mem_cons.mpr ⟨lw_p8, List.forall_mem_cons.mpr ⟨lw_p9, List.forall_mem_cons.mpr ⟨lw_p10, List.forall_mem_cons.mpr ⟨lw_p11, List.forall_mem_cons.mpr ⟨lw_p12, List.forall_mem_cons.mpr ⟨lw_p13, List.forall_mem_cons.mpr ⟨lw_p14, List.forall_mem_cons.mpr ⟨lw_p15, fun _ h => absurd h List.not_mem_nil⟩⟩⟩⟩⟩⟩⟩⟩⟩⟩⟩⟩⟩⟩⟩⟩
theorem lw_p16 : lw_okq (⟨"GrownKinds$Reader", "readLetter", "(I)V"⟩, 13) := ⟨⟨by decide +kernel, by decide +kernel⟩, List.mem_of_getElem? (i := 132) (by decide +kernel), List.mem_of_getElem? (i := 708) (by decide +kernel), List.mem_of_getElem? (i := 709) (by decide +kernel)⟩
theorem lw_p17 : lw_okq (⟨"GrownKinds$Reader", "readMany", "(I)V"⟩, 13) := ⟨⟨by decide +kernel, by decide +kernel⟩, List.mem_of_getElem? (i := 132) (by decide +kernel), List.mem_of_getElem? (i := 712) (by decide +kernel), List.mem_of_getElem? (i := 713) (by decide +kernel)⟩
theorem lw_p18 : lw_okq (⟨"GrownKinds$Leaning", "findEmpty", "()V"⟩, 9) := ⟨⟨by decide +kernel, by decide +kernel⟩, List.mem_of_getElem? (i := 138) (by decide +kernel), List.mem_of_getElem? (i := 720) (by decide +kernel), List.mem_of_getElem? (i := 721) (by decide +kernel)⟩
theorem lw_p19 : lw_okq (⟨"GrownKinds$Leaning", "partIsEmpty", "(I)Z"⟩, 9) := ⟨⟨by decide +kernel, by decide +kernel⟩, List.mem_of_getElem? (i := 138) (by decide +kernel), List.mem_of_getElem? (i := 724) (by decide +kernel), List.mem_of_getElem? (i := 725) (by decide +kernel)⟩
theorem lw_p20 : lw_okq (⟨"GrownKinds$Leaning", "exprIsEmpty", "(I)Z"⟩, 9) := ⟨⟨by decide +kernel, by decide +kernel⟩, List.mem_of_getElem? (i := 138) (by decide +kernel), List.mem_of_getElem? (i := 728) (by decide +kernel), List.mem_of_getElem? (i := 729) (by decide +kernel)⟩
theorem lw_p21 : lw_okq (⟨"GrownKinds$Leaning", "allEmpty", "(II)Z"⟩, 9) := ⟨⟨by decide +kernel, by decide +kernel⟩, List.mem_of_getElem? (i := 138) (by decide +kernel), List.mem_of_getElem? (i := 740) (by decide +kernel), List.mem_of_getElem? (i := 741) (by decide +kernel)⟩
theorem lw_p22 : lw_okq (⟨"GrownKinds$Leaning", "studyPart", "(I)V"⟩, 9) := ⟨⟨by decide +kernel, by decide +kernel⟩, List.mem_of_getElem? (i := 138) (by decide +kernel), List.mem_of_getElem? (i := 748) (by decide +kernel), List.mem_of_getElem? (i := 749) (by decide +kernel)⟩
theorem lw_p23 : lw_okq (⟨"GrownKinds$Leaning", "exprLeans", "(I)I"⟩, 9) := ⟨⟨by decide +kernel, by decide +kernel⟩, List.mem_of_getElem? (i := 138) (by decide +kernel), List.mem_of_getElem? (i := 752) (by decide +kernel), List.mem_of_getElem? (i := 753) (by decide +kernel)⟩
theorem lw_p24 : lw_okq (⟨"GrownKinds$Leaning", "exprHas", "(I[I)I"⟩, 9) := ⟨⟨by decide +kernel, by decide +kernel⟩, List.mem_of_getElem? (i := 138) (by decide +kernel), List.mem_of_getElem? (i := 756) (by decide +kernel), List.mem_of_getElem? (i := 757) (by decide +kernel)⟩
theorem lw_p25 : lw_okq (⟨"GrownKinds$Reader", "refuseMeaningless", "()V"⟩, 13) := ⟨⟨by decide +kernel, by decide +kernel⟩, List.mem_of_getElem? (i := 132) (by decide +kernel), List.mem_of_getElem? (i := 760) (by decide +kernel), List.mem_of_getElem? (i := 761) (by decide +kernel)⟩
theorem lw_p26 : lw_okq (⟨"GrownKinds$Leaning", "isReady", "(IJ)Z"⟩, 9) := ⟨⟨by decide +kernel, by decide +kernel⟩, List.mem_of_getElem? (i := 138) (by decide +kernel), List.mem_of_getElem? (i := 775) (by decide +kernel), List.mem_of_getElem? (i := 776) (by decide +kernel)⟩
theorem lw_p27 : lw_okq (⟨"GrownKinds$Leaning", "termsLaid", "(IJ)Z"⟩, 9) := ⟨⟨by decide +kernel, by decide +kernel⟩, List.mem_of_getElem? (i := 138) (by decide +kernel), List.mem_of_getElem? (i := 779) (by decide +kernel), List.mem_of_getElem? (i := 780) (by decide +kernel)⟩
theorem lw_p28 : lw_okq (⟨"GrownKinds$Leaning", "partReady", "(IJ)Z"⟩, 9) := ⟨⟨by decide +kernel, by decide +kernel⟩, List.mem_of_getElem? (i := 138) (by decide +kernel), List.mem_of_getElem? (i := 786) (by decide +kernel), List.mem_of_getElem? (i := 787) (by decide +kernel)⟩
theorem lw_p29 : lw_okq (⟨"GrownKinds", "settle", "()V"⟩, 19) := ⟨⟨by decide +kernel, by decide +kernel⟩, List.mem_of_getElem? (i := 23) (by decide +kernel), List.mem_of_getElem? (i := 800) (by decide +kernel), List.mem_of_getElem? (i := 801) (by decide +kernel)⟩
theorem lw_p30 : lw_okq (⟨"GrownKinds$Census", "sumTerms", "(II[JI)V"⟩, 8) := ⟨⟨by decide +kernel, by decide +kernel⟩, List.mem_of_getElem? (i := 222) (by decide +kernel), List.mem_of_getElem? (i := 813) (by decide +kernel), List.mem_of_getElem? (i := 814) (by decide +kernel)⟩
theorem lw_p31 : lw_okq (⟨"GrownKinds$Census", "letterTop", "(I)I"⟩, 8) := ⟨⟨by decide +kernel, by decide +kernel⟩, List.mem_of_getElem? (i := 222) (by decide +kernel), List.mem_of_getElem? (i := 817) (by decide +kernel), List.mem_of_getElem? (i := 818) (by decide +kernel)⟩
def lw_privs_2 : List (MethodName × Nat) := [(⟨"GrownKinds$Reader", "readLetter", "(I)V"⟩, 13), (⟨"GrownKinds$Reader", "readMany", "(I)V"⟩, 13), (⟨"GrownKinds$Leaning", "findEmpty", "()V"⟩, 9), (⟨"GrownKinds$Leaning", "partIsEmpty", "(I)Z"⟩, 9), (⟨"GrownKinds$Leaning", "exprIsEmpty", "(I)Z"⟩, 9), (⟨"GrownKinds$Leaning", "allEmpty", "(II)Z"⟩, 9), (⟨"GrownKinds$Leaning", "studyPart", "(I)V"⟩, 9), (⟨"GrownKinds$Leaning", "exprLeans", "(I)I"⟩, 9), (⟨"GrownKinds$Leaning", "exprHas", "(I[I)I"⟩, 9), (⟨"GrownKinds$Reader", "refuseMeaningless", "()V"⟩, 13), (⟨"GrownKinds$Leaning", "isReady", "(IJ)Z"⟩, 9), (⟨"GrownKinds$Leaning", "termsLaid", "(IJ)Z"⟩, 9), (⟨"GrownKinds$Leaning", "partReady", "(IJ)Z"⟩, 9), (⟨"GrownKinds", "settle", "()V"⟩, 19), (⟨"GrownKinds$Census", "sumTerms", "(II[JI)V"⟩, 8), (⟨"GrownKinds$Census", "letterTop", "(I)I"⟩, 8)]
theorem lw_r2 : ∀ q ∈ lw_privs_2, lw_okq q := List.forall_mem_cons.mpr ⟨lw_p16, List.forall_mem_cons.mpr ⟨lw_p17, List.forall_mem_cons.mpr ⟨lw_p18, List.forall_mem_cons.mpr ⟨lw_p19, List.forall_mem_cons.mpr ⟨lw_p20, List.forall_mem_cons.mpr ⟨lw_p21, List.forall_mem_cons.mpr ⟨lw_p22, List.forall_mem_cons.mpr ⟨lw_p23, List.forall_mem_cons.mpr ⟨lw_p24, List.forall_mem_cons.mpr ⟨lw_p25, List.forall_mem_cons.mpr ⟨lw_p26, List.forall_mem_cons.mpr ⟨lw_p27, List.forall_mem_cons.mpr ⟨lw_p28, List.forall_mem_cons.mpr ⟨lw_p29, List.forall_mem_cons.mpr ⟨lw_p30, List.forall_mem_cons.mpr ⟨lw_p31, fun _ h => absurd h List.not_mem_nil⟩⟩⟩⟩⟩⟩⟩⟩⟩⟩⟩⟩⟩⟩⟩⟩
theorem lw_p32 : lw_okq (⟨"GrownKinds$Census", "countPart", "(II)V"⟩, 8) := ⟨⟨by decide +kernel, by decide +kernel⟩, List.mem_of_getElem? (i := 222) (by decide +kernel), List.mem_of_getElem? (i := 830) (by decide +kernel), List.mem_of_getElem? (i := 831) (by decide +kernel)⟩
theorem lw_p33 : lw_okq (⟨"GrownKinds$Census", "copyCells", "([JI[JII)V"⟩, 8) := ⟨⟨by decide +kernel, by decide +kernel⟩, List.mem_of_getElem? (i := 222) (by decide +kernel), List.mem_of_getElem? (i := 834) (by decide +kernel), List.mem_of_getElem? (i := 835) (by decide +kernel)⟩
theorem lw_p34 : lw_okq (⟨"GrownKinds$Census", "countSequence", "(II)V"⟩, 8) := ⟨⟨by decide +kernel, by decide +kernel⟩, List.mem_of_getElem? (i := 222) (by decide +kernel), List.mem_of_getElem? (i := 842) (by decide +kernel), List.mem_of_getElem? (i := 843) (by decide +kernel)⟩
theorem lw_p35 : lw_okq (⟨"GrownKinds$Census", "clearCells", "([JII)V"⟩, 8) := ⟨⟨by decide +kernel, by decide +kernel⟩, List.mem_of_getElem? (i := 222) (by decide +kernel), List.mem_of_getElem? (i := 846) (by decide +kernel), List.mem_of_getElem? (i := 847) (by decide +kernel)⟩
theorem lw_p36 : lw_okq (⟨"GrownKinds$Census", "clearRows", "(I)V"⟩, 8) := ⟨⟨by decide +kernel, by decide +kernel⟩, List.mem_of_getElem? (i := 222) (by decide +kernel), List.mem_of_getElem? (i := 850) (by decide +kernel), List.mem_of_getElem? (i := 851) (by decide +kernel)⟩
theorem lw_p37 : lw_okq (⟨"GrownKinds$Census", "keepStage", "(II)V"⟩, 8) := ⟨⟨by decide +kernel, by decide +kernel⟩, List.mem_of_getElem? (i := 222) (by decide +kernel), List.mem_of_getElem? (i := 854) (by decide +kernel), List.mem_of_getElem? (i := 855) (by decide +kernel)⟩
theorem lw_p38 : lw_okq (⟨"GrownKinds$Census", "longest", "(I)I"⟩, 8) := ⟨⟨by decide +kernel, by decide +kernel⟩, List.mem_of_getElem? (i := 222) (by decide +kernel), List.mem_of_getElem? (i := 858) (by decide +kernel), List.mem_of_getElem? (i := 859) (by decide +kernel)⟩
theorem lw_p39 : lw_okq (⟨"GrownKinds$Census", "inClasses", "(I)Z"⟩, 8) := ⟨⟨by decide +kernel, by decide +kernel⟩, List.mem_of_getElem? (i := 222) (by decide +kernel), List.mem_of_getElem? (i := 862) (by decide +kernel), List.mem_of_getElem? (i := 863) (by decide +kernel)⟩
theorem lw_p40 : lw_okq (⟨"GrownKinds$Census", "addClasses", "(II)V"⟩, 8) := ⟨⟨by decide +kernel, by decide +kernel⟩, List.mem_of_getElem? (i := 222) (by decide +kernel), List.mem_of_getElem? (i := 866) (by decide +kernel), List.mem_of_getElem? (i := 867) (by decide +kernel)⟩
theorem lw_p41 : lw_okq (⟨"GrownKinds$Census", "rowsOf", "(IIII)J"⟩, 8) := ⟨⟨by decide +kernel, by decide +kernel⟩, List.mem_of_getElem? (i := 222) (by decide +kernel), List.mem_of_getElem? (i := 870) (by decide +kernel), List.mem_of_getElem? (i := 871) (by decide +kernel)⟩
theorem lw_p42 : lw_okq (⟨"GrownKinds$Census", "addClass", "(IIII)V"⟩, 8) := ⟨⟨by decide +kernel, by decide +kernel⟩, List.mem_of_getElem? (i := 222) (by decide +kernel), List.mem_of_getElem? (i := 877) (by decide +kernel), List.mem_of_getElem? (i := 878) (by decide +kernel)⟩
theorem lw_p43 : lw_okq (⟨"GrownKinds$Census", "growRows", "(II)V"⟩, 8) := ⟨⟨by decide +kernel, by decide +kernel⟩, List.mem_of_getElem? (i := 222) (by decide +kernel), List.mem_of_getElem? (i := 885) (by decide +kernel), List.mem_of_getElem? (i := 886) (by decide +kernel)⟩
theorem lw_p44 : lw_okq (⟨"GrownKinds$Census", "weight", "(II)J"⟩, 8) := ⟨⟨by decide +kernel, by decide +kernel⟩, List.mem_of_getElem? (i := 222) (by decide +kernel), List.mem_of_getElem? (i := 889) (by decide +kernel), List.mem_of_getElem? (i := 890) (by decide +kernel)⟩
theorem lw_p45 : lw_okq (⟨"GrownKinds$Census", "sequencesOf", "(IIII)J"⟩, 8) := ⟨⟨by decide +kernel, by decide +kernel⟩, List.mem_of_getElem? (i := 222) (by decide +kernel), List.mem_of_getElem? (i := 895) (by decide +kernel), List.mem_of_getElem? (i := 896) (by decide +kernel)⟩
theorem lw_p46 : lw_okq (⟨"GrownKinds$Census", "ringsOf", "(IIII)J"⟩, 8) := ⟨⟨by decide +kernel, by decide +kernel⟩, List.mem_of_getElem? (i := 222) (by decide +kernel), List.mem_of_getElem? (i := 899) (by decide +kernel), List.mem_of_getElem? (i := 900) (by decide +kernel)⟩
theorem lw_p47 : lw_okq (⟨"GrownKinds$Census", "countTail", "(II)V"⟩, 8) := ⟨⟨by decide +kernel, by decide +kernel⟩, List.mem_of_getElem? (i := 222) (by decide +kernel), List.mem_of_getElem? (i := 907) (by decide +kernel), List.mem_of_getElem? (i := 908) (by decide +kernel)⟩
def lw_privs_3 : List (MethodName × Nat) := [(⟨"GrownKinds$Census", "countPart", "(II)V"⟩, 8), (⟨"GrownKinds$Census", "copyCells", "([JI[JII)V"⟩, 8), (⟨"GrownKinds$Census", "countSequence", "(II)V"⟩, 8), (⟨"GrownKinds$Census", "clearCells", "([JII)V"⟩, 8), (⟨"GrownKinds$Census", "clearRows", "(I)V"⟩, 8), (⟨"GrownKinds$Census", "keepStage", "(II)V"⟩, 8), (⟨"GrownKinds$Census", "longest", "(I)I"⟩, 8), (⟨"GrownKinds$Census", "inClasses", "(I)Z"⟩, 8), (⟨"GrownKinds$Census", "addClasses", "(II)V"⟩, 8), (⟨"GrownKinds$Census", "rowsOf", "(IIII)J"⟩, 8), (⟨"GrownKinds$Census", "addClass", "(IIII)V"⟩, 8), (⟨"GrownKinds$Census", "growRows", "(II)V"⟩, 8), (⟨"GrownKinds$Census", "weight", "(II)J"⟩, 8), (⟨"GrownKinds$Census", "sequencesOf", "(IIII)J"⟩, 8), (⟨"GrownKinds$Census", "ringsOf", "(IIII)J"⟩, 8), (⟨"GrownKinds$Census", "countTail", "(II)V"⟩, 8)]
theorem lw_r3 : ∀ q ∈ lw_privs_3, lw_okq q := List.forall_mem_cons.mpr ⟨lw_p32, List.forall_mem_cons.mpr ⟨lw_p33, List.forall_mem_cons.mpr ⟨lw_p34, List.forall_mem_cons.mpr ⟨lw_p35, List.forall_mem_cons.mpr ⟨lw_p36, List.forall_mem_cons.mpr ⟨lw_p37, List.forall_mem_cons.mpr ⟨lw_p38, List.forall_mem_cons.mpr ⟨lw_p39, List.forall_mem_cons.mpr ⟨lw_p40, List.forall_mem_cons.mpr ⟨lw_p41, List.forall_mem_cons.mpr ⟨lw_p42, List.forall_mem_cons.mpr ⟨lw_p43, List.forall_mem_cons.mpr ⟨lw_p44, List.forall_mem_cons.mpr ⟨lw_p45, List.forall_mem_cons.mpr ⟨lw_p46, List.forall_mem_cons.mpr ⟨lw_p47, fun _ h => absurd h List.not_mem_nil⟩⟩⟩⟩⟩⟩⟩⟩⟩⟩⟩⟩⟩⟩⟩⟩
theorem lw_p48 : lw_okq (⟨"GrownKinds", "known", "(I)Z"⟩, 19) := ⟨⟨by decide +kernel, by decide +kernel⟩, List.mem_of_getElem? (i := 23) (by decide +kernel), List.mem_of_getElem? (i := 935) (by decide +kernel), List.mem_of_getElem? (i := 936) (by decide +kernel)⟩
theorem lw_p49 : lw_okq (⟨"GrownKinds", "sized", "(II)Z"⟩, 19) := ⟨⟨by decide +kernel, by decide +kernel⟩, List.mem_of_getElem? (i := 23) (by decide +kernel), List.mem_of_getElem? (i := 988) (by decide +kernel), List.mem_of_getElem? (i := 989) (by decide +kernel)⟩
theorem lw_p50 : lw_okq (⟨"GrownKinds", "boxy", "(III)Z"⟩, 19) := ⟨⟨by decide +kernel, by decide +kernel⟩, List.mem_of_getElem? (i := 23) (by decide +kernel), List.mem_of_getElem? (i := 1001) (by decide +kernel), List.mem_of_getElem? (i := 1002) (by decide +kernel)⟩
theorem lw_p51 : lw_okq (⟨"GrownKinds$Ledger", "keep", "([JI)V"⟩, 8) := ⟨⟨by decide +kernel, by decide +kernel⟩, List.mem_of_getElem? (i := 254) (by decide +kernel), List.mem_of_getElem? (i := 1019) (by decide +kernel), List.mem_of_getElem? (i := 1020) (by decide +kernel)⟩
theorem lw_p52 : lw_okq (⟨"GrownKinds$Ledger", "keepMarks", "(I)V"⟩, 8) := ⟨⟨by decide +kernel, by decide +kernel⟩, List.mem_of_getElem? (i := 254) (by decide +kernel), List.mem_of_getElem? (i := 1036) (by decide +kernel), List.mem_of_getElem? (i := 1037) (by decide +kernel)⟩
theorem lw_p53 : lw_okq (⟨"GrownKinds", "termed", "(II)Z"⟩, 19) := ⟨⟨by decide +kernel, by decide +kernel⟩, List.mem_of_getElem? (i := 23) (by decide +kernel), List.mem_of_getElem? (i := 1048) (by decide +kernel), List.mem_of_getElem? (i := 1049) (by decide +kernel)⟩
theorem lw_p54 : lw_okq (⟨"GrownKinds", "spelling", "(III)I"⟩, 19) := ⟨⟨by decide +kernel, by decide +kernel⟩, List.mem_of_getElem? (i := 23) (by decide +kernel), List.mem_of_getElem? (i := 1091) (by decide +kernel), List.mem_of_getElem? (i := 1092) (by decide +kernel)⟩
theorem lw_p55 : lw_okq (⟨"GrownKinds", "listing", "(II)I"⟩, 19) := ⟨⟨by decide +kernel, by decide +kernel⟩, List.mem_of_getElem? (i := 23) (by decide +kernel), List.mem_of_getElem? (i := 1095) (by decide +kernel), List.mem_of_getElem? (i := 1096) (by decide +kernel)⟩
theorem lw_p56 : lw_okq (⟨"GrownKinds$Speller", "spellExpr", "(III)I"⟩, 15) := ⟨⟨by decide +kernel, by decide +kernel⟩, List.mem_of_getElem? (i := 286) (by decide +kernel), List.mem_of_getElem? (i := 1105) (by decide +kernel), List.mem_of_getElem? (i := 1106) (by decide +kernel)⟩
theorem lw_p57 : lw_okq (⟨"GrownKinds$Speller", "put", "(I)V"⟩, 15) := ⟨⟨by decide +kernel, by decide +kernel⟩, List.mem_of_getElem? (i := 286) (by decide +kernel), List.mem_of_getElem? (i := 1110) (by decide +kernel), List.mem_of_getElem? (i := 1111) (by decide +kernel)⟩
theorem lw_p58 : lw_okq (⟨"GrownKinds$Speller", "pushTerm", "(IIJ)V"⟩, 15) := ⟨⟨by decide +kernel, by decide +kernel⟩, List.mem_of_getElem? (i := 286) (by decide +kernel), List.mem_of_getElem? (i := 1131) (by decide +kernel), List.mem_of_getElem? (i := 1132) (by decide +kernel)⟩
theorem lw_p59 : lw_okq (⟨"GrownKinds$Speller", "spellPart", "(III)V"⟩, 15) := ⟨⟨by decide +kernel, by decide +kernel⟩, List.mem_of_getElem? (i := 286) (by decide +kernel), List.mem_of_getElem? (i := 1144) (by decide +kernel), List.mem_of_getElem? (i := 1145) (by decide +kernel)⟩
theorem lw_p60 : lw_okq (⟨"GrownKinds$Sequences", "add", "(IJ)V"⟩, 6) := ⟨⟨by decide +kernel, by decide +kernel⟩, List.mem_of_getElem? (i := 288) (by decide +kernel), List.mem_of_getElem? (i := 1158) (by decide +kernel), List.mem_of_getElem? (i := 1159) (by decide +kernel)⟩
theorem lw_p61 : lw_okq (⟨"GrownKinds$Speller", "spellSequence", "(I)V"⟩, 15) := ⟨⟨by decide +kernel, by decide +kernel⟩, List.mem_of_getElem? (i := 286) (by decide +kernel), List.mem_of_getElem? (i := 1164) (by decide +kernel), List.mem_of_getElem? (i := 1165) (by decide +kernel)⟩
theorem lw_p62 : lw_okq (⟨"GrownKinds$Speller", "push", "(I)V"⟩, 15) := ⟨⟨by decide +kernel, by decide +kernel⟩, List.mem_of_getElem? (i := 286) (by decide +kernel), List.mem_of_getElem? (i := 1177) (by decide +kernel), List.mem_of_getElem? (i := 1178) (by decide +kernel)⟩
theorem lw_p63 : lw_okq (⟨"GrownKinds$Sequences", "bagsWithin", "(IIIIJ)J"⟩, 6) := ⟨⟨by decide +kernel, by decide +kernel⟩, List.mem_of_getElem? (i := 288) (by decide +kernel), List.mem_of_getElem? (i := 1191) (by decide +kernel), List.mem_of_getElem? (i := 1192) (by decide +kernel)⟩
def lw_privs_4 : List (MethodName × Nat) := [(⟨"GrownKinds", "known", "(I)Z"⟩, 19), (⟨"GrownKinds", "sized", "(II)Z"⟩, 19), (⟨"GrownKinds", "boxy", "(III)Z"⟩, 19), (⟨"GrownKinds$Ledger", "keep", "([JI)V"⟩, 8), (⟨"GrownKinds$Ledger", "keepMarks", "(I)V"⟩, 8), (⟨"GrownKinds", "termed", "(II)Z"⟩, 19), (⟨"GrownKinds", "spelling", "(III)I"⟩, 19), (⟨"GrownKinds", "listing", "(II)I"⟩, 19), (⟨"GrownKinds$Speller", "spellExpr", "(III)I"⟩, 15), (⟨"GrownKinds$Speller", "put", "(I)V"⟩, 15), (⟨"GrownKinds$Speller", "pushTerm", "(IIJ)V"⟩, 15), (⟨"GrownKinds$Speller", "spellPart", "(III)V"⟩, 15), (⟨"GrownKinds$Sequences", "add", "(IJ)V"⟩, 6), (⟨"GrownKinds$Speller", "spellSequence", "(I)V"⟩, 15), (⟨"GrownKinds$Speller", "push", "(I)V"⟩, 15), (⟨"GrownKinds$Sequences", "bagsWithin", "(IIIIJ)J"⟩, 6)]
theorem lw_r4 : ∀ q ∈ lw_privs_4, lw_okq q := List.forall_mem_cons.mpr ⟨lw_p48, List.forall_mem_cons.mpr ⟨lw_p49, List.forall_mem_cons.mpr ⟨lw_p50, List.forall_mem_cons.mpr ⟨lw_p51, List.forall_mem_cons.mpr ⟨lw_p52, List.forall_mem_cons.mpr ⟨lw_p53, List.forall_mem_cons.mpr ⟨lw_p54, List.forall_mem_cons.mpr ⟨lw_p55, List.forall_mem_cons.mpr ⟨lw_p56, List.forall_mem_cons.mpr ⟨lw_p57, List.forall_mem_cons.mpr ⟨lw_p58, List.forall_mem_cons.mpr ⟨lw_p59, List.forall_mem_cons.mpr ⟨lw_p60, List.forall_mem_cons.mpr ⟨lw_p61, List.forall_mem_cons.mpr ⟨lw_p62, List.forall_mem_cons.mpr ⟨lw_p63, fun _ h => absurd h List.not_mem_nil⟩⟩⟩⟩⟩⟩⟩⟩⟩⟩⟩⟩⟩⟩⟩⟩
theorem lw_p64 : lw_okq (⟨"GrownKinds$Sequences", "listRings", "(IILGrownKinds$RingList;)V"⟩, 6) := ⟨⟨by decide +kernel, by decide +kernel⟩, List.mem_of_getElem? (i := 288) (by decide +kernel), List.mem_of_getElem? (i := 1224) (by decide +kernel), List.mem_of_getElem? (i := 1225) (by decide +kernel)⟩
theorem lw_p65 : lw_okq (⟨"GrownKinds$Sequences", "isFirstTurn", "()Z"⟩, 6) := ⟨⟨by decide +kernel, by decide +kernel⟩, List.mem_of_getElem? (i := 288) (by decide +kernel), List.mem_of_getElem? (i := 1228) (by decide +kernel), List.mem_of_getElem? (i := 1229) (by decide +kernel)⟩
theorem lw_p66 : lw_okq (⟨"GrownKinds$Sequences", "compareTurn", "(I)I"⟩, 6) := ⟨⟨by decide +kernel, by decide +kernel⟩, List.mem_of_getElem? (i := 288) (by decide +kernel), List.mem_of_getElem? (i := 1232) (by decide +kernel), List.mem_of_getElem? (i := 1233) (by decide +kernel)⟩
theorem lw_p67 : lw_okq (⟨"GrownKinds$Sequences", "enlist", "(LGrownKinds$RingList;)V"⟩, 6) := ⟨⟨by decide +kernel, by decide +kernel⟩, List.mem_of_getElem? (i := 288) (by decide +kernel), List.mem_of_getElem? (i := 1239) (by decide +kernel), List.mem_of_getElem? (i := 1240) (by decide +kernel)⟩
theorem lw_p68 : lw_okq (⟨"GrownKinds$ThingReader", "readExpr", "(I)V"⟩, 13) := ⟨⟨by decide +kernel, by decide +kernel⟩, List.mem_of_getElem? (i := 377) (by decide +kernel), List.mem_of_getElem? (i := 1289) (by decide +kernel), List.mem_of_getElem? (i := 1290) (by decide +kernel)⟩
theorem lw_p69 : lw_okq (⟨"GrownKinds$ThingReader", "peek", "()I"⟩, 13) := ⟨⟨by decide +kernel, by decide +kernel⟩, List.mem_of_getElem? (i := 377) (by decide +kernel), List.mem_of_getElem? (i := 1293) (by decide +kernel), List.mem_of_getElem? (i := 1294) (by decide +kernel)⟩
theorem lw_p70 : lw_okq (⟨"GrownKinds$ThingReader", "mayAwait", "(I)Z"⟩, 13) := ⟨⟨by decide +kernel, by decide +kernel⟩, List.mem_of_getElem? (i := 377) (by decide +kernel), List.mem_of_getElem? (i := 1299) (by decide +kernel), List.mem_of_getElem? (i := 1300) (by decide +kernel)⟩
theorem lw_p71 : lw_okq (⟨"GrownKinds$ThingReader", "goOn", "(I)V"⟩, 13) := ⟨⟨by decide +kernel, by decide +kernel⟩, List.mem_of_getElem? (i := 377) (by decide +kernel), List.mem_of_getElem? (i := 1304) (by decide +kernel), List.mem_of_getElem? (i := 1305) (by decide +kernel)⟩
theorem lw_p72 : lw_okq (⟨"GrownKinds$ThingReader", "close", "(I)V"⟩, 13) := ⟨⟨by decide +kernel, by decide +kernel⟩, List.mem_of_getElem? (i := 377) (by decide +kernel), List.mem_of_getElem? (i := 1309) (by decide +kernel), List.mem_of_getElem? (i := 1310) (by decide +kernel)⟩
theorem lw_p73 : lw_okq (⟨"GrownKinds$ThingReader", "sort", "(IIZ)V"⟩, 13) := ⟨⟨by decide +kernel, by decide +kernel⟩, List.mem_of_getElem? (i := 377) (by decide +kernel), List.mem_of_getElem? (i := 1313) (by decide +kernel), List.mem_of_getElem? (i := 1314) (by decide +kernel)⟩
theorem lw_p74 : lw_okq (⟨"GrownKinds$ThingReader", "placeOf", "(IIIZ)I"⟩, 13) := ⟨⟨by decide +kernel, by decide +kernel⟩, List.mem_of_getElem? (i := 377) (by decide +kernel), List.mem_of_getElem? (i := 1317) (by decide +kernel), List.mem_of_getElem? (i := 1318) (by decide +kernel)⟩
theorem lw_p75 : lw_okq (⟨"GrownKinds$ThingReader", "compare", "(II)I"⟩, 13) := ⟨⟨by decide +kernel, by decide +kernel⟩, List.mem_of_getElem? (i := 377) (by decide +kernel), List.mem_of_getElem? (i := 1321) (by decide +kernel), List.mem_of_getElem? (i := 1322) (by decide +kernel)⟩
theorem lw_p76 : lw_okq (⟨"GrownKinds$ThingReader", "copyBack", "(II)V"⟩, 13) := ⟨⟨by decide +kernel, by decide +kernel⟩, List.mem_of_getElem? (i := 377) (by decide +kernel), List.mem_of_getElem? (i := 1326) (by decide +kernel), List.mem_of_getElem? (i := 1327) (by decide +kernel)⟩
theorem lw_p77 : lw_okq (⟨"GrownKinds$ThingReader", "turn", "(II)V"⟩, 13) := ⟨⟨by decide +kernel, by decide +kernel⟩, List.mem_of_getElem? (i := 377) (by decide +kernel), List.mem_of_getElem? (i := 1330) (by decide +kernel), List.mem_of_getElem? (i := 1331) (by decide +kernel)⟩
theorem lw_p78 : lw_okq (⟨"GrownKinds$ThingReader", "compareTurns", "(IIII)I"⟩, 13) := ⟨⟨by decide +kernel, by decide +kernel⟩, List.mem_of_getElem? (i := 377) (by decide +kernel), List.mem_of_getElem? (i := 1334) (by decide +kernel), List.mem_of_getElem? (i := 1335) (by decide +kernel)⟩
theorem lw_p79 : lw_okq (⟨"GrownKinds$ThingReader", "readPart", "(I)V"⟩, 13) := ⟨⟨by decide +kernel, by decide +kernel⟩, List.mem_of_getElem? (i := 377) (by decide +kernel), List.mem_of_getElem? (i := 1338) (by decide +kernel), List.mem_of_getElem? (i := 1339) (by decide +kernel)⟩
def lw_privs_5 : List (MethodName × Nat) := [(⟨"GrownKinds$Sequences", "listRings", "(IILGrownKinds$RingList;)V"⟩, 6), (⟨"GrownKinds$Sequences", "isFirstTurn", "()Z"⟩, 6), (⟨"GrownKinds$Sequences", "compareTurn", "(I)I"⟩, 6), (⟨"GrownKinds$Sequences", "enlist", "(LGrownKinds$RingList;)V"⟩, 6), (⟨"GrownKinds$ThingReader", "readExpr", "(I)V"⟩, 13), (⟨"GrownKinds$ThingReader", "peek", "()I"⟩, 13), (⟨"GrownKinds$ThingReader", "mayAwait", "(I)Z"⟩, 13), (⟨"GrownKinds$ThingReader", "goOn", "(I)V"⟩, 13), (⟨"GrownKinds$ThingReader", "close", "(I)V"⟩, 13), (⟨"GrownKinds$ThingReader", "sort", "(IIZ)V"⟩, 13), (⟨"GrownKinds$ThingReader", "placeOf", "(IIIZ)I"⟩, 13), (⟨"GrownKinds$ThingReader", "compare", "(II)I"⟩, 13), (⟨"GrownKinds$ThingReader", "copyBack", "(II)V"⟩, 13), (⟨"GrownKinds$ThingReader", "turn", "(II)V"⟩, 13), (⟨"GrownKinds$ThingReader", "compareTurns", "(IIII)I"⟩, 13), (⟨"GrownKinds$ThingReader", "readPart", "(I)V"⟩, 13)]
theorem lw_r5 : ∀ q ∈ lw_privs_5, lw_okq q := List.forall_mem_cons.mpr ⟨lw_p64, List.forall_mem_cons.mpr ⟨lw_p65, List.forall_mem_cons.mpr ⟨lw_p66, List.forall_mem_cons.mpr ⟨lw_p67, List.forall_mem_cons.mpr ⟨lw_p68, List.forall_mem_cons.mpr ⟨lw_p69, List.forall_mem_cons.mpr ⟨lw_p70, List.forall_mem_cons.mpr ⟨lw_p71, List.forall_mem_cons.mpr ⟨lw_p72, List.forall_mem_cons.mpr ⟨lw_p73, List.forall_mem_cons.mpr ⟨lw_p74, List.forall_mem_cons.mpr ⟨lw_p75, List.forall_mem_cons.mpr ⟨lw_p76, List.forall_mem_cons.mpr ⟨lw_p77, List.forall_mem_cons.mpr ⟨lw_p78, List.forall_mem_cons.mpr ⟨lw_p79, fun _ h => absurd h List.not_mem_nil⟩⟩⟩⟩⟩⟩⟩⟩⟩⟩⟩⟩⟩⟩⟩⟩
theorem lw_p80 : lw_okq (⟨"GrownKinds$ThingReader", "take", "(I)V"⟩, 13) := ⟨⟨by decide +kernel, by decide +kernel⟩, List.mem_of_getElem? (i := 377) (by decide +kernel), List.mem_of_getElem? (i := 1342) (by decide +kernel), List.mem_of_getElem? (i := 1343) (by decide +kernel)⟩
theorem lw_p81 : lw_okq (⟨"GrownKinds", "rankOfRead", "(III)I"⟩, 19) := ⟨⟨by decide +kernel, by decide +kernel⟩, List.mem_of_getElem? (i := 23) (by decide +kernel), List.mem_of_getElem? (i := 1348) (by decide +kernel), List.mem_of_getElem? (i := 1349) (by decide +kernel)⟩
theorem lw_p82 : lw_okq (⟨"GrownKinds", "rolling", "(II)I"⟩, 19) := ⟨⟨by decide +kernel, by decide +kernel⟩, List.mem_of_getElem? (i := 23) (by decide +kernel), List.mem_of_getElem? (i := 1369) (by decide +kernel), List.mem_of_getElem? (i := 1370) (by decide +kernel)⟩
theorem lw_p83 : lw_okq (⟨"GrownKinds$Roll", "countAtoms", "(II)V"⟩, 9) := ⟨⟨by decide +kernel, by decide +kernel⟩, List.mem_of_getElem? (i := 424) (by decide +kernel), List.mem_of_getElem? (i := 1388) (by decide +kernel), List.mem_of_getElem? (i := 1389) (by decide +kernel)⟩
theorem lw_p84 : lw_okq (⟨"GrownKinds$Dealer", "advance", "()V"⟩, 7) := ⟨⟨by decide +kernel, by decide +kernel⟩, List.mem_of_getElem? (i := 463) (by decide +kernel), List.mem_of_getElem? (i := 1457) (by decide +kernel), List.mem_of_getElem? (i := 1458) (by decide +kernel)⟩
theorem lw_p85 : lw_okq (⟨"GrownKinds", "takeBack", "()V"⟩, 19) := ⟨⟨by decide +kernel, by decide +kernel⟩, List.mem_of_getElem? (i := 23) (by decide +kernel), List.mem_of_getElem? (i := 1482) (by decide +kernel), List.mem_of_getElem? (i := 1483) (by decide +kernel)⟩
theorem lw_p86 : lw_okq (⟨"GrownKindsModel", "clears", "()V"⟩, 52) := ⟨⟨by decide +kernel, by decide +kernel⟩, List.mem_of_getElem? (i := 1490) (by decide +kernel), List.mem_of_getElem? (i := 1496) (by decide +kernel), List.mem_of_getElem? (i := 1497) (by decide +kernel)⟩
theorem lw_p87 : lw_okq (⟨"GrownKindsModel", "next", "()V"⟩, 52) := ⟨⟨by decide +kernel, by decide +kernel⟩, List.mem_of_getElem? (i := 1490) (by decide +kernel), List.mem_of_getElem? (i := 1672) (by decide +kernel), List.mem_of_getElem? (i := 1673) (by decide +kernel)⟩
theorem lw_p88 : lw_okq (⟨"GrownKindsModel", "isAt", "(II)Z"⟩, 52) := ⟨⟨by decide +kernel, by decide +kernel⟩, List.mem_of_getElem? (i := 1490) (by decide +kernel), List.mem_of_getElem? (i := 1676) (by decide +kernel), List.mem_of_getElem? (i := 1677) (by decide +kernel)⟩
theorem lw_p89 : lw_okq (⟨"GrownKindsModel", "readsHead", "()V"⟩, 52) := ⟨⟨by decide +kernel, by decide +kernel⟩, List.mem_of_getElem? (i := 1490) (by decide +kernel), List.mem_of_getElem? (i := 1681) (by decide +kernel), List.mem_of_getElem? (i := 1682) (by decide +kernel)⟩
theorem lw_p90 : lw_okq (⟨"GrownKindsModel", "needsWord", "(I)V"⟩, 52) := ⟨⟨by decide +kernel, by decide +kernel⟩, List.mem_of_getElem? (i := 1490) (by decide +kernel), List.mem_of_getElem? (i := 1685) (by decide +kernel), List.mem_of_getElem? (i := 1686) (by decide +kernel)⟩
theorem lw_p91 : lw_okq (⟨"GrownKindsModel", "isWord", "(I)Z"⟩, 52) := ⟨⟨by decide +kernel, by decide +kernel⟩, List.mem_of_getElem? (i := 1490) (by decide +kernel), List.mem_of_getElem? (i := 1689) (by decide +kernel), List.mem_of_getElem? (i := 1690) (by decide +kernel)⟩
theorem lw_p92 : lw_okq (⟨"GrownKindsModel", "faults", "(I)I"⟩, 52) := ⟨⟨by decide +kernel, by decide +kernel⟩, List.mem_of_getElem? (i := 1490) (by decide +kernel), List.mem_of_getElem? (i := 1708) (by decide +kernel), List.mem_of_getElem? (i := 1709) (by decide +kernel)⟩
theorem lw_p93 : lw_okq (⟨"GrownKindsModel", "readsName", "()V"⟩, 52) := ⟨⟨by decide +kernel, by decide +kernel⟩, List.mem_of_getElem? (i := 1490) (by decide +kernel), List.mem_of_getElem? (i := 1712) (by decide +kernel), List.mem_of_getElem? (i := 1713) (by decide +kernel)⟩
theorem lw_p94 : lw_okq (⟨"GrownKindsModel", "key", "()I"⟩, 52) := ⟨⟨by decide +kernel, by decide +kernel⟩, List.mem_of_getElem? (i := 1490) (by decide +kernel), List.mem_of_getElem? (i := 1716) (by decide +kernel), List.mem_of_getElem? (i := 1717) (by decide +kernel)⟩
theorem lw_p95 : lw_okq (⟨"GrownKindsModel", "named", "()I"⟩, 52) := ⟨⟨by decide +kernel, by decide +kernel⟩, List.mem_of_getElem? (i := 1490) (by decide +kernel), List.mem_of_getElem? (i := 1720) (by decide +kernel), List.mem_of_getElem? (i := 1721) (by decide +kernel)⟩
def lw_privs_6 : List (MethodName × Nat) := [(⟨"GrownKinds$ThingReader", "take", "(I)V"⟩, 13), (⟨"GrownKinds", "rankOfRead", "(III)I"⟩, 19), (⟨"GrownKinds", "rolling", "(II)I"⟩, 19), (⟨"GrownKinds$Roll", "countAtoms", "(II)V"⟩, 9), (⟨"GrownKinds$Dealer", "advance", "()V"⟩, 7), (⟨"GrownKinds", "takeBack", "()V"⟩, 19), (⟨"GrownKindsModel", "clears", "()V"⟩, 52), (⟨"GrownKindsModel", "next", "()V"⟩, 52), (⟨"GrownKindsModel", "isAt", "(II)Z"⟩, 52), (⟨"GrownKindsModel", "readsHead", "()V"⟩, 52), (⟨"GrownKindsModel", "needsWord", "(I)V"⟩, 52), (⟨"GrownKindsModel", "isWord", "(I)Z"⟩, 52), (⟨"GrownKindsModel", "faults", "(I)I"⟩, 52), (⟨"GrownKindsModel", "readsName", "()V"⟩, 52), (⟨"GrownKindsModel", "key", "()I"⟩, 52), (⟨"GrownKindsModel", "named", "()I"⟩, 52)]
theorem lw_r6 : ∀ q ∈ lw_privs_6, lw_okq q := List.forall_mem_cons.mpr ⟨lw_p80, List.forall_mem_cons.mpr ⟨lw_p81, List.forall_mem_cons.mpr ⟨lw_p82, List.forall_mem_cons.mpr ⟨lw_p83, List.forall_mem_cons.mpr ⟨lw_p84, List.forall_mem_cons.mpr ⟨lw_p85, List.forall_mem_cons.mpr ⟨lw_p86, List.forall_mem_cons.mpr ⟨lw_p87, List.forall_mem_cons.mpr ⟨lw_p88, List.forall_mem_cons.mpr ⟨lw_p89, List.forall_mem_cons.mpr ⟨lw_p90, List.forall_mem_cons.mpr ⟨lw_p91, List.forall_mem_cons.mpr ⟨lw_p92, List.forall_mem_cons.mpr ⟨lw_p93, List.forall_mem_cons.mpr ⟨lw_p94, List.forall_mem_cons.mpr ⟨lw_p95, fun _ h => absurd h List.not_mem_nil⟩⟩⟩⟩⟩⟩⟩⟩⟩⟩⟩⟩⟩⟩⟩⟩
theorem lw_p96 : lw_okq (⟨"GrownKindsModel", "readsKind", "()V"⟩, 52) := ⟨⟨by decide +kernel, by decide +kernel⟩, List.mem_of_getElem? (i := 1490) (by decide +kernel), List.mem_of_getElem? (i := 1724) (by decide +kernel), List.mem_of_getElem? (i := 1725) (by decide +kernel)⟩
theorem lw_p97 : lw_okq (⟨"GrownKindsModel", "needs", "(C)V"⟩, 52) := ⟨⟨by decide +kernel, by decide +kernel⟩, List.mem_of_getElem? (i := 1490) (by decide +kernel), List.mem_of_getElem? (i := 1728) (by decide +kernel), List.mem_of_getElem? (i := 1729) (by decide +kernel)⟩
theorem lw_p98 : lw_okq (⟨"GrownKindsModel", "isSign", "(C)Z"⟩, 52) := ⟨⟨by decide +kernel, by decide +kernel⟩, List.mem_of_getElem? (i := 1490) (by decide +kernel), List.mem_of_getElem? (i := 1732) (by decide +kernel), List.mem_of_getElem? (i := 1733) (by decide +kernel)⟩
theorem lw_p99 : lw_okq (⟨"GrownKindsModel", "readsExpr", "(II)V"⟩, 52) := ⟨⟨by decide +kernel, by decide +kernel⟩, List.mem_of_getElem? (i := 1490) (by decide +kernel), List.mem_of_getElem? (i := 1736) (by decide +kernel), List.mem_of_getElem? (i := 1737) (by decide +kernel)⟩
theorem lw_p100 : lw_okq (⟨"GrownKindsModel", "readsPart", "(IZ)I"⟩, 52) := ⟨⟨by decide +kernel, by decide +kernel⟩, List.mem_of_getElem? (i := 1490) (by decide +kernel), List.mem_of_getElem? (i := 1740) (by decide +kernel), List.mem_of_getElem? (i := 1741) (by decide +kernel)⟩
theorem lw_p101 : lw_okq (⟨"GrownKindsModel", "readsAtom", "(I)V"⟩, 52) := ⟨⟨by decide +kernel, by decide +kernel⟩, List.mem_of_getElem? (i := 1490) (by decide +kernel), List.mem_of_getElem? (i := 1746) (by decide +kernel), List.mem_of_getElem? (i := 1747) (by decide +kernel)⟩
theorem lw_p102 : lw_okq (⟨"GrownKindsModel", "readsIn", "(III)V"⟩, 52) := ⟨⟨by decide +kernel, by decide +kernel⟩, List.mem_of_getElem? (i := 1490) (by decide +kernel), List.mem_of_getElem? (i := 1750) (by decide +kernel), List.mem_of_getElem? (i := 1751) (by decide +kernel)⟩
theorem lw_p103 : lw_okq (⟨"GrownKindsModel", "wrongKind", "()I"⟩, 52) := ⟨⟨by decide +kernel, by decide +kernel⟩, List.mem_of_getElem? (i := 1490) (by decide +kernel), List.mem_of_getElem? (i := 1755) (by decide +kernel), List.mem_of_getElem? (i := 1756) (by decide +kernel)⟩
theorem lw_p104 : lw_okq (⟨"GrownKindsModel", "empties", "()V"⟩, 52) := ⟨⟨by decide +kernel, by decide +kernel⟩, List.mem_of_getElem? (i := 1490) (by decide +kernel), List.mem_of_getElem? (i := 1759) (by decide +kernel), List.mem_of_getElem? (i := 1760) (by decide +kernel)⟩
theorem lw_p105 : lw_okq (⟨"GrownKindsModel", "isEmptyPart", "(I)Z"⟩, 52) := ⟨⟨by decide +kernel, by decide +kernel⟩, List.mem_of_getElem? (i := 1490) (by decide +kernel), List.mem_of_getElem? (i := 1763) (by decide +kernel), List.mem_of_getElem? (i := 1764) (by decide +kernel)⟩
theorem lw_p106 : lw_okq (⟨"GrownKindsModel", "isEmptyExpr", "(I)Z"⟩, 52) := ⟨⟨by decide +kernel, by decide +kernel⟩, List.mem_of_getElem? (i := 1490) (by decide +kernel), List.mem_of_getElem? (i := 1767) (by decide +kernel), List.mem_of_getElem? (i := 1768) (by decide +kernel)⟩
theorem lw_p107 : lw_okq (⟨"GrownKindsModel", "isOff", "(II)Z"⟩, 52) := ⟨⟨by decide +kernel, by decide +kernel⟩, List.mem_of_getElem? (i := 1490) (by decide +kernel), List.mem_of_getElem? (i := 1771) (by decide +kernel), List.mem_of_getElem? (i := 1772) (by decide +kernel)⟩
theorem lw_p108 : lw_okq (⟨"GrownKindsModel", "isEmptyTerm", "(II)Z"⟩, 52) := ⟨⟨by decide +kernel, by decide +kernel⟩, List.mem_of_getElem? (i := 1490) (by decide +kernel), List.mem_of_getElem? (i := 1778) (by decide +kernel), List.mem_of_getElem? (i := 1779) (by decide +kernel)⟩
theorem lw_p109 : lw_okq (⟨"GrownKindsModel", "leansOf", "(I)I"⟩, 52) := ⟨⟨by decide +kernel, by decide +kernel⟩, List.mem_of_getElem? (i := 1490) (by decide +kernel), List.mem_of_getElem? (i := 1782) (by decide +kernel), List.mem_of_getElem? (i := 1783) (by decide +kernel)⟩
theorem lw_p110 : lw_okq (⟨"GrownKindsModel", "leansIn", "(I)I"⟩, 52) := ⟨⟨by decide +kernel, by decide +kernel⟩, List.mem_of_getElem? (i := 1490) (by decide +kernel), List.mem_of_getElem? (i := 1786) (by decide +kernel), List.mem_of_getElem? (i := 1787) (by decide +kernel)⟩
theorem lw_p111 : lw_okq (⟨"GrownKindsModel", "isOfEmpty", "(I)Z"⟩, 52) := ⟨⟨by decide +kernel, by decide +kernel⟩, List.mem_of_getElem? (i := 1490) (by decide +kernel), List.mem_of_getElem? (i := 1792) (by decide +kernel), List.mem_of_getElem? (i := 1793) (by decide +kernel)⟩
def lw_privs_7 : List (MethodName × Nat) := [(⟨"GrownKindsModel", "readsKind", "()V"⟩, 52), (⟨"GrownKindsModel", "needs", "(C)V"⟩, 52), (⟨"GrownKindsModel", "isSign", "(C)Z"⟩, 52), (⟨"GrownKindsModel", "readsExpr", "(II)V"⟩, 52), (⟨"GrownKindsModel", "readsPart", "(IZ)I"⟩, 52), (⟨"GrownKindsModel", "readsAtom", "(I)V"⟩, 52), (⟨"GrownKindsModel", "readsIn", "(III)V"⟩, 52), (⟨"GrownKindsModel", "wrongKind", "()I"⟩, 52), (⟨"GrownKindsModel", "empties", "()V"⟩, 52), (⟨"GrownKindsModel", "isEmptyPart", "(I)Z"⟩, 52), (⟨"GrownKindsModel", "isEmptyExpr", "(I)Z"⟩, 52), (⟨"GrownKindsModel", "isOff", "(II)Z"⟩, 52), (⟨"GrownKindsModel", "isEmptyTerm", "(II)Z"⟩, 52), (⟨"GrownKindsModel", "leansOf", "(I)I"⟩, 52), (⟨"GrownKindsModel", "leansIn", "(I)I"⟩, 52), (⟨"GrownKindsModel", "isOfEmpty", "(I)Z"⟩, 52)]
theorem lw_r7 : ∀ q ∈ lw_privs_7, lw_okq q := List.forall_mem_cons.mpr ⟨lw_p96, List.forall_mem_cons.mpr ⟨lw_p97, List.forall_mem_cons.mpr ⟨lw_p98, List.forall_mem_cons.mpr ⟨lw_p99, List.forall_mem_cons.mpr ⟨lw_p100, List.forall_mem_cons.mpr ⟨lw_p101, List.forall_mem_cons.mpr ⟨lw_p102, List.forall_mem_cons.mpr ⟨lw_p103, List.forall_mem_cons.mpr ⟨lw_p104, List.forall_mem_cons.mpr ⟨lw_p105, List.forall_mem_cons.mpr ⟨lw_p106, List.forall_mem_cons.mpr ⟨lw_p107, List.forall_mem_cons.mpr ⟨lw_p108, List.forall_mem_cons.mpr ⟨lw_p109, List.forall_mem_cons.mpr ⟨lw_p110, List.forall_mem_cons.mpr ⟨lw_p111, fun _ h => absurd h List.not_mem_nil⟩⟩⟩⟩⟩⟩⟩⟩⟩⟩⟩⟩⟩⟩⟩⟩
theorem lw_p112 : lw_okq (⟨"GrownKindsModel", "isKind", "(I)Z"⟩, 52) := ⟨⟨by decide +kernel, by decide +kernel⟩, List.mem_of_getElem? (i := 1490) (by decide +kernel), List.mem_of_getElem? (i := 1808) (by decide +kernel), List.mem_of_getElem? (i := 1809) (by decide +kernel)⟩
theorem lw_p113 : lw_okq (⟨"GrownKindsModel", "stands", "(II)I"⟩, 52) := ⟨⟨by decide +kernel, by decide +kernel⟩, List.mem_of_getElem? (i := 1490) (by decide +kernel), List.mem_of_getElem? (i := 1820) (by decide +kernel), List.mem_of_getElem? (i := 1821) (by decide +kernel)⟩
theorem lw_p114 : lw_okq (⟨"GrownKindsModel", "standsIn", "(II)I"⟩, 52) := ⟨⟨by decide +kernel, by decide +kernel⟩, List.mem_of_getElem? (i := 1490) (by decide +kernel), List.mem_of_getElem? (i := 1824) (by decide +kernel), List.mem_of_getElem? (i := 1825) (by decide +kernel)⟩
theorem lw_p115 : lw_okq (⟨"GrownKindsModel", "counts", "(I)V"⟩, 52) := ⟨⟨by decide +kernel, by decide +kernel⟩, List.mem_of_getElem? (i := 1490) (by decide +kernel), List.mem_of_getElem? (i := 1848) (by decide +kernel), List.mem_of_getElem? (i := 1849) (by decide +kernel)⟩
theorem lw_p116 : lw_okq (⟨"GrownKindsModel", "countsPart", "(IIII)V"⟩, 52) := ⟨⟨by decide +kernel, by decide +kernel⟩, List.mem_of_getElem? (i := 1490) (by decide +kernel), List.mem_of_getElem? (i := 1852) (by decide +kernel), List.mem_of_getElem? (i := 1853) (by decide +kernel)⟩
theorem lw_p117 : lw_okq (⟨"GrownKindsModel", "laysBags", "(IIIZ)V"⟩, 52) := ⟨⟨by decide +kernel, by decide +kernel⟩, List.mem_of_getElem? (i := 1490) (by decide +kernel), List.mem_of_getElem? (i := 1856) (by decide +kernel), List.mem_of_getElem? (i := 1857) (by decide +kernel)⟩
theorem lw_p118 : lw_okq (⟨"GrownKindsModel", "addsBags", "(JIIIIZ)V"⟩, 52) := ⟨⟨by decide +kernel, by decide +kernel⟩, List.mem_of_getElem? (i := 1490) (by decide +kernel), List.mem_of_getElem? (i := 1863) (by decide +kernel), List.mem_of_getElem? (i := 1864) (by decide +kernel)⟩
theorem lw_p119 : lw_okq (⟨"GrownKindsModel", "laysRows", "(III)V"⟩, 52) := ⟨⟨by decide +kernel, by decide +kernel⟩, List.mem_of_getElem? (i := 1490) (by decide +kernel), List.mem_of_getElem? (i := 1879) (by decide +kernel), List.mem_of_getElem? (i := 1880) (by decide +kernel)⟩
theorem lw_p120 : lw_okq (⟨"GrownKindsModel", "exprMany", "(III)J"⟩, 52) := ⟨⟨by decide +kernel, by decide +kernel⟩, List.mem_of_getElem? (i := 1490) (by decide +kernel), List.mem_of_getElem? (i := 1884) (by decide +kernel), List.mem_of_getElem? (i := 1885) (by decide +kernel)⟩
theorem lw_p121 : lw_okq (⟨"GrownKindsModel", "inMany", "(IIII)J"⟩, 52) := ⟨⟨by decide +kernel, by decide +kernel⟩, List.mem_of_getElem? (i := 1490) (by decide +kernel), List.mem_of_getElem? (i := 1888) (by decide +kernel), List.mem_of_getElem? (i := 1889) (by decide +kernel)⟩
theorem lw_p122 : lw_okq (⟨"GrownKindsModel", "ringsMany", "(III)J"⟩, 52) := ⟨⟨by decide +kernel, by decide +kernel⟩, List.mem_of_getElem? (i := 1490) (by decide +kernel), List.mem_of_getElem? (i := 1892) (by decide +kernel), List.mem_of_getElem? (i := 1893) (by decide +kernel)⟩
theorem lw_p123 : lw_okq (⟨"GrownKindsModel", "countsRest", "(III)V"⟩, 52) := ⟨⟨by decide +kernel, by decide +kernel⟩, List.mem_of_getElem? (i := 1490) (by decide +kernel), List.mem_of_getElem? (i := 1899) (by decide +kernel), List.mem_of_getElem? (i := 1900) (by decide +kernel)⟩
theorem lw_p124 : lw_okq (⟨"GrownKindsModel", "upTo", "(III)J"⟩, 52) := ⟨⟨by decide +kernel, by decide +kernel⟩, List.mem_of_getElem? (i := 1490) (by decide +kernel), List.mem_of_getElem? (i := 1903) (by decide +kernel), List.mem_of_getElem? (i := 1904) (by decide +kernel)⟩
theorem lw_p125 : lw_okq (⟨"GrownKindsModel", "kindMany", "(II)J"⟩, 52) := ⟨⟨by decide +kernel, by decide +kernel⟩, List.mem_of_getElem? (i := 1490) (by decide +kernel), List.mem_of_getElem? (i := 1907) (by decide +kernel), List.mem_of_getElem? (i := 1908) (by decide +kernel)⟩
theorem lw_p126 : lw_okq (⟨"GrownKindsModel", "isSize", "(I)Z"⟩, 52) := ⟨⟨by decide +kernel, by decide +kernel⟩, List.mem_of_getElem? (i := 1490) (by decide +kernel), List.mem_of_getElem? (i := 1923) (by decide +kernel), List.mem_of_getElem? (i := 1924) (by decide +kernel)⟩
theorem lw_p127 : lw_okq (⟨"GrownKindsModel", "isTerm", "(II)Z"⟩, 52) := ⟨⟨by decide +kernel, by decide +kernel⟩, List.mem_of_getElem? (i := 1490) (by decide +kernel), List.mem_of_getElem? (i := 1942) (by decide +kernel), List.mem_of_getElem? (i := 1943) (by decide +kernel)⟩
def lw_privs_8 : List (MethodName × Nat) := [(⟨"GrownKindsModel", "isKind", "(I)Z"⟩, 52), (⟨"GrownKindsModel", "stands", "(II)I"⟩, 52), (⟨"GrownKindsModel", "standsIn", "(II)I"⟩, 52), (⟨"GrownKindsModel", "counts", "(I)V"⟩, 52), (⟨"GrownKindsModel", "countsPart", "(IIII)V"⟩, 52), (⟨"GrownKindsModel", "laysBags", "(IIIZ)V"⟩, 52), (⟨"GrownKindsModel", "addsBags", "(JIIIIZ)V"⟩, 52), (⟨"GrownKindsModel", "laysRows", "(III)V"⟩, 52), (⟨"GrownKindsModel", "exprMany", "(III)J"⟩, 52), (⟨"GrownKindsModel", "inMany", "(IIII)J"⟩, 52), (⟨"GrownKindsModel", "ringsMany", "(III)J"⟩, 52), (⟨"GrownKindsModel", "countsRest", "(III)V"⟩, 52), (⟨"GrownKindsModel", "upTo", "(III)J"⟩, 52), (⟨"GrownKindsModel", "kindMany", "(II)J"⟩, 52), (⟨"GrownKindsModel", "isSize", "(I)Z"⟩, 52), (⟨"GrownKindsModel", "isTerm", "(II)Z"⟩, 52)]
theorem lw_r8 : ∀ q ∈ lw_privs_8, lw_okq q := List.forall_mem_cons.mpr ⟨lw_p112, List.forall_mem_cons.mpr ⟨lw_p113, List.forall_mem_cons.mpr ⟨lw_p114, List.forall_mem_cons.mpr ⟨lw_p115, List.forall_mem_cons.mpr ⟨lw_p116, List.forall_mem_cons.mpr ⟨lw_p117, List.forall_mem_cons.mpr ⟨lw_p118, List.forall_mem_cons.mpr ⟨lw_p119, List.forall_mem_cons.mpr ⟨lw_p120, List.forall_mem_cons.mpr ⟨lw_p121, List.forall_mem_cons.mpr ⟨lw_p122, List.forall_mem_cons.mpr ⟨lw_p123, List.forall_mem_cons.mpr ⟨lw_p124, List.forall_mem_cons.mpr ⟨lw_p125, List.forall_mem_cons.mpr ⟨lw_p126, List.forall_mem_cons.mpr ⟨lw_p127, fun _ h => absurd h List.not_mem_nil⟩⟩⟩⟩⟩⟩⟩⟩⟩⟩⟩⟩⟩⟩⟩⟩
theorem lw_p128 : lw_okq (⟨"GrownKindsModel", "byTerm", "(III)J"⟩, 52) := ⟨⟨by decide +kernel, by decide +kernel⟩, List.mem_of_getElem? (i := 1490) (by decide +kernel), List.mem_of_getElem? (i := 1946) (by decide +kernel), List.mem_of_getElem? (i := 1947) (by decide +kernel)⟩
theorem lw_p129 : lw_okq (⟨"GrownKindsModel", "termAt", "(II)I"⟩, 52) := ⟨⟨by decide +kernel, by decide +kernel⟩, List.mem_of_getElem? (i := 1490) (by decide +kernel), List.mem_of_getElem? (i := 1950) (by decide +kernel), List.mem_of_getElem? (i := 1951) (by decide +kernel)⟩
theorem lw_p130 : lw_okq (⟨"GrownKindsModel", "manyWithout", "(IIII)J"⟩, 52) := ⟨⟨by decide +kernel, by decide +kernel⟩, List.mem_of_getElem? (i := 1490) (by decide +kernel), List.mem_of_getElem? (i := 1958) (by decide +kernel), List.mem_of_getElem? (i := 1959) (by decide +kernel)⟩
theorem lw_p131 : lw_okq (⟨"GrownKindsModel", "names", "()V"⟩, 52) := ⟨⟨by decide +kernel, by decide +kernel⟩, List.mem_of_getElem? (i := 1490) (by decide +kernel), List.mem_of_getElem? (i := 1974) (by decide +kernel), List.mem_of_getElem? (i := 1975) (by decide +kernel)⟩
theorem lw_p132 : lw_okq (⟨"GrownKindsModel", "namedPart", "(II)J"⟩, 52) := ⟨⟨by decide +kernel, by decide +kernel⟩, List.mem_of_getElem? (i := 1490) (by decide +kernel), List.mem_of_getElem? (i := 1978) (by decide +kernel), List.mem_of_getElem? (i := 1979) (by decide +kernel)⟩
theorem lw_p133 : lw_okq (⟨"GrownKindsModel", "namedExpr", "(II)J"⟩, 52) := ⟨⟨by decide +kernel, by decide +kernel⟩, List.mem_of_getElem? (i := 1490) (by decide +kernel), List.mem_of_getElem? (i := 1982) (by decide +kernel), List.mem_of_getElem? (i := 1983) (by decide +kernel)⟩
theorem lw_p134 : lw_okq (⟨"GrownKindsModel", "namedIn", "(IIII)J"⟩, 52) := ⟨⟨by decide +kernel, by decide +kernel⟩, List.mem_of_getElem? (i := 1490) (by decide +kernel), List.mem_of_getElem? (i := 1986) (by decide +kernel), List.mem_of_getElem? (i := 1987) (by decide +kernel)⟩
theorem lw_p135 : lw_okq (⟨"GrownKindsModel", "namesRest", "(II)V"⟩, 52) := ⟨⟨by decide +kernel, by decide +kernel⟩, List.mem_of_getElem? (i := 1490) (by decide +kernel), List.mem_of_getElem? (i := 1996) (by decide +kernel), List.mem_of_getElem? (i := 1997) (by decide +kernel)⟩
theorem lw_p136 : lw_okq (⟨"GrownKindsModel", "whyNot", "(III)I"⟩, 52) := ⟨⟨by decide +kernel, by decide +kernel⟩, List.mem_of_getElem? (i := 1490) (by decide +kernel), List.mem_of_getElem? (i := 2004) (by decide +kernel), List.mem_of_getElem? (i := 2005) (by decide +kernel)⟩
theorem lw_p137 : lw_okq (⟨"GrownKindsModel", "goes", "(IIIII)V"⟩, 52) := ⟨⟨by decide +kernel, by decide +kernel⟩, List.mem_of_getElem? (i := 1490) (by decide +kernel), List.mem_of_getElem? (i := 2009) (by decide +kernel), List.mem_of_getElem? (i := 2010) (by decide +kernel)⟩
theorem lw_p138 : lw_okq (⟨"GrownKindsModel", "goesExpr", "(IIJI)V"⟩, 52) := ⟨⟨by decide +kernel, by decide +kernel⟩, List.mem_of_getElem? (i := 1490) (by decide +kernel), List.mem_of_getElem? (i := 2013) (by decide +kernel), List.mem_of_getElem? (i := 2014) (by decide +kernel)⟩
theorem lw_p139 : lw_okq (⟨"GrownKindsModel", "signs", "(I)V"⟩, 52) := ⟨⟨by decide +kernel, by decide +kernel⟩, List.mem_of_getElem? (i := 1490) (by decide +kernel), List.mem_of_getElem? (i := 2017) (by decide +kernel), List.mem_of_getElem? (i := 2018) (by decide +kernel)⟩
theorem lw_p140 : lw_okq (⟨"GrownKindsModel", "pairs", "(III)J"⟩, 52) := ⟨⟨by decide +kernel, by decide +kernel⟩, List.mem_of_getElem? (i := 1490) (by decide +kernel), List.mem_of_getElem? (i := 2021) (by decide +kernel), List.mem_of_getElem? (i := 2022) (by decide +kernel)⟩
theorem lw_p141 : lw_okq (⟨"GrownKindsModel", "behind", "(II)J"⟩, 52) := ⟨⟨by decide +kernel, by decide +kernel⟩, List.mem_of_getElem? (i := 1490) (by decide +kernel), List.mem_of_getElem? (i := 2025) (by decide +kernel), List.mem_of_getElem? (i := 2026) (by decide +kernel)⟩
theorem lw_p142 : lw_okq (⟨"GrownKindsModel", "goesPart", "(IIJI)V"⟩, 52) := ⟨⟨by decide +kernel, by decide +kernel⟩, List.mem_of_getElem? (i := 1490) (by decide +kernel), List.mem_of_getElem? (i := 2029) (by decide +kernel), List.mem_of_getElem? (i := 2030) (by decide +kernel)⟩
theorem lw_p143 : lw_okq (⟨"GrownKindsModel", "goesIn", "(IIJI)V"⟩, 52) := ⟨⟨by decide +kernel, by decide +kernel⟩, List.mem_of_getElem? (i := 1490) (by decide +kernel), List.mem_of_getElem? (i := 2033) (by decide +kernel), List.mem_of_getElem? (i := 2034) (by decide +kernel)⟩
def lw_privs_9 : List (MethodName × Nat) := [(⟨"GrownKindsModel", "byTerm", "(III)J"⟩, 52), (⟨"GrownKindsModel", "termAt", "(II)I"⟩, 52), (⟨"GrownKindsModel", "manyWithout", "(IIII)J"⟩, 52), (⟨"GrownKindsModel", "names", "()V"⟩, 52), (⟨"GrownKindsModel", "namedPart", "(II)J"⟩, 52), (⟨"GrownKindsModel", "namedExpr", "(II)J"⟩, 52), (⟨"GrownKindsModel", "namedIn", "(IIII)J"⟩, 52), (⟨"GrownKindsModel", "namesRest", "(II)V"⟩, 52), (⟨"GrownKindsModel", "whyNot", "(III)I"⟩, 52), (⟨"GrownKindsModel", "goes", "(IIIII)V"⟩, 52), (⟨"GrownKindsModel", "goesExpr", "(IIJI)V"⟩, 52), (⟨"GrownKindsModel", "signs", "(I)V"⟩, 52), (⟨"GrownKindsModel", "pairs", "(III)J"⟩, 52), (⟨"GrownKindsModel", "behind", "(II)J"⟩, 52), (⟨"GrownKindsModel", "goesPart", "(IIJI)V"⟩, 52), (⟨"GrownKindsModel", "goesIn", "(IIJI)V"⟩, 52)]
theorem lw_r9 : ∀ q ∈ lw_privs_9, lw_okq q := List.forall_mem_cons.mpr ⟨lw_p128, List.forall_mem_cons.mpr ⟨lw_p129, List.forall_mem_cons.mpr ⟨lw_p130, List.forall_mem_cons.mpr ⟨lw_p131, List.forall_mem_cons.mpr ⟨lw_p132, List.forall_mem_cons.mpr ⟨lw_p133, List.forall_mem_cons.mpr ⟨lw_p134, List.forall_mem_cons.mpr ⟨lw_p135, List.forall_mem_cons.mpr ⟨lw_p136, List.forall_mem_cons.mpr ⟨lw_p137, List.forall_mem_cons.mpr ⟨lw_p138, List.forall_mem_cons.mpr ⟨lw_p139, List.forall_mem_cons.mpr ⟨lw_p140, List.forall_mem_cons.mpr ⟨lw_p141, List.forall_mem_cons.mpr ⟨lw_p142, List.forall_mem_cons.mpr ⟨lw_p143, fun _ h => absurd h List.not_mem_nil⟩⟩⟩⟩⟩⟩⟩⟩⟩⟩⟩⟩⟩⟩⟩⟩
theorem lw_p144 : lw_okq (⟨"GrownKindsModel", "findsRow", "(III)V"⟩, 52) := ⟨⟨by decide +kernel, by decide +kernel⟩, List.mem_of_getElem? (i := 1490) (by decide +kernel), List.mem_of_getElem? (i := 2037) (by decide +kernel), List.mem_of_getElem? (i := 2038) (by decide +kernel)⟩
theorem lw_p145 : lw_okq (⟨"GrownKindsModel", "rowsOf", "(III)J"⟩, 52) := ⟨⟨by decide +kernel, by decide +kernel⟩, List.mem_of_getElem? (i := 1490) (by decide +kernel), List.mem_of_getElem? (i := 2044) (by decide +kernel), List.mem_of_getElem? (i := 2045) (by decide +kernel)⟩
theorem lw_p146 : lw_okq (⟨"GrownKindsModel", "pushes", "(II)V"⟩, 52) := ⟨⟨by decide +kernel, by decide +kernel⟩, List.mem_of_getElem? (i := 1490) (by decide +kernel), List.mem_of_getElem? (i := 2048) (by decide +kernel), List.mem_of_getElem? (i := 2049) (by decide +kernel)⟩
theorem lw_p147 : lw_okq (⟨"GrownKindsModel", "seeks", "(IIII)Z"⟩, 52) := ⟨⟨by decide +kernel, by decide +kernel⟩, List.mem_of_getElem? (i := 1490) (by decide +kernel), List.mem_of_getElem? (i := 2052) (by decide +kernel), List.mem_of_getElem? (i := 2053) (by decide +kernel)⟩
theorem lw_p148 : lw_okq (⟨"GrownKindsModel", "isLeast", "(I)Z"⟩, 52) := ⟨⟨by decide +kernel, by decide +kernel⟩, List.mem_of_getElem? (i := 1490) (by decide +kernel), List.mem_of_getElem? (i := 2056) (by decide +kernel), List.mem_of_getElem? (i := 2057) (by decide +kernel)⟩
theorem lw_p149 : lw_okq (⟨"GrownKindsModel", "areAlike", "(II)Z"⟩, 52) := ⟨⟨by decide +kernel, by decide +kernel⟩, List.mem_of_getElem? (i := 1490) (by decide +kernel), List.mem_of_getElem? (i := 2060) (by decide +kernel), List.mem_of_getElem? (i := 2061) (by decide +kernel)⟩
theorem lw_p150 : lw_okq (⟨"GrownKindsModel", "isBelow", "(III)Z"⟩, 52) := ⟨⟨by decide +kernel, by decide +kernel⟩, List.mem_of_getElem? (i := 1490) (by decide +kernel), List.mem_of_getElem? (i := 2064) (by decide +kernel), List.mem_of_getElem? (i := 2065) (by decide +kernel)⟩
theorem lw_p151 : lw_okq (⟨"GrownKindsModel", "findsBag", "(IIIZ)V"⟩, 52) := ⟨⟨by decide +kernel, by decide +kernel⟩, List.mem_of_getElem? (i := 1490) (by decide +kernel), List.mem_of_getElem? (i := 2068) (by decide +kernel), List.mem_of_getElem? (i := 2069) (by decide +kernel)⟩
theorem lw_p152 : lw_okq (⟨"GrownKindsModel", "bagsOf", "(IIIIJZ)J"⟩, 52) := ⟨⟨by decide +kernel, by decide +kernel⟩, List.mem_of_getElem? (i := 1490) (by decide +kernel), List.mem_of_getElem? (i := 2072) (by decide +kernel), List.mem_of_getElem? (i := 2073) (by decide +kernel)⟩
theorem lw_p153 : lw_okq (⟨"GrownKindsModel", "changes", "(II)I"⟩, 52) := ⟨⟨by decide +kernel, by decide +kernel⟩, List.mem_of_getElem? (i := 1490) (by decide +kernel), List.mem_of_getElem? (i := 2076) (by decide +kernel), List.mem_of_getElem? (i := 2077) (by decide +kernel)⟩
theorem lw_p154 : lw_okq (⟨"GrownKindsModel", "turnsIn", "(II)I"⟩, 52) := ⟨⟨by decide +kernel, by decide +kernel⟩, List.mem_of_getElem? (i := 1490) (by decide +kernel), List.mem_of_getElem? (i := 2080) (by decide +kernel), List.mem_of_getElem? (i := 2081) (by decide +kernel)⟩
theorem lw_p155 : lw_okq (⟨"GrownKindsModel", "readsWhole", "(I)I"⟩, 52) := ⟨⟨by decide +kernel, by decide +kernel⟩, List.mem_of_getElem? (i := 1490) (by decide +kernel), List.mem_of_getElem? (i := 2116) (by decide +kernel), List.mem_of_getElem? (i := 2117) (by decide +kernel)⟩
theorem lw_p156 : lw_okq (⟨"GrownKindsModel", "readsTerm", "(I)I"⟩, 52) := ⟨⟨by decide +kernel, by decide +kernel⟩, List.mem_of_getElem? (i := 1490) (by decide +kernel), List.mem_of_getElem? (i := 2120) (by decide +kernel), List.mem_of_getElem? (i := 2121) (by decide +kernel)⟩
theorem lw_p157 : lw_okq (⟨"GrownKindsModel", "here", "()I"⟩, 52) := ⟨⟨by decide +kernel, by decide +kernel⟩, List.mem_of_getElem? (i := 1490) (by decide +kernel), List.mem_of_getElem? (i := 2124) (by decide +kernel), List.mem_of_getElem? (i := 2125) (by decide +kernel)⟩
theorem lw_p158 : lw_okq (⟨"GrownKindsModel", "node", "(III)I"⟩, 52) := ⟨⟨by decide +kernel, by decide +kernel⟩, List.mem_of_getElem? (i := 1490) (by decide +kernel), List.mem_of_getElem? (i := 2128) (by decide +kernel), List.mem_of_getElem? (i := 2129) (by decide +kernel)⟩
theorem lw_p159 : lw_okq (⟨"GrownKindsModel", "readsThing", "(I)I"⟩, 52) := ⟨⟨by decide +kernel, by decide +kernel⟩, List.mem_of_getElem? (i := 1490) (by decide +kernel), List.mem_of_getElem? (i := 2132) (by decide +kernel), List.mem_of_getElem? (i := 2133) (by decide +kernel)⟩
def lw_privs_10 : List (MethodName × Nat) := [(⟨"GrownKindsModel", "findsRow", "(III)V"⟩, 52), (⟨"GrownKindsModel", "rowsOf", "(III)J"⟩, 52), (⟨"GrownKindsModel", "pushes", "(II)V"⟩, 52), (⟨"GrownKindsModel", "seeks", "(IIII)Z"⟩, 52), (⟨"GrownKindsModel", "isLeast", "(I)Z"⟩, 52), (⟨"GrownKindsModel", "areAlike", "(II)Z"⟩, 52), (⟨"GrownKindsModel", "isBelow", "(III)Z"⟩, 52), (⟨"GrownKindsModel", "findsBag", "(IIIZ)V"⟩, 52), (⟨"GrownKindsModel", "bagsOf", "(IIIIJZ)J"⟩, 52), (⟨"GrownKindsModel", "changes", "(II)I"⟩, 52), (⟨"GrownKindsModel", "turnsIn", "(II)I"⟩, 52), (⟨"GrownKindsModel", "readsWhole", "(I)I"⟩, 52), (⟨"GrownKindsModel", "readsTerm", "(I)I"⟩, 52), (⟨"GrownKindsModel", "here", "()I"⟩, 52), (⟨"GrownKindsModel", "node", "(III)I"⟩, 52), (⟨"GrownKindsModel", "readsThing", "(I)I"⟩, 52)]
theorem lw_r10 : ∀ q ∈ lw_privs_10, lw_okq q := List.forall_mem_cons.mpr ⟨lw_p144, List.forall_mem_cons.mpr ⟨lw_p145, List.forall_mem_cons.mpr ⟨lw_p146, List.forall_mem_cons.mpr ⟨lw_p147, List.forall_mem_cons.mpr ⟨lw_p148, List.forall_mem_cons.mpr ⟨lw_p149, List.forall_mem_cons.mpr ⟨lw_p150, List.forall_mem_cons.mpr ⟨lw_p151, List.forall_mem_cons.mpr ⟨lw_p152, List.forall_mem_cons.mpr ⟨lw_p153, List.forall_mem_cons.mpr ⟨lw_p154, List.forall_mem_cons.mpr ⟨lw_p155, List.forall_mem_cons.mpr ⟨lw_p156, List.forall_mem_cons.mpr ⟨lw_p157, List.forall_mem_cons.mpr ⟨lw_p158, List.forall_mem_cons.mpr ⟨lw_p159, fun _ h => absurd h List.not_mem_nil⟩⟩⟩⟩⟩⟩⟩⟩⟩⟩⟩⟩⟩⟩⟩⟩
theorem lw_p160 : lw_okq (⟨"GrownKindsModel", "partOf", "(I)I"⟩, 52) := ⟨⟨by decide +kernel, by decide +kernel⟩, List.mem_of_getElem? (i := 1490) (by decide +kernel), List.mem_of_getElem? (i := 2136) (by decide +kernel), List.mem_of_getElem? (i := 2137) (by decide +kernel)⟩
theorem lw_p161 : lw_okq (⟨"GrownKindsModel", "isBlank", "(I)Z"⟩, 52) := ⟨⟨by decide +kernel, by decide +kernel⟩, List.mem_of_getElem? (i := 1490) (by decide +kernel), List.mem_of_getElem? (i := 2140) (by decide +kernel), List.mem_of_getElem? (i := 2141) (by decide +kernel)⟩
theorem lw_p162 : lw_okq (⟨"GrownKindsModel", "readsMany", "(I)I"⟩, 52) := ⟨⟨by decide +kernel, by decide +kernel⟩, List.mem_of_getElem? (i := 1490) (by decide +kernel), List.mem_of_getElem? (i := 2144) (by decide +kernel), List.mem_of_getElem? (i := 2145) (by decide +kernel)⟩
theorem lw_p163 : lw_okq (⟨"GrownKindsModel", "isAmong", "(II)Z"⟩, 52) := ⟨⟨by decide +kernel, by decide +kernel⟩, List.mem_of_getElem? (i := 1490) (by decide +kernel), List.mem_of_getElem? (i := 2148) (by decide +kernel), List.mem_of_getElem? (i := 2149) (by decide +kernel)⟩
theorem lw_p164 : lw_okq (⟨"GrownKindsModel", "areSame", "(II)Z"⟩, 52) := ⟨⟨by decide +kernel, by decide +kernel⟩, List.mem_of_getElem? (i := 1490) (by decide +kernel), List.mem_of_getElem? (i := 2152) (by decide +kernel), List.mem_of_getElem? (i := 2153) (by decide +kernel)⟩
theorem lw_p165 : lw_okq (⟨"GrownKindsModel", "areSameBags", "(II)Z"⟩, 52) := ⟨⟨by decide +kernel, by decide +kernel⟩, List.mem_of_getElem? (i := 1490) (by decide +kernel), List.mem_of_getElem? (i := 2156) (by decide +kernel), List.mem_of_getElem? (i := 2157) (by decide +kernel)⟩
theorem lw_p166 : lw_okq (⟨"GrownKindsModel", "areSameFrom", "(III)Z"⟩, 52) := ⟨⟨by decide +kernel, by decide +kernel⟩, List.mem_of_getElem? (i := 1490) (by decide +kernel), List.mem_of_getElem? (i := 2160) (by decide +kernel), List.mem_of_getElem? (i := 2161) (by decide +kernel)⟩
theorem lw_p167 : lw_okq (⟨"GrownKindsModel", "comesBehind", "(IIII)I"⟩, 52) := ⟨⟨by decide +kernel, by decide +kernel⟩, List.mem_of_getElem? (i := 1490) (by decide +kernel), List.mem_of_getElem? (i := 2164) (by decide +kernel), List.mem_of_getElem? (i := 2165) (by decide +kernel)⟩
theorem lw_p168 : lw_okq (⟨"GrownKindsModel", "takesSpelled", "()V"⟩, 52) := ⟨⟨by decide +kernel, by decide +kernel⟩, List.mem_of_getElem? (i := 1490) (by decide +kernel), List.mem_of_getElem? (i := 2168) (by decide +kernel), List.mem_of_getElem? (i := 2169) (by decide +kernel)⟩
theorem lw_p169 : lw_okq (⟨"GrownKindsModel", "whyNone", "(II)I"⟩, 52) := ⟨⟨by decide +kernel, by decide +kernel⟩, List.mem_of_getElem? (i := 1490) (by decide +kernel), List.mem_of_getElem? (i := 2180) (by decide +kernel), List.mem_of_getElem? (i := 2181) (by decide +kernel)⟩
theorem lw_p170 : lw_okq (⟨"GrownKindsModel", "most", "(IIII)I"⟩, 52) := ⟨⟨by decide +kernel, by decide +kernel⟩, List.mem_of_getElem? (i := 1490) (by decide +kernel), List.mem_of_getElem? (i := 2188) (by decide +kernel), List.mem_of_getElem? (i := 2189) (by decide +kernel)⟩
theorem lw_p171 : lw_okq (⟨"GrownKindsModel", "isBox", "(III)Z"⟩, 52) := ⟨⟨by decide +kernel, by decide +kernel⟩, List.mem_of_getElem? (i := 1490) (by decide +kernel), List.mem_of_getElem? (i := 2218) (by decide +kernel), List.mem_of_getElem? (i := 2219) (by decide +kernel)⟩
theorem lw_p172 : lw_okq (⟨"GrownKindsModel", "inBox", "(IIII)I"⟩, 52) := ⟨⟨by decide +kernel, by decide +kernel⟩, List.mem_of_getElem? (i := 1490) (by decide +kernel), List.mem_of_getElem? (i := 2227) (by decide +kernel), List.mem_of_getElem? (i := 2228) (by decide +kernel)⟩
theorem lw_p173 : lw_okq (⟨"GrownKindsModel", "rankIn", "(III)I"⟩, 52) := ⟨⟨by decide +kernel, by decide +kernel⟩, List.mem_of_getElem? (i := 1490) (by decide +kernel), List.mem_of_getElem? (i := 2239) (by decide +kernel), List.mem_of_getElem? (i := 2240) (by decide +kernel)⟩
theorem lw_p174 : lw_okq (⟨"GrownKindsModel", "takesBack", "()V"⟩, 52) := ⟨⟨by decide +kernel, by decide +kernel⟩, List.mem_of_getElem? (i := 1490) (by decide +kernel), List.mem_of_getElem? (i := 2267) (by decide +kernel), List.mem_of_getElem? (i := 2268) (by decide +kernel)⟩
def lw_privs_11 : List (MethodName × Nat) := [(⟨"GrownKindsModel", "partOf", "(I)I"⟩, 52), (⟨"GrownKindsModel", "isBlank", "(I)Z"⟩, 52), (⟨"GrownKindsModel", "readsMany", "(I)I"⟩, 52), (⟨"GrownKindsModel", "isAmong", "(II)Z"⟩, 52), (⟨"GrownKindsModel", "areSame", "(II)Z"⟩, 52), (⟨"GrownKindsModel", "areSameBags", "(II)Z"⟩, 52), (⟨"GrownKindsModel", "areSameFrom", "(III)Z"⟩, 52), (⟨"GrownKindsModel", "comesBehind", "(IIII)I"⟩, 52), (⟨"GrownKindsModel", "takesSpelled", "()V"⟩, 52), (⟨"GrownKindsModel", "whyNone", "(II)I"⟩, 52), (⟨"GrownKindsModel", "most", "(IIII)I"⟩, 52), (⟨"GrownKindsModel", "isBox", "(III)Z"⟩, 52), (⟨"GrownKindsModel", "inBox", "(IIII)I"⟩, 52), (⟨"GrownKindsModel", "rankIn", "(III)I"⟩, 52), (⟨"GrownKindsModel", "takesBack", "()V"⟩, 52)]
theorem lw_r11 : ∀ q ∈ lw_privs_11, lw_okq q := List.forall_mem_cons.mpr ⟨lw_p160, List.forall_mem_cons.mpr ⟨lw_p161, List.forall_mem_cons.mpr ⟨lw_p162, List.forall_mem_cons.mpr ⟨lw_p163, List.forall_mem_cons.mpr ⟨lw_p164, List.forall_mem_cons.mpr ⟨lw_p165, List.forall_mem_cons.mpr ⟨lw_p166, List.forall_mem_cons.mpr ⟨lw_p167, List.forall_mem_cons.mpr ⟨lw_p168, List.forall_mem_cons.mpr ⟨lw_p169, List.forall_mem_cons.mpr ⟨lw_p170, List.forall_mem_cons.mpr ⟨lw_p171, List.forall_mem_cons.mpr ⟨lw_p172, List.forall_mem_cons.mpr ⟨lw_p173, List.forall_mem_cons.mpr ⟨lw_p174, fun _ h => absurd h List.not_mem_nil⟩⟩⟩⟩⟩⟩⟩⟩⟩⟩⟩⟩⟩⟩⟩
def lw_privs : List (MethodName × Nat) := lw_privs_1 ++ (lw_privs_2 ++ (lw_privs_3 ++ (lw_privs_4 ++ (lw_privs_5 ++ (lw_privs_6 ++ (lw_privs_7 ++ (lw_privs_8 ++ (lw_privs_9 ++ (lw_privs_10 ++ (lw_privs_11))))))))))
def lw_tbl : List Cond := k2_sels lw_privs ++ tables_1
theorem lw_privs_ok : ∀ q ∈ lw_privs, lw_okq q := by
  show ∀ q ∈ lw_privs_1 ++ (lw_privs_2 ++ (lw_privs_3 ++ (lw_privs_4 ++ (lw_privs_5 ++ (lw_privs_6 ++ (lw_privs_7 ++ (lw_privs_8 ++ (lw_privs_9 ++ (lw_privs_10 ++ (lw_privs_11)))))))))), lw_okq q
  exact List.forall_mem_append.mpr ⟨lw_r1, List.forall_mem_append.mpr ⟨lw_r2, List.forall_mem_append.mpr ⟨lw_r3, List.forall_mem_append.mpr ⟨lw_r4, List.forall_mem_append.mpr ⟨lw_r5, List.forall_mem_append.mpr ⟨lw_r6, List.forall_mem_append.mpr ⟨lw_r7, List.forall_mem_append.mpr ⟨lw_r8, List.forall_mem_append.mpr ⟨lw_r9, List.forall_mem_append.mpr ⟨lw_r10, lw_r11⟩⟩⟩⟩⟩⟩⟩⟩⟩⟩
end
section
def RX0 : String := "GrownKinds$Census"
def TX0 : u_T := fun k => match k with
  | 0 => ("GrownKinds$Census", "grammar", "LGrownKinds$Grammar;", true)
  | 1 => ("GrownKinds$Census", "mode", "I", false)
  | 2 => ("GrownKinds$Census", "own", "[J", true)
  | 3 => ("GrownKinds$Census", "tail", "[J", true)
  | 4 => ("GrownKinds$Census", "total", "[J", true)
  | 5 => ("GrownKinds$Census", "rows", "[J", true)
  | 6 => ("GrownKinds$Census", "ways", "[J", true)
  | _ => ("GrownKinds$Census", "stages", "[J", true)
def tyX0 : Nat → FieldType := fun k => match k with
  | 0 => .object "GrownKinds$Grammar"
  | 1 => .int
  | 2 => .array .long
  | 3 => .array .long
  | 4 => .array .long
  | 5 => .array .long
  | 6 => .array .long
  | _ => .array .long
abbrev wsX00 : List Cond := u_ws RX0 TX0 8
theorem nmX0 : ∀ a, a < 8 → ∀ b, b < 8 → a ≠ b → (TX0 a).2.1 ≠ (TX0 b).2.1 := by decide +kernel
theorem tyX0_ok : ∀ k, k < 8 → parseFieldDescriptor (TX0 k).2.2.1 = some (tyX0 k) := by decide +kernel
abbrev cX0_init : ByteArray := prog_2_method_1_code
def yX0_init : MethodName := ⟨RX0, "<init>", "(LGrownKinds$Grammar;Z)V"⟩
abbrev cX0_take : ByteArray := prog_2_method_2_code
def yX0_take : MethodName := ⟨RX0, "take", "(I)V"⟩
abbrev cX0_totalAt : ByteArray := prog_2_method_3_code
def yX0_totalAt : MethodName := ⟨RX0, "totalAt", "(III)J"⟩
abbrev cX0_thingsAt : ByteArray := prog_2_method_4_code
def yX0_thingsAt : MethodName := ⟨RX0, "thingsAt", "(II)J"⟩
abbrev cX0_of : ByteArray := prog_2_method_5_code
def yX0_of : MethodName := ⟨RX0, "of", "(II)J"⟩
abbrev cX0_from : ByteArray := prog_2_method_6_code
def yX0_from : MethodName := ⟨RX0, "from", "(II)J"⟩
abbrev cX0_byTerm : ByteArray := prog_2_method_7_code
def yX0_byTerm : MethodName := ⟨RX0, "byTerm", "(III)J"⟩
abbrev cX0_everBy : ByteArray := prog_2_method_8_code
def yX0_everBy : MethodName := ⟨RX0, "everBy", "(II)Z"⟩
abbrev cX0_between : ByteArray := prog_2_method_9_code
def yX0_between : MethodName := ⟨RX0, "between", "(III)J"⟩
abbrev cX0_sizeAt : ByteArray := prog_2_method_10_code
def yX0_sizeAt : MethodName := ⟨RX0, "sizeAt", "(III)I"⟩
abbrev cX0_rankAt : ByteArray := prog_2_method_11_code
def yX0_rankAt : MethodName := ⟨RX0, "rankAt", "(III)I"⟩
abbrev cX0_rowsLeft : ByteArray := prog_2_method_12_code
def yX0_rowsLeft : MethodName := ⟨RX0, "rowsLeft", "(III)J"⟩
abbrev cX0_letterTop : ByteArray := prog_2_method_13_code
def yX0_letterTop : MethodName := ⟨RX0, "letterTop", "(I)I"⟩
abbrev cX0_sumTerms : ByteArray := prog_2_method_14_code
def yX0_sumTerms : MethodName := ⟨RX0, "sumTerms", "(II[JI)V"⟩
abbrev cX0_countPart : ByteArray := prog_2_method_15_code
def yX0_countPart : MethodName := ⟨RX0, "countPart", "(II)V"⟩
abbrev cX0_clearCells : ByteArray := prog_2_method_16_code
def yX0_clearCells : MethodName := ⟨RX0, "clearCells", "([JII)V"⟩
abbrev cX0_copyCells : ByteArray := prog_2_method_17_code
def yX0_copyCells : MethodName := ⟨RX0, "copyCells", "([JI[JII)V"⟩
abbrev cX0_weight : ByteArray := prog_2_method_18_code
def yX0_weight : MethodName := ⟨RX0, "weight", "(II)J"⟩
abbrev cX0_countTail : ByteArray := prog_2_method_19_code
def yX0_countTail : MethodName := ⟨RX0, "countTail", "(II)V"⟩
abbrev cX0_countSequence : ByteArray := prog_2_method_20_code
def yX0_countSequence : MethodName := ⟨RX0, "countSequence", "(II)V"⟩
abbrev cX0_inClasses : ByteArray := prog_2_method_21_code
def yX0_inClasses : MethodName := ⟨RX0, "inClasses", "(I)Z"⟩
abbrev cX0_clearRows : ByteArray := prog_2_method_22_code
def yX0_clearRows : MethodName := ⟨RX0, "clearRows", "(I)V"⟩
abbrev cX0_rowsOf : ByteArray := prog_2_method_23_code
def yX0_rowsOf : MethodName := ⟨RX0, "rowsOf", "(IIII)J"⟩
abbrev cX0_sequencesOf : ByteArray := prog_2_method_24_code
def yX0_sequencesOf : MethodName := ⟨RX0, "sequencesOf", "(IIII)J"⟩
abbrev cX0_ringsOf : ByteArray := prog_2_method_25_code
def yX0_ringsOf : MethodName := ⟨RX0, "ringsOf", "(IIII)J"⟩
abbrev cX0_longest : ByteArray := prog_2_method_26_code
def yX0_longest : MethodName := ⟨RX0, "longest", "(I)I"⟩
abbrev cX0_growRows : ByteArray := prog_2_method_27_code
def yX0_growRows : MethodName := ⟨RX0, "growRows", "(II)V"⟩
abbrev cX0_addClasses : ByteArray := prog_2_method_28_code
def yX0_addClasses : MethodName := ⟨RX0, "addClasses", "(II)V"⟩
abbrev cX0_keepStage : ByteArray := prog_2_method_29_code
def yX0_keepStage : MethodName := ⟨RX0, "keepStage", "(II)V"⟩
abbrev cX0_bagsUpTo : ByteArray := prog_2_method_30_code
def yX0_bagsUpTo : MethodName := ⟨RX0, "bagsUpTo", "(IIII)J"⟩
abbrev cX0_addClass : ByteArray := prog_2_method_31_code
def yX0_addClass : MethodName := ⟨RX0, "addClass", "(IIII)V"⟩
def RX1 : String := "GrownKinds$Dealer"
def TX1 : u_T := fun k => match k with
  | 0 => ("GrownKinds$Dealer", "census", "LGrownKinds$Census;", true)
  | 1 => ("GrownKinds$Dealer", "leftOver", "I", false)
  | 2 => ("GrownKinds$Dealer", "kind", "I", false)
  | 3 => ("GrownKinds$Dealer", "low", "I", false)
  | 4 => ("GrownKinds$Dealer", "many", "I", false)
  | 5 => ("GrownKinds$Dealer", "mask", "I", false)
  | _ => ("GrownKinds$Dealer", "place", "I", false)
def tyX1 : Nat → FieldType := fun k => match k with
  | 0 => .object "GrownKinds$Census"
  | 1 => .int
  | 2 => .int
  | 3 => .int
  | 4 => .int
  | 5 => .int
  | _ => .int
abbrev wsX10 : List Cond := u_ws RX1 TX1 7
theorem nmX1 : ∀ a, a < 7 → ∀ b, b < 7 → a ≠ b → (TX1 a).2.1 ≠ (TX1 b).2.1 := by decide +kernel
theorem tyX1_ok : ∀ k, k < 7 → parseFieldDescriptor (TX1 k).2.2.1 = some (tyX1 k) := by decide +kernel
abbrev cX1_init : ByteArray := prog_3_method_1_code
def yX1_init : MethodName := ⟨RX1, "<init>", "(LGrownKinds$Census;)V"⟩
abbrev cX1_bitsFor : ByteArray := prog_3_method_2_code
def yX1_bitsFor : MethodName := ⟨RX1, "bitsFor", "(J)I"⟩
abbrev cX1_draw : ByteArray := prog_3_method_3_code
def yX1_draw : MethodName := ⟨RX1, "draw", "(II)I"⟩
abbrev cX1_stop : ByteArray := prog_3_method_4_code
def yX1_stop : MethodName := ⟨RX1, "stop", "()V"⟩
abbrev cX1_begin : ByteArray := prog_3_method_5_code
def yX1_begin : MethodName := ⟨RX1, "begin", "(IIII)V"⟩
abbrev cX1_next : ByteArray := prog_3_method_6_code
def yX1_next : MethodName := ⟨RX1, "next", "()I"⟩
abbrev cX1_advance : ByteArray := prog_3_method_7_code
def yX1_advance : MethodName := ⟨RX1, "advance", "()V"⟩
def RX2 : String := "GrownKinds$Grammar"
def TX2 : u_T := fun k => match k with
  | 0 => ("GrownKinds$Grammar", "most", "I", false)
  | 1 => ("GrownKinds$Grammar", "kinds", "I", false)
  | 2 => ("GrownKinds$Grammar", "lines", "I", false)
  | 3 => ("GrownKinds$Grammar", "parts", "I", false)
  | 4 => ("GrownKinds$Grammar", "steps", "I", false)
  | 5 => ("GrownKinds$Grammar", "type", "[I", true)
  | 6 => ("GrownKinds$Grammar", "value", "[I", true)
  | 7 => ("GrownKinds$Grammar", "inside", "[I", true)
  | 8 => ("GrownKinds$Grammar", "next", "[I", true)
  | 9 => ("GrownKinds$Grammar", "home", "[I", true)
  | 10 => ("GrownKinds$Grammar", "termCount", "[I", true)
  | 11 => ("GrownKinds$Grammar", "firstPart", "[I", true)
  | 12 => ("GrownKinds$Grammar", "off", "[I", true)
  | _ => ("GrownKinds$Grammar", "order", "[I", true)
def tyX2 : Nat → FieldType := fun k => match k with
  | 0 => .int
  | 1 => .int
  | 2 => .int
  | 3 => .int
  | 4 => .int
  | 5 => .array .int
  | 6 => .array .int
  | 7 => .array .int
  | 8 => .array .int
  | 9 => .array .int
  | 10 => .array .int
  | 11 => .array .int
  | 12 => .array .int
  | _ => .array .int
abbrev wsX20 : List Cond := u_ws RX2 TX2 14
theorem nmX2 : ∀ a, a < 14 → ∀ b, b < 14 → a ≠ b → (TX2 a).2.1 ≠ (TX2 b).2.1 := by decide +kernel
theorem tyX2_ok : ∀ k, k < 14 → parseFieldDescriptor (TX2 k).2.2.1 = some (tyX2 k) := by decide +kernel
abbrev cX2_init : ByteArray := prog_4_method_1_code
def yX2_init : MethodName := ⟨RX2, "<init>", "()V"⟩
abbrev cX2_clear : ByteArray := prog_4_method_2_code
def yX2_clear : MethodName := ⟨RX2, "clear", "()V"⟩
abbrev cX2_copy : ByteArray := prog_4_method_3_code
def yX2_copy : MethodName := ⟨RX2, "copy", "(LGrownKinds$Grammar;)V"⟩
abbrev cX2_addPart : ByteArray := prog_4_method_4_code
def yX2_addPart : MethodName := ⟨RX2, "addPart", "(II)I"⟩
abbrev cX2_start : ByteArray := prog_4_method_5_code
def yX2_start : MethodName := ⟨RX2, "start", "(II)I"⟩
abbrev cX2_isOff : ByteArray := prog_4_method_6_code
def yX2_isOff : MethodName := ⟨RX2, "isOff", "(II)Z"⟩
abbrev cX2_flip : ByteArray := prog_4_method_7_code
def yX2_flip : MethodName := ⟨RX2, "flip", "(II)V"⟩
abbrev cX2_isSequence : ByteArray := prog_4_method_8_code
def yX2_isSequence : MethodName := ⟨RX2, "isSequence", "(I)Z"⟩
abbrev cX2_exprOf : ByteArray := prog_4_method_9_code
def yX2_exprOf : MethodName := ⟨RX2, "exprOf", "(I)I"⟩
def RX3 : String := "GrownKinds$Leaning"
def TX3 : u_T := fun k => match k with
  | 0 => ("GrownKinds$Leaning", "grammar", "LGrownKinds$Grammar;", true)
  | 1 => ("GrownKinds$Leaning", "emptyParts", "I", false)
  | 2 => ("GrownKinds$Leaning", "emptyKinds", "I", false)
  | 3 => ("GrownKinds$Leaning", "leans", "[I", true)
  | 4 => ("GrownKinds$Leaning", "uses", "[I", true)
  | 5 => ("GrownKinds$Leaning", "letters", "[I", true)
  | 6 => ("GrownKinds$Leaning", "kindLeans", "[I", true)
  | 7 => ("GrownKinds$Leaning", "kindUses", "[I", true)
  | _ => ("GrownKinds$Leaning", "kindLetters", "[I", true)
def tyX3 : Nat → FieldType := fun k => match k with
  | 0 => .object "GrownKinds$Grammar"
  | 1 => .int
  | 2 => .int
  | 3 => .array .int
  | 4 => .array .int
  | 5 => .array .int
  | 6 => .array .int
  | 7 => .array .int
  | _ => .array .int
abbrev wsX30 : List Cond := u_ws RX3 TX3 9
theorem nmX3 : ∀ a, a < 9 → ∀ b, b < 9 → a ≠ b → (TX3 a).2.1 ≠ (TX3 b).2.1 := by decide +kernel
theorem tyX3_ok : ∀ k, k < 9 → parseFieldDescriptor (TX3 k).2.2.1 = some (tyX3 k) := by decide +kernel
abbrev cX3_init : ByteArray := prog_5_method_1_code
def yX3_init : MethodName := ⟨RX3, "<init>", "(LGrownKinds$Grammar;)V"⟩
abbrev cX3_study : ByteArray := prog_5_method_2_code
def yX3_study : MethodName := ⟨RX3, "study", "()V"⟩
abbrev cX3_closure : ByteArray := prog_5_method_3_code
def yX3_closure : MethodName := ⟨RX3, "closure", "([II)I"⟩
abbrev cX3_findEmpty : ByteArray := prog_5_method_4_code
def yX3_findEmpty : MethodName := ⟨RX3, "findEmpty", "()V"⟩
abbrev cX3_partIsEmpty : ByteArray := prog_5_method_5_code
def yX3_partIsEmpty : MethodName := ⟨RX3, "partIsEmpty", "(I)Z"⟩
abbrev cX3_isEmpty : ByteArray := prog_5_method_6_code
def yX3_isEmpty : MethodName := ⟨RX3, "isEmpty", "(I)Z"⟩
abbrev cX3_exprIsEmpty : ByteArray := prog_5_method_7_code
def yX3_exprIsEmpty : MethodName := ⟨RX3, "exprIsEmpty", "(I)Z"⟩
abbrev cX3_allEmpty : ByteArray := prog_5_method_8_code
def yX3_allEmpty : MethodName := ⟨RX3, "allEmpty", "(II)Z"⟩
abbrev cX3_studyPart : ByteArray := prog_5_method_9_code
def yX3_studyPart : MethodName := ⟨RX3, "studyPart", "(I)V"⟩
abbrev cX3_exprLeans : ByteArray := prog_5_method_10_code
def yX3_exprLeans : MethodName := ⟨RX3, "exprLeans", "(I)I"⟩
abbrev cX3_exprHas : ByteArray := prog_5_method_11_code
def yX3_exprHas : MethodName := ⟨RX3, "exprHas", "(I[I)I"⟩
abbrev cX3_holdsEmpty : ByteArray := prog_5_method_12_code
def yX3_holdsEmpty : MethodName := ⟨RX3, "holdsEmpty", "(I)Z"⟩
abbrev cX3_layOrder : ByteArray := prog_5_method_13_code
def yX3_layOrder : MethodName := ⟨RX3, "layOrder", "()V"⟩
abbrev cX3_hasOwn : ByteArray := prog_5_method_14_code
def yX3_hasOwn : MethodName := ⟨RX3, "hasOwn", "(JI)Z"⟩
abbrev cX3_hasTail : ByteArray := prog_5_method_15_code
def yX3_hasTail : MethodName := ⟨RX3, "hasTail", "(JI)Z"⟩
abbrev cX3_isReady : ByteArray := prog_5_method_16_code
def yX3_isReady : MethodName := ⟨RX3, "isReady", "(IJ)Z"⟩
abbrev cX3_partReady : ByteArray := prog_5_method_17_code
def yX3_partReady : MethodName := ⟨RX3, "partReady", "(IJ)Z"⟩
abbrev cX3_termsLaid : ByteArray := prog_5_method_18_code
def yX3_termsLaid : MethodName := ⟨RX3, "termsLaid", "(IJ)Z"⟩
def RX4 : String := "GrownKinds$Ledger"
def TX4 : u_T := fun k => match k with
  | 0 => ("GrownKinds$Ledger", "grammar", "LGrownKinds$Grammar;", true)
  | 1 => ("GrownKinds$Ledger", "census", "LGrownKinds$Census;", true)
  | 2 => ("GrownKinds$Ledger", "hasLabelled", "Z", false)
  | 3 => ("GrownKinds$Ledger", "hasLetter", "[Z", true)
  | 4 => ("GrownKinds$Ledger", "hasWithout", "[Z", true)
  | 5 => ("GrownKinds$Ledger", "labels", "[J", true)
  | 6 => ("GrownKinds$Ledger", "marks", "[J", true)
  | _ => ("GrownKinds$Ledger", "rest", "[J", true)
def tyX4 : Nat → FieldType := fun k => match k with
  | 0 => .object "GrownKinds$Grammar"
  | 1 => .object "GrownKinds$Census"
  | 2 => .boolean
  | 3 => .array .boolean
  | 4 => .array .boolean
  | 5 => .array .long
  | 6 => .array .long
  | _ => .array .long
abbrev wsX40 : List Cond := u_ws RX4 TX4 8
theorem nmX4 : ∀ a, a < 8 → ∀ b, b < 8 → a ≠ b → (TX4 a).2.1 ≠ (TX4 b).2.1 := by decide +kernel
theorem tyX4_ok : ∀ k, k < 8 → parseFieldDescriptor (TX4 k).2.2.1 = some (tyX4 k) := by decide +kernel
abbrev cX4_init : ByteArray := prog_6_method_1_code
def yX4_init : MethodName := ⟨RX4, "<init>", "(LGrownKinds$Grammar;LGrownKinds$Census;)V"⟩
abbrev cX4_forget : ByteArray := prog_6_method_2_code
def yX4_forget : MethodName := ⟨RX4, "forget", "()V"⟩
abbrev cX4_keep : ByteArray := prog_6_method_3_code
def yX4_keep : MethodName := ⟨RX4, "keep", "([JI)V"⟩
abbrev cX4_labelledThings : ByteArray := prog_6_method_4_code
def yX4_labelledThings : MethodName := ⟨RX4, "labelledThings", "(II)J"⟩
abbrev cX4_markedThings : ByteArray := prog_6_method_5_code
def yX4_markedThings : MethodName := ⟨RX4, "markedThings", "(IIII)J"⟩
abbrev cX4_keepMarks : ByteArray := prog_6_method_6_code
def yX4_keepMarks : MethodName := ⟨RX4, "keepMarks", "(I)V"⟩
abbrev cX4_thingsWithout : ByteArray := prog_6_method_7_code
def yX4_thingsWithout : MethodName := ⟨RX4, "thingsWithout", "(IIII)J"⟩
def RX5 : String := "GrownKinds$Reader"
def TX5 : u_T := fun k => match k with
  | 0 => ("GrownKinds$Reader", "made", "LGrownKinds$Grammar;", true)
  | 1 => ("GrownKinds$Reader", "fault", "I", false)
  | 2 => ("GrownKinds$Reader", "place", "I", false)
  | 3 => ("GrownKinds$Reader", "lean", "LGrownKinds$Leaning;", true)
  | 4 => ("GrownKinds$Reader", "bytes", "[B", false)
  | 5 => ("GrownKinds$Reader", "length", "I", false)
  | 6 => ("GrownKinds$Reader", "at", "I", false)
  | 7 => ("GrownKinds$Reader", "token", "I", false)
  | 8 => ("GrownKinds$Reader", "start", "I", false)
  | 9 => ("GrownKinds$Reader", "number", "I", false)
  | 10 => ("GrownKinds$Reader", "line", "I", false)
  | 11 => ("GrownKinds$Reader", "nameStart", "[I", true)
  | _ => ("GrownKinds$Reader", "nameLength", "[I", true)
def tyX5 : Nat → FieldType := fun k => match k with
  | 0 => .object "GrownKinds$Grammar"
  | 1 => .int
  | 2 => .int
  | 3 => .object "GrownKinds$Leaning"
  | 4 => .array .byte
  | 5 => .int
  | 6 => .int
  | 7 => .int
  | 8 => .int
  | 9 => .int
  | 10 => .int
  | 11 => .array .int
  | _ => .array .int
abbrev wsX50 : List Cond := u_ws RX5 TX5 13
theorem nmX5 : ∀ a, a < 13 → ∀ b, b < 13 → a ≠ b → (TX5 a).2.1 ≠ (TX5 b).2.1 := by decide +kernel
theorem tyX5_ok : ∀ k, k < 13 → parseFieldDescriptor (TX5 k).2.2.1 = some (tyX5 k) := by decide +kernel
abbrev cX5_init : ByteArray := prog_7_method_1_code
def yX5_init : MethodName := ⟨RX5, "<init>", "(LGrownKinds$Grammar;)V"⟩
abbrev cX5_read : ByteArray := prog_7_method_2_code
def yX5_read : MethodName := ⟨RX5, "read", "([BI)I"⟩
abbrev cX5_refuseMeaningless : ByteArray := prog_7_method_3_code
def yX5_refuseMeaningless : MethodName := ⟨RX5, "refuseMeaningless", "()V"⟩
abbrev cX5_refuse : ByteArray := prog_7_method_4_code
def yX5_refuse : MethodName := ⟨RX5, "refuse", "(I)V"⟩
abbrev cX5_isLetter : ByteArray := prog_7_method_5_code
def yX5_isLetter : MethodName := ⟨RX5, "isLetter", "(I)Z"⟩
abbrev cX5_isDigit : ByteArray := prog_7_method_6_code
def yX5_isDigit : MethodName := ⟨RX5, "isDigit", "(I)Z"⟩
abbrev cX5_advance : ByteArray := prog_7_method_7_code
def yX5_advance : MethodName := ⟨RX5, "advance", "()V"⟩
abbrev cX5_isWord : ByteArray := prog_7_method_8_code
def yX5_isWord : MethodName := ⟨RX5, "isWord", "(Ljava/lang/String;)Z"⟩
abbrev cX5_partBegun : ByteArray := prog_7_method_9_code
def yX5_partBegun : MethodName := ⟨RX5, "partBegun", "()I"⟩
abbrev cX5_kindNamed : ByteArray := prog_7_method_10_code
def yX5_kindNamed : MethodName := ⟨RX5, "kindNamed", "()I"⟩
abbrev cX5_sameBytes : ByteArray := prog_7_method_11_code
def yX5_sameBytes : MethodName := ⟨RX5, "sameBytes", "(III)Z"⟩
abbrev cX5_expectWord : ByteArray := prog_7_method_12_code
def yX5_expectWord : MethodName := ⟨RX5, "expectWord", "(Ljava/lang/String;)V"⟩
abbrev cX5_expectSign : ByteArray := prog_7_method_13_code
def yX5_expectSign : MethodName := ⟨RX5, "expectSign", "(I)V"⟩
abbrev cX5_readHead : ByteArray := prog_7_method_14_code
def yX5_readHead : MethodName := ⟨RX5, "readHead", "()V"⟩
abbrev cX5_readName : ByteArray := prog_7_method_15_code
def yX5_readName : MethodName := ⟨RX5, "readName", "()V"⟩
abbrev cX5_readLine : ByteArray := prog_7_method_16_code
def yX5_readLine : MethodName := ⟨RX5, "readLine", "()V"⟩
abbrev cX5_readExpr : ByteArray := prog_7_method_17_code
def yX5_readExpr : MethodName := ⟨RX5, "readExpr", "(II)V"⟩
abbrev cX5_readTerm : ByteArray := prog_7_method_18_code
def yX5_readTerm : MethodName := ⟨RX5, "readTerm", "(IZ)I"⟩
abbrev cX5_faultOfPart : ByteArray := prog_7_method_19_code
def yX5_faultOfPart : MethodName := ⟨RX5, "faultOfPart", "(IIIZ)I"⟩
abbrev cX5_readPart : ByteArray := prog_7_method_20_code
def yX5_readPart : MethodName := ⟨RX5, "readPart", "(IZ)I"⟩
abbrev cX5_readLetter : ByteArray := prog_7_method_21_code
def yX5_readLetter : MethodName := ⟨RX5, "readLetter", "(I)V"⟩
abbrev cX5_readMany : ByteArray := prog_7_method_22_code
def yX5_readMany : MethodName := ⟨RX5, "readMany", "(I)V"⟩
def RX6 : String := "GrownKinds$RingList"
def TX6 : u_T := fun k => match k with
  | 0 => ("GrownKinds$RingList", "stamp", "I", false)
  | 1 => ("GrownKinds$RingList", "many", "I", false)
  | _ => ("GrownKinds$RingList", "codes", "[I", true)
def tyX6 : Nat → FieldType := fun k => match k with
  | 0 => .int
  | 1 => .int
  | _ => .array .int
abbrev wsX60 : List Cond := u_ws RX6 TX6 3
theorem nmX6 : ∀ a, a < 3 → ∀ b, b < 3 → a ≠ b → (TX6 a).2.1 ≠ (TX6 b).2.1 := by decide +kernel
theorem tyX6_ok : ∀ k, k < 3 → parseFieldDescriptor (TX6 k).2.2.1 = some (tyX6 k) := by decide +kernel
abbrev cX6_init : ByteArray := prog_8_method_1_code
def yX6_init : MethodName := ⟨RX6, "<init>", "()V"⟩
def RX7 : String := "GrownKinds$Roll"
def TX7 : u_T := fun k => match k with
  | 0 => ("GrownKinds$Roll", "speller", "LGrownKinds$Speller;", true)
  | 1 => ("GrownKinds$Roll", "called", "[Z", true)
  | 2 => ("GrownKinds$Roll", "deepestRank", "[I", true)
  | 3 => ("GrownKinds$Roll", "stiffestRank", "[I", true)
  | 4 => ("GrownKinds$Roll", "fullestRank", "[I", true)
  | 5 => ("GrownKinds$Roll", "atomSums", "[I", true)
  | 6 => ("GrownKinds$Roll", "mostDeep", "I", false)
  | 7 => ("GrownKinds$Roll", "mostStiff", "I", false)
  | _ => ("GrownKinds$Roll", "mostAtoms", "[I", true)
def tyX7 : Nat → FieldType := fun k => match k with
  | 0 => .object "GrownKinds$Speller"
  | 1 => .array .boolean
  | 2 => .array .int
  | 3 => .array .int
  | 4 => .array .int
  | 5 => .array .int
  | 6 => .int
  | 7 => .int
  | _ => .array .int
abbrev wsX70 : List Cond := u_ws RX7 TX7 9
theorem nmX7 : ∀ a, a < 9 → ∀ b, b < 9 → a ≠ b → (TX7 a).2.1 ≠ (TX7 b).2.1 := by decide +kernel
theorem tyX7_ok : ∀ k, k < 9 → parseFieldDescriptor (TX7 k).2.2.1 = some (tyX7 k) := by decide +kernel
abbrev cX7_init : ByteArray := prog_9_method_1_code
def yX7_init : MethodName := ⟨RX7, "<init>", "(LGrownKinds$Speller;)V"⟩
abbrev cX7_forget : ByteArray := prog_9_method_2_code
def yX7_forget : MethodName := ⟨RX7, "forget", "()V"⟩
abbrev cX7_begin : ByteArray := prog_9_method_3_code
def yX7_begin : MethodName := ⟨RX7, "begin", "(I)V"⟩
abbrev cX7_note : ByteArray := prog_9_method_4_code
def yX7_note : MethodName := ⟨RX7, "note", "(II)V"⟩
abbrev cX7_countAtoms : ByteArray := prog_9_method_5_code
def yX7_countAtoms : MethodName := ⟨RX7, "countAtoms", "(II)V"⟩
def RX8 : String := "GrownKinds$Sequences"
def TX8 : u_T := fun k => match k with
  | 0 => ("GrownKinds$Sequences", "grammar", "LGrownKinds$Grammar;", true)
  | 1 => ("GrownKinds$Sequences", "census", "LGrownKinds$Census;", true)
  | 2 => ("GrownKinds$Sequences", "many", "I", false)
  | 3 => ("GrownKinds$Sequences", "codes", "[I", true)
  | 4 => ("GrownKinds$Sequences", "rings", "[LGrownKinds$RingList;", true)
  | _ => ("GrownKinds$Sequences", "inside", "I", false)
def tyX8 : Nat → FieldType := fun k => match k with
  | 0 => .object "GrownKinds$Grammar"
  | 1 => .object "GrownKinds$Census"
  | 2 => .int
  | 3 => .array .int
  | 4 => .array (.object "GrownKinds$RingList")
  | _ => .int
abbrev wsX80 : List Cond := u_ws RX8 TX8 6
theorem nmX8 : ∀ a, a < 6 → ∀ b, b < 6 → a ≠ b → (TX8 a).2.1 ≠ (TX8 b).2.1 := by decide +kernel
theorem tyX8_ok : ∀ k, k < 6 → parseFieldDescriptor (TX8 k).2.2.1 = some (tyX8 k) := by decide +kernel
abbrev cX8_init : ByteArray := prog_10_method_1_code
def yX8_init : MethodName := ⟨RX8, "<init>", "(LGrownKinds$Grammar;LGrownKinds$Census;)V"⟩
abbrev cX8_findRow : ByteArray := prog_10_method_2_code
def yX8_findRow : MethodName := ⟨RX8, "findRow", "(III)V"⟩
abbrev cX8_add : ByteArray := prog_10_method_3_code
def yX8_add : MethodName := ⟨RX8, "add", "(IJ)V"⟩
abbrev cX8_bagsWithin : ByteArray := prog_10_method_4_code
def yX8_bagsWithin : MethodName := ⟨RX8, "bagsWithin", "(IIIIJ)J"⟩
abbrev cX8_findBag : ByteArray := prog_10_method_5_code
def yX8_findBag : MethodName := ⟨RX8, "findBag", "(III)V"⟩
abbrev cX8_findRing : ByteArray := prog_10_method_6_code
def yX8_findRing : MethodName := ⟨RX8, "findRing", "(IIII)V"⟩
abbrev cX8_listRings : ByteArray := prog_10_method_7_code
def yX8_listRings : MethodName := ⟨RX8, "listRings", "(IILGrownKinds$RingList;)V"⟩
abbrev cX8_isFirstTurn : ByteArray := prog_10_method_8_code
def yX8_isFirstTurn : MethodName := ⟨RX8, "isFirstTurn", "()Z"⟩
abbrev cX8_compareTurn : ByteArray := prog_10_method_9_code
def yX8_compareTurn : MethodName := ⟨RX8, "compareTurn", "(I)I"⟩
abbrev cX8_enlist : ByteArray := prog_10_method_10_code
def yX8_enlist : MethodName := ⟨RX8, "enlist", "(LGrownKinds$RingList;)V"⟩
abbrev cX8_turnsAlike : ByteArray := prog_10_method_11_code
def yX8_turnsAlike : MethodName := ⟨RX8, "turnsAlike", "()I"⟩
abbrev cX8_changesAlike : ByteArray := prog_10_method_12_code
def yX8_changesAlike : MethodName := ⟨RX8, "changesAlike", "()I"⟩
def RX9 : String := "GrownKinds$Speller"
def TX9 : u_T := fun k => match k with
  | 0 => ("GrownKinds$Speller", "grammar", "LGrownKinds$Grammar;", true)
  | 1 => ("GrownKinds$Speller", "census", "LGrownKinds$Census;", true)
  | 2 => ("GrownKinds$Speller", "sequences", "LGrownKinds$Sequences;", true)
  | 3 => ("GrownKinds$Speller", "text", "[B", false)
  | 4 => ("GrownKinds$Speller", "signs", "I", false)
  | 5 => ("GrownKinds$Speller", "depth", "I", false)
  | 6 => ("GrownKinds$Speller", "turns", "I", false)
  | 7 => ("GrownKinds$Speller", "topTerm", "I", false)
  | 8 => ("GrownKinds$Speller", "weight", "I", false)
  | 9 => ("GrownKinds$Speller", "atomCounts", "[I", true)
  | 10 => ("GrownKinds$Speller", "open", "I", false)
  | 11 => ("GrownKinds$Speller", "waiting", "[I", true)
  | 12 => ("GrownKinds$Speller", "top", "I", false)
  | 13 => ("GrownKinds$Speller", "nowStamp", "I", false)
  | _ => ("GrownKinds$Speller", "nowThing", "I", false)
def tyX9 : Nat → FieldType := fun k => match k with
  | 0 => .object "GrownKinds$Grammar"
  | 1 => .object "GrownKinds$Census"
  | 2 => .object "GrownKinds$Sequences"
  | 3 => .array .byte
  | 4 => .int
  | 5 => .int
  | 6 => .int
  | 7 => .int
  | 8 => .int
  | 9 => .array .int
  | 10 => .int
  | 11 => .array .int
  | 12 => .int
  | 13 => .int
  | _ => .int
abbrev wsX90 : List Cond := u_ws RX9 TX9 15
theorem nmX9 : ∀ a, a < 15 → ∀ b, b < 15 → a ≠ b → (TX9 a).2.1 ≠ (TX9 b).2.1 := by decide +kernel
theorem tyX9_ok : ∀ k, k < 15 → parseFieldDescriptor (TX9 k).2.2.1 = some (tyX9 k) := by decide +kernel
abbrev cX9_init : ByteArray := prog_11_method_1_code
def yX9_init : MethodName := ⟨RX9, "<init>", "(LGrownKinds$Grammar;LGrownKinds$Census;LGrownKinds$Sequences;)V"⟩
abbrev cX9_weightOf : ByteArray := prog_11_method_2_code
def yX9_weightOf : MethodName := ⟨RX9, "weightOf", "(I)I"⟩
abbrev cX9_signAt : ByteArray := prog_11_method_3_code
def yX9_signAt : MethodName := ⟨RX9, "signAt", "(I)I"⟩
abbrev cX9_spell : ByteArray := prog_11_method_4_code
def yX9_spell : MethodName := ⟨RX9, "spell", "(IIII)V"⟩
abbrev cX9_put : ByteArray := prog_11_method_5_code
def yX9_put : MethodName := ⟨RX9, "put", "(I)V"⟩
abbrev cX9_push : ByteArray := prog_11_method_6_code
def yX9_push : MethodName := ⟨RX9, "push", "(I)V"⟩
abbrev cX9_spellExpr : ByteArray := prog_11_method_7_code
def yX9_spellExpr : MethodName := ⟨RX9, "spellExpr", "(III)I"⟩
abbrev cX9_pushTerm : ByteArray := prog_11_method_8_code
def yX9_pushTerm : MethodName := ⟨RX9, "pushTerm", "(IIJ)V"⟩
abbrev cX9_spellPart : ByteArray := prog_11_method_9_code
def yX9_spellPart : MethodName := ⟨RX9, "spellPart", "(III)V"⟩
abbrev cX9_spellSequence : ByteArray := prog_11_method_10_code
def yX9_spellSequence : MethodName := ⟨RX9, "spellSequence", "(I)V"⟩
def RX10 : String := "GrownKinds$ThingReader"
def TX10 : u_T := fun k => match k with
  | 0 => ("GrownKinds$ThingReader", "grammar", "LGrownKinds$Grammar;", true)
  | 1 => ("GrownKinds$ThingReader", "text", "[B", true)
  | 2 => ("GrownKinds$ThingReader", "moved", "[B", true)
  | 3 => ("GrownKinds$ThingReader", "length", "I", false)
  | 4 => ("GrownKinds$ThingReader", "at", "I", false)
  | 5 => ("GrownKinds$ThingReader", "size", "I", false)
  | 6 => ("GrownKinds$ThingReader", "fine", "Z", false)
  | 7 => ("GrownKinds$ThingReader", "waiting", "[I", true)
  | 8 => ("GrownKinds$ThingReader", "top", "I", false)
  | 9 => ("GrownKinds$ThingReader", "starts", "[I", true)
  | 10 => ("GrownKinds$ThingReader", "startCount", "I", false)
  | 11 => ("GrownKinds$ThingReader", "opened", "[I", true)
  | _ => ("GrownKinds$ThingReader", "openCount", "I", false)
def tyX10 : Nat → FieldType := fun k => match k with
  | 0 => .object "GrownKinds$Grammar"
  | 1 => .array .byte
  | 2 => .array .byte
  | 3 => .int
  | 4 => .int
  | 5 => .int
  | 6 => .boolean
  | 7 => .array .int
  | 8 => .int
  | 9 => .array .int
  | 10 => .int
  | 11 => .array .int
  | _ => .int
abbrev wsX100 : List Cond := u_ws RX10 TX10 13
theorem nmX10 : ∀ a, a < 13 → ∀ b, b < 13 → a ≠ b → (TX10 a).2.1 ≠ (TX10 b).2.1 := by decide +kernel
theorem tyX10_ok : ∀ k, k < 13 → parseFieldDescriptor (TX10 k).2.2.1 = some (tyX10 k) := by decide +kernel
abbrev cX10_init : ByteArray := prog_12_method_1_code
def yX10_init : MethodName := ⟨RX10, "<init>", "(LGrownKinds$Grammar;)V"⟩
abbrev cX10_read : ByteArray := prog_12_method_2_code
def yX10_read : MethodName := ⟨RX10, "read", "(I[BI)I"⟩
abbrev cX10_holds : ByteArray := prog_12_method_3_code
def yX10_holds : MethodName := ⟨RX10, "holds", "([BI)Z"⟩
abbrev cX10_peek : ByteArray := prog_12_method_4_code
def yX10_peek : MethodName := ⟨RX10, "peek", "()I"⟩
abbrev cX10_take : ByteArray := prog_12_method_5_code
def yX10_take : MethodName := ⟨RX10, "take", "(I)V"⟩
abbrev cX10_mayAwait : ByteArray := prog_12_method_6_code
def yX10_mayAwait : MethodName := ⟨RX10, "mayAwait", "(I)Z"⟩
abbrev cX10_readExpr : ByteArray := prog_12_method_7_code
def yX10_readExpr : MethodName := ⟨RX10, "readExpr", "(I)V"⟩
abbrev cX10_readPart : ByteArray := prog_12_method_8_code
def yX10_readPart : MethodName := ⟨RX10, "readPart", "(I)V"⟩
abbrev cX10_goOn : ByteArray := prog_12_method_9_code
def yX10_goOn : MethodName := ⟨RX10, "goOn", "(I)V"⟩
abbrev cX10_close : ByteArray := prog_12_method_10_code
def yX10_close : MethodName := ⟨RX10, "close", "(I)V"⟩
abbrev cX10_compare : ByteArray := prog_12_method_11_code
def yX10_compare : MethodName := ⟨RX10, "compare", "(II)I"⟩
abbrev cX10_sort : ByteArray := prog_12_method_12_code
def yX10_sort : MethodName := ⟨RX10, "sort", "(IIZ)V"⟩
abbrev cX10_placeOf : ByteArray := prog_12_method_13_code
def yX10_placeOf : MethodName := ⟨RX10, "placeOf", "(IIIZ)I"⟩
abbrev cX10_copyBack : ByteArray := prog_12_method_14_code
def yX10_copyBack : MethodName := ⟨RX10, "copyBack", "(II)V"⟩
abbrev cX10_turn : ByteArray := prog_12_method_15_code
def yX10_turn : MethodName := ⟨RX10, "turn", "(II)V"⟩
abbrev cX10_compareTurns : ByteArray := prog_12_method_16_code
def yX10_compareTurns : MethodName := ⟨RX10, "compareTurns", "(IIII)I"⟩
def RX11 : String := "GrownKinds"
def TX11 : u_T := fun k => match k with
  | 0 => ("GrownKinds", "tape", "[B", true)
  | 1 => ("GrownKinds", "tapeSize", "I", false)
  | 2 => ("GrownKinds", "now", "LGrownKinds$Grammar;", true)
  | 3 => ("GrownKinds", "reader", "LGrownKinds$Reader;", true)
  | 4 => ("GrownKinds", "faultNumber", "I", false)
  | 5 => ("GrownKinds", "faultPlace", "I", false)
  | 6 => ("GrownKinds", "leaning", "LGrownKinds$Leaning;", true)
  | 7 => ("GrownKinds", "census", "LGrownKinds$Census;", true)
  | 8 => ("GrownKinds", "ledger", "LGrownKinds$Ledger;", true)
  | 9 => ("GrownKinds", "speller", "LGrownKinds$Speller;", true)
  | 10 => ("GrownKinds", "thingReader", "LGrownKinds$ThingReader;", true)
  | 11 => ("GrownKinds", "roll", "LGrownKinds$Roll;", true)
  | 12 => ("GrownKinds", "dealer", "LGrownKinds$Dealer;", true)
  | 13 => ("GrownKinds", "wanted", "[B", true)
  | 14 => ("GrownKinds", "acts", "[I", true)
  | 15 => ("GrownKinds", "actCount", "I", false)
  | 16 => ("GrownKinds", "stamp", "I", false)
  | 17 => ("GrownKinds", "toldSize", "I", false)
  | _ => ("GrownKinds", "toldRank", "I", false)
def tyX11 : Nat → FieldType := fun k => match k with
  | 0 => .array .byte
  | 1 => .int
  | 2 => .object "GrownKinds$Grammar"
  | 3 => .object "GrownKinds$Reader"
  | 4 => .int
  | 5 => .int
  | 6 => .object "GrownKinds$Leaning"
  | 7 => .object "GrownKinds$Census"
  | 8 => .object "GrownKinds$Ledger"
  | 9 => .object "GrownKinds$Speller"
  | 10 => .object "GrownKinds$ThingReader"
  | 11 => .object "GrownKinds$Roll"
  | 12 => .object "GrownKinds$Dealer"
  | 13 => .array .byte
  | 14 => .array .int
  | 15 => .int
  | 16 => .int
  | 17 => .int
  | _ => .int
abbrev wsX110 : List Cond := u_ws RX11 TX11 19
theorem nmX11 : ∀ a, a < 19 → ∀ b, b < 19 → a ≠ b → (TX11 a).2.1 ≠ (TX11 b).2.1 := by decide +kernel
theorem tyX11_ok : ∀ k, k < 19 → parseFieldDescriptor (TX11 k).2.2.1 = some (tyX11 k) := by decide +kernel
abbrev cX11_init : ByteArray := prog_1_method_1_code
def yX11_init : MethodName := ⟨RX11, "<init>", "()V"⟩
abbrev cX11_feed : ByteArray := prog_1_method_2_code
def yX11_feed : MethodName := ⟨RX11, "feed", "(IIIII)I"⟩
abbrev cX11_putFour : ByteArray := prog_1_method_3_code
def yX11_putFour : MethodName := ⟨RX11, "putFour", "(I)V"⟩
abbrev cX11_end : ByteArray := prog_1_method_4_code
def yX11_end : MethodName := ⟨RX11, "end", "(I)I"⟩
abbrev cX11_grammar : ByteArray := prog_1_method_5_code
def yX11_grammar : MethodName := ⟨RX11, "grammar", "()I"⟩
abbrev cX11_settle : ByteArray := prog_1_method_6_code
def yX11_settle : MethodName := ⟨RX11, "settle", "()V"⟩
abbrev cX11_fault : ByteArray := prog_1_method_7_code
def yX11_fault : MethodName := ⟨RX11, "fault", "(I)I"⟩
abbrev cX11_count : ByteArray := prog_1_method_8_code
def yX11_count : MethodName := ⟨RX11, "count", "(I)I"⟩
abbrev cX11_known : ByteArray := prog_1_method_9_code
def yX11_known : MethodName := ⟨RX11, "known", "(I)Z"⟩
abbrev cX11_sized : ByteArray := prog_1_method_10_code
def yX11_sized : MethodName := ⟨RX11, "sized", "(II)Z"⟩
abbrev cX11_termed : ByteArray := prog_1_method_11_code
def yX11_termed : MethodName := ⟨RX11, "termed", "(II)Z"⟩
abbrev cX11_lettered : ByteArray := prog_1_method_12_code
def yX11_lettered : MethodName := ⟨RX11, "lettered", "(I)Z"⟩
abbrev cX11_boxy : ByteArray := prog_1_method_13_code
def yX11_boxy : MethodName := ⟨RX11, "boxy", "(III)Z"⟩
abbrev cX11_terms : ByteArray := prog_1_method_14_code
def yX11_terms : MethodName := ⟨RX11, "terms", "(I)I"⟩
abbrev cX11_off : ByteArray := prog_1_method_15_code
def yX11_off : MethodName := ⟨RX11, "off", "(I)I"⟩
abbrev cX11_letters : ByteArray := prog_1_method_16_code
def yX11_letters : MethodName := ⟨RX11, "letters", "(I)I"⟩
abbrev cX11_uses : ByteArray := prog_1_method_17_code
def yX11_uses : MethodName := ⟨RX11, "uses", "(I)I"⟩
abbrev cX11_reaches : ByteArray := prog_1_method_18_code
def yX11_reaches : MethodName := ⟨RX11, "reaches", "(I)I"⟩
abbrev cX11_empty : ByteArray := prog_1_method_19_code
def yX11_empty : MethodName := ⟨RX11, "empty", "(I)I"⟩
abbrev cX11_leans : ByteArray := prog_1_method_20_code
def yX11_leans : MethodName := ⟨RX11, "leans", "(I)I"⟩
abbrev cX11_blank : ByteArray := prog_1_method_21_code
def yX11_blank : MethodName := ⟨RX11, "blank", "()I"⟩
abbrev cX11_least : ByteArray := prog_1_method_22_code
def yX11_least : MethodName := ⟨RX11, "least", "(I)I"⟩
abbrev cX11_things : ByteArray := prog_1_method_23_code
def yX11_things : MethodName := ⟨RX11, "things", "(II)J"⟩
abbrev cX11_upto : ByteArray := prog_1_method_24_code
def yX11_upto : MethodName := ⟨RX11, "upto", "(II)J"⟩
abbrev cX11_labelled : ByteArray := prog_1_method_25_code
def yX11_labelled : MethodName := ⟨RX11, "labelled", "(II)J"⟩
abbrev cX11_first : ByteArray := prog_1_method_26_code
def yX11_first : MethodName := ⟨RX11, "first", "(IJ)I"⟩
abbrev cX11_marked : ByteArray := prog_1_method_27_code
def yX11_marked : MethodName := ⟨RX11, "marked", "(IIII)J"⟩
abbrev cX11_by : ByteArray := prog_1_method_28_code
def yX11_by : MethodName := ⟨RX11, "by", "(III)J"⟩
abbrev cX11_without : ByteArray := prog_1_method_29_code
def yX11_without : MethodName := ⟨RX11, "without", "(IIII)J"⟩
abbrev cX11_hangs : ByteArray := prog_1_method_30_code
def yX11_hangs : MethodName := ⟨RX11, "hangs", "(II)I"⟩
abbrev cX11_idle : ByteArray := prog_1_method_31_code
def yX11_idle : MethodName := ⟨RX11, "idle", "()I"⟩
abbrev cX11_listing : ByteArray := prog_1_method_32_code
def yX11_listing : MethodName := ⟨RX11, "listing", "(II)I"⟩
abbrev cX11_spelling : ByteArray := prog_1_method_33_code
def yX11_spelling : MethodName := ⟨RX11, "spelling", "(III)I"⟩
abbrev cX11_length : ByteArray := prog_1_method_34_code
def yX11_length : MethodName := ⟨RX11, "length", "(III)I"⟩
abbrev cX11_sign : ByteArray := prog_1_method_35_code
def yX11_sign : MethodName := ⟨RX11, "sign", "(IIII)I"⟩
abbrev cX11_deep : ByteArray := prog_1_method_36_code
def yX11_deep : MethodName := ⟨RX11, "deep", "(III)I"⟩
abbrev cX11_atoms : ByteArray := prog_1_method_37_code
def yX11_atoms : MethodName := ⟨RX11, "atoms", "(IIII)I"⟩
abbrev cX11_term : ByteArray := prog_1_method_38_code
def yX11_term : MethodName := ⟨RX11, "term", "(III)I"⟩
abbrev cX11_symmetries : ByteArray := prog_1_method_39_code
def yX11_symmetries : MethodName := ⟨RX11, "symmetries", "(III)I"⟩
abbrev cX11_labels : ByteArray := prog_1_method_40_code
def yX11_labels : MethodName := ⟨RX11, "labels", "(III)I"⟩
abbrev cX11_tells : ByteArray := prog_1_method_41_code
def yX11_tells : MethodName := ⟨RX11, "tells", "(I)I"⟩
abbrev cX11_rankOfRead : ByteArray := prog_1_method_42_code
def yX11_rankOfRead : MethodName := ⟨RX11, "rankOfRead", "(III)I"⟩
abbrev cX11_told : ByteArray := prog_1_method_43_code
def yX11_told : MethodName := ⟨RX11, "told", "(I)I"⟩
abbrev cX11_shared : ByteArray := prog_1_method_44_code
def yX11_shared : MethodName := ⟨RX11, "shared", "(III)I"⟩
abbrev cX11_rolling : ByteArray := prog_1_method_45_code
def yX11_rolling : MethodName := ⟨RX11, "rolling", "(II)I"⟩
abbrev cX11_deepest : ByteArray := prog_1_method_46_code
def yX11_deepest : MethodName := ⟨RX11, "deepest", "(II)I"⟩
abbrev cX11_fullest : ByteArray := prog_1_method_47_code
def yX11_fullest : MethodName := ⟨RX11, "fullest", "(III)I"⟩
abbrev cX11_stiffest : ByteArray := prog_1_method_48_code
def yX11_stiffest : MethodName := ⟨RX11, "stiffest", "(II)I"⟩
abbrev cX11_chance : ByteArray := prog_1_method_49_code
def yX11_chance : MethodName := ⟨RX11, "chance", "(IIII)I"⟩
abbrev cX11_mean : ByteArray := prog_1_method_50_code
def yX11_mean : MethodName := ⟨RX11, "mean", "(IIII)I"⟩
abbrev cX11_lowest : ByteArray := prog_1_method_51_code
def yX11_lowest : MethodName := ⟨RX11, "lowest", "(III)I"⟩
abbrev cX11_boxed : ByteArray := prog_1_method_52_code
def yX11_boxed : MethodName := ⟨RX11, "boxed", "(III)J"⟩
abbrev cX11_bits : ByteArray := prog_1_method_53_code
def yX11_bits : MethodName := ⟨RX11, "bits", "(III)I"⟩
abbrev cX11_drawn : ByteArray := prog_1_method_54_code
def yX11_drawn : MethodName := ⟨RX11, "drawn", "(IIIII)I"⟩
abbrev cX11_deal : ByteArray := prog_1_method_55_code
def yX11_deal : MethodName := ⟨RX11, "deal", "(IIII)I"⟩
abbrev cX11_dealt : ByteArray := prog_1_method_56_code
def yX11_dealt : MethodName := ⟨RX11, "dealt", "()I"⟩
abbrev cX11_left : ByteArray := prog_1_method_57_code
def yX11_left : MethodName := ⟨RX11, "left", "()I"⟩
abbrev cX11_takes : ByteArray := prog_1_method_58_code
def yX11_takes : MethodName := ⟨RX11, "takes", "(II)I"⟩
abbrev cX11_undo : ByteArray := prog_1_method_59_code
def yX11_undo : MethodName := ⟨RX11, "undo", "()I"⟩
abbrev cX11_anew : ByteArray := prog_1_method_60_code
def yX11_anew : MethodName := ⟨RX11, "anew", "()I"⟩
abbrev cX11_takeBack : ByteArray := prog_1_method_61_code
def yX11_takeBack : MethodName := ⟨RX11, "takeBack", "()V"⟩
abbrev cX11_plus : ByteArray := prog_1_method_62_code
def yX11_plus : MethodName := ⟨RX11, "plus", "(JJ)J"⟩
abbrev cX11_times : ByteArray := prog_1_method_63_code
def yX11_times : MethodName := ⟨RX11, "times", "(JJ)J"⟩
abbrev cX11_picks : ByteArray := prog_1_method_64_code
def yX11_picks : MethodName := ⟨RX11, "picks", "(JIZ)J"⟩
abbrev cX11_openSign : ByteArray := prog_1_method_65_code
def yX11_openSign : MethodName := ⟨RX11, "openSign", "(I)I"⟩
abbrev cX11_closeSign : ByteArray := prog_1_method_66_code
def yX11_closeSign : MethodName := ⟨RX11, "closeSign", "(I)I"⟩
def RX12 : String := "GrownKindsModel"
def TX12 : u_T := fun k => match k with
  | 0 => ("GrownKindsModel", "mem", "[I", false)
  | 1 => ("GrownKindsModel", "was", "[I", true)
  | 2 => ("GrownKindsModel", "tape", "[I", true)
  | 3 => ("GrownKindsModel", "taped", "I", false)
  | 4 => ("GrownKindsModel", "faultKind", "I", false)
  | 5 => ("GrownKindsModel", "faultPlace", "I", false)
  | 6 => ("GrownKindsModel", "at", "I", false)
  | 7 => ("GrownKindsModel", "begin", "I", false)
  | 8 => ("GrownKindsModel", "token", "I", false)
  | 9 => ("GrownKindsModel", "value", "I", false)
  | 10 => ("GrownKindsModel", "bad", "Z", false)
  | 11 => ("GrownKindsModel", "names", "[I", true)
  | 12 => ("GrownKindsModel", "nameLong", "[I", true)
  | 13 => ("GrownKindsModel", "empty", "[Z", true)
  | 14 => ("GrownKindsModel", "many", "[J", true)
  | 15 => ("GrownKindsModel", "rest", "[J", true)
  | 16 => ("GrownKindsModel", "rows", "[J", true)
  | 17 => ("GrownKindsModel", "named", "[J", true)
  | 18 => ("GrownKindsModel", "namedRest", "[J", true)
  | 19 => ("GrownKindsModel", "namedRows", "[J", true)
  | 20 => ("GrownKindsModel", "long0", "I", false)
  | 21 => ("GrownKindsModel", "wanted", "I", false)
  | 22 => ("GrownKindsModel", "found", "I", false)
  | 23 => ("GrownKindsModel", "deepMost", "I", false)
  | 24 => ("GrownKindsModel", "letterAsked", "I", false)
  | 25 => ("GrownKindsModel", "letterMany", "I", false)
  | 26 => ("GrownKindsModel", "turns", "I", false)
  | 27 => ("GrownKindsModel", "topTerm", "I", false)
  | 28 => ("GrownKindsModel", "spelled", "[I", true)
  | 29 => ("GrownKindsModel", "elSize", "[I", true)
  | 30 => ("GrownKindsModel", "elRank", "[I", true)
  | 31 => ("GrownKindsModel", "top", "I", false)
  | 32 => ("GrownKindsModel", "left", "J", false)
  | 33 => ("GrownKindsModel", "nodeSort", "[I", true)
  | 34 => ("GrownKindsModel", "nodeNum", "[I", true)
  | 35 => ("GrownKindsModel", "nodeSize", "[I", true)
  | 36 => ("GrownKindsModel", "nodeFirst", "[I", true)
  | 37 => ("GrownKindsModel", "nodeNext", "[I", true)
  | 38 => ("GrownKindsModel", "nodes", "I", false)
  | 39 => ("GrownKindsModel", "source", "[I", true)
  | 40 => ("GrownKindsModel", "sourceLong", "I", false)
  | 41 => ("GrownKindsModel", "read", "I", false)
  | 42 => ("GrownKindsModel", "toldSize", "I", false)
  | 43 => ("GrownKindsModel", "toldRank", "I", false)
  | 44 => ("GrownKindsModel", "boxSize", "I", false)
  | 45 => ("GrownKindsModel", "isDealing", "Z", false)
  | 46 => ("GrownKindsModel", "dealKind", "I", false)
  | 47 => ("GrownKindsModel", "dealLow", "I", false)
  | 48 => ("GrownKindsModel", "dealMany", "I", false)
  | 49 => ("GrownKindsModel", "dealLeft", "I", false)
  | 50 => ("GrownKindsModel", "dealRound", "I", false)
  | _ => ("GrownKindsModel", "dealX", "I", false)
def tyX12 : Nat → FieldType := fun k => match k with
  | 0 => .array .int
  | 1 => .array .int
  | 2 => .array .int
  | 3 => .int
  | 4 => .int
  | 5 => .int
  | 6 => .int
  | 7 => .int
  | 8 => .int
  | 9 => .int
  | 10 => .boolean
  | 11 => .array .int
  | 12 => .array .int
  | 13 => .array .boolean
  | 14 => .array .long
  | 15 => .array .long
  | 16 => .array .long
  | 17 => .array .long
  | 18 => .array .long
  | 19 => .array .long
  | 20 => .int
  | 21 => .int
  | 22 => .int
  | 23 => .int
  | 24 => .int
  | 25 => .int
  | 26 => .int
  | 27 => .int
  | 28 => .array .int
  | 29 => .array .int
  | 30 => .array .int
  | 31 => .int
  | 32 => .long
  | 33 => .array .int
  | 34 => .array .int
  | 35 => .array .int
  | 36 => .array .int
  | 37 => .array .int
  | 38 => .int
  | 39 => .array .int
  | 40 => .int
  | 41 => .int
  | 42 => .int
  | 43 => .int
  | 44 => .int
  | 45 => .boolean
  | 46 => .int
  | 47 => .int
  | 48 => .int
  | 49 => .int
  | 50 => .int
  | _ => .int
abbrev wsX120 : List Cond := u_ws RX12 TX12 52
theorem nmX12 : ∀ a, a < 52 → ∀ b, b < 52 → a ≠ b → (TX12 a).2.1 ≠ (TX12 b).2.1 := by decide +kernel
theorem tyX12_ok : ∀ k, k < 52 → parseFieldDescriptor (TX12 k).2.2.1 = some (tyX12 k) := by decide +kernel
abbrev cX12_in : ByteArray := prog_14_method_1_code
def yX12_in : MethodName := ⟨RX12, "in", "(JJJ)Z"⟩
abbrev cX12_has : ByteArray := prog_14_method_2_code
def yX12_has : MethodName := ⟨RX12, "has", "(II)Z"⟩
abbrev cX12_bitsOf : ByteArray := prog_14_method_3_code
def yX12_bitsOf : MethodName := ⟨RX12, "bitsOf", "(I)I"⟩
abbrev cX12_mul : ByteArray := prog_14_method_4_code
def yX12_mul : MethodName := ⟨RX12, "mul", "(JJJ)J"⟩
abbrev cX12_add : ByteArray := prog_14_method_5_code
def yX12_add : MethodName := ⟨RX12, "add", "(JJJ)J"⟩
abbrev cX12_init : ByteArray := prog_14_method_6_code
def yX12_init : MethodName := ⟨RX12, "<init>", "()V"⟩
abbrev cX12_clears : ByteArray := prog_14_method_7_code
def yX12_clears : MethodName := ⟨RX12, "clears", "()V"⟩
abbrev cX12_feed : ByteArray := prog_14_method_8_code
def yX12_feed : MethodName := ⟨RX12, "feed", "(IIIII)I"⟩
abbrev cX12_end : ByteArray := prog_14_method_9_code
def yX12_end : MethodName := ⟨RX12, "end", "(I)I"⟩
abbrev cX12_isAt : ByteArray := prog_14_method_10_code
def yX12_isAt : MethodName := ⟨RX12, "isAt", "(II)Z"⟩
abbrev cX12_next : ByteArray := prog_14_method_11_code
def yX12_next : MethodName := ⟨RX12, "next", "()V"⟩
abbrev cX12_faults : ByteArray := prog_14_method_12_code
def yX12_faults : MethodName := ⟨RX12, "faults", "(I)I"⟩
abbrev cX12_wordOf : ByteArray := prog_14_method_13_code
def yX12_wordOf : MethodName := ⟨RX12, "wordOf", "(I)Ljava/lang/String;"⟩
abbrev cX12_isWord : ByteArray := prog_14_method_14_code
def yX12_isWord : MethodName := ⟨RX12, "isWord", "(I)Z"⟩
abbrev cX12_key : ByteArray := prog_14_method_15_code
def yX12_key : MethodName := ⟨RX12, "key", "()I"⟩
abbrev cX12_named : ByteArray := prog_14_method_16_code
def yX12_named : MethodName := ⟨RX12, "named", "()I"⟩
abbrev cX12_isSign : ByteArray := prog_14_method_17_code
def yX12_isSign : MethodName := ⟨RX12, "isSign", "(C)Z"⟩
abbrev cX12_needs : ByteArray := prog_14_method_18_code
def yX12_needs : MethodName := ⟨RX12, "needs", "(C)V"⟩
abbrev cX12_needsWord : ByteArray := prog_14_method_19_code
def yX12_needsWord : MethodName := ⟨RX12, "needsWord", "(I)V"⟩
abbrev cX12_readsHead : ByteArray := prog_14_method_20_code
def yX12_readsHead : MethodName := ⟨RX12, "readsHead", "()V"⟩
abbrev cX12_readsName : ByteArray := prog_14_method_21_code
def yX12_readsName : MethodName := ⟨RX12, "readsName", "()V"⟩
abbrev cX12_readsKind : ByteArray := prog_14_method_22_code
def yX12_readsKind : MethodName := ⟨RX12, "readsKind", "()V"⟩
abbrev cX12_readsExpr : ByteArray := prog_14_method_23_code
def yX12_readsExpr : MethodName := ⟨RX12, "readsExpr", "(II)V"⟩
abbrev cX12_readsPart : ByteArray := prog_14_method_24_code
def yX12_readsPart : MethodName := ⟨RX12, "readsPart", "(IZ)I"⟩
abbrev cX12_readsAtom : ByteArray := prog_14_method_25_code
def yX12_readsAtom : MethodName := ⟨RX12, "readsAtom", "(I)V"⟩
abbrev cX12_readsIn : ByteArray := prog_14_method_26_code
def yX12_readsIn : MethodName := ⟨RX12, "readsIn", "(III)V"⟩
abbrev cX12_grammar : ByteArray := prog_14_method_27_code
def yX12_grammar : MethodName := ⟨RX12, "grammar", "()I"⟩
abbrev cX12_fault : ByteArray := prog_14_method_28_code
def yX12_fault : MethodName := ⟨RX12, "fault", "(I)I"⟩
abbrev cX12_count : ByteArray := prog_14_method_29_code
def yX12_count : MethodName := ⟨RX12, "count", "(I)I"⟩
abbrev cX12_isKind : ByteArray := prog_14_method_30_code
def yX12_isKind : MethodName := ⟨RX12, "isKind", "(I)Z"⟩
abbrev cX12_isSize : ByteArray := prog_14_method_31_code
def yX12_isSize : MethodName := ⟨RX12, "isSize", "(I)Z"⟩
abbrev cX12_isTerm : ByteArray := prog_14_method_32_code
def yX12_isTerm : MethodName := ⟨RX12, "isTerm", "(II)Z"⟩
abbrev cX12_isOff : ByteArray := prog_14_method_33_code
def yX12_isOff : MethodName := ⟨RX12, "isOff", "(II)Z"⟩
abbrev cX12_terms : ByteArray := prog_14_method_34_code
def yX12_terms : MethodName := ⟨RX12, "terms", "(I)I"⟩
abbrev cX12_off : ByteArray := prog_14_method_35_code
def yX12_off : MethodName := ⟨RX12, "off", "(I)I"⟩
abbrev cX12_stands : ByteArray := prog_14_method_36_code
def yX12_stands : MethodName := ⟨RX12, "stands", "(II)I"⟩
abbrev cX12_standsIn : ByteArray := prog_14_method_37_code
def yX12_standsIn : MethodName := ⟨RX12, "standsIn", "(II)I"⟩
abbrev cX12_letters : ByteArray := prog_14_method_38_code
def yX12_letters : MethodName := ⟨RX12, "letters", "(I)I"⟩
abbrev cX12_uses : ByteArray := prog_14_method_39_code
def yX12_uses : MethodName := ⟨RX12, "uses", "(I)I"⟩
abbrev cX12_reaches : ByteArray := prog_14_method_40_code
def yX12_reaches : MethodName := ⟨RX12, "reaches", "(I)I"⟩
abbrev cX12_isEmptyTerm : ByteArray := prog_14_method_41_code
def yX12_isEmptyTerm : MethodName := ⟨RX12, "isEmptyTerm", "(II)Z"⟩
abbrev cX12_isEmptyExpr : ByteArray := prog_14_method_42_code
def yX12_isEmptyExpr : MethodName := ⟨RX12, "isEmptyExpr", "(I)Z"⟩
abbrev cX12_isEmptyPart : ByteArray := prog_14_method_43_code
def yX12_isEmptyPart : MethodName := ⟨RX12, "isEmptyPart", "(I)Z"⟩
abbrev cX12_empties : ByteArray := prog_14_method_44_code
def yX12_empties : MethodName := ⟨RX12, "empties", "()V"⟩
abbrev cX12_leansOf : ByteArray := prog_14_method_45_code
def yX12_leansOf : MethodName := ⟨RX12, "leansOf", "(I)I"⟩
abbrev cX12_leansIn : ByteArray := prog_14_method_46_code
def yX12_leansIn : MethodName := ⟨RX12, "leansIn", "(I)I"⟩
abbrev cX12_isOfEmpty : ByteArray := prog_14_method_47_code
def yX12_isOfEmpty : MethodName := ⟨RX12, "isOfEmpty", "(I)Z"⟩
abbrev cX12_wrongKind : ByteArray := prog_14_method_48_code
def yX12_wrongKind : MethodName := ⟨RX12, "wrongKind", "()I"⟩
abbrev cX12_empty : ByteArray := prog_14_method_49_code
def yX12_empty : MethodName := ⟨RX12, "empty", "(I)I"⟩
abbrev cX12_leans : ByteArray := prog_14_method_50_code
def yX12_leans : MethodName := ⟨RX12, "leans", "(I)I"⟩
abbrev cX12_place : ByteArray := prog_14_method_51_code
def yX12_place : MethodName := ⟨RX12, "place", "(III)I"⟩
abbrev cX12_counts : ByteArray := prog_14_method_52_code
def yX12_counts : MethodName := ⟨RX12, "counts", "(I)V"⟩
abbrev cX12_exprMany : ByteArray := prog_14_method_53_code
def yX12_exprMany : MethodName := ⟨RX12, "exprMany", "(III)J"⟩
abbrev cX12_countsRest : ByteArray := prog_14_method_54_code
def yX12_countsRest : MethodName := ⟨RX12, "countsRest", "(III)V"⟩
abbrev cX12_countsPart : ByteArray := prog_14_method_55_code
def yX12_countsPart : MethodName := ⟨RX12, "countsPart", "(IIII)V"⟩
abbrev cX12_inMany : ByteArray := prog_14_method_56_code
def yX12_inMany : MethodName := ⟨RX12, "inMany", "(IIII)J"⟩
abbrev cX12_turnsOf : ByteArray := prog_14_method_57_code
def yX12_turnsOf : MethodName := ⟨RX12, "turnsOf", "(I)I"⟩
abbrev cX12_ringsMany : ByteArray := prog_14_method_58_code
def yX12_ringsMany : MethodName := ⟨RX12, "ringsMany", "(III)J"⟩
abbrev cX12_laysRows : ByteArray := prog_14_method_59_code
def yX12_laysRows : MethodName := ⟨RX12, "laysRows", "(III)V"⟩
abbrev cX12_chosen : ByteArray := prog_14_method_60_code
def yX12_chosen : MethodName := ⟨RX12, "chosen", "(JIZ)J"⟩
abbrev cX12_laysBags : ByteArray := prog_14_method_61_code
def yX12_laysBags : MethodName := ⟨RX12, "laysBags", "(IIIZ)V"⟩
abbrev cX12_addsBags : ByteArray := prog_14_method_62_code
def yX12_addsBags : MethodName := ⟨RX12, "addsBags", "(JIIIIZ)V"⟩
abbrev cX12_kindMany : ByteArray := prog_14_method_63_code
def yX12_kindMany : MethodName := ⟨RX12, "kindMany", "(II)J"⟩
abbrev cX12_upTo : ByteArray := prog_14_method_64_code
def yX12_upTo : MethodName := ⟨RX12, "upTo", "(III)J"⟩
abbrev cX12_blank : ByteArray := prog_14_method_65_code
def yX12_blank : MethodName := ⟨RX12, "blank", "()I"⟩
abbrev cX12_least : ByteArray := prog_14_method_66_code
def yX12_least : MethodName := ⟨RX12, "least", "(I)I"⟩
abbrev cX12_things : ByteArray := prog_14_method_67_code
def yX12_things : MethodName := ⟨RX12, "things", "(II)J"⟩
abbrev cX12_upto : ByteArray := prog_14_method_68_code
def yX12_upto : MethodName := ⟨RX12, "upto", "(II)J"⟩
abbrev cX12_first : ByteArray := prog_14_method_69_code
def yX12_first : MethodName := ⟨RX12, "first", "(IJ)I"⟩
abbrev cX12_marked : ByteArray := prog_14_method_70_code
def yX12_marked : MethodName := ⟨RX12, "marked", "(IIII)J"⟩
abbrev cX12_termAt : ByteArray := prog_14_method_71_code
def yX12_termAt : MethodName := ⟨RX12, "termAt", "(II)I"⟩
abbrev cX12_byTerm : ByteArray := prog_14_method_72_code
def yX12_byTerm : MethodName := ⟨RX12, "byTerm", "(III)J"⟩
abbrev cX12_by : ByteArray := prog_14_method_73_code
def yX12_by : MethodName := ⟨RX12, "by", "(III)J"⟩
abbrev cX12_manyWithout : ByteArray := prog_14_method_74_code
def yX12_manyWithout : MethodName := ⟨RX12, "manyWithout", "(IIII)J"⟩
abbrev cX12_without : ByteArray := prog_14_method_75_code
def yX12_without : MethodName := ⟨RX12, "without", "(IIII)J"⟩
abbrev cX12_hangs : ByteArray := prog_14_method_76_code
def yX12_hangs : MethodName := ⟨RX12, "hangs", "(II)I"⟩
abbrev cX12_idle : ByteArray := prog_14_method_77_code
def yX12_idle : MethodName := ⟨RX12, "idle", "()I"⟩
abbrev cX12_ofAll : ByteArray := prog_14_method_78_code
def yX12_ofAll : MethodName := ⟨RX12, "ofAll", "(II)J"⟩
abbrev cX12_factorial : ByteArray := prog_14_method_79_code
def yX12_factorial : MethodName := ⟨RX12, "factorial", "(I)J"⟩
abbrev cX12_names : ByteArray := prog_14_method_80_code
def yX12_names : MethodName := ⟨RX12, "names", "()V"⟩
abbrev cX12_namedExpr : ByteArray := prog_14_method_81_code
def yX12_namedExpr : MethodName := ⟨RX12, "namedExpr", "(II)J"⟩
abbrev cX12_namesRest : ByteArray := prog_14_method_82_code
def yX12_namesRest : MethodName := ⟨RX12, "namesRest", "(II)V"⟩
abbrev cX12_namedPart : ByteArray := prog_14_method_83_code
def yX12_namedPart : MethodName := ⟨RX12, "namedPart", "(II)J"⟩
abbrev cX12_namedIn : ByteArray := prog_14_method_84_code
def yX12_namedIn : MethodName := ⟨RX12, "namedIn", "(IIII)J"⟩
abbrev cX12_labelled : ByteArray := prog_14_method_85_code
def yX12_labelled : MethodName := ⟨RX12, "labelled", "(II)J"⟩
abbrev cX12_signs : ByteArray := prog_14_method_86_code
def yX12_signs : MethodName := ⟨RX12, "signs", "(I)V"⟩
abbrev cX12_goes : ByteArray := prog_14_method_87_code
def yX12_goes : MethodName := ⟨RX12, "goes", "(IIIII)V"⟩
abbrev cX12_goesExpr : ByteArray := prog_14_method_88_code
def yX12_goesExpr : MethodName := ⟨RX12, "goesExpr", "(IIJI)V"⟩
abbrev cX12_behind : ByteArray := prog_14_method_89_code
def yX12_behind : MethodName := ⟨RX12, "behind", "(II)J"⟩
abbrev cX12_pairs : ByteArray := prog_14_method_90_code
def yX12_pairs : MethodName := ⟨RX12, "pairs", "(III)J"⟩
abbrev cX12_goesPart : ByteArray := prog_14_method_91_code
def yX12_goesPart : MethodName := ⟨RX12, "goesPart", "(IIJI)V"⟩
abbrev cX12_goesIn : ByteArray := prog_14_method_92_code
def yX12_goesIn : MethodName := ⟨RX12, "goesIn", "(IIJI)V"⟩
abbrev cX12_pushes : ByteArray := prog_14_method_93_code
def yX12_pushes : MethodName := ⟨RX12, "pushes", "(II)V"⟩
abbrev cX12_areAlike : ByteArray := prog_14_method_94_code
def yX12_areAlike : MethodName := ⟨RX12, "areAlike", "(II)Z"⟩
abbrev cX12_changes : ByteArray := prog_14_method_95_code
def yX12_changes : MethodName := ⟨RX12, "changes", "(II)I"⟩
abbrev cX12_turnsIn : ByteArray := prog_14_method_96_code
def yX12_turnsIn : MethodName := ⟨RX12, "turnsIn", "(II)I"⟩
abbrev cX12_less : ByteArray := prog_14_method_97_code
def yX12_less : MethodName := ⟨RX12, "less", "(I)I"⟩
abbrev cX12_rowsOf : ByteArray := prog_14_method_98_code
def yX12_rowsOf : MethodName := ⟨RX12, "rowsOf", "(III)J"⟩
abbrev cX12_findsRow : ByteArray := prog_14_method_99_code
def yX12_findsRow : MethodName := ⟨RX12, "findsRow", "(III)V"⟩
abbrev cX12_bagsOf : ByteArray := prog_14_method_100_code
def yX12_bagsOf : MethodName := ⟨RX12, "bagsOf", "(IIIIJZ)J"⟩
abbrev cX12_findsBag : ByteArray := prog_14_method_101_code
def yX12_findsBag : MethodName := ⟨RX12, "findsBag", "(IIIZ)V"⟩
abbrev cX12_isBelow : ByteArray := prog_14_method_102_code
def yX12_isBelow : MethodName := ⟨RX12, "isBelow", "(III)Z"⟩
abbrev cX12_isLeast : ByteArray := prog_14_method_103_code
def yX12_isLeast : MethodName := ⟨RX12, "isLeast", "(I)Z"⟩
abbrev cX12_seeks : ByteArray := prog_14_method_104_code
def yX12_seeks : MethodName := ⟨RX12, "seeks", "(IIII)Z"⟩
abbrev cX12_whyNot : ByteArray := prog_14_method_105_code
def yX12_whyNot : MethodName := ⟨RX12, "whyNot", "(III)I"⟩
abbrev cX12_length : ByteArray := prog_14_method_106_code
def yX12_length : MethodName := ⟨RX12, "length", "(III)I"⟩
abbrev cX12_sign : ByteArray := prog_14_method_107_code
def yX12_sign : MethodName := ⟨RX12, "sign", "(IIII)I"⟩
abbrev cX12_deep : ByteArray := prog_14_method_108_code
def yX12_deep : MethodName := ⟨RX12, "deep", "(III)I"⟩
abbrev cX12_atoms : ByteArray := prog_14_method_109_code
def yX12_atoms : MethodName := ⟨RX12, "atoms", "(IIII)I"⟩
abbrev cX12_term : ByteArray := prog_14_method_110_code
def yX12_term : MethodName := ⟨RX12, "term", "(III)I"⟩
abbrev cX12_symmetries : ByteArray := prog_14_method_111_code
def yX12_symmetries : MethodName := ⟨RX12, "symmetries", "(III)I"⟩
abbrev cX12_labels : ByteArray := prog_14_method_112_code
def yX12_labels : MethodName := ⟨RX12, "labels", "(III)I"⟩
abbrev cX12_node : ByteArray := prog_14_method_113_code
def yX12_node : MethodName := ⟨RX12, "node", "(III)I"⟩
abbrev cX12_here : ByteArray := prog_14_method_114_code
def yX12_here : MethodName := ⟨RX12, "here", "()I"⟩
abbrev cX12_isBlank : ByteArray := prog_14_method_115_code
def yX12_isBlank : MethodName := ⟨RX12, "isBlank", "(I)Z"⟩
abbrev cX12_partOf : ByteArray := prog_14_method_116_code
def yX12_partOf : MethodName := ⟨RX12, "partOf", "(I)I"⟩
abbrev cX12_readsThing : ByteArray := prog_14_method_117_code
def yX12_readsThing : MethodName := ⟨RX12, "readsThing", "(I)I"⟩
abbrev cX12_readsTerm : ByteArray := prog_14_method_118_code
def yX12_readsTerm : MethodName := ⟨RX12, "readsTerm", "(I)I"⟩
abbrev cX12_comesBehind : ByteArray := prog_14_method_119_code
def yX12_comesBehind : MethodName := ⟨RX12, "comesBehind", "(IIII)I"⟩
abbrev cX12_readsMany : ByteArray := prog_14_method_120_code
def yX12_readsMany : MethodName := ⟨RX12, "readsMany", "(I)I"⟩
abbrev cX12_isAmong : ByteArray := prog_14_method_121_code
def yX12_isAmong : MethodName := ⟨RX12, "isAmong", "(II)Z"⟩
abbrev cX12_areSame : ByteArray := prog_14_method_122_code
def yX12_areSame : MethodName := ⟨RX12, "areSame", "(II)Z"⟩
abbrev cX12_areSameFrom : ByteArray := prog_14_method_123_code
def yX12_areSameFrom : MethodName := ⟨RX12, "areSameFrom", "(III)Z"⟩
abbrev cX12_areSameBags : ByteArray := prog_14_method_124_code
def yX12_areSameBags : MethodName := ⟨RX12, "areSameBags", "(II)Z"⟩
abbrev cX12_readsWhole : ByteArray := prog_14_method_125_code
def yX12_readsWhole : MethodName := ⟨RX12, "readsWhole", "(I)I"⟩
abbrev cX12_takesSpelled : ByteArray := prog_14_method_126_code
def yX12_takesSpelled : MethodName := ⟨RX12, "takesSpelled", "()V"⟩
abbrev cX12_tells : ByteArray := prog_14_method_127_code
def yX12_tells : MethodName := ⟨RX12, "tells", "(I)I"⟩
abbrev cX12_told : ByteArray := prog_14_method_128_code
def yX12_told : MethodName := ⟨RX12, "told", "(I)I"⟩
abbrev cX12_whyNone : ByteArray := prog_14_method_129_code
def yX12_whyNone : MethodName := ⟨RX12, "whyNone", "(II)I"⟩
abbrev cX12_shared : ByteArray := prog_14_method_130_code
def yX12_shared : MethodName := ⟨RX12, "shared", "(III)I"⟩
abbrev cX12_most : ByteArray := prog_14_method_131_code
def yX12_most : MethodName := ⟨RX12, "most", "(IIII)I"⟩
abbrev cX12_deepest : ByteArray := prog_14_method_132_code
def yX12_deepest : MethodName := ⟨RX12, "deepest", "(II)I"⟩
abbrev cX12_fullest : ByteArray := prog_14_method_133_code
def yX12_fullest : MethodName := ⟨RX12, "fullest", "(III)I"⟩
abbrev cX12_stiffest : ByteArray := prog_14_method_134_code
def yX12_stiffest : MethodName := ⟨RX12, "stiffest", "(II)I"⟩
abbrev cX12_common : ByteArray := prog_14_method_135_code
def yX12_common : MethodName := ⟨RX12, "common", "(II)I"⟩
abbrev cX12_part : ByteArray := prog_14_method_136_code
def yX12_part : MethodName := ⟨RX12, "part", "(III)I"⟩
abbrev cX12_chance : ByteArray := prog_14_method_137_code
def yX12_chance : MethodName := ⟨RX12, "chance", "(IIII)I"⟩
abbrev cX12_mean : ByteArray := prog_14_method_138_code
def yX12_mean : MethodName := ⟨RX12, "mean", "(IIII)I"⟩
abbrev cX12_isBox : ByteArray := prog_14_method_139_code
def yX12_isBox : MethodName := ⟨RX12, "isBox", "(III)Z"⟩
abbrev cX12_bitsFor : ByteArray := prog_14_method_140_code
def yX12_bitsFor : MethodName := ⟨RX12, "bitsFor", "(J)I"⟩
abbrev cX12_boxed : ByteArray := prog_14_method_141_code
def yX12_boxed : MethodName := ⟨RX12, "boxed", "(III)J"⟩
abbrev cX12_inBox : ByteArray := prog_14_method_142_code
def yX12_inBox : MethodName := ⟨RX12, "inBox", "(IIII)I"⟩
abbrev cX12_bits : ByteArray := prog_14_method_143_code
def yX12_bits : MethodName := ⟨RX12, "bits", "(III)I"⟩
abbrev cX12_rankIn : ByteArray := prog_14_method_144_code
def yX12_rankIn : MethodName := ⟨RX12, "rankIn", "(III)I"⟩
abbrev cX12_drawn : ByteArray := prog_14_method_145_code
def yX12_drawn : MethodName := ⟨RX12, "drawn", "(IIIII)I"⟩
abbrev cX12_deal : ByteArray := prog_14_method_146_code
def yX12_deal : MethodName := ⟨RX12, "deal", "(IIII)I"⟩
abbrev cX12_dealt : ByteArray := prog_14_method_147_code
def yX12_dealt : MethodName := ⟨RX12, "dealt", "()I"⟩
abbrev cX12_left : ByteArray := prog_14_method_148_code
def yX12_left : MethodName := ⟨RX12, "left", "()I"⟩
abbrev cX12_takes : ByteArray := prog_14_method_149_code
def yX12_takes : MethodName := ⟨RX12, "takes", "(II)I"⟩
abbrev cX12_takesBack : ByteArray := prog_14_method_150_code
def yX12_takesBack : MethodName := ⟨RX12, "takesBack", "()V"⟩
abbrev cX12_undo : ByteArray := prog_14_method_151_code
def yX12_undo : MethodName := ⟨RX12, "undo", "()I"⟩
abbrev cX12_anew : ByteArray := prog_14_method_152_code
def yX12_anew : MethodName := ⟨RX12, "anew", "()I"⟩
def RJx145de : String := "java/io/Serializable"
def TJx145de : u_T := fun k => match k with
  | _ => ("", "", "", false)
def tyJx145de : Nat → FieldType := fun k => match k with
  | _ => .int
def RJx9f9b0 : String := "java/lang/CharSequence"
def TJx9f9b0 : u_T := fun k => match k with
  | _ => ("", "", "", false)
def tyJx9f9b0 : Nat → FieldType := fun k => match k with
  | _ => .int
def RJx8e188 : String := "java/lang/Cloneable"
def TJx8e188 : u_T := fun k => match k with
  | _ => ("", "", "", false)
def tyJx8e188 : Nat → FieldType := fun k => match k with
  | _ => .int
def RJxb160c : String := "java/lang/Comparable"
def TJxb160c : u_T := fun k => match k with
  | _ => ("", "", "", false)
def tyJxb160c : Nat → FieldType := fun k => match k with
  | _ => .int
def RJ6 : String := "java/lang/Integer"
def TJ6 : u_T := fun k => match k with
  | _ => ("", "", "", false)
def tyJ6 : Nat → FieldType := fun k => match k with
  | _ => .int
abbrev cJ6_compare_7cf53 : ByteArray := prog_16_method_40_code
def yJ6_compare_7cf53 : MethodName := ⟨RJ6, "compare", "(II)I"⟩
abbrev cJ6_bitCount_0f7a4 : ByteArray := prog_16_method_49_code
def yJ6_bitCount_0f7a4 : MethodName := ⟨RJ6, "bitCount", "(I)I"⟩
def RJ9 : String := "java/lang/Math"
def TJ9 : u_T := fun k => match k with
  | _ => ("", "", "", false)
def tyJ9 : Nat → FieldType := fun k => match k with
  | _ => .int
abbrev cJ9_max_7cf53 : ByteArray := prog_17_method_65_code
def yJ9_max_7cf53 : MethodName := ⟨RJ9, "max", "(II)I"⟩
abbrev cJ9_min_7cf53 : ByteArray := prog_17_method_69_code
def yJ9_min_7cf53 : MethodName := ⟨RJ9, "min", "(II)I"⟩
abbrev cJ9_min_f86c9 : ByteArray := prog_17_method_70_code
def yJ9_min_f86c9 : MethodName := ⟨RJ9, "min", "(JJ)J"⟩
def RJ0 : String := "java/lang/String"
def TJ0 : u_T := fun k => match k with
  | _ => ("", "", "", false)
def tyJ0 : Nat → FieldType := fun k => match k with
  | _ => .int
abbrev cJ0_length_8abf5 : ByteArray := prog_18_method_54_code
def yJ0_length_8abf5 : MethodName := ⟨RJ0, "length", "()I"⟩
abbrev cJ0_charAt_5068e : ByteArray := prog_18_method_56_code
def yJ0_charAt_5068e : MethodName := ⟨RJ0, "charAt", "(I)C"⟩
abbrev cJ0_coder_7d493 : ByteArray := prog_18_method_152_code
def yJ0_coder_7d493 : MethodName := ⟨RJ0, "coder", "()B"⟩
abbrev cJ0_isLatin1_aae02 : ByteArray := prog_18_method_154_code
def yJ0_isLatin1_aae02 : MethodName := ⟨RJ0, "isLatin1", "()Z"⟩
abbrev cJ0_checkIndex_df160 : ByteArray := prog_18_method_155_code
def yJ0_checkIndex_df160 : MethodName := ⟨RJ0, "checkIndex", "(II)V"⟩
def RJ1 : String := "java/lang/StringLatin1"
def TJ1 : u_T := fun k => match k with
  | _ => ("", "", "", false)
def tyJ1 : Nat → FieldType := fun k => match k with
  | _ => .int
abbrev cJ1_charAt_3b067 : ByteArray := prog_19_method_2_code
def yJ1_charAt_3b067 : MethodName := ⟨RJ1, "charAt", "([BI)C"⟩
def RJ2 : String := "java/lang/StringUTF16"
def TJ2 : u_T := fun k => match k with
  | _ => ("", "", "", false)
def tyJ2 : Nat → FieldType := fun k => match k with
  | _ => .int
abbrev cJ2_getChar_3b067 : ByteArray := prog_20_method_5_code
def yJ2_getChar_3b067 : MethodName := ⟨RJ2, "getChar", "([BI)C"⟩
abbrev cJ2_length_9d52b : ByteArray := prog_20_method_6_code
def yJ2_length_9d52b : MethodName := ⟨RJ2, "length", "([B)I"⟩
abbrev cJ2_charAt_3b067 : ByteArray := prog_20_method_83_code
def yJ2_charAt_3b067 : MethodName := ⟨RJ2, "charAt", "([BI)C"⟩
abbrev cJ2_checkIndex_2214a : ByteArray := prog_20_method_91_code
def yJ2_checkIndex_2214a : MethodName := ⟨RJ2, "checkIndex", "(I[B)V"⟩
def RJ10 : String := "java/lang/System"
def TJ10 : u_T := fun k => match k with
  | _ => ("", "", "", false)
def tyJ10 : Nat → FieldType := fun k => match k with
  | _ => .int
def RJxfd54e : String := "java/lang/constant/Constable"
def TJxfd54e : u_T := fun k => match k with
  | _ => ("", "", "", false)
def tyJxfd54e : Nat → FieldType := fun k => match k with
  | _ => .int
def RJx3cf43 : String := "java/lang/constant/ConstantDesc"
def TJx3cf43 : u_T := fun k => match k with
  | _ => ("", "", "", false)
def tyJx3cf43 : Nat → FieldType := fun k => match k with
  | _ => .int
def RJ7 : String := "java/util/Arrays"
def TJ7 : u_T := fun k => match k with
  | _ => ("", "", "", false)
def tyJ7 : Nat → FieldType := fun k => match k with
  | _ => .int
abbrev cJ7_rangeCheck_23922 : ByteArray := prog_22_method_30_code
def yJ7_rangeCheck_23922 : MethodName := ⟨RJ7, "rangeCheck", "(III)V"⟩
abbrev cJ7_fill_53178 : ByteArray := prog_22_method_103_code
def yJ7_fill_53178 : MethodName := ⟨RJ7, "fill", "([II)V"⟩
abbrev cJ7_fill_fda19 : ByteArray := prog_22_method_104_code
def yJ7_fill_fda19 : MethodName := ⟨RJ7, "fill", "([IIII)V"⟩
abbrev cJ7_fill_49daa : ByteArray := prog_22_method_111_code
def yJ7_fill_49daa : MethodName := ⟨RJ7, "fill", "([ZZ)V"⟩
abbrev cJ7_copyOf_9075b : ByteArray := prog_22_method_121_code
def yJ7_copyOf_9075b : MethodName := ⟨RJ7, "copyOf", "([BI)[B"⟩
def RJ3 : String := "jdk/internal/util/Preconditions"
def TJ3 : u_T := fun k => match k with
  | _ => ("", "", "", false)
def tyJ3 : Nat → FieldType := fun k => match k with
  | _ => .int
abbrev cJ3_checkIndex_8e157 : ByteArray := prog_23_method_11_code
def yJ3_checkIndex_8e157 : MethodName := ⟨RJ3, "checkIndex", "(IILjava/util/function/BiFunction;)I"⟩
def RL : String := "GrownKindsLaw"
abbrev cL_law : ByteArray := code
def yL_law : MethodName := ⟨RL, "law", "([I)Z"⟩
abbrev vwCl : List vw_C := [(RX0, TX0, 8), (RX1, TX1, 7), (RX2, TX2, 14), (RX3, TX3, 9), (RX4, TX4, 8), (RX5, TX5, 13), (RX6, TX6, 3), (RX7, TX7, 9), (RX8, TX8, 6), (RX9, TX9, 15), (RX10, TX10, 13), (RX11, TX11, 19), (RX12, TX12, 52)]
end
section
/-! A world of cells that lie side by side from the address b on, by their numbers: what stands in each is E -/
def gT : List Cond := lw_tbl.filter goodWord
theorem gT_in {w : Cond} (h : w ∈ lw_tbl) (g : goodWord w = true) : w ∈ gT := List.mem_filter.mpr ⟨h, g⟩
theorem gT_tbl {w : Cond} (h : w ∈ gT) : w ∈ lw_tbl := (List.mem_filter.mp h).1
theorem gT_good {ws : List Cond} (h : ∀ w ∈ ws, w ∈ gT) : GoodIn gT ws := fun w hw => ⟨h w hw, good_of_word (List.mem_filter.mp (h w hw)).2⟩
def upE (E : Nat → va_E) (i : Nat) (x : va_E) : Nat → va_E := fun j => if j = i then x else E j
theorem upE_s {E : Nat → va_E} {i : Nat} {x : va_E} : upE E i x i = x := by simp [upE]
theorem upE_n {E : Nat → va_E} {i j : Nat} {x : va_E} (h : j ≠ i) : upE E i x j = E j := by simp [upE, h]
def wd (b n : Nat) (E : Nat → va_E) : va_W := (List.range n).map fun i => (b + i, E i)
theorem wd_get {b n i : Nat} {E : Nat → va_E} (h : i < n) : (wd b n E)[i]? = some (b + i, E i) := by simp [wd, h]
theorem wd_at {b n i : Nat} {E : Nat → va_E} {x : va_E} (h : i < n) (he : E i = x) : (wd b n E)[i]? = some (b + i, x) := by rw [wd_get h, he]
theorem wd_inv {b n k : Nat} {E : Nat → va_E} {q : Nat × va_E} (h : (wd b n E)[k]? = some q) : k < n ∧ q = (b + k, E k) := by
  by_cases hk : k < n
  · rw [wd_get hk] at h; cases h; exact ⟨hk, rfl⟩
  · simp [wd, hk] at h
theorem wd_ext {b n : Nat} {E E' : Nat → va_E} (h : ∀ i, i < n → E i = E' i) : wd b n E = wd b n E' := by
  refine List.map_congr_left fun i hi => ?_
  rw [h i (List.mem_range.mp hi)]
theorem wd_len {b n : Nat} {E : Nat → va_E} : (wd b n E).length = n := by simp [wd]
theorem wd_set {b n i : Nat} {E : Nat → va_E} {x : va_E} (h : i < n) : (wd b n E).set i (b + i, x) = wd b n (upE E i x) := by
  refine List.ext_getElem? fun k => ?_
  by_cases hk : k < n
  · rw [wd_get hk]
    by_cases hik : i = k
    · subst hik
      rw [List.getElem?_set_self (by rw [wd_len]; exact hk)]
      simp [upE]
    · rw [List.getElem?_set_ne hik, wd_get hk, upE_n (Ne.symm hik)]
  · rw [List.getElem?_eq_none (by rw [List.length_set, wd_len]; omega), List.getElem?_eq_none (by rw [wd_len]; omega)]
theorem wd_push {b n : Nat} {E : Nat → va_E} {x : va_E} : wd b n E ++ [(b + n, x)] = wd b (n + 1) (upE E n x) := by
  unfold wd
  rw [List.range_succ, List.map_append]
  congr 1
  · refine List.map_congr_left fun i hi => ?_
    rw [upE_n (Nat.ne_of_lt (List.mem_range.mp hi))]
  · simp [upE]
def gty (cy : Nat → ClassId) : List (ClassId × FieldType) := [(cy 0, .byte), (cy 1, .int), (cy 2, .long), (cy 3, .boolean), (cy 4, .object "GrownKinds$RingList")]
def gnM : List (String × Nat × MethodName × String) := [("GrownKinds", 19, ⟨"GrownKinds$Grammar", "<init>", "()V"⟩, "GrownKinds"), ("GrownKinds$Census", 105, ⟨"GrownKinds", "plus", "(JJ)J"⟩, "GrownKinds"), ("GrownKinds$Census", 181, ⟨"GrownKinds", "picks", "(JIZ)J"⟩, "GrownKinds"), ("GrownKinds$Census", 142, ⟨"GrownKinds", "times", "(JJ)J"⟩, "GrownKinds"), ("GrownKinds$Speller", 119, ⟨"GrownKinds", "times", "(JJ)J"⟩, "GrownKinds"), ("GrownKinds$Sequences", 53, ⟨"GrownKinds", "times", "(JJ)J"⟩, "GrownKinds"), ("GrownKinds$Speller", 164, ⟨"GrownKinds", "openSign", "(I)I"⟩, "GrownKinds"), ("GrownKinds$Speller", 167, ⟨"GrownKinds", "closeSign", "(I)I"⟩, "GrownKinds"), ("GrownKinds$Sequences", 71, ⟨"GrownKinds", "picks", "(JIZ)J"⟩, "GrownKinds"), ("GrownKinds$Sequences", 79, ⟨"GrownKinds", "plus", "(JJ)J"⟩, "GrownKinds"), ("GrownKinds$Sequences", 94, ⟨"GrownKinds$RingList", "<init>", "()V"⟩, "GrownKinds"), ("GrownKinds$ThingReader", 115, ⟨"GrownKinds", "closeSign", "(I)I"⟩, "GrownKinds"), ("GrownKinds$ThingReader", 112, ⟨"GrownKinds", "openSign", "(I)I"⟩, "GrownKinds")]
def gnF : List (String × Nat × String × String × String × String) := [("GrownKinds$Census", 133, "GrownKinds", "CHOOSE", "[I", "GrownKinds"), ("GrownKinds$Census", 173, "GrownKinds", "TOTIENT", "[I", "GrownKinds"), ("GrownKinds$Census", 170, "GrownKinds", "FACTORIAL", "[I", "GrownKinds")]
/-- the words on nest mates -/
def gN (s : State) : Prop := (∀ q ∈ gnM, va_Nw (.methodLinkNest q.1 q.2.1 q.2.2.1 q.2.2.2) s) ∧ ∀ q ∈ gnF, va_Nw (.fieldLinkNest q.1 q.2.1 q.2.2.1 q.2.2.2.1 q.2.2.2.2.1 q.2.2.2.2.2) s
def gK (D : va_G) (cy : Nat → ClassId) (s : State) : Prop := va_K D vwCl (gty cy) s ∧ va_AO "GrownKinds$RingList" s ∧ gN s
theorem gK.same {D : va_G} {cy : Nat → ClassId} {u U : State} (h : gK D cy u) (hvm : u.vm = U.vm) : gK D cy U := ⟨va_K.moved (by rw [← hvm]; exact Vm.Alike.refl u.vm) h.1, va_AO.moved (by rw [← hvm]; exact Vm.Alike.refl u.vm) h.2.1, fun q hq => va_Nw.same rfl hvm (h.2.2.1 q hq), fun q hq => va_Nw.same rfl hvm (h.2.2.2 q hq)⟩
theorem gK.warm {D : va_G} {cy : Nat → ClassId} {u U : State} (h : gK D cy u) (hW : u.WarmedH U.vm) : gK D cy U := ⟨va_K.moved hW.alike h.1, va_AO.moved hW.alike h.2.1, fun q hq => va_Nw.warmM hW (h.2.2.1 q hq), fun q hq => va_Nw.warmF hW (h.2.2.2 q hq)⟩
/-- which cells may change: all that came since the start -/
def gA (b : Nat) : Nat → Prop := fun q => b ≤ q
theorem wd_D {b n : Nat} {E : Nat → va_E} : va_D (gA b) (wd b n E) := ⟨fun i j p q hp hq h => by
  obtain ⟨-, rfl⟩ := wd_inv hp
  obtain ⟨-, rfl⟩ := wd_inv hq
  have h : b + i = b + j := h
  omega, fun k q hk => by
  obtain ⟨-, rfl⟩ := wd_inv hk
  exact Nat.le_add_right b k⟩
def gW (D : va_G) (cy : Nat → ClassId) (b n : Nat) (s : State) (H : Heap) (locs : List Loc) (E : Nat → va_E) : Prop :=
  gK D cy s ∧ va_P D vwCl (wd b n E) H ∧ va_S (gA b) s.heap H locs ∧ b ≤ s.heap.size
theorem gW.A {D : va_G} {cy : Nat → ClassId} {b n : Nat} {s : State} {H : Heap} {locs : List Loc} {E : Nat → va_E} (h : gW D cy b n s H locs E) : ∀ q, s.heap.size ≤ q → gA b q := fun _ hq => Nat.le_trans h.2.2.2 hq
theorem gW.ge {D : va_G} {cy : Nat → ClassId} {b n : Nat} {s : State} {H : Heap} {locs : List Loc} {E : Nat → va_E} (h : gW D cy b n s H locs E) : b + n ≤ H.size := by
  cases n with
  | zero => exact Nat.le_trans h.2.2.2 h.2.2.1.1
  | succ n => exact (h.2.1 n _ (wd_get (Nat.lt_succ_self n))).lt
/-- of a class of ours: its number, name, fields, types -/
def cP (ci : Nat) (C : String) (T : u_T) (N : Nat) (ty : Nat → FieldType) : Prop := vwCl[ci]? = some (C, T, N) ∧ (∀ w ∈ u_ws C T N, w ∈ gT) ∧ (∀ k, k < N → parseFieldDescriptor (T k).2.2.1 = some (ty k)) ∧ (∀ a, a < N → ∀ b, b < N → a ≠ b → (T a).2.1 ≠ (T b).2.1)
section GB
variable {p : Program} {l : Launch} {e : Env} {R : Room} {s : State} {m : MethodId} {args : Array Value} {below : List Frame} {meth : Method} {c : Code} {H : Heap} {locs : List Loc} {cells slots : Nat} {Q : State → Prop} {cc : ByteArray} {pc nL : Nat} {ls : Array Slot} {rest : List Value} {own : String} {D : va_G} {cy : Nat → ClassId} {b n : Nat} {E : Nat → va_E} {index : Nat}
theorem g_get (S : CallFix p m c cc nL s args gT own) (hG : gW D cy b n s H locs E) (i k : Nat) {ci N : Nat} {C : String} {T : u_T} {ty : Nat → FieldType} {fs : List Value} {v : Value} (he : E i = .inr (ci, fs)) (P : cP ci C T N ty) (hlink : Cond.fieldLink own index (T k).1 (T k).2.1 (T k).2.2.1 ∈ gT) (hdg : decode cc pc = .ok (.getfield index, 3)) (hv : fs[k]? = some v) (hi : i < n) (hk : k < N)
    (kk : W p l e R s m args below meth c H locs cells slots Q (F0 m (pc + 3) ls (v :: rest))) : W p l e R s m args below meth c H locs cells slots Q (F0 m pc ls (.ref (b + i) :: rest)) :=
  va_get S.1 S.2.1 S.2.2.2.2 P.2.1 S.2.2.2.1 hG.1.1 hG.2.1 i (wd_at hi he) P.1 k hk (S.2.2.2.2 _ hlink) (fun _ h => h) hv hdg kk
theorem g_put (S : CallFix p m c cc nL s args gT own) (hG : gW D cy b n s H locs E) (i k : Nat) {ci N : Nat} {C : String} {T : u_T} {ty : Nat → FieldType} {fs fs' : List Value} {v : Value} (he : E i = .inr (ci, fs)) (P : cP ci C T N ty) (hlink : Cond.fieldLink own index (T k).1 (T k).2.1 (T k).2.2.1 ∈ gT) (hdg : decode cc pc = .ok (.putfield index, 3)) (hfs : fs.set k v = fs') (hi : i < n) (hk : k < N) (hl : k < fs.length) (hfin : (T k).2.2.2 = false) (hn : narrow (ty k) v = v) (hfit : fits (ty k) v = true)
    (kk : ∀ (H1 : Heap) (locs : List Loc), gW D cy b n s H1 locs (upE E i (.inr (ci, fs'))) → W p l e R s m args below meth c H1 locs cells slots Q (F0 m (pc + 3) ls rest)) : W p l e R s m args below meth c H locs cells slots Q (F0 m pc ls (v :: .ref (b + i) :: rest)) := by
  subst hfs
  obtain ⟨hx, hb, -, hown, hts⟩ := S
  obtain ⟨hc, hin, hty, hnm⟩ := P
  obtain ⟨hK, hP, hS0, hA⟩ := id hG
  have hD : va_D (gA b) (wd b n E) := wd_D
  have he := wd_at (b := b) hi he
  have hap := va_apart (own := own) hts hin ty hty hnm hK.1 hc
  obtain ⟨r, h1, cell, q1, q2, q3, q4⟩ := hP i _ he
  have hr : r = (C, T, N) := Option.some.inj (h1.symm.trans hc)
  subst hr
  obtain ⟨hS, hfc, kC, hkC, hkind⟩ := hK.1.1 ci _ hc
  obtain ⟨cf, kf, fi, f, hi2, hsl⟩ := hS k hk
  have hlay := hts _ (hin _ (u_in_lay hk))
  unfold u_lay at hlay
  rw [if_neg (by rw [hfin]; decide)] at hlay
  have hst := (u_facts hfc hkC (u_lays hts hin hk) hi2).1
  have h6 := u_store hfc hkC hkind hlay hi2 (hty k hk) hn hfit
  refine W.putK hx hb (f := f) ⟨hown, hts _ hlink, ⟨_, _, _, hi2⟩, hst⟩ (by rw [q2]; exact h6) q1 q3 (by rw [hsl]; exact k2_hasslot (q4 k hk)) rfl rfl hdg fun H' e1 e2 e3 => ?_
  rw [hsl] at e1 ⊢
  have hP1 : va_P D vwCl ((wd b n E).set i (b + i, .inr (ci, fs.set k v))) H' := hP.set hD he ⟨_, hc, t_OB.to (V := updV (vp_V fs) k v) ⟨_, e1, q2, q3, t_set q4 hap hk v⟩ (fun j _ => vp_updV_set hl v j)⟩ e3
  rw [wd_set hi] at hP1
  exact kk H' _ ⟨hK, hP1, hS0.put e2 e3 (hD.2 i _ he), hA⟩
theorem g_putF (S : CallFix p m c cc nL s args gT own) (hG : gW D cy b n s H locs E) (hin2 : meth.name = "<init>") (i k : Nat) {ci N : Nat} {C : String} {T : u_T} {ty : Nat → FieldType} {fs fs' : List Value} {v : Value} (he : E i = .inr (ci, fs)) (P : cP ci C T N ty) (hlink : Cond.fieldLink own index (T k).1 (T k).2.1 (T k).2.2.1 ∈ gT) (hdg : decode cc pc = .ok (.putfield index, 3)) (hfs : fs.set k v = fs') (hi : i < n) (hk : k < N) (hl : k < fs.length) (hfin : (T k).2.2.2 = true) (hdecl : (T k).1 = own) (hn : narrow (ty k) v = v) (hfit : fits (ty k) v = true)
    (kk : ∀ (H1 : Heap) (locs : List Loc), gW D cy b n s H1 locs (upE E i (.inr (ci, fs'))) → W p l e R s m args below meth c H1 locs cells slots Q (F0 m (pc + 3) ls rest)) : W p l e R s m args below meth c H locs cells slots Q (F0 m pc ls (v :: .ref (b + i) :: rest)) := by
  subst hfs
  obtain ⟨hx, hb, -, hown, hts⟩ := S
  obtain ⟨hc, hin, hty, hnm⟩ := P
  obtain ⟨hK, hP, hS0, hA⟩ := id hG
  have hD : va_D (gA b) (wd b n E) := wd_D
  have he := wd_at (b := b) hi he
  have hap := va_apart (own := own) hts hin ty hty hnm hK.1 hc
  obtain ⟨r, h1, cell, q1, q2, q3, q4⟩ := hP i _ he
  have hr : r = (C, T, N) := Option.some.inj (h1.symm.trans hc)
  subst hr
  obtain ⟨hS, hfc, kC, hkC, hkind⟩ := hK.1.1 ci _ hc
  obtain ⟨cf, kf, fi, f, hi2, hsl⟩ := hS k hk
  have hlay := hts _ (hin _ (u_in_lay hk))
  unfold u_lay at hlay
  rw [if_pos hfin] at hlay
  have hst := (u_facts hfc hkC (u_lays hts hin hk) hi2).1
  have hcf : m.cls = cf := by
    obtain ⟨_, _, c', _, _, _, -, -, hf', -, -, -, hown2, -⟩ := Cond.laysFinal_spec hlay
    have e1 : c' = cf := by have := hi2.symm.trans hf'; simp at this; exact this.1.symm
    rw [hdecl] at hown2
    rw [← e1]; exact Option.some.inj (hown.symm.trans hown2)
  have h6 := u_fits hfc hkC hkind (Or.inr hlay) hi2 (hty k hk) hn hfit
  refine W.putFinK hx hb hown (hts _ hlink) hi2 hst hcf hin2 (by rw [q2]; exact h6) q1 q3 (by rw [hsl]; exact k2_hasslot (q4 k hk)) rfl rfl hdg fun H' e1 e2 e3 => ?_
  rw [hsl] at e1 ⊢
  have hP1 : va_P D vwCl ((wd b n E).set i (b + i, .inr (ci, fs.set k v))) H' := hP.set hD he ⟨_, hc, t_OB.to (V := updV (vp_V fs) k v) ⟨_, e1, q2, q3, t_set q4 hap hk v⟩ (fun j _ => vp_updV_set hl v j)⟩ e3
  rw [wd_set hi] at hP1
  exact kk H' _ ⟨hK, hP1, hS0.put e2 e3 (hD.2 i _ he), hA⟩
theorem g_iald (S : CallFix p m c cc nL s args gT own) (hG : gW D cy b n s H locs E) (j : Nat) {N : Nat} {f : Nat → Int32} {i : Int32} (he : E j = .inl (cy 1, N, .inl f)) (hj : j < n) (hdg : decode cc pc = .ok (.iaload, 1)) (hin : vp_in i N)
    (kk : W p l e R s m args below meth c H locs cells slots Q (F0 m (pc + 1) ls (.int (f i.toNatClampNeg) :: rest))) : W p l e R s m args below meth c H locs cells slots Q (F0 m pc ls (.int i :: .ref (b + j) :: rest)) :=
  va_iald S.1 S.2.1 hG.1.1 hG.2.1 j 1 (wd_at hj he) rfl hin hdg kk
theorem g_bald (S : CallFix p m c cc nL s args gT own) (hG : gW D cy b n s H locs E) (j : Nat) {N : Nat} {f : Nat → Int32} {i : Int32} (he : E j = .inl (cy 0, N, .inl f)) (hj : j < n) (hdg : decode cc pc = .ok (.baload, 1)) (hin : vp_in i N)
    (kk : W p l e R s m args below meth c H locs cells slots Q (F0 m (pc + 1) ls (.int (f i.toNatClampNeg) :: rest))) : W p l e R s m args below meth c H locs cells slots Q (F0 m pc ls (.int i :: .ref (b + j) :: rest)) :=
  va_bald S.1 S.2.1 hG.1.1 hG.2.1 j 0 (wd_at hj he) rfl hin hdg kk
theorem g_zald (S : CallFix p m c cc nL s args gT own) (hG : gW D cy b n s H locs E) (j : Nat) {N : Nat} {f : Nat → Int32} {i : Int32} (he : E j = .inl (cy 3, N, .inl f)) (hj : j < n) (hdg : decode cc pc = .ok (.baload, 1)) (hin : vp_in i N)
    (kk : W p l e R s m args below meth c H locs cells slots Q (F0 m (pc + 1) ls (.int (f i.toNatClampNeg) :: rest))) : W p l e R s m args below meth c H locs cells slots Q (F0 m pc ls (.int i :: .ref (b + j) :: rest)) :=
  va_zald S.1 S.2.1 hG.1.1 hG.2.1 j 3 (wd_at hj he) rfl hin hdg kk
theorem g_lald (S : CallFix p m c cc nL s args gT own) (hG : gW D cy b n s H locs E) (j : Nat) {N : Nat} {f : Nat → Int64} {i : Int32} (he : E j = .inl (cy 2, N, .inr (.inl f))) (hj : j < n) (hdg : decode cc pc = .ok (.laload, 1)) (hin : vp_in i N)
    (kk : W p l e R s m args below meth c H locs cells slots Q (F0 m (pc + 1) ls (.long (f i.toNatClampNeg) :: rest))) : W p l e R s m args below meth c H locs cells slots Q (F0 m pc ls (.int i :: .ref (b + j) :: rest)) :=
  va_lald S.1 S.2.1 hG.1.1 hG.2.1 j 2 (wd_at hj he) rfl hin hdg kk
theorem g_iast (S : CallFix p m c cc nL s args gT own) (hG : gW D cy b n s H locs E) (j : Nat) {N : Nat} {f : Nat → Int32} {i x : Int32} (he : E j = .inl (cy 1, N, .inl f)) (hj : j < n) (hdg : decode cc pc = .ok (.iastore, 1)) (hin : vp_in i N)
    (kk : ∀ (H : Heap) (locs : List Loc), gW D cy b n s H locs (upE E j (.inl (cy 1, N, .inl (upd f i.toNatClampNeg x)))) → W p l e R s m args below meth c H locs cells slots Q (F0 m (pc + 1) ls rest)) : W p l e R s m args below meth c H locs cells slots Q (F0 m pc ls (.int x :: .int i :: .ref (b + j) :: rest)) := by
  refine va_iast S.1 S.2.1 hG.1.1 hG.2.1 wd_D hG.2.2.1 j 1 (wd_at hj he) rfl hin hdg fun H1 l1 h1 _ h3 => ?_
  rw [wd_set hj] at h1
  exact kk H1 l1 ⟨hG.1, h1, h3, hG.2.2.2⟩
theorem g_bast (S : CallFix p m c cc nL s args gT own) (hG : gW D cy b n s H locs E) (j : Nat) {N : Nat} {f : Nat → Int32} {i x : Int32} (he : E j = .inl (cy 0, N, .inl f)) (hj : j < n) (hdg : decode cc pc = .ok (.bastore, 1)) (hin : vp_in i N)
    (kk : ∀ (H : Heap) (locs : List Loc), gW D cy b n s H locs (upE E j (.inl (cy 0, N, .inl (upd f i.toNatClampNeg (vp_nar .byte x))))) → W p l e R s m args below meth c H locs cells slots Q (F0 m (pc + 1) ls rest)) : W p l e R s m args below meth c H locs cells slots Q (F0 m pc ls (.int x :: .int i :: .ref (b + j) :: rest)) := by
  refine va_bast S.1 S.2.1 hG.1.1 hG.2.1 wd_D hG.2.2.1 j 0 (wd_at hj he) rfl hin hdg fun H1 l1 h1 _ h3 => ?_
  rw [wd_set hj] at h1
  exact kk H1 l1 ⟨hG.1, h1, h3, hG.2.2.2⟩
theorem g_zast (S : CallFix p m c cc nL s args gT own) (hG : gW D cy b n s H locs E) (j : Nat) {N : Nat} {f : Nat → Int32} {i x : Int32} (he : E j = .inl (cy 3, N, .inl f)) (hj : j < n) (hdg : decode cc pc = .ok (.bastore, 1)) (hin : vp_in i N)
    (kk : ∀ (H : Heap) (locs : List Loc), gW D cy b n s H locs (upE E j (.inl (cy 3, N, .inl (upd f i.toNatClampNeg (vp_nar .boolean x))))) → W p l e R s m args below meth c H locs cells slots Q (F0 m (pc + 1) ls rest)) : W p l e R s m args below meth c H locs cells slots Q (F0 m pc ls (.int x :: .int i :: .ref (b + j) :: rest)) := by
  refine va_zast S.1 S.2.1 hG.1.1 hG.2.1 wd_D hG.2.2.1 j 3 (wd_at hj he) rfl hin hdg fun H1 l1 h1 _ h3 => ?_
  rw [wd_set hj] at h1
  exact kk H1 l1 ⟨hG.1, h1, h3, hG.2.2.2⟩
theorem g_last (S : CallFix p m c cc nL s args gT own) (hG : gW D cy b n s H locs E) (j : Nat) {N : Nat} {f : Nat → Int64} {i : Int32} {x : Int64} (he : E j = .inl (cy 2, N, .inr (.inl f))) (hj : j < n) (hdg : decode cc pc = .ok (.lastore, 1)) (hin : vp_in i N)
    (kk : ∀ (H : Heap) (locs : List Loc), gW D cy b n s H locs (upE E j (.inl (cy 2, N, .inr (.inl (vp_updL f i.toNatClampNeg x))))) → W p l e R s m args below meth c H locs cells slots Q (F0 m (pc + 1) ls rest)) : W p l e R s m args below meth c H locs cells slots Q (F0 m pc ls (.long x :: .int i :: .ref (b + j) :: rest)) := by
  refine va_last S.1 S.2.1 hG.1.1 hG.2.1 wd_D hG.2.2.1 j 2 (wd_at hj he) rfl hin hdg fun H1 l1 h1 _ h3 => ?_
  rw [wd_set hj] at h1
  exact kk H1 l1 ⟨hG.1, h1, h3, hG.2.2.2⟩
theorem g_alen (S : CallFix p m c cc nL s args gT own) (hG : gW D cy b n s H locs E) (j t : Nat) {x : vp_A} {ty : FieldType} {v : Int32} (he : E j = .inl (cy t, x)) (ht : (gty cy)[t]? = some (cy t, ty)) (hj : j < n) (hdg : decode cc pc = .ok (.arraylength, 1)) (hv : Int32.ofNat x.1 = v)
    (kk : W p l e R s m args below meth c H locs cells slots Q (F0 m (pc + 1) ls (.int v :: rest))) : W p l e R s m args below meth c H locs cells slots Q (F0 m pc ls (.ref (b + j) :: rest)) :=
  va_alen S.1 S.2.1 hG.1.1 hG.2.1 j t (wd_at hj he) ht hv hdg kk
/-- the heap's size, out of the count of what was made -/
theorem g_size (hG : gW D cy b n s H locs E) (hc : s.heap.size + cells = b + n) {g : JFrame} (k : H.size = b + n → W p l e R s m args below meth c H locs cells slots Q g) : W p l e R s m args below meth c H locs cells slots Q g := fun T hT X =>
  k (Nat.le_antisymm (by rw [← hc, ← hT]; exact X.same.2.2.1) hG.ge) T hT X
end GB
end
section
/-! Contracts over such a world, calls, makings -/
def gRm (d mc ms : Nat) : Room := { frames := d, cells := mc, slots := ms, locals := 40 * d + 60 }
def gPre (D : va_G) (cy : Nat → ClassId) (b n : Nat) (E : Nat → va_E) (av : List Value) : Array Value → State → Prop :=
  va_Pc av (fun U => U.heap.size = b + n ∧ va_P D vwCl (wd b n E) U.heap ∧ gK D cy U)
abbrev gU : Type := Nat × (Nat → va_E)
def gB (D : va_G) (cy : Nat → ClassId) (b : Nat) (u : gU) (t : State) : Prop := t.heap.size = b + u.1 ∧ va_P D vwCl (wd b u.1 u.2) t.heap ∧ gK D cy t
/-- int, boolean: a method's contract: the answer, how many cells there are behind it, what they hold -/
def gI (l : Launch) (y : MethodName) (cc : ByteArray) (nL : Nat) (ret : Option FieldType) (d mc ms : Nat) (D : va_G) (cy : Nat → ClassId) (b n : Nat) (E : Nat → va_E) (av : List Value) (post : Int32 → gU → Prop) : Prop :=
  Met l y (.code y cc nL ret :: gT) (gRm d mc ms) (gPre D cy b n E av) (va_Qi post (gB D cy b) (gA b)) mc ms (gA b)
def gL (l : Launch) (y : MethodName) (cc : ByteArray) (nL : Nat) (d mc ms : Nat) (D : va_G) (cy : Nat → ClassId) (b n : Nat) (E : Nat → va_E) (av : List Value) (post : Int64 → gU → Prop) : Prop :=
  Met l y (.code y cc nL (some .long) :: gT) (gRm d mc ms) (gPre D cy b n E av) (va_Ql post (gB D cy b) (gA b)) mc ms (gA b)
def gV (l : Launch) (y : MethodName) (cc : ByteArray) (nL : Nat) (d mc ms : Nat) (D : va_G) (cy : Nat → ClassId) (b n : Nat) (E : Nat → va_E) (av : List Value) (post : gU → Prop) : Prop :=
  Met l y (.code y cc nL none :: gT) (gRm d mc ms) (gPre D cy b n E av) (va_Qv post (gB D cy b) (gA b)) mc ms (gA b)
theorem gPre_blind {D : va_G} {cy : Nat → ClassId} {b n : Nat} {E : Nat → va_E} {av : List Value} : FrameBlind (gPre D cy b n E av) := fun a U g mk q => by
  obtain ⟨q0, q1, qP, qK⟩ := q
  exact ⟨q0, q1, qP, qK.same (u := U) (U := U.calling g mk a) rfl⟩
theorem gPre_of {D : va_G} {cy : Nat → ClassId} {b n : Nat} {s : State} {H : Heap} {locs : List Loc} {E : Nat → va_E} {av : List Value} (h : gW D cy b n s H locs E) (hz : H.size = b + n) : ∀ U : State, U.heap = H → s.WarmedH U.vm → gPre D cy b n E av av.toArray U := fun U hU hW =>
  ⟨rfl, by rw [hU]; exact hz, by rw [hU]; exact h.2.1, h.1.warm hW⟩
theorem gW_call {D : va_G} {cy : Nat → ClassId} {b n : Nat} {s t : State} {H H1 : Heap} {locs locs1 : List Loc} {E : Nat → va_E} {u : gU} (h : gW D cy b n s H locs E) (ht : t.heap = H1) (hB : gB D cy b u t) (hS : va_S (gA b) s.heap H1 locs1) : gW D cy b u.1 s H1 locs1 u.2 :=
  ⟨h.1, by rw [← ht]; exact hB.2.1, hS, h.2.2.2⟩
section GC
variable {p : Program} {l : Launch} {e : Env} {R : Room} {s : State} {m : MethodId} {args : Array Value} {below : List Frame} {meth : Method} {c : Code} {H : Heap} {locs : List Loc} {cells slots : Nat} {Q : State → Prop} {cc cc' : ByteArray} {pc nL nL' d : Nat} {ls : Array Slot} {rest As : List Value} {own : String} {D : va_G} {cy : Nat → ClassId} {b n n' : Nat} {E : Nat → va_E} {index i mc ms : Nat} {y : MethodName} {ret : Option FieldType}
/-- the tables' words of a virtual call -/
def gWV (own : String) (index : Nat) (y : MethodName) (cc : ByteArray) (nL : Nat) (ret : Option FieldType) : Prop := Cond.methodLink own index y ∈ gT ∧ Cond.instanceMethod y ∈ gT ∧ Cond.selects y.cls y y ∈ gT ∧ Cond.initialized y.cls ∈ gT ∧ Cond.code y cc nL ret ∈ gT ∧ y.cls ≠ "java/lang/invoke/MethodHandle" ∧ y.cls ≠ "java/lang/invoke/VarHandle"
def gWS (own : String) (index : Nat) (y : MethodName) (cc : ByteArray) (nL : Nat) (ret : Option FieldType) : Prop := Cond.methodLink own index y ∈ gT ∧ Cond.static y ∈ gT ∧ Cond.initialized y.cls ∈ gT ∧ Cond.code y cc nL ret ∈ gT ∧ y.cls ≠ "java/lang/invoke/MethodHandle" ∧ y.cls ≠ "java/lang/invoke/VarHandle"
def gWI (own : String) (index : Nat) (y : MethodName) (cc : ByteArray) (nL : Nat) : Prop := Cond.methodLink own index y ∈ gT ∧ Cond.instanceMethod y ∈ gT ∧ Cond.initialized y.cls ∈ gT ∧ Cond.code y cc nL none ∈ gT ∧ y.cls ≠ "java/lang/invoke/MethodHandle" ∧ y.cls ≠ "java/lang/invoke/VarHandle" ∧ y.name = "<init>"
theorem gT_code {w : Cond} (h : w ∈ gT) : ∀ v ∈ (w :: gT), v ∈ gT := fun v hv => by
  rcases List.mem_cons.mp hv with rfl | h'
  · exact h
  · exact h'
theorem gT_V (w : gWV own index y cc' nL' ret) : GoodIn gT (wsV own index y.cls y (Cond.code y cc' nL' ret :: gT)) := gT_good fun v hv => by
  unfold wsV at hv
  rcases List.mem_append.mp hv with h | h
  · simp only [List.mem_cons, List.not_mem_nil, or_false] at h
    rcases h with rfl | rfl | rfl | rfl
    · exact w.1
    · exact w.2.1
    · exact w.2.2.1
    · exact w.2.2.2.1
  · exact gT_code w.2.2.2.2.1 v h
theorem gT_S (w : gWS own index y cc' nL' ret) : GoodIn gT (va_wsS own index y (Cond.code y cc' nL' ret :: gT)) := gT_good fun v hv => by
  unfold va_wsS at hv
  rcases List.mem_append.mp hv with h | h
  · simp only [List.mem_cons, List.not_mem_nil, or_false] at h
    rcases h with rfl | rfl | rfl
    · exact w.1
    · exact w.2.1
    · exact w.2.2.1
  · exact gT_code w.2.2.2.1 v h
theorem g_recv (hG : gW D cy b n s H locs E) {ci N : Nat} {C : String} {T : u_T} {ty : Nat → FieldType} {fs : List Value} (he : E i = .inr (ci, fs)) (P : cP ci C T N ty) (hi : i < n) : ∃ cell : Cell, H[b + i]? = some cell ∧ cell.vm.isStatics = false ∧ s.vm.findClass C = some cell.cls := va_recv hG.1.1 hG.2.1 (q0 := i) P.1 (wd_at hi he)
theorem gA_H (hG : gW D cy b n s H locs E) : ∀ q : Nat, q < H.size → gA b q → gA b q := fun _ _ h => h
theorem g_vi (S : CallFix p m c cc nL s args gT own) (hG : gW D cy b n s H locs E) (hc : s.heap.size + cells = b + n) {post : Int32 → gU → Prop} (hM : gI l y cc' nL' ret d mc ms D cy b n E (.ref (b + i) :: As) post) (w : gWV own index y cc' nL' ret) {ci N : Nat} {T : u_T} {ty : Nat → FieldType} {fs : List Value} (he : E i = .inr (ci, fs)) (P : cP ci y.cls T N ty) (hi : i < n) (hdg : decode cc pc = .ok (.invokevirtual index, 3)) {st : List Value} (hst : st = As.reverse ++ .ref (b + i) :: rest) (hls : ls.size = nL) {ar : Nat} (hn : (parseMethodDescriptor y.desc).map (fun d => d.parameters.length) = some ar) (har : As.length = ar) (hR : d + 1 ≤ R.frames ∧ 8 + (nL' + 11) + (40 * d + 60) ≤ R.locals ∧ cells + mc ≤ R.cells ∧ slots + ms ≤ R.slots) (hrm : (rest.map fun v => v.category).sum ≤ 8)
    (kk : ∀ (r : Int32) (u : gU) (H : Heap) (locs : List Loc), post r u → gW D cy b u.1 s H locs u.2 → W p l e R s m args below meth c H locs (cells + mc) (slots + ms) Q (F0 m (pc + 3) ls (.int r :: rest))) : W p l e R s m args below meth c H locs cells slots Q (F0 m pc ls st) := by
  subst hst
  subst har
  refine g_size hG hc fun hz => ?_
  exact va_calli (va_runV (As := As) (rest := rest) S hM (cwV As.length S.2.2.2.2 (gT_V w) rfl rfl rfl ⟨rfl, w.2.2.2.2.2.1, w.2.2.2.2.2.2, hn⟩ ⟨hR.1, hR.2.1⟩) ⟨gPre_blind, g_recv hG he P hi, gPre_of hG hz⟩ rfl rfl hls rfl (lv_room hrm) hdg ⟨hR.2.2.1, hR.2.2.2⟩) hG.2.2.1 (gA_H hG) (fun _ h => h) (fun r u t H1 l1 ht _ hw hB _ _ hS => kk r u H1 l1 hw (gW_call hG ht hB hS))
theorem g_vl (S : CallFix p m c cc nL s args gT own) (hG : gW D cy b n s H locs E) (hc : s.heap.size + cells = b + n) {post : Int64 → gU → Prop} (hM : gL l y cc' nL' d mc ms D cy b n E (.ref (b + i) :: As) post) (w : gWV own index y cc' nL' (some .long)) {ci N : Nat} {T : u_T} {ty : Nat → FieldType} {fs : List Value} (he : E i = .inr (ci, fs)) (P : cP ci y.cls T N ty) (hi : i < n) (hdg : decode cc pc = .ok (.invokevirtual index, 3)) {st : List Value} (hst : st = As.reverse ++ .ref (b + i) :: rest) (hls : ls.size = nL) {ar : Nat} (hn : (parseMethodDescriptor y.desc).map (fun d => d.parameters.length) = some ar) (har : As.length = ar) (hR : d + 1 ≤ R.frames ∧ 8 + (nL' + 11) + (40 * d + 60) ≤ R.locals ∧ cells + mc ≤ R.cells ∧ slots + ms ≤ R.slots) (hrm : (rest.map fun v => v.category).sum ≤ 8)
    (kk : ∀ (r : Int64) (u : gU) (H : Heap) (locs : List Loc), post r u → gW D cy b u.1 s H locs u.2 → W p l e R s m args below meth c H locs (cells + mc) (slots + ms) Q (F0 m (pc + 3) ls (.long r :: rest))) : W p l e R s m args below meth c H locs cells slots Q (F0 m pc ls st) := by
  subst hst
  subst har
  refine g_size hG hc fun hz => ?_
  exact va_calll (va_runV (As := As) (rest := rest) S hM (cwV As.length S.2.2.2.2 (gT_V w) rfl rfl rfl ⟨rfl, w.2.2.2.2.2.1, w.2.2.2.2.2.2, hn⟩ ⟨hR.1, hR.2.1⟩) ⟨gPre_blind, g_recv hG he P hi, gPre_of hG hz⟩ rfl rfl hls rfl (lv_room hrm) hdg ⟨hR.2.2.1, hR.2.2.2⟩) hG.2.2.1 (gA_H hG) (fun _ h => h) (fun r u t H1 l1 ht _ hw hB _ _ hS => kk r u H1 l1 hw (gW_call hG ht hB hS))
theorem g_vv (S : CallFix p m c cc nL s args gT own) (hG : gW D cy b n s H locs E) (hc : s.heap.size + cells = b + n) {post : gU → Prop} (hM : gV l y cc' nL' d mc ms D cy b n E (.ref (b + i) :: As) post) (w : gWV own index y cc' nL' none) {ci N : Nat} {T : u_T} {ty : Nat → FieldType} {fs : List Value} (he : E i = .inr (ci, fs)) (P : cP ci y.cls T N ty) (hi : i < n) (hdg : decode cc pc = .ok (.invokevirtual index, 3)) {st : List Value} (hst : st = As.reverse ++ .ref (b + i) :: rest) (hls : ls.size = nL) {ar : Nat} (hn : (parseMethodDescriptor y.desc).map (fun d => d.parameters.length) = some ar) (har : As.length = ar) (hR : d + 1 ≤ R.frames ∧ 8 + (nL' + 11) + (40 * d + 60) ≤ R.locals ∧ cells + mc ≤ R.cells ∧ slots + ms ≤ R.slots) (hrm : (rest.map fun v => v.category).sum ≤ 8)
    (kk : ∀ (u : gU) (H : Heap) (locs : List Loc), post u → gW D cy b u.1 s H locs u.2 → W p l e R s m args below meth c H locs (cells + mc) (slots + ms) Q (F0 m (pc + 3) ls (rest))) : W p l e R s m args below meth c H locs cells slots Q (F0 m pc ls st) := by
  subst hst
  subst har
  refine g_size hG hc fun hz => ?_
  exact va_callv (va_runV (As := As) (rest := rest) S hM (cwV As.length S.2.2.2.2 (gT_V w) rfl rfl rfl ⟨rfl, w.2.2.2.2.2.1, w.2.2.2.2.2.2, hn⟩ ⟨hR.1, hR.2.1⟩) ⟨gPre_blind, g_recv hG he P hi, gPre_of hG hz⟩ rfl rfl hls rfl (lv_room hrm) hdg ⟨hR.2.2.1, hR.2.2.2⟩) hG.2.2.1 (gA_H hG) (fun _ h => h) (fun u t H1 l1 ht _ hw hB _ _ hS => kk u H1 l1 hw (gW_call hG ht hB hS))
theorem g_si (S : CallFix p m c cc nL s args gT own) (hG : gW D cy b n s H locs E) (hc : s.heap.size + cells = b + n) {post : Int32 → gU → Prop} (hM : gI l y cc' nL' ret d mc ms D cy b n E As post) (w : gWS own index y cc' nL' ret) (hdg : decode cc pc = .ok (.invokestatic index, 3)) {st : List Value} (hst : st = As.reverse ++ rest) (hls : ls.size = nL) {ar : Nat} (hn : (parseMethodDescriptor y.desc).map (fun d => d.parameters.length) = some ar) (har : As.length = ar) (hR : d + 1 ≤ R.frames ∧ 8 + (nL' + 11) + (40 * d + 60) ≤ R.locals ∧ cells + mc ≤ R.cells ∧ slots + ms ≤ R.slots) (hrm : (rest.map fun v => v.category).sum ≤ 8)
    (kk : ∀ (r : Int32) (u : gU) (H : Heap) (locs : List Loc), post r u → gW D cy b u.1 s H locs u.2 → W p l e R s m args below meth c H locs (cells + mc) (slots + ms) Q (F0 m (pc + 3) ls (.int r :: rest))) : W p l e R s m args below meth c H locs cells slots Q (F0 m pc ls st) := by
  subst hst
  subst har
  refine g_size hG hc fun hz => ?_
  exact va_calli (va_runS (As := As) (rest := rest) S hM (va_cwS As.length S.2.2.2.2 (gT_S w) rfl rfl rfl ⟨w.2.2.2.2.1, w.2.2.2.2.2, hn⟩ ⟨hR.1, hR.2.1⟩) ⟨gPre_blind, gPre_of hG hz⟩ rfl rfl hls rfl (lv_room hrm) hdg ⟨hR.2.2.1, hR.2.2.2⟩) hG.2.2.1 (gA_H hG) (fun _ h => h) (fun r u t H1 l1 ht _ hw hB _ _ hS => kk r u H1 l1 hw (gW_call hG ht hB hS))
theorem g_sl (S : CallFix p m c cc nL s args gT own) (hG : gW D cy b n s H locs E) (hc : s.heap.size + cells = b + n) {post : Int64 → gU → Prop} (hM : gL l y cc' nL' d mc ms D cy b n E As post) (w : gWS own index y cc' nL' (some .long)) (hdg : decode cc pc = .ok (.invokestatic index, 3)) {st : List Value} (hst : st = As.reverse ++ rest) (hls : ls.size = nL) {ar : Nat} (hn : (parseMethodDescriptor y.desc).map (fun d => d.parameters.length) = some ar) (har : As.length = ar) (hR : d + 1 ≤ R.frames ∧ 8 + (nL' + 11) + (40 * d + 60) ≤ R.locals ∧ cells + mc ≤ R.cells ∧ slots + ms ≤ R.slots) (hrm : (rest.map fun v => v.category).sum ≤ 8)
    (kk : ∀ (r : Int64) (u : gU) (H : Heap) (locs : List Loc), post r u → gW D cy b u.1 s H locs u.2 → W p l e R s m args below meth c H locs (cells + mc) (slots + ms) Q (F0 m (pc + 3) ls (.long r :: rest))) : W p l e R s m args below meth c H locs cells slots Q (F0 m pc ls st) := by
  subst hst
  subst har
  refine g_size hG hc fun hz => ?_
  exact va_calll (va_runS (As := As) (rest := rest) S hM (va_cwS As.length S.2.2.2.2 (gT_S w) rfl rfl rfl ⟨w.2.2.2.2.1, w.2.2.2.2.2, hn⟩ ⟨hR.1, hR.2.1⟩) ⟨gPre_blind, gPre_of hG hz⟩ rfl rfl hls rfl (lv_room hrm) hdg ⟨hR.2.2.1, hR.2.2.2⟩) hG.2.2.1 (gA_H hG) (fun _ h => h) (fun r u t H1 l1 ht _ hw hB _ _ hS => kk r u H1 l1 hw (gW_call hG ht hB hS))
theorem g_sv (S : CallFix p m c cc nL s args gT own) (hG : gW D cy b n s H locs E) (hc : s.heap.size + cells = b + n) {post : gU → Prop} (hM : gV l y cc' nL' d mc ms D cy b n E As post) (w : gWS own index y cc' nL' none) (hdg : decode cc pc = .ok (.invokestatic index, 3)) {st : List Value} (hst : st = As.reverse ++ rest) (hls : ls.size = nL) {ar : Nat} (hn : (parseMethodDescriptor y.desc).map (fun d => d.parameters.length) = some ar) (har : As.length = ar) (hR : d + 1 ≤ R.frames ∧ 8 + (nL' + 11) + (40 * d + 60) ≤ R.locals ∧ cells + mc ≤ R.cells ∧ slots + ms ≤ R.slots) (hrm : (rest.map fun v => v.category).sum ≤ 8)
    (kk : ∀ (u : gU) (H : Heap) (locs : List Loc), post u → gW D cy b u.1 s H locs u.2 → W p l e R s m args below meth c H locs (cells + mc) (slots + ms) Q (F0 m (pc + 3) ls (rest))) : W p l e R s m args below meth c H locs cells slots Q (F0 m pc ls st) := by
  subst hst
  subst har
  refine g_size hG hc fun hz => ?_
  exact va_callv (va_runS (As := As) (rest := rest) S hM (va_cwS As.length S.2.2.2.2 (gT_S w) rfl rfl rfl ⟨w.2.2.2.2.1, w.2.2.2.2.2, hn⟩ ⟨hR.1, hR.2.1⟩) ⟨gPre_blind, gPre_of hG hz⟩ rfl rfl hls rfl (lv_room hrm) hdg ⟨hR.2.2.1, hR.2.2.2⟩) hG.2.2.1 (gA_H hG) (fun _ h => h) (fun u t H1 l1 ht _ hw hB _ _ hS => kk u H1 l1 hw (gW_call hG ht hB hS))
theorem g_ctor (S : CallFix p m c cc nL s args gT own) (hG : gW D cy b n s H locs E) (hc : s.heap.size + cells = b + n) {post : gU → Prop} (hM : gV l y cc' nL' d mc ms D cy b n E (.ref (b + i) :: As) post) (w : gWI own index y cc' nL') (hdg : decode cc pc = .ok (.invokespecial index, 3)) {st : List Value} (hst : st = As.reverse ++ .ref (b + i) :: rest) (hls : ls.size = nL) {ar : Nat} (hn : (parseMethodDescriptor y.desc).map (fun d => d.parameters.length) = some ar) (har : As.length = ar) (hR : d + 1 ≤ R.frames ∧ 8 + (nL' + 11) + (40 * d + 60) ≤ R.locals ∧ cells + mc ≤ R.cells ∧ slots + ms ≤ R.slots) (hrm : (rest.map fun v => v.category).sum ≤ 8)
    (kk : ∀ (u : gU) (H : Heap) (locs : List Loc), post u → gW D cy b u.1 s H locs u.2 → W p l e R s m args below meth c H locs (cells + mc) (slots + ms) Q (F0 m (pc + 3) ls rest)) : W p l e R s m args below meth c H locs cells slots Q (F0 m pc ls st) := by
  subst hst
  subst har
  refine g_size hG hc fun hz => ?_
  exact va_callv (va_runI (As := As) (rest := rest) S hM (cwI As.length S.2.2.2.2 (gT_good (gT_code w.2.2.2.1)) rfl rfl rfl (S.2.2.2.2 _ w.2.2.1) (S.2.2.2.2 _ w.1) (S.2.2.2.2 _ w.2.1) w.2.2.2.2.2.2 ⟨w.2.2.2.2.1, w.2.2.2.2.2.1, hn⟩ ⟨hR.1, hR.2.1⟩) ⟨gPre_blind, gPre_of hG hz⟩ rfl rfl hls rfl (lv_room hrm) hdg ⟨hR.2.2.1, hR.2.2.2⟩) hG.2.2.1 (gA_H hG) (fun _ h => h) (fun u t H1 l1 ht _ hw hB _ _ hS => kk u H1 l1 hw (gW_call hG ht hB hS))
theorem g_ctorN (S : CallFix p m c cc nL s args gT own) (hG : gW D cy b n s H locs E) (hc : s.heap.size + cells = b + n) {post : gU → Prop} (hM : gV l y cc' nL' d mc ms D cy b n E (.ref (b + i) :: As) post) {host : String} (w1 : (own, index, y, host) ∈ gnM) (w : Cond.instanceMethod y ∈ gT ∧ Cond.initialized y.cls ∈ gT ∧ Cond.code y cc' nL' none ∈ gT ∧ y.cls ≠ "java/lang/invoke/MethodHandle" ∧ y.cls ≠ "java/lang/invoke/VarHandle" ∧ y.name = "<init>") (hdg : decode cc pc = .ok (.invokespecial index, 3)) {st : List Value} (hst : st = As.reverse ++ .ref (b + i) :: rest) (hls : ls.size = nL) {ar : Nat} (hn : (parseMethodDescriptor y.desc).map (fun d => d.parameters.length) = some ar) (har : As.length = ar) (hR : d + 1 ≤ R.frames ∧ 8 + (nL' + 11) + (40 * d + 60) ≤ R.locals ∧ cells + mc ≤ R.cells ∧ slots + ms ≤ R.slots) (hrm : (rest.map fun v => v.category).sum ≤ 8)
    (kk : ∀ (u : gU) (H : Heap) (locs : List Loc), post u → gW D cy b u.1 s H locs u.2 → W p l e R s m args below meth c H locs (cells + mc) (slots + ms) Q (F0 m (pc + 3) ls rest)) : W p l e R s m args below meth c H locs cells slots Q (F0 m pc ls st) := by
  subst hst
  subst har
  refine g_size hG hc fun hz => ?_
  exact va_callv (va_runIN (As := As) (rest := rest) S hM ⟨va_cnB As.length S.2.2.2.2 (gT_good (gT_code w.2.2.1)) rfl rfl rfl (hG.1.2.2.1 _ w1) (S.2.2.2.2 _ w.2.1) ⟨w.2.2.2.1, w.2.2.2.2.1, hn⟩ ⟨hR.1, hR.2.1⟩, w.2.2.2.2.2, S.2.2.2.2 _ w.1⟩ ⟨gPre_blind, gPre_of hG hz⟩ rfl rfl hls rfl (lv_room hrm) hdg ⟨hR.2.2.1, hR.2.2.2⟩) hG.2.2.1 (gA_H hG) (fun _ h => h) (fun u t H1 l1 ht _ hw hB _ _ hS => kk u H1 l1 hw (gW_call hG ht hB hS))
/-- a new object -/
theorem g_new (S : CallFix p m c cc nL s args gT own) (hG : gW D cy b n s H locs E) (hc : s.heap.size + cells = b + n) {ci N : Nat} {C : String} {T : u_T} {ty : Nat → FieldType} {fs : List Value} (P : cP ci C T N ty) (hcl : Cond.classLink own index C ∈ gT) (hins : Cond.instantiable C N ∈ gT) (hini : Cond.initialized C ∈ gT) (hdg : decode cc pc = .ok (.new index, 3)) (hfs : ∀ j, j < N → defaultValue (ty j) = vp_V fs j) (hR : cells + 1 ≤ R.cells ∧ slots + N ≤ R.slots)
    (kk : ∀ (H : Heap), gW D cy b (n + 1) s H locs (upE E n (.inr (ci, fs))) → W p l e R s m args below meth c H locs (cells + 1) (slots + N) Q (F0 m (pc + 3) ls (.ref (b + n) :: rest))) : W p l e R s m args below meth c H locs cells slots Q (F0 m pc ls rest) := by
  refine g_size hG hc fun hz => ?_
  have hKn := hG.1.1.1 ci _ P.1
  refine W.newcK S.1 S.2.1 S.2.2.2.1 (S.2.2.2.2 _ hcl) (S.2.2.2.2 _ hins) (S.2.2.2.2 _ hini) rfl hdg hR.1 hR.2 hKn.2.1 hz fun H1 kC hkC e1 z1 o1 => ?_
  have hkp : ∀ (k : Nat) (x : Nat × va_E), (wd b n E)[k]? = some x → H1[x.1]? = H[x.1]? := fun k x hx => o1 x.1 (by rw [← hz]; exact (hG.2.1 k x hx).lt)
  have hP1 : va_P D vwCl (wd b n E ++ [(b + n, .inr (ci, fs))]) H1 := (hG.2.1.kept hkp).app (fun k x hx => by
    have hz1 : k < 1 := (List.getElem?_eq_some_iff.mp hx).1
    rw [show k = 0 by omega] at hx
    cases hx
    exact ⟨_, P.1, (u_born ty S.2.2.2.2 P.2.1 hKn hkC e1 P.2.2.1).to hfs⟩)
  rw [wd_push] at hP1
  exact kk H1 ⟨hG.1, hP1, ⟨Nat.le_trans hG.2.2.1.1 (by omega), fun x h1 h2 => (o1 x (by rw [← hz]; exact Nat.lt_of_lt_of_le h1 hG.2.2.1.1)).trans (hG.2.2.1.2.1 x h1 h2), hG.2.2.1.2.2⟩, hG.2.2.2⟩
/-- a new array of numbers: t its kind among gty's -/
theorem g_newa (S : CallFix p m c cc nL s args gT own) (hG : gW D cy b n s H locs E) (hc : s.heap.size + cells = b + n) (t : Nat) {atype : ArrayType} {ty : FieldType} (hty : newarray.typeOf atype = ty) (htt : (gty cy)[t]? = some (cy t, ty)) (hno : va_RA s (cy t) ty → s.vm.findClass ("[" ++ ty.toString) = some (cy t)) (harr : Cond.arrayClass ty ∈ gT) {k : Int32} {N : Nat} {a0 : vp_A} (ha : ∀ cA : ClassId, vp_cell cA a0 = arrV cA N (fun _ => defaultValue ty)) (hdg : decode cc pc = .ok (.newarray atype, 2)) (hn : ¬ k < 0) (hN : k.toNatClampNeg = N) (hby : N * componentBytes ty ≤ 536870912) (hR : cells + 1 ≤ R.cells ∧ slots + N ≤ R.slots)
    (kk : ∀ (H : Heap), gW D cy b (n + 1) s H locs (upE E n (.inl (cy t, a0))) → W p l e R s m args below meth c H locs (cells + 1) (slots + N) Q (F0 m (pc + 2) ls (.ref (b + n) :: rest))) : W p l e R s m args below meth c H locs cells slots Q (F0 m pc ls (.int k :: rest)) := by
  subst hty
  refine g_size hG hc fun hz => ?_
  refine va_newaK S.1 S.2.1 (S.2.2.2.2 _ harr) rfl hdg rfl hn hN hby hR.1 hR.2 hz fun H1 cA e1 z1 o1 hAr hNm => ?_
  have hc : cA = cy t := Option.some.inj (hNm.symm.trans (hno (hG.1.1.2 t _ htt).2))
  subst hc
  have hkp : ∀ (k : Nat) (x : Nat × va_E), (wd b n E)[k]? = some x → H1[x.1]? = H[x.1]? := fun k x hx => o1 x.1 (by rw [← hz]; exact (hG.2.1 k x hx).lt)
  have hP1 : va_P D vwCl (wd b n E ++ [(b + n, .inl (cy t, a0))]) H1 := (hG.2.1.kept hkp).app (fun k x hx => by
    have hz1 : k < 1 := (List.getElem?_eq_some_iff.mp hx).1
    rw [show k = 0 by omega] at hx
    cases hx
    show H1[b + n]? = some (vp_cell _ _)
    rw [ha]
    exact e1)
  rw [wd_push] at hP1
  exact kk H1 ⟨hG.1, hP1, ⟨Nat.le_trans hG.2.2.1.1 (by omega), fun x h1 h2 => (o1 x (by rw [← hz]; exact Nat.lt_of_lt_of_le h1 hG.2.2.1.1)).trans (hG.2.2.1.2.1 x h1 h2), hG.2.2.1.2.2⟩, hG.2.2.2⟩
/-- a new array of RingLists -/
theorem g_newq (S : CallFix p m c cc nL s args gT own) (hG : gW D cy b n s H locs E) (hc : s.heap.size + cells = b + n) (hcl : Cond.classLink own index "GrownKinds$RingList" ∈ gT) {k : Int32} {N : Nat} (hdg : decode cc pc = .ok (.anewarray index, 3)) (hn : ¬ k < 0) (hN : k.toNatClampNeg = N) (hby : N * 4 ≤ 536870912) (hR : cells + 1 ≤ R.cells ∧ slots + N ≤ R.slots)
    (kk : ∀ (H : Heap), gW D cy b (n + 1) s H locs (upE E n (.inl (cy 4, N, .inr (.inr (.inr (.inr (fun _ => none))))))) → W p l e R s m args below meth c H locs (cells + 1) (slots + N) Q (F0 m (pc + 3) ls (.ref (b + n) :: rest))) : W p l e R s m args below meth c H locs cells slots Q (F0 m pc ls (.int k :: rest)) := by
  subst hN
  refine g_size hG hc fun hz => ?_
  refine W.anew S.1 S.2.1 S.2.2.2.1 (S.2.2.2.2 _ hcl) (va_AO.use hG.1.2.1) rfl hdg rfl hn hby hR.1 hR.2 fun cA kA comp f1 f2 f3 f4 => ?_
  have hc : cA = cy 4 := by
    obtain ⟨kA', comp', -, -, -, h4⟩ := (hG.1.1.2 4 _ rfl).2
    exact Option.some.inj (f1.symm.trans h4)
  subst hc
  generalize hH1 : H.push ({ cls := cy 4, slots := Array.replicate k.toNatClampNeg .null, vm := .none } : Cell) = H1
  have z1 : H1.size = b + n + 1 := by rw [← hH1, Array.size_push, hz]
  have e1 : H1[b + n]? = some (arrV (cy 4) k.toNatClampNeg (fun _ => .null)) := by rw [← hH1, ← hz, Array.getElem?_push_size, ← arrV_new]
  have o1 : ∀ q : Nat, q < b + n → H1[q]? = H[q]? := fun q hq => by rw [← hH1, Array.getElem?_push, if_neg (Nat.ne_of_lt (by rw [hz]; exact hq))]
  have hkp : ∀ (k : Nat) (x : Nat × va_E), (wd b n E)[k]? = some x → H1[x.1]? = H[x.1]? := fun k x hx => o1 x.1 (by rw [← hz]; exact (hG.2.1 k x hx).lt)
  have hP1 : va_P D vwCl (wd b n E ++ [(b + n, .inl (cy 4, k.toNatClampNeg, .inr (.inr (.inr (.inr (fun _ => none))))))]) H1 := (hG.2.1.kept hkp).app (fun j x hx => by
    have hz1 : j < 1 := (List.getElem?_eq_some_iff.mp hx).1
    rw [show j = 0 by omega] at hx
    cases hx
    show H1[b + n]? = some (vp_cell _ _)
    rw [vp_cell_q]
    exact e1)
  rw [wd_push] at hP1
  rw [hz]
  exact kk H1 ⟨hG.1, hP1, ⟨Nat.le_trans hG.2.2.1.1 (by omega), fun x h1 h2 => (o1 x (by rw [← hz]; exact Nat.lt_of_lt_of_le h1 hG.2.2.1.1)).trans (hG.2.2.1.2.1 x h1 h2), hG.2.2.1.2.2⟩, hG.2.2.2⟩
/-- ends -/
theorem g_iret (S : CallFix p m c cc nL s args gT own) (hr : meth.sig.returnType = some .int) (hlk : meth.locks = false) {post : Int32 → gU → Prop} {v : Int32} (hG : gW D cy b n s H locs E) (hc : s.heap.size + cells = b + n) (hdg : decode cc pc = .ok (.ireturn, 1)) (hw : cells ≤ mc ∧ slots ≤ ms) (hp : post v (n, E)) : W p l e R s m args below meth c H locs cells slots (MQ below (va_Qi post (gB D cy b) (gA b)) args s mc ms (gA b)) (F0 m pc ls [.int v]) := by
  refine g_size hG hc fun hz => ?_
  refine W.widen hw.1 hw.2 ?_
  exact W.iret (v := v) S.1 S.2.1 hr (fun t ht hW => ⟨⟨v, (n, E), rfl, hp, by rw [ht]; exact hz, by rw [ht]; exact hG.2.1, hG.1.warm hW⟩, hG.2.2.1.F ht⟩) hG.2.2.1.2.2 hdg hlk
theorem g_zret (S : CallFix p m c cc nL s args gT own) (hr : meth.sig.returnType = some .boolean) (hlk : meth.locks = false) {post : Int32 → gU → Prop} {v : Int32} (hG : gW D cy b n s H locs E) (hc : s.heap.size + cells = b + n) (hdg : decode cc pc = .ok (.ireturn, 1)) (hw : cells ≤ mc ∧ slots ≤ ms) (hv : narrow .boolean (.int v) = .int v) (hp : post v (n, E)) : W p l e R s m args below meth c H locs cells slots (MQ below (va_Qi post (gB D cy b) (gA b)) args s mc ms (gA b)) (F0 m pc ls [.int v]) := by
  refine g_size hG hc fun hz => ?_
  refine W.widen hw.1 hw.2 ?_
  exact W.zret (v := v) S.1 S.2.1 hr hv (fun t ht hW => ⟨⟨v, (n, E), rfl, hp, by rw [ht]; exact hz, by rw [ht]; exact hG.2.1, hG.1.warm hW⟩, hG.2.2.1.F ht⟩) hG.2.2.1.2.2 hdg hlk
theorem g_lret (S : CallFix p m c cc nL s args gT own) (hr : meth.sig.returnType = some .long) (hlk : meth.locks = false) {post : Int64 → gU → Prop} {v : Int64} (hG : gW D cy b n s H locs E) (hc : s.heap.size + cells = b + n) (hdg : decode cc pc = .ok (.lreturn, 1)) (hw : cells ≤ mc ∧ slots ≤ ms) (hp : post v (n, E)) : W p l e R s m args below meth c H locs cells slots (MQ below (va_Ql post (gB D cy b) (gA b)) args s mc ms (gA b)) (F0 m pc ls [.long v]) := by
  refine g_size hG hc fun hz => ?_
  refine W.widen hw.1 hw.2 ?_
  exact W.lret (v := v) S.1 S.2.1 hr (fun t ht hW => ⟨⟨v, (n, E), rfl, hp, by rw [ht]; exact hz, by rw [ht]; exact hG.2.1, hG.1.warm hW⟩, hG.2.2.1.F ht⟩) hG.2.2.1.2.2 hdg hlk
theorem g_vret (S : CallFix p m c cc nL s args gT own) (hr : meth.sig.returnType = none) (hlk : meth.locks = false) {post : gU → Prop} (hG : gW D cy b n s H locs E) (hc : s.heap.size + cells = b + n) (hdg : decode cc pc = .ok (.return_, 1)) (hw : cells ≤ mc ∧ slots ≤ ms) (hp : post (n, E)) : W p l e R s m args below meth c H locs cells slots (MQ below (va_Qv post (gB D cy b) (gA b)) args s mc ms (gA b)) (F0 m pc ls []) := by
  refine g_size hG hc fun hz => ?_
  refine W.widen hw.1 hw.2 ?_
  exact W.vret S.1 S.2.1 hr (fun t ht hW => ⟨⟨(n, E), rfl, hp, by rw [ht]; exact hz, by rw [ht]; exact hG.2.1, hG.1.warm hW⟩, hG.2.2.1.F ht⟩) hG.2.2.1.2.2 hdg hlk
theorem g_objInit (S : CallFix p m c cc nL s args gT own) (w : Cond.methodLink own index objectInit ∈ gT) (w2 : Cond.instanceMethod objectInit ∈ gT) (w3 : Cond.code objectInit ⟨#[0xb1]⟩ 1 none ∈ gT) (hls : ls.size = nL) {a : Nat} (hdg : decode cc pc = .ok (.invokespecial index, 3)) (hR : 1 ≤ R.frames ∧ 12 ≤ R.locals)
    (kk : W p l e R s m args below meth c H locs cells slots Q (F0 m (pc + 3) ls [])) : W p l e R s m args below meth c H locs cells slots Q (F0 m pc ls [.ref a]) :=
  W.objInit S.1 S.2.1 S.2.2.2.1 (S.2.2.2.2 _ w) (S.2.2.2.2 _ w2) (S.2.2.2.2 _ w3) rfl (hls.trans S.2.2.1.symm) rfl hdg hR.1 (by show 2 * 0 + 0 + 12 ≤ _; exact hR.2) kk
end GC
/-! the beginnings -/
section GS
variable {l : Launch} {y : MethodName} {cc : ByteArray} {nL d : Nat} {ret : Option FieldType} {D : va_G} {cy : Nat → ClassId} {b n n' : Nat} {E : Nat → va_E} {av : List Value}
theorem gS_of {p : Program} {e : Env} {s : State} {m : MethodId} {args : Array Value} {below : List Frame} {meth : Method} {c : Code} {s₁ : State} {rm : Room} (B : BodyLoose p l y (headSpec (.code y cc nL ret :: gT) rm) cc nL ret e s m args below meth c s₁) (hml : c.maxLocals = nL) : CallFix p m c cc nL s args gT y.cls :=
  ⟨B.exec, B.bytes, hml, findClass_of_methodNamed B.named, fun w hw => atoms_spec (ws := .code y cc nL ret :: gT) B.pre w (List.mem_cons_of_mem _ hw)⟩
theorem gI_of (hy : plainName y.cls = true) {mc ms : Nat} {post : Int32 → gU → Prop} (hnl : (lg_sl av).length ≤ nL)
    (h : ∀ (p : Program) (e : Env) (s : State) (m : MethodId) (args : Array Value) (below : List Frame) (meth : Method) (c : Code), CallFix p m c cc nL s args gT y.cls → meth.sig.returnType = ret → meth.locks = false → (y.name = "<init>" → meth.name = "<init>") → s.heap.size = b + n → ∀ ls : Array Slot, lv_has ls nL (lv_args 0 av) → gW D cy b n s s.heap [] E →
      W p l e (gRm d mc ms) s m args below meth c s.heap [] 0 0 (MQ below (va_Qi post (gB D cy b) (gA b)) args s mc ms (gA b)) (F0 m 0 ls [])) : gI l y cc nL ret d mc ms D cy b n E av post := by
  refine Met.ofW (cc := cc) (maxL := nL) (ret := ret) hy rfl ?_
  intro p e s m args below meth c s₁ B hml hv
  obtain ⟨rfl, hsz, hP, hK⟩ := hv
  rw [lg_entry_eq]
  exact h p e s m _ below meth c (gS_of B hml) B.returns B.notSynchronized (fun hyn => (name_of_methodNamed B.named B.method).1.trans hyn) hsz _ (lv_entry av hnl) ⟨hK, hP, va_S.rf, by rw [hsz]; exact Nat.le_add_right b n⟩
theorem gL_of (hy : plainName y.cls = true) {mc ms : Nat} {post : Int64 → gU → Prop} (hnl : (lg_sl av).length ≤ nL)
    (h : ∀ (p : Program) (e : Env) (s : State) (m : MethodId) (args : Array Value) (below : List Frame) (meth : Method) (c : Code), CallFix p m c cc nL s args gT y.cls → meth.sig.returnType = some .long → meth.locks = false → (y.name = "<init>" → meth.name = "<init>") → s.heap.size = b + n → ∀ ls : Array Slot, lv_has ls nL (lv_args 0 av) → gW D cy b n s s.heap [] E →
      W p l e (gRm d mc ms) s m args below meth c s.heap [] 0 0 (MQ below (va_Ql post (gB D cy b) (gA b)) args s mc ms (gA b)) (F0 m 0 ls [])) : gL l y cc nL d mc ms D cy b n E av post := by
  refine Met.ofW (cc := cc) (maxL := nL) (ret := some .long) hy rfl ?_
  intro p e s m args below meth c s₁ B hml hv
  obtain ⟨rfl, hsz, hP, hK⟩ := hv
  rw [lg_entry_eq]
  exact h p e s m _ below meth c (gS_of B hml) B.returns B.notSynchronized (fun hyn => (name_of_methodNamed B.named B.method).1.trans hyn) hsz _ (lv_entry av hnl) ⟨hK, hP, va_S.rf, by rw [hsz]; exact Nat.le_add_right b n⟩
theorem gV_of (hy : plainName y.cls = true) {mc ms : Nat} {post : gU → Prop} (hnl : (lg_sl av).length ≤ nL)
    (h : ∀ (p : Program) (e : Env) (s : State) (m : MethodId) (args : Array Value) (below : List Frame) (meth : Method) (c : Code), CallFix p m c cc nL s args gT y.cls → meth.sig.returnType = none → meth.locks = false → (y.name = "<init>" → meth.name = "<init>") → s.heap.size = b + n → ∀ ls : Array Slot, lv_has ls nL (lv_args 0 av) → gW D cy b n s s.heap [] E →
      W p l e (gRm d mc ms) s m args below meth c s.heap [] 0 0 (MQ below (va_Qv post (gB D cy b) (gA b)) args s mc ms (gA b)) (F0 m 0 ls [])) : gV l y cc nL d mc ms D cy b n E av post := by
  refine Met.ofW (cc := cc) (maxL := nL) (ret := none) hy rfl ?_
  intro p e s m args below meth c s₁ B hml hv
  obtain ⟨rfl, hsz, hP, hK⟩ := hv
  rw [lg_entry_eq]
  exact h p e s m _ below meth c (gS_of B hml) B.returns B.notSynchronized (fun hyn => (name_of_methodNamed B.named B.method).1.trans hyn) hsz _ (lv_entry av hnl) ⟨hK, hP, va_S.rf, by rw [hsz]; exact Nat.le_add_right b n⟩
end GS
end
section
theorem cpX0 : cP 0 RX0 TX0 8 tyX0 := ⟨rfl, fun w h => gT_in ((by decide +kernel : ∀ w ∈ u_ws RX0 TX0 8, w ∈ lw_tbl) w h) ((by decide +kernel : ∀ w ∈ u_ws RX0 TX0 8, goodWord w = true) w h), tyX0_ok, nmX0⟩
theorem cpX1 : cP 1 RX1 TX1 7 tyX1 := ⟨rfl, fun w h => gT_in ((by decide +kernel : ∀ w ∈ u_ws RX1 TX1 7, w ∈ lw_tbl) w h) ((by decide +kernel : ∀ w ∈ u_ws RX1 TX1 7, goodWord w = true) w h), tyX1_ok, nmX1⟩
theorem cpX2 : cP 2 RX2 TX2 14 tyX2 := ⟨rfl, fun w h => gT_in ((by decide +kernel : ∀ w ∈ u_ws RX2 TX2 14, w ∈ lw_tbl) w h) ((by decide +kernel : ∀ w ∈ u_ws RX2 TX2 14, goodWord w = true) w h), tyX2_ok, nmX2⟩
theorem cpX3 : cP 3 RX3 TX3 9 tyX3 := ⟨rfl, fun w h => gT_in ((by decide +kernel : ∀ w ∈ u_ws RX3 TX3 9, w ∈ lw_tbl) w h) ((by decide +kernel : ∀ w ∈ u_ws RX3 TX3 9, goodWord w = true) w h), tyX3_ok, nmX3⟩
theorem cpX4 : cP 4 RX4 TX4 8 tyX4 := ⟨rfl, fun w h => gT_in ((by decide +kernel : ∀ w ∈ u_ws RX4 TX4 8, w ∈ lw_tbl) w h) ((by decide +kernel : ∀ w ∈ u_ws RX4 TX4 8, goodWord w = true) w h), tyX4_ok, nmX4⟩
theorem cpX5 : cP 5 RX5 TX5 13 tyX5 := ⟨rfl, fun w h => gT_in ((by decide +kernel : ∀ w ∈ u_ws RX5 TX5 13, w ∈ lw_tbl) w h) ((by decide +kernel : ∀ w ∈ u_ws RX5 TX5 13, goodWord w = true) w h), tyX5_ok, nmX5⟩
theorem cpX6 : cP 6 RX6 TX6 3 tyX6 := ⟨rfl, fun w h => gT_in ((by decide +kernel : ∀ w ∈ u_ws RX6 TX6 3, w ∈ lw_tbl) w h) ((by decide +kernel : ∀ w ∈ u_ws RX6 TX6 3, goodWord w = true) w h), tyX6_ok, nmX6⟩
theorem cpX7 : cP 7 RX7 TX7 9 tyX7 := ⟨rfl, fun w h => gT_in ((by decide +kernel : ∀ w ∈ u_ws RX7 TX7 9, w ∈ lw_tbl) w h) ((by decide +kernel : ∀ w ∈ u_ws RX7 TX7 9, goodWord w = true) w h), tyX7_ok, nmX7⟩
theorem cpX8 : cP 8 RX8 TX8 6 tyX8 := ⟨rfl, fun w h => gT_in ((by decide +kernel : ∀ w ∈ u_ws RX8 TX8 6, w ∈ lw_tbl) w h) ((by decide +kernel : ∀ w ∈ u_ws RX8 TX8 6, goodWord w = true) w h), tyX8_ok, nmX8⟩
theorem cpX9 : cP 9 RX9 TX9 15 tyX9 := ⟨rfl, fun w h => gT_in ((by decide +kernel : ∀ w ∈ u_ws RX9 TX9 15, w ∈ lw_tbl) w h) ((by decide +kernel : ∀ w ∈ u_ws RX9 TX9 15, goodWord w = true) w h), tyX9_ok, nmX9⟩
theorem cpX10 : cP 10 RX10 TX10 13 tyX10 := ⟨rfl, fun w h => gT_in ((by decide +kernel : ∀ w ∈ u_ws RX10 TX10 13, w ∈ lw_tbl) w h) ((by decide +kernel : ∀ w ∈ u_ws RX10 TX10 13, goodWord w = true) w h), tyX10_ok, nmX10⟩
theorem cpX11 : cP 11 RX11 TX11 19 tyX11 := ⟨rfl, fun w h => gT_in ((by decide +kernel : ∀ w ∈ u_ws RX11 TX11 19, w ∈ lw_tbl) w h) ((by decide +kernel : ∀ w ∈ u_ws RX11 TX11 19, goodWord w = true) w h), tyX11_ok, nmX11⟩
theorem cpX12 : cP 12 RX12 TX12 52 tyX12 := ⟨rfl, fun w h => gT_in ((by decide +kernel : ∀ w ∈ u_ws RX12 TX12 52, w ∈ lw_tbl) w h) ((by decide +kernel : ∀ w ∈ u_ws RX12 TX12 52, goodWord w = true) w h), tyX12_ok, nmX12⟩
end
section
theorem dX11_init_0 : decode cX11_init 0 = .ok (.aload_n 0, 1) := by decide +kernel
theorem dX11_init_1 : decode cX11_init 1 = .ok (.invokespecial 3, 3) := by decide +kernel
theorem wm_202 : (Jvm.Cond.methodLink "GrownKinds" (3 : Nat) ({ cls := "java/lang/Object", name := "<init>", desc := "()V" } : Jvm.MethodName)) ∈ gT := gT_in (List.mem_of_getElem? (i := 202) (by decide +kernel)) (by decide +kernel)
theorem wm_203 : (Jvm.Cond.instanceMethod ({ cls := "java/lang/Object", name := "<init>", desc := "()V" } : Jvm.MethodName)) ∈ gT := gT_in (List.mem_of_getElem? (i := 203) (by decide +kernel)) (by decide +kernel)
theorem wm_204 : (Jvm.Cond.code ({ cls := "java/lang/Object", name := "<init>", desc := "()V" } : Jvm.MethodName) object_method_1_code (1 : Nat) (Option.none : Option Jvm.ClassFile.FieldType)) ∈ gT := gT_in (List.mem_of_getElem? (i := 204) (by decide +kernel)) (by decide +kernel)
theorem dX11_init_4 : decode cX11_init 4 = .ok (.aload_n 0, 1) := by decide +kernel
theorem dX11_init_5 : decode cX11_init 5 = .ok (.sipush 400, 3) := by decide +kernel
theorem dX11_init_8 : decode cX11_init 8 = .ok (.newarray .byte, 2) := by decide +kernel
theorem wm_304 : (Jvm.Cond.arrayClass Jvm.ClassFile.FieldType.byte) ∈ gT := gT_in (List.mem_of_getElem? (i := 304) (by decide +kernel)) (by decide +kernel)
theorem dX11_init_10 : decode cX11_init 10 = .ok (.putfield 9, 3) := by decide +kernel
theorem wm_666 : (Jvm.Cond.fieldLink "GrownKinds" (9 : Nat) "GrownKinds" "tape" "[B") ∈ gT := gT_in (List.mem_of_getElem? (i := 666) (by decide +kernel)) (by decide +kernel)
theorem dX11_init_13 : decode cX11_init 13 = .ok (.aload_n 0, 1) := by decide +kernel
theorem dX11_init_14 : decode cX11_init 14 = .ok (.iconst 0, 1) := by decide +kernel
theorem dX11_init_15 : decode cX11_init 15 = .ok (.putfield 13, 3) := by decide +kernel
theorem wm_667 : (Jvm.Cond.fieldLink "GrownKinds" (13 : Nat) "GrownKinds" "tapeSize" "I") ∈ gT := gT_in (List.mem_of_getElem? (i := 667) (by decide +kernel)) (by decide +kernel)
theorem dX11_init_18 : decode cX11_init 18 = .ok (.aload_n 0, 1) := by decide +kernel
theorem dX11_init_19 : decode cX11_init 19 = .ok (.new 17, 3) := by decide +kernel
theorem wm_205 : (Jvm.Cond.classLink "GrownKinds" (17 : Nat) "GrownKinds$Grammar") ∈ gT := gT_in (List.mem_of_getElem? (i := 205) (by decide +kernel)) (by decide +kernel)
theorem wm_206 : (Jvm.Cond.instantiable "GrownKinds$Grammar" (14 : Nat)) ∈ gT := gT_in (List.mem_of_getElem? (i := 206) (by decide +kernel)) (by decide +kernel)
theorem wm_177 : (Jvm.Cond.initialized "GrownKinds$Grammar") ∈ gT := gT_in (List.mem_of_getElem? (i := 177) (by decide +kernel)) (by decide +kernel)
theorem dX11_init_22 : decode cX11_init 22 = .ok (.dup, 1) := by decide +kernel
theorem dX11_init_23 : decode cX11_init 23 = .ok (.invokespecial 19, 3) := by decide +kernel
theorem dX2_init_0 : decode cX2_init 0 = .ok (.aload_n 0, 1) := by decide +kernel
theorem dX2_init_1 : decode cX2_init 1 = .ok (.invokespecial 3, 3) := by decide +kernel
theorem wm_210 : (Jvm.Cond.methodLink "GrownKinds$Grammar" (3 : Nat) ({ cls := "java/lang/Object", name := "<init>", desc := "()V" } : Jvm.MethodName)) ∈ gT := gT_in (List.mem_of_getElem? (i := 210) (by decide +kernel)) (by decide +kernel)
theorem dX2_init_4 : decode cX2_init 4 = .ok (.aload_n 0, 1) := by decide +kernel
theorem dX2_init_5 : decode cX2_init 5 = .ok (.iconst 0, 1) := by decide +kernel
theorem dX2_init_6 : decode cX2_init 6 = .ok (.putfield 9, 3) := by decide +kernel
theorem wm_211 : (Jvm.Cond.fieldLink "GrownKinds$Grammar" (9 : Nat) "GrownKinds$Grammar" "most" "I") ∈ gT := gT_in (List.mem_of_getElem? (i := 211) (by decide +kernel)) (by decide +kernel)
theorem dX2_init_9 : decode cX2_init 9 = .ok (.aload_n 0, 1) := by decide +kernel
theorem dX2_init_10 : decode cX2_init 10 = .ok (.iconst 0, 1) := by decide +kernel
theorem dX2_init_11 : decode cX2_init 11 = .ok (.putfield 15, 3) := by decide +kernel
theorem wm_217 : (Jvm.Cond.fieldLink "GrownKinds$Grammar" (15 : Nat) "GrownKinds$Grammar" "kinds" "I") ∈ gT := gT_in (List.mem_of_getElem? (i := 217) (by decide +kernel)) (by decide +kernel)
theorem dX2_init_14 : decode cX2_init 14 = .ok (.aload_n 0, 1) := by decide +kernel
theorem dX2_init_15 : decode cX2_init 15 = .ok (.iconst 0, 1) := by decide +kernel
theorem dX2_init_16 : decode cX2_init 16 = .ok (.putfield 18, 3) := by decide +kernel
theorem wm_222 : (Jvm.Cond.fieldLink "GrownKinds$Grammar" (18 : Nat) "GrownKinds$Grammar" "lines" "I") ∈ gT := gT_in (List.mem_of_getElem? (i := 222) (by decide +kernel)) (by decide +kernel)
theorem dX2_init_19 : decode cX2_init 19 = .ok (.aload_n 0, 1) := by decide +kernel
theorem dX2_init_20 : decode cX2_init 20 = .ok (.iconst 0, 1) := by decide +kernel
theorem dX2_init_21 : decode cX2_init 21 = .ok (.putfield 21, 3) := by decide +kernel
theorem wm_225 : (Jvm.Cond.fieldLink "GrownKinds$Grammar" (21 : Nat) "GrownKinds$Grammar" "parts" "I") ∈ gT := gT_in (List.mem_of_getElem? (i := 225) (by decide +kernel)) (by decide +kernel)
theorem dX2_init_24 : decode cX2_init 24 = .ok (.aload_n 0, 1) := by decide +kernel
theorem dX2_init_25 : decode cX2_init 25 = .ok (.iconst 0, 1) := by decide +kernel
theorem dX2_init_26 : decode cX2_init 26 = .ok (.putfield 24, 3) := by decide +kernel
theorem wm_230 : (Jvm.Cond.fieldLink "GrownKinds$Grammar" (24 : Nat) "GrownKinds$Grammar" "steps" "I") ∈ gT := gT_in (List.mem_of_getElem? (i := 230) (by decide +kernel)) (by decide +kernel)
theorem dX2_init_29 : decode cX2_init 29 = .ok (.aload_n 0, 1) := by decide +kernel
theorem dX2_init_30 : decode cX2_init 30 = .ok (.bipush 24, 2) := by decide +kernel
theorem dX2_init_32 : decode cX2_init 32 = .ok (.newarray .int, 2) := by decide +kernel
theorem wm_305 : (Jvm.Cond.arrayClass Jvm.ClassFile.FieldType.int) ∈ gT := gT_in (List.mem_of_getElem? (i := 305) (by decide +kernel)) (by decide +kernel)
theorem dX2_init_34 : decode cX2_init 34 = .ok (.putfield 27, 3) := by decide +kernel
theorem wm_233 : (Jvm.Cond.fieldLink "GrownKinds$Grammar" (27 : Nat) "GrownKinds$Grammar" "type" "[I") ∈ gT := gT_in (List.mem_of_getElem? (i := 233) (by decide +kernel)) (by decide +kernel)
theorem dX2_init_37 : decode cX2_init 37 = .ok (.aload_n 0, 1) := by decide +kernel
theorem dX2_init_38 : decode cX2_init 38 = .ok (.bipush 24, 2) := by decide +kernel
theorem dX2_init_40 : decode cX2_init 40 = .ok (.newarray .int, 2) := by decide +kernel
theorem dX2_init_42 : decode cX2_init 42 = .ok (.putfield 31, 3) := by decide +kernel
theorem wm_239 : (Jvm.Cond.fieldLink "GrownKinds$Grammar" (31 : Nat) "GrownKinds$Grammar" "value" "[I") ∈ gT := gT_in (List.mem_of_getElem? (i := 239) (by decide +kernel)) (by decide +kernel)
theorem dX2_init_45 : decode cX2_init 45 = .ok (.aload_n 0, 1) := by decide +kernel
theorem dX2_init_46 : decode cX2_init 46 = .ok (.bipush 24, 2) := by decide +kernel
theorem dX2_init_48 : decode cX2_init 48 = .ok (.newarray .int, 2) := by decide +kernel
theorem dX2_init_50 : decode cX2_init 50 = .ok (.putfield 34, 3) := by decide +kernel
theorem wm_246 : (Jvm.Cond.fieldLink "GrownKinds$Grammar" (34 : Nat) "GrownKinds$Grammar" "inside" "[I") ∈ gT := gT_in (List.mem_of_getElem? (i := 246) (by decide +kernel)) (by decide +kernel)
theorem dX2_init_53 : decode cX2_init 53 = .ok (.aload_n 0, 1) := by decide +kernel
theorem dX2_init_54 : decode cX2_init 54 = .ok (.bipush 24, 2) := by decide +kernel
theorem dX2_init_56 : decode cX2_init 56 = .ok (.newarray .int, 2) := by decide +kernel
theorem dX2_init_58 : decode cX2_init 58 = .ok (.putfield 37, 3) := by decide +kernel
theorem wm_253 : (Jvm.Cond.fieldLink "GrownKinds$Grammar" (37 : Nat) "GrownKinds$Grammar" "next" "[I") ∈ gT := gT_in (List.mem_of_getElem? (i := 253) (by decide +kernel)) (by decide +kernel)
theorem dX2_init_61 : decode cX2_init 61 = .ok (.aload_n 0, 1) := by decide +kernel
theorem dX2_init_62 : decode cX2_init 62 = .ok (.bipush 24, 2) := by decide +kernel
theorem dX2_init_64 : decode cX2_init 64 = .ok (.newarray .int, 2) := by decide +kernel
theorem dX2_init_66 : decode cX2_init 66 = .ok (.putfield 40, 3) := by decide +kernel
theorem wm_259 : (Jvm.Cond.fieldLink "GrownKinds$Grammar" (40 : Nat) "GrownKinds$Grammar" "home" "[I") ∈ gT := gT_in (List.mem_of_getElem? (i := 259) (by decide +kernel)) (by decide +kernel)
theorem dX2_init_69 : decode cX2_init 69 = .ok (.aload_n 0, 1) := by decide +kernel
theorem dX2_init_70 : decode cX2_init 70 = .ok (.bipush 30, 2) := by decide +kernel
theorem dX2_init_72 : decode cX2_init 72 = .ok (.newarray .int, 2) := by decide +kernel
theorem dX2_init_74 : decode cX2_init 74 = .ok (.putfield 43, 3) := by decide +kernel
theorem wm_261 : (Jvm.Cond.fieldLink "GrownKinds$Grammar" (43 : Nat) "GrownKinds$Grammar" "termCount" "[I") ∈ gT := gT_in (List.mem_of_getElem? (i := 261) (by decide +kernel)) (by decide +kernel)
theorem dX2_init_77 : decode cX2_init 77 = .ok (.aload_n 0, 1) := by decide +kernel
theorem dX2_init_78 : decode cX2_init 78 = .ok (.sipush 300, 3) := by decide +kernel
theorem dX2_init_81 : decode cX2_init 81 = .ok (.newarray .int, 2) := by decide +kernel
theorem dX2_init_83 : decode cX2_init 83 = .ok (.putfield 46, 3) := by decide +kernel
theorem wm_268 : (Jvm.Cond.fieldLink "GrownKinds$Grammar" (46 : Nat) "GrownKinds$Grammar" "firstPart" "[I") ∈ gT := gT_in (List.mem_of_getElem? (i := 268) (by decide +kernel)) (by decide +kernel)
theorem dX2_init_86 : decode cX2_init 86 = .ok (.aload_n 0, 1) := by decide +kernel
theorem dX2_init_87 : decode cX2_init 87 = .ok (.bipush 30, 2) := by decide +kernel
theorem dX2_init_89 : decode cX2_init 89 = .ok (.newarray .int, 2) := by decide +kernel
theorem dX2_init_91 : decode cX2_init 91 = .ok (.putfield 49, 3) := by decide +kernel
theorem wm_270 : (Jvm.Cond.fieldLink "GrownKinds$Grammar" (49 : Nat) "GrownKinds$Grammar" "off" "[I") ∈ gT := gT_in (List.mem_of_getElem? (i := 270) (by decide +kernel)) (by decide +kernel)
theorem dX2_init_94 : decode cX2_init 94 = .ok (.aload_n 0, 1) := by decide +kernel
theorem dX2_init_95 : decode cX2_init 95 = .ok (.bipush 54, 2) := by decide +kernel
theorem dX2_init_97 : decode cX2_init 97 = .ok (.newarray .int, 2) := by decide +kernel
theorem dX2_init_99 : decode cX2_init 99 = .ok (.putfield 52, 3) := by decide +kernel
theorem wm_272 : (Jvm.Cond.fieldLink "GrownKinds$Grammar" (52 : Nat) "GrownKinds$Grammar" "order" "[I") ∈ gT := gT_in (List.mem_of_getElem? (i := 272) (by decide +kernel)) (by decide +kernel)
theorem dX2_init_102 : decode cX2_init 102 = .ok (.return_, 1) := by decide +kernel
theorem wm_208 : (Jvm.Cond.instanceMethod ({ cls := "GrownKinds$Grammar", name := "<init>", desc := "()V" } : Jvm.MethodName)) ∈ gT := gT_in (List.mem_of_getElem? (i := 208) (by decide +kernel)) (by decide +kernel)
theorem wm_209 : (Jvm.Cond.code ({ cls := "GrownKinds$Grammar", name := "<init>", desc := "()V" } : Jvm.MethodName) prog_4_method_1_code (1 : Nat) (Option.none : Option Jvm.ClassFile.FieldType)) ∈ gT := gT_in (List.mem_of_getElem? (i := 209) (by decide +kernel)) (by decide +kernel)
theorem dX11_init_26 : decode cX11_init 26 = .ok (.putfield 20, 3) := by decide +kernel
theorem wm_668 : (Jvm.Cond.fieldLink "GrownKinds" (20 : Nat) "GrownKinds" "now" "LGrownKinds$Grammar;") ∈ gT := gT_in (List.mem_of_getElem? (i := 668) (by decide +kernel)) (by decide +kernel)
theorem dX11_init_29 : decode cX11_init 29 = .ok (.aload_n 0, 1) := by decide +kernel
theorem dX11_init_30 : decode cX11_init 30 = .ok (.new 24, 3) := by decide +kernel
theorem wm_306 : (Jvm.Cond.classLink "GrownKinds" (24 : Nat) "GrownKinds$Reader") ∈ gT := gT_in (List.mem_of_getElem? (i := 306) (by decide +kernel)) (by decide +kernel)
theorem wm_307 : (Jvm.Cond.instantiable "GrownKinds$Reader" (13 : Nat)) ∈ gT := gT_in (List.mem_of_getElem? (i := 307) (by decide +kernel)) (by decide +kernel)
theorem wm_178 : (Jvm.Cond.initialized "GrownKinds$Reader") ∈ gT := gT_in (List.mem_of_getElem? (i := 178) (by decide +kernel)) (by decide +kernel)
theorem dX11_init_33 : decode cX11_init 33 = .ok (.dup, 1) := by decide +kernel
theorem dX11_init_34 : decode cX11_init 34 = .ok (.new 17, 3) := by decide +kernel
theorem dX11_init_37 : decode cX11_init 37 = .ok (.dup, 1) := by decide +kernel
theorem dX11_init_38 : decode cX11_init 38 = .ok (.invokespecial 19, 3) := by decide +kernel
theorem dX11_init_41 : decode cX11_init 41 = .ok (.invokespecial 26, 3) := by decide +kernel
theorem wm_308 : (Jvm.Cond.methodLink "GrownKinds" (26 : Nat) ({ cls := "GrownKinds$Reader", name := "<init>", desc := "(LGrownKinds$Grammar;)V" } : Jvm.MethodName)) ∈ gT := gT_in (List.mem_of_getElem? (i := 308) (by decide +kernel)) (by decide +kernel)
theorem wm_309 : (Jvm.Cond.instanceMethod ({ cls := "GrownKinds$Reader", name := "<init>", desc := "(LGrownKinds$Grammar;)V" } : Jvm.MethodName)) ∈ gT := gT_in (List.mem_of_getElem? (i := 309) (by decide +kernel)) (by decide +kernel)
theorem wm_310 : (Jvm.Cond.code ({ cls := "GrownKinds$Reader", name := "<init>", desc := "(LGrownKinds$Grammar;)V" } : Jvm.MethodName) prog_7_method_1_code (2 : Nat) (Option.none : Option Jvm.ClassFile.FieldType)) ∈ gT := gT_in (List.mem_of_getElem? (i := 310) (by decide +kernel)) (by decide +kernel)
theorem dX5_init_0 : decode cX5_init 0 = .ok (.aload_n 0, 1) := by decide +kernel
theorem dX5_init_1 : decode cX5_init 1 = .ok (.invokespecial 3, 3) := by decide +kernel
theorem wm_311 : (Jvm.Cond.methodLink "GrownKinds$Reader" (3 : Nat) ({ cls := "java/lang/Object", name := "<init>", desc := "()V" } : Jvm.MethodName)) ∈ gT := gT_in (List.mem_of_getElem? (i := 311) (by decide +kernel)) (by decide +kernel)
theorem dX5_init_4 : decode cX5_init 4 = .ok (.aload_n 0, 1) := by decide +kernel
theorem dX5_init_5 : decode cX5_init 5 = .ok (.iconst 0, 1) := by decide +kernel
theorem dX5_init_6 : decode cX5_init 6 = .ok (.putfield 9, 3) := by decide +kernel
theorem wm_353 : (Jvm.Cond.fieldLink "GrownKinds$Reader" (9 : Nat) "GrownKinds$Reader" "fault" "I") ∈ gT := gT_in (List.mem_of_getElem? (i := 353) (by decide +kernel)) (by decide +kernel)
theorem dX5_init_9 : decode cX5_init 9 = .ok (.aload_n 0, 1) := by decide +kernel
theorem dX5_init_10 : decode cX5_init 10 = .ok (.iconst (-1), 1) := by decide +kernel
theorem dX5_init_11 : decode cX5_init 11 = .ok (.putfield 15, 3) := by decide +kernel
theorem wm_355 : (Jvm.Cond.fieldLink "GrownKinds$Reader" (15 : Nat) "GrownKinds$Reader" "place" "I") ∈ gT := gT_in (List.mem_of_getElem? (i := 355) (by decide +kernel)) (by decide +kernel)
theorem dX5_init_14 : decode cX5_init 14 = .ok (.aload_n 0, 1) := by decide +kernel
theorem dX5_init_15 : decode cX5_init 15 = .ok (.iconst 0, 1) := by decide +kernel
theorem dX5_init_16 : decode cX5_init 16 = .ok (.newarray .byte, 2) := by decide +kernel
theorem dX5_init_18 : decode cX5_init 18 = .ok (.putfield 18, 3) := by decide +kernel
theorem wm_358 : (Jvm.Cond.fieldLink "GrownKinds$Reader" (18 : Nat) "GrownKinds$Reader" "bytes" "[B") ∈ gT := gT_in (List.mem_of_getElem? (i := 358) (by decide +kernel)) (by decide +kernel)
theorem dX5_init_21 : decode cX5_init 21 = .ok (.aload_n 0, 1) := by decide +kernel
theorem dX5_init_22 : decode cX5_init 22 = .ok (.iconst 0, 1) := by decide +kernel
theorem dX5_init_23 : decode cX5_init 23 = .ok (.putfield 22, 3) := by decide +kernel
theorem wm_359 : (Jvm.Cond.fieldLink "GrownKinds$Reader" (22 : Nat) "GrownKinds$Reader" "length" "I") ∈ gT := gT_in (List.mem_of_getElem? (i := 359) (by decide +kernel)) (by decide +kernel)
theorem dX5_init_26 : decode cX5_init 26 = .ok (.aload_n 0, 1) := by decide +kernel
theorem dX5_init_27 : decode cX5_init 27 = .ok (.iconst 0, 1) := by decide +kernel
theorem dX5_init_28 : decode cX5_init 28 = .ok (.putfield 25, 3) := by decide +kernel
theorem wm_360 : (Jvm.Cond.fieldLink "GrownKinds$Reader" (25 : Nat) "GrownKinds$Reader" "at" "I") ∈ gT := gT_in (List.mem_of_getElem? (i := 360) (by decide +kernel)) (by decide +kernel)
theorem dX5_init_31 : decode cX5_init 31 = .ok (.aload_n 0, 1) := by decide +kernel
theorem dX5_init_32 : decode cX5_init 32 = .ok (.iconst 3, 1) := by decide +kernel
theorem dX5_init_33 : decode cX5_init 33 = .ok (.putfield 28, 3) := by decide +kernel
theorem wm_361 : (Jvm.Cond.fieldLink "GrownKinds$Reader" (28 : Nat) "GrownKinds$Reader" "token" "I") ∈ gT := gT_in (List.mem_of_getElem? (i := 361) (by decide +kernel)) (by decide +kernel)
theorem dX5_init_36 : decode cX5_init 36 = .ok (.aload_n 0, 1) := by decide +kernel
theorem dX5_init_37 : decode cX5_init 37 = .ok (.iconst 0, 1) := by decide +kernel
theorem dX5_init_38 : decode cX5_init 38 = .ok (.putfield 31, 3) := by decide +kernel
theorem wm_362 : (Jvm.Cond.fieldLink "GrownKinds$Reader" (31 : Nat) "GrownKinds$Reader" "start" "I") ∈ gT := gT_in (List.mem_of_getElem? (i := 362) (by decide +kernel)) (by decide +kernel)
theorem dX5_init_41 : decode cX5_init 41 = .ok (.aload_n 0, 1) := by decide +kernel
theorem dX5_init_42 : decode cX5_init 42 = .ok (.iconst 0, 1) := by decide +kernel
theorem dX5_init_43 : decode cX5_init 43 = .ok (.putfield 34, 3) := by decide +kernel
theorem wm_363 : (Jvm.Cond.fieldLink "GrownKinds$Reader" (34 : Nat) "GrownKinds$Reader" "number" "I") ∈ gT := gT_in (List.mem_of_getElem? (i := 363) (by decide +kernel)) (by decide +kernel)
theorem dX5_init_46 : decode cX5_init 46 = .ok (.aload_n 0, 1) := by decide +kernel
theorem dX5_init_47 : decode cX5_init 47 = .ok (.iconst 0, 1) := by decide +kernel
theorem dX5_init_48 : decode cX5_init 48 = .ok (.putfield 37, 3) := by decide +kernel
theorem wm_364 : (Jvm.Cond.fieldLink "GrownKinds$Reader" (37 : Nat) "GrownKinds$Reader" "line" "I") ∈ gT := gT_in (List.mem_of_getElem? (i := 364) (by decide +kernel)) (by decide +kernel)
theorem dX5_init_51 : decode cX5_init 51 = .ok (.aload_n 0, 1) := by decide +kernel
theorem dX5_init_52 : decode cX5_init 52 = .ok (.bipush 6, 2) := by decide +kernel
theorem dX5_init_54 : decode cX5_init 54 = .ok (.newarray .int, 2) := by decide +kernel
theorem dX5_init_56 : decode cX5_init 56 = .ok (.putfield 40, 3) := by decide +kernel
theorem wm_365 : (Jvm.Cond.fieldLink "GrownKinds$Reader" (40 : Nat) "GrownKinds$Reader" "nameStart" "[I") ∈ gT := gT_in (List.mem_of_getElem? (i := 365) (by decide +kernel)) (by decide +kernel)
theorem dX5_init_59 : decode cX5_init 59 = .ok (.aload_n 0, 1) := by decide +kernel
theorem dX5_init_60 : decode cX5_init 60 = .ok (.bipush 6, 2) := by decide +kernel
theorem dX5_init_62 : decode cX5_init 62 = .ok (.newarray .int, 2) := by decide +kernel
theorem dX5_init_64 : decode cX5_init 64 = .ok (.putfield 44, 3) := by decide +kernel
theorem wm_366 : (Jvm.Cond.fieldLink "GrownKinds$Reader" (44 : Nat) "GrownKinds$Reader" "nameLength" "[I") ∈ gT := gT_in (List.mem_of_getElem? (i := 366) (by decide +kernel)) (by decide +kernel)
theorem dX5_init_67 : decode cX5_init 67 = .ok (.aload_n 0, 1) := by decide +kernel
theorem dX5_init_68 : decode cX5_init 68 = .ok (.aload_n 1, 1) := by decide +kernel
theorem dX5_init_69 : decode cX5_init 69 = .ok (.putfield 47, 3) := by decide +kernel
theorem wm_351 : (Jvm.Cond.fieldLink "GrownKinds$Reader" (47 : Nat) "GrownKinds$Reader" "made" "LGrownKinds$Grammar;") ∈ gT := gT_in (List.mem_of_getElem? (i := 351) (by decide +kernel)) (by decide +kernel)
theorem dX5_init_72 : decode cX5_init 72 = .ok (.aload_n 0, 1) := by decide +kernel
theorem dX5_init_73 : decode cX5_init 73 = .ok (.new 51, 3) := by decide +kernel
theorem wm_312 : (Jvm.Cond.classLink "GrownKinds$Reader" (51 : Nat) "GrownKinds$Leaning") ∈ gT := gT_in (List.mem_of_getElem? (i := 312) (by decide +kernel)) (by decide +kernel)
theorem wm_313 : (Jvm.Cond.instantiable "GrownKinds$Leaning" (9 : Nat)) ∈ gT := gT_in (List.mem_of_getElem? (i := 313) (by decide +kernel)) (by decide +kernel)
theorem wm_179 : (Jvm.Cond.initialized "GrownKinds$Leaning") ∈ gT := gT_in (List.mem_of_getElem? (i := 179) (by decide +kernel)) (by decide +kernel)
theorem dX5_init_76 : decode cX5_init 76 = .ok (.dup, 1) := by decide +kernel
theorem dX5_init_77 : decode cX5_init 77 = .ok (.aload_n 1, 1) := by decide +kernel
theorem dX5_init_78 : decode cX5_init 78 = .ok (.invokespecial 53, 3) := by decide +kernel
theorem wm_314 : (Jvm.Cond.methodLink "GrownKinds$Reader" (53 : Nat) ({ cls := "GrownKinds$Leaning", name := "<init>", desc := "(LGrownKinds$Grammar;)V" } : Jvm.MethodName)) ∈ gT := gT_in (List.mem_of_getElem? (i := 314) (by decide +kernel)) (by decide +kernel)
theorem wm_315 : (Jvm.Cond.instanceMethod ({ cls := "GrownKinds$Leaning", name := "<init>", desc := "(LGrownKinds$Grammar;)V" } : Jvm.MethodName)) ∈ gT := gT_in (List.mem_of_getElem? (i := 315) (by decide +kernel)) (by decide +kernel)
theorem wm_316 : (Jvm.Cond.code ({ cls := "GrownKinds$Leaning", name := "<init>", desc := "(LGrownKinds$Grammar;)V" } : Jvm.MethodName) prog_5_method_1_code (2 : Nat) (Option.none : Option Jvm.ClassFile.FieldType)) ∈ gT := gT_in (List.mem_of_getElem? (i := 316) (by decide +kernel)) (by decide +kernel)
theorem dX3_init_0 : decode cX3_init 0 = .ok (.aload_n 0, 1) := by decide +kernel
theorem dX3_init_1 : decode cX3_init 1 = .ok (.invokespecial 3, 3) := by decide +kernel
theorem wm_317 : (Jvm.Cond.methodLink "GrownKinds$Leaning" (3 : Nat) ({ cls := "java/lang/Object", name := "<init>", desc := "()V" } : Jvm.MethodName)) ∈ gT := gT_in (List.mem_of_getElem? (i := 317) (by decide +kernel)) (by decide +kernel)
theorem dX3_init_4 : decode cX3_init 4 = .ok (.aload_n 0, 1) := by decide +kernel
theorem dX3_init_5 : decode cX3_init 5 = .ok (.iconst 0, 1) := by decide +kernel
theorem dX3_init_6 : decode cX3_init 6 = .ok (.putfield 9, 3) := by decide +kernel
theorem wm_319 : (Jvm.Cond.fieldLink "GrownKinds$Leaning" (9 : Nat) "GrownKinds$Leaning" "emptyParts" "I") ∈ gT := gT_in (List.mem_of_getElem? (i := 319) (by decide +kernel)) (by decide +kernel)
theorem dX3_init_9 : decode cX3_init 9 = .ok (.aload_n 0, 1) := by decide +kernel
theorem dX3_init_10 : decode cX3_init 10 = .ok (.iconst 0, 1) := by decide +kernel
theorem dX3_init_11 : decode cX3_init 11 = .ok (.putfield 15, 3) := by decide +kernel
theorem wm_320 : (Jvm.Cond.fieldLink "GrownKinds$Leaning" (15 : Nat) "GrownKinds$Leaning" "emptyKinds" "I") ∈ gT := gT_in (List.mem_of_getElem? (i := 320) (by decide +kernel)) (by decide +kernel)
theorem dX3_init_14 : decode cX3_init 14 = .ok (.aload_n 0, 1) := by decide +kernel
theorem dX3_init_15 : decode cX3_init 15 = .ok (.bipush 24, 2) := by decide +kernel
theorem dX3_init_17 : decode cX3_init 17 = .ok (.newarray .int, 2) := by decide +kernel
theorem dX3_init_19 : decode cX3_init 19 = .ok (.putfield 18, 3) := by decide +kernel
theorem wm_322 : (Jvm.Cond.fieldLink "GrownKinds$Leaning" (18 : Nat) "GrownKinds$Leaning" "leans" "[I") ∈ gT := gT_in (List.mem_of_getElem? (i := 322) (by decide +kernel)) (by decide +kernel)
theorem dX3_init_22 : decode cX3_init 22 = .ok (.aload_n 0, 1) := by decide +kernel
theorem dX3_init_23 : decode cX3_init 23 = .ok (.bipush 24, 2) := by decide +kernel
theorem dX3_init_25 : decode cX3_init 25 = .ok (.newarray .int, 2) := by decide +kernel
theorem dX3_init_27 : decode cX3_init 27 = .ok (.putfield 22, 3) := by decide +kernel
theorem wm_323 : (Jvm.Cond.fieldLink "GrownKinds$Leaning" (22 : Nat) "GrownKinds$Leaning" "uses" "[I") ∈ gT := gT_in (List.mem_of_getElem? (i := 323) (by decide +kernel)) (by decide +kernel)
theorem dX3_init_30 : decode cX3_init 30 = .ok (.aload_n 0, 1) := by decide +kernel
theorem dX3_init_31 : decode cX3_init 31 = .ok (.bipush 24, 2) := by decide +kernel
theorem dX3_init_33 : decode cX3_init 33 = .ok (.newarray .int, 2) := by decide +kernel
theorem dX3_init_35 : decode cX3_init 35 = .ok (.putfield 25, 3) := by decide +kernel
theorem wm_324 : (Jvm.Cond.fieldLink "GrownKinds$Leaning" (25 : Nat) "GrownKinds$Leaning" "letters" "[I") ∈ gT := gT_in (List.mem_of_getElem? (i := 324) (by decide +kernel)) (by decide +kernel)
theorem dX3_init_38 : decode cX3_init 38 = .ok (.aload_n 0, 1) := by decide +kernel
theorem dX3_init_39 : decode cX3_init 39 = .ok (.bipush 6, 2) := by decide +kernel
theorem dX3_init_41 : decode cX3_init 41 = .ok (.newarray .int, 2) := by decide +kernel
theorem dX3_init_43 : decode cX3_init 43 = .ok (.putfield 28, 3) := by decide +kernel
theorem wm_325 : (Jvm.Cond.fieldLink "GrownKinds$Leaning" (28 : Nat) "GrownKinds$Leaning" "kindLeans" "[I") ∈ gT := gT_in (List.mem_of_getElem? (i := 325) (by decide +kernel)) (by decide +kernel)
theorem dX3_init_46 : decode cX3_init 46 = .ok (.aload_n 0, 1) := by decide +kernel
theorem dX3_init_47 : decode cX3_init 47 = .ok (.bipush 6, 2) := by decide +kernel
theorem dX3_init_49 : decode cX3_init 49 = .ok (.newarray .int, 2) := by decide +kernel
theorem dX3_init_51 : decode cX3_init 51 = .ok (.putfield 31, 3) := by decide +kernel
theorem wm_328 : (Jvm.Cond.fieldLink "GrownKinds$Leaning" (31 : Nat) "GrownKinds$Leaning" "kindUses" "[I") ∈ gT := gT_in (List.mem_of_getElem? (i := 328) (by decide +kernel)) (by decide +kernel)
theorem dX3_init_54 : decode cX3_init 54 = .ok (.aload_n 0, 1) := by decide +kernel
theorem dX3_init_55 : decode cX3_init 55 = .ok (.bipush 6, 2) := by decide +kernel
theorem dX3_init_57 : decode cX3_init 57 = .ok (.newarray .int, 2) := by decide +kernel
theorem dX3_init_59 : decode cX3_init 59 = .ok (.putfield 34, 3) := by decide +kernel
theorem wm_330 : (Jvm.Cond.fieldLink "GrownKinds$Leaning" (34 : Nat) "GrownKinds$Leaning" "kindLetters" "[I") ∈ gT := gT_in (List.mem_of_getElem? (i := 330) (by decide +kernel)) (by decide +kernel)
theorem dX3_init_62 : decode cX3_init 62 = .ok (.aload_n 0, 1) := by decide +kernel
theorem dX3_init_63 : decode cX3_init 63 = .ok (.aload_n 1, 1) := by decide +kernel
theorem dX3_init_64 : decode cX3_init 64 = .ok (.putfield 37, 3) := by decide +kernel
theorem wm_318 : (Jvm.Cond.fieldLink "GrownKinds$Leaning" (37 : Nat) "GrownKinds$Leaning" "grammar" "LGrownKinds$Grammar;") ∈ gT := gT_in (List.mem_of_getElem? (i := 318) (by decide +kernel)) (by decide +kernel)
theorem dX3_init_67 : decode cX3_init 67 = .ok (.return_, 1) := by decide +kernel
theorem dX5_init_81 : decode cX5_init 81 = .ok (.putfield 56, 3) := by decide +kernel
theorem wm_357 : (Jvm.Cond.fieldLink "GrownKinds$Reader" (56 : Nat) "GrownKinds$Reader" "lean" "LGrownKinds$Leaning;") ∈ gT := gT_in (List.mem_of_getElem? (i := 357) (by decide +kernel)) (by decide +kernel)
theorem dX5_init_84 : decode cX5_init 84 = .ok (.return_, 1) := by decide +kernel
theorem dX11_init_44 : decode cX11_init 44 = .ok (.putfield 29, 3) := by decide +kernel
theorem wm_669 : (Jvm.Cond.fieldLink "GrownKinds" (29 : Nat) "GrownKinds" "reader" "LGrownKinds$Reader;") ∈ gT := gT_in (List.mem_of_getElem? (i := 669) (by decide +kernel)) (by decide +kernel)
theorem dX11_init_47 : decode cX11_init 47 = .ok (.aload_n 0, 1) := by decide +kernel
theorem dX11_init_48 : decode cX11_init 48 = .ok (.iconst 0, 1) := by decide +kernel
theorem dX11_init_49 : decode cX11_init 49 = .ok (.putfield 33, 3) := by decide +kernel
theorem wm_670 : (Jvm.Cond.fieldLink "GrownKinds" (33 : Nat) "GrownKinds" "faultNumber" "I") ∈ gT := gT_in (List.mem_of_getElem? (i := 670) (by decide +kernel)) (by decide +kernel)
theorem dX11_init_52 : decode cX11_init 52 = .ok (.aload_n 0, 1) := by decide +kernel
theorem dX11_init_53 : decode cX11_init 53 = .ok (.iconst (-1), 1) := by decide +kernel
theorem dX11_init_54 : decode cX11_init 54 = .ok (.putfield 36, 3) := by decide +kernel
theorem wm_671 : (Jvm.Cond.fieldLink "GrownKinds" (36 : Nat) "GrownKinds" "faultPlace" "I") ∈ gT := gT_in (List.mem_of_getElem? (i := 671) (by decide +kernel)) (by decide +kernel)
theorem dX11_init_57 : decode cX11_init 57 = .ok (.aload_n 0, 1) := by decide +kernel
theorem dX11_init_58 : decode cX11_init 58 = .ok (.new 39, 3) := by decide +kernel
theorem wm_394 : (Jvm.Cond.classLink "GrownKinds" (39 : Nat) "GrownKinds$Leaning") ∈ gT := gT_in (List.mem_of_getElem? (i := 394) (by decide +kernel)) (by decide +kernel)
theorem dX11_init_61 : decode cX11_init 61 = .ok (.dup, 1) := by decide +kernel
theorem dX11_init_62 : decode cX11_init 62 = .ok (.aload_n 0, 1) := by decide +kernel
theorem dX11_init_63 : decode cX11_init 63 = .ok (.getfield 20, 3) := by decide +kernel
theorem dX11_init_66 : decode cX11_init 66 = .ok (.invokespecial 41, 3) := by decide +kernel
theorem wm_395 : (Jvm.Cond.methodLink "GrownKinds" (41 : Nat) ({ cls := "GrownKinds$Leaning", name := "<init>", desc := "(LGrownKinds$Grammar;)V" } : Jvm.MethodName)) ∈ gT := gT_in (List.mem_of_getElem? (i := 395) (by decide +kernel)) (by decide +kernel)
theorem dX11_init_69 : decode cX11_init 69 = .ok (.putfield 42, 3) := by decide +kernel
theorem wm_672 : (Jvm.Cond.fieldLink "GrownKinds" (42 : Nat) "GrownKinds" "leaning" "LGrownKinds$Leaning;") ∈ gT := gT_in (List.mem_of_getElem? (i := 672) (by decide +kernel)) (by decide +kernel)
theorem dX11_init_72 : decode cX11_init 72 = .ok (.aload_n 0, 1) := by decide +kernel
theorem dX11_init_73 : decode cX11_init 73 = .ok (.new 46, 3) := by decide +kernel
theorem wm_396 : (Jvm.Cond.classLink "GrownKinds" (46 : Nat) "GrownKinds$Census") ∈ gT := gT_in (List.mem_of_getElem? (i := 396) (by decide +kernel)) (by decide +kernel)
theorem wm_397 : (Jvm.Cond.instantiable "GrownKinds$Census" (8 : Nat)) ∈ gT := gT_in (List.mem_of_getElem? (i := 397) (by decide +kernel)) (by decide +kernel)
theorem wm_180 : (Jvm.Cond.initialized "GrownKinds$Census") ∈ gT := gT_in (List.mem_of_getElem? (i := 180) (by decide +kernel)) (by decide +kernel)
theorem dX11_init_76 : decode cX11_init 76 = .ok (.dup, 1) := by decide +kernel
theorem dX11_init_77 : decode cX11_init 77 = .ok (.aload_n 0, 1) := by decide +kernel
theorem dX11_init_78 : decode cX11_init 78 = .ok (.getfield 20, 3) := by decide +kernel
theorem dX11_init_81 : decode cX11_init 81 = .ok (.iconst 1, 1) := by decide +kernel
theorem dX11_init_82 : decode cX11_init 82 = .ok (.invokespecial 48, 3) := by decide +kernel
theorem wm_398 : (Jvm.Cond.methodLink "GrownKinds" (48 : Nat) ({ cls := "GrownKinds$Census", name := "<init>", desc := "(LGrownKinds$Grammar;Z)V" } : Jvm.MethodName)) ∈ gT := gT_in (List.mem_of_getElem? (i := 398) (by decide +kernel)) (by decide +kernel)
theorem wm_399 : (Jvm.Cond.instanceMethod ({ cls := "GrownKinds$Census", name := "<init>", desc := "(LGrownKinds$Grammar;Z)V" } : Jvm.MethodName)) ∈ gT := gT_in (List.mem_of_getElem? (i := 399) (by decide +kernel)) (by decide +kernel)
theorem wm_400 : (Jvm.Cond.code ({ cls := "GrownKinds$Census", name := "<init>", desc := "(LGrownKinds$Grammar;Z)V" } : Jvm.MethodName) prog_2_method_1_code (3 : Nat) (Option.none : Option Jvm.ClassFile.FieldType)) ∈ gT := gT_in (List.mem_of_getElem? (i := 400) (by decide +kernel)) (by decide +kernel)
theorem dX0_init_0 : decode cX0_init 0 = .ok (.aload_n 0, 1) := by decide +kernel
theorem dX0_init_1 : decode cX0_init 1 = .ok (.invokespecial 3, 3) := by decide +kernel
theorem wm_401 : (Jvm.Cond.methodLink "GrownKinds$Census" (3 : Nat) ({ cls := "java/lang/Object", name := "<init>", desc := "()V" } : Jvm.MethodName)) ∈ gT := gT_in (List.mem_of_getElem? (i := 401) (by decide +kernel)) (by decide +kernel)
theorem dX0_init_4 : decode cX0_init 4 = .ok (.aload_n 0, 1) := by decide +kernel
theorem dX0_init_5 : decode cX0_init 5 = .ok (.iconst (-1), 1) := by decide +kernel
theorem dX0_init_6 : decode cX0_init 6 = .ok (.putfield 9, 3) := by decide +kernel
theorem wm_403 : (Jvm.Cond.fieldLink "GrownKinds$Census" (9 : Nat) "GrownKinds$Census" "mode" "I") ∈ gT := gT_in (List.mem_of_getElem? (i := 403) (by decide +kernel)) (by decide +kernel)
theorem dX0_init_9 : decode cX0_init 9 = .ok (.aload_n 0, 1) := by decide +kernel
theorem dX0_init_10 : decode cX0_init 10 = .ok (.sipush 1536, 3) := by decide +kernel
theorem dX0_init_13 : decode cX0_init 13 = .ok (.newarray .long, 2) := by decide +kernel
theorem wm_427 : (Jvm.Cond.arrayClass Jvm.ClassFile.FieldType.long) ∈ gT := gT_in (List.mem_of_getElem? (i := 427) (by decide +kernel)) (by decide +kernel)
theorem dX0_init_15 : decode cX0_init 15 = .ok (.putfield 15, 3) := by decide +kernel
theorem wm_404 : (Jvm.Cond.fieldLink "GrownKinds$Census" (15 : Nat) "GrownKinds$Census" "own" "[J") ∈ gT := gT_in (List.mem_of_getElem? (i := 404) (by decide +kernel)) (by decide +kernel)
theorem dX0_init_18 : decode cX0_init 18 = .ok (.aload_n 0, 1) := by decide +kernel
theorem dX0_init_19 : decode cX0_init 19 = .ok (.sipush 1536, 3) := by decide +kernel
theorem dX0_init_22 : decode cX0_init 22 = .ok (.newarray .long, 2) := by decide +kernel
theorem dX0_init_24 : decode cX0_init 24 = .ok (.putfield 19, 3) := by decide +kernel
theorem wm_405 : (Jvm.Cond.fieldLink "GrownKinds$Census" (19 : Nat) "GrownKinds$Census" "tail" "[J") ∈ gT := gT_in (List.mem_of_getElem? (i := 405) (by decide +kernel)) (by decide +kernel)
theorem dX0_init_27 : decode cX0_init 27 = .ok (.aload_n 0, 1) := by decide +kernel
theorem dX0_init_28 : decode cX0_init 28 = .ok (.sipush 384, 3) := by decide +kernel
theorem dX0_init_31 : decode cX0_init 31 = .ok (.newarray .long, 2) := by decide +kernel
theorem dX0_init_33 : decode cX0_init 33 = .ok (.putfield 22, 3) := by decide +kernel
theorem wm_406 : (Jvm.Cond.fieldLink "GrownKinds$Census" (22 : Nat) "GrownKinds$Census" "total" "[J") ∈ gT := gT_in (List.mem_of_getElem? (i := 406) (by decide +kernel)) (by decide +kernel)
theorem dX0_init_36 : decode cX0_init 36 = .ok (.aload_n 0, 1) := by decide +kernel
theorem dX0_init_37 : decode cX0_init 37 = .ok (.sipush 12288, 3) := by decide +kernel
theorem dX0_init_40 : decode cX0_init 40 = .ok (.newarray .long, 2) := by decide +kernel
theorem dX0_init_42 : decode cX0_init 42 = .ok (.putfield 25, 3) := by decide +kernel
theorem wm_407 : (Jvm.Cond.fieldLink "GrownKinds$Census" (25 : Nat) "GrownKinds$Census" "rows" "[J") ∈ gT := gT_in (List.mem_of_getElem? (i := 407) (by decide +kernel)) (by decide +kernel)
theorem dX0_init_45 : decode cX0_init 45 = .ok (.aload_n 0, 1) := by decide +kernel
theorem dX0_init_46 : decode cX0_init 46 = .ok (.bipush 8, 2) := by decide +kernel
theorem dX0_init_48 : decode cX0_init 48 = .ok (.newarray .long, 2) := by decide +kernel
theorem dX0_init_50 : decode cX0_init 50 = .ok (.putfield 28, 3) := by decide +kernel
theorem wm_408 : (Jvm.Cond.fieldLink "GrownKinds$Census" (28 : Nat) "GrownKinds$Census" "ways" "[J") ∈ gT := gT_in (List.mem_of_getElem? (i := 408) (by decide +kernel)) (by decide +kernel)
theorem dX0_init_53 : decode cX0_init 53 = .ok (.aload_n 0, 1) := by decide +kernel
theorem dX0_init_54 : decode cX0_init 54 = .ok (.aload_n 1, 1) := by decide +kernel
theorem dX0_init_55 : decode cX0_init 55 = .ok (.putfield 31, 3) := by decide +kernel
theorem wm_402 : (Jvm.Cond.fieldLink "GrownKinds$Census" (31 : Nat) "GrownKinds$Census" "grammar" "LGrownKinds$Grammar;") ∈ gT := gT_in (List.mem_of_getElem? (i := 402) (by decide +kernel)) (by decide +kernel)
theorem dX0_init_58 : decode cX0_init 58 = .ok (.aload_n 0, 1) := by decide +kernel
theorem dX0_init_59 : decode cX0_init 59 = .ok (.iload_n 2, 1) := by decide +kernel
theorem dX0_init_60 : decode cX0_init 60 = .ok (.ifCond .eq 9, 3) := by decide +kernel
theorem dX0_init_63 : decode cX0_init 63 = .ok (.sipush 12288, 3) := by decide +kernel
theorem dX0_init_66 : decode cX0_init 66 = .ok (.goto 4, 3) := by decide +kernel
theorem dX0_init_70 : decode cX0_init 70 = .ok (.newarray .long, 2) := by decide +kernel
theorem dX0_init_72 : decode cX0_init 72 = .ok (.putfield 35, 3) := by decide +kernel
theorem wm_409 : (Jvm.Cond.fieldLink "GrownKinds$Census" (35 : Nat) "GrownKinds$Census" "stages" "[J") ∈ gT := gT_in (List.mem_of_getElem? (i := 409) (by decide +kernel)) (by decide +kernel)
theorem dX0_init_75 : decode cX0_init 75 = .ok (.return_, 1) := by decide +kernel
theorem dX11_init_85 : decode cX11_init 85 = .ok (.putfield 51, 3) := by decide +kernel
theorem wm_673 : (Jvm.Cond.fieldLink "GrownKinds" (51 : Nat) "GrownKinds" "census" "LGrownKinds$Census;") ∈ gT := gT_in (List.mem_of_getElem? (i := 673) (by decide +kernel)) (by decide +kernel)
theorem dX11_init_88 : decode cX11_init 88 = .ok (.aload_n 0, 1) := by decide +kernel
theorem dX11_init_89 : decode cX11_init 89 = .ok (.new 55, 3) := by decide +kernel
theorem wm_428 : (Jvm.Cond.classLink "GrownKinds" (55 : Nat) "GrownKinds$Ledger") ∈ gT := gT_in (List.mem_of_getElem? (i := 428) (by decide +kernel)) (by decide +kernel)
theorem wm_429 : (Jvm.Cond.instantiable "GrownKinds$Ledger" (8 : Nat)) ∈ gT := gT_in (List.mem_of_getElem? (i := 429) (by decide +kernel)) (by decide +kernel)
theorem wm_181 : (Jvm.Cond.initialized "GrownKinds$Ledger") ∈ gT := gT_in (List.mem_of_getElem? (i := 181) (by decide +kernel)) (by decide +kernel)
theorem dX11_init_92 : decode cX11_init 92 = .ok (.dup, 1) := by decide +kernel
theorem dX11_init_93 : decode cX11_init 93 = .ok (.aload_n 0, 1) := by decide +kernel
theorem dX11_init_94 : decode cX11_init 94 = .ok (.getfield 20, 3) := by decide +kernel
theorem dX11_init_97 : decode cX11_init 97 = .ok (.new 46, 3) := by decide +kernel
theorem dX11_init_100 : decode cX11_init 100 = .ok (.dup, 1) := by decide +kernel
theorem dX11_init_101 : decode cX11_init 101 = .ok (.aload_n 0, 1) := by decide +kernel
theorem dX11_init_102 : decode cX11_init 102 = .ok (.getfield 20, 3) := by decide +kernel
theorem dX11_init_105 : decode cX11_init 105 = .ok (.iconst 0, 1) := by decide +kernel
theorem dX11_init_106 : decode cX11_init 106 = .ok (.invokespecial 48, 3) := by decide +kernel
theorem dX0_init_69 : decode cX0_init 69 = .ok (.iconst 0, 1) := by decide +kernel
theorem dX11_init_109 : decode cX11_init 109 = .ok (.invokespecial 57, 3) := by decide +kernel
theorem wm_430 : (Jvm.Cond.methodLink "GrownKinds" (57 : Nat) ({ cls := "GrownKinds$Ledger", name := "<init>", desc := "(LGrownKinds$Grammar;LGrownKinds$Census;)V" } : Jvm.MethodName)) ∈ gT := gT_in (List.mem_of_getElem? (i := 430) (by decide +kernel)) (by decide +kernel)
theorem wm_431 : (Jvm.Cond.instanceMethod ({ cls := "GrownKinds$Ledger", name := "<init>", desc := "(LGrownKinds$Grammar;LGrownKinds$Census;)V" } : Jvm.MethodName)) ∈ gT := gT_in (List.mem_of_getElem? (i := 431) (by decide +kernel)) (by decide +kernel)
theorem wm_432 : (Jvm.Cond.code ({ cls := "GrownKinds$Ledger", name := "<init>", desc := "(LGrownKinds$Grammar;LGrownKinds$Census;)V" } : Jvm.MethodName) prog_6_method_1_code (3 : Nat) (Option.none : Option Jvm.ClassFile.FieldType)) ∈ gT := gT_in (List.mem_of_getElem? (i := 432) (by decide +kernel)) (by decide +kernel)
theorem dX4_init_0 : decode cX4_init 0 = .ok (.aload_n 0, 1) := by decide +kernel
theorem dX4_init_1 : decode cX4_init 1 = .ok (.invokespecial 3, 3) := by decide +kernel
theorem wm_433 : (Jvm.Cond.methodLink "GrownKinds$Ledger" (3 : Nat) ({ cls := "java/lang/Object", name := "<init>", desc := "()V" } : Jvm.MethodName)) ∈ gT := gT_in (List.mem_of_getElem? (i := 433) (by decide +kernel)) (by decide +kernel)
theorem dX4_init_4 : decode cX4_init 4 = .ok (.aload_n 0, 1) := by decide +kernel
theorem dX4_init_5 : decode cX4_init 5 = .ok (.iconst 0, 1) := by decide +kernel
theorem dX4_init_6 : decode cX4_init 6 = .ok (.putfield 9, 3) := by decide +kernel
theorem wm_436 : (Jvm.Cond.fieldLink "GrownKinds$Ledger" (9 : Nat) "GrownKinds$Ledger" "hasLabelled" "Z") ∈ gT := gT_in (List.mem_of_getElem? (i := 436) (by decide +kernel)) (by decide +kernel)
theorem dX4_init_9 : decode cX4_init 9 = .ok (.aload_n 0, 1) := by decide +kernel
theorem dX4_init_10 : decode cX4_init 10 = .ok (.bipush 26, 2) := by decide +kernel
theorem dX4_init_12 : decode cX4_init 12 = .ok (.newarray .boolean, 2) := by decide +kernel
theorem wm_459 : (Jvm.Cond.arrayClass Jvm.ClassFile.FieldType.boolean) ∈ gT := gT_in (List.mem_of_getElem? (i := 459) (by decide +kernel)) (by decide +kernel)
theorem dX4_init_14 : decode cX4_init 14 = .ok (.putfield 15, 3) := by decide +kernel
theorem wm_437 : (Jvm.Cond.fieldLink "GrownKinds$Ledger" (15 : Nat) "GrownKinds$Ledger" "hasLetter" "[Z") ∈ gT := gT_in (List.mem_of_getElem? (i := 437) (by decide +kernel)) (by decide +kernel)
theorem dX4_init_17 : decode cX4_init 17 = .ok (.aload_n 0, 1) := by decide +kernel
theorem dX4_init_18 : decode cX4_init 18 = .ok (.bipush 60, 2) := by decide +kernel
theorem dX4_init_20 : decode cX4_init 20 = .ok (.newarray .boolean, 2) := by decide +kernel
theorem dX4_init_22 : decode cX4_init 22 = .ok (.putfield 19, 3) := by decide +kernel
theorem wm_438 : (Jvm.Cond.fieldLink "GrownKinds$Ledger" (19 : Nat) "GrownKinds$Ledger" "hasWithout" "[Z") ∈ gT := gT_in (List.mem_of_getElem? (i := 438) (by decide +kernel)) (by decide +kernel)
theorem dX4_init_25 : decode cX4_init 25 = .ok (.aload_n 0, 1) := by decide +kernel
theorem dX4_init_26 : decode cX4_init 26 = .ok (.bipush 48, 2) := by decide +kernel
theorem dX4_init_28 : decode cX4_init 28 = .ok (.newarray .long, 2) := by decide +kernel
theorem dX4_init_30 : decode cX4_init 30 = .ok (.putfield 22, 3) := by decide +kernel
theorem wm_439 : (Jvm.Cond.fieldLink "GrownKinds$Ledger" (22 : Nat) "GrownKinds$Ledger" "labels" "[J") ∈ gT := gT_in (List.mem_of_getElem? (i := 439) (by decide +kernel)) (by decide +kernel)
theorem dX4_init_33 : decode cX4_init 33 = .ok (.aload_n 0, 1) := by decide +kernel
theorem dX4_init_34 : decode cX4_init 34 = .ok (.sipush 9984, 3) := by decide +kernel
theorem dX4_init_37 : decode cX4_init 37 = .ok (.newarray .long, 2) := by decide +kernel
theorem dX4_init_39 : decode cX4_init 39 = .ok (.putfield 26, 3) := by decide +kernel
theorem wm_440 : (Jvm.Cond.fieldLink "GrownKinds$Ledger" (26 : Nat) "GrownKinds$Ledger" "marks" "[J") ∈ gT := gT_in (List.mem_of_getElem? (i := 440) (by decide +kernel)) (by decide +kernel)
theorem dX4_init_42 : decode cX4_init 42 = .ok (.aload_n 0, 1) := by decide +kernel
theorem dX4_init_43 : decode cX4_init 43 = .ok (.sipush 2880, 3) := by decide +kernel
theorem dX4_init_46 : decode cX4_init 46 = .ok (.newarray .long, 2) := by decide +kernel
theorem dX4_init_48 : decode cX4_init 48 = .ok (.putfield 29, 3) := by decide +kernel
theorem wm_441 : (Jvm.Cond.fieldLink "GrownKinds$Ledger" (29 : Nat) "GrownKinds$Ledger" "rest" "[J") ∈ gT := gT_in (List.mem_of_getElem? (i := 441) (by decide +kernel)) (by decide +kernel)
theorem dX4_init_51 : decode cX4_init 51 = .ok (.aload_n 0, 1) := by decide +kernel
theorem dX4_init_52 : decode cX4_init 52 = .ok (.aload_n 1, 1) := by decide +kernel
theorem dX4_init_53 : decode cX4_init 53 = .ok (.putfield 32, 3) := by decide +kernel
theorem wm_434 : (Jvm.Cond.fieldLink "GrownKinds$Ledger" (32 : Nat) "GrownKinds$Ledger" "grammar" "LGrownKinds$Grammar;") ∈ gT := gT_in (List.mem_of_getElem? (i := 434) (by decide +kernel)) (by decide +kernel)
theorem dX4_init_56 : decode cX4_init 56 = .ok (.aload_n 0, 1) := by decide +kernel
theorem dX4_init_57 : decode cX4_init 57 = .ok (.aload_n 2, 1) := by decide +kernel
theorem dX4_init_58 : decode cX4_init 58 = .ok (.putfield 36, 3) := by decide +kernel
theorem wm_435 : (Jvm.Cond.fieldLink "GrownKinds$Ledger" (36 : Nat) "GrownKinds$Ledger" "census" "LGrownKinds$Census;") ∈ gT := gT_in (List.mem_of_getElem? (i := 435) (by decide +kernel)) (by decide +kernel)
theorem dX4_init_61 : decode cX4_init 61 = .ok (.return_, 1) := by decide +kernel
theorem dX11_init_112 : decode cX11_init 112 = .ok (.putfield 60, 3) := by decide +kernel
theorem wm_674 : (Jvm.Cond.fieldLink "GrownKinds" (60 : Nat) "GrownKinds" "ledger" "LGrownKinds$Ledger;") ∈ gT := gT_in (List.mem_of_getElem? (i := 674) (by decide +kernel)) (by decide +kernel)
theorem dX11_init_115 : decode cX11_init 115 = .ok (.aload_n 0, 1) := by decide +kernel
theorem dX11_init_116 : decode cX11_init 116 = .ok (.new 64, 3) := by decide +kernel
theorem wm_460 : (Jvm.Cond.classLink "GrownKinds" (64 : Nat) "GrownKinds$Speller") ∈ gT := gT_in (List.mem_of_getElem? (i := 460) (by decide +kernel)) (by decide +kernel)
theorem wm_461 : (Jvm.Cond.instantiable "GrownKinds$Speller" (15 : Nat)) ∈ gT := gT_in (List.mem_of_getElem? (i := 461) (by decide +kernel)) (by decide +kernel)
theorem wm_182 : (Jvm.Cond.initialized "GrownKinds$Speller") ∈ gT := gT_in (List.mem_of_getElem? (i := 182) (by decide +kernel)) (by decide +kernel)
theorem dX11_init_119 : decode cX11_init 119 = .ok (.dup, 1) := by decide +kernel
theorem dX11_init_120 : decode cX11_init 120 = .ok (.aload_n 0, 1) := by decide +kernel
theorem dX11_init_121 : decode cX11_init 121 = .ok (.getfield 20, 3) := by decide +kernel
theorem dX11_init_124 : decode cX11_init 124 = .ok (.aload_n 0, 1) := by decide +kernel
theorem dX11_init_125 : decode cX11_init 125 = .ok (.getfield 51, 3) := by decide +kernel
theorem dX11_init_128 : decode cX11_init 128 = .ok (.new 66, 3) := by decide +kernel
theorem wm_462 : (Jvm.Cond.classLink "GrownKinds" (66 : Nat) "GrownKinds$Sequences") ∈ gT := gT_in (List.mem_of_getElem? (i := 462) (by decide +kernel)) (by decide +kernel)
theorem wm_463 : (Jvm.Cond.instantiable "GrownKinds$Sequences" (6 : Nat)) ∈ gT := gT_in (List.mem_of_getElem? (i := 463) (by decide +kernel)) (by decide +kernel)
theorem wm_183 : (Jvm.Cond.initialized "GrownKinds$Sequences") ∈ gT := gT_in (List.mem_of_getElem? (i := 183) (by decide +kernel)) (by decide +kernel)
theorem dX11_init_131 : decode cX11_init 131 = .ok (.dup, 1) := by decide +kernel
theorem dX11_init_132 : decode cX11_init 132 = .ok (.aload_n 0, 1) := by decide +kernel
theorem dX11_init_133 : decode cX11_init 133 = .ok (.getfield 20, 3) := by decide +kernel
theorem dX11_init_136 : decode cX11_init 136 = .ok (.aload_n 0, 1) := by decide +kernel
theorem dX11_init_137 : decode cX11_init 137 = .ok (.getfield 51, 3) := by decide +kernel
theorem dX11_init_140 : decode cX11_init 140 = .ok (.invokespecial 68, 3) := by decide +kernel
theorem wm_464 : (Jvm.Cond.methodLink "GrownKinds" (68 : Nat) ({ cls := "GrownKinds$Sequences", name := "<init>", desc := "(LGrownKinds$Grammar;LGrownKinds$Census;)V" } : Jvm.MethodName)) ∈ gT := gT_in (List.mem_of_getElem? (i := 464) (by decide +kernel)) (by decide +kernel)
theorem wm_465 : (Jvm.Cond.instanceMethod ({ cls := "GrownKinds$Sequences", name := "<init>", desc := "(LGrownKinds$Grammar;LGrownKinds$Census;)V" } : Jvm.MethodName)) ∈ gT := gT_in (List.mem_of_getElem? (i := 465) (by decide +kernel)) (by decide +kernel)
theorem wm_466 : (Jvm.Cond.code ({ cls := "GrownKinds$Sequences", name := "<init>", desc := "(LGrownKinds$Grammar;LGrownKinds$Census;)V" } : Jvm.MethodName) prog_10_method_1_code (3 : Nat) (Option.none : Option Jvm.ClassFile.FieldType)) ∈ gT := gT_in (List.mem_of_getElem? (i := 466) (by decide +kernel)) (by decide +kernel)
theorem dX8_init_0 : decode cX8_init 0 = .ok (.aload_n 0, 1) := by decide +kernel
theorem dX8_init_1 : decode cX8_init 1 = .ok (.invokespecial 3, 3) := by decide +kernel
theorem wm_467 : (Jvm.Cond.methodLink "GrownKinds$Sequences" (3 : Nat) ({ cls := "java/lang/Object", name := "<init>", desc := "()V" } : Jvm.MethodName)) ∈ gT := gT_in (List.mem_of_getElem? (i := 467) (by decide +kernel)) (by decide +kernel)
theorem dX8_init_4 : decode cX8_init 4 = .ok (.aload_n 0, 1) := by decide +kernel
theorem dX8_init_5 : decode cX8_init 5 = .ok (.iconst 0, 1) := by decide +kernel
theorem dX8_init_6 : decode cX8_init 6 = .ok (.putfield 9, 3) := by decide +kernel
theorem wm_472 : (Jvm.Cond.fieldLink "GrownKinds$Sequences" (9 : Nat) "GrownKinds$Sequences" "many" "I") ∈ gT := gT_in (List.mem_of_getElem? (i := 472) (by decide +kernel)) (by decide +kernel)
theorem dX8_init_9 : decode cX8_init 9 = .ok (.aload_n 0, 1) := by decide +kernel
theorem dX8_init_10 : decode cX8_init 10 = .ok (.bipush 8, 2) := by decide +kernel
theorem dX8_init_12 : decode cX8_init 12 = .ok (.newarray .int, 2) := by decide +kernel
theorem dX8_init_14 : decode cX8_init 14 = .ok (.putfield 15, 3) := by decide +kernel
theorem wm_474 : (Jvm.Cond.fieldLink "GrownKinds$Sequences" (15 : Nat) "GrownKinds$Sequences" "codes" "[I") ∈ gT := gT_in (List.mem_of_getElem? (i := 474) (by decide +kernel)) (by decide +kernel)
theorem dX8_init_17 : decode cX8_init 17 = .ok (.aload_n 0, 1) := by decide +kernel
theorem dX8_init_18 : decode cX8_init 18 = .ok (.sipush 192, 3) := by decide +kernel
theorem dX8_init_21 : decode cX8_init 21 = .ok (.anewarray 19, 3) := by decide +kernel
theorem wm_468 : (Jvm.Cond.classLink "GrownKinds$Sequences" (19 : Nat) "GrownKinds$RingList") ∈ gT := gT_in (List.mem_of_getElem? (i := 468) (by decide +kernel)) (by decide +kernel)
theorem dX8_init_24 : decode cX8_init 24 = .ok (.putfield 21, 3) := by decide +kernel
theorem wm_476 : (Jvm.Cond.fieldLink "GrownKinds$Sequences" (21 : Nat) "GrownKinds$Sequences" "rings" "[LGrownKinds$RingList;") ∈ gT := gT_in (List.mem_of_getElem? (i := 476) (by decide +kernel)) (by decide +kernel)
theorem dX8_init_27 : decode cX8_init 27 = .ok (.aload_n 0, 1) := by decide +kernel
theorem dX8_init_28 : decode cX8_init 28 = .ok (.iconst 0, 1) := by decide +kernel
theorem dX8_init_29 : decode cX8_init 29 = .ok (.putfield 25, 3) := by decide +kernel
theorem wm_477 : (Jvm.Cond.fieldLink "GrownKinds$Sequences" (25 : Nat) "GrownKinds$Sequences" "inside" "I") ∈ gT := gT_in (List.mem_of_getElem? (i := 477) (by decide +kernel)) (by decide +kernel)
theorem dX8_init_32 : decode cX8_init 32 = .ok (.aload_n 0, 1) := by decide +kernel
theorem dX8_init_33 : decode cX8_init 33 = .ok (.aload_n 1, 1) := by decide +kernel
theorem dX8_init_34 : decode cX8_init 34 = .ok (.putfield 28, 3) := by decide +kernel
theorem wm_470 : (Jvm.Cond.fieldLink "GrownKinds$Sequences" (28 : Nat) "GrownKinds$Sequences" "grammar" "LGrownKinds$Grammar;") ∈ gT := gT_in (List.mem_of_getElem? (i := 470) (by decide +kernel)) (by decide +kernel)
theorem dX8_init_37 : decode cX8_init 37 = .ok (.aload_n 0, 1) := by decide +kernel
theorem dX8_init_38 : decode cX8_init 38 = .ok (.aload_n 2, 1) := by decide +kernel
theorem dX8_init_39 : decode cX8_init 39 = .ok (.putfield 32, 3) := by decide +kernel
theorem wm_471 : (Jvm.Cond.fieldLink "GrownKinds$Sequences" (32 : Nat) "GrownKinds$Sequences" "census" "LGrownKinds$Census;") ∈ gT := gT_in (List.mem_of_getElem? (i := 471) (by decide +kernel)) (by decide +kernel)
theorem dX8_init_42 : decode cX8_init 42 = .ok (.return_, 1) := by decide +kernel
theorem dX11_init_143 : decode cX11_init 143 = .ok (.invokespecial 69, 3) := by decide +kernel
theorem wm_491 : (Jvm.Cond.methodLink "GrownKinds" (69 : Nat) ({ cls := "GrownKinds$Speller", name := "<init>", desc := "(LGrownKinds$Grammar;LGrownKinds$Census;LGrownKinds$Sequences;)V" } : Jvm.MethodName)) ∈ gT := gT_in (List.mem_of_getElem? (i := 491) (by decide +kernel)) (by decide +kernel)
theorem wm_492 : (Jvm.Cond.instanceMethod ({ cls := "GrownKinds$Speller", name := "<init>", desc := "(LGrownKinds$Grammar;LGrownKinds$Census;LGrownKinds$Sequences;)V" } : Jvm.MethodName)) ∈ gT := gT_in (List.mem_of_getElem? (i := 492) (by decide +kernel)) (by decide +kernel)
theorem wm_493 : (Jvm.Cond.code ({ cls := "GrownKinds$Speller", name := "<init>", desc := "(LGrownKinds$Grammar;LGrownKinds$Census;LGrownKinds$Sequences;)V" } : Jvm.MethodName) prog_11_method_1_code (4 : Nat) (Option.none : Option Jvm.ClassFile.FieldType)) ∈ gT := gT_in (List.mem_of_getElem? (i := 493) (by decide +kernel)) (by decide +kernel)
theorem dX9_init_0 : decode cX9_init 0 = .ok (.aload_n 0, 1) := by decide +kernel
theorem dX9_init_1 : decode cX9_init 1 = .ok (.invokespecial 3, 3) := by decide +kernel
theorem wm_494 : (Jvm.Cond.methodLink "GrownKinds$Speller" (3 : Nat) ({ cls := "java/lang/Object", name := "<init>", desc := "()V" } : Jvm.MethodName)) ∈ gT := gT_in (List.mem_of_getElem? (i := 494) (by decide +kernel)) (by decide +kernel)
theorem dX9_init_4 : decode cX9_init 4 = .ok (.aload_n 0, 1) := by decide +kernel
theorem dX9_init_5 : decode cX9_init 5 = .ok (.sipush 256, 3) := by decide +kernel
theorem dX9_init_8 : decode cX9_init 8 = .ok (.newarray .byte, 2) := by decide +kernel
theorem dX9_init_10 : decode cX9_init 10 = .ok (.putfield 9, 3) := by decide +kernel
theorem wm_498 : (Jvm.Cond.fieldLink "GrownKinds$Speller" (9 : Nat) "GrownKinds$Speller" "text" "[B") ∈ gT := gT_in (List.mem_of_getElem? (i := 498) (by decide +kernel)) (by decide +kernel)
theorem dX9_init_13 : decode cX9_init 13 = .ok (.aload_n 0, 1) := by decide +kernel
theorem dX9_init_14 : decode cX9_init 14 = .ok (.iconst 0, 1) := by decide +kernel
theorem dX9_init_15 : decode cX9_init 15 = .ok (.putfield 15, 3) := by decide +kernel
theorem wm_500 : (Jvm.Cond.fieldLink "GrownKinds$Speller" (15 : Nat) "GrownKinds$Speller" "signs" "I") ∈ gT := gT_in (List.mem_of_getElem? (i := 500) (by decide +kernel)) (by decide +kernel)
theorem dX9_init_18 : decode cX9_init 18 = .ok (.aload_n 0, 1) := by decide +kernel
theorem dX9_init_19 : decode cX9_init 19 = .ok (.iconst 0, 1) := by decide +kernel
theorem dX9_init_20 : decode cX9_init 20 = .ok (.putfield 19, 3) := by decide +kernel
theorem wm_502 : (Jvm.Cond.fieldLink "GrownKinds$Speller" (19 : Nat) "GrownKinds$Speller" "depth" "I") ∈ gT := gT_in (List.mem_of_getElem? (i := 502) (by decide +kernel)) (by decide +kernel)
theorem dX9_init_23 : decode cX9_init 23 = .ok (.aload_n 0, 1) := by decide +kernel
theorem dX9_init_24 : decode cX9_init 24 = .ok (.iconst 1, 1) := by decide +kernel
theorem dX9_init_25 : decode cX9_init 25 = .ok (.putfield 22, 3) := by decide +kernel
theorem wm_505 : (Jvm.Cond.fieldLink "GrownKinds$Speller" (22 : Nat) "GrownKinds$Speller" "turns" "I") ∈ gT := gT_in (List.mem_of_getElem? (i := 505) (by decide +kernel)) (by decide +kernel)
theorem dX9_init_28 : decode cX9_init 28 = .ok (.aload_n 0, 1) := by decide +kernel
theorem dX9_init_29 : decode cX9_init 29 = .ok (.iconst 0, 1) := by decide +kernel
theorem dX9_init_30 : decode cX9_init 30 = .ok (.putfield 25, 3) := by decide +kernel
theorem wm_508 : (Jvm.Cond.fieldLink "GrownKinds$Speller" (25 : Nat) "GrownKinds$Speller" "topTerm" "I") ∈ gT := gT_in (List.mem_of_getElem? (i := 508) (by decide +kernel)) (by decide +kernel)
theorem dX9_init_33 : decode cX9_init 33 = .ok (.aload_n 0, 1) := by decide +kernel
theorem dX9_init_34 : decode cX9_init 34 = .ok (.iconst 0, 1) := by decide +kernel
theorem dX9_init_35 : decode cX9_init 35 = .ok (.putfield 28, 3) := by decide +kernel
theorem wm_510 : (Jvm.Cond.fieldLink "GrownKinds$Speller" (28 : Nat) "GrownKinds$Speller" "weight" "I") ∈ gT := gT_in (List.mem_of_getElem? (i := 510) (by decide +kernel)) (by decide +kernel)
theorem dX9_init_38 : decode cX9_init 38 = .ok (.aload_n 0, 1) := by decide +kernel
theorem dX9_init_39 : decode cX9_init 39 = .ok (.bipush 26, 2) := by decide +kernel
theorem dX9_init_41 : decode cX9_init 41 = .ok (.newarray .int, 2) := by decide +kernel
theorem dX9_init_43 : decode cX9_init 43 = .ok (.putfield 31, 3) := by decide +kernel
theorem wm_512 : (Jvm.Cond.fieldLink "GrownKinds$Speller" (31 : Nat) "GrownKinds$Speller" "atomCounts" "[I") ∈ gT := gT_in (List.mem_of_getElem? (i := 512) (by decide +kernel)) (by decide +kernel)
theorem dX9_init_46 : decode cX9_init 46 = .ok (.aload_n 0, 1) := by decide +kernel
theorem dX9_init_47 : decode cX9_init 47 = .ok (.iconst 0, 1) := by decide +kernel
theorem dX9_init_48 : decode cX9_init 48 = .ok (.putfield 35, 3) := by decide +kernel
theorem wm_515 : (Jvm.Cond.fieldLink "GrownKinds$Speller" (35 : Nat) "GrownKinds$Speller" "open" "I") ∈ gT := gT_in (List.mem_of_getElem? (i := 515) (by decide +kernel)) (by decide +kernel)
theorem dX9_init_51 : decode cX9_init 51 = .ok (.aload_n 0, 1) := by decide +kernel
theorem dX9_init_52 : decode cX9_init 52 = .ok (.sipush 1100, 3) := by decide +kernel
theorem dX9_init_55 : decode cX9_init 55 = .ok (.newarray .int, 2) := by decide +kernel
theorem dX9_init_57 : decode cX9_init 57 = .ok (.putfield 38, 3) := by decide +kernel
theorem wm_516 : (Jvm.Cond.fieldLink "GrownKinds$Speller" (38 : Nat) "GrownKinds$Speller" "waiting" "[I") ∈ gT := gT_in (List.mem_of_getElem? (i := 516) (by decide +kernel)) (by decide +kernel)
theorem dX9_init_60 : decode cX9_init 60 = .ok (.aload_n 0, 1) := by decide +kernel
theorem dX9_init_61 : decode cX9_init 61 = .ok (.iconst 0, 1) := by decide +kernel
theorem dX9_init_62 : decode cX9_init 62 = .ok (.putfield 41, 3) := by decide +kernel
theorem wm_517 : (Jvm.Cond.fieldLink "GrownKinds$Speller" (41 : Nat) "GrownKinds$Speller" "top" "I") ∈ gT := gT_in (List.mem_of_getElem? (i := 517) (by decide +kernel)) (by decide +kernel)
theorem dX9_init_65 : decode cX9_init 65 = .ok (.aload_n 0, 1) := by decide +kernel
theorem dX9_init_66 : decode cX9_init 66 = .ok (.iconst (-1), 1) := by decide +kernel
theorem dX9_init_67 : decode cX9_init 67 = .ok (.putfield 44, 3) := by decide +kernel
theorem wm_518 : (Jvm.Cond.fieldLink "GrownKinds$Speller" (44 : Nat) "GrownKinds$Speller" "nowStamp" "I") ∈ gT := gT_in (List.mem_of_getElem? (i := 518) (by decide +kernel)) (by decide +kernel)
theorem dX9_init_70 : decode cX9_init 70 = .ok (.aload_n 0, 1) := by decide +kernel
theorem dX9_init_71 : decode cX9_init 71 = .ok (.iconst (-1), 1) := by decide +kernel
theorem dX9_init_72 : decode cX9_init 72 = .ok (.putfield 47, 3) := by decide +kernel
theorem wm_519 : (Jvm.Cond.fieldLink "GrownKinds$Speller" (47 : Nat) "GrownKinds$Speller" "nowThing" "I") ∈ gT := gT_in (List.mem_of_getElem? (i := 519) (by decide +kernel)) (by decide +kernel)
theorem dX9_init_75 : decode cX9_init 75 = .ok (.aload_n 0, 1) := by decide +kernel
theorem dX9_init_76 : decode cX9_init 76 = .ok (.aload_n 1, 1) := by decide +kernel
theorem dX9_init_77 : decode cX9_init 77 = .ok (.putfield 50, 3) := by decide +kernel
theorem wm_495 : (Jvm.Cond.fieldLink "GrownKinds$Speller" (50 : Nat) "GrownKinds$Speller" "grammar" "LGrownKinds$Grammar;") ∈ gT := gT_in (List.mem_of_getElem? (i := 495) (by decide +kernel)) (by decide +kernel)
theorem dX9_init_80 : decode cX9_init 80 = .ok (.aload_n 0, 1) := by decide +kernel
theorem dX9_init_81 : decode cX9_init 81 = .ok (.aload_n 2, 1) := by decide +kernel
theorem dX9_init_82 : decode cX9_init 82 = .ok (.putfield 54, 3) := by decide +kernel
theorem wm_496 : (Jvm.Cond.fieldLink "GrownKinds$Speller" (54 : Nat) "GrownKinds$Speller" "census" "LGrownKinds$Census;") ∈ gT := gT_in (List.mem_of_getElem? (i := 496) (by decide +kernel)) (by decide +kernel)
theorem dX9_init_85 : decode cX9_init 85 = .ok (.aload_n 0, 1) := by decide +kernel
theorem dX9_init_86 : decode cX9_init 86 = .ok (.aload_n 3, 1) := by decide +kernel
theorem dX9_init_87 : decode cX9_init 87 = .ok (.putfield 58, 3) := by decide +kernel
theorem wm_497 : (Jvm.Cond.fieldLink "GrownKinds$Speller" (58 : Nat) "GrownKinds$Speller" "sequences" "LGrownKinds$Sequences;") ∈ gT := gT_in (List.mem_of_getElem? (i := 497) (by decide +kernel)) (by decide +kernel)
theorem dX9_init_90 : decode cX9_init 90 = .ok (.return_, 1) := by decide +kernel
theorem dX11_init_146 : decode cX11_init 146 = .ok (.putfield 72, 3) := by decide +kernel
theorem wm_675 : (Jvm.Cond.fieldLink "GrownKinds" (72 : Nat) "GrownKinds" "speller" "LGrownKinds$Speller;") ∈ gT := gT_in (List.mem_of_getElem? (i := 675) (by decide +kernel)) (by decide +kernel)
theorem dX11_init_149 : decode cX11_init 149 = .ok (.aload_n 0, 1) := by decide +kernel
theorem dX11_init_150 : decode cX11_init 150 = .ok (.new 76, 3) := by decide +kernel
theorem wm_551 : (Jvm.Cond.classLink "GrownKinds" (76 : Nat) "GrownKinds$ThingReader") ∈ gT := gT_in (List.mem_of_getElem? (i := 551) (by decide +kernel)) (by decide +kernel)
theorem wm_552 : (Jvm.Cond.instantiable "GrownKinds$ThingReader" (13 : Nat)) ∈ gT := gT_in (List.mem_of_getElem? (i := 552) (by decide +kernel)) (by decide +kernel)
theorem wm_184 : (Jvm.Cond.initialized "GrownKinds$ThingReader") ∈ gT := gT_in (List.mem_of_getElem? (i := 184) (by decide +kernel)) (by decide +kernel)
theorem dX11_init_153 : decode cX11_init 153 = .ok (.dup, 1) := by decide +kernel
theorem dX11_init_154 : decode cX11_init 154 = .ok (.aload_n 0, 1) := by decide +kernel
theorem dX11_init_155 : decode cX11_init 155 = .ok (.getfield 20, 3) := by decide +kernel
theorem dX11_init_158 : decode cX11_init 158 = .ok (.invokespecial 78, 3) := by decide +kernel
theorem wm_553 : (Jvm.Cond.methodLink "GrownKinds" (78 : Nat) ({ cls := "GrownKinds$ThingReader", name := "<init>", desc := "(LGrownKinds$Grammar;)V" } : Jvm.MethodName)) ∈ gT := gT_in (List.mem_of_getElem? (i := 553) (by decide +kernel)) (by decide +kernel)
theorem wm_554 : (Jvm.Cond.instanceMethod ({ cls := "GrownKinds$ThingReader", name := "<init>", desc := "(LGrownKinds$Grammar;)V" } : Jvm.MethodName)) ∈ gT := gT_in (List.mem_of_getElem? (i := 554) (by decide +kernel)) (by decide +kernel)
theorem wm_555 : (Jvm.Cond.code ({ cls := "GrownKinds$ThingReader", name := "<init>", desc := "(LGrownKinds$Grammar;)V" } : Jvm.MethodName) prog_12_method_1_code (2 : Nat) (Option.none : Option Jvm.ClassFile.FieldType)) ∈ gT := gT_in (List.mem_of_getElem? (i := 555) (by decide +kernel)) (by decide +kernel)
theorem dX10_init_0 : decode cX10_init 0 = .ok (.aload_n 0, 1) := by decide +kernel
theorem dX10_init_1 : decode cX10_init 1 = .ok (.invokespecial 3, 3) := by decide +kernel
theorem wm_556 : (Jvm.Cond.methodLink "GrownKinds$ThingReader" (3 : Nat) ({ cls := "java/lang/Object", name := "<init>", desc := "()V" } : Jvm.MethodName)) ∈ gT := gT_in (List.mem_of_getElem? (i := 556) (by decide +kernel)) (by decide +kernel)
theorem dX10_init_4 : decode cX10_init 4 = .ok (.aload_n 0, 1) := by decide +kernel
theorem dX10_init_5 : decode cX10_init 5 = .ok (.bipush 40, 2) := by decide +kernel
theorem dX10_init_7 : decode cX10_init 7 = .ok (.newarray .byte, 2) := by decide +kernel
theorem dX10_init_9 : decode cX10_init 9 = .ok (.putfield 9, 3) := by decide +kernel
theorem wm_558 : (Jvm.Cond.fieldLink "GrownKinds$ThingReader" (9 : Nat) "GrownKinds$ThingReader" "text" "[B") ∈ gT := gT_in (List.mem_of_getElem? (i := 558) (by decide +kernel)) (by decide +kernel)
theorem dX10_init_12 : decode cX10_init 12 = .ok (.aload_n 0, 1) := by decide +kernel
theorem dX10_init_13 : decode cX10_init 13 = .ok (.bipush 40, 2) := by decide +kernel
theorem dX10_init_15 : decode cX10_init 15 = .ok (.newarray .byte, 2) := by decide +kernel
theorem dX10_init_17 : decode cX10_init 17 = .ok (.putfield 15, 3) := by decide +kernel
theorem wm_560 : (Jvm.Cond.fieldLink "GrownKinds$ThingReader" (15 : Nat) "GrownKinds$ThingReader" "moved" "[B") ∈ gT := gT_in (List.mem_of_getElem? (i := 560) (by decide +kernel)) (by decide +kernel)
theorem dX10_init_20 : decode cX10_init 20 = .ok (.aload_n 0, 1) := by decide +kernel
theorem dX10_init_21 : decode cX10_init 21 = .ok (.iconst 0, 1) := by decide +kernel
theorem dX10_init_22 : decode cX10_init 22 = .ok (.putfield 18, 3) := by decide +kernel
theorem wm_561 : (Jvm.Cond.fieldLink "GrownKinds$ThingReader" (18 : Nat) "GrownKinds$ThingReader" "length" "I") ∈ gT := gT_in (List.mem_of_getElem? (i := 561) (by decide +kernel)) (by decide +kernel)
theorem dX10_init_25 : decode cX10_init 25 = .ok (.aload_n 0, 1) := by decide +kernel
theorem dX10_init_26 : decode cX10_init 26 = .ok (.iconst 0, 1) := by decide +kernel
theorem dX10_init_27 : decode cX10_init 27 = .ok (.putfield 22, 3) := by decide +kernel
theorem wm_562 : (Jvm.Cond.fieldLink "GrownKinds$ThingReader" (22 : Nat) "GrownKinds$ThingReader" "at" "I") ∈ gT := gT_in (List.mem_of_getElem? (i := 562) (by decide +kernel)) (by decide +kernel)
theorem dX10_init_30 : decode cX10_init 30 = .ok (.aload_n 0, 1) := by decide +kernel
theorem dX10_init_31 : decode cX10_init 31 = .ok (.iconst 0, 1) := by decide +kernel
theorem dX10_init_32 : decode cX10_init 32 = .ok (.putfield 25, 3) := by decide +kernel
theorem wm_563 : (Jvm.Cond.fieldLink "GrownKinds$ThingReader" (25 : Nat) "GrownKinds$ThingReader" "size" "I") ∈ gT := gT_in (List.mem_of_getElem? (i := 563) (by decide +kernel)) (by decide +kernel)
theorem dX10_init_35 : decode cX10_init 35 = .ok (.aload_n 0, 1) := by decide +kernel
theorem dX10_init_36 : decode cX10_init 36 = .ok (.iconst 1, 1) := by decide +kernel
theorem dX10_init_37 : decode cX10_init 37 = .ok (.putfield 28, 3) := by decide +kernel
theorem wm_564 : (Jvm.Cond.fieldLink "GrownKinds$ThingReader" (28 : Nat) "GrownKinds$ThingReader" "fine" "Z") ∈ gT := gT_in (List.mem_of_getElem? (i := 564) (by decide +kernel)) (by decide +kernel)
theorem dX10_init_40 : decode cX10_init 40 = .ok (.aload_n 0, 1) := by decide +kernel
theorem dX10_init_41 : decode cX10_init 41 = .ok (.bipush 40, 2) := by decide +kernel
theorem dX10_init_43 : decode cX10_init 43 = .ok (.newarray .int, 2) := by decide +kernel
theorem dX10_init_45 : decode cX10_init 45 = .ok (.putfield 32, 3) := by decide +kernel
theorem wm_565 : (Jvm.Cond.fieldLink "GrownKinds$ThingReader" (32 : Nat) "GrownKinds$ThingReader" "waiting" "[I") ∈ gT := gT_in (List.mem_of_getElem? (i := 565) (by decide +kernel)) (by decide +kernel)
theorem dX10_init_48 : decode cX10_init 48 = .ok (.aload_n 0, 1) := by decide +kernel
theorem dX10_init_49 : decode cX10_init 49 = .ok (.iconst 0, 1) := by decide +kernel
theorem dX10_init_50 : decode cX10_init 50 = .ok (.putfield 36, 3) := by decide +kernel
theorem wm_566 : (Jvm.Cond.fieldLink "GrownKinds$ThingReader" (36 : Nat) "GrownKinds$ThingReader" "top" "I") ∈ gT := gT_in (List.mem_of_getElem? (i := 566) (by decide +kernel)) (by decide +kernel)
theorem dX10_init_53 : decode cX10_init 53 = .ok (.aload_n 0, 1) := by decide +kernel
theorem dX10_init_54 : decode cX10_init 54 = .ok (.bipush 41, 2) := by decide +kernel
theorem dX10_init_56 : decode cX10_init 56 = .ok (.newarray .int, 2) := by decide +kernel
theorem dX10_init_58 : decode cX10_init 58 = .ok (.putfield 39, 3) := by decide +kernel
theorem wm_567 : (Jvm.Cond.fieldLink "GrownKinds$ThingReader" (39 : Nat) "GrownKinds$ThingReader" "starts" "[I") ∈ gT := gT_in (List.mem_of_getElem? (i := 567) (by decide +kernel)) (by decide +kernel)
theorem dX10_init_61 : decode cX10_init 61 = .ok (.aload_n 0, 1) := by decide +kernel
theorem dX10_init_62 : decode cX10_init 62 = .ok (.iconst 0, 1) := by decide +kernel
theorem dX10_init_63 : decode cX10_init 63 = .ok (.putfield 42, 3) := by decide +kernel
theorem wm_568 : (Jvm.Cond.fieldLink "GrownKinds$ThingReader" (42 : Nat) "GrownKinds$ThingReader" "startCount" "I") ∈ gT := gT_in (List.mem_of_getElem? (i := 568) (by decide +kernel)) (by decide +kernel)
theorem dX10_init_66 : decode cX10_init 66 = .ok (.aload_n 0, 1) := by decide +kernel
theorem dX10_init_67 : decode cX10_init 67 = .ok (.bipush 40, 2) := by decide +kernel
theorem dX10_init_69 : decode cX10_init 69 = .ok (.newarray .int, 2) := by decide +kernel
theorem dX10_init_71 : decode cX10_init 71 = .ok (.putfield 45, 3) := by decide +kernel
theorem wm_569 : (Jvm.Cond.fieldLink "GrownKinds$ThingReader" (45 : Nat) "GrownKinds$ThingReader" "opened" "[I") ∈ gT := gT_in (List.mem_of_getElem? (i := 569) (by decide +kernel)) (by decide +kernel)
theorem dX10_init_74 : decode cX10_init 74 = .ok (.aload_n 0, 1) := by decide +kernel
theorem dX10_init_75 : decode cX10_init 75 = .ok (.iconst 0, 1) := by decide +kernel
theorem dX10_init_76 : decode cX10_init 76 = .ok (.putfield 48, 3) := by decide +kernel
theorem wm_570 : (Jvm.Cond.fieldLink "GrownKinds$ThingReader" (48 : Nat) "GrownKinds$ThingReader" "openCount" "I") ∈ gT := gT_in (List.mem_of_getElem? (i := 570) (by decide +kernel)) (by decide +kernel)
theorem dX10_init_79 : decode cX10_init 79 = .ok (.aload_n 0, 1) := by decide +kernel
theorem dX10_init_80 : decode cX10_init 80 = .ok (.aload_n 1, 1) := by decide +kernel
theorem dX10_init_81 : decode cX10_init 81 = .ok (.putfield 51, 3) := by decide +kernel
theorem wm_557 : (Jvm.Cond.fieldLink "GrownKinds$ThingReader" (51 : Nat) "GrownKinds$ThingReader" "grammar" "LGrownKinds$Grammar;") ∈ gT := gT_in (List.mem_of_getElem? (i := 557) (by decide +kernel)) (by decide +kernel)
theorem dX10_init_84 : decode cX10_init 84 = .ok (.return_, 1) := by decide +kernel
theorem dX11_init_161 : decode cX11_init 161 = .ok (.putfield 79, 3) := by decide +kernel
theorem wm_676 : (Jvm.Cond.fieldLink "GrownKinds" (79 : Nat) "GrownKinds" "thingReader" "LGrownKinds$ThingReader;") ∈ gT := gT_in (List.mem_of_getElem? (i := 676) (by decide +kernel)) (by decide +kernel)
theorem dX11_init_164 : decode cX11_init 164 = .ok (.aload_n 0, 1) := by decide +kernel
theorem dX11_init_165 : decode cX11_init 165 = .ok (.new 83, 3) := by decide +kernel
theorem wm_598 : (Jvm.Cond.classLink "GrownKinds" (83 : Nat) "GrownKinds$Roll") ∈ gT := gT_in (List.mem_of_getElem? (i := 598) (by decide +kernel)) (by decide +kernel)
theorem wm_599 : (Jvm.Cond.instantiable "GrownKinds$Roll" (9 : Nat)) ∈ gT := gT_in (List.mem_of_getElem? (i := 599) (by decide +kernel)) (by decide +kernel)
theorem wm_185 : (Jvm.Cond.initialized "GrownKinds$Roll") ∈ gT := gT_in (List.mem_of_getElem? (i := 185) (by decide +kernel)) (by decide +kernel)
theorem dX11_init_168 : decode cX11_init 168 = .ok (.dup, 1) := by decide +kernel
theorem dX11_init_169 : decode cX11_init 169 = .ok (.aload_n 0, 1) := by decide +kernel
theorem dX11_init_170 : decode cX11_init 170 = .ok (.getfield 72, 3) := by decide +kernel
theorem dX11_init_173 : decode cX11_init 173 = .ok (.invokespecial 85, 3) := by decide +kernel
theorem wm_600 : (Jvm.Cond.methodLink "GrownKinds" (85 : Nat) ({ cls := "GrownKinds$Roll", name := "<init>", desc := "(LGrownKinds$Speller;)V" } : Jvm.MethodName)) ∈ gT := gT_in (List.mem_of_getElem? (i := 600) (by decide +kernel)) (by decide +kernel)
theorem wm_601 : (Jvm.Cond.instanceMethod ({ cls := "GrownKinds$Roll", name := "<init>", desc := "(LGrownKinds$Speller;)V" } : Jvm.MethodName)) ∈ gT := gT_in (List.mem_of_getElem? (i := 601) (by decide +kernel)) (by decide +kernel)
theorem wm_602 : (Jvm.Cond.code ({ cls := "GrownKinds$Roll", name := "<init>", desc := "(LGrownKinds$Speller;)V" } : Jvm.MethodName) prog_9_method_1_code (2 : Nat) (Option.none : Option Jvm.ClassFile.FieldType)) ∈ gT := gT_in (List.mem_of_getElem? (i := 602) (by decide +kernel)) (by decide +kernel)
theorem dX7_init_0 : decode cX7_init 0 = .ok (.aload_n 0, 1) := by decide +kernel
theorem dX7_init_1 : decode cX7_init 1 = .ok (.invokespecial 3, 3) := by decide +kernel
theorem wm_603 : (Jvm.Cond.methodLink "GrownKinds$Roll" (3 : Nat) ({ cls := "java/lang/Object", name := "<init>", desc := "()V" } : Jvm.MethodName)) ∈ gT := gT_in (List.mem_of_getElem? (i := 603) (by decide +kernel)) (by decide +kernel)
theorem dX7_init_4 : decode cX7_init 4 = .ok (.aload_n 0, 1) := by decide +kernel
theorem dX7_init_5 : decode cX7_init 5 = .ok (.bipush 48, 2) := by decide +kernel
theorem dX7_init_7 : decode cX7_init 7 = .ok (.newarray .boolean, 2) := by decide +kernel
theorem dX7_init_9 : decode cX7_init 9 = .ok (.putfield 9, 3) := by decide +kernel
theorem wm_605 : (Jvm.Cond.fieldLink "GrownKinds$Roll" (9 : Nat) "GrownKinds$Roll" "called" "[Z") ∈ gT := gT_in (List.mem_of_getElem? (i := 605) (by decide +kernel)) (by decide +kernel)
theorem dX7_init_12 : decode cX7_init 12 = .ok (.aload_n 0, 1) := by decide +kernel
theorem dX7_init_13 : decode cX7_init 13 = .ok (.bipush 48, 2) := by decide +kernel
theorem dX7_init_15 : decode cX7_init 15 = .ok (.newarray .int, 2) := by decide +kernel
theorem dX7_init_17 : decode cX7_init 17 = .ok (.putfield 15, 3) := by decide +kernel
theorem wm_607 : (Jvm.Cond.fieldLink "GrownKinds$Roll" (15 : Nat) "GrownKinds$Roll" "deepestRank" "[I") ∈ gT := gT_in (List.mem_of_getElem? (i := 607) (by decide +kernel)) (by decide +kernel)
theorem dX7_init_20 : decode cX7_init 20 = .ok (.aload_n 0, 1) := by decide +kernel
theorem dX7_init_21 : decode cX7_init 21 = .ok (.bipush 48, 2) := by decide +kernel
theorem dX7_init_23 : decode cX7_init 23 = .ok (.newarray .int, 2) := by decide +kernel
theorem dX7_init_25 : decode cX7_init 25 = .ok (.putfield 19, 3) := by decide +kernel
theorem wm_609 : (Jvm.Cond.fieldLink "GrownKinds$Roll" (19 : Nat) "GrownKinds$Roll" "stiffestRank" "[I") ∈ gT := gT_in (List.mem_of_getElem? (i := 609) (by decide +kernel)) (by decide +kernel)
theorem dX7_init_28 : decode cX7_init 28 = .ok (.aload_n 0, 1) := by decide +kernel
theorem dX7_init_29 : decode cX7_init 29 = .ok (.sipush 1248, 3) := by decide +kernel
theorem dX7_init_32 : decode cX7_init 32 = .ok (.newarray .int, 2) := by decide +kernel
theorem dX7_init_34 : decode cX7_init 34 = .ok (.putfield 22, 3) := by decide +kernel
theorem wm_611 : (Jvm.Cond.fieldLink "GrownKinds$Roll" (22 : Nat) "GrownKinds$Roll" "fullestRank" "[I") ∈ gT := gT_in (List.mem_of_getElem? (i := 611) (by decide +kernel)) (by decide +kernel)
theorem dX7_init_37 : decode cX7_init 37 = .ok (.aload_n 0, 1) := by decide +kernel
theorem dX7_init_38 : decode cX7_init 38 = .ok (.sipush 1248, 3) := by decide +kernel
theorem dX7_init_41 : decode cX7_init 41 = .ok (.newarray .int, 2) := by decide +kernel
theorem dX7_init_43 : decode cX7_init 43 = .ok (.putfield 25, 3) := by decide +kernel
theorem wm_613 : (Jvm.Cond.fieldLink "GrownKinds$Roll" (25 : Nat) "GrownKinds$Roll" "atomSums" "[I") ∈ gT := gT_in (List.mem_of_getElem? (i := 613) (by decide +kernel)) (by decide +kernel)
theorem dX7_init_46 : decode cX7_init 46 = .ok (.aload_n 0, 1) := by decide +kernel
theorem dX7_init_47 : decode cX7_init 47 = .ok (.iconst (-1), 1) := by decide +kernel
theorem dX7_init_48 : decode cX7_init 48 = .ok (.putfield 28, 3) := by decide +kernel
theorem wm_615 : (Jvm.Cond.fieldLink "GrownKinds$Roll" (28 : Nat) "GrownKinds$Roll" "mostDeep" "I") ∈ gT := gT_in (List.mem_of_getElem? (i := 615) (by decide +kernel)) (by decide +kernel)
theorem dX7_init_51 : decode cX7_init 51 = .ok (.aload_n 0, 1) := by decide +kernel
theorem dX7_init_52 : decode cX7_init 52 = .ok (.iconst (-1), 1) := by decide +kernel
theorem dX7_init_53 : decode cX7_init 53 = .ok (.putfield 32, 3) := by decide +kernel
theorem wm_616 : (Jvm.Cond.fieldLink "GrownKinds$Roll" (32 : Nat) "GrownKinds$Roll" "mostStiff" "I") ∈ gT := gT_in (List.mem_of_getElem? (i := 616) (by decide +kernel)) (by decide +kernel)
theorem dX7_init_56 : decode cX7_init 56 = .ok (.aload_n 0, 1) := by decide +kernel
theorem dX7_init_57 : decode cX7_init 57 = .ok (.bipush 26, 2) := by decide +kernel
theorem dX7_init_59 : decode cX7_init 59 = .ok (.newarray .int, 2) := by decide +kernel
theorem dX7_init_61 : decode cX7_init 61 = .ok (.putfield 35, 3) := by decide +kernel
theorem wm_617 : (Jvm.Cond.fieldLink "GrownKinds$Roll" (35 : Nat) "GrownKinds$Roll" "mostAtoms" "[I") ∈ gT := gT_in (List.mem_of_getElem? (i := 617) (by decide +kernel)) (by decide +kernel)
theorem dX7_init_64 : decode cX7_init 64 = .ok (.aload_n 0, 1) := by decide +kernel
theorem dX7_init_65 : decode cX7_init 65 = .ok (.aload_n 1, 1) := by decide +kernel
theorem dX7_init_66 : decode cX7_init 66 = .ok (.putfield 38, 3) := by decide +kernel
theorem wm_604 : (Jvm.Cond.fieldLink "GrownKinds$Roll" (38 : Nat) "GrownKinds$Roll" "speller" "LGrownKinds$Speller;") ∈ gT := gT_in (List.mem_of_getElem? (i := 604) (by decide +kernel)) (by decide +kernel)
theorem dX7_init_69 : decode cX7_init 69 = .ok (.return_, 1) := by decide +kernel
theorem dX11_init_176 : decode cX11_init 176 = .ok (.putfield 88, 3) := by decide +kernel
theorem wm_677 : (Jvm.Cond.fieldLink "GrownKinds" (88 : Nat) "GrownKinds" "roll" "LGrownKinds$Roll;") ∈ gT := gT_in (List.mem_of_getElem? (i := 677) (by decide +kernel)) (by decide +kernel)
theorem dX11_init_179 : decode cX11_init 179 = .ok (.aload_n 0, 1) := by decide +kernel
theorem dX11_init_180 : decode cX11_init 180 = .ok (.new 92, 3) := by decide +kernel
theorem wm_637 : (Jvm.Cond.classLink "GrownKinds" (92 : Nat) "GrownKinds$Dealer") ∈ gT := gT_in (List.mem_of_getElem? (i := 637) (by decide +kernel)) (by decide +kernel)
theorem wm_638 : (Jvm.Cond.instantiable "GrownKinds$Dealer" (7 : Nat)) ∈ gT := gT_in (List.mem_of_getElem? (i := 638) (by decide +kernel)) (by decide +kernel)
theorem wm_186 : (Jvm.Cond.initialized "GrownKinds$Dealer") ∈ gT := gT_in (List.mem_of_getElem? (i := 186) (by decide +kernel)) (by decide +kernel)
theorem dX11_init_183 : decode cX11_init 183 = .ok (.dup, 1) := by decide +kernel
theorem dX11_init_184 : decode cX11_init 184 = .ok (.aload_n 0, 1) := by decide +kernel
theorem dX11_init_185 : decode cX11_init 185 = .ok (.getfield 51, 3) := by decide +kernel
theorem dX11_init_188 : decode cX11_init 188 = .ok (.invokespecial 94, 3) := by decide +kernel
theorem wm_639 : (Jvm.Cond.methodLink "GrownKinds" (94 : Nat) ({ cls := "GrownKinds$Dealer", name := "<init>", desc := "(LGrownKinds$Census;)V" } : Jvm.MethodName)) ∈ gT := gT_in (List.mem_of_getElem? (i := 639) (by decide +kernel)) (by decide +kernel)
theorem wm_640 : (Jvm.Cond.instanceMethod ({ cls := "GrownKinds$Dealer", name := "<init>", desc := "(LGrownKinds$Census;)V" } : Jvm.MethodName)) ∈ gT := gT_in (List.mem_of_getElem? (i := 640) (by decide +kernel)) (by decide +kernel)
theorem wm_641 : (Jvm.Cond.code ({ cls := "GrownKinds$Dealer", name := "<init>", desc := "(LGrownKinds$Census;)V" } : Jvm.MethodName) prog_3_method_1_code (2 : Nat) (Option.none : Option Jvm.ClassFile.FieldType)) ∈ gT := gT_in (List.mem_of_getElem? (i := 641) (by decide +kernel)) (by decide +kernel)
theorem dX1_init_0 : decode cX1_init 0 = .ok (.aload_n 0, 1) := by decide +kernel
theorem dX1_init_1 : decode cX1_init 1 = .ok (.invokespecial 3, 3) := by decide +kernel
theorem wm_642 : (Jvm.Cond.methodLink "GrownKinds$Dealer" (3 : Nat) ({ cls := "java/lang/Object", name := "<init>", desc := "()V" } : Jvm.MethodName)) ∈ gT := gT_in (List.mem_of_getElem? (i := 642) (by decide +kernel)) (by decide +kernel)
theorem dX1_init_4 : decode cX1_init 4 = .ok (.aload_n 0, 1) := by decide +kernel
theorem dX1_init_5 : decode cX1_init 5 = .ok (.iconst 0, 1) := by decide +kernel
theorem dX1_init_6 : decode cX1_init 6 = .ok (.putfield 9, 3) := by decide +kernel
theorem wm_644 : (Jvm.Cond.fieldLink "GrownKinds$Dealer" (9 : Nat) "GrownKinds$Dealer" "leftOver" "I") ∈ gT := gT_in (List.mem_of_getElem? (i := 644) (by decide +kernel)) (by decide +kernel)
theorem dX1_init_9 : decode cX1_init 9 = .ok (.aload_n 0, 1) := by decide +kernel
theorem dX1_init_10 : decode cX1_init 10 = .ok (.iconst 0, 1) := by decide +kernel
theorem dX1_init_11 : decode cX1_init 11 = .ok (.putfield 15, 3) := by decide +kernel
theorem wm_646 : (Jvm.Cond.fieldLink "GrownKinds$Dealer" (15 : Nat) "GrownKinds$Dealer" "kind" "I") ∈ gT := gT_in (List.mem_of_getElem? (i := 646) (by decide +kernel)) (by decide +kernel)
theorem dX1_init_14 : decode cX1_init 14 = .ok (.aload_n 0, 1) := by decide +kernel
theorem dX1_init_15 : decode cX1_init 15 = .ok (.iconst 0, 1) := by decide +kernel
theorem dX1_init_16 : decode cX1_init 16 = .ok (.putfield 18, 3) := by decide +kernel
theorem wm_647 : (Jvm.Cond.fieldLink "GrownKinds$Dealer" (18 : Nat) "GrownKinds$Dealer" "low" "I") ∈ gT := gT_in (List.mem_of_getElem? (i := 647) (by decide +kernel)) (by decide +kernel)
theorem dX1_init_19 : decode cX1_init 19 = .ok (.aload_n 0, 1) := by decide +kernel
theorem dX1_init_20 : decode cX1_init 20 = .ok (.iconst 0, 1) := by decide +kernel
theorem dX1_init_21 : decode cX1_init 21 = .ok (.putfield 21, 3) := by decide +kernel
theorem wm_648 : (Jvm.Cond.fieldLink "GrownKinds$Dealer" (21 : Nat) "GrownKinds$Dealer" "many" "I") ∈ gT := gT_in (List.mem_of_getElem? (i := 648) (by decide +kernel)) (by decide +kernel)
theorem dX1_init_24 : decode cX1_init 24 = .ok (.aload_n 0, 1) := by decide +kernel
theorem dX1_init_25 : decode cX1_init 25 = .ok (.iconst 0, 1) := by decide +kernel
theorem dX1_init_26 : decode cX1_init 26 = .ok (.putfield 24, 3) := by decide +kernel
theorem wm_649 : (Jvm.Cond.fieldLink "GrownKinds$Dealer" (24 : Nat) "GrownKinds$Dealer" "mask" "I") ∈ gT := gT_in (List.mem_of_getElem? (i := 649) (by decide +kernel)) (by decide +kernel)
theorem dX1_init_29 : decode cX1_init 29 = .ok (.aload_n 0, 1) := by decide +kernel
theorem dX1_init_30 : decode cX1_init 30 = .ok (.iconst 0, 1) := by decide +kernel
theorem dX1_init_31 : decode cX1_init 31 = .ok (.putfield 27, 3) := by decide +kernel
theorem wm_650 : (Jvm.Cond.fieldLink "GrownKinds$Dealer" (27 : Nat) "GrownKinds$Dealer" "place" "I") ∈ gT := gT_in (List.mem_of_getElem? (i := 650) (by decide +kernel)) (by decide +kernel)
theorem dX1_init_34 : decode cX1_init 34 = .ok (.aload_n 0, 1) := by decide +kernel
theorem dX1_init_35 : decode cX1_init 35 = .ok (.aload_n 1, 1) := by decide +kernel
theorem dX1_init_36 : decode cX1_init 36 = .ok (.putfield 30, 3) := by decide +kernel
theorem wm_643 : (Jvm.Cond.fieldLink "GrownKinds$Dealer" (30 : Nat) "GrownKinds$Dealer" "census" "LGrownKinds$Census;") ∈ gT := gT_in (List.mem_of_getElem? (i := 643) (by decide +kernel)) (by decide +kernel)
theorem dX1_init_39 : decode cX1_init 39 = .ok (.return_, 1) := by decide +kernel
theorem dX11_init_191 : decode cX11_init 191 = .ok (.putfield 97, 3) := by decide +kernel
theorem wm_678 : (Jvm.Cond.fieldLink "GrownKinds" (97 : Nat) "GrownKinds" "dealer" "LGrownKinds$Dealer;") ∈ gT := gT_in (List.mem_of_getElem? (i := 678) (by decide +kernel)) (by decide +kernel)
theorem dX11_init_194 : decode cX11_init 194 = .ok (.aload_n 0, 1) := by decide +kernel
theorem dX11_init_195 : decode cX11_init 195 = .ok (.bipush 40, 2) := by decide +kernel
theorem dX11_init_197 : decode cX11_init 197 = .ok (.newarray .byte, 2) := by decide +kernel
theorem dX11_init_199 : decode cX11_init 199 = .ok (.putfield 101, 3) := by decide +kernel
theorem wm_679 : (Jvm.Cond.fieldLink "GrownKinds" (101 : Nat) "GrownKinds" "wanted" "[B") ∈ gT := gT_in (List.mem_of_getElem? (i := 679) (by decide +kernel)) (by decide +kernel)
theorem dX11_init_202 : decode cX11_init 202 = .ok (.aload_n 0, 1) := by decide +kernel
theorem dX11_init_203 : decode cX11_init 203 = .ok (.bipush 10, 2) := by decide +kernel
theorem dX11_init_205 : decode cX11_init 205 = .ok (.newarray .int, 2) := by decide +kernel
theorem dX11_init_207 : decode cX11_init 207 = .ok (.putfield 104, 3) := by decide +kernel
theorem wm_680 : (Jvm.Cond.fieldLink "GrownKinds" (104 : Nat) "GrownKinds" "acts" "[I") ∈ gT := gT_in (List.mem_of_getElem? (i := 680) (by decide +kernel)) (by decide +kernel)
theorem dX11_init_210 : decode cX11_init 210 = .ok (.aload_n 0, 1) := by decide +kernel
theorem dX11_init_211 : decode cX11_init 211 = .ok (.iconst 0, 1) := by decide +kernel
theorem dX11_init_212 : decode cX11_init 212 = .ok (.putfield 108, 3) := by decide +kernel
theorem wm_681 : (Jvm.Cond.fieldLink "GrownKinds" (108 : Nat) "GrownKinds" "actCount" "I") ∈ gT := gT_in (List.mem_of_getElem? (i := 681) (by decide +kernel)) (by decide +kernel)
theorem dX11_init_215 : decode cX11_init 215 = .ok (.aload_n 0, 1) := by decide +kernel
theorem dX11_init_216 : decode cX11_init 216 = .ok (.iconst 0, 1) := by decide +kernel
theorem dX11_init_217 : decode cX11_init 217 = .ok (.putfield 111, 3) := by decide +kernel
theorem wm_682 : (Jvm.Cond.fieldLink "GrownKinds" (111 : Nat) "GrownKinds" "stamp" "I") ∈ gT := gT_in (List.mem_of_getElem? (i := 682) (by decide +kernel)) (by decide +kernel)
theorem dX11_init_220 : decode cX11_init 220 = .ok (.aload_n 0, 1) := by decide +kernel
theorem dX11_init_221 : decode cX11_init 221 = .ok (.iconst (-1), 1) := by decide +kernel
theorem dX11_init_222 : decode cX11_init 222 = .ok (.putfield 114, 3) := by decide +kernel
theorem wm_683 : (Jvm.Cond.fieldLink "GrownKinds" (114 : Nat) "GrownKinds" "toldSize" "I") ∈ gT := gT_in (List.mem_of_getElem? (i := 683) (by decide +kernel)) (by decide +kernel)
theorem dX11_init_225 : decode cX11_init 225 = .ok (.aload_n 0, 1) := by decide +kernel
theorem dX11_init_226 : decode cX11_init 226 = .ok (.iconst (-1), 1) := by decide +kernel
theorem dX11_init_227 : decode cX11_init 227 = .ok (.putfield 117, 3) := by decide +kernel
theorem wm_684 : (Jvm.Cond.fieldLink "GrownKinds" (117 : Nat) "GrownKinds" "toldRank" "I") ∈ gT := gT_in (List.mem_of_getElem? (i := 684) (by decide +kernel)) (by decide +kernel)
theorem dX11_init_230 : decode cX11_init 230 = .ok (.return_, 1) := by decide +kernel
set_option maxHeartbeats 4000000 in
set_option maxRecDepth 100000 in
theorem kX2_init_2 (l : Launch) {D : va_G} {cy : Nat → ClassId} {b : Nat} {E : Nat → va_E} (h2 : E 2 = .inr (2, [.int 0, .int 0, .int 0, .int 0, .int 0, .null, .null, .null, .null, .null, .null, .null, .null, .null])) : gV l yX2_init cX2_init 1 1 9 534 D cy b 3 E [.ref (b + 2)] (fun u => u.1 = 12 ∧ (∀ j, j < 3 → j ≠ 2 → u.2 j = E j) ∧ u.2 2 = .inr (2, [.int 0, .int 0, .int 0, .int 0, .int 0, .ref (b + 3), .ref (b + 4), .ref (b + 5), .ref (b + 6), .ref (b + 7), .ref (b + 8), .ref (b + 9), .ref (b + 10), .ref (b + 11)]) ∧ u.2 3 = .inl (cy 1, 24, .inl (fun _ => 0)) ∧ u.2 4 = .inl (cy 1, 24, .inl (fun _ => 0)) ∧ u.2 5 = .inl (cy 1, 24, .inl (fun _ => 0)) ∧ u.2 6 = .inl (cy 1, 24, .inl (fun _ => 0)) ∧ u.2 7 = .inl (cy 1, 24, .inl (fun _ => 0)) ∧ u.2 8 = .inl (cy 1, 30, .inl (fun _ => 0)) ∧ u.2 9 = .inl (cy 1, 300, .inl (fun _ => 0)) ∧ u.2 10 = .inl (cy 1, 30, .inl (fun _ => 0)) ∧ u.2 11 = .inl (cy 1, 54, .inl (fun _ => 0))) := by
  refine gV_of (by decide) (Nat.le_of_ble_eq_true rfl) ?_
  intro p e s m args below meth c S hr hlk hin hsz ls hl hG
  have hx := S.1
  have hb := S.2.1
  have hl : lv_has ls 1 [(0, .ref (b + 2))] := hl
  refine lv_aload_n hx hb dX2_init_0 rfl (lv_at hl 0 rfl) ?_
  refine g_objInit S wm_210 wm_203 wm_204 hl.1 dX2_init_1 ⟨Nat.le_of_ble_eq_true rfl, Nat.le_of_ble_eq_true rfl⟩ ?_
  refine lv_aload_n hx hb dX2_init_4 rfl (lv_at hl 0 rfl) ?_
  refine lv_iconst (v := 0) hx hb dX2_init_5 (by decide) ?_
  refine g_put (fs' := [.int 0, .int 0, .int 0, .int 0, .int 0, .null, .null, .null, .null, .null, .null, .null, .null, .null]) S hG 2 0 h2 cpX2 wm_211 dX2_init_6 rfl (by omega) (by decide) (Nat.le_of_ble_eq_true rfl) rfl rfl rfl (fun H locs hG => ?_)
  refine lv_aload_n hx hb dX2_init_9 rfl (lv_at hl 0 rfl) ?_
  refine lv_iconst (v := 0) hx hb dX2_init_10 (by decide) ?_
  refine g_put (fs' := [.int 0, .int 0, .int 0, .int 0, .int 0, .null, .null, .null, .null, .null, .null, .null, .null, .null]) S hG 2 1 rfl cpX2 wm_217 dX2_init_11 rfl (by omega) (by decide) (Nat.le_of_ble_eq_true rfl) rfl rfl rfl (fun H locs hG => ?_)
  refine lv_aload_n hx hb dX2_init_14 rfl (lv_at hl 0 rfl) ?_
  refine lv_iconst (v := 0) hx hb dX2_init_15 (by decide) ?_
  refine g_put (fs' := [.int 0, .int 0, .int 0, .int 0, .int 0, .null, .null, .null, .null, .null, .null, .null, .null, .null]) S hG 2 2 rfl cpX2 wm_222 dX2_init_16 rfl (by omega) (by decide) (Nat.le_of_ble_eq_true rfl) rfl rfl rfl (fun H locs hG => ?_)
  refine lv_aload_n hx hb dX2_init_19 rfl (lv_at hl 0 rfl) ?_
  refine lv_iconst (v := 0) hx hb dX2_init_20 (by decide) ?_
  refine g_put (fs' := [.int 0, .int 0, .int 0, .int 0, .int 0, .null, .null, .null, .null, .null, .null, .null, .null, .null]) S hG 2 3 rfl cpX2 wm_225 dX2_init_21 rfl (by omega) (by decide) (Nat.le_of_ble_eq_true rfl) rfl rfl rfl (fun H locs hG => ?_)
  refine lv_aload_n hx hb dX2_init_24 rfl (lv_at hl 0 rfl) ?_
  refine lv_iconst (v := 0) hx hb dX2_init_25 (by decide) ?_
  refine g_put (fs' := [.int 0, .int 0, .int 0, .int 0, .int 0, .null, .null, .null, .null, .null, .null, .null, .null, .null]) S hG 2 4 rfl cpX2 wm_230 dX2_init_26 rfl (by omega) (by decide) (Nat.le_of_ble_eq_true rfl) rfl rfl rfl (fun H locs hG => ?_)
  refine lv_aload_n hx hb dX2_init_29 rfl (lv_at hl 0 rfl) ?_
  refine lv_bipush (v := 24) hx hb dX2_init_30 (by decide) ?_
  refine g_newa (atype := .int) (ty := .int) (N := 24) (a0 := (24, .inl (fun _ => 0))) S hG (by omega) 1 rfl rfl (fun h => h) wm_305 (fun _ => rfl) dX2_init_32 (by decide) (by decide) (by decide) ⟨Nat.le_of_ble_eq_true rfl, Nat.le_of_ble_eq_true rfl⟩ (fun H hG => ?_)
  refine W.widen (k := 1) (n := 24) (Nat.le_of_ble_eq_true rfl) (Nat.le_of_ble_eq_true rfl) ?_
  refine g_putF (fs' := [.int 0, .int 0, .int 0, .int 0, .int 0, .ref (b + 3), .null, .null, .null, .null, .null, .null, .null, .null]) S hG (hin rfl) 2 5 rfl cpX2 wm_233 dX2_init_34 rfl (by omega) (by decide) (Nat.le_of_ble_eq_true rfl) rfl rfl rfl rfl (fun H locs hG => ?_)
  refine lv_aload_n hx hb dX2_init_37 rfl (lv_at hl 0 rfl) ?_
  refine lv_bipush (v := 24) hx hb dX2_init_38 (by decide) ?_
  refine g_newa (atype := .int) (ty := .int) (N := 24) (a0 := (24, .inl (fun _ => 0))) S hG (by omega) 1 rfl rfl (fun h => h) wm_305 (fun _ => rfl) dX2_init_40 (by decide) (by decide) (by decide) ⟨Nat.le_of_ble_eq_true rfl, Nat.le_of_ble_eq_true rfl⟩ (fun H hG => ?_)
  refine W.widen (k := 2) (n := 48) (Nat.le_of_ble_eq_true rfl) (Nat.le_of_ble_eq_true rfl) ?_
  refine g_putF (fs' := [.int 0, .int 0, .int 0, .int 0, .int 0, .ref (b + 3), .ref (b + 4), .null, .null, .null, .null, .null, .null, .null]) S hG (hin rfl) 2 6 rfl cpX2 wm_239 dX2_init_42 rfl (by omega) (by decide) (Nat.le_of_ble_eq_true rfl) rfl rfl rfl rfl (fun H locs hG => ?_)
  refine lv_aload_n hx hb dX2_init_45 rfl (lv_at hl 0 rfl) ?_
  refine lv_bipush (v := 24) hx hb dX2_init_46 (by decide) ?_
  refine g_newa (atype := .int) (ty := .int) (N := 24) (a0 := (24, .inl (fun _ => 0))) S hG (by omega) 1 rfl rfl (fun h => h) wm_305 (fun _ => rfl) dX2_init_48 (by decide) (by decide) (by decide) ⟨Nat.le_of_ble_eq_true rfl, Nat.le_of_ble_eq_true rfl⟩ (fun H hG => ?_)
  refine W.widen (k := 3) (n := 72) (Nat.le_of_ble_eq_true rfl) (Nat.le_of_ble_eq_true rfl) ?_
  refine g_putF (fs' := [.int 0, .int 0, .int 0, .int 0, .int 0, .ref (b + 3), .ref (b + 4), .ref (b + 5), .null, .null, .null, .null, .null, .null]) S hG (hin rfl) 2 7 rfl cpX2 wm_246 dX2_init_50 rfl (by omega) (by decide) (Nat.le_of_ble_eq_true rfl) rfl rfl rfl rfl (fun H locs hG => ?_)
  refine lv_aload_n hx hb dX2_init_53 rfl (lv_at hl 0 rfl) ?_
  refine lv_bipush (v := 24) hx hb dX2_init_54 (by decide) ?_
  refine g_newa (atype := .int) (ty := .int) (N := 24) (a0 := (24, .inl (fun _ => 0))) S hG (by omega) 1 rfl rfl (fun h => h) wm_305 (fun _ => rfl) dX2_init_56 (by decide) (by decide) (by decide) ⟨Nat.le_of_ble_eq_true rfl, Nat.le_of_ble_eq_true rfl⟩ (fun H hG => ?_)
  refine W.widen (k := 4) (n := 96) (Nat.le_of_ble_eq_true rfl) (Nat.le_of_ble_eq_true rfl) ?_
  refine g_putF (fs' := [.int 0, .int 0, .int 0, .int 0, .int 0, .ref (b + 3), .ref (b + 4), .ref (b + 5), .ref (b + 6), .null, .null, .null, .null, .null]) S hG (hin rfl) 2 8 rfl cpX2 wm_253 dX2_init_58 rfl (by omega) (by decide) (Nat.le_of_ble_eq_true rfl) rfl rfl rfl rfl (fun H locs hG => ?_)
  refine lv_aload_n hx hb dX2_init_61 rfl (lv_at hl 0 rfl) ?_
  refine lv_bipush (v := 24) hx hb dX2_init_62 (by decide) ?_
  refine g_newa (atype := .int) (ty := .int) (N := 24) (a0 := (24, .inl (fun _ => 0))) S hG (by omega) 1 rfl rfl (fun h => h) wm_305 (fun _ => rfl) dX2_init_64 (by decide) (by decide) (by decide) ⟨Nat.le_of_ble_eq_true rfl, Nat.le_of_ble_eq_true rfl⟩ (fun H hG => ?_)
  refine W.widen (k := 5) (n := 120) (Nat.le_of_ble_eq_true rfl) (Nat.le_of_ble_eq_true rfl) ?_
  refine g_putF (fs' := [.int 0, .int 0, .int 0, .int 0, .int 0, .ref (b + 3), .ref (b + 4), .ref (b + 5), .ref (b + 6), .ref (b + 7), .null, .null, .null, .null]) S hG (hin rfl) 2 9 rfl cpX2 wm_259 dX2_init_66 rfl (by omega) (by decide) (Nat.le_of_ble_eq_true rfl) rfl rfl rfl rfl (fun H locs hG => ?_)
  refine lv_aload_n hx hb dX2_init_69 rfl (lv_at hl 0 rfl) ?_
  refine lv_bipush (v := 30) hx hb dX2_init_70 (by decide) ?_
  refine g_newa (atype := .int) (ty := .int) (N := 30) (a0 := (30, .inl (fun _ => 0))) S hG (by omega) 1 rfl rfl (fun h => h) wm_305 (fun _ => rfl) dX2_init_72 (by decide) (by decide) (by decide) ⟨Nat.le_of_ble_eq_true rfl, Nat.le_of_ble_eq_true rfl⟩ (fun H hG => ?_)
  refine W.widen (k := 6) (n := 150) (Nat.le_of_ble_eq_true rfl) (Nat.le_of_ble_eq_true rfl) ?_
  refine g_putF (fs' := [.int 0, .int 0, .int 0, .int 0, .int 0, .ref (b + 3), .ref (b + 4), .ref (b + 5), .ref (b + 6), .ref (b + 7), .ref (b + 8), .null, .null, .null]) S hG (hin rfl) 2 10 rfl cpX2 wm_261 dX2_init_74 rfl (by omega) (by decide) (Nat.le_of_ble_eq_true rfl) rfl rfl rfl rfl (fun H locs hG => ?_)
  refine lv_aload_n hx hb dX2_init_77 rfl (lv_at hl 0 rfl) ?_
  refine lv_sipush (v := 300) hx hb dX2_init_78 (by decide) ?_
  refine g_newa (atype := .int) (ty := .int) (N := 300) (a0 := (300, .inl (fun _ => 0))) S hG (by omega) 1 rfl rfl (fun h => h) wm_305 (fun _ => rfl) dX2_init_81 (by decide) (by decide) (by decide) ⟨Nat.le_of_ble_eq_true rfl, Nat.le_of_ble_eq_true rfl⟩ (fun H hG => ?_)
  refine W.widen (k := 7) (n := 450) (Nat.le_of_ble_eq_true rfl) (Nat.le_of_ble_eq_true rfl) ?_
  refine g_putF (fs' := [.int 0, .int 0, .int 0, .int 0, .int 0, .ref (b + 3), .ref (b + 4), .ref (b + 5), .ref (b + 6), .ref (b + 7), .ref (b + 8), .ref (b + 9), .null, .null]) S hG (hin rfl) 2 11 rfl cpX2 wm_268 dX2_init_83 rfl (by omega) (by decide) (Nat.le_of_ble_eq_true rfl) rfl rfl rfl rfl (fun H locs hG => ?_)
  refine lv_aload_n hx hb dX2_init_86 rfl (lv_at hl 0 rfl) ?_
  refine lv_bipush (v := 30) hx hb dX2_init_87 (by decide) ?_
  refine g_newa (atype := .int) (ty := .int) (N := 30) (a0 := (30, .inl (fun _ => 0))) S hG (by omega) 1 rfl rfl (fun h => h) wm_305 (fun _ => rfl) dX2_init_89 (by decide) (by decide) (by decide) ⟨Nat.le_of_ble_eq_true rfl, Nat.le_of_ble_eq_true rfl⟩ (fun H hG => ?_)
  refine W.widen (k := 8) (n := 480) (Nat.le_of_ble_eq_true rfl) (Nat.le_of_ble_eq_true rfl) ?_
  refine g_putF (fs' := [.int 0, .int 0, .int 0, .int 0, .int 0, .ref (b + 3), .ref (b + 4), .ref (b + 5), .ref (b + 6), .ref (b + 7), .ref (b + 8), .ref (b + 9), .ref (b + 10), .null]) S hG (hin rfl) 2 12 rfl cpX2 wm_270 dX2_init_91 rfl (by omega) (by decide) (Nat.le_of_ble_eq_true rfl) rfl rfl rfl rfl (fun H locs hG => ?_)
  refine lv_aload_n hx hb dX2_init_94 rfl (lv_at hl 0 rfl) ?_
  refine lv_bipush (v := 54) hx hb dX2_init_95 (by decide) ?_
  refine g_newa (atype := .int) (ty := .int) (N := 54) (a0 := (54, .inl (fun _ => 0))) S hG (by omega) 1 rfl rfl (fun h => h) wm_305 (fun _ => rfl) dX2_init_97 (by decide) (by decide) (by decide) ⟨Nat.le_of_ble_eq_true rfl, Nat.le_of_ble_eq_true rfl⟩ (fun H hG => ?_)
  refine W.widen (k := 9) (n := 534) (Nat.le_of_ble_eq_true rfl) (Nat.le_of_ble_eq_true rfl) ?_
  refine g_putF (fs' := [.int 0, .int 0, .int 0, .int 0, .int 0, .ref (b + 3), .ref (b + 4), .ref (b + 5), .ref (b + 6), .ref (b + 7), .ref (b + 8), .ref (b + 9), .ref (b + 10), .ref (b + 11)]) S hG (hin rfl) 2 13 rfl cpX2 wm_272 dX2_init_99 rfl (by omega) (by decide) (Nat.le_of_ble_eq_true rfl) rfl rfl rfl rfl (fun H locs hG => ?_)
  exact g_vret S hr hlk hG (by omega) dX2_init_102 ⟨Nat.le_of_ble_eq_true rfl, Nat.le_of_ble_eq_true rfl⟩ ⟨rfl, fun j h1 h2 => (upE_n (by omega)).trans ((upE_n (by omega)).trans ((upE_n (by omega)).trans ((upE_n (by omega)).trans ((upE_n (by omega)).trans ((upE_n (by omega)).trans ((upE_n (by omega)).trans ((upE_n (by omega)).trans ((upE_n (by omega)).trans ((upE_n (by omega)).trans ((upE_n (by omega)).trans ((upE_n (by omega)).trans ((upE_n (by omega)).trans ((upE_n (by omega)).trans ((upE_n (by omega)).trans ((upE_n (by omega)).trans ((upE_n (by omega)).trans ((upE_n (by omega)).trans ((upE_n (by omega)).trans ((upE_n (by omega)).trans ((upE_n (by omega)).trans ((upE_n (by omega)).trans ((upE_n (by omega)).trans (rfl))))))))))))))))))))))), rfl, rfl, rfl, rfl, rfl, rfl, rfl, rfl, rfl, rfl⟩
set_option maxHeartbeats 4000000 in
set_option maxRecDepth 100000 in
theorem kX2_init_13 (l : Launch) {D : va_G} {cy : Nat → ClassId} {b : Nat} {E : Nat → va_E} (h13 : E 13 = .inr (2, [.int 0, .int 0, .int 0, .int 0, .int 0, .null, .null, .null, .null, .null, .null, .null, .null, .null])) : gV l yX2_init cX2_init 1 1 9 534 D cy b 14 E [.ref (b + 13)] (fun u => u.1 = 23 ∧ (∀ j, j < 14 → j ≠ 13 → u.2 j = E j) ∧ u.2 13 = .inr (2, [.int 0, .int 0, .int 0, .int 0, .int 0, .ref (b + 14), .ref (b + 15), .ref (b + 16), .ref (b + 17), .ref (b + 18), .ref (b + 19), .ref (b + 20), .ref (b + 21), .ref (b + 22)]) ∧ u.2 14 = .inl (cy 1, 24, .inl (fun _ => 0)) ∧ u.2 15 = .inl (cy 1, 24, .inl (fun _ => 0)) ∧ u.2 16 = .inl (cy 1, 24, .inl (fun _ => 0)) ∧ u.2 17 = .inl (cy 1, 24, .inl (fun _ => 0)) ∧ u.2 18 = .inl (cy 1, 24, .inl (fun _ => 0)) ∧ u.2 19 = .inl (cy 1, 30, .inl (fun _ => 0)) ∧ u.2 20 = .inl (cy 1, 300, .inl (fun _ => 0)) ∧ u.2 21 = .inl (cy 1, 30, .inl (fun _ => 0)) ∧ u.2 22 = .inl (cy 1, 54, .inl (fun _ => 0))) := by
  refine gV_of (by decide) (Nat.le_of_ble_eq_true rfl) ?_
  intro p e s m args below meth c S hr hlk hin hsz ls hl hG
  have hx := S.1
  have hb := S.2.1
  have hl : lv_has ls 1 [(0, .ref (b + 13))] := hl
  refine lv_aload_n hx hb dX2_init_0 rfl (lv_at hl 0 rfl) ?_
  refine g_objInit S wm_210 wm_203 wm_204 hl.1 dX2_init_1 ⟨Nat.le_of_ble_eq_true rfl, Nat.le_of_ble_eq_true rfl⟩ ?_
  refine lv_aload_n hx hb dX2_init_4 rfl (lv_at hl 0 rfl) ?_
  refine lv_iconst (v := 0) hx hb dX2_init_5 (by decide) ?_
  refine g_put (fs' := [.int 0, .int 0, .int 0, .int 0, .int 0, .null, .null, .null, .null, .null, .null, .null, .null, .null]) S hG 13 0 h13 cpX2 wm_211 dX2_init_6 rfl (by omega) (by decide) (Nat.le_of_ble_eq_true rfl) rfl rfl rfl (fun H locs hG => ?_)
  refine lv_aload_n hx hb dX2_init_9 rfl (lv_at hl 0 rfl) ?_
  refine lv_iconst (v := 0) hx hb dX2_init_10 (by decide) ?_
  refine g_put (fs' := [.int 0, .int 0, .int 0, .int 0, .int 0, .null, .null, .null, .null, .null, .null, .null, .null, .null]) S hG 13 1 rfl cpX2 wm_217 dX2_init_11 rfl (by omega) (by decide) (Nat.le_of_ble_eq_true rfl) rfl rfl rfl (fun H locs hG => ?_)
  refine lv_aload_n hx hb dX2_init_14 rfl (lv_at hl 0 rfl) ?_
  refine lv_iconst (v := 0) hx hb dX2_init_15 (by decide) ?_
  refine g_put (fs' := [.int 0, .int 0, .int 0, .int 0, .int 0, .null, .null, .null, .null, .null, .null, .null, .null, .null]) S hG 13 2 rfl cpX2 wm_222 dX2_init_16 rfl (by omega) (by decide) (Nat.le_of_ble_eq_true rfl) rfl rfl rfl (fun H locs hG => ?_)
  refine lv_aload_n hx hb dX2_init_19 rfl (lv_at hl 0 rfl) ?_
  refine lv_iconst (v := 0) hx hb dX2_init_20 (by decide) ?_
  refine g_put (fs' := [.int 0, .int 0, .int 0, .int 0, .int 0, .null, .null, .null, .null, .null, .null, .null, .null, .null]) S hG 13 3 rfl cpX2 wm_225 dX2_init_21 rfl (by omega) (by decide) (Nat.le_of_ble_eq_true rfl) rfl rfl rfl (fun H locs hG => ?_)
  refine lv_aload_n hx hb dX2_init_24 rfl (lv_at hl 0 rfl) ?_
  refine lv_iconst (v := 0) hx hb dX2_init_25 (by decide) ?_
  refine g_put (fs' := [.int 0, .int 0, .int 0, .int 0, .int 0, .null, .null, .null, .null, .null, .null, .null, .null, .null]) S hG 13 4 rfl cpX2 wm_230 dX2_init_26 rfl (by omega) (by decide) (Nat.le_of_ble_eq_true rfl) rfl rfl rfl (fun H locs hG => ?_)
  refine lv_aload_n hx hb dX2_init_29 rfl (lv_at hl 0 rfl) ?_
  refine lv_bipush (v := 24) hx hb dX2_init_30 (by decide) ?_
  refine g_newa (atype := .int) (ty := .int) (N := 24) (a0 := (24, .inl (fun _ => 0))) S hG (by omega) 1 rfl rfl (fun h => h) wm_305 (fun _ => rfl) dX2_init_32 (by decide) (by decide) (by decide) ⟨Nat.le_of_ble_eq_true rfl, Nat.le_of_ble_eq_true rfl⟩ (fun H hG => ?_)
  refine W.widen (k := 1) (n := 24) (Nat.le_of_ble_eq_true rfl) (Nat.le_of_ble_eq_true rfl) ?_
  refine g_putF (fs' := [.int 0, .int 0, .int 0, .int 0, .int 0, .ref (b + 14), .null, .null, .null, .null, .null, .null, .null, .null]) S hG (hin rfl) 13 5 rfl cpX2 wm_233 dX2_init_34 rfl (by omega) (by decide) (Nat.le_of_ble_eq_true rfl) rfl rfl rfl rfl (fun H locs hG => ?_)
  refine lv_aload_n hx hb dX2_init_37 rfl (lv_at hl 0 rfl) ?_
  refine lv_bipush (v := 24) hx hb dX2_init_38 (by decide) ?_
  refine g_newa (atype := .int) (ty := .int) (N := 24) (a0 := (24, .inl (fun _ => 0))) S hG (by omega) 1 rfl rfl (fun h => h) wm_305 (fun _ => rfl) dX2_init_40 (by decide) (by decide) (by decide) ⟨Nat.le_of_ble_eq_true rfl, Nat.le_of_ble_eq_true rfl⟩ (fun H hG => ?_)
  refine W.widen (k := 2) (n := 48) (Nat.le_of_ble_eq_true rfl) (Nat.le_of_ble_eq_true rfl) ?_
  refine g_putF (fs' := [.int 0, .int 0, .int 0, .int 0, .int 0, .ref (b + 14), .ref (b + 15), .null, .null, .null, .null, .null, .null, .null]) S hG (hin rfl) 13 6 rfl cpX2 wm_239 dX2_init_42 rfl (by omega) (by decide) (Nat.le_of_ble_eq_true rfl) rfl rfl rfl rfl (fun H locs hG => ?_)
  refine lv_aload_n hx hb dX2_init_45 rfl (lv_at hl 0 rfl) ?_
  refine lv_bipush (v := 24) hx hb dX2_init_46 (by decide) ?_
  refine g_newa (atype := .int) (ty := .int) (N := 24) (a0 := (24, .inl (fun _ => 0))) S hG (by omega) 1 rfl rfl (fun h => h) wm_305 (fun _ => rfl) dX2_init_48 (by decide) (by decide) (by decide) ⟨Nat.le_of_ble_eq_true rfl, Nat.le_of_ble_eq_true rfl⟩ (fun H hG => ?_)
  refine W.widen (k := 3) (n := 72) (Nat.le_of_ble_eq_true rfl) (Nat.le_of_ble_eq_true rfl) ?_
  refine g_putF (fs' := [.int 0, .int 0, .int 0, .int 0, .int 0, .ref (b + 14), .ref (b + 15), .ref (b + 16), .null, .null, .null, .null, .null, .null]) S hG (hin rfl) 13 7 rfl cpX2 wm_246 dX2_init_50 rfl (by omega) (by decide) (Nat.le_of_ble_eq_true rfl) rfl rfl rfl rfl (fun H locs hG => ?_)
  refine lv_aload_n hx hb dX2_init_53 rfl (lv_at hl 0 rfl) ?_
  refine lv_bipush (v := 24) hx hb dX2_init_54 (by decide) ?_
  refine g_newa (atype := .int) (ty := .int) (N := 24) (a0 := (24, .inl (fun _ => 0))) S hG (by omega) 1 rfl rfl (fun h => h) wm_305 (fun _ => rfl) dX2_init_56 (by decide) (by decide) (by decide) ⟨Nat.le_of_ble_eq_true rfl, Nat.le_of_ble_eq_true rfl⟩ (fun H hG => ?_)
  refine W.widen (k := 4) (n := 96) (Nat.le_of_ble_eq_true rfl) (Nat.le_of_ble_eq_true rfl) ?_
  refine g_putF (fs' := [.int 0, .int 0, .int 0, .int 0, .int 0, .ref (b + 14), .ref (b + 15), .ref (b + 16), .ref (b + 17), .null, .null, .null, .null, .null]) S hG (hin rfl) 13 8 rfl cpX2 wm_253 dX2_init_58 rfl (by omega) (by decide) (Nat.le_of_ble_eq_true rfl) rfl rfl rfl rfl (fun H locs hG => ?_)
  refine lv_aload_n hx hb dX2_init_61 rfl (lv_at hl 0 rfl) ?_
  refine lv_bipush (v := 24) hx hb dX2_init_62 (by decide) ?_
  refine g_newa (atype := .int) (ty := .int) (N := 24) (a0 := (24, .inl (fun _ => 0))) S hG (by omega) 1 rfl rfl (fun h => h) wm_305 (fun _ => rfl) dX2_init_64 (by decide) (by decide) (by decide) ⟨Nat.le_of_ble_eq_true rfl, Nat.le_of_ble_eq_true rfl⟩ (fun H hG => ?_)
  refine W.widen (k := 5) (n := 120) (Nat.le_of_ble_eq_true rfl) (Nat.le_of_ble_eq_true rfl) ?_
  refine g_putF (fs' := [.int 0, .int 0, .int 0, .int 0, .int 0, .ref (b + 14), .ref (b + 15), .ref (b + 16), .ref (b + 17), .ref (b + 18), .null, .null, .null, .null]) S hG (hin rfl) 13 9 rfl cpX2 wm_259 dX2_init_66 rfl (by omega) (by decide) (Nat.le_of_ble_eq_true rfl) rfl rfl rfl rfl (fun H locs hG => ?_)
  refine lv_aload_n hx hb dX2_init_69 rfl (lv_at hl 0 rfl) ?_
  refine lv_bipush (v := 30) hx hb dX2_init_70 (by decide) ?_
  refine g_newa (atype := .int) (ty := .int) (N := 30) (a0 := (30, .inl (fun _ => 0))) S hG (by omega) 1 rfl rfl (fun h => h) wm_305 (fun _ => rfl) dX2_init_72 (by decide) (by decide) (by decide) ⟨Nat.le_of_ble_eq_true rfl, Nat.le_of_ble_eq_true rfl⟩ (fun H hG => ?_)
  refine W.widen (k := 6) (n := 150) (Nat.le_of_ble_eq_true rfl) (Nat.le_of_ble_eq_true rfl) ?_
  refine g_putF (fs' := [.int 0, .int 0, .int 0, .int 0, .int 0, .ref (b + 14), .ref (b + 15), .ref (b + 16), .ref (b + 17), .ref (b + 18), .ref (b + 19), .null, .null, .null]) S hG (hin rfl) 13 10 rfl cpX2 wm_261 dX2_init_74 rfl (by omega) (by decide) (Nat.le_of_ble_eq_true rfl) rfl rfl rfl rfl (fun H locs hG => ?_)
  refine lv_aload_n hx hb dX2_init_77 rfl (lv_at hl 0 rfl) ?_
  refine lv_sipush (v := 300) hx hb dX2_init_78 (by decide) ?_
  refine g_newa (atype := .int) (ty := .int) (N := 300) (a0 := (300, .inl (fun _ => 0))) S hG (by omega) 1 rfl rfl (fun h => h) wm_305 (fun _ => rfl) dX2_init_81 (by decide) (by decide) (by decide) ⟨Nat.le_of_ble_eq_true rfl, Nat.le_of_ble_eq_true rfl⟩ (fun H hG => ?_)
  refine W.widen (k := 7) (n := 450) (Nat.le_of_ble_eq_true rfl) (Nat.le_of_ble_eq_true rfl) ?_
  refine g_putF (fs' := [.int 0, .int 0, .int 0, .int 0, .int 0, .ref (b + 14), .ref (b + 15), .ref (b + 16), .ref (b + 17), .ref (b + 18), .ref (b + 19), .ref (b + 20), .null, .null]) S hG (hin rfl) 13 11 rfl cpX2 wm_268 dX2_init_83 rfl (by omega) (by decide) (Nat.le_of_ble_eq_true rfl) rfl rfl rfl rfl (fun H locs hG => ?_)
  refine lv_aload_n hx hb dX2_init_86 rfl (lv_at hl 0 rfl) ?_
  refine lv_bipush (v := 30) hx hb dX2_init_87 (by decide) ?_
  refine g_newa (atype := .int) (ty := .int) (N := 30) (a0 := (30, .inl (fun _ => 0))) S hG (by omega) 1 rfl rfl (fun h => h) wm_305 (fun _ => rfl) dX2_init_89 (by decide) (by decide) (by decide) ⟨Nat.le_of_ble_eq_true rfl, Nat.le_of_ble_eq_true rfl⟩ (fun H hG => ?_)
  refine W.widen (k := 8) (n := 480) (Nat.le_of_ble_eq_true rfl) (Nat.le_of_ble_eq_true rfl) ?_
  refine g_putF (fs' := [.int 0, .int 0, .int 0, .int 0, .int 0, .ref (b + 14), .ref (b + 15), .ref (b + 16), .ref (b + 17), .ref (b + 18), .ref (b + 19), .ref (b + 20), .ref (b + 21), .null]) S hG (hin rfl) 13 12 rfl cpX2 wm_270 dX2_init_91 rfl (by omega) (by decide) (Nat.le_of_ble_eq_true rfl) rfl rfl rfl rfl (fun H locs hG => ?_)
  refine lv_aload_n hx hb dX2_init_94 rfl (lv_at hl 0 rfl) ?_
  refine lv_bipush (v := 54) hx hb dX2_init_95 (by decide) ?_
  refine g_newa (atype := .int) (ty := .int) (N := 54) (a0 := (54, .inl (fun _ => 0))) S hG (by omega) 1 rfl rfl (fun h => h) wm_305 (fun _ => rfl) dX2_init_97 (by decide) (by decide) (by decide) ⟨Nat.le_of_ble_eq_true rfl, Nat.le_of_ble_eq_true rfl⟩ (fun H hG => ?_)
  refine W.widen (k := 9) (n := 534) (Nat.le_of_ble_eq_true rfl) (Nat.le_of_ble_eq_true rfl) ?_
  refine g_putF (fs' := [.int 0, .int 0, .int 0, .int 0, .int 0, .ref (b + 14), .ref (b + 15), .ref (b + 16), .ref (b + 17), .ref (b + 18), .ref (b + 19), .ref (b + 20), .ref (b + 21), .ref (b + 22)]) S hG (hin rfl) 13 13 rfl cpX2 wm_272 dX2_init_99 rfl (by omega) (by decide) (Nat.le_of_ble_eq_true rfl) rfl rfl rfl rfl (fun H locs hG => ?_)
  exact g_vret S hr hlk hG (by omega) dX2_init_102 ⟨Nat.le_of_ble_eq_true rfl, Nat.le_of_ble_eq_true rfl⟩ ⟨rfl, fun j h1 h2 => (upE_n (by omega)).trans ((upE_n (by omega)).trans ((upE_n (by omega)).trans ((upE_n (by omega)).trans ((upE_n (by omega)).trans ((upE_n (by omega)).trans ((upE_n (by omega)).trans ((upE_n (by omega)).trans ((upE_n (by omega)).trans ((upE_n (by omega)).trans ((upE_n (by omega)).trans ((upE_n (by omega)).trans ((upE_n (by omega)).trans ((upE_n (by omega)).trans ((upE_n (by omega)).trans ((upE_n (by omega)).trans ((upE_n (by omega)).trans ((upE_n (by omega)).trans ((upE_n (by omega)).trans ((upE_n (by omega)).trans ((upE_n (by omega)).trans ((upE_n (by omega)).trans ((upE_n (by omega)).trans (rfl))))))))))))))))))))))), rfl, rfl, rfl, rfl, rfl, rfl, rfl, rfl, rfl, rfl⟩
theorem wI_11_26 : gWI "GrownKinds" 26 yX5_init cX5_init 2 := ⟨wm_308, wm_309, wm_178, wm_310, by decide +kernel, by decide +kernel, rfl⟩
theorem wI_5_53 : gWI "GrownKinds$Reader" 53 yX3_init cX3_init 2 := ⟨wm_314, wm_315, wm_179, wm_316, by decide +kernel, by decide +kernel, rfl⟩
set_option maxHeartbeats 4000000 in
set_option maxRecDepth 100000 in
theorem kX3_init_26 (l : Launch) {D : va_G} {cy : Nat → ClassId} {b : Nat} {E : Nat → va_E} (h26 : E 26 = .inr (3, [.null, .int 0, .int 0, .null, .null, .null, .null, .null, .null])) : gV l yX3_init cX3_init 2 1 6 90 D cy b 27 E [.ref (b + 26), .ref (b + 13)] (fun u => u.1 = 33 ∧ (∀ j, j < 27 → j ≠ 26 → u.2 j = E j) ∧ u.2 26 = .inr (3, [.ref (b + 13), .int 0, .int 0, .ref (b + 27), .ref (b + 28), .ref (b + 29), .ref (b + 30), .ref (b + 31), .ref (b + 32)]) ∧ u.2 27 = .inl (cy 1, 24, .inl (fun _ => 0)) ∧ u.2 28 = .inl (cy 1, 24, .inl (fun _ => 0)) ∧ u.2 29 = .inl (cy 1, 24, .inl (fun _ => 0)) ∧ u.2 30 = .inl (cy 1, 6, .inl (fun _ => 0)) ∧ u.2 31 = .inl (cy 1, 6, .inl (fun _ => 0)) ∧ u.2 32 = .inl (cy 1, 6, .inl (fun _ => 0))) := by
  refine gV_of (by decide) (Nat.le_of_ble_eq_true rfl) ?_
  intro p e s m args below meth c S hr hlk hin hsz ls hl hG
  have hx := S.1
  have hb := S.2.1
  have hl : lv_has ls 2 [(0, .ref (b + 26)), (1, .ref (b + 13))] := hl
  refine lv_aload_n hx hb dX3_init_0 rfl (lv_at hl 0 rfl) ?_
  refine g_objInit S wm_317 wm_203 wm_204 hl.1 dX3_init_1 ⟨Nat.le_of_ble_eq_true rfl, Nat.le_of_ble_eq_true rfl⟩ ?_
  refine lv_aload_n hx hb dX3_init_4 rfl (lv_at hl 0 rfl) ?_
  refine lv_iconst (v := 0) hx hb dX3_init_5 (by decide) ?_
  refine g_put (fs' := [.null, .int 0, .int 0, .null, .null, .null, .null, .null, .null]) S hG 26 1 h26 cpX3 wm_319 dX3_init_6 rfl (by omega) (by decide) (Nat.le_of_ble_eq_true rfl) rfl rfl rfl (fun H locs hG => ?_)
  refine lv_aload_n hx hb dX3_init_9 rfl (lv_at hl 0 rfl) ?_
  refine lv_iconst (v := 0) hx hb dX3_init_10 (by decide) ?_
  refine g_put (fs' := [.null, .int 0, .int 0, .null, .null, .null, .null, .null, .null]) S hG 26 2 rfl cpX3 wm_320 dX3_init_11 rfl (by omega) (by decide) (Nat.le_of_ble_eq_true rfl) rfl rfl rfl (fun H locs hG => ?_)
  refine lv_aload_n hx hb dX3_init_14 rfl (lv_at hl 0 rfl) ?_
  refine lv_bipush (v := 24) hx hb dX3_init_15 (by decide) ?_
  refine g_newa (atype := .int) (ty := .int) (N := 24) (a0 := (24, .inl (fun _ => 0))) S hG (by omega) 1 rfl rfl (fun h => h) wm_305 (fun _ => rfl) dX3_init_17 (by decide) (by decide) (by decide) ⟨Nat.le_of_ble_eq_true rfl, Nat.le_of_ble_eq_true rfl⟩ (fun H hG => ?_)
  refine W.widen (k := 1) (n := 24) (Nat.le_of_ble_eq_true rfl) (Nat.le_of_ble_eq_true rfl) ?_
  refine g_putF (fs' := [.null, .int 0, .int 0, .ref (b + 27), .null, .null, .null, .null, .null]) S hG (hin rfl) 26 3 rfl cpX3 wm_322 dX3_init_19 rfl (by omega) (by decide) (Nat.le_of_ble_eq_true rfl) rfl rfl rfl rfl (fun H locs hG => ?_)
  refine lv_aload_n hx hb dX3_init_22 rfl (lv_at hl 0 rfl) ?_
  refine lv_bipush (v := 24) hx hb dX3_init_23 (by decide) ?_
  refine g_newa (atype := .int) (ty := .int) (N := 24) (a0 := (24, .inl (fun _ => 0))) S hG (by omega) 1 rfl rfl (fun h => h) wm_305 (fun _ => rfl) dX3_init_25 (by decide) (by decide) (by decide) ⟨Nat.le_of_ble_eq_true rfl, Nat.le_of_ble_eq_true rfl⟩ (fun H hG => ?_)
  refine W.widen (k := 2) (n := 48) (Nat.le_of_ble_eq_true rfl) (Nat.le_of_ble_eq_true rfl) ?_
  refine g_putF (fs' := [.null, .int 0, .int 0, .ref (b + 27), .ref (b + 28), .null, .null, .null, .null]) S hG (hin rfl) 26 4 rfl cpX3 wm_323 dX3_init_27 rfl (by omega) (by decide) (Nat.le_of_ble_eq_true rfl) rfl rfl rfl rfl (fun H locs hG => ?_)
  refine lv_aload_n hx hb dX3_init_30 rfl (lv_at hl 0 rfl) ?_
  refine lv_bipush (v := 24) hx hb dX3_init_31 (by decide) ?_
  refine g_newa (atype := .int) (ty := .int) (N := 24) (a0 := (24, .inl (fun _ => 0))) S hG (by omega) 1 rfl rfl (fun h => h) wm_305 (fun _ => rfl) dX3_init_33 (by decide) (by decide) (by decide) ⟨Nat.le_of_ble_eq_true rfl, Nat.le_of_ble_eq_true rfl⟩ (fun H hG => ?_)
  refine W.widen (k := 3) (n := 72) (Nat.le_of_ble_eq_true rfl) (Nat.le_of_ble_eq_true rfl) ?_
  refine g_putF (fs' := [.null, .int 0, .int 0, .ref (b + 27), .ref (b + 28), .ref (b + 29), .null, .null, .null]) S hG (hin rfl) 26 5 rfl cpX3 wm_324 dX3_init_35 rfl (by omega) (by decide) (Nat.le_of_ble_eq_true rfl) rfl rfl rfl rfl (fun H locs hG => ?_)
  refine lv_aload_n hx hb dX3_init_38 rfl (lv_at hl 0 rfl) ?_
  refine lv_bipush (v := 6) hx hb dX3_init_39 (by decide) ?_
  refine g_newa (atype := .int) (ty := .int) (N := 6) (a0 := (6, .inl (fun _ => 0))) S hG (by omega) 1 rfl rfl (fun h => h) wm_305 (fun _ => rfl) dX3_init_41 (by decide) (by decide) (by decide) ⟨Nat.le_of_ble_eq_true rfl, Nat.le_of_ble_eq_true rfl⟩ (fun H hG => ?_)
  refine W.widen (k := 4) (n := 78) (Nat.le_of_ble_eq_true rfl) (Nat.le_of_ble_eq_true rfl) ?_
  refine g_putF (fs' := [.null, .int 0, .int 0, .ref (b + 27), .ref (b + 28), .ref (b + 29), .ref (b + 30), .null, .null]) S hG (hin rfl) 26 6 rfl cpX3 wm_325 dX3_init_43 rfl (by omega) (by decide) (Nat.le_of_ble_eq_true rfl) rfl rfl rfl rfl (fun H locs hG => ?_)
  refine lv_aload_n hx hb dX3_init_46 rfl (lv_at hl 0 rfl) ?_
  refine lv_bipush (v := 6) hx hb dX3_init_47 (by decide) ?_
  refine g_newa (atype := .int) (ty := .int) (N := 6) (a0 := (6, .inl (fun _ => 0))) S hG (by omega) 1 rfl rfl (fun h => h) wm_305 (fun _ => rfl) dX3_init_49 (by decide) (by decide) (by decide) ⟨Nat.le_of_ble_eq_true rfl, Nat.le_of_ble_eq_true rfl⟩ (fun H hG => ?_)
  refine W.widen (k := 5) (n := 84) (Nat.le_of_ble_eq_true rfl) (Nat.le_of_ble_eq_true rfl) ?_
  refine g_putF (fs' := [.null, .int 0, .int 0, .ref (b + 27), .ref (b + 28), .ref (b + 29), .ref (b + 30), .ref (b + 31), .null]) S hG (hin rfl) 26 7 rfl cpX3 wm_328 dX3_init_51 rfl (by omega) (by decide) (Nat.le_of_ble_eq_true rfl) rfl rfl rfl rfl (fun H locs hG => ?_)
  refine lv_aload_n hx hb dX3_init_54 rfl (lv_at hl 0 rfl) ?_
  refine lv_bipush (v := 6) hx hb dX3_init_55 (by decide) ?_
  refine g_newa (atype := .int) (ty := .int) (N := 6) (a0 := (6, .inl (fun _ => 0))) S hG (by omega) 1 rfl rfl (fun h => h) wm_305 (fun _ => rfl) dX3_init_57 (by decide) (by decide) (by decide) ⟨Nat.le_of_ble_eq_true rfl, Nat.le_of_ble_eq_true rfl⟩ (fun H hG => ?_)
  refine W.widen (k := 6) (n := 90) (Nat.le_of_ble_eq_true rfl) (Nat.le_of_ble_eq_true rfl) ?_
  refine g_putF (fs' := [.null, .int 0, .int 0, .ref (b + 27), .ref (b + 28), .ref (b + 29), .ref (b + 30), .ref (b + 31), .ref (b + 32)]) S hG (hin rfl) 26 8 rfl cpX3 wm_330 dX3_init_59 rfl (by omega) (by decide) (Nat.le_of_ble_eq_true rfl) rfl rfl rfl rfl (fun H locs hG => ?_)
  refine lv_aload_n hx hb dX3_init_62 rfl (lv_at hl 0 rfl) ?_
  refine lv_aload_n hx hb dX3_init_63 rfl (lv_at hl 1 rfl) ?_
  refine g_putF (fs' := [.ref (b + 13), .int 0, .int 0, .ref (b + 27), .ref (b + 28), .ref (b + 29), .ref (b + 30), .ref (b + 31), .ref (b + 32)]) S hG (hin rfl) 26 0 rfl cpX3 wm_318 dX3_init_64 rfl (by omega) (by decide) (Nat.le_of_ble_eq_true rfl) rfl rfl rfl rfl (fun H locs hG => ?_)
  exact g_vret S hr hlk hG (by omega) dX3_init_67 ⟨Nat.le_of_ble_eq_true rfl, Nat.le_of_ble_eq_true rfl⟩ ⟨rfl, fun j h1 h2 => (upE_n (by omega)).trans ((upE_n (by omega)).trans ((upE_n (by omega)).trans ((upE_n (by omega)).trans ((upE_n (by omega)).trans ((upE_n (by omega)).trans ((upE_n (by omega)).trans ((upE_n (by omega)).trans ((upE_n (by omega)).trans ((upE_n (by omega)).trans ((upE_n (by omega)).trans ((upE_n (by omega)).trans ((upE_n (by omega)).trans ((upE_n (by omega)).trans ((upE_n (by omega)).trans (rfl))))))))))))))), rfl, rfl, rfl, rfl, rfl, rfl, rfl⟩
set_option maxHeartbeats 4000000 in
set_option maxRecDepth 100000 in
theorem kX5_init_12 (l : Launch) {D : va_G} {cy : Nat → ClassId} {b : Nat} {E : Nat → va_E} (h12 : E 12 = .inr (5, [.null, .int 0, .int 0, .null, .null, .int 0, .int 0, .int 0, .int 0, .int 0, .int 0, .null, .null])) : gV l yX5_init cX5_init 2 2 10 111 D cy b 23 E [.ref (b + 12), .ref (b + 13)] (fun u => u.1 = 33 ∧ (∀ j, j < 23 → j ≠ 12 → u.2 j = E j) ∧ u.2 12 = .inr (5, [.ref (b + 13), .int 0, .int (-1), .ref (b + 26), .ref (b + 23), .int 0, .int 0, .int 3, .int 0, .int 0, .int 0, .ref (b + 24), .ref (b + 25)]) ∧ u.2 23 = .inl (cy 0, 0, .inl (fun _ => 0)) ∧ u.2 24 = .inl (cy 1, 6, .inl (fun _ => 0)) ∧ u.2 25 = .inl (cy 1, 6, .inl (fun _ => 0)) ∧ u.2 26 = .inr (3, [.ref (b + 13), .int 0, .int 0, .ref (b + 27), .ref (b + 28), .ref (b + 29), .ref (b + 30), .ref (b + 31), .ref (b + 32)]) ∧ u.2 27 = .inl (cy 1, 24, .inl (fun _ => 0)) ∧ u.2 28 = .inl (cy 1, 24, .inl (fun _ => 0)) ∧ u.2 29 = .inl (cy 1, 24, .inl (fun _ => 0)) ∧ u.2 30 = .inl (cy 1, 6, .inl (fun _ => 0)) ∧ u.2 31 = .inl (cy 1, 6, .inl (fun _ => 0)) ∧ u.2 32 = .inl (cy 1, 6, .inl (fun _ => 0))) := by
  refine gV_of (by decide) (Nat.le_of_ble_eq_true rfl) ?_
  intro p e s m args below meth c S hr hlk hin hsz ls hl hG
  have hx := S.1
  have hb := S.2.1
  have hl : lv_has ls 2 [(0, .ref (b + 12)), (1, .ref (b + 13))] := hl
  refine lv_aload_n hx hb dX5_init_0 rfl (lv_at hl 0 rfl) ?_
  refine g_objInit S wm_311 wm_203 wm_204 hl.1 dX5_init_1 ⟨Nat.le_of_ble_eq_true rfl, Nat.le_of_ble_eq_true rfl⟩ ?_
  refine lv_aload_n hx hb dX5_init_4 rfl (lv_at hl 0 rfl) ?_
  refine lv_iconst (v := 0) hx hb dX5_init_5 (by decide) ?_
  refine g_put (fs' := [.null, .int 0, .int 0, .null, .null, .int 0, .int 0, .int 0, .int 0, .int 0, .int 0, .null, .null]) S hG 12 1 h12 cpX5 wm_353 dX5_init_6 rfl (by omega) (by decide) (Nat.le_of_ble_eq_true rfl) rfl rfl rfl (fun H locs hG => ?_)
  refine lv_aload_n hx hb dX5_init_9 rfl (lv_at hl 0 rfl) ?_
  refine lv_iconst (v := (-1)) hx hb dX5_init_10 (by decide) ?_
  refine g_put (fs' := [.null, .int 0, .int (-1), .null, .null, .int 0, .int 0, .int 0, .int 0, .int 0, .int 0, .null, .null]) S hG 12 2 rfl cpX5 wm_355 dX5_init_11 rfl (by omega) (by decide) (Nat.le_of_ble_eq_true rfl) rfl rfl rfl (fun H locs hG => ?_)
  refine lv_aload_n hx hb dX5_init_14 rfl (lv_at hl 0 rfl) ?_
  refine lv_iconst (v := 0) hx hb dX5_init_15 (by decide) ?_
  refine g_newa (atype := .byte) (ty := .byte) (N := 0) (a0 := (0, .inl (fun _ => 0))) S hG (by omega) 0 rfl rfl (fun h => h) wm_304 (fun _ => rfl) dX5_init_16 (by decide) (by decide) (by decide) ⟨Nat.le_of_ble_eq_true rfl, Nat.le_of_ble_eq_true rfl⟩ (fun H hG => ?_)
  refine W.widen (k := 1) (n := 0) (Nat.le_of_ble_eq_true rfl) (Nat.le_of_ble_eq_true rfl) ?_
  refine g_put (fs' := [.null, .int 0, .int (-1), .null, .ref (b + 23), .int 0, .int 0, .int 0, .int 0, .int 0, .int 0, .null, .null]) S hG 12 4 rfl cpX5 wm_358 dX5_init_18 rfl (by omega) (by decide) (Nat.le_of_ble_eq_true rfl) rfl rfl rfl (fun H locs hG => ?_)
  refine lv_aload_n hx hb dX5_init_21 rfl (lv_at hl 0 rfl) ?_
  refine lv_iconst (v := 0) hx hb dX5_init_22 (by decide) ?_
  refine g_put (fs' := [.null, .int 0, .int (-1), .null, .ref (b + 23), .int 0, .int 0, .int 0, .int 0, .int 0, .int 0, .null, .null]) S hG 12 5 rfl cpX5 wm_359 dX5_init_23 rfl (by omega) (by decide) (Nat.le_of_ble_eq_true rfl) rfl rfl rfl (fun H locs hG => ?_)
  refine lv_aload_n hx hb dX5_init_26 rfl (lv_at hl 0 rfl) ?_
  refine lv_iconst (v := 0) hx hb dX5_init_27 (by decide) ?_
  refine g_put (fs' := [.null, .int 0, .int (-1), .null, .ref (b + 23), .int 0, .int 0, .int 0, .int 0, .int 0, .int 0, .null, .null]) S hG 12 6 rfl cpX5 wm_360 dX5_init_28 rfl (by omega) (by decide) (Nat.le_of_ble_eq_true rfl) rfl rfl rfl (fun H locs hG => ?_)
  refine lv_aload_n hx hb dX5_init_31 rfl (lv_at hl 0 rfl) ?_
  refine lv_iconst (v := 3) hx hb dX5_init_32 (by decide) ?_
  refine g_put (fs' := [.null, .int 0, .int (-1), .null, .ref (b + 23), .int 0, .int 0, .int 3, .int 0, .int 0, .int 0, .null, .null]) S hG 12 7 rfl cpX5 wm_361 dX5_init_33 rfl (by omega) (by decide) (Nat.le_of_ble_eq_true rfl) rfl rfl rfl (fun H locs hG => ?_)
  refine lv_aload_n hx hb dX5_init_36 rfl (lv_at hl 0 rfl) ?_
  refine lv_iconst (v := 0) hx hb dX5_init_37 (by decide) ?_
  refine g_put (fs' := [.null, .int 0, .int (-1), .null, .ref (b + 23), .int 0, .int 0, .int 3, .int 0, .int 0, .int 0, .null, .null]) S hG 12 8 rfl cpX5 wm_362 dX5_init_38 rfl (by omega) (by decide) (Nat.le_of_ble_eq_true rfl) rfl rfl rfl (fun H locs hG => ?_)
  refine lv_aload_n hx hb dX5_init_41 rfl (lv_at hl 0 rfl) ?_
  refine lv_iconst (v := 0) hx hb dX5_init_42 (by decide) ?_
  refine g_put (fs' := [.null, .int 0, .int (-1), .null, .ref (b + 23), .int 0, .int 0, .int 3, .int 0, .int 0, .int 0, .null, .null]) S hG 12 9 rfl cpX5 wm_363 dX5_init_43 rfl (by omega) (by decide) (Nat.le_of_ble_eq_true rfl) rfl rfl rfl (fun H locs hG => ?_)
  refine lv_aload_n hx hb dX5_init_46 rfl (lv_at hl 0 rfl) ?_
  refine lv_iconst (v := 0) hx hb dX5_init_47 (by decide) ?_
  refine g_put (fs' := [.null, .int 0, .int (-1), .null, .ref (b + 23), .int 0, .int 0, .int 3, .int 0, .int 0, .int 0, .null, .null]) S hG 12 10 rfl cpX5 wm_364 dX5_init_48 rfl (by omega) (by decide) (Nat.le_of_ble_eq_true rfl) rfl rfl rfl (fun H locs hG => ?_)
  refine lv_aload_n hx hb dX5_init_51 rfl (lv_at hl 0 rfl) ?_
  refine lv_bipush (v := 6) hx hb dX5_init_52 (by decide) ?_
  refine g_newa (atype := .int) (ty := .int) (N := 6) (a0 := (6, .inl (fun _ => 0))) S hG (by omega) 1 rfl rfl (fun h => h) wm_305 (fun _ => rfl) dX5_init_54 (by decide) (by decide) (by decide) ⟨Nat.le_of_ble_eq_true rfl, Nat.le_of_ble_eq_true rfl⟩ (fun H hG => ?_)
  refine W.widen (k := 2) (n := 6) (Nat.le_of_ble_eq_true rfl) (Nat.le_of_ble_eq_true rfl) ?_
  refine g_putF (fs' := [.null, .int 0, .int (-1), .null, .ref (b + 23), .int 0, .int 0, .int 3, .int 0, .int 0, .int 0, .ref (b + 24), .null]) S hG (hin rfl) 12 11 rfl cpX5 wm_365 dX5_init_56 rfl (by omega) (by decide) (Nat.le_of_ble_eq_true rfl) rfl rfl rfl rfl (fun H locs hG => ?_)
  refine lv_aload_n hx hb dX5_init_59 rfl (lv_at hl 0 rfl) ?_
  refine lv_bipush (v := 6) hx hb dX5_init_60 (by decide) ?_
  refine g_newa (atype := .int) (ty := .int) (N := 6) (a0 := (6, .inl (fun _ => 0))) S hG (by omega) 1 rfl rfl (fun h => h) wm_305 (fun _ => rfl) dX5_init_62 (by decide) (by decide) (by decide) ⟨Nat.le_of_ble_eq_true rfl, Nat.le_of_ble_eq_true rfl⟩ (fun H hG => ?_)
  refine W.widen (k := 3) (n := 12) (Nat.le_of_ble_eq_true rfl) (Nat.le_of_ble_eq_true rfl) ?_
  refine g_putF (fs' := [.null, .int 0, .int (-1), .null, .ref (b + 23), .int 0, .int 0, .int 3, .int 0, .int 0, .int 0, .ref (b + 24), .ref (b + 25)]) S hG (hin rfl) 12 12 rfl cpX5 wm_366 dX5_init_64 rfl (by omega) (by decide) (Nat.le_of_ble_eq_true rfl) rfl rfl rfl rfl (fun H locs hG => ?_)
  refine lv_aload_n hx hb dX5_init_67 rfl (lv_at hl 0 rfl) ?_
  refine lv_aload_n hx hb dX5_init_68 rfl (lv_at hl 1 rfl) ?_
  refine g_putF (fs' := [.ref (b + 13), .int 0, .int (-1), .null, .ref (b + 23), .int 0, .int 0, .int 3, .int 0, .int 0, .int 0, .ref (b + 24), .ref (b + 25)]) S hG (hin rfl) 12 0 rfl cpX5 wm_351 dX5_init_69 rfl (by omega) (by decide) (Nat.le_of_ble_eq_true rfl) rfl rfl rfl rfl (fun H locs hG => ?_)
  refine lv_aload_n hx hb dX5_init_72 rfl (lv_at hl 0 rfl) ?_
  refine g_new (fs := [.null, .int 0, .int 0, .null, .null, .null, .null, .null, .null]) S hG (by omega) cpX3 wm_312 wm_313 wm_179 dX5_init_73 (by decide +kernel) ⟨Nat.le_of_ble_eq_true rfl, Nat.le_of_ble_eq_true rfl⟩ (fun H hG => ?_)
  refine W.widen (k := 4) (n := 21) (Nat.le_of_ble_eq_true rfl) (Nat.le_of_ble_eq_true rfl) ?_
  refine lv_dup hx hb dX5_init_76 rfl ?_
  refine lv_aload_n hx hb dX5_init_77 rfl (lv_at hl 1 rfl) ?_
  refine g_ctor (As := [.ref (b + 13)]) (rest := [.ref (b + 26), .ref (b + 12)]) S hG (by omega) (kX3_init_26 l rfl) wI_5_53 dX5_init_78 rfl hl.1 (ar := 1) (by decide +kernel) rfl ⟨Nat.le_of_ble_eq_true rfl, Nat.le_of_ble_eq_true rfl, Nat.le_of_ble_eq_true rfl, Nat.le_of_ble_eq_true rfl⟩ (Nat.le_of_ble_eq_true rfl) (fun u_E_1 H locs hp_2 hG => ?_)
  obtain ⟨n_E_1, E_1⟩ := u_E_1
  dsimp only at hp_2 hG
  refine W.widen (k := 10) (n := 111) (Nat.le_of_ble_eq_true rfl) (Nat.le_of_ble_eq_true rfl) ?_
  obtain ⟨rfl, hlo_3, hhlo_3_26, hhlo_3_27, hhlo_3_28, hhlo_3_29, hhlo_3_30, hhlo_3_31, hhlo_3_32⟩ := hp_2
  refine g_putF (fs' := [.ref (b + 13), .int 0, .int (-1), .ref (b + 26), .ref (b + 23), .int 0, .int 0, .int 3, .int 0, .int 0, .int 0, .ref (b + 24), .ref (b + 25)]) S hG (hin rfl) 12 3 ((hlo_3 12 (by decide) (by decide)).trans rfl) cpX5 wm_357 dX5_init_81 rfl (by omega) (by decide) (Nat.le_of_ble_eq_true rfl) rfl rfl rfl rfl (fun H locs hG => ?_)
  exact g_vret S hr hlk hG (by omega) dX5_init_84 ⟨Nat.le_of_ble_eq_true rfl, Nat.le_of_ble_eq_true rfl⟩ ⟨rfl, fun j h1 h2 => (upE_n (by omega)).trans ((hlo_3 j (by omega) (by omega)).trans ((upE_n (by omega)).trans ((upE_n (by omega)).trans ((upE_n (by omega)).trans ((upE_n (by omega)).trans ((upE_n (by omega)).trans ((upE_n (by omega)).trans ((upE_n (by omega)).trans ((upE_n (by omega)).trans ((upE_n (by omega)).trans ((upE_n (by omega)).trans ((upE_n (by omega)).trans ((upE_n (by omega)).trans ((upE_n (by omega)).trans ((upE_n (by omega)).trans ((upE_n (by omega)).trans ((upE_n (by omega)).trans (rfl)))))))))))))))))), rfl, ((hlo_3 23 (by decide) (by decide)).trans rfl), ((hlo_3 24 (by decide) (by decide)).trans rfl), ((hlo_3 25 (by decide) (by decide)).trans rfl), hhlo_3_26, hhlo_3_27, hhlo_3_28, hhlo_3_29, hhlo_3_30, hhlo_3_31, hhlo_3_32⟩
theorem wI_11_41 : gWI "GrownKinds" 41 yX3_init cX3_init 2 := ⟨wm_395, wm_315, wm_179, wm_316, by decide +kernel, by decide +kernel, rfl⟩
set_option maxHeartbeats 4000000 in
set_option maxRecDepth 100000 in
theorem kX3_init_33 (l : Launch) {D : va_G} {cy : Nat → ClassId} {b : Nat} {E : Nat → va_E} (h33 : E 33 = .inr (3, [.null, .int 0, .int 0, .null, .null, .null, .null, .null, .null])) : gV l yX3_init cX3_init 2 1 6 90 D cy b 34 E [.ref (b + 33), .ref (b + 2)] (fun u => u.1 = 40 ∧ (∀ j, j < 34 → j ≠ 33 → u.2 j = E j) ∧ u.2 33 = .inr (3, [.ref (b + 2), .int 0, .int 0, .ref (b + 34), .ref (b + 35), .ref (b + 36), .ref (b + 37), .ref (b + 38), .ref (b + 39)]) ∧ u.2 34 = .inl (cy 1, 24, .inl (fun _ => 0)) ∧ u.2 35 = .inl (cy 1, 24, .inl (fun _ => 0)) ∧ u.2 36 = .inl (cy 1, 24, .inl (fun _ => 0)) ∧ u.2 37 = .inl (cy 1, 6, .inl (fun _ => 0)) ∧ u.2 38 = .inl (cy 1, 6, .inl (fun _ => 0)) ∧ u.2 39 = .inl (cy 1, 6, .inl (fun _ => 0))) := by
  refine gV_of (by decide) (Nat.le_of_ble_eq_true rfl) ?_
  intro p e s m args below meth c S hr hlk hin hsz ls hl hG
  have hx := S.1
  have hb := S.2.1
  have hl : lv_has ls 2 [(0, .ref (b + 33)), (1, .ref (b + 2))] := hl
  refine lv_aload_n hx hb dX3_init_0 rfl (lv_at hl 0 rfl) ?_
  refine g_objInit S wm_317 wm_203 wm_204 hl.1 dX3_init_1 ⟨Nat.le_of_ble_eq_true rfl, Nat.le_of_ble_eq_true rfl⟩ ?_
  refine lv_aload_n hx hb dX3_init_4 rfl (lv_at hl 0 rfl) ?_
  refine lv_iconst (v := 0) hx hb dX3_init_5 (by decide) ?_
  refine g_put (fs' := [.null, .int 0, .int 0, .null, .null, .null, .null, .null, .null]) S hG 33 1 h33 cpX3 wm_319 dX3_init_6 rfl (by omega) (by decide) (Nat.le_of_ble_eq_true rfl) rfl rfl rfl (fun H locs hG => ?_)
  refine lv_aload_n hx hb dX3_init_9 rfl (lv_at hl 0 rfl) ?_
  refine lv_iconst (v := 0) hx hb dX3_init_10 (by decide) ?_
  refine g_put (fs' := [.null, .int 0, .int 0, .null, .null, .null, .null, .null, .null]) S hG 33 2 rfl cpX3 wm_320 dX3_init_11 rfl (by omega) (by decide) (Nat.le_of_ble_eq_true rfl) rfl rfl rfl (fun H locs hG => ?_)
  refine lv_aload_n hx hb dX3_init_14 rfl (lv_at hl 0 rfl) ?_
  refine lv_bipush (v := 24) hx hb dX3_init_15 (by decide) ?_
  refine g_newa (atype := .int) (ty := .int) (N := 24) (a0 := (24, .inl (fun _ => 0))) S hG (by omega) 1 rfl rfl (fun h => h) wm_305 (fun _ => rfl) dX3_init_17 (by decide) (by decide) (by decide) ⟨Nat.le_of_ble_eq_true rfl, Nat.le_of_ble_eq_true rfl⟩ (fun H hG => ?_)
  refine W.widen (k := 1) (n := 24) (Nat.le_of_ble_eq_true rfl) (Nat.le_of_ble_eq_true rfl) ?_
  refine g_putF (fs' := [.null, .int 0, .int 0, .ref (b + 34), .null, .null, .null, .null, .null]) S hG (hin rfl) 33 3 rfl cpX3 wm_322 dX3_init_19 rfl (by omega) (by decide) (Nat.le_of_ble_eq_true rfl) rfl rfl rfl rfl (fun H locs hG => ?_)
  refine lv_aload_n hx hb dX3_init_22 rfl (lv_at hl 0 rfl) ?_
  refine lv_bipush (v := 24) hx hb dX3_init_23 (by decide) ?_
  refine g_newa (atype := .int) (ty := .int) (N := 24) (a0 := (24, .inl (fun _ => 0))) S hG (by omega) 1 rfl rfl (fun h => h) wm_305 (fun _ => rfl) dX3_init_25 (by decide) (by decide) (by decide) ⟨Nat.le_of_ble_eq_true rfl, Nat.le_of_ble_eq_true rfl⟩ (fun H hG => ?_)
  refine W.widen (k := 2) (n := 48) (Nat.le_of_ble_eq_true rfl) (Nat.le_of_ble_eq_true rfl) ?_
  refine g_putF (fs' := [.null, .int 0, .int 0, .ref (b + 34), .ref (b + 35), .null, .null, .null, .null]) S hG (hin rfl) 33 4 rfl cpX3 wm_323 dX3_init_27 rfl (by omega) (by decide) (Nat.le_of_ble_eq_true rfl) rfl rfl rfl rfl (fun H locs hG => ?_)
  refine lv_aload_n hx hb dX3_init_30 rfl (lv_at hl 0 rfl) ?_
  refine lv_bipush (v := 24) hx hb dX3_init_31 (by decide) ?_
  refine g_newa (atype := .int) (ty := .int) (N := 24) (a0 := (24, .inl (fun _ => 0))) S hG (by omega) 1 rfl rfl (fun h => h) wm_305 (fun _ => rfl) dX3_init_33 (by decide) (by decide) (by decide) ⟨Nat.le_of_ble_eq_true rfl, Nat.le_of_ble_eq_true rfl⟩ (fun H hG => ?_)
  refine W.widen (k := 3) (n := 72) (Nat.le_of_ble_eq_true rfl) (Nat.le_of_ble_eq_true rfl) ?_
  refine g_putF (fs' := [.null, .int 0, .int 0, .ref (b + 34), .ref (b + 35), .ref (b + 36), .null, .null, .null]) S hG (hin rfl) 33 5 rfl cpX3 wm_324 dX3_init_35 rfl (by omega) (by decide) (Nat.le_of_ble_eq_true rfl) rfl rfl rfl rfl (fun H locs hG => ?_)
  refine lv_aload_n hx hb dX3_init_38 rfl (lv_at hl 0 rfl) ?_
  refine lv_bipush (v := 6) hx hb dX3_init_39 (by decide) ?_
  refine g_newa (atype := .int) (ty := .int) (N := 6) (a0 := (6, .inl (fun _ => 0))) S hG (by omega) 1 rfl rfl (fun h => h) wm_305 (fun _ => rfl) dX3_init_41 (by decide) (by decide) (by decide) ⟨Nat.le_of_ble_eq_true rfl, Nat.le_of_ble_eq_true rfl⟩ (fun H hG => ?_)
  refine W.widen (k := 4) (n := 78) (Nat.le_of_ble_eq_true rfl) (Nat.le_of_ble_eq_true rfl) ?_
  refine g_putF (fs' := [.null, .int 0, .int 0, .ref (b + 34), .ref (b + 35), .ref (b + 36), .ref (b + 37), .null, .null]) S hG (hin rfl) 33 6 rfl cpX3 wm_325 dX3_init_43 rfl (by omega) (by decide) (Nat.le_of_ble_eq_true rfl) rfl rfl rfl rfl (fun H locs hG => ?_)
  refine lv_aload_n hx hb dX3_init_46 rfl (lv_at hl 0 rfl) ?_
  refine lv_bipush (v := 6) hx hb dX3_init_47 (by decide) ?_
  refine g_newa (atype := .int) (ty := .int) (N := 6) (a0 := (6, .inl (fun _ => 0))) S hG (by omega) 1 rfl rfl (fun h => h) wm_305 (fun _ => rfl) dX3_init_49 (by decide) (by decide) (by decide) ⟨Nat.le_of_ble_eq_true rfl, Nat.le_of_ble_eq_true rfl⟩ (fun H hG => ?_)
  refine W.widen (k := 5) (n := 84) (Nat.le_of_ble_eq_true rfl) (Nat.le_of_ble_eq_true rfl) ?_
  refine g_putF (fs' := [.null, .int 0, .int 0, .ref (b + 34), .ref (b + 35), .ref (b + 36), .ref (b + 37), .ref (b + 38), .null]) S hG (hin rfl) 33 7 rfl cpX3 wm_328 dX3_init_51 rfl (by omega) (by decide) (Nat.le_of_ble_eq_true rfl) rfl rfl rfl rfl (fun H locs hG => ?_)
  refine lv_aload_n hx hb dX3_init_54 rfl (lv_at hl 0 rfl) ?_
  refine lv_bipush (v := 6) hx hb dX3_init_55 (by decide) ?_
  refine g_newa (atype := .int) (ty := .int) (N := 6) (a0 := (6, .inl (fun _ => 0))) S hG (by omega) 1 rfl rfl (fun h => h) wm_305 (fun _ => rfl) dX3_init_57 (by decide) (by decide) (by decide) ⟨Nat.le_of_ble_eq_true rfl, Nat.le_of_ble_eq_true rfl⟩ (fun H hG => ?_)
  refine W.widen (k := 6) (n := 90) (Nat.le_of_ble_eq_true rfl) (Nat.le_of_ble_eq_true rfl) ?_
  refine g_putF (fs' := [.null, .int 0, .int 0, .ref (b + 34), .ref (b + 35), .ref (b + 36), .ref (b + 37), .ref (b + 38), .ref (b + 39)]) S hG (hin rfl) 33 8 rfl cpX3 wm_330 dX3_init_59 rfl (by omega) (by decide) (Nat.le_of_ble_eq_true rfl) rfl rfl rfl rfl (fun H locs hG => ?_)
  refine lv_aload_n hx hb dX3_init_62 rfl (lv_at hl 0 rfl) ?_
  refine lv_aload_n hx hb dX3_init_63 rfl (lv_at hl 1 rfl) ?_
  refine g_putF (fs' := [.ref (b + 2), .int 0, .int 0, .ref (b + 34), .ref (b + 35), .ref (b + 36), .ref (b + 37), .ref (b + 38), .ref (b + 39)]) S hG (hin rfl) 33 0 rfl cpX3 wm_318 dX3_init_64 rfl (by omega) (by decide) (Nat.le_of_ble_eq_true rfl) rfl rfl rfl rfl (fun H locs hG => ?_)
  exact g_vret S hr hlk hG (by omega) dX3_init_67 ⟨Nat.le_of_ble_eq_true rfl, Nat.le_of_ble_eq_true rfl⟩ ⟨rfl, fun j h1 h2 => (upE_n (by omega)).trans ((upE_n (by omega)).trans ((upE_n (by omega)).trans ((upE_n (by omega)).trans ((upE_n (by omega)).trans ((upE_n (by omega)).trans ((upE_n (by omega)).trans ((upE_n (by omega)).trans ((upE_n (by omega)).trans ((upE_n (by omega)).trans ((upE_n (by omega)).trans ((upE_n (by omega)).trans ((upE_n (by omega)).trans ((upE_n (by omega)).trans ((upE_n (by omega)).trans (rfl))))))))))))))), rfl, rfl, rfl, rfl, rfl, rfl, rfl⟩
theorem wI_11_48 : gWI "GrownKinds" 48 yX0_init cX0_init 3 := ⟨wm_398, wm_399, wm_180, wm_400, by decide +kernel, by decide +kernel, rfl⟩
set_option maxHeartbeats 4000000 in
set_option maxRecDepth 100000 in
theorem kX0_init_40 (l : Launch) {D : va_G} {cy : Nat → ClassId} {b : Nat} {E : Nat → va_E} (h40 : E 40 = .inr (0, [.null, .int 0, .null, .null, .null, .null, .null, .null])) : gV l yX0_init cX0_init 3 1 6 28040 D cy b 41 E [.ref (b + 40), .ref (b + 2), .int 1] (fun u => u.1 = 47 ∧ (∀ j, j < 41 → j ≠ 40 → u.2 j = E j) ∧ u.2 40 = .inr (0, [.ref (b + 2), .int (-1), .ref (b + 41), .ref (b + 42), .ref (b + 43), .ref (b + 44), .ref (b + 45), .ref (b + 46)]) ∧ u.2 41 = .inl (cy 2, 1536, .inr (.inl (fun _ => 0))) ∧ u.2 42 = .inl (cy 2, 1536, .inr (.inl (fun _ => 0))) ∧ u.2 43 = .inl (cy 2, 384, .inr (.inl (fun _ => 0))) ∧ u.2 44 = .inl (cy 2, 12288, .inr (.inl (fun _ => 0))) ∧ u.2 45 = .inl (cy 2, 8, .inr (.inl (fun _ => 0))) ∧ u.2 46 = .inl (cy 2, 12288, .inr (.inl (fun _ => 0)))) := by
  refine gV_of (by decide) (Nat.le_of_ble_eq_true rfl) ?_
  intro p e s m args below meth c S hr hlk hin hsz ls hl hG
  have hx := S.1
  have hb := S.2.1
  have hl : lv_has ls 3 [(0, .ref (b + 40)), (1, .ref (b + 2)), (2, .int 1)] := hl
  refine lv_aload_n hx hb dX0_init_0 rfl (lv_at hl 0 rfl) ?_
  refine g_objInit S wm_401 wm_203 wm_204 hl.1 dX0_init_1 ⟨Nat.le_of_ble_eq_true rfl, Nat.le_of_ble_eq_true rfl⟩ ?_
  refine lv_aload_n hx hb dX0_init_4 rfl (lv_at hl 0 rfl) ?_
  refine lv_iconst (v := (-1)) hx hb dX0_init_5 (by decide) ?_
  refine g_put (fs' := [.null, .int (-1), .null, .null, .null, .null, .null, .null]) S hG 40 1 h40 cpX0 wm_403 dX0_init_6 rfl (by omega) (by decide) (Nat.le_of_ble_eq_true rfl) rfl rfl rfl (fun H locs hG => ?_)
  refine lv_aload_n hx hb dX0_init_9 rfl (lv_at hl 0 rfl) ?_
  refine lv_sipush (v := 1536) hx hb dX0_init_10 (by decide) ?_
  refine g_newa (atype := .long) (ty := .long) (N := 1536) (a0 := (1536, .inr (.inl (fun _ => 0)))) S hG (by omega) 2 rfl rfl (fun h => h) wm_427 (fun _ => rfl) dX0_init_13 (by decide) (by decide) (by decide) ⟨Nat.le_of_ble_eq_true rfl, Nat.le_of_ble_eq_true rfl⟩ (fun H hG => ?_)
  refine W.widen (k := 1) (n := 1536) (Nat.le_of_ble_eq_true rfl) (Nat.le_of_ble_eq_true rfl) ?_
  refine g_putF (fs' := [.null, .int (-1), .ref (b + 41), .null, .null, .null, .null, .null]) S hG (hin rfl) 40 2 rfl cpX0 wm_404 dX0_init_15 rfl (by omega) (by decide) (Nat.le_of_ble_eq_true rfl) rfl rfl rfl rfl (fun H locs hG => ?_)
  refine lv_aload_n hx hb dX0_init_18 rfl (lv_at hl 0 rfl) ?_
  refine lv_sipush (v := 1536) hx hb dX0_init_19 (by decide) ?_
  refine g_newa (atype := .long) (ty := .long) (N := 1536) (a0 := (1536, .inr (.inl (fun _ => 0)))) S hG (by omega) 2 rfl rfl (fun h => h) wm_427 (fun _ => rfl) dX0_init_22 (by decide) (by decide) (by decide) ⟨Nat.le_of_ble_eq_true rfl, Nat.le_of_ble_eq_true rfl⟩ (fun H hG => ?_)
  refine W.widen (k := 2) (n := 3072) (Nat.le_of_ble_eq_true rfl) (Nat.le_of_ble_eq_true rfl) ?_
  refine g_putF (fs' := [.null, .int (-1), .ref (b + 41), .ref (b + 42), .null, .null, .null, .null]) S hG (hin rfl) 40 3 rfl cpX0 wm_405 dX0_init_24 rfl (by omega) (by decide) (Nat.le_of_ble_eq_true rfl) rfl rfl rfl rfl (fun H locs hG => ?_)
  refine lv_aload_n hx hb dX0_init_27 rfl (lv_at hl 0 rfl) ?_
  refine lv_sipush (v := 384) hx hb dX0_init_28 (by decide) ?_
  refine g_newa (atype := .long) (ty := .long) (N := 384) (a0 := (384, .inr (.inl (fun _ => 0)))) S hG (by omega) 2 rfl rfl (fun h => h) wm_427 (fun _ => rfl) dX0_init_31 (by decide) (by decide) (by decide) ⟨Nat.le_of_ble_eq_true rfl, Nat.le_of_ble_eq_true rfl⟩ (fun H hG => ?_)
  refine W.widen (k := 3) (n := 3456) (Nat.le_of_ble_eq_true rfl) (Nat.le_of_ble_eq_true rfl) ?_
  refine g_putF (fs' := [.null, .int (-1), .ref (b + 41), .ref (b + 42), .ref (b + 43), .null, .null, .null]) S hG (hin rfl) 40 4 rfl cpX0 wm_406 dX0_init_33 rfl (by omega) (by decide) (Nat.le_of_ble_eq_true rfl) rfl rfl rfl rfl (fun H locs hG => ?_)
  refine lv_aload_n hx hb dX0_init_36 rfl (lv_at hl 0 rfl) ?_
  refine lv_sipush (v := 12288) hx hb dX0_init_37 (by decide) ?_
  refine g_newa (atype := .long) (ty := .long) (N := 12288) (a0 := (12288, .inr (.inl (fun _ => 0)))) S hG (by omega) 2 rfl rfl (fun h => h) wm_427 (fun _ => rfl) dX0_init_40 (by decide) (by decide) (by decide) ⟨Nat.le_of_ble_eq_true rfl, Nat.le_of_ble_eq_true rfl⟩ (fun H hG => ?_)
  refine W.widen (k := 4) (n := 15744) (Nat.le_of_ble_eq_true rfl) (Nat.le_of_ble_eq_true rfl) ?_
  refine g_putF (fs' := [.null, .int (-1), .ref (b + 41), .ref (b + 42), .ref (b + 43), .ref (b + 44), .null, .null]) S hG (hin rfl) 40 5 rfl cpX0 wm_407 dX0_init_42 rfl (by omega) (by decide) (Nat.le_of_ble_eq_true rfl) rfl rfl rfl rfl (fun H locs hG => ?_)
  refine lv_aload_n hx hb dX0_init_45 rfl (lv_at hl 0 rfl) ?_
  refine lv_bipush (v := 8) hx hb dX0_init_46 (by decide) ?_
  refine g_newa (atype := .long) (ty := .long) (N := 8) (a0 := (8, .inr (.inl (fun _ => 0)))) S hG (by omega) 2 rfl rfl (fun h => h) wm_427 (fun _ => rfl) dX0_init_48 (by decide) (by decide) (by decide) ⟨Nat.le_of_ble_eq_true rfl, Nat.le_of_ble_eq_true rfl⟩ (fun H hG => ?_)
  refine W.widen (k := 5) (n := 15752) (Nat.le_of_ble_eq_true rfl) (Nat.le_of_ble_eq_true rfl) ?_
  refine g_putF (fs' := [.null, .int (-1), .ref (b + 41), .ref (b + 42), .ref (b + 43), .ref (b + 44), .ref (b + 45), .null]) S hG (hin rfl) 40 6 rfl cpX0 wm_408 dX0_init_50 rfl (by omega) (by decide) (Nat.le_of_ble_eq_true rfl) rfl rfl rfl rfl (fun H locs hG => ?_)
  refine lv_aload_n hx hb dX0_init_53 rfl (lv_at hl 0 rfl) ?_
  refine lv_aload_n hx hb dX0_init_54 rfl (lv_at hl 1 rfl) ?_
  refine g_putF (fs' := [.ref (b + 2), .int (-1), .ref (b + 41), .ref (b + 42), .ref (b + 43), .ref (b + 44), .ref (b + 45), .null]) S hG (hin rfl) 40 0 rfl cpX0 wm_402 dX0_init_55 rfl (by omega) (by decide) (Nat.le_of_ble_eq_true rfl) rfl rfl rfl rfl (fun H locs hG => ?_)
  refine lv_aload_n hx hb dX0_init_58 rfl (lv_at hl 0 rfl) ?_
  refine lv_iload_n hx hb dX0_init_59 rfl (lv_at hl 2 rfl) ?_
  refine lv_if_eq (tgt := 69) hx hb dX0_init_60 (by decide) (fun c_1 => absurd c_1 (by decide)) (fun c_1 => ?_)
  refine lv_sipush (v := 12288) hx hb dX0_init_63 (by decide) ?_
  refine lv_goto (tgt := 70) hx hb dX0_init_66 (by decide) ?_
  refine g_newa (atype := .long) (ty := .long) (N := 12288) (a0 := (12288, .inr (.inl (fun _ => 0)))) S hG (by omega) 2 rfl rfl (fun h => h) wm_427 (fun _ => rfl) dX0_init_70 (by decide) (by decide) (by decide) ⟨Nat.le_of_ble_eq_true rfl, Nat.le_of_ble_eq_true rfl⟩ (fun H hG => ?_)
  refine W.widen (k := 6) (n := 28040) (Nat.le_of_ble_eq_true rfl) (Nat.le_of_ble_eq_true rfl) ?_
  refine g_putF (fs' := [.ref (b + 2), .int (-1), .ref (b + 41), .ref (b + 42), .ref (b + 43), .ref (b + 44), .ref (b + 45), .ref (b + 46)]) S hG (hin rfl) 40 7 rfl cpX0 wm_409 dX0_init_72 rfl (by omega) (by decide) (Nat.le_of_ble_eq_true rfl) rfl rfl rfl rfl (fun H locs hG => ?_)
  exact g_vret S hr hlk hG (by omega) dX0_init_75 ⟨Nat.le_of_ble_eq_true rfl, Nat.le_of_ble_eq_true rfl⟩ ⟨rfl, fun j h1 h2 => (upE_n (by omega)).trans ((upE_n (by omega)).trans ((upE_n (by omega)).trans ((upE_n (by omega)).trans ((upE_n (by omega)).trans ((upE_n (by omega)).trans ((upE_n (by omega)).trans ((upE_n (by omega)).trans ((upE_n (by omega)).trans ((upE_n (by omega)).trans ((upE_n (by omega)).trans ((upE_n (by omega)).trans ((upE_n (by omega)).trans ((upE_n (by omega)).trans (rfl)))))))))))))), rfl, rfl, rfl, rfl, rfl, rfl, rfl⟩
set_option maxHeartbeats 4000000 in
set_option maxRecDepth 100000 in
theorem kX0_init_48 (l : Launch) {D : va_G} {cy : Nat → ClassId} {b : Nat} {E : Nat → va_E} (h48 : E 48 = .inr (0, [.null, .int 0, .null, .null, .null, .null, .null, .null])) : gV l yX0_init cX0_init 3 1 6 15752 D cy b 49 E [.ref (b + 48), .ref (b + 2), .int 0] (fun u => u.1 = 55 ∧ (∀ j, j < 49 → j ≠ 48 → u.2 j = E j) ∧ u.2 48 = .inr (0, [.ref (b + 2), .int (-1), .ref (b + 49), .ref (b + 50), .ref (b + 51), .ref (b + 52), .ref (b + 53), .ref (b + 54)]) ∧ u.2 49 = .inl (cy 2, 1536, .inr (.inl (fun _ => 0))) ∧ u.2 50 = .inl (cy 2, 1536, .inr (.inl (fun _ => 0))) ∧ u.2 51 = .inl (cy 2, 384, .inr (.inl (fun _ => 0))) ∧ u.2 52 = .inl (cy 2, 12288, .inr (.inl (fun _ => 0))) ∧ u.2 53 = .inl (cy 2, 8, .inr (.inl (fun _ => 0))) ∧ u.2 54 = .inl (cy 2, 0, .inr (.inl (fun _ => 0)))) := by
  refine gV_of (by decide) (Nat.le_of_ble_eq_true rfl) ?_
  intro p e s m args below meth c S hr hlk hin hsz ls hl hG
  have hx := S.1
  have hb := S.2.1
  have hl : lv_has ls 3 [(0, .ref (b + 48)), (1, .ref (b + 2)), (2, .int 0)] := hl
  refine lv_aload_n hx hb dX0_init_0 rfl (lv_at hl 0 rfl) ?_
  refine g_objInit S wm_401 wm_203 wm_204 hl.1 dX0_init_1 ⟨Nat.le_of_ble_eq_true rfl, Nat.le_of_ble_eq_true rfl⟩ ?_
  refine lv_aload_n hx hb dX0_init_4 rfl (lv_at hl 0 rfl) ?_
  refine lv_iconst (v := (-1)) hx hb dX0_init_5 (by decide) ?_
  refine g_put (fs' := [.null, .int (-1), .null, .null, .null, .null, .null, .null]) S hG 48 1 h48 cpX0 wm_403 dX0_init_6 rfl (by omega) (by decide) (Nat.le_of_ble_eq_true rfl) rfl rfl rfl (fun H locs hG => ?_)
  refine lv_aload_n hx hb dX0_init_9 rfl (lv_at hl 0 rfl) ?_
  refine lv_sipush (v := 1536) hx hb dX0_init_10 (by decide) ?_
  refine g_newa (atype := .long) (ty := .long) (N := 1536) (a0 := (1536, .inr (.inl (fun _ => 0)))) S hG (by omega) 2 rfl rfl (fun h => h) wm_427 (fun _ => rfl) dX0_init_13 (by decide) (by decide) (by decide) ⟨Nat.le_of_ble_eq_true rfl, Nat.le_of_ble_eq_true rfl⟩ (fun H hG => ?_)
  refine W.widen (k := 1) (n := 1536) (Nat.le_of_ble_eq_true rfl) (Nat.le_of_ble_eq_true rfl) ?_
  refine g_putF (fs' := [.null, .int (-1), .ref (b + 49), .null, .null, .null, .null, .null]) S hG (hin rfl) 48 2 rfl cpX0 wm_404 dX0_init_15 rfl (by omega) (by decide) (Nat.le_of_ble_eq_true rfl) rfl rfl rfl rfl (fun H locs hG => ?_)
  refine lv_aload_n hx hb dX0_init_18 rfl (lv_at hl 0 rfl) ?_
  refine lv_sipush (v := 1536) hx hb dX0_init_19 (by decide) ?_
  refine g_newa (atype := .long) (ty := .long) (N := 1536) (a0 := (1536, .inr (.inl (fun _ => 0)))) S hG (by omega) 2 rfl rfl (fun h => h) wm_427 (fun _ => rfl) dX0_init_22 (by decide) (by decide) (by decide) ⟨Nat.le_of_ble_eq_true rfl, Nat.le_of_ble_eq_true rfl⟩ (fun H hG => ?_)
  refine W.widen (k := 2) (n := 3072) (Nat.le_of_ble_eq_true rfl) (Nat.le_of_ble_eq_true rfl) ?_
  refine g_putF (fs' := [.null, .int (-1), .ref (b + 49), .ref (b + 50), .null, .null, .null, .null]) S hG (hin rfl) 48 3 rfl cpX0 wm_405 dX0_init_24 rfl (by omega) (by decide) (Nat.le_of_ble_eq_true rfl) rfl rfl rfl rfl (fun H locs hG => ?_)
  refine lv_aload_n hx hb dX0_init_27 rfl (lv_at hl 0 rfl) ?_
  refine lv_sipush (v := 384) hx hb dX0_init_28 (by decide) ?_
  refine g_newa (atype := .long) (ty := .long) (N := 384) (a0 := (384, .inr (.inl (fun _ => 0)))) S hG (by omega) 2 rfl rfl (fun h => h) wm_427 (fun _ => rfl) dX0_init_31 (by decide) (by decide) (by decide) ⟨Nat.le_of_ble_eq_true rfl, Nat.le_of_ble_eq_true rfl⟩ (fun H hG => ?_)
  refine W.widen (k := 3) (n := 3456) (Nat.le_of_ble_eq_true rfl) (Nat.le_of_ble_eq_true rfl) ?_
  refine g_putF (fs' := [.null, .int (-1), .ref (b + 49), .ref (b + 50), .ref (b + 51), .null, .null, .null]) S hG (hin rfl) 48 4 rfl cpX0 wm_406 dX0_init_33 rfl (by omega) (by decide) (Nat.le_of_ble_eq_true rfl) rfl rfl rfl rfl (fun H locs hG => ?_)
  refine lv_aload_n hx hb dX0_init_36 rfl (lv_at hl 0 rfl) ?_
  refine lv_sipush (v := 12288) hx hb dX0_init_37 (by decide) ?_
  refine g_newa (atype := .long) (ty := .long) (N := 12288) (a0 := (12288, .inr (.inl (fun _ => 0)))) S hG (by omega) 2 rfl rfl (fun h => h) wm_427 (fun _ => rfl) dX0_init_40 (by decide) (by decide) (by decide) ⟨Nat.le_of_ble_eq_true rfl, Nat.le_of_ble_eq_true rfl⟩ (fun H hG => ?_)
  refine W.widen (k := 4) (n := 15744) (Nat.le_of_ble_eq_true rfl) (Nat.le_of_ble_eq_true rfl) ?_
  refine g_putF (fs' := [.null, .int (-1), .ref (b + 49), .ref (b + 50), .ref (b + 51), .ref (b + 52), .null, .null]) S hG (hin rfl) 48 5 rfl cpX0 wm_407 dX0_init_42 rfl (by omega) (by decide) (Nat.le_of_ble_eq_true rfl) rfl rfl rfl rfl (fun H locs hG => ?_)
  refine lv_aload_n hx hb dX0_init_45 rfl (lv_at hl 0 rfl) ?_
  refine lv_bipush (v := 8) hx hb dX0_init_46 (by decide) ?_
  refine g_newa (atype := .long) (ty := .long) (N := 8) (a0 := (8, .inr (.inl (fun _ => 0)))) S hG (by omega) 2 rfl rfl (fun h => h) wm_427 (fun _ => rfl) dX0_init_48 (by decide) (by decide) (by decide) ⟨Nat.le_of_ble_eq_true rfl, Nat.le_of_ble_eq_true rfl⟩ (fun H hG => ?_)
  refine W.widen (k := 5) (n := 15752) (Nat.le_of_ble_eq_true rfl) (Nat.le_of_ble_eq_true rfl) ?_
  refine g_putF (fs' := [.null, .int (-1), .ref (b + 49), .ref (b + 50), .ref (b + 51), .ref (b + 52), .ref (b + 53), .null]) S hG (hin rfl) 48 6 rfl cpX0 wm_408 dX0_init_50 rfl (by omega) (by decide) (Nat.le_of_ble_eq_true rfl) rfl rfl rfl rfl (fun H locs hG => ?_)
  refine lv_aload_n hx hb dX0_init_53 rfl (lv_at hl 0 rfl) ?_
  refine lv_aload_n hx hb dX0_init_54 rfl (lv_at hl 1 rfl) ?_
  refine g_putF (fs' := [.ref (b + 2), .int (-1), .ref (b + 49), .ref (b + 50), .ref (b + 51), .ref (b + 52), .ref (b + 53), .null]) S hG (hin rfl) 48 0 rfl cpX0 wm_402 dX0_init_55 rfl (by omega) (by decide) (Nat.le_of_ble_eq_true rfl) rfl rfl rfl rfl (fun H locs hG => ?_)
  refine lv_aload_n hx hb dX0_init_58 rfl (lv_at hl 0 rfl) ?_
  refine lv_iload_n hx hb dX0_init_59 rfl (lv_at hl 2 rfl) ?_
  refine lv_if_eq (tgt := 69) hx hb dX0_init_60 (by decide) (fun c_1 => ?_) (fun c_1 => absurd c_1 (by decide))
  refine lv_iconst (v := 0) hx hb dX0_init_69 (by decide) ?_
  refine g_newa (atype := .long) (ty := .long) (N := 0) (a0 := (0, .inr (.inl (fun _ => 0)))) S hG (by omega) 2 rfl rfl (fun h => h) wm_427 (fun _ => rfl) dX0_init_70 (by decide) (by decide) (by decide) ⟨Nat.le_of_ble_eq_true rfl, Nat.le_of_ble_eq_true rfl⟩ (fun H hG => ?_)
  refine W.widen (k := 6) (n := 15752) (Nat.le_of_ble_eq_true rfl) (Nat.le_of_ble_eq_true rfl) ?_
  refine g_putF (fs' := [.ref (b + 2), .int (-1), .ref (b + 49), .ref (b + 50), .ref (b + 51), .ref (b + 52), .ref (b + 53), .ref (b + 54)]) S hG (hin rfl) 48 7 rfl cpX0 wm_409 dX0_init_72 rfl (by omega) (by decide) (Nat.le_of_ble_eq_true rfl) rfl rfl rfl rfl (fun H locs hG => ?_)
  exact g_vret S hr hlk hG (by omega) dX0_init_75 ⟨Nat.le_of_ble_eq_true rfl, Nat.le_of_ble_eq_true rfl⟩ ⟨rfl, fun j h1 h2 => (upE_n (by omega)).trans ((upE_n (by omega)).trans ((upE_n (by omega)).trans ((upE_n (by omega)).trans ((upE_n (by omega)).trans ((upE_n (by omega)).trans ((upE_n (by omega)).trans ((upE_n (by omega)).trans ((upE_n (by omega)).trans ((upE_n (by omega)).trans ((upE_n (by omega)).trans ((upE_n (by omega)).trans ((upE_n (by omega)).trans ((upE_n (by omega)).trans (rfl)))))))))))))), rfl, rfl, rfl, rfl, rfl, rfl, rfl⟩
theorem wI_11_57 : gWI "GrownKinds" 57 yX4_init cX4_init 3 := ⟨wm_430, wm_431, wm_181, wm_432, by decide +kernel, by decide +kernel, rfl⟩
set_option maxHeartbeats 4000000 in
set_option maxRecDepth 100000 in
theorem kX4_init_47 (l : Launch) {D : va_G} {cy : Nat → ClassId} {b : Nat} {E : Nat → va_E} (h47 : E 47 = .inr (4, [.null, .null, .int 0, .null, .null, .null, .null, .null])) : gV l yX4_init cX4_init 3 1 5 12998 D cy b 55 E [.ref (b + 47), .ref (b + 2), .ref (b + 48)] (fun u => u.1 = 60 ∧ (∀ j, j < 55 → j ≠ 47 → u.2 j = E j) ∧ u.2 47 = .inr (4, [.ref (b + 2), .ref (b + 48), .int 0, .ref (b + 55), .ref (b + 56), .ref (b + 57), .ref (b + 58), .ref (b + 59)]) ∧ u.2 55 = .inl (cy 3, 26, .inl (fun _ => 0)) ∧ u.2 56 = .inl (cy 3, 60, .inl (fun _ => 0)) ∧ u.2 57 = .inl (cy 2, 48, .inr (.inl (fun _ => 0))) ∧ u.2 58 = .inl (cy 2, 9984, .inr (.inl (fun _ => 0))) ∧ u.2 59 = .inl (cy 2, 2880, .inr (.inl (fun _ => 0)))) := by
  refine gV_of (by decide) (Nat.le_of_ble_eq_true rfl) ?_
  intro p e s m args below meth c S hr hlk hin hsz ls hl hG
  have hx := S.1
  have hb := S.2.1
  have hl : lv_has ls 3 [(0, .ref (b + 47)), (1, .ref (b + 2)), (2, .ref (b + 48))] := hl
  refine lv_aload_n hx hb dX4_init_0 rfl (lv_at hl 0 rfl) ?_
  refine g_objInit S wm_433 wm_203 wm_204 hl.1 dX4_init_1 ⟨Nat.le_of_ble_eq_true rfl, Nat.le_of_ble_eq_true rfl⟩ ?_
  refine lv_aload_n hx hb dX4_init_4 rfl (lv_at hl 0 rfl) ?_
  refine lv_iconst (v := 0) hx hb dX4_init_5 (by decide) ?_
  refine g_put (fs' := [.null, .null, .int 0, .null, .null, .null, .null, .null]) S hG 47 2 h47 cpX4 wm_436 dX4_init_6 rfl (by omega) (by decide) (Nat.le_of_ble_eq_true rfl) rfl rfl rfl (fun H locs hG => ?_)
  refine lv_aload_n hx hb dX4_init_9 rfl (lv_at hl 0 rfl) ?_
  refine lv_bipush (v := 26) hx hb dX4_init_10 (by decide) ?_
  refine g_newa (atype := .boolean) (ty := .boolean) (N := 26) (a0 := (26, .inl (fun _ => 0))) S hG (by omega) 3 rfl rfl (fun h => h) wm_459 (fun _ => rfl) dX4_init_12 (by decide) (by decide) (by decide) ⟨Nat.le_of_ble_eq_true rfl, Nat.le_of_ble_eq_true rfl⟩ (fun H hG => ?_)
  refine W.widen (k := 1) (n := 26) (Nat.le_of_ble_eq_true rfl) (Nat.le_of_ble_eq_true rfl) ?_
  refine g_putF (fs' := [.null, .null, .int 0, .ref (b + 55), .null, .null, .null, .null]) S hG (hin rfl) 47 3 rfl cpX4 wm_437 dX4_init_14 rfl (by omega) (by decide) (Nat.le_of_ble_eq_true rfl) rfl rfl rfl rfl (fun H locs hG => ?_)
  refine lv_aload_n hx hb dX4_init_17 rfl (lv_at hl 0 rfl) ?_
  refine lv_bipush (v := 60) hx hb dX4_init_18 (by decide) ?_
  refine g_newa (atype := .boolean) (ty := .boolean) (N := 60) (a0 := (60, .inl (fun _ => 0))) S hG (by omega) 3 rfl rfl (fun h => h) wm_459 (fun _ => rfl) dX4_init_20 (by decide) (by decide) (by decide) ⟨Nat.le_of_ble_eq_true rfl, Nat.le_of_ble_eq_true rfl⟩ (fun H hG => ?_)
  refine W.widen (k := 2) (n := 86) (Nat.le_of_ble_eq_true rfl) (Nat.le_of_ble_eq_true rfl) ?_
  refine g_putF (fs' := [.null, .null, .int 0, .ref (b + 55), .ref (b + 56), .null, .null, .null]) S hG (hin rfl) 47 4 rfl cpX4 wm_438 dX4_init_22 rfl (by omega) (by decide) (Nat.le_of_ble_eq_true rfl) rfl rfl rfl rfl (fun H locs hG => ?_)
  refine lv_aload_n hx hb dX4_init_25 rfl (lv_at hl 0 rfl) ?_
  refine lv_bipush (v := 48) hx hb dX4_init_26 (by decide) ?_
  refine g_newa (atype := .long) (ty := .long) (N := 48) (a0 := (48, .inr (.inl (fun _ => 0)))) S hG (by omega) 2 rfl rfl (fun h => h) wm_427 (fun _ => rfl) dX4_init_28 (by decide) (by decide) (by decide) ⟨Nat.le_of_ble_eq_true rfl, Nat.le_of_ble_eq_true rfl⟩ (fun H hG => ?_)
  refine W.widen (k := 3) (n := 134) (Nat.le_of_ble_eq_true rfl) (Nat.le_of_ble_eq_true rfl) ?_
  refine g_putF (fs' := [.null, .null, .int 0, .ref (b + 55), .ref (b + 56), .ref (b + 57), .null, .null]) S hG (hin rfl) 47 5 rfl cpX4 wm_439 dX4_init_30 rfl (by omega) (by decide) (Nat.le_of_ble_eq_true rfl) rfl rfl rfl rfl (fun H locs hG => ?_)
  refine lv_aload_n hx hb dX4_init_33 rfl (lv_at hl 0 rfl) ?_
  refine lv_sipush (v := 9984) hx hb dX4_init_34 (by decide) ?_
  refine g_newa (atype := .long) (ty := .long) (N := 9984) (a0 := (9984, .inr (.inl (fun _ => 0)))) S hG (by omega) 2 rfl rfl (fun h => h) wm_427 (fun _ => rfl) dX4_init_37 (by decide) (by decide) (by decide) ⟨Nat.le_of_ble_eq_true rfl, Nat.le_of_ble_eq_true rfl⟩ (fun H hG => ?_)
  refine W.widen (k := 4) (n := 10118) (Nat.le_of_ble_eq_true rfl) (Nat.le_of_ble_eq_true rfl) ?_
  refine g_putF (fs' := [.null, .null, .int 0, .ref (b + 55), .ref (b + 56), .ref (b + 57), .ref (b + 58), .null]) S hG (hin rfl) 47 6 rfl cpX4 wm_440 dX4_init_39 rfl (by omega) (by decide) (Nat.le_of_ble_eq_true rfl) rfl rfl rfl rfl (fun H locs hG => ?_)
  refine lv_aload_n hx hb dX4_init_42 rfl (lv_at hl 0 rfl) ?_
  refine lv_sipush (v := 2880) hx hb dX4_init_43 (by decide) ?_
  refine g_newa (atype := .long) (ty := .long) (N := 2880) (a0 := (2880, .inr (.inl (fun _ => 0)))) S hG (by omega) 2 rfl rfl (fun h => h) wm_427 (fun _ => rfl) dX4_init_46 (by decide) (by decide) (by decide) ⟨Nat.le_of_ble_eq_true rfl, Nat.le_of_ble_eq_true rfl⟩ (fun H hG => ?_)
  refine W.widen (k := 5) (n := 12998) (Nat.le_of_ble_eq_true rfl) (Nat.le_of_ble_eq_true rfl) ?_
  refine g_putF (fs' := [.null, .null, .int 0, .ref (b + 55), .ref (b + 56), .ref (b + 57), .ref (b + 58), .ref (b + 59)]) S hG (hin rfl) 47 7 rfl cpX4 wm_441 dX4_init_48 rfl (by omega) (by decide) (Nat.le_of_ble_eq_true rfl) rfl rfl rfl rfl (fun H locs hG => ?_)
  refine lv_aload_n hx hb dX4_init_51 rfl (lv_at hl 0 rfl) ?_
  refine lv_aload_n hx hb dX4_init_52 rfl (lv_at hl 1 rfl) ?_
  refine g_putF (fs' := [.ref (b + 2), .null, .int 0, .ref (b + 55), .ref (b + 56), .ref (b + 57), .ref (b + 58), .ref (b + 59)]) S hG (hin rfl) 47 0 rfl cpX4 wm_434 dX4_init_53 rfl (by omega) (by decide) (Nat.le_of_ble_eq_true rfl) rfl rfl rfl rfl (fun H locs hG => ?_)
  refine lv_aload_n hx hb dX4_init_56 rfl (lv_at hl 0 rfl) ?_
  refine lv_aload_n hx hb dX4_init_57 rfl (lv_at hl 2 rfl) ?_
  refine g_putF (fs' := [.ref (b + 2), .ref (b + 48), .int 0, .ref (b + 55), .ref (b + 56), .ref (b + 57), .ref (b + 58), .ref (b + 59)]) S hG (hin rfl) 47 1 rfl cpX4 wm_435 dX4_init_58 rfl (by omega) (by decide) (Nat.le_of_ble_eq_true rfl) rfl rfl rfl rfl (fun H locs hG => ?_)
  exact g_vret S hr hlk hG (by omega) dX4_init_61 ⟨Nat.le_of_ble_eq_true rfl, Nat.le_of_ble_eq_true rfl⟩ ⟨rfl, fun j h1 h2 => (upE_n (by omega)).trans ((upE_n (by omega)).trans ((upE_n (by omega)).trans ((upE_n (by omega)).trans ((upE_n (by omega)).trans ((upE_n (by omega)).trans ((upE_n (by omega)).trans ((upE_n (by omega)).trans ((upE_n (by omega)).trans ((upE_n (by omega)).trans ((upE_n (by omega)).trans ((upE_n (by omega)).trans ((upE_n (by omega)).trans (rfl))))))))))))), rfl, rfl, rfl, rfl, rfl, rfl⟩
theorem wI_11_68 : gWI "GrownKinds" 68 yX8_init cX8_init 3 := ⟨wm_464, wm_465, wm_183, wm_466, by decide +kernel, by decide +kernel, rfl⟩
set_option maxHeartbeats 4000000 in
set_option maxRecDepth 100000 in
theorem kX8_init_61 (l : Launch) {D : va_G} {cy : Nat → ClassId} {b : Nat} {E : Nat → va_E} (h61 : E 61 = .inr (8, [.null, .null, .int 0, .null, .null, .int 0])) : gV l yX8_init cX8_init 3 1 2 200 D cy b 62 E [.ref (b + 61), .ref (b + 2), .ref (b + 40)] (fun u => u.1 = 64 ∧ (∀ j, j < 62 → j ≠ 61 → u.2 j = E j) ∧ u.2 61 = .inr (8, [.ref (b + 2), .ref (b + 40), .int 0, .ref (b + 62), .ref (b + 63), .int 0]) ∧ u.2 62 = .inl (cy 1, 8, .inl (fun _ => 0)) ∧ u.2 63 = .inl (cy 4, 192, .inr (.inr (.inr (.inr (fun _ => none)))))) := by
  refine gV_of (by decide) (Nat.le_of_ble_eq_true rfl) ?_
  intro p e s m args below meth c S hr hlk hin hsz ls hl hG
  have hx := S.1
  have hb := S.2.1
  have hl : lv_has ls 3 [(0, .ref (b + 61)), (1, .ref (b + 2)), (2, .ref (b + 40))] := hl
  refine lv_aload_n hx hb dX8_init_0 rfl (lv_at hl 0 rfl) ?_
  refine g_objInit S wm_467 wm_203 wm_204 hl.1 dX8_init_1 ⟨Nat.le_of_ble_eq_true rfl, Nat.le_of_ble_eq_true rfl⟩ ?_
  refine lv_aload_n hx hb dX8_init_4 rfl (lv_at hl 0 rfl) ?_
  refine lv_iconst (v := 0) hx hb dX8_init_5 (by decide) ?_
  refine g_put (fs' := [.null, .null, .int 0, .null, .null, .int 0]) S hG 61 2 h61 cpX8 wm_472 dX8_init_6 rfl (by omega) (by decide) (Nat.le_of_ble_eq_true rfl) rfl rfl rfl (fun H locs hG => ?_)
  refine lv_aload_n hx hb dX8_init_9 rfl (lv_at hl 0 rfl) ?_
  refine lv_bipush (v := 8) hx hb dX8_init_10 (by decide) ?_
  refine g_newa (atype := .int) (ty := .int) (N := 8) (a0 := (8, .inl (fun _ => 0))) S hG (by omega) 1 rfl rfl (fun h => h) wm_305 (fun _ => rfl) dX8_init_12 (by decide) (by decide) (by decide) ⟨Nat.le_of_ble_eq_true rfl, Nat.le_of_ble_eq_true rfl⟩ (fun H hG => ?_)
  refine W.widen (k := 1) (n := 8) (Nat.le_of_ble_eq_true rfl) (Nat.le_of_ble_eq_true rfl) ?_
  refine g_putF (fs' := [.null, .null, .int 0, .ref (b + 62), .null, .int 0]) S hG (hin rfl) 61 3 rfl cpX8 wm_474 dX8_init_14 rfl (by omega) (by decide) (Nat.le_of_ble_eq_true rfl) rfl rfl rfl rfl (fun H locs hG => ?_)
  refine lv_aload_n hx hb dX8_init_17 rfl (lv_at hl 0 rfl) ?_
  refine lv_sipush (v := 192) hx hb dX8_init_18 (by decide) ?_
  refine g_newq (N := 192) S hG (by omega) wm_468 dX8_init_21 (by decide) (by decide) (by decide) ⟨Nat.le_of_ble_eq_true rfl, Nat.le_of_ble_eq_true rfl⟩ (fun H hG => ?_)
  refine W.widen (k := 2) (n := 200) (Nat.le_of_ble_eq_true rfl) (Nat.le_of_ble_eq_true rfl) ?_
  refine g_putF (fs' := [.null, .null, .int 0, .ref (b + 62), .ref (b + 63), .int 0]) S hG (hin rfl) 61 4 rfl cpX8 wm_476 dX8_init_24 rfl (by omega) (by decide) (Nat.le_of_ble_eq_true rfl) rfl rfl rfl rfl (fun H locs hG => ?_)
  refine lv_aload_n hx hb dX8_init_27 rfl (lv_at hl 0 rfl) ?_
  refine lv_iconst (v := 0) hx hb dX8_init_28 (by decide) ?_
  refine g_put (fs' := [.null, .null, .int 0, .ref (b + 62), .ref (b + 63), .int 0]) S hG 61 5 rfl cpX8 wm_477 dX8_init_29 rfl (by omega) (by decide) (Nat.le_of_ble_eq_true rfl) rfl rfl rfl (fun H locs hG => ?_)
  refine lv_aload_n hx hb dX8_init_32 rfl (lv_at hl 0 rfl) ?_
  refine lv_aload_n hx hb dX8_init_33 rfl (lv_at hl 1 rfl) ?_
  refine g_putF (fs' := [.ref (b + 2), .null, .int 0, .ref (b + 62), .ref (b + 63), .int 0]) S hG (hin rfl) 61 0 rfl cpX8 wm_470 dX8_init_34 rfl (by omega) (by decide) (Nat.le_of_ble_eq_true rfl) rfl rfl rfl rfl (fun H locs hG => ?_)
  refine lv_aload_n hx hb dX8_init_37 rfl (lv_at hl 0 rfl) ?_
  refine lv_aload_n hx hb dX8_init_38 rfl (lv_at hl 2 rfl) ?_
  refine g_putF (fs' := [.ref (b + 2), .ref (b + 40), .int 0, .ref (b + 62), .ref (b + 63), .int 0]) S hG (hin rfl) 61 1 rfl cpX8 wm_471 dX8_init_39 rfl (by omega) (by decide) (Nat.le_of_ble_eq_true rfl) rfl rfl rfl rfl (fun H locs hG => ?_)
  exact g_vret S hr hlk hG (by omega) dX8_init_42 ⟨Nat.le_of_ble_eq_true rfl, Nat.le_of_ble_eq_true rfl⟩ ⟨rfl, fun j h1 h2 => (upE_n (by omega)).trans ((upE_n (by omega)).trans ((upE_n (by omega)).trans ((upE_n (by omega)).trans ((upE_n (by omega)).trans ((upE_n (by omega)).trans ((upE_n (by omega)).trans ((upE_n (by omega)).trans (rfl)))))))), rfl, rfl, rfl⟩
theorem wI_11_69 : gWI "GrownKinds" 69 yX9_init cX9_init 4 := ⟨wm_491, wm_492, wm_182, wm_493, by decide +kernel, by decide +kernel, rfl⟩
set_option maxHeartbeats 4000000 in
set_option maxRecDepth 100000 in
theorem kX9_init_60 (l : Launch) {D : va_G} {cy : Nat → ClassId} {b : Nat} {E : Nat → va_E} (h60 : E 60 = .inr (9, [.null, .null, .null, .null, .int 0, .int 0, .int 0, .int 0, .int 0, .null, .int 0, .null, .int 0, .int 0, .int 0])) : gV l yX9_init cX9_init 4 1 3 1382 D cy b 64 E [.ref (b + 60), .ref (b + 2), .ref (b + 40), .ref (b + 61)] (fun u => u.1 = 67 ∧ (∀ j, j < 64 → j ≠ 60 → u.2 j = E j) ∧ u.2 60 = .inr (9, [.ref (b + 2), .ref (b + 40), .ref (b + 61), .ref (b + 64), .int 0, .int 0, .int 1, .int 0, .int 0, .ref (b + 65), .int 0, .ref (b + 66), .int 0, .int (-1), .int (-1)]) ∧ u.2 64 = .inl (cy 0, 256, .inl (fun _ => 0)) ∧ u.2 65 = .inl (cy 1, 26, .inl (fun _ => 0)) ∧ u.2 66 = .inl (cy 1, 1100, .inl (fun _ => 0))) := by
  refine gV_of (by decide) (Nat.le_of_ble_eq_true rfl) ?_
  intro p e s m args below meth c S hr hlk hin hsz ls hl hG
  have hx := S.1
  have hb := S.2.1
  have hl : lv_has ls 4 [(0, .ref (b + 60)), (1, .ref (b + 2)), (2, .ref (b + 40)), (3, .ref (b + 61))] := hl
  refine lv_aload_n hx hb dX9_init_0 rfl (lv_at hl 0 rfl) ?_
  refine g_objInit S wm_494 wm_203 wm_204 hl.1 dX9_init_1 ⟨Nat.le_of_ble_eq_true rfl, Nat.le_of_ble_eq_true rfl⟩ ?_
  refine lv_aload_n hx hb dX9_init_4 rfl (lv_at hl 0 rfl) ?_
  refine lv_sipush (v := 256) hx hb dX9_init_5 (by decide) ?_
  refine g_newa (atype := .byte) (ty := .byte) (N := 256) (a0 := (256, .inl (fun _ => 0))) S hG (by omega) 0 rfl rfl (fun h => h) wm_304 (fun _ => rfl) dX9_init_8 (by decide) (by decide) (by decide) ⟨Nat.le_of_ble_eq_true rfl, Nat.le_of_ble_eq_true rfl⟩ (fun H hG => ?_)
  refine W.widen (k := 1) (n := 256) (Nat.le_of_ble_eq_true rfl) (Nat.le_of_ble_eq_true rfl) ?_
  refine g_put (fs' := [.null, .null, .null, .ref (b + 64), .int 0, .int 0, .int 0, .int 0, .int 0, .null, .int 0, .null, .int 0, .int 0, .int 0]) S hG 60 3 h60 cpX9 wm_498 dX9_init_10 rfl (by omega) (by decide) (Nat.le_of_ble_eq_true rfl) rfl rfl rfl (fun H locs hG => ?_)
  refine lv_aload_n hx hb dX9_init_13 rfl (lv_at hl 0 rfl) ?_
  refine lv_iconst (v := 0) hx hb dX9_init_14 (by decide) ?_
  refine g_put (fs' := [.null, .null, .null, .ref (b + 64), .int 0, .int 0, .int 0, .int 0, .int 0, .null, .int 0, .null, .int 0, .int 0, .int 0]) S hG 60 4 rfl cpX9 wm_500 dX9_init_15 rfl (by omega) (by decide) (Nat.le_of_ble_eq_true rfl) rfl rfl rfl (fun H locs hG => ?_)
  refine lv_aload_n hx hb dX9_init_18 rfl (lv_at hl 0 rfl) ?_
  refine lv_iconst (v := 0) hx hb dX9_init_19 (by decide) ?_
  refine g_put (fs' := [.null, .null, .null, .ref (b + 64), .int 0, .int 0, .int 0, .int 0, .int 0, .null, .int 0, .null, .int 0, .int 0, .int 0]) S hG 60 5 rfl cpX9 wm_502 dX9_init_20 rfl (by omega) (by decide) (Nat.le_of_ble_eq_true rfl) rfl rfl rfl (fun H locs hG => ?_)
  refine lv_aload_n hx hb dX9_init_23 rfl (lv_at hl 0 rfl) ?_
  refine lv_iconst (v := 1) hx hb dX9_init_24 (by decide) ?_
  refine g_put (fs' := [.null, .null, .null, .ref (b + 64), .int 0, .int 0, .int 1, .int 0, .int 0, .null, .int 0, .null, .int 0, .int 0, .int 0]) S hG 60 6 rfl cpX9 wm_505 dX9_init_25 rfl (by omega) (by decide) (Nat.le_of_ble_eq_true rfl) rfl rfl rfl (fun H locs hG => ?_)
  refine lv_aload_n hx hb dX9_init_28 rfl (lv_at hl 0 rfl) ?_
  refine lv_iconst (v := 0) hx hb dX9_init_29 (by decide) ?_
  refine g_put (fs' := [.null, .null, .null, .ref (b + 64), .int 0, .int 0, .int 1, .int 0, .int 0, .null, .int 0, .null, .int 0, .int 0, .int 0]) S hG 60 7 rfl cpX9 wm_508 dX9_init_30 rfl (by omega) (by decide) (Nat.le_of_ble_eq_true rfl) rfl rfl rfl (fun H locs hG => ?_)
  refine lv_aload_n hx hb dX9_init_33 rfl (lv_at hl 0 rfl) ?_
  refine lv_iconst (v := 0) hx hb dX9_init_34 (by decide) ?_
  refine g_put (fs' := [.null, .null, .null, .ref (b + 64), .int 0, .int 0, .int 1, .int 0, .int 0, .null, .int 0, .null, .int 0, .int 0, .int 0]) S hG 60 8 rfl cpX9 wm_510 dX9_init_35 rfl (by omega) (by decide) (Nat.le_of_ble_eq_true rfl) rfl rfl rfl (fun H locs hG => ?_)
  refine lv_aload_n hx hb dX9_init_38 rfl (lv_at hl 0 rfl) ?_
  refine lv_bipush (v := 26) hx hb dX9_init_39 (by decide) ?_
  refine g_newa (atype := .int) (ty := .int) (N := 26) (a0 := (26, .inl (fun _ => 0))) S hG (by omega) 1 rfl rfl (fun h => h) wm_305 (fun _ => rfl) dX9_init_41 (by decide) (by decide) (by decide) ⟨Nat.le_of_ble_eq_true rfl, Nat.le_of_ble_eq_true rfl⟩ (fun H hG => ?_)
  refine W.widen (k := 2) (n := 282) (Nat.le_of_ble_eq_true rfl) (Nat.le_of_ble_eq_true rfl) ?_
  refine g_putF (fs' := [.null, .null, .null, .ref (b + 64), .int 0, .int 0, .int 1, .int 0, .int 0, .ref (b + 65), .int 0, .null, .int 0, .int 0, .int 0]) S hG (hin rfl) 60 9 rfl cpX9 wm_512 dX9_init_43 rfl (by omega) (by decide) (Nat.le_of_ble_eq_true rfl) rfl rfl rfl rfl (fun H locs hG => ?_)
  refine lv_aload_n hx hb dX9_init_46 rfl (lv_at hl 0 rfl) ?_
  refine lv_iconst (v := 0) hx hb dX9_init_47 (by decide) ?_
  refine g_put (fs' := [.null, .null, .null, .ref (b + 64), .int 0, .int 0, .int 1, .int 0, .int 0, .ref (b + 65), .int 0, .null, .int 0, .int 0, .int 0]) S hG 60 10 rfl cpX9 wm_515 dX9_init_48 rfl (by omega) (by decide) (Nat.le_of_ble_eq_true rfl) rfl rfl rfl (fun H locs hG => ?_)
  refine lv_aload_n hx hb dX9_init_51 rfl (lv_at hl 0 rfl) ?_
  refine lv_sipush (v := 1100) hx hb dX9_init_52 (by decide) ?_
  refine g_newa (atype := .int) (ty := .int) (N := 1100) (a0 := (1100, .inl (fun _ => 0))) S hG (by omega) 1 rfl rfl (fun h => h) wm_305 (fun _ => rfl) dX9_init_55 (by decide) (by decide) (by decide) ⟨Nat.le_of_ble_eq_true rfl, Nat.le_of_ble_eq_true rfl⟩ (fun H hG => ?_)
  refine W.widen (k := 3) (n := 1382) (Nat.le_of_ble_eq_true rfl) (Nat.le_of_ble_eq_true rfl) ?_
  refine g_putF (fs' := [.null, .null, .null, .ref (b + 64), .int 0, .int 0, .int 1, .int 0, .int 0, .ref (b + 65), .int 0, .ref (b + 66), .int 0, .int 0, .int 0]) S hG (hin rfl) 60 11 rfl cpX9 wm_516 dX9_init_57 rfl (by omega) (by decide) (Nat.le_of_ble_eq_true rfl) rfl rfl rfl rfl (fun H locs hG => ?_)
  refine lv_aload_n hx hb dX9_init_60 rfl (lv_at hl 0 rfl) ?_
  refine lv_iconst (v := 0) hx hb dX9_init_61 (by decide) ?_
  refine g_put (fs' := [.null, .null, .null, .ref (b + 64), .int 0, .int 0, .int 1, .int 0, .int 0, .ref (b + 65), .int 0, .ref (b + 66), .int 0, .int 0, .int 0]) S hG 60 12 rfl cpX9 wm_517 dX9_init_62 rfl (by omega) (by decide) (Nat.le_of_ble_eq_true rfl) rfl rfl rfl (fun H locs hG => ?_)
  refine lv_aload_n hx hb dX9_init_65 rfl (lv_at hl 0 rfl) ?_
  refine lv_iconst (v := (-1)) hx hb dX9_init_66 (by decide) ?_
  refine g_put (fs' := [.null, .null, .null, .ref (b + 64), .int 0, .int 0, .int 1, .int 0, .int 0, .ref (b + 65), .int 0, .ref (b + 66), .int 0, .int (-1), .int 0]) S hG 60 13 rfl cpX9 wm_518 dX9_init_67 rfl (by omega) (by decide) (Nat.le_of_ble_eq_true rfl) rfl rfl rfl (fun H locs hG => ?_)
  refine lv_aload_n hx hb dX9_init_70 rfl (lv_at hl 0 rfl) ?_
  refine lv_iconst (v := (-1)) hx hb dX9_init_71 (by decide) ?_
  refine g_put (fs' := [.null, .null, .null, .ref (b + 64), .int 0, .int 0, .int 1, .int 0, .int 0, .ref (b + 65), .int 0, .ref (b + 66), .int 0, .int (-1), .int (-1)]) S hG 60 14 rfl cpX9 wm_519 dX9_init_72 rfl (by omega) (by decide) (Nat.le_of_ble_eq_true rfl) rfl rfl rfl (fun H locs hG => ?_)
  refine lv_aload_n hx hb dX9_init_75 rfl (lv_at hl 0 rfl) ?_
  refine lv_aload_n hx hb dX9_init_76 rfl (lv_at hl 1 rfl) ?_
  refine g_putF (fs' := [.ref (b + 2), .null, .null, .ref (b + 64), .int 0, .int 0, .int 1, .int 0, .int 0, .ref (b + 65), .int 0, .ref (b + 66), .int 0, .int (-1), .int (-1)]) S hG (hin rfl) 60 0 rfl cpX9 wm_495 dX9_init_77 rfl (by omega) (by decide) (Nat.le_of_ble_eq_true rfl) rfl rfl rfl rfl (fun H locs hG => ?_)
  refine lv_aload_n hx hb dX9_init_80 rfl (lv_at hl 0 rfl) ?_
  refine lv_aload_n hx hb dX9_init_81 rfl (lv_at hl 2 rfl) ?_
  refine g_putF (fs' := [.ref (b + 2), .ref (b + 40), .null, .ref (b + 64), .int 0, .int 0, .int 1, .int 0, .int 0, .ref (b + 65), .int 0, .ref (b + 66), .int 0, .int (-1), .int (-1)]) S hG (hin rfl) 60 1 rfl cpX9 wm_496 dX9_init_82 rfl (by omega) (by decide) (Nat.le_of_ble_eq_true rfl) rfl rfl rfl rfl (fun H locs hG => ?_)
  refine lv_aload_n hx hb dX9_init_85 rfl (lv_at hl 0 rfl) ?_
  refine lv_aload_n hx hb dX9_init_86 rfl (lv_at hl 3 rfl) ?_
  refine g_putF (fs' := [.ref (b + 2), .ref (b + 40), .ref (b + 61), .ref (b + 64), .int 0, .int 0, .int 1, .int 0, .int 0, .ref (b + 65), .int 0, .ref (b + 66), .int 0, .int (-1), .int (-1)]) S hG (hin rfl) 60 2 rfl cpX9 wm_497 dX9_init_87 rfl (by omega) (by decide) (Nat.le_of_ble_eq_true rfl) rfl rfl rfl rfl (fun H locs hG => ?_)
  exact g_vret S hr hlk hG (by omega) dX9_init_90 ⟨Nat.le_of_ble_eq_true rfl, Nat.le_of_ble_eq_true rfl⟩ ⟨rfl, fun j h1 h2 => (upE_n (by omega)).trans ((upE_n (by omega)).trans ((upE_n (by omega)).trans ((upE_n (by omega)).trans ((upE_n (by omega)).trans ((upE_n (by omega)).trans ((upE_n (by omega)).trans ((upE_n (by omega)).trans ((upE_n (by omega)).trans ((upE_n (by omega)).trans ((upE_n (by omega)).trans ((upE_n (by omega)).trans ((upE_n (by omega)).trans ((upE_n (by omega)).trans ((upE_n (by omega)).trans ((upE_n (by omega)).trans ((upE_n (by omega)).trans ((upE_n (by omega)).trans (rfl)))))))))))))))))), rfl, rfl, rfl, rfl⟩
theorem wI_11_78 : gWI "GrownKinds" 78 yX10_init cX10_init 2 := ⟨wm_553, wm_554, wm_184, wm_555, by decide +kernel, by decide +kernel, rfl⟩
set_option maxHeartbeats 4000000 in
set_option maxRecDepth 100000 in
theorem kX10_init_67 (l : Launch) {D : va_G} {cy : Nat → ClassId} {b : Nat} {E : Nat → va_E} (h67 : E 67 = .inr (10, [.null, .null, .null, .int 0, .int 0, .int 0, .int 0, .null, .int 0, .null, .int 0, .null, .int 0])) : gV l yX10_init cX10_init 2 1 5 201 D cy b 68 E [.ref (b + 67), .ref (b + 2)] (fun u => u.1 = 73 ∧ (∀ j, j < 68 → j ≠ 67 → u.2 j = E j) ∧ u.2 67 = .inr (10, [.ref (b + 2), .ref (b + 68), .ref (b + 69), .int 0, .int 0, .int 0, .int 1, .ref (b + 70), .int 0, .ref (b + 71), .int 0, .ref (b + 72), .int 0]) ∧ u.2 68 = .inl (cy 0, 40, .inl (fun _ => 0)) ∧ u.2 69 = .inl (cy 0, 40, .inl (fun _ => 0)) ∧ u.2 70 = .inl (cy 1, 40, .inl (fun _ => 0)) ∧ u.2 71 = .inl (cy 1, 41, .inl (fun _ => 0)) ∧ u.2 72 = .inl (cy 1, 40, .inl (fun _ => 0))) := by
  refine gV_of (by decide) (Nat.le_of_ble_eq_true rfl) ?_
  intro p e s m args below meth c S hr hlk hin hsz ls hl hG
  have hx := S.1
  have hb := S.2.1
  have hl : lv_has ls 2 [(0, .ref (b + 67)), (1, .ref (b + 2))] := hl
  refine lv_aload_n hx hb dX10_init_0 rfl (lv_at hl 0 rfl) ?_
  refine g_objInit S wm_556 wm_203 wm_204 hl.1 dX10_init_1 ⟨Nat.le_of_ble_eq_true rfl, Nat.le_of_ble_eq_true rfl⟩ ?_
  refine lv_aload_n hx hb dX10_init_4 rfl (lv_at hl 0 rfl) ?_
  refine lv_bipush (v := 40) hx hb dX10_init_5 (by decide) ?_
  refine g_newa (atype := .byte) (ty := .byte) (N := 40) (a0 := (40, .inl (fun _ => 0))) S hG (by omega) 0 rfl rfl (fun h => h) wm_304 (fun _ => rfl) dX10_init_7 (by decide) (by decide) (by decide) ⟨Nat.le_of_ble_eq_true rfl, Nat.le_of_ble_eq_true rfl⟩ (fun H hG => ?_)
  refine W.widen (k := 1) (n := 40) (Nat.le_of_ble_eq_true rfl) (Nat.le_of_ble_eq_true rfl) ?_
  refine g_putF (fs' := [.null, .ref (b + 68), .null, .int 0, .int 0, .int 0, .int 0, .null, .int 0, .null, .int 0, .null, .int 0]) S hG (hin rfl) 67 1 h67 cpX10 wm_558 dX10_init_9 rfl (by omega) (by decide) (Nat.le_of_ble_eq_true rfl) rfl rfl rfl rfl (fun H locs hG => ?_)
  refine lv_aload_n hx hb dX10_init_12 rfl (lv_at hl 0 rfl) ?_
  refine lv_bipush (v := 40) hx hb dX10_init_13 (by decide) ?_
  refine g_newa (atype := .byte) (ty := .byte) (N := 40) (a0 := (40, .inl (fun _ => 0))) S hG (by omega) 0 rfl rfl (fun h => h) wm_304 (fun _ => rfl) dX10_init_15 (by decide) (by decide) (by decide) ⟨Nat.le_of_ble_eq_true rfl, Nat.le_of_ble_eq_true rfl⟩ (fun H hG => ?_)
  refine W.widen (k := 2) (n := 80) (Nat.le_of_ble_eq_true rfl) (Nat.le_of_ble_eq_true rfl) ?_
  refine g_putF (fs' := [.null, .ref (b + 68), .ref (b + 69), .int 0, .int 0, .int 0, .int 0, .null, .int 0, .null, .int 0, .null, .int 0]) S hG (hin rfl) 67 2 rfl cpX10 wm_560 dX10_init_17 rfl (by omega) (by decide) (Nat.le_of_ble_eq_true rfl) rfl rfl rfl rfl (fun H locs hG => ?_)
  refine lv_aload_n hx hb dX10_init_20 rfl (lv_at hl 0 rfl) ?_
  refine lv_iconst (v := 0) hx hb dX10_init_21 (by decide) ?_
  refine g_put (fs' := [.null, .ref (b + 68), .ref (b + 69), .int 0, .int 0, .int 0, .int 0, .null, .int 0, .null, .int 0, .null, .int 0]) S hG 67 3 rfl cpX10 wm_561 dX10_init_22 rfl (by omega) (by decide) (Nat.le_of_ble_eq_true rfl) rfl rfl rfl (fun H locs hG => ?_)
  refine lv_aload_n hx hb dX10_init_25 rfl (lv_at hl 0 rfl) ?_
  refine lv_iconst (v := 0) hx hb dX10_init_26 (by decide) ?_
  refine g_put (fs' := [.null, .ref (b + 68), .ref (b + 69), .int 0, .int 0, .int 0, .int 0, .null, .int 0, .null, .int 0, .null, .int 0]) S hG 67 4 rfl cpX10 wm_562 dX10_init_27 rfl (by omega) (by decide) (Nat.le_of_ble_eq_true rfl) rfl rfl rfl (fun H locs hG => ?_)
  refine lv_aload_n hx hb dX10_init_30 rfl (lv_at hl 0 rfl) ?_
  refine lv_iconst (v := 0) hx hb dX10_init_31 (by decide) ?_
  refine g_put (fs' := [.null, .ref (b + 68), .ref (b + 69), .int 0, .int 0, .int 0, .int 0, .null, .int 0, .null, .int 0, .null, .int 0]) S hG 67 5 rfl cpX10 wm_563 dX10_init_32 rfl (by omega) (by decide) (Nat.le_of_ble_eq_true rfl) rfl rfl rfl (fun H locs hG => ?_)
  refine lv_aload_n hx hb dX10_init_35 rfl (lv_at hl 0 rfl) ?_
  refine lv_iconst (v := 1) hx hb dX10_init_36 (by decide) ?_
  refine g_put (fs' := [.null, .ref (b + 68), .ref (b + 69), .int 0, .int 0, .int 0, .int 1, .null, .int 0, .null, .int 0, .null, .int 0]) S hG 67 6 rfl cpX10 wm_564 dX10_init_37 rfl (by omega) (by decide) (Nat.le_of_ble_eq_true rfl) rfl rfl rfl (fun H locs hG => ?_)
  refine lv_aload_n hx hb dX10_init_40 rfl (lv_at hl 0 rfl) ?_
  refine lv_bipush (v := 40) hx hb dX10_init_41 (by decide) ?_
  refine g_newa (atype := .int) (ty := .int) (N := 40) (a0 := (40, .inl (fun _ => 0))) S hG (by omega) 1 rfl rfl (fun h => h) wm_305 (fun _ => rfl) dX10_init_43 (by decide) (by decide) (by decide) ⟨Nat.le_of_ble_eq_true rfl, Nat.le_of_ble_eq_true rfl⟩ (fun H hG => ?_)
  refine W.widen (k := 3) (n := 120) (Nat.le_of_ble_eq_true rfl) (Nat.le_of_ble_eq_true rfl) ?_
  refine g_putF (fs' := [.null, .ref (b + 68), .ref (b + 69), .int 0, .int 0, .int 0, .int 1, .ref (b + 70), .int 0, .null, .int 0, .null, .int 0]) S hG (hin rfl) 67 7 rfl cpX10 wm_565 dX10_init_45 rfl (by omega) (by decide) (Nat.le_of_ble_eq_true rfl) rfl rfl rfl rfl (fun H locs hG => ?_)
  refine lv_aload_n hx hb dX10_init_48 rfl (lv_at hl 0 rfl) ?_
  refine lv_iconst (v := 0) hx hb dX10_init_49 (by decide) ?_
  refine g_put (fs' := [.null, .ref (b + 68), .ref (b + 69), .int 0, .int 0, .int 0, .int 1, .ref (b + 70), .int 0, .null, .int 0, .null, .int 0]) S hG 67 8 rfl cpX10 wm_566 dX10_init_50 rfl (by omega) (by decide) (Nat.le_of_ble_eq_true rfl) rfl rfl rfl (fun H locs hG => ?_)
  refine lv_aload_n hx hb dX10_init_53 rfl (lv_at hl 0 rfl) ?_
  refine lv_bipush (v := 41) hx hb dX10_init_54 (by decide) ?_
  refine g_newa (atype := .int) (ty := .int) (N := 41) (a0 := (41, .inl (fun _ => 0))) S hG (by omega) 1 rfl rfl (fun h => h) wm_305 (fun _ => rfl) dX10_init_56 (by decide) (by decide) (by decide) ⟨Nat.le_of_ble_eq_true rfl, Nat.le_of_ble_eq_true rfl⟩ (fun H hG => ?_)
  refine W.widen (k := 4) (n := 161) (Nat.le_of_ble_eq_true rfl) (Nat.le_of_ble_eq_true rfl) ?_
  refine g_putF (fs' := [.null, .ref (b + 68), .ref (b + 69), .int 0, .int 0, .int 0, .int 1, .ref (b + 70), .int 0, .ref (b + 71), .int 0, .null, .int 0]) S hG (hin rfl) 67 9 rfl cpX10 wm_567 dX10_init_58 rfl (by omega) (by decide) (Nat.le_of_ble_eq_true rfl) rfl rfl rfl rfl (fun H locs hG => ?_)
  refine lv_aload_n hx hb dX10_init_61 rfl (lv_at hl 0 rfl) ?_
  refine lv_iconst (v := 0) hx hb dX10_init_62 (by decide) ?_
  refine g_put (fs' := [.null, .ref (b + 68), .ref (b + 69), .int 0, .int 0, .int 0, .int 1, .ref (b + 70), .int 0, .ref (b + 71), .int 0, .null, .int 0]) S hG 67 10 rfl cpX10 wm_568 dX10_init_63 rfl (by omega) (by decide) (Nat.le_of_ble_eq_true rfl) rfl rfl rfl (fun H locs hG => ?_)
  refine lv_aload_n hx hb dX10_init_66 rfl (lv_at hl 0 rfl) ?_
  refine lv_bipush (v := 40) hx hb dX10_init_67 (by decide) ?_
  refine g_newa (atype := .int) (ty := .int) (N := 40) (a0 := (40, .inl (fun _ => 0))) S hG (by omega) 1 rfl rfl (fun h => h) wm_305 (fun _ => rfl) dX10_init_69 (by decide) (by decide) (by decide) ⟨Nat.le_of_ble_eq_true rfl, Nat.le_of_ble_eq_true rfl⟩ (fun H hG => ?_)
  refine W.widen (k := 5) (n := 201) (Nat.le_of_ble_eq_true rfl) (Nat.le_of_ble_eq_true rfl) ?_
  refine g_putF (fs' := [.null, .ref (b + 68), .ref (b + 69), .int 0, .int 0, .int 0, .int 1, .ref (b + 70), .int 0, .ref (b + 71), .int 0, .ref (b + 72), .int 0]) S hG (hin rfl) 67 11 rfl cpX10 wm_569 dX10_init_71 rfl (by omega) (by decide) (Nat.le_of_ble_eq_true rfl) rfl rfl rfl rfl (fun H locs hG => ?_)
  refine lv_aload_n hx hb dX10_init_74 rfl (lv_at hl 0 rfl) ?_
  refine lv_iconst (v := 0) hx hb dX10_init_75 (by decide) ?_
  refine g_put (fs' := [.null, .ref (b + 68), .ref (b + 69), .int 0, .int 0, .int 0, .int 1, .ref (b + 70), .int 0, .ref (b + 71), .int 0, .ref (b + 72), .int 0]) S hG 67 12 rfl cpX10 wm_570 dX10_init_76 rfl (by omega) (by decide) (Nat.le_of_ble_eq_true rfl) rfl rfl rfl (fun H locs hG => ?_)
  refine lv_aload_n hx hb dX10_init_79 rfl (lv_at hl 0 rfl) ?_
  refine lv_aload_n hx hb dX10_init_80 rfl (lv_at hl 1 rfl) ?_
  refine g_putF (fs' := [.ref (b + 2), .ref (b + 68), .ref (b + 69), .int 0, .int 0, .int 0, .int 1, .ref (b + 70), .int 0, .ref (b + 71), .int 0, .ref (b + 72), .int 0]) S hG (hin rfl) 67 0 rfl cpX10 wm_557 dX10_init_81 rfl (by omega) (by decide) (Nat.le_of_ble_eq_true rfl) rfl rfl rfl rfl (fun H locs hG => ?_)
  exact g_vret S hr hlk hG (by omega) dX10_init_84 ⟨Nat.le_of_ble_eq_true rfl, Nat.le_of_ble_eq_true rfl⟩ ⟨rfl, fun j h1 h2 => (upE_n (by omega)).trans ((upE_n (by omega)).trans ((upE_n (by omega)).trans ((upE_n (by omega)).trans ((upE_n (by omega)).trans ((upE_n (by omega)).trans ((upE_n (by omega)).trans ((upE_n (by omega)).trans ((upE_n (by omega)).trans ((upE_n (by omega)).trans ((upE_n (by omega)).trans ((upE_n (by omega)).trans ((upE_n (by omega)).trans ((upE_n (by omega)).trans ((upE_n (by omega)).trans ((upE_n (by omega)).trans ((upE_n (by omega)).trans ((upE_n (by omega)).trans (rfl)))))))))))))))))), rfl, rfl, rfl, rfl, rfl, rfl⟩
theorem wI_11_85 : gWI "GrownKinds" 85 yX7_init cX7_init 2 := ⟨wm_600, wm_601, wm_185, wm_602, by decide +kernel, by decide +kernel, rfl⟩
set_option maxHeartbeats 4000000 in
set_option maxRecDepth 100000 in
theorem kX7_init_73 (l : Launch) {D : va_G} {cy : Nat → ClassId} {b : Nat} {E : Nat → va_E} (h73 : E 73 = .inr (7, [.null, .null, .null, .null, .null, .null, .int 0, .int 0, .null])) : gV l yX7_init cX7_init 2 1 6 2666 D cy b 74 E [.ref (b + 73), .ref (b + 60)] (fun u => u.1 = 80 ∧ (∀ j, j < 74 → j ≠ 73 → u.2 j = E j) ∧ u.2 73 = .inr (7, [.ref (b + 60), .ref (b + 74), .ref (b + 75), .ref (b + 76), .ref (b + 77), .ref (b + 78), .int (-1), .int (-1), .ref (b + 79)]) ∧ u.2 74 = .inl (cy 3, 48, .inl (fun _ => 0)) ∧ u.2 75 = .inl (cy 1, 48, .inl (fun _ => 0)) ∧ u.2 76 = .inl (cy 1, 48, .inl (fun _ => 0)) ∧ u.2 77 = .inl (cy 1, 1248, .inl (fun _ => 0)) ∧ u.2 78 = .inl (cy 1, 1248, .inl (fun _ => 0)) ∧ u.2 79 = .inl (cy 1, 26, .inl (fun _ => 0))) := by
  refine gV_of (by decide) (Nat.le_of_ble_eq_true rfl) ?_
  intro p e s m args below meth c S hr hlk hin hsz ls hl hG
  have hx := S.1
  have hb := S.2.1
  have hl : lv_has ls 2 [(0, .ref (b + 73)), (1, .ref (b + 60))] := hl
  refine lv_aload_n hx hb dX7_init_0 rfl (lv_at hl 0 rfl) ?_
  refine g_objInit S wm_603 wm_203 wm_204 hl.1 dX7_init_1 ⟨Nat.le_of_ble_eq_true rfl, Nat.le_of_ble_eq_true rfl⟩ ?_
  refine lv_aload_n hx hb dX7_init_4 rfl (lv_at hl 0 rfl) ?_
  refine lv_bipush (v := 48) hx hb dX7_init_5 (by decide) ?_
  refine g_newa (atype := .boolean) (ty := .boolean) (N := 48) (a0 := (48, .inl (fun _ => 0))) S hG (by omega) 3 rfl rfl (fun h => h) wm_459 (fun _ => rfl) dX7_init_7 (by decide) (by decide) (by decide) ⟨Nat.le_of_ble_eq_true rfl, Nat.le_of_ble_eq_true rfl⟩ (fun H hG => ?_)
  refine W.widen (k := 1) (n := 48) (Nat.le_of_ble_eq_true rfl) (Nat.le_of_ble_eq_true rfl) ?_
  refine g_putF (fs' := [.null, .ref (b + 74), .null, .null, .null, .null, .int 0, .int 0, .null]) S hG (hin rfl) 73 1 h73 cpX7 wm_605 dX7_init_9 rfl (by omega) (by decide) (Nat.le_of_ble_eq_true rfl) rfl rfl rfl rfl (fun H locs hG => ?_)
  refine lv_aload_n hx hb dX7_init_12 rfl (lv_at hl 0 rfl) ?_
  refine lv_bipush (v := 48) hx hb dX7_init_13 (by decide) ?_
  refine g_newa (atype := .int) (ty := .int) (N := 48) (a0 := (48, .inl (fun _ => 0))) S hG (by omega) 1 rfl rfl (fun h => h) wm_305 (fun _ => rfl) dX7_init_15 (by decide) (by decide) (by decide) ⟨Nat.le_of_ble_eq_true rfl, Nat.le_of_ble_eq_true rfl⟩ (fun H hG => ?_)
  refine W.widen (k := 2) (n := 96) (Nat.le_of_ble_eq_true rfl) (Nat.le_of_ble_eq_true rfl) ?_
  refine g_putF (fs' := [.null, .ref (b + 74), .ref (b + 75), .null, .null, .null, .int 0, .int 0, .null]) S hG (hin rfl) 73 2 rfl cpX7 wm_607 dX7_init_17 rfl (by omega) (by decide) (Nat.le_of_ble_eq_true rfl) rfl rfl rfl rfl (fun H locs hG => ?_)
  refine lv_aload_n hx hb dX7_init_20 rfl (lv_at hl 0 rfl) ?_
  refine lv_bipush (v := 48) hx hb dX7_init_21 (by decide) ?_
  refine g_newa (atype := .int) (ty := .int) (N := 48) (a0 := (48, .inl (fun _ => 0))) S hG (by omega) 1 rfl rfl (fun h => h) wm_305 (fun _ => rfl) dX7_init_23 (by decide) (by decide) (by decide) ⟨Nat.le_of_ble_eq_true rfl, Nat.le_of_ble_eq_true rfl⟩ (fun H hG => ?_)
  refine W.widen (k := 3) (n := 144) (Nat.le_of_ble_eq_true rfl) (Nat.le_of_ble_eq_true rfl) ?_
  refine g_putF (fs' := [.null, .ref (b + 74), .ref (b + 75), .ref (b + 76), .null, .null, .int 0, .int 0, .null]) S hG (hin rfl) 73 3 rfl cpX7 wm_609 dX7_init_25 rfl (by omega) (by decide) (Nat.le_of_ble_eq_true rfl) rfl rfl rfl rfl (fun H locs hG => ?_)
  refine lv_aload_n hx hb dX7_init_28 rfl (lv_at hl 0 rfl) ?_
  refine lv_sipush (v := 1248) hx hb dX7_init_29 (by decide) ?_
  refine g_newa (atype := .int) (ty := .int) (N := 1248) (a0 := (1248, .inl (fun _ => 0))) S hG (by omega) 1 rfl rfl (fun h => h) wm_305 (fun _ => rfl) dX7_init_32 (by decide) (by decide) (by decide) ⟨Nat.le_of_ble_eq_true rfl, Nat.le_of_ble_eq_true rfl⟩ (fun H hG => ?_)
  refine W.widen (k := 4) (n := 1392) (Nat.le_of_ble_eq_true rfl) (Nat.le_of_ble_eq_true rfl) ?_
  refine g_putF (fs' := [.null, .ref (b + 74), .ref (b + 75), .ref (b + 76), .ref (b + 77), .null, .int 0, .int 0, .null]) S hG (hin rfl) 73 4 rfl cpX7 wm_611 dX7_init_34 rfl (by omega) (by decide) (Nat.le_of_ble_eq_true rfl) rfl rfl rfl rfl (fun H locs hG => ?_)
  refine lv_aload_n hx hb dX7_init_37 rfl (lv_at hl 0 rfl) ?_
  refine lv_sipush (v := 1248) hx hb dX7_init_38 (by decide) ?_
  refine g_newa (atype := .int) (ty := .int) (N := 1248) (a0 := (1248, .inl (fun _ => 0))) S hG (by omega) 1 rfl rfl (fun h => h) wm_305 (fun _ => rfl) dX7_init_41 (by decide) (by decide) (by decide) ⟨Nat.le_of_ble_eq_true rfl, Nat.le_of_ble_eq_true rfl⟩ (fun H hG => ?_)
  refine W.widen (k := 5) (n := 2640) (Nat.le_of_ble_eq_true rfl) (Nat.le_of_ble_eq_true rfl) ?_
  refine g_putF (fs' := [.null, .ref (b + 74), .ref (b + 75), .ref (b + 76), .ref (b + 77), .ref (b + 78), .int 0, .int 0, .null]) S hG (hin rfl) 73 5 rfl cpX7 wm_613 dX7_init_43 rfl (by omega) (by decide) (Nat.le_of_ble_eq_true rfl) rfl rfl rfl rfl (fun H locs hG => ?_)
  refine lv_aload_n hx hb dX7_init_46 rfl (lv_at hl 0 rfl) ?_
  refine lv_iconst (v := (-1)) hx hb dX7_init_47 (by decide) ?_
  refine g_put (fs' := [.null, .ref (b + 74), .ref (b + 75), .ref (b + 76), .ref (b + 77), .ref (b + 78), .int (-1), .int 0, .null]) S hG 73 6 rfl cpX7 wm_615 dX7_init_48 rfl (by omega) (by decide) (Nat.le_of_ble_eq_true rfl) rfl rfl rfl (fun H locs hG => ?_)
  refine lv_aload_n hx hb dX7_init_51 rfl (lv_at hl 0 rfl) ?_
  refine lv_iconst (v := (-1)) hx hb dX7_init_52 (by decide) ?_
  refine g_put (fs' := [.null, .ref (b + 74), .ref (b + 75), .ref (b + 76), .ref (b + 77), .ref (b + 78), .int (-1), .int (-1), .null]) S hG 73 7 rfl cpX7 wm_616 dX7_init_53 rfl (by omega) (by decide) (Nat.le_of_ble_eq_true rfl) rfl rfl rfl (fun H locs hG => ?_)
  refine lv_aload_n hx hb dX7_init_56 rfl (lv_at hl 0 rfl) ?_
  refine lv_bipush (v := 26) hx hb dX7_init_57 (by decide) ?_
  refine g_newa (atype := .int) (ty := .int) (N := 26) (a0 := (26, .inl (fun _ => 0))) S hG (by omega) 1 rfl rfl (fun h => h) wm_305 (fun _ => rfl) dX7_init_59 (by decide) (by decide) (by decide) ⟨Nat.le_of_ble_eq_true rfl, Nat.le_of_ble_eq_true rfl⟩ (fun H hG => ?_)
  refine W.widen (k := 6) (n := 2666) (Nat.le_of_ble_eq_true rfl) (Nat.le_of_ble_eq_true rfl) ?_
  refine g_putF (fs' := [.null, .ref (b + 74), .ref (b + 75), .ref (b + 76), .ref (b + 77), .ref (b + 78), .int (-1), .int (-1), .ref (b + 79)]) S hG (hin rfl) 73 8 rfl cpX7 wm_617 dX7_init_61 rfl (by omega) (by decide) (Nat.le_of_ble_eq_true rfl) rfl rfl rfl rfl (fun H locs hG => ?_)
  refine lv_aload_n hx hb dX7_init_64 rfl (lv_at hl 0 rfl) ?_
  refine lv_aload_n hx hb dX7_init_65 rfl (lv_at hl 1 rfl) ?_
  refine g_putF (fs' := [.ref (b + 60), .ref (b + 74), .ref (b + 75), .ref (b + 76), .ref (b + 77), .ref (b + 78), .int (-1), .int (-1), .ref (b + 79)]) S hG (hin rfl) 73 0 rfl cpX7 wm_604 dX7_init_66 rfl (by omega) (by decide) (Nat.le_of_ble_eq_true rfl) rfl rfl rfl rfl (fun H locs hG => ?_)
  exact g_vret S hr hlk hG (by omega) dX7_init_69 ⟨Nat.le_of_ble_eq_true rfl, Nat.le_of_ble_eq_true rfl⟩ ⟨rfl, fun j h1 h2 => (upE_n (by omega)).trans ((upE_n (by omega)).trans ((upE_n (by omega)).trans ((upE_n (by omega)).trans ((upE_n (by omega)).trans ((upE_n (by omega)).trans ((upE_n (by omega)).trans ((upE_n (by omega)).trans ((upE_n (by omega)).trans ((upE_n (by omega)).trans ((upE_n (by omega)).trans ((upE_n (by omega)).trans ((upE_n (by omega)).trans ((upE_n (by omega)).trans ((upE_n (by omega)).trans (rfl))))))))))))))), rfl, rfl, rfl, rfl, rfl, rfl, rfl⟩
theorem wI_11_94 : gWI "GrownKinds" 94 yX1_init cX1_init 2 := ⟨wm_639, wm_640, wm_186, wm_641, by decide +kernel, by decide +kernel, rfl⟩
set_option maxHeartbeats 4000000 in
set_option maxRecDepth 100000 in
theorem kX1_init_80 (l : Launch) {D : va_G} {cy : Nat → ClassId} {b : Nat} {E : Nat → va_E} (h80 : E 80 = .inr (1, [.null, .int 0, .int 0, .int 0, .int 0, .int 0, .int 0])) : gV l yX1_init cX1_init 2 1 0 0 D cy b 81 E [.ref (b + 80), .ref (b + 40)] (fun u => u.1 = 81 ∧ (∀ j, j < 81 → j ≠ 80 → u.2 j = E j) ∧ u.2 80 = .inr (1, [.ref (b + 40), .int 0, .int 0, .int 0, .int 0, .int 0, .int 0])) := by
  refine gV_of (by decide) (Nat.le_of_ble_eq_true rfl) ?_
  intro p e s m args below meth c S hr hlk hin hsz ls hl hG
  have hx := S.1
  have hb := S.2.1
  have hl : lv_has ls 2 [(0, .ref (b + 80)), (1, .ref (b + 40))] := hl
  refine lv_aload_n hx hb dX1_init_0 rfl (lv_at hl 0 rfl) ?_
  refine g_objInit S wm_642 wm_203 wm_204 hl.1 dX1_init_1 ⟨Nat.le_of_ble_eq_true rfl, Nat.le_of_ble_eq_true rfl⟩ ?_
  refine lv_aload_n hx hb dX1_init_4 rfl (lv_at hl 0 rfl) ?_
  refine lv_iconst (v := 0) hx hb dX1_init_5 (by decide) ?_
  refine g_put (fs' := [.null, .int 0, .int 0, .int 0, .int 0, .int 0, .int 0]) S hG 80 1 h80 cpX1 wm_644 dX1_init_6 rfl (by omega) (by decide) (Nat.le_of_ble_eq_true rfl) rfl rfl rfl (fun H locs hG => ?_)
  refine lv_aload_n hx hb dX1_init_9 rfl (lv_at hl 0 rfl) ?_
  refine lv_iconst (v := 0) hx hb dX1_init_10 (by decide) ?_
  refine g_put (fs' := [.null, .int 0, .int 0, .int 0, .int 0, .int 0, .int 0]) S hG 80 2 rfl cpX1 wm_646 dX1_init_11 rfl (by omega) (by decide) (Nat.le_of_ble_eq_true rfl) rfl rfl rfl (fun H locs hG => ?_)
  refine lv_aload_n hx hb dX1_init_14 rfl (lv_at hl 0 rfl) ?_
  refine lv_iconst (v := 0) hx hb dX1_init_15 (by decide) ?_
  refine g_put (fs' := [.null, .int 0, .int 0, .int 0, .int 0, .int 0, .int 0]) S hG 80 3 rfl cpX1 wm_647 dX1_init_16 rfl (by omega) (by decide) (Nat.le_of_ble_eq_true rfl) rfl rfl rfl (fun H locs hG => ?_)
  refine lv_aload_n hx hb dX1_init_19 rfl (lv_at hl 0 rfl) ?_
  refine lv_iconst (v := 0) hx hb dX1_init_20 (by decide) ?_
  refine g_put (fs' := [.null, .int 0, .int 0, .int 0, .int 0, .int 0, .int 0]) S hG 80 4 rfl cpX1 wm_648 dX1_init_21 rfl (by omega) (by decide) (Nat.le_of_ble_eq_true rfl) rfl rfl rfl (fun H locs hG => ?_)
  refine lv_aload_n hx hb dX1_init_24 rfl (lv_at hl 0 rfl) ?_
  refine lv_iconst (v := 0) hx hb dX1_init_25 (by decide) ?_
  refine g_put (fs' := [.null, .int 0, .int 0, .int 0, .int 0, .int 0, .int 0]) S hG 80 5 rfl cpX1 wm_649 dX1_init_26 rfl (by omega) (by decide) (Nat.le_of_ble_eq_true rfl) rfl rfl rfl (fun H locs hG => ?_)
  refine lv_aload_n hx hb dX1_init_29 rfl (lv_at hl 0 rfl) ?_
  refine lv_iconst (v := 0) hx hb dX1_init_30 (by decide) ?_
  refine g_put (fs' := [.null, .int 0, .int 0, .int 0, .int 0, .int 0, .int 0]) S hG 80 6 rfl cpX1 wm_650 dX1_init_31 rfl (by omega) (by decide) (Nat.le_of_ble_eq_true rfl) rfl rfl rfl (fun H locs hG => ?_)
  refine lv_aload_n hx hb dX1_init_34 rfl (lv_at hl 0 rfl) ?_
  refine lv_aload_n hx hb dX1_init_35 rfl (lv_at hl 1 rfl) ?_
  refine g_putF (fs' := [.ref (b + 40), .int 0, .int 0, .int 0, .int 0, .int 0, .int 0]) S hG (hin rfl) 80 0 rfl cpX1 wm_643 dX1_init_36 rfl (by omega) (by decide) (Nat.le_of_ble_eq_true rfl) rfl rfl rfl rfl (fun H locs hG => ?_)
  exact g_vret S hr hlk hG (by omega) dX1_init_39 ⟨Nat.le_of_ble_eq_true rfl, Nat.le_of_ble_eq_true rfl⟩ ⟨rfl, fun j h1 h2 => (upE_n (by omega)).trans ((upE_n (by omega)).trans ((upE_n (by omega)).trans ((upE_n (by omega)).trans ((upE_n (by omega)).trans ((upE_n (by omega)).trans ((upE_n (by omega)).trans (rfl))))))), rfl⟩
set_option maxHeartbeats 4000000 in
set_option maxRecDepth 100000 in
theorem kX11_init_0 (l : Launch) {D : va_G} {cy : Nat → ClassId} {b : Nat} {E : Nat → va_E} (h0 : E 0 = .inr (11, [.null, .int 0, .null, .null, .int 0, .int 0, .null, .null, .null, .null, .null, .null, .null, .null, .null, .int 0, .int 0, .int 0, .int 0])) : gV l yX11_init cX11_init 1 3 82 63082 D cy b 1 E [.ref (b + 0)] (fun u => u.1 = 83 ∧ (∀ j, j < 1 → j ≠ 0 → u.2 j = E j) ∧ u.2 0 = .inr (11, [.ref (b + 1), .int 0, .ref (b + 2), .ref (b + 12), .int 0, .int (-1), .ref (b + 33), .ref (b + 40), .ref (b + 47), .ref (b + 60), .ref (b + 67), .ref (b + 73), .ref (b + 80), .ref (b + 81), .ref (b + 82), .int 0, .int 0, .int (-1), .int (-1)]) ∧ u.2 1 = .inl (cy 0, 400, .inl (fun _ => 0)) ∧ u.2 2 = .inr (2, [.int 0, .int 0, .int 0, .int 0, .int 0, .ref (b + 3), .ref (b + 4), .ref (b + 5), .ref (b + 6), .ref (b + 7), .ref (b + 8), .ref (b + 9), .ref (b + 10), .ref (b + 11)]) ∧ u.2 3 = .inl (cy 1, 24, .inl (fun _ => 0)) ∧ u.2 4 = .inl (cy 1, 24, .inl (fun _ => 0)) ∧ u.2 5 = .inl (cy 1, 24, .inl (fun _ => 0)) ∧ u.2 6 = .inl (cy 1, 24, .inl (fun _ => 0)) ∧ u.2 7 = .inl (cy 1, 24, .inl (fun _ => 0)) ∧ u.2 8 = .inl (cy 1, 30, .inl (fun _ => 0)) ∧ u.2 9 = .inl (cy 1, 300, .inl (fun _ => 0)) ∧ u.2 10 = .inl (cy 1, 30, .inl (fun _ => 0)) ∧ u.2 11 = .inl (cy 1, 54, .inl (fun _ => 0)) ∧ u.2 12 = .inr (5, [.ref (b + 13), .int 0, .int (-1), .ref (b + 26), .ref (b + 23), .int 0, .int 0, .int 3, .int 0, .int 0, .int 0, .ref (b + 24), .ref (b + 25)]) ∧ u.2 13 = .inr (2, [.int 0, .int 0, .int 0, .int 0, .int 0, .ref (b + 14), .ref (b + 15), .ref (b + 16), .ref (b + 17), .ref (b + 18), .ref (b + 19), .ref (b + 20), .ref (b + 21), .ref (b + 22)]) ∧ u.2 14 = .inl (cy 1, 24, .inl (fun _ => 0)) ∧ u.2 15 = .inl (cy 1, 24, .inl (fun _ => 0)) ∧ u.2 16 = .inl (cy 1, 24, .inl (fun _ => 0)) ∧ u.2 17 = .inl (cy 1, 24, .inl (fun _ => 0)) ∧ u.2 18 = .inl (cy 1, 24, .inl (fun _ => 0)) ∧ u.2 19 = .inl (cy 1, 30, .inl (fun _ => 0)) ∧ u.2 20 = .inl (cy 1, 300, .inl (fun _ => 0)) ∧ u.2 21 = .inl (cy 1, 30, .inl (fun _ => 0)) ∧ u.2 22 = .inl (cy 1, 54, .inl (fun _ => 0)) ∧ u.2 23 = .inl (cy 0, 0, .inl (fun _ => 0)) ∧ u.2 24 = .inl (cy 1, 6, .inl (fun _ => 0)) ∧ u.2 25 = .inl (cy 1, 6, .inl (fun _ => 0)) ∧ u.2 26 = .inr (3, [.ref (b + 13), .int 0, .int 0, .ref (b + 27), .ref (b + 28), .ref (b + 29), .ref (b + 30), .ref (b + 31), .ref (b + 32)]) ∧ u.2 27 = .inl (cy 1, 24, .inl (fun _ => 0)) ∧ u.2 28 = .inl (cy 1, 24, .inl (fun _ => 0)) ∧ u.2 29 = .inl (cy 1, 24, .inl (fun _ => 0)) ∧ u.2 30 = .inl (cy 1, 6, .inl (fun _ => 0)) ∧ u.2 31 = .inl (cy 1, 6, .inl (fun _ => 0)) ∧ u.2 32 = .inl (cy 1, 6, .inl (fun _ => 0)) ∧ u.2 33 = .inr (3, [.ref (b + 2), .int 0, .int 0, .ref (b + 34), .ref (b + 35), .ref (b + 36), .ref (b + 37), .ref (b + 38), .ref (b + 39)]) ∧ u.2 34 = .inl (cy 1, 24, .inl (fun _ => 0)) ∧ u.2 35 = .inl (cy 1, 24, .inl (fun _ => 0)) ∧ u.2 36 = .inl (cy 1, 24, .inl (fun _ => 0)) ∧ u.2 37 = .inl (cy 1, 6, .inl (fun _ => 0)) ∧ u.2 38 = .inl (cy 1, 6, .inl (fun _ => 0)) ∧ u.2 39 = .inl (cy 1, 6, .inl (fun _ => 0)) ∧ u.2 40 = .inr (0, [.ref (b + 2), .int (-1), .ref (b + 41), .ref (b + 42), .ref (b + 43), .ref (b + 44), .ref (b + 45), .ref (b + 46)]) ∧ u.2 41 = .inl (cy 2, 1536, .inr (.inl (fun _ => 0))) ∧ u.2 42 = .inl (cy 2, 1536, .inr (.inl (fun _ => 0))) ∧ u.2 43 = .inl (cy 2, 384, .inr (.inl (fun _ => 0))) ∧ u.2 44 = .inl (cy 2, 12288, .inr (.inl (fun _ => 0))) ∧ u.2 45 = .inl (cy 2, 8, .inr (.inl (fun _ => 0))) ∧ u.2 46 = .inl (cy 2, 12288, .inr (.inl (fun _ => 0))) ∧ u.2 47 = .inr (4, [.ref (b + 2), .ref (b + 48), .int 0, .ref (b + 55), .ref (b + 56), .ref (b + 57), .ref (b + 58), .ref (b + 59)]) ∧ u.2 48 = .inr (0, [.ref (b + 2), .int (-1), .ref (b + 49), .ref (b + 50), .ref (b + 51), .ref (b + 52), .ref (b + 53), .ref (b + 54)]) ∧ u.2 49 = .inl (cy 2, 1536, .inr (.inl (fun _ => 0))) ∧ u.2 50 = .inl (cy 2, 1536, .inr (.inl (fun _ => 0))) ∧ u.2 51 = .inl (cy 2, 384, .inr (.inl (fun _ => 0))) ∧ u.2 52 = .inl (cy 2, 12288, .inr (.inl (fun _ => 0))) ∧ u.2 53 = .inl (cy 2, 8, .inr (.inl (fun _ => 0))) ∧ u.2 54 = .inl (cy 2, 0, .inr (.inl (fun _ => 0))) ∧ u.2 55 = .inl (cy 3, 26, .inl (fun _ => 0)) ∧ u.2 56 = .inl (cy 3, 60, .inl (fun _ => 0)) ∧ u.2 57 = .inl (cy 2, 48, .inr (.inl (fun _ => 0))) ∧ u.2 58 = .inl (cy 2, 9984, .inr (.inl (fun _ => 0))) ∧ u.2 59 = .inl (cy 2, 2880, .inr (.inl (fun _ => 0))) ∧ u.2 60 = .inr (9, [.ref (b + 2), .ref (b + 40), .ref (b + 61), .ref (b + 64), .int 0, .int 0, .int 1, .int 0, .int 0, .ref (b + 65), .int 0, .ref (b + 66), .int 0, .int (-1), .int (-1)]) ∧ u.2 61 = .inr (8, [.ref (b + 2), .ref (b + 40), .int 0, .ref (b + 62), .ref (b + 63), .int 0]) ∧ u.2 62 = .inl (cy 1, 8, .inl (fun _ => 0)) ∧ u.2 63 = .inl (cy 4, 192, .inr (.inr (.inr (.inr (fun _ => none))))) ∧ u.2 64 = .inl (cy 0, 256, .inl (fun _ => 0)) ∧ u.2 65 = .inl (cy 1, 26, .inl (fun _ => 0)) ∧ u.2 66 = .inl (cy 1, 1100, .inl (fun _ => 0)) ∧ u.2 67 = .inr (10, [.ref (b + 2), .ref (b + 68), .ref (b + 69), .int 0, .int 0, .int 0, .int 1, .ref (b + 70), .int 0, .ref (b + 71), .int 0, .ref (b + 72), .int 0]) ∧ u.2 68 = .inl (cy 0, 40, .inl (fun _ => 0)) ∧ u.2 69 = .inl (cy 0, 40, .inl (fun _ => 0)) ∧ u.2 70 = .inl (cy 1, 40, .inl (fun _ => 0)) ∧ u.2 71 = .inl (cy 1, 41, .inl (fun _ => 0)) ∧ u.2 72 = .inl (cy 1, 40, .inl (fun _ => 0)) ∧ u.2 73 = .inr (7, [.ref (b + 60), .ref (b + 74), .ref (b + 75), .ref (b + 76), .ref (b + 77), .ref (b + 78), .int (-1), .int (-1), .ref (b + 79)]) ∧ u.2 74 = .inl (cy 3, 48, .inl (fun _ => 0)) ∧ u.2 75 = .inl (cy 1, 48, .inl (fun _ => 0)) ∧ u.2 76 = .inl (cy 1, 48, .inl (fun _ => 0)) ∧ u.2 77 = .inl (cy 1, 1248, .inl (fun _ => 0)) ∧ u.2 78 = .inl (cy 1, 1248, .inl (fun _ => 0)) ∧ u.2 79 = .inl (cy 1, 26, .inl (fun _ => 0)) ∧ u.2 80 = .inr (1, [.ref (b + 40), .int 0, .int 0, .int 0, .int 0, .int 0, .int 0]) ∧ u.2 81 = .inl (cy 0, 40, .inl (fun _ => 0)) ∧ u.2 82 = .inl (cy 1, 10, .inl (fun _ => 0))) := by
  refine gV_of (by decide) (Nat.le_of_ble_eq_true rfl) ?_
  intro p e s m args below meth c S hr hlk hin hsz ls hl hG
  have hx := S.1
  have hb := S.2.1
  have hl : lv_has ls 1 [(0, .ref (b + 0))] := hl
  refine lv_aload_n hx hb dX11_init_0 rfl (lv_at hl 0 rfl) ?_
  refine g_objInit S wm_202 wm_203 wm_204 hl.1 dX11_init_1 ⟨Nat.le_of_ble_eq_true rfl, Nat.le_of_ble_eq_true rfl⟩ ?_
  refine lv_aload_n hx hb dX11_init_4 rfl (lv_at hl 0 rfl) ?_
  refine lv_sipush (v := 400) hx hb dX11_init_5 (by decide) ?_
  refine g_newa (atype := .byte) (ty := .byte) (N := 400) (a0 := (400, .inl (fun _ => 0))) S hG (by omega) 0 rfl rfl (fun h => h) wm_304 (fun _ => rfl) dX11_init_8 (by decide) (by decide) (by decide) ⟨Nat.le_of_ble_eq_true rfl, Nat.le_of_ble_eq_true rfl⟩ (fun H hG => ?_)
  refine W.widen (k := 1) (n := 400) (Nat.le_of_ble_eq_true rfl) (Nat.le_of_ble_eq_true rfl) ?_
  refine g_putF (fs' := [.ref (b + 1), .int 0, .null, .null, .int 0, .int 0, .null, .null, .null, .null, .null, .null, .null, .null, .null, .int 0, .int 0, .int 0, .int 0]) S hG (hin rfl) 0 0 h0 cpX11 wm_666 dX11_init_10 rfl (by omega) (by decide) (Nat.le_of_ble_eq_true rfl) rfl rfl rfl rfl (fun H locs hG => ?_)
  refine lv_aload_n hx hb dX11_init_13 rfl (lv_at hl 0 rfl) ?_
  refine lv_iconst (v := 0) hx hb dX11_init_14 (by decide) ?_
  refine g_put (fs' := [.ref (b + 1), .int 0, .null, .null, .int 0, .int 0, .null, .null, .null, .null, .null, .null, .null, .null, .null, .int 0, .int 0, .int 0, .int 0]) S hG 0 1 rfl cpX11 wm_667 dX11_init_15 rfl (by omega) (by decide) (Nat.le_of_ble_eq_true rfl) rfl rfl rfl (fun H locs hG => ?_)
  refine lv_aload_n hx hb dX11_init_18 rfl (lv_at hl 0 rfl) ?_
  refine g_new (fs := [.int 0, .int 0, .int 0, .int 0, .int 0, .null, .null, .null, .null, .null, .null, .null, .null, .null]) S hG (by omega) cpX2 wm_205 wm_206 wm_177 dX11_init_19 (by decide +kernel) ⟨Nat.le_of_ble_eq_true rfl, Nat.le_of_ble_eq_true rfl⟩ (fun H hG => ?_)
  refine W.widen (k := 2) (n := 414) (Nat.le_of_ble_eq_true rfl) (Nat.le_of_ble_eq_true rfl) ?_
  refine lv_dup hx hb dX11_init_22 rfl ?_
  refine g_ctorN (As := []) (rest := [.ref (b + 2), .ref (b + 0)]) S hG (by omega) (kX2_init_2 l rfl) (y := yX2_init) (host := "GrownKinds") (by decide +kernel) ⟨wm_208, wm_177, wm_209, by decide +kernel, by decide +kernel, rfl⟩ dX11_init_23 rfl hl.1 (ar := 0) (by decide +kernel) rfl ⟨Nat.le_of_ble_eq_true rfl, Nat.le_of_ble_eq_true rfl, Nat.le_of_ble_eq_true rfl, Nat.le_of_ble_eq_true rfl⟩ (Nat.le_of_ble_eq_true rfl) (fun u_E_1 H locs hp_2 hG => ?_)
  obtain ⟨n_E_1, E_1⟩ := u_E_1
  dsimp only at hp_2 hG
  refine W.widen (k := 11) (n := 948) (Nat.le_of_ble_eq_true rfl) (Nat.le_of_ble_eq_true rfl) ?_
  obtain ⟨rfl, hlo_3, hhlo_3_2, hhlo_3_3, hhlo_3_4, hhlo_3_5, hhlo_3_6, hhlo_3_7, hhlo_3_8, hhlo_3_9, hhlo_3_10, hhlo_3_11⟩ := hp_2
  refine g_putF (fs' := [.ref (b + 1), .int 0, .ref (b + 2), .null, .int 0, .int 0, .null, .null, .null, .null, .null, .null, .null, .null, .null, .int 0, .int 0, .int 0, .int 0]) S hG (hin rfl) 0 2 ((hlo_3 0 (by decide) (by decide)).trans rfl) cpX11 wm_668 dX11_init_26 rfl (by omega) (by decide) (Nat.le_of_ble_eq_true rfl) rfl rfl rfl rfl (fun H locs hG => ?_)
  refine lv_aload_n hx hb dX11_init_29 rfl (lv_at hl 0 rfl) ?_
  refine g_new (fs := [.null, .int 0, .int 0, .null, .null, .int 0, .int 0, .int 0, .int 0, .int 0, .int 0, .null, .null]) S hG (by omega) cpX5 wm_306 wm_307 wm_178 dX11_init_30 (by decide +kernel) ⟨Nat.le_of_ble_eq_true rfl, Nat.le_of_ble_eq_true rfl⟩ (fun H hG => ?_)
  refine W.widen (k := 12) (n := 961) (Nat.le_of_ble_eq_true rfl) (Nat.le_of_ble_eq_true rfl) ?_
  refine lv_dup hx hb dX11_init_33 rfl ?_
  refine g_new (fs := [.int 0, .int 0, .int 0, .int 0, .int 0, .null, .null, .null, .null, .null, .null, .null, .null, .null]) S hG (by omega) cpX2 wm_205 wm_206 wm_177 dX11_init_34 (by decide +kernel) ⟨Nat.le_of_ble_eq_true rfl, Nat.le_of_ble_eq_true rfl⟩ (fun H hG => ?_)
  refine W.widen (k := 13) (n := 975) (Nat.le_of_ble_eq_true rfl) (Nat.le_of_ble_eq_true rfl) ?_
  refine lv_dup hx hb dX11_init_37 rfl ?_
  refine g_ctorN (As := []) (rest := [.ref (b + 13), .ref (b + 12), .ref (b + 12), .ref (b + 0)]) S hG (by omega) (kX2_init_13 l rfl) (y := yX2_init) (host := "GrownKinds") (by decide +kernel) ⟨wm_208, wm_177, wm_209, by decide +kernel, by decide +kernel, rfl⟩ dX11_init_38 rfl hl.1 (ar := 0) (by decide +kernel) rfl ⟨Nat.le_of_ble_eq_true rfl, Nat.le_of_ble_eq_true rfl, Nat.le_of_ble_eq_true rfl, Nat.le_of_ble_eq_true rfl⟩ (Nat.le_of_ble_eq_true rfl) (fun u_E_4 H locs hp_5 hG => ?_)
  obtain ⟨n_E_4, E_4⟩ := u_E_4
  dsimp only at hp_5 hG
  refine W.widen (k := 22) (n := 1509) (Nat.le_of_ble_eq_true rfl) (Nat.le_of_ble_eq_true rfl) ?_
  obtain ⟨rfl, hlo_6, hhlo_6_13, hhlo_6_14, hhlo_6_15, hhlo_6_16, hhlo_6_17, hhlo_6_18, hhlo_6_19, hhlo_6_20, hhlo_6_21, hhlo_6_22⟩ := hp_5
  refine g_ctor (As := [.ref (b + 13)]) (rest := [.ref (b + 12), .ref (b + 0)]) S hG (by omega) (kX5_init_12 l ((hlo_6 12 (by decide) (by decide)).trans rfl)) wI_11_26 dX11_init_41 rfl hl.1 (ar := 1) (by decide +kernel) rfl ⟨Nat.le_of_ble_eq_true rfl, Nat.le_of_ble_eq_true rfl, Nat.le_of_ble_eq_true rfl, Nat.le_of_ble_eq_true rfl⟩ (Nat.le_of_ble_eq_true rfl) (fun u_E_7 H locs hp_8 hG => ?_)
  obtain ⟨n_E_7, E_7⟩ := u_E_7
  dsimp only at hp_8 hG
  refine W.widen (k := 32) (n := 1620) (Nat.le_of_ble_eq_true rfl) (Nat.le_of_ble_eq_true rfl) ?_
  obtain ⟨rfl, hlo_9, hhlo_9_12, hhlo_9_23, hhlo_9_24, hhlo_9_25, hhlo_9_26, hhlo_9_27, hhlo_9_28, hhlo_9_29, hhlo_9_30, hhlo_9_31, hhlo_9_32⟩ := hp_8
  refine g_putF (fs' := [.ref (b + 1), .int 0, .ref (b + 2), .ref (b + 12), .int 0, .int 0, .null, .null, .null, .null, .null, .null, .null, .null, .null, .int 0, .int 0, .int 0, .int 0]) S hG (hin rfl) 0 3 ((hlo_9 0 (by decide) (by decide)).trans ((hlo_6 0 (by decide) (by decide)).trans rfl)) cpX11 wm_669 dX11_init_44 rfl (by omega) (by decide) (Nat.le_of_ble_eq_true rfl) rfl rfl rfl rfl (fun H locs hG => ?_)
  refine lv_aload_n hx hb dX11_init_47 rfl (lv_at hl 0 rfl) ?_
  refine lv_iconst (v := 0) hx hb dX11_init_48 (by decide) ?_
  refine g_put (fs' := [.ref (b + 1), .int 0, .ref (b + 2), .ref (b + 12), .int 0, .int 0, .null, .null, .null, .null, .null, .null, .null, .null, .null, .int 0, .int 0, .int 0, .int 0]) S hG 0 4 rfl cpX11 wm_670 dX11_init_49 rfl (by omega) (by decide) (Nat.le_of_ble_eq_true rfl) rfl rfl rfl (fun H locs hG => ?_)
  refine lv_aload_n hx hb dX11_init_52 rfl (lv_at hl 0 rfl) ?_
  refine lv_iconst (v := (-1)) hx hb dX11_init_53 (by decide) ?_
  refine g_put (fs' := [.ref (b + 1), .int 0, .ref (b + 2), .ref (b + 12), .int 0, .int (-1), .null, .null, .null, .null, .null, .null, .null, .null, .null, .int 0, .int 0, .int 0, .int 0]) S hG 0 5 rfl cpX11 wm_671 dX11_init_54 rfl (by omega) (by decide) (Nat.le_of_ble_eq_true rfl) rfl rfl rfl (fun H locs hG => ?_)
  refine lv_aload_n hx hb dX11_init_57 rfl (lv_at hl 0 rfl) ?_
  refine g_new (fs := [.null, .int 0, .int 0, .null, .null, .null, .null, .null, .null]) S hG (by omega) cpX3 wm_394 wm_313 wm_179 dX11_init_58 (by decide +kernel) ⟨Nat.le_of_ble_eq_true rfl, Nat.le_of_ble_eq_true rfl⟩ (fun H hG => ?_)
  refine W.widen (k := 33) (n := 1629) (Nat.le_of_ble_eq_true rfl) (Nat.le_of_ble_eq_true rfl) ?_
  refine lv_dup hx hb dX11_init_61 rfl ?_
  refine lv_aload_n hx hb dX11_init_62 rfl (lv_at hl 0 rfl) ?_
  refine g_get S hG 0 2 rfl cpX11 wm_668 dX11_init_63 rfl (by omega) (by decide) ?_
  refine g_ctor (As := [.ref (b + 2)]) (rest := [.ref (b + 33), .ref (b + 0)]) S hG (by omega) (kX3_init_33 l rfl) wI_11_41 dX11_init_66 rfl hl.1 (ar := 1) (by decide +kernel) rfl ⟨Nat.le_of_ble_eq_true rfl, Nat.le_of_ble_eq_true rfl, Nat.le_of_ble_eq_true rfl, Nat.le_of_ble_eq_true rfl⟩ (Nat.le_of_ble_eq_true rfl) (fun u_E_10 H locs hp_11 hG => ?_)
  obtain ⟨n_E_10, E_10⟩ := u_E_10
  dsimp only at hp_11 hG
  refine W.widen (k := 39) (n := 1719) (Nat.le_of_ble_eq_true rfl) (Nat.le_of_ble_eq_true rfl) ?_
  obtain ⟨rfl, hlo_12, hhlo_12_33, hhlo_12_34, hhlo_12_35, hhlo_12_36, hhlo_12_37, hhlo_12_38, hhlo_12_39⟩ := hp_11
  refine g_putF (fs' := [.ref (b + 1), .int 0, .ref (b + 2), .ref (b + 12), .int 0, .int (-1), .ref (b + 33), .null, .null, .null, .null, .null, .null, .null, .null, .int 0, .int 0, .int 0, .int 0]) S hG (hin rfl) 0 6 ((hlo_12 0 (by decide) (by decide)).trans rfl) cpX11 wm_672 dX11_init_69 rfl (by omega) (by decide) (Nat.le_of_ble_eq_true rfl) rfl rfl rfl rfl (fun H locs hG => ?_)
  refine lv_aload_n hx hb dX11_init_72 rfl (lv_at hl 0 rfl) ?_
  refine g_new (fs := [.null, .int 0, .null, .null, .null, .null, .null, .null]) S hG (by omega) cpX0 wm_396 wm_397 wm_180 dX11_init_73 (by decide +kernel) ⟨Nat.le_of_ble_eq_true rfl, Nat.le_of_ble_eq_true rfl⟩ (fun H hG => ?_)
  refine W.widen (k := 40) (n := 1727) (Nat.le_of_ble_eq_true rfl) (Nat.le_of_ble_eq_true rfl) ?_
  refine lv_dup hx hb dX11_init_76 rfl ?_
  refine lv_aload_n hx hb dX11_init_77 rfl (lv_at hl 0 rfl) ?_
  refine g_get S hG 0 2 rfl cpX11 wm_668 dX11_init_78 rfl (by omega) (by decide) ?_
  refine lv_iconst (v := 1) hx hb dX11_init_81 (by decide) ?_
  refine g_ctor (As := [.ref (b + 2), .int 1]) (rest := [.ref (b + 40), .ref (b + 0)]) S hG (by omega) (kX0_init_40 l rfl) wI_11_48 dX11_init_82 rfl hl.1 (ar := 2) (by decide +kernel) rfl ⟨Nat.le_of_ble_eq_true rfl, Nat.le_of_ble_eq_true rfl, Nat.le_of_ble_eq_true rfl, Nat.le_of_ble_eq_true rfl⟩ (Nat.le_of_ble_eq_true rfl) (fun u_E_13 H locs hp_14 hG => ?_)
  obtain ⟨n_E_13, E_13⟩ := u_E_13
  dsimp only at hp_14 hG
  refine W.widen (k := 46) (n := 29767) (Nat.le_of_ble_eq_true rfl) (Nat.le_of_ble_eq_true rfl) ?_
  obtain ⟨rfl, hlo_15, hhlo_15_40, hhlo_15_41, hhlo_15_42, hhlo_15_43, hhlo_15_44, hhlo_15_45, hhlo_15_46⟩ := hp_14
  refine g_putF (fs' := [.ref (b + 1), .int 0, .ref (b + 2), .ref (b + 12), .int 0, .int (-1), .ref (b + 33), .ref (b + 40), .null, .null, .null, .null, .null, .null, .null, .int 0, .int 0, .int 0, .int 0]) S hG (hin rfl) 0 7 ((hlo_15 0 (by decide) (by decide)).trans rfl) cpX11 wm_673 dX11_init_85 rfl (by omega) (by decide) (Nat.le_of_ble_eq_true rfl) rfl rfl rfl rfl (fun H locs hG => ?_)
  refine lv_aload_n hx hb dX11_init_88 rfl (lv_at hl 0 rfl) ?_
  refine g_new (fs := [.null, .null, .int 0, .null, .null, .null, .null, .null]) S hG (by omega) cpX4 wm_428 wm_429 wm_181 dX11_init_89 (by decide +kernel) ⟨Nat.le_of_ble_eq_true rfl, Nat.le_of_ble_eq_true rfl⟩ (fun H hG => ?_)
  refine W.widen (k := 47) (n := 29775) (Nat.le_of_ble_eq_true rfl) (Nat.le_of_ble_eq_true rfl) ?_
  refine lv_dup hx hb dX11_init_92 rfl ?_
  refine lv_aload_n hx hb dX11_init_93 rfl (lv_at hl 0 rfl) ?_
  refine g_get S hG 0 2 rfl cpX11 wm_668 dX11_init_94 rfl (by omega) (by decide) ?_
  refine g_new (fs := [.null, .int 0, .null, .null, .null, .null, .null, .null]) S hG (by omega) cpX0 wm_396 wm_397 wm_180 dX11_init_97 (by decide +kernel) ⟨Nat.le_of_ble_eq_true rfl, Nat.le_of_ble_eq_true rfl⟩ (fun H hG => ?_)
  refine W.widen (k := 48) (n := 29783) (Nat.le_of_ble_eq_true rfl) (Nat.le_of_ble_eq_true rfl) ?_
  refine lv_dup hx hb dX11_init_100 rfl ?_
  refine lv_aload_n hx hb dX11_init_101 rfl (lv_at hl 0 rfl) ?_
  refine g_get S hG 0 2 rfl cpX11 wm_668 dX11_init_102 rfl (by omega) (by decide) ?_
  refine lv_iconst (v := 0) hx hb dX11_init_105 (by decide) ?_
  refine g_ctor (As := [.ref (b + 2), .int 0]) (rest := [.ref (b + 48), .ref (b + 2), .ref (b + 47), .ref (b + 47), .ref (b + 0)]) S hG (by omega) (kX0_init_48 l rfl) wI_11_48 dX11_init_106 rfl hl.1 (ar := 2) (by decide +kernel) rfl ⟨Nat.le_of_ble_eq_true rfl, Nat.le_of_ble_eq_true rfl, Nat.le_of_ble_eq_true rfl, Nat.le_of_ble_eq_true rfl⟩ (Nat.le_of_ble_eq_true rfl) (fun u_E_16 H locs hp_17 hG => ?_)
  obtain ⟨n_E_16, E_16⟩ := u_E_16
  dsimp only at hp_17 hG
  refine W.widen (k := 54) (n := 45535) (Nat.le_of_ble_eq_true rfl) (Nat.le_of_ble_eq_true rfl) ?_
  obtain ⟨rfl, hlo_18, hhlo_18_48, hhlo_18_49, hhlo_18_50, hhlo_18_51, hhlo_18_52, hhlo_18_53, hhlo_18_54⟩ := hp_17
  refine g_ctor (As := [.ref (b + 2), .ref (b + 48)]) (rest := [.ref (b + 47), .ref (b + 0)]) S hG (by omega) (kX4_init_47 l ((hlo_18 47 (by decide) (by decide)).trans rfl)) wI_11_57 dX11_init_109 rfl hl.1 (ar := 2) (by decide +kernel) rfl ⟨Nat.le_of_ble_eq_true rfl, Nat.le_of_ble_eq_true rfl, Nat.le_of_ble_eq_true rfl, Nat.le_of_ble_eq_true rfl⟩ (Nat.le_of_ble_eq_true rfl) (fun u_E_19 H locs hp_20 hG => ?_)
  obtain ⟨n_E_19, E_19⟩ := u_E_19
  dsimp only at hp_20 hG
  refine W.widen (k := 59) (n := 58533) (Nat.le_of_ble_eq_true rfl) (Nat.le_of_ble_eq_true rfl) ?_
  obtain ⟨rfl, hlo_21, hhlo_21_47, hhlo_21_55, hhlo_21_56, hhlo_21_57, hhlo_21_58, hhlo_21_59⟩ := hp_20
  refine g_putF (fs' := [.ref (b + 1), .int 0, .ref (b + 2), .ref (b + 12), .int 0, .int (-1), .ref (b + 33), .ref (b + 40), .ref (b + 47), .null, .null, .null, .null, .null, .null, .int 0, .int 0, .int 0, .int 0]) S hG (hin rfl) 0 8 ((hlo_21 0 (by decide) (by decide)).trans ((hlo_18 0 (by decide) (by decide)).trans rfl)) cpX11 wm_674 dX11_init_112 rfl (by omega) (by decide) (Nat.le_of_ble_eq_true rfl) rfl rfl rfl rfl (fun H locs hG => ?_)
  refine lv_aload_n hx hb dX11_init_115 rfl (lv_at hl 0 rfl) ?_
  refine g_new (fs := [.null, .null, .null, .null, .int 0, .int 0, .int 0, .int 0, .int 0, .null, .int 0, .null, .int 0, .int 0, .int 0]) S hG (by omega) cpX9 wm_460 wm_461 wm_182 dX11_init_116 (by decide +kernel) ⟨Nat.le_of_ble_eq_true rfl, Nat.le_of_ble_eq_true rfl⟩ (fun H hG => ?_)
  refine W.widen (k := 60) (n := 58548) (Nat.le_of_ble_eq_true rfl) (Nat.le_of_ble_eq_true rfl) ?_
  refine lv_dup hx hb dX11_init_119 rfl ?_
  refine lv_aload_n hx hb dX11_init_120 rfl (lv_at hl 0 rfl) ?_
  refine g_get S hG 0 2 rfl cpX11 wm_668 dX11_init_121 rfl (by omega) (by decide) ?_
  refine lv_aload_n hx hb dX11_init_124 rfl (lv_at hl 0 rfl) ?_
  refine g_get S hG 0 7 rfl cpX11 wm_673 dX11_init_125 rfl (by omega) (by decide) ?_
  refine g_new (fs := [.null, .null, .int 0, .null, .null, .int 0]) S hG (by omega) cpX8 wm_462 wm_463 wm_183 dX11_init_128 (by decide +kernel) ⟨Nat.le_of_ble_eq_true rfl, Nat.le_of_ble_eq_true rfl⟩ (fun H hG => ?_)
  refine W.widen (k := 61) (n := 58554) (Nat.le_of_ble_eq_true rfl) (Nat.le_of_ble_eq_true rfl) ?_
  refine lv_dup hx hb dX11_init_131 rfl ?_
  refine lv_aload_n hx hb dX11_init_132 rfl (lv_at hl 0 rfl) ?_
  refine g_get S hG 0 2 rfl cpX11 wm_668 dX11_init_133 rfl (by omega) (by decide) ?_
  refine lv_aload_n hx hb dX11_init_136 rfl (lv_at hl 0 rfl) ?_
  refine g_get S hG 0 7 rfl cpX11 wm_673 dX11_init_137 rfl (by omega) (by decide) ?_
  refine g_ctor (As := [.ref (b + 2), .ref (b + 40)]) (rest := [.ref (b + 61), .ref (b + 40), .ref (b + 2), .ref (b + 60), .ref (b + 60), .ref (b + 0)]) S hG (by omega) (kX8_init_61 l rfl) wI_11_68 dX11_init_140 rfl hl.1 (ar := 2) (by decide +kernel) rfl ⟨Nat.le_of_ble_eq_true rfl, Nat.le_of_ble_eq_true rfl, Nat.le_of_ble_eq_true rfl, Nat.le_of_ble_eq_true rfl⟩ (Nat.le_of_ble_eq_true rfl) (fun u_E_22 H locs hp_23 hG => ?_)
  obtain ⟨n_E_22, E_22⟩ := u_E_22
  dsimp only at hp_23 hG
  refine W.widen (k := 63) (n := 58754) (Nat.le_of_ble_eq_true rfl) (Nat.le_of_ble_eq_true rfl) ?_
  obtain ⟨rfl, hlo_24, hhlo_24_61, hhlo_24_62, hhlo_24_63⟩ := hp_23
  refine g_ctor (As := [.ref (b + 2), .ref (b + 40), .ref (b + 61)]) (rest := [.ref (b + 60), .ref (b + 0)]) S hG (by omega) (kX9_init_60 l ((hlo_24 60 (by decide) (by decide)).trans rfl)) wI_11_69 dX11_init_143 rfl hl.1 (ar := 3) (by decide +kernel) rfl ⟨Nat.le_of_ble_eq_true rfl, Nat.le_of_ble_eq_true rfl, Nat.le_of_ble_eq_true rfl, Nat.le_of_ble_eq_true rfl⟩ (Nat.le_of_ble_eq_true rfl) (fun u_E_25 H locs hp_26 hG => ?_)
  obtain ⟨n_E_25, E_25⟩ := u_E_25
  dsimp only at hp_26 hG
  refine W.widen (k := 66) (n := 60136) (Nat.le_of_ble_eq_true rfl) (Nat.le_of_ble_eq_true rfl) ?_
  obtain ⟨rfl, hlo_27, hhlo_27_60, hhlo_27_64, hhlo_27_65, hhlo_27_66⟩ := hp_26
  refine g_putF (fs' := [.ref (b + 1), .int 0, .ref (b + 2), .ref (b + 12), .int 0, .int (-1), .ref (b + 33), .ref (b + 40), .ref (b + 47), .ref (b + 60), .null, .null, .null, .null, .null, .int 0, .int 0, .int 0, .int 0]) S hG (hin rfl) 0 9 ((hlo_27 0 (by decide) (by decide)).trans ((hlo_24 0 (by decide) (by decide)).trans rfl)) cpX11 wm_675 dX11_init_146 rfl (by omega) (by decide) (Nat.le_of_ble_eq_true rfl) rfl rfl rfl rfl (fun H locs hG => ?_)
  refine lv_aload_n hx hb dX11_init_149 rfl (lv_at hl 0 rfl) ?_
  refine g_new (fs := [.null, .null, .null, .int 0, .int 0, .int 0, .int 0, .null, .int 0, .null, .int 0, .null, .int 0]) S hG (by omega) cpX10 wm_551 wm_552 wm_184 dX11_init_150 (by decide +kernel) ⟨Nat.le_of_ble_eq_true rfl, Nat.le_of_ble_eq_true rfl⟩ (fun H hG => ?_)
  refine W.widen (k := 67) (n := 60149) (Nat.le_of_ble_eq_true rfl) (Nat.le_of_ble_eq_true rfl) ?_
  refine lv_dup hx hb dX11_init_153 rfl ?_
  refine lv_aload_n hx hb dX11_init_154 rfl (lv_at hl 0 rfl) ?_
  refine g_get S hG 0 2 rfl cpX11 wm_668 dX11_init_155 rfl (by omega) (by decide) ?_
  refine g_ctor (As := [.ref (b + 2)]) (rest := [.ref (b + 67), .ref (b + 0)]) S hG (by omega) (kX10_init_67 l rfl) wI_11_78 dX11_init_158 rfl hl.1 (ar := 1) (by decide +kernel) rfl ⟨Nat.le_of_ble_eq_true rfl, Nat.le_of_ble_eq_true rfl, Nat.le_of_ble_eq_true rfl, Nat.le_of_ble_eq_true rfl⟩ (Nat.le_of_ble_eq_true rfl) (fun u_E_28 H locs hp_29 hG => ?_)
  obtain ⟨n_E_28, E_28⟩ := u_E_28
  dsimp only at hp_29 hG
  refine W.widen (k := 72) (n := 60350) (Nat.le_of_ble_eq_true rfl) (Nat.le_of_ble_eq_true rfl) ?_
  obtain ⟨rfl, hlo_30, hhlo_30_67, hhlo_30_68, hhlo_30_69, hhlo_30_70, hhlo_30_71, hhlo_30_72⟩ := hp_29
  refine g_putF (fs' := [.ref (b + 1), .int 0, .ref (b + 2), .ref (b + 12), .int 0, .int (-1), .ref (b + 33), .ref (b + 40), .ref (b + 47), .ref (b + 60), .ref (b + 67), .null, .null, .null, .null, .int 0, .int 0, .int 0, .int 0]) S hG (hin rfl) 0 10 ((hlo_30 0 (by decide) (by decide)).trans rfl) cpX11 wm_676 dX11_init_161 rfl (by omega) (by decide) (Nat.le_of_ble_eq_true rfl) rfl rfl rfl rfl (fun H locs hG => ?_)
  refine lv_aload_n hx hb dX11_init_164 rfl (lv_at hl 0 rfl) ?_
  refine g_new (fs := [.null, .null, .null, .null, .null, .null, .int 0, .int 0, .null]) S hG (by omega) cpX7 wm_598 wm_599 wm_185 dX11_init_165 (by decide +kernel) ⟨Nat.le_of_ble_eq_true rfl, Nat.le_of_ble_eq_true rfl⟩ (fun H hG => ?_)
  refine W.widen (k := 73) (n := 60359) (Nat.le_of_ble_eq_true rfl) (Nat.le_of_ble_eq_true rfl) ?_
  refine lv_dup hx hb dX11_init_168 rfl ?_
  refine lv_aload_n hx hb dX11_init_169 rfl (lv_at hl 0 rfl) ?_
  refine g_get S hG 0 9 rfl cpX11 wm_675 dX11_init_170 rfl (by omega) (by decide) ?_
  refine g_ctor (As := [.ref (b + 60)]) (rest := [.ref (b + 73), .ref (b + 0)]) S hG (by omega) (kX7_init_73 l rfl) wI_11_85 dX11_init_173 rfl hl.1 (ar := 1) (by decide +kernel) rfl ⟨Nat.le_of_ble_eq_true rfl, Nat.le_of_ble_eq_true rfl, Nat.le_of_ble_eq_true rfl, Nat.le_of_ble_eq_true rfl⟩ (Nat.le_of_ble_eq_true rfl) (fun u_E_31 H locs hp_32 hG => ?_)
  obtain ⟨n_E_31, E_31⟩ := u_E_31
  dsimp only at hp_32 hG
  refine W.widen (k := 79) (n := 63025) (Nat.le_of_ble_eq_true rfl) (Nat.le_of_ble_eq_true rfl) ?_
  obtain ⟨rfl, hlo_33, hhlo_33_73, hhlo_33_74, hhlo_33_75, hhlo_33_76, hhlo_33_77, hhlo_33_78, hhlo_33_79⟩ := hp_32
  refine g_putF (fs' := [.ref (b + 1), .int 0, .ref (b + 2), .ref (b + 12), .int 0, .int (-1), .ref (b + 33), .ref (b + 40), .ref (b + 47), .ref (b + 60), .ref (b + 67), .ref (b + 73), .null, .null, .null, .int 0, .int 0, .int 0, .int 0]) S hG (hin rfl) 0 11 ((hlo_33 0 (by decide) (by decide)).trans rfl) cpX11 wm_677 dX11_init_176 rfl (by omega) (by decide) (Nat.le_of_ble_eq_true rfl) rfl rfl rfl rfl (fun H locs hG => ?_)
  refine lv_aload_n hx hb dX11_init_179 rfl (lv_at hl 0 rfl) ?_
  refine g_new (fs := [.null, .int 0, .int 0, .int 0, .int 0, .int 0, .int 0]) S hG (by omega) cpX1 wm_637 wm_638 wm_186 dX11_init_180 (by decide +kernel) ⟨Nat.le_of_ble_eq_true rfl, Nat.le_of_ble_eq_true rfl⟩ (fun H hG => ?_)
  refine W.widen (k := 80) (n := 63032) (Nat.le_of_ble_eq_true rfl) (Nat.le_of_ble_eq_true rfl) ?_
  refine lv_dup hx hb dX11_init_183 rfl ?_
  refine lv_aload_n hx hb dX11_init_184 rfl (lv_at hl 0 rfl) ?_
  refine g_get S hG 0 7 rfl cpX11 wm_673 dX11_init_185 rfl (by omega) (by decide) ?_
  refine g_ctor (As := [.ref (b + 40)]) (rest := [.ref (b + 80), .ref (b + 0)]) S hG (by omega) (kX1_init_80 l rfl) wI_11_94 dX11_init_188 rfl hl.1 (ar := 1) (by decide +kernel) rfl ⟨Nat.le_of_ble_eq_true rfl, Nat.le_of_ble_eq_true rfl, Nat.le_of_ble_eq_true rfl, Nat.le_of_ble_eq_true rfl⟩ (Nat.le_of_ble_eq_true rfl) (fun u_E_34 H locs hp_35 hG => ?_)
  obtain ⟨n_E_34, E_34⟩ := u_E_34
  dsimp only at hp_35 hG
  refine W.widen (k := 80) (n := 63032) (Nat.le_of_ble_eq_true rfl) (Nat.le_of_ble_eq_true rfl) ?_
  obtain ⟨rfl, hlo_36, hhlo_36_80⟩ := hp_35
  refine g_putF (fs' := [.ref (b + 1), .int 0, .ref (b + 2), .ref (b + 12), .int 0, .int (-1), .ref (b + 33), .ref (b + 40), .ref (b + 47), .ref (b + 60), .ref (b + 67), .ref (b + 73), .ref (b + 80), .null, .null, .int 0, .int 0, .int 0, .int 0]) S hG (hin rfl) 0 12 ((hlo_36 0 (by decide) (by decide)).trans rfl) cpX11 wm_678 dX11_init_191 rfl (by omega) (by decide) (Nat.le_of_ble_eq_true rfl) rfl rfl rfl rfl (fun H locs hG => ?_)
  refine lv_aload_n hx hb dX11_init_194 rfl (lv_at hl 0 rfl) ?_
  refine lv_bipush (v := 40) hx hb dX11_init_195 (by decide) ?_
  refine g_newa (atype := .byte) (ty := .byte) (N := 40) (a0 := (40, .inl (fun _ => 0))) S hG (by omega) 0 rfl rfl (fun h => h) wm_304 (fun _ => rfl) dX11_init_197 (by decide) (by decide) (by decide) ⟨Nat.le_of_ble_eq_true rfl, Nat.le_of_ble_eq_true rfl⟩ (fun H hG => ?_)
  refine W.widen (k := 81) (n := 63072) (Nat.le_of_ble_eq_true rfl) (Nat.le_of_ble_eq_true rfl) ?_
  refine g_putF (fs' := [.ref (b + 1), .int 0, .ref (b + 2), .ref (b + 12), .int 0, .int (-1), .ref (b + 33), .ref (b + 40), .ref (b + 47), .ref (b + 60), .ref (b + 67), .ref (b + 73), .ref (b + 80), .ref (b + 81), .null, .int 0, .int 0, .int 0, .int 0]) S hG (hin rfl) 0 13 rfl cpX11 wm_679 dX11_init_199 rfl (by omega) (by decide) (Nat.le_of_ble_eq_true rfl) rfl rfl rfl rfl (fun H locs hG => ?_)
  refine lv_aload_n hx hb dX11_init_202 rfl (lv_at hl 0 rfl) ?_
  refine lv_bipush (v := 10) hx hb dX11_init_203 (by decide) ?_
  refine g_newa (atype := .int) (ty := .int) (N := 10) (a0 := (10, .inl (fun _ => 0))) S hG (by omega) 1 rfl rfl (fun h => h) wm_305 (fun _ => rfl) dX11_init_205 (by decide) (by decide) (by decide) ⟨Nat.le_of_ble_eq_true rfl, Nat.le_of_ble_eq_true rfl⟩ (fun H hG => ?_)
  refine W.widen (k := 82) (n := 63082) (Nat.le_of_ble_eq_true rfl) (Nat.le_of_ble_eq_true rfl) ?_
  refine g_putF (fs' := [.ref (b + 1), .int 0, .ref (b + 2), .ref (b + 12), .int 0, .int (-1), .ref (b + 33), .ref (b + 40), .ref (b + 47), .ref (b + 60), .ref (b + 67), .ref (b + 73), .ref (b + 80), .ref (b + 81), .ref (b + 82), .int 0, .int 0, .int 0, .int 0]) S hG (hin rfl) 0 14 rfl cpX11 wm_680 dX11_init_207 rfl (by omega) (by decide) (Nat.le_of_ble_eq_true rfl) rfl rfl rfl rfl (fun H locs hG => ?_)
  refine lv_aload_n hx hb dX11_init_210 rfl (lv_at hl 0 rfl) ?_
  refine lv_iconst (v := 0) hx hb dX11_init_211 (by decide) ?_
  refine g_put (fs' := [.ref (b + 1), .int 0, .ref (b + 2), .ref (b + 12), .int 0, .int (-1), .ref (b + 33), .ref (b + 40), .ref (b + 47), .ref (b + 60), .ref (b + 67), .ref (b + 73), .ref (b + 80), .ref (b + 81), .ref (b + 82), .int 0, .int 0, .int 0, .int 0]) S hG 0 15 rfl cpX11 wm_681 dX11_init_212 rfl (by omega) (by decide) (Nat.le_of_ble_eq_true rfl) rfl rfl rfl (fun H locs hG => ?_)
  refine lv_aload_n hx hb dX11_init_215 rfl (lv_at hl 0 rfl) ?_
  refine lv_iconst (v := 0) hx hb dX11_init_216 (by decide) ?_
  refine g_put (fs' := [.ref (b + 1), .int 0, .ref (b + 2), .ref (b + 12), .int 0, .int (-1), .ref (b + 33), .ref (b + 40), .ref (b + 47), .ref (b + 60), .ref (b + 67), .ref (b + 73), .ref (b + 80), .ref (b + 81), .ref (b + 82), .int 0, .int 0, .int 0, .int 0]) S hG 0 16 rfl cpX11 wm_682 dX11_init_217 rfl (by omega) (by decide) (Nat.le_of_ble_eq_true rfl) rfl rfl rfl (fun H locs hG => ?_)
  refine lv_aload_n hx hb dX11_init_220 rfl (lv_at hl 0 rfl) ?_
  refine lv_iconst (v := (-1)) hx hb dX11_init_221 (by decide) ?_
  refine g_put (fs' := [.ref (b + 1), .int 0, .ref (b + 2), .ref (b + 12), .int 0, .int (-1), .ref (b + 33), .ref (b + 40), .ref (b + 47), .ref (b + 60), .ref (b + 67), .ref (b + 73), .ref (b + 80), .ref (b + 81), .ref (b + 82), .int 0, .int 0, .int (-1), .int 0]) S hG 0 17 rfl cpX11 wm_683 dX11_init_222 rfl (by omega) (by decide) (Nat.le_of_ble_eq_true rfl) rfl rfl rfl (fun H locs hG => ?_)
  refine lv_aload_n hx hb dX11_init_225 rfl (lv_at hl 0 rfl) ?_
  refine lv_iconst (v := (-1)) hx hb dX11_init_226 (by decide) ?_
  refine g_put (fs' := [.ref (b + 1), .int 0, .ref (b + 2), .ref (b + 12), .int 0, .int (-1), .ref (b + 33), .ref (b + 40), .ref (b + 47), .ref (b + 60), .ref (b + 67), .ref (b + 73), .ref (b + 80), .ref (b + 81), .ref (b + 82), .int 0, .int 0, .int (-1), .int (-1)]) S hG 0 18 rfl cpX11 wm_684 dX11_init_227 rfl (by omega) (by decide) (Nat.le_of_ble_eq_true rfl) rfl rfl rfl (fun H locs hG => ?_)
  exact g_vret S hr hlk hG (by omega) dX11_init_230 ⟨Nat.le_of_ble_eq_true rfl, Nat.le_of_ble_eq_true rfl⟩ ⟨rfl, fun j h1 h2 => (upE_n (by omega)).trans ((upE_n (by omega)).trans ((upE_n (by omega)).trans ((upE_n (by omega)).trans ((upE_n (by omega)).trans ((upE_n (by omega)).trans ((upE_n (by omega)).trans ((upE_n (by omega)).trans ((upE_n (by omega)).trans ((hlo_36 j (by omega) (by omega)).trans ((upE_n (by omega)).trans ((upE_n (by omega)).trans ((hlo_33 j (by omega) (by omega)).trans ((upE_n (by omega)).trans ((upE_n (by omega)).trans ((hlo_30 j (by omega) (by omega)).trans ((upE_n (by omega)).trans ((upE_n (by omega)).trans ((hlo_27 j (by omega) (by omega)).trans ((hlo_24 j (by omega) (by omega)).trans ((upE_n (by omega)).trans ((upE_n (by omega)).trans ((upE_n (by omega)).trans ((hlo_21 j (by omega) (by omega)).trans ((hlo_18 j (by omega) (by omega)).trans ((upE_n (by omega)).trans ((upE_n (by omega)).trans ((upE_n (by omega)).trans ((hlo_15 j (by omega) (by omega)).trans ((upE_n (by omega)).trans ((upE_n (by omega)).trans ((hlo_12 j (by omega) (by omega)).trans ((upE_n (by omega)).trans ((upE_n (by omega)).trans ((upE_n (by omega)).trans ((upE_n (by omega)).trans ((hlo_9 j (by omega) (by omega)).trans ((hlo_6 j (by omega) (by omega)).trans ((upE_n (by omega)).trans ((upE_n (by omega)).trans ((upE_n (by omega)).trans ((hlo_3 j (by omega) (by omega)).trans ((upE_n (by omega)).trans ((upE_n (by omega)).trans ((upE_n (by omega)).trans ((upE_n (by omega)).trans (rfl)))))))))))))))))))))))))))))))))))))))))))))), rfl, ((hlo_36 1 (by decide) (by decide)).trans ((hlo_33 1 (by decide) (by decide)).trans ((hlo_30 1 (by decide) (by decide)).trans ((hlo_27 1 (by decide) (by decide)).trans ((hlo_24 1 (by decide) (by decide)).trans ((hlo_21 1 (by decide) (by decide)).trans ((hlo_18 1 (by decide) (by decide)).trans ((hlo_15 1 (by decide) (by decide)).trans ((hlo_12 1 (by decide) (by decide)).trans ((hlo_9 1 (by decide) (by decide)).trans ((hlo_6 1 (by decide) (by decide)).trans ((hlo_3 1 (by decide) (by decide)).trans rfl)))))))))))), ((hlo_36 2 (by decide) (by decide)).trans ((hlo_33 2 (by decide) (by decide)).trans ((hlo_30 2 (by decide) (by decide)).trans ((hlo_27 2 (by decide) (by decide)).trans ((hlo_24 2 (by decide) (by decide)).trans ((hlo_21 2 (by decide) (by decide)).trans ((hlo_18 2 (by decide) (by decide)).trans ((hlo_15 2 (by decide) (by decide)).trans ((hlo_12 2 (by decide) (by decide)).trans ((hlo_9 2 (by decide) (by decide)).trans ((hlo_6 2 (by decide) (by decide)).trans hhlo_3_2))))))))))), ((hlo_36 3 (by decide) (by decide)).trans ((hlo_33 3 (by decide) (by decide)).trans ((hlo_30 3 (by decide) (by decide)).trans ((hlo_27 3 (by decide) (by decide)).trans ((hlo_24 3 (by decide) (by decide)).trans ((hlo_21 3 (by decide) (by decide)).trans ((hlo_18 3 (by decide) (by decide)).trans ((hlo_15 3 (by decide) (by decide)).trans ((hlo_12 3 (by decide) (by decide)).trans ((hlo_9 3 (by decide) (by decide)).trans ((hlo_6 3 (by decide) (by decide)).trans hhlo_3_3))))))))))), ((hlo_36 4 (by decide) (by decide)).trans ((hlo_33 4 (by decide) (by decide)).trans ((hlo_30 4 (by decide) (by decide)).trans ((hlo_27 4 (by decide) (by decide)).trans ((hlo_24 4 (by decide) (by decide)).trans ((hlo_21 4 (by decide) (by decide)).trans ((hlo_18 4 (by decide) (by decide)).trans ((hlo_15 4 (by decide) (by decide)).trans ((hlo_12 4 (by decide) (by decide)).trans ((hlo_9 4 (by decide) (by decide)).trans ((hlo_6 4 (by decide) (by decide)).trans hhlo_3_4))))))))))), ((hlo_36 5 (by decide) (by decide)).trans ((hlo_33 5 (by decide) (by decide)).trans ((hlo_30 5 (by decide) (by decide)).trans ((hlo_27 5 (by decide) (by decide)).trans ((hlo_24 5 (by decide) (by decide)).trans ((hlo_21 5 (by decide) (by decide)).trans ((hlo_18 5 (by decide) (by decide)).trans ((hlo_15 5 (by decide) (by decide)).trans ((hlo_12 5 (by decide) (by decide)).trans ((hlo_9 5 (by decide) (by decide)).trans ((hlo_6 5 (by decide) (by decide)).trans hhlo_3_5))))))))))), ((hlo_36 6 (by decide) (by decide)).trans ((hlo_33 6 (by decide) (by decide)).trans ((hlo_30 6 (by decide) (by decide)).trans ((hlo_27 6 (by decide) (by decide)).trans ((hlo_24 6 (by decide) (by decide)).trans ((hlo_21 6 (by decide) (by decide)).trans ((hlo_18 6 (by decide) (by decide)).trans ((hlo_15 6 (by decide) (by decide)).trans ((hlo_12 6 (by decide) (by decide)).trans ((hlo_9 6 (by decide) (by decide)).trans ((hlo_6 6 (by decide) (by decide)).trans hhlo_3_6))))))))))), ((hlo_36 7 (by decide) (by decide)).trans ((hlo_33 7 (by decide) (by decide)).trans ((hlo_30 7 (by decide) (by decide)).trans ((hlo_27 7 (by decide) (by decide)).trans ((hlo_24 7 (by decide) (by decide)).trans ((hlo_21 7 (by decide) (by decide)).trans ((hlo_18 7 (by decide) (by decide)).trans ((hlo_15 7 (by decide) (by decide)).trans ((hlo_12 7 (by decide) (by decide)).trans ((hlo_9 7 (by decide) (by decide)).trans ((hlo_6 7 (by decide) (by decide)).trans hhlo_3_7))))))))))), ((hlo_36 8 (by decide) (by decide)).trans ((hlo_33 8 (by decide) (by decide)).trans ((hlo_30 8 (by decide) (by decide)).trans ((hlo_27 8 (by decide) (by decide)).trans ((hlo_24 8 (by decide) (by decide)).trans ((hlo_21 8 (by decide) (by decide)).trans ((hlo_18 8 (by decide) (by decide)).trans ((hlo_15 8 (by decide) (by decide)).trans ((hlo_12 8 (by decide) (by decide)).trans ((hlo_9 8 (by decide) (by decide)).trans ((hlo_6 8 (by decide) (by decide)).trans hhlo_3_8))))))))))), ((hlo_36 9 (by decide) (by decide)).trans ((hlo_33 9 (by decide) (by decide)).trans ((hlo_30 9 (by decide) (by decide)).trans ((hlo_27 9 (by decide) (by decide)).trans ((hlo_24 9 (by decide) (by decide)).trans ((hlo_21 9 (by decide) (by decide)).trans ((hlo_18 9 (by decide) (by decide)).trans ((hlo_15 9 (by decide) (by decide)).trans ((hlo_12 9 (by decide) (by decide)).trans ((hlo_9 9 (by decide) (by decide)).trans ((hlo_6 9 (by decide) (by decide)).trans hhlo_3_9))))))))))), ((hlo_36 10 (by decide) (by decide)).trans ((hlo_33 10 (by decide) (by decide)).trans ((hlo_30 10 (by decide) (by decide)).trans ((hlo_27 10 (by decide) (by decide)).trans ((hlo_24 10 (by decide) (by decide)).trans ((hlo_21 10 (by decide) (by decide)).trans ((hlo_18 10 (by decide) (by decide)).trans ((hlo_15 10 (by decide) (by decide)).trans ((hlo_12 10 (by decide) (by decide)).trans ((hlo_9 10 (by decide) (by decide)).trans ((hlo_6 10 (by decide) (by decide)).trans hhlo_3_10))))))))))), ((hlo_36 11 (by decide) (by decide)).trans ((hlo_33 11 (by decide) (by decide)).trans ((hlo_30 11 (by decide) (by decide)).trans ((hlo_27 11 (by decide) (by decide)).trans ((hlo_24 11 (by decide) (by decide)).trans ((hlo_21 11 (by decide) (by decide)).trans ((hlo_18 11 (by decide) (by decide)).trans ((hlo_15 11 (by decide) (by decide)).trans ((hlo_12 11 (by decide) (by decide)).trans ((hlo_9 11 (by decide) (by decide)).trans ((hlo_6 11 (by decide) (by decide)).trans hhlo_3_11))))))))))), ((hlo_36 12 (by decide) (by decide)).trans ((hlo_33 12 (by decide) (by decide)).trans ((hlo_30 12 (by decide) (by decide)).trans ((hlo_27 12 (by decide) (by decide)).trans ((hlo_24 12 (by decide) (by decide)).trans ((hlo_21 12 (by decide) (by decide)).trans ((hlo_18 12 (by decide) (by decide)).trans ((hlo_15 12 (by decide) (by decide)).trans ((hlo_12 12 (by decide) (by decide)).trans hhlo_9_12))))))))), ((hlo_36 13 (by decide) (by decide)).trans ((hlo_33 13 (by decide) (by decide)).trans ((hlo_30 13 (by decide) (by decide)).trans ((hlo_27 13 (by decide) (by decide)).trans ((hlo_24 13 (by decide) (by decide)).trans ((hlo_21 13 (by decide) (by decide)).trans ((hlo_18 13 (by decide) (by decide)).trans ((hlo_15 13 (by decide) (by decide)).trans ((hlo_12 13 (by decide) (by decide)).trans ((hlo_9 13 (by decide) (by decide)).trans hhlo_6_13)))))))))), ((hlo_36 14 (by decide) (by decide)).trans ((hlo_33 14 (by decide) (by decide)).trans ((hlo_30 14 (by decide) (by decide)).trans ((hlo_27 14 (by decide) (by decide)).trans ((hlo_24 14 (by decide) (by decide)).trans ((hlo_21 14 (by decide) (by decide)).trans ((hlo_18 14 (by decide) (by decide)).trans ((hlo_15 14 (by decide) (by decide)).trans ((hlo_12 14 (by decide) (by decide)).trans ((hlo_9 14 (by decide) (by decide)).trans hhlo_6_14)))))))))), ((hlo_36 15 (by decide) (by decide)).trans ((hlo_33 15 (by decide) (by decide)).trans ((hlo_30 15 (by decide) (by decide)).trans ((hlo_27 15 (by decide) (by decide)).trans ((hlo_24 15 (by decide) (by decide)).trans ((hlo_21 15 (by decide) (by decide)).trans ((hlo_18 15 (by decide) (by decide)).trans ((hlo_15 15 (by decide) (by decide)).trans ((hlo_12 15 (by decide) (by decide)).trans ((hlo_9 15 (by decide) (by decide)).trans hhlo_6_15)))))))))), ((hlo_36 16 (by decide) (by decide)).trans ((hlo_33 16 (by decide) (by decide)).trans ((hlo_30 16 (by decide) (by decide)).trans ((hlo_27 16 (by decide) (by decide)).trans ((hlo_24 16 (by decide) (by decide)).trans ((hlo_21 16 (by decide) (by decide)).trans ((hlo_18 16 (by decide) (by decide)).trans ((hlo_15 16 (by decide) (by decide)).trans ((hlo_12 16 (by decide) (by decide)).trans ((hlo_9 16 (by decide) (by decide)).trans hhlo_6_16)))))))))), ((hlo_36 17 (by decide) (by decide)).trans ((hlo_33 17 (by decide) (by decide)).trans ((hlo_30 17 (by decide) (by decide)).trans ((hlo_27 17 (by decide) (by decide)).trans ((hlo_24 17 (by decide) (by decide)).trans ((hlo_21 17 (by decide) (by decide)).trans ((hlo_18 17 (by decide) (by decide)).trans ((hlo_15 17 (by decide) (by decide)).trans ((hlo_12 17 (by decide) (by decide)).trans ((hlo_9 17 (by decide) (by decide)).trans hhlo_6_17)))))))))), ((hlo_36 18 (by decide) (by decide)).trans ((hlo_33 18 (by decide) (by decide)).trans ((hlo_30 18 (by decide) (by decide)).trans ((hlo_27 18 (by decide) (by decide)).trans ((hlo_24 18 (by decide) (by decide)).trans ((hlo_21 18 (by decide) (by decide)).trans ((hlo_18 18 (by decide) (by decide)).trans ((hlo_15 18 (by decide) (by decide)).trans ((hlo_12 18 (by decide) (by decide)).trans ((hlo_9 18 (by decide) (by decide)).trans hhlo_6_18)))))))))), ((hlo_36 19 (by decide) (by decide)).trans ((hlo_33 19 (by decide) (by decide)).trans ((hlo_30 19 (by decide) (by decide)).trans ((hlo_27 19 (by decide) (by decide)).trans ((hlo_24 19 (by decide) (by decide)).trans ((hlo_21 19 (by decide) (by decide)).trans ((hlo_18 19 (by decide) (by decide)).trans ((hlo_15 19 (by decide) (by decide)).trans ((hlo_12 19 (by decide) (by decide)).trans ((hlo_9 19 (by decide) (by decide)).trans hhlo_6_19)))))))))), ((hlo_36 20 (by decide) (by decide)).trans ((hlo_33 20 (by decide) (by decide)).trans ((hlo_30 20 (by decide) (by decide)).trans ((hlo_27 20 (by decide) (by decide)).trans ((hlo_24 20 (by decide) (by decide)).trans ((hlo_21 20 (by decide) (by decide)).trans ((hlo_18 20 (by decide) (by decide)).trans ((hlo_15 20 (by decide) (by decide)).trans ((hlo_12 20 (by decide) (by decide)).trans ((hlo_9 20 (by decide) (by decide)).trans hhlo_6_20)))))))))), ((hlo_36 21 (by decide) (by decide)).trans ((hlo_33 21 (by decide) (by decide)).trans ((hlo_30 21 (by decide) (by decide)).trans ((hlo_27 21 (by decide) (by decide)).trans ((hlo_24 21 (by decide) (by decide)).trans ((hlo_21 21 (by decide) (by decide)).trans ((hlo_18 21 (by decide) (by decide)).trans ((hlo_15 21 (by decide) (by decide)).trans ((hlo_12 21 (by decide) (by decide)).trans ((hlo_9 21 (by decide) (by decide)).trans hhlo_6_21)))))))))), ((hlo_36 22 (by decide) (by decide)).trans ((hlo_33 22 (by decide) (by decide)).trans ((hlo_30 22 (by decide) (by decide)).trans ((hlo_27 22 (by decide) (by decide)).trans ((hlo_24 22 (by decide) (by decide)).trans ((hlo_21 22 (by decide) (by decide)).trans ((hlo_18 22 (by decide) (by decide)).trans ((hlo_15 22 (by decide) (by decide)).trans ((hlo_12 22 (by decide) (by decide)).trans ((hlo_9 22 (by decide) (by decide)).trans hhlo_6_22)))))))))), ((hlo_36 23 (by decide) (by decide)).trans ((hlo_33 23 (by decide) (by decide)).trans ((hlo_30 23 (by decide) (by decide)).trans ((hlo_27 23 (by decide) (by decide)).trans ((hlo_24 23 (by decide) (by decide)).trans ((hlo_21 23 (by decide) (by decide)).trans ((hlo_18 23 (by decide) (by decide)).trans ((hlo_15 23 (by decide) (by decide)).trans ((hlo_12 23 (by decide) (by decide)).trans hhlo_9_23))))))))), ((hlo_36 24 (by decide) (by decide)).trans ((hlo_33 24 (by decide) (by decide)).trans ((hlo_30 24 (by decide) (by decide)).trans ((hlo_27 24 (by decide) (by decide)).trans ((hlo_24 24 (by decide) (by decide)).trans ((hlo_21 24 (by decide) (by decide)).trans ((hlo_18 24 (by decide) (by decide)).trans ((hlo_15 24 (by decide) (by decide)).trans ((hlo_12 24 (by decide) (by decide)).trans hhlo_9_24))))))))), ((hlo_36 25 (by decide) (by decide)).trans ((hlo_33 25 (by decide) (by decide)).trans ((hlo_30 25 (by decide) (by decide)).trans ((hlo_27 25 (by decide) (by decide)).trans ((hlo_24 25 (by decide) (by decide)).trans ((hlo_21 25 (by decide) (by decide)).trans ((hlo_18 25 (by decide) (by decide)).trans ((hlo_15 25 (by decide) (by decide)).trans ((hlo_12 25 (by decide) (by decide)).trans hhlo_9_25))))))))), ((hlo_36 26 (by decide) (by decide)).trans ((hlo_33 26 (by decide) (by decide)).trans ((hlo_30 26 (by decide) (by decide)).trans ((hlo_27 26 (by decide) (by decide)).trans ((hlo_24 26 (by decide) (by decide)).trans ((hlo_21 26 (by decide) (by decide)).trans ((hlo_18 26 (by decide) (by decide)).trans ((hlo_15 26 (by decide) (by decide)).trans ((hlo_12 26 (by decide) (by decide)).trans hhlo_9_26))))))))), ((hlo_36 27 (by decide) (by decide)).trans ((hlo_33 27 (by decide) (by decide)).trans ((hlo_30 27 (by decide) (by decide)).trans ((hlo_27 27 (by decide) (by decide)).trans ((hlo_24 27 (by decide) (by decide)).trans ((hlo_21 27 (by decide) (by decide)).trans ((hlo_18 27 (by decide) (by decide)).trans ((hlo_15 27 (by decide) (by decide)).trans ((hlo_12 27 (by decide) (by decide)).trans hhlo_9_27))))))))), ((hlo_36 28 (by decide) (by decide)).trans ((hlo_33 28 (by decide) (by decide)).trans ((hlo_30 28 (by decide) (by decide)).trans ((hlo_27 28 (by decide) (by decide)).trans ((hlo_24 28 (by decide) (by decide)).trans ((hlo_21 28 (by decide) (by decide)).trans ((hlo_18 28 (by decide) (by decide)).trans ((hlo_15 28 (by decide) (by decide)).trans ((hlo_12 28 (by decide) (by decide)).trans hhlo_9_28))))))))), ((hlo_36 29 (by decide) (by decide)).trans ((hlo_33 29 (by decide) (by decide)).trans ((hlo_30 29 (by decide) (by decide)).trans ((hlo_27 29 (by decide) (by decide)).trans ((hlo_24 29 (by decide) (by decide)).trans ((hlo_21 29 (by decide) (by decide)).trans ((hlo_18 29 (by decide) (by decide)).trans ((hlo_15 29 (by decide) (by decide)).trans ((hlo_12 29 (by decide) (by decide)).trans hhlo_9_29))))))))), ((hlo_36 30 (by decide) (by decide)).trans ((hlo_33 30 (by decide) (by decide)).trans ((hlo_30 30 (by decide) (by decide)).trans ((hlo_27 30 (by decide) (by decide)).trans ((hlo_24 30 (by decide) (by decide)).trans ((hlo_21 30 (by decide) (by decide)).trans ((hlo_18 30 (by decide) (by decide)).trans ((hlo_15 30 (by decide) (by decide)).trans ((hlo_12 30 (by decide) (by decide)).trans hhlo_9_30))))))))), ((hlo_36 31 (by decide) (by decide)).trans ((hlo_33 31 (by decide) (by decide)).trans ((hlo_30 31 (by decide) (by decide)).trans ((hlo_27 31 (by decide) (by decide)).trans ((hlo_24 31 (by decide) (by decide)).trans ((hlo_21 31 (by decide) (by decide)).trans ((hlo_18 31 (by decide) (by decide)).trans ((hlo_15 31 (by decide) (by decide)).trans ((hlo_12 31 (by decide) (by decide)).trans hhlo_9_31))))))))), ((hlo_36 32 (by decide) (by decide)).trans ((hlo_33 32 (by decide) (by decide)).trans ((hlo_30 32 (by decide) (by decide)).trans ((hlo_27 32 (by decide) (by decide)).trans ((hlo_24 32 (by decide) (by decide)).trans ((hlo_21 32 (by decide) (by decide)).trans ((hlo_18 32 (by decide) (by decide)).trans ((hlo_15 32 (by decide) (by decide)).trans ((hlo_12 32 (by decide) (by decide)).trans hhlo_9_32))))))))), ((hlo_36 33 (by decide) (by decide)).trans ((hlo_33 33 (by decide) (by decide)).trans ((hlo_30 33 (by decide) (by decide)).trans ((hlo_27 33 (by decide) (by decide)).trans ((hlo_24 33 (by decide) (by decide)).trans ((hlo_21 33 (by decide) (by decide)).trans ((hlo_18 33 (by decide) (by decide)).trans ((hlo_15 33 (by decide) (by decide)).trans hhlo_12_33)))))))), ((hlo_36 34 (by decide) (by decide)).trans ((hlo_33 34 (by decide) (by decide)).trans ((hlo_30 34 (by decide) (by decide)).trans ((hlo_27 34 (by decide) (by decide)).trans ((hlo_24 34 (by decide) (by decide)).trans ((hlo_21 34 (by decide) (by decide)).trans ((hlo_18 34 (by decide) (by decide)).trans ((hlo_15 34 (by decide) (by decide)).trans hhlo_12_34)))))))), ((hlo_36 35 (by decide) (by decide)).trans ((hlo_33 35 (by decide) (by decide)).trans ((hlo_30 35 (by decide) (by decide)).trans ((hlo_27 35 (by decide) (by decide)).trans ((hlo_24 35 (by decide) (by decide)).trans ((hlo_21 35 (by decide) (by decide)).trans ((hlo_18 35 (by decide) (by decide)).trans ((hlo_15 35 (by decide) (by decide)).trans hhlo_12_35)))))))), ((hlo_36 36 (by decide) (by decide)).trans ((hlo_33 36 (by decide) (by decide)).trans ((hlo_30 36 (by decide) (by decide)).trans ((hlo_27 36 (by decide) (by decide)).trans ((hlo_24 36 (by decide) (by decide)).trans ((hlo_21 36 (by decide) (by decide)).trans ((hlo_18 36 (by decide) (by decide)).trans ((hlo_15 36 (by decide) (by decide)).trans hhlo_12_36)))))))), ((hlo_36 37 (by decide) (by decide)).trans ((hlo_33 37 (by decide) (by decide)).trans ((hlo_30 37 (by decide) (by decide)).trans ((hlo_27 37 (by decide) (by decide)).trans ((hlo_24 37 (by decide) (by decide)).trans ((hlo_21 37 (by decide) (by decide)).trans ((hlo_18 37 (by decide) (by decide)).trans ((hlo_15 37 (by decide) (by decide)).trans hhlo_12_37)))))))), ((hlo_36 38 (by decide) (by decide)).trans ((hlo_33 38 (by decide) (by decide)).trans ((hlo_30 38 (by decide) (by decide)).trans ((hlo_27 38 (by decide) (by decide)).trans ((hlo_24 38 (by decide) (by decide)).trans ((hlo_21 38 (by decide) (by decide)).trans ((hlo_18 38 (by decide) (by decide)).trans ((hlo_15 38 (by decide) (by decide)).trans hhlo_12_38)))))))), ((hlo_36 39 (by decide) (by decide)).trans ((hlo_33 39 (by decide) (by decide)).trans ((hlo_30 39 (by decide) (by decide)).trans ((hlo_27 39 (by decide) (by decide)).trans ((hlo_24 39 (by decide) (by decide)).trans ((hlo_21 39 (by decide) (by decide)).trans ((hlo_18 39 (by decide) (by decide)).trans ((hlo_15 39 (by decide) (by decide)).trans hhlo_12_39)))))))), ((hlo_36 40 (by decide) (by decide)).trans ((hlo_33 40 (by decide) (by decide)).trans ((hlo_30 40 (by decide) (by decide)).trans ((hlo_27 40 (by decide) (by decide)).trans ((hlo_24 40 (by decide) (by decide)).trans ((hlo_21 40 (by decide) (by decide)).trans ((hlo_18 40 (by decide) (by decide)).trans hhlo_15_40))))))), ((hlo_36 41 (by decide) (by decide)).trans ((hlo_33 41 (by decide) (by decide)).trans ((hlo_30 41 (by decide) (by decide)).trans ((hlo_27 41 (by decide) (by decide)).trans ((hlo_24 41 (by decide) (by decide)).trans ((hlo_21 41 (by decide) (by decide)).trans ((hlo_18 41 (by decide) (by decide)).trans hhlo_15_41))))))), ((hlo_36 42 (by decide) (by decide)).trans ((hlo_33 42 (by decide) (by decide)).trans ((hlo_30 42 (by decide) (by decide)).trans ((hlo_27 42 (by decide) (by decide)).trans ((hlo_24 42 (by decide) (by decide)).trans ((hlo_21 42 (by decide) (by decide)).trans ((hlo_18 42 (by decide) (by decide)).trans hhlo_15_42))))))), ((hlo_36 43 (by decide) (by decide)).trans ((hlo_33 43 (by decide) (by decide)).trans ((hlo_30 43 (by decide) (by decide)).trans ((hlo_27 43 (by decide) (by decide)).trans ((hlo_24 43 (by decide) (by decide)).trans ((hlo_21 43 (by decide) (by decide)).trans ((hlo_18 43 (by decide) (by decide)).trans hhlo_15_43))))))), ((hlo_36 44 (by decide) (by decide)).trans ((hlo_33 44 (by decide) (by decide)).trans ((hlo_30 44 (by decide) (by decide)).trans ((hlo_27 44 (by decide) (by decide)).trans ((hlo_24 44 (by decide) (by decide)).trans ((hlo_21 44 (by decide) (by decide)).trans ((hlo_18 44 (by decide) (by decide)).trans hhlo_15_44))))))), ((hlo_36 45 (by decide) (by decide)).trans ((hlo_33 45 (by decide) (by decide)).trans ((hlo_30 45 (by decide) (by decide)).trans ((hlo_27 45 (by decide) (by decide)).trans ((hlo_24 45 (by decide) (by decide)).trans ((hlo_21 45 (by decide) (by decide)).trans ((hlo_18 45 (by decide) (by decide)).trans hhlo_15_45))))))), ((hlo_36 46 (by decide) (by decide)).trans ((hlo_33 46 (by decide) (by decide)).trans ((hlo_30 46 (by decide) (by decide)).trans ((hlo_27 46 (by decide) (by decide)).trans ((hlo_24 46 (by decide) (by decide)).trans ((hlo_21 46 (by decide) (by decide)).trans ((hlo_18 46 (by decide) (by decide)).trans hhlo_15_46))))))), ((hlo_36 47 (by decide) (by decide)).trans ((hlo_33 47 (by decide) (by decide)).trans ((hlo_30 47 (by decide) (by decide)).trans ((hlo_27 47 (by decide) (by decide)).trans ((hlo_24 47 (by decide) (by decide)).trans hhlo_21_47))))), ((hlo_36 48 (by decide) (by decide)).trans ((hlo_33 48 (by decide) (by decide)).trans ((hlo_30 48 (by decide) (by decide)).trans ((hlo_27 48 (by decide) (by decide)).trans ((hlo_24 48 (by decide) (by decide)).trans ((hlo_21 48 (by decide) (by decide)).trans hhlo_18_48)))))), ((hlo_36 49 (by decide) (by decide)).trans ((hlo_33 49 (by decide) (by decide)).trans ((hlo_30 49 (by decide) (by decide)).trans ((hlo_27 49 (by decide) (by decide)).trans ((hlo_24 49 (by decide) (by decide)).trans ((hlo_21 49 (by decide) (by decide)).trans hhlo_18_49)))))), ((hlo_36 50 (by decide) (by decide)).trans ((hlo_33 50 (by decide) (by decide)).trans ((hlo_30 50 (by decide) (by decide)).trans ((hlo_27 50 (by decide) (by decide)).trans ((hlo_24 50 (by decide) (by decide)).trans ((hlo_21 50 (by decide) (by decide)).trans hhlo_18_50)))))), ((hlo_36 51 (by decide) (by decide)).trans ((hlo_33 51 (by decide) (by decide)).trans ((hlo_30 51 (by decide) (by decide)).trans ((hlo_27 51 (by decide) (by decide)).trans ((hlo_24 51 (by decide) (by decide)).trans ((hlo_21 51 (by decide) (by decide)).trans hhlo_18_51)))))), ((hlo_36 52 (by decide) (by decide)).trans ((hlo_33 52 (by decide) (by decide)).trans ((hlo_30 52 (by decide) (by decide)).trans ((hlo_27 52 (by decide) (by decide)).trans ((hlo_24 52 (by decide) (by decide)).trans ((hlo_21 52 (by decide) (by decide)).trans hhlo_18_52)))))), ((hlo_36 53 (by decide) (by decide)).trans ((hlo_33 53 (by decide) (by decide)).trans ((hlo_30 53 (by decide) (by decide)).trans ((hlo_27 53 (by decide) (by decide)).trans ((hlo_24 53 (by decide) (by decide)).trans ((hlo_21 53 (by decide) (by decide)).trans hhlo_18_53)))))), ((hlo_36 54 (by decide) (by decide)).trans ((hlo_33 54 (by decide) (by decide)).trans ((hlo_30 54 (by decide) (by decide)).trans ((hlo_27 54 (by decide) (by decide)).trans ((hlo_24 54 (by decide) (by decide)).trans ((hlo_21 54 (by decide) (by decide)).trans hhlo_18_54)))))), ((hlo_36 55 (by decide) (by decide)).trans ((hlo_33 55 (by decide) (by decide)).trans ((hlo_30 55 (by decide) (by decide)).trans ((hlo_27 55 (by decide) (by decide)).trans ((hlo_24 55 (by decide) (by decide)).trans hhlo_21_55))))), ((hlo_36 56 (by decide) (by decide)).trans ((hlo_33 56 (by decide) (by decide)).trans ((hlo_30 56 (by decide) (by decide)).trans ((hlo_27 56 (by decide) (by decide)).trans ((hlo_24 56 (by decide) (by decide)).trans hhlo_21_56))))), ((hlo_36 57 (by decide) (by decide)).trans ((hlo_33 57 (by decide) (by decide)).trans ((hlo_30 57 (by decide) (by decide)).trans ((hlo_27 57 (by decide) (by decide)).trans ((hlo_24 57 (by decide) (by decide)).trans hhlo_21_57))))), ((hlo_36 58 (by decide) (by decide)).trans ((hlo_33 58 (by decide) (by decide)).trans ((hlo_30 58 (by decide) (by decide)).trans ((hlo_27 58 (by decide) (by decide)).trans ((hlo_24 58 (by decide) (by decide)).trans hhlo_21_58))))), ((hlo_36 59 (by decide) (by decide)).trans ((hlo_33 59 (by decide) (by decide)).trans ((hlo_30 59 (by decide) (by decide)).trans ((hlo_27 59 (by decide) (by decide)).trans ((hlo_24 59 (by decide) (by decide)).trans hhlo_21_59))))), ((hlo_36 60 (by decide) (by decide)).trans ((hlo_33 60 (by decide) (by decide)).trans ((hlo_30 60 (by decide) (by decide)).trans hhlo_27_60))), ((hlo_36 61 (by decide) (by decide)).trans ((hlo_33 61 (by decide) (by decide)).trans ((hlo_30 61 (by decide) (by decide)).trans ((hlo_27 61 (by decide) (by decide)).trans hhlo_24_61)))), ((hlo_36 62 (by decide) (by decide)).trans ((hlo_33 62 (by decide) (by decide)).trans ((hlo_30 62 (by decide) (by decide)).trans ((hlo_27 62 (by decide) (by decide)).trans hhlo_24_62)))), ((hlo_36 63 (by decide) (by decide)).trans ((hlo_33 63 (by decide) (by decide)).trans ((hlo_30 63 (by decide) (by decide)).trans ((hlo_27 63 (by decide) (by decide)).trans hhlo_24_63)))), ((hlo_36 64 (by decide) (by decide)).trans ((hlo_33 64 (by decide) (by decide)).trans ((hlo_30 64 (by decide) (by decide)).trans hhlo_27_64))), ((hlo_36 65 (by decide) (by decide)).trans ((hlo_33 65 (by decide) (by decide)).trans ((hlo_30 65 (by decide) (by decide)).trans hhlo_27_65))), ((hlo_36 66 (by decide) (by decide)).trans ((hlo_33 66 (by decide) (by decide)).trans ((hlo_30 66 (by decide) (by decide)).trans hhlo_27_66))), ((hlo_36 67 (by decide) (by decide)).trans ((hlo_33 67 (by decide) (by decide)).trans hhlo_30_67)), ((hlo_36 68 (by decide) (by decide)).trans ((hlo_33 68 (by decide) (by decide)).trans hhlo_30_68)), ((hlo_36 69 (by decide) (by decide)).trans ((hlo_33 69 (by decide) (by decide)).trans hhlo_30_69)), ((hlo_36 70 (by decide) (by decide)).trans ((hlo_33 70 (by decide) (by decide)).trans hhlo_30_70)), ((hlo_36 71 (by decide) (by decide)).trans ((hlo_33 71 (by decide) (by decide)).trans hhlo_30_71)), ((hlo_36 72 (by decide) (by decide)).trans ((hlo_33 72 (by decide) (by decide)).trans hhlo_30_72)), ((hlo_36 73 (by decide) (by decide)).trans hhlo_33_73), ((hlo_36 74 (by decide) (by decide)).trans hhlo_33_74), ((hlo_36 75 (by decide) (by decide)).trans hhlo_33_75), ((hlo_36 76 (by decide) (by decide)).trans hhlo_33_76), ((hlo_36 77 (by decide) (by decide)).trans hhlo_33_77), ((hlo_36 78 (by decide) (by decide)).trans hhlo_33_78), ((hlo_36 79 (by decide) (by decide)).trans hhlo_33_79), hhlo_36_80, rfl, rfl⟩
end
section
/-! more rows of the world by numbers: the same picture by another function, fewer cells, ends with makings -/
theorem upE_i {E : Nat → va_E} {i : Nat} {x y : va_E} : upE (upE E i x) i y = upE E i y := by funext j; by_cases h : j = i <;> simp [upE, h]
theorem upE_c {E : Nat → va_E} {i k : Nat} {x y : va_E} (h : i ≠ k) : upE (upE E i x) k y = upE (upE E k y) i x := by
  funext j
  by_cases h1 : j = i
  · subst h1; simp [upE, h]
  · by_cases h2 : j = k
    · subst h2; simp [upE, h1]
    · simp [upE, h1, h2]
theorem upE_same {E : Nat → va_E} {i : Nat} {x : va_E} (h : E i = x) : upE E i x = E := by funext j; by_cases h1 : j = i <;> simp [upE, h1, ← h]
theorem upE_2 {E : Nat → va_E} {i k : Nat} {x y z t : va_E} (h : i ≠ k) : upE (upE (upE (upE E i x) k y) i z) k t = upE (upE E i z) k t := by rw [upE_c (Ne.symm h), upE_i, upE_i]
theorem arrV_ext {cA : ClassId} {N : Nat} {f g : Nat → Value} (h : ∀ j, j < N → f j = g j) : arrV cA N f = arrV cA N g := by
  unfold arrV
  congr 1
  refine congrArg Array.ofFn (funext fun j => h j.val j.isLt)
section GD
variable {D : va_G} {cy : Nat → ClassId} {b n : Nat} {s : State} {H : Heap} {locs : List Loc} {E : Nat → va_E}
theorem gW_cell (h : gW D cy b n s H locs E) {i : Nat} {x : va_E} (hi : i < n) (hx : ∀ K : Heap, va_at D vwCl (b + i, E i) K → va_at D vwCl (b + i, x) K) : gW D cy b n s H locs (upE E i x) := by
  refine ⟨h.1, fun k q hk => ?_, h.2.2⟩
  · obtain ⟨h1, rfl⟩ := wd_inv hk
    by_cases hki : k = i
    · subst hki
      rw [upE_s]
      exact hx H (h.2.1 k _ (wd_get h1))
    · rw [upE_n hki]
      exact h.2.1 k _ (wd_get h1)
theorem gW_ci (h : gW D cy b n s H locs E) {i : Nat} {cA : ClassId} {N : Nat} {f g : Nat → Int32} (he : E i = .inl (cA, N, .inl f)) (hi : i < n) (hf : ∀ j, j < N → f j = g j) : gW D cy b n s H locs (upE E i (.inl (cA, N, .inl g))) :=
  gW_cell h hi fun K hK => by
    rw [he] at hK
    have e : vp_cell cA (N, .inl f) = vp_cell cA (N, .inl g) := by rw [vp_cell_i, vp_cell_i]; exact arrV_ext fun j hj => by rw [hf j hj]
    show K[b + i]? = some (vp_cell cA (N, .inl g))
    rw [← e]; exact hK
theorem gW_cj (h : gW D cy b n s H locs E) {i : Nat} {cA : ClassId} {N : Nat} {f g : Nat → Int64} (he : E i = .inl (cA, N, .inr (.inl f))) (hi : i < n) (hf : ∀ j, j < N → f j = g j) : gW D cy b n s H locs (upE E i (.inl (cA, N, .inr (.inl g)))) :=
  gW_cell h hi fun K hK => by
    rw [he] at hK
    have e : vp_cell cA (N, .inr (.inl f)) = vp_cell cA (N, .inr (.inl g)) := by rw [vp_cell_l, vp_cell_l]; exact arrV_ext fun j hj => by rw [hf j hj]
    show K[b + i]? = some (vp_cell cA (N, .inr (.inl g)))
    rw [← e]; exact hK
theorem gW_eq2 {n' : Nat} {E' : Nat → va_E} (h : gW D cy b n' s H locs E') (hn : n' = n) (he : E' = E) : gW D cy b n s H locs E := by subst hn; subst he; exact h
theorem gW_eq {E' : Nat → va_E} (h : gW D cy b n s H locs E) (he : E = E') : gW D cy b n s H locs E' := he ▸ h
end GD
abbrev gQI (D : va_G) (cy : Nat → ClassId) (b : Nat) (s : State) (args : Array Value) (below : List Frame) (mc ms : Nat) (post : Int32 → gU → Prop) : State → Prop := MQ below (va_Qi post (gB D cy b) (gA b)) args s mc ms (gA b)
abbrev gQL (D : va_G) (cy : Nat → ClassId) (b : Nat) (s : State) (args : Array Value) (below : List Frame) (mc ms : Nat) (post : Int64 → gU → Prop) : State → Prop := MQ below (va_Ql post (gB D cy b) (gA b)) args s mc ms (gA b)
abbrev gQV (D : va_G) (cy : Nat → ClassId) (b : Nat) (s : State) (args : Array Value) (below : List Frame) (mc ms : Nat) (post : gU → Prop) : State → Prop := MQ below (va_Qv post (gB D cy b) (gA b)) args s mc ms (gA b)
/-- numbers -/
theorem i32_k {k N : Nat} {M : Int32} (hM : nI N = M) (hk : k < 2 ^ 31) (hN : N < 2 ^ 31) : M ≤ nI k ↔ N ≤ k := by rw [← hM]; exact nI_leI hN hk
theorem i32_l {k N : Nat} {M : Int32} (hM : nI N = M) (hk : k < 2 ^ 31) (hN : N < 2 ^ 31) : nI k < M ↔ k < N := by rw [← hM]; exact nI_ltI hk hN
/-- what the reference's one row holds at first -/
def memI : Nat → Int32 := fun k => if 96 ≤ k ∧ k < 198 then -1 else 0
end
section
theorem dX12_clears_2 : decode cX12_clears 2 = .ok (.iload_n 1, 1) := by decide +kernel
theorem dX12_clears_3 : decode cX12_clears 3 = .ok (.sipush 228, 3) := by decide +kernel
theorem dX12_clears_6 : decode cX12_clears 6 = .ok (.if_icmp .ge 33, 3) := by decide +kernel
theorem dX12_clears_39 : decode cX12_clears 39 = .ok (.return_, 1) := by decide +kernel
theorem wm_1674 : (Jvm.Cond.fieldLink "GrownKindsModel" (15 : Nat) "GrownKindsModel" "mem" "[I") ∈ gT := gT_in (List.mem_of_getElem? (i := 1674) (by decide +kernel)) (by decide +kernel)
theorem dX12_clears_9 : decode cX12_clears 9 = .ok (.aload_n 0, 1) := by decide +kernel
theorem dX12_clears_10 : decode cX12_clears 10 = .ok (.getfield 15, 3) := by decide +kernel
theorem dX12_clears_13 : decode cX12_clears 13 = .ok (.iload_n 1, 1) := by decide +kernel
theorem dX12_clears_14 : decode cX12_clears 14 = .ok (.iload_n 1, 1) := by decide +kernel
theorem dX12_clears_15 : decode cX12_clears 15 = .ok (.bipush 96, 2) := by decide +kernel
theorem dX12_clears_32 : decode cX12_clears 32 = .ok (.iastore, 1) := by decide +kernel
theorem dX12_clears_33 : decode cX12_clears 33 = .ok (.iinc 1 1, 3) := by decide +kernel
theorem dX12_clears_36 : decode cX12_clears 36 = .ok (.goto (-34), 3) := by decide +kernel
theorem dX12_clears_17 : decode cX12_clears 17 = .ok (.if_icmp .lt 14, 3) := by decide +kernel
theorem dX12_clears_31 : decode cX12_clears 31 = .ok (.iconst 0, 1) := by decide +kernel
theorem dX12_clears_20 : decode cX12_clears 20 = .ok (.iload_n 1, 1) := by decide +kernel
theorem dX12_clears_21 : decode cX12_clears 21 = .ok (.sipush 198, 3) := by decide +kernel
theorem dX12_clears_24 : decode cX12_clears 24 = .ok (.if_icmp .ge 7, 3) := by decide +kernel
theorem dX12_clears_27 : decode cX12_clears 27 = .ok (.iconst (-1), 1) := by decide +kernel
theorem dX12_clears_28 : decode cX12_clears 28 = .ok (.goto 4, 3) := by decide +kernel
theorem dX12_clears_0 : decode cX12_clears 0 = .ok (.iconst 0, 1) := by decide +kernel
theorem dX12_clears_1 : decode cX12_clears 1 = .ok (.istore_n 1, 1) := by decide +kernel
theorem dX12_init_0 : decode cX12_init 0 = .ok (.aload_n 0, 1) := by decide +kernel
theorem dX12_init_1 : decode cX12_init 1 = .ok (.invokespecial 7, 3) := by decide +kernel
theorem wm_1669 : (Jvm.Cond.methodLink "GrownKindsModel" (7 : Nat) ({ cls := "java/lang/Object", name := "<init>", desc := "()V" } : Jvm.MethodName)) ∈ gT := gT_in (List.mem_of_getElem? (i := 1669) (by decide +kernel)) (by decide +kernel)
theorem dX12_init_4 : decode cX12_init 4 = .ok (.aload_n 0, 1) := by decide +kernel
theorem dX12_init_5 : decode cX12_init 5 = .ok (.sipush 228, 3) := by decide +kernel
theorem dX12_init_8 : decode cX12_init 8 = .ok (.newarray .int, 2) := by decide +kernel
theorem dX12_init_10 : decode cX12_init 10 = .ok (.putfield 15, 3) := by decide +kernel
theorem dX12_init_13 : decode cX12_init 13 = .ok (.aload_n 0, 1) := by decide +kernel
theorem dX12_init_14 : decode cX12_init 14 = .ok (.sipush 228, 3) := by decide +kernel
theorem dX12_init_17 : decode cX12_init 17 = .ok (.newarray .int, 2) := by decide +kernel
theorem dX12_init_19 : decode cX12_init 19 = .ok (.putfield 19, 3) := by decide +kernel
theorem wm_1675 : (Jvm.Cond.fieldLink "GrownKindsModel" (19 : Nat) "GrownKindsModel" "was" "[I") ∈ gT := gT_in (List.mem_of_getElem? (i := 1675) (by decide +kernel)) (by decide +kernel)
theorem dX12_init_22 : decode cX12_init 22 = .ok (.aload_n 0, 1) := by decide +kernel
theorem dX12_init_23 : decode cX12_init 23 = .ok (.sipush 400, 3) := by decide +kernel
theorem dX12_init_26 : decode cX12_init 26 = .ok (.newarray .int, 2) := by decide +kernel
theorem dX12_init_28 : decode cX12_init 28 = .ok (.putfield 22, 3) := by decide +kernel
theorem wm_1676 : (Jvm.Cond.fieldLink "GrownKindsModel" (22 : Nat) "GrownKindsModel" "tape" "[I") ∈ gT := gT_in (List.mem_of_getElem? (i := 1676) (by decide +kernel)) (by decide +kernel)
theorem dX12_init_31 : decode cX12_init 31 = .ok (.aload_n 0, 1) := by decide +kernel
theorem dX12_init_32 : decode cX12_init 32 = .ok (.iconst (-1), 1) := by decide +kernel
theorem dX12_init_33 : decode cX12_init 33 = .ok (.putfield 25, 3) := by decide +kernel
theorem wm_1679 : (Jvm.Cond.fieldLink "GrownKindsModel" (25 : Nat) "GrownKindsModel" "faultPlace" "I") ∈ gT := gT_in (List.mem_of_getElem? (i := 1679) (by decide +kernel)) (by decide +kernel)
theorem dX12_init_36 : decode cX12_init 36 = .ok (.aload_n 0, 1) := by decide +kernel
theorem dX12_init_37 : decode cX12_init 37 = .ok (.bipush 48, 2) := by decide +kernel
theorem dX12_init_39 : decode cX12_init 39 = .ok (.newarray .int, 2) := by decide +kernel
theorem dX12_init_41 : decode cX12_init 41 = .ok (.putfield 29, 3) := by decide +kernel
theorem wm_1685 : (Jvm.Cond.fieldLink "GrownKindsModel" (29 : Nat) "GrownKindsModel" "names" "[I") ∈ gT := gT_in (List.mem_of_getElem? (i := 1685) (by decide +kernel)) (by decide +kernel)
theorem dX12_init_44 : decode cX12_init 44 = .ok (.aload_n 0, 1) := by decide +kernel
theorem dX12_init_45 : decode cX12_init 45 = .ok (.bipush 6, 2) := by decide +kernel
theorem dX12_init_47 : decode cX12_init 47 = .ok (.newarray .int, 2) := by decide +kernel
theorem dX12_init_49 : decode cX12_init 49 = .ok (.putfield 32, 3) := by decide +kernel
theorem wm_1686 : (Jvm.Cond.fieldLink "GrownKindsModel" (32 : Nat) "GrownKindsModel" "nameLong" "[I") ∈ gT := gT_in (List.mem_of_getElem? (i := 1686) (by decide +kernel)) (by decide +kernel)
theorem dX12_init_52 : decode cX12_init 52 = .ok (.aload_n 0, 1) := by decide +kernel
theorem dX12_init_53 : decode cX12_init 53 = .ok (.bipush 30, 2) := by decide +kernel
theorem dX12_init_55 : decode cX12_init 55 = .ok (.newarray .boolean, 2) := by decide +kernel
theorem dX12_init_57 : decode cX12_init 57 = .ok (.putfield 35, 3) := by decide +kernel
theorem wm_1687 : (Jvm.Cond.fieldLink "GrownKindsModel" (35 : Nat) "GrownKindsModel" "empty" "[Z") ∈ gT := gT_in (List.mem_of_getElem? (i := 1687) (by decide +kernel)) (by decide +kernel)
theorem dX12_init_60 : decode cX12_init 60 = .ok (.aload_n 0, 1) := by decide +kernel
theorem dX12_init_61 : decode cX12_init 61 = .ok (.sipush 1920, 3) := by decide +kernel
theorem dX12_init_64 : decode cX12_init 64 = .ok (.newarray .long, 2) := by decide +kernel
theorem dX12_init_66 : decode cX12_init 66 = .ok (.putfield 39, 3) := by decide +kernel
theorem wm_1688 : (Jvm.Cond.fieldLink "GrownKindsModel" (39 : Nat) "GrownKindsModel" "many" "[J") ∈ gT := gT_in (List.mem_of_getElem? (i := 1688) (by decide +kernel)) (by decide +kernel)
theorem dX12_init_69 : decode cX12_init 69 = .ok (.aload_n 0, 1) := by decide +kernel
theorem dX12_init_70 : decode cX12_init 70 = .ok (.sipush 1536, 3) := by decide +kernel
theorem dX12_init_73 : decode cX12_init 73 = .ok (.newarray .long, 2) := by decide +kernel
theorem dX12_init_75 : decode cX12_init 75 = .ok (.putfield 43, 3) := by decide +kernel
theorem wm_1689 : (Jvm.Cond.fieldLink "GrownKindsModel" (43 : Nat) "GrownKindsModel" "rest" "[J") ∈ gT := gT_in (List.mem_of_getElem? (i := 1689) (by decide +kernel)) (by decide +kernel)
theorem dX12_init_78 : decode cX12_init 78 = .ok (.aload_n 0, 1) := by decide +kernel
theorem dX12_init_79 : decode cX12_init 79 = .ok (.sipush 512, 3) := by decide +kernel
theorem dX12_init_82 : decode cX12_init 82 = .ok (.newarray .long, 2) := by decide +kernel
theorem dX12_init_84 : decode cX12_init 84 = .ok (.putfield 46, 3) := by decide +kernel
theorem wm_1690 : (Jvm.Cond.fieldLink "GrownKindsModel" (46 : Nat) "GrownKindsModel" "rows" "[J") ∈ gT := gT_in (List.mem_of_getElem? (i := 1690) (by decide +kernel)) (by decide +kernel)
theorem dX12_init_87 : decode cX12_init 87 = .ok (.aload_n 0, 1) := by decide +kernel
theorem dX12_init_88 : decode cX12_init 88 = .ok (.sipush 240, 3) := by decide +kernel
theorem dX12_init_91 : decode cX12_init 91 = .ok (.newarray .long, 2) := by decide +kernel
theorem dX12_init_93 : decode cX12_init 93 = .ok (.putfield 49, 3) := by decide +kernel
theorem wm_1691 : (Jvm.Cond.fieldLink "GrownKindsModel" (49 : Nat) "GrownKindsModel" "named" "[J") ∈ gT := gT_in (List.mem_of_getElem? (i := 1691) (by decide +kernel)) (by decide +kernel)
theorem dX12_init_96 : decode cX12_init 96 = .ok (.aload_n 0, 1) := by decide +kernel
theorem dX12_init_97 : decode cX12_init 97 = .ok (.sipush 192, 3) := by decide +kernel
theorem dX12_init_100 : decode cX12_init 100 = .ok (.newarray .long, 2) := by decide +kernel
theorem dX12_init_102 : decode cX12_init 102 = .ok (.putfield 52, 3) := by decide +kernel
theorem wm_1692 : (Jvm.Cond.fieldLink "GrownKindsModel" (52 : Nat) "GrownKindsModel" "namedRest" "[J") ∈ gT := gT_in (List.mem_of_getElem? (i := 1692) (by decide +kernel)) (by decide +kernel)
theorem dX12_init_105 : decode cX12_init 105 = .ok (.aload_n 0, 1) := by decide +kernel
theorem dX12_init_106 : decode cX12_init 106 = .ok (.bipush 64, 2) := by decide +kernel
theorem dX12_init_108 : decode cX12_init 108 = .ok (.newarray .long, 2) := by decide +kernel
theorem dX12_init_110 : decode cX12_init 110 = .ok (.putfield 55, 3) := by decide +kernel
theorem wm_1693 : (Jvm.Cond.fieldLink "GrownKindsModel" (55 : Nat) "GrownKindsModel" "namedRows" "[J") ∈ gT := gT_in (List.mem_of_getElem? (i := 1693) (by decide +kernel)) (by decide +kernel)
theorem dX12_init_113 : decode cX12_init 113 = .ok (.aload_n 0, 1) := by decide +kernel
theorem dX12_init_114 : decode cX12_init 114 = .ok (.bipush 40, 2) := by decide +kernel
theorem dX12_init_116 : decode cX12_init 116 = .ok (.newarray .int, 2) := by decide +kernel
theorem dX12_init_118 : decode cX12_init 118 = .ok (.putfield 58, 3) := by decide +kernel
theorem wm_1702 : (Jvm.Cond.fieldLink "GrownKindsModel" (58 : Nat) "GrownKindsModel" "spelled" "[I") ∈ gT := gT_in (List.mem_of_getElem? (i := 1702) (by decide +kernel)) (by decide +kernel)
theorem dX12_init_121 : decode cX12_init 121 = .ok (.aload_n 0, 1) := by decide +kernel
theorem dX12_init_122 : decode cX12_init 122 = .ok (.sipush 512, 3) := by decide +kernel
theorem dX12_init_125 : decode cX12_init 125 = .ok (.newarray .int, 2) := by decide +kernel
theorem dX12_init_127 : decode cX12_init 127 = .ok (.putfield 61, 3) := by decide +kernel
theorem wm_1703 : (Jvm.Cond.fieldLink "GrownKindsModel" (61 : Nat) "GrownKindsModel" "elSize" "[I") ∈ gT := gT_in (List.mem_of_getElem? (i := 1703) (by decide +kernel)) (by decide +kernel)
theorem dX12_init_130 : decode cX12_init 130 = .ok (.aload_n 0, 1) := by decide +kernel
theorem dX12_init_131 : decode cX12_init 131 = .ok (.sipush 512, 3) := by decide +kernel
theorem dX12_init_134 : decode cX12_init 134 = .ok (.newarray .int, 2) := by decide +kernel
theorem dX12_init_136 : decode cX12_init 136 = .ok (.putfield 64, 3) := by decide +kernel
theorem wm_1704 : (Jvm.Cond.fieldLink "GrownKindsModel" (64 : Nat) "GrownKindsModel" "elRank" "[I") ∈ gT := gT_in (List.mem_of_getElem? (i := 1704) (by decide +kernel)) (by decide +kernel)
theorem dX12_init_139 : decode cX12_init 139 = .ok (.aload_n 0, 1) := by decide +kernel
theorem dX12_init_140 : decode cX12_init 140 = .ok (.sipush 1024, 3) := by decide +kernel
theorem dX12_init_143 : decode cX12_init 143 = .ok (.newarray .int, 2) := by decide +kernel
theorem dX12_init_145 : decode cX12_init 145 = .ok (.putfield 67, 3) := by decide +kernel
theorem wm_1707 : (Jvm.Cond.fieldLink "GrownKindsModel" (67 : Nat) "GrownKindsModel" "nodeSort" "[I") ∈ gT := gT_in (List.mem_of_getElem? (i := 1707) (by decide +kernel)) (by decide +kernel)
theorem dX12_init_148 : decode cX12_init 148 = .ok (.aload_n 0, 1) := by decide +kernel
theorem dX12_init_149 : decode cX12_init 149 = .ok (.sipush 1024, 3) := by decide +kernel
theorem dX12_init_152 : decode cX12_init 152 = .ok (.newarray .int, 2) := by decide +kernel
theorem dX12_init_154 : decode cX12_init 154 = .ok (.putfield 70, 3) := by decide +kernel
theorem wm_1708 : (Jvm.Cond.fieldLink "GrownKindsModel" (70 : Nat) "GrownKindsModel" "nodeNum" "[I") ∈ gT := gT_in (List.mem_of_getElem? (i := 1708) (by decide +kernel)) (by decide +kernel)
theorem dX12_init_157 : decode cX12_init 157 = .ok (.aload_n 0, 1) := by decide +kernel
theorem dX12_init_158 : decode cX12_init 158 = .ok (.sipush 1024, 3) := by decide +kernel
theorem dX12_init_161 : decode cX12_init 161 = .ok (.newarray .int, 2) := by decide +kernel
theorem dX12_init_163 : decode cX12_init 163 = .ok (.putfield 73, 3) := by decide +kernel
theorem wm_1709 : (Jvm.Cond.fieldLink "GrownKindsModel" (73 : Nat) "GrownKindsModel" "nodeSize" "[I") ∈ gT := gT_in (List.mem_of_getElem? (i := 1709) (by decide +kernel)) (by decide +kernel)
theorem dX12_init_166 : decode cX12_init 166 = .ok (.aload_n 0, 1) := by decide +kernel
theorem dX12_init_167 : decode cX12_init 167 = .ok (.sipush 1024, 3) := by decide +kernel
theorem dX12_init_170 : decode cX12_init 170 = .ok (.newarray .int, 2) := by decide +kernel
theorem dX12_init_172 : decode cX12_init 172 = .ok (.putfield 76, 3) := by decide +kernel
theorem wm_1710 : (Jvm.Cond.fieldLink "GrownKindsModel" (76 : Nat) "GrownKindsModel" "nodeFirst" "[I") ∈ gT := gT_in (List.mem_of_getElem? (i := 1710) (by decide +kernel)) (by decide +kernel)
theorem dX12_init_175 : decode cX12_init 175 = .ok (.aload_n 0, 1) := by decide +kernel
theorem dX12_init_176 : decode cX12_init 176 = .ok (.sipush 1024, 3) := by decide +kernel
theorem dX12_init_179 : decode cX12_init 179 = .ok (.newarray .int, 2) := by decide +kernel
theorem dX12_init_181 : decode cX12_init 181 = .ok (.putfield 79, 3) := by decide +kernel
theorem wm_1711 : (Jvm.Cond.fieldLink "GrownKindsModel" (79 : Nat) "GrownKindsModel" "nodeNext" "[I") ∈ gT := gT_in (List.mem_of_getElem? (i := 1711) (by decide +kernel)) (by decide +kernel)
theorem dX12_init_184 : decode cX12_init 184 = .ok (.aload_n 0, 1) := by decide +kernel
theorem dX12_init_185 : decode cX12_init 185 = .ok (.bipush 40, 2) := by decide +kernel
theorem dX12_init_187 : decode cX12_init 187 = .ok (.newarray .int, 2) := by decide +kernel
theorem dX12_init_189 : decode cX12_init 189 = .ok (.putfield 82, 3) := by decide +kernel
theorem wm_1713 : (Jvm.Cond.fieldLink "GrownKindsModel" (82 : Nat) "GrownKindsModel" "source" "[I") ∈ gT := gT_in (List.mem_of_getElem? (i := 1713) (by decide +kernel)) (by decide +kernel)
theorem dX12_init_192 : decode cX12_init 192 = .ok (.aload_n 0, 1) := by decide +kernel
theorem dX12_init_193 : decode cX12_init 193 = .ok (.iconst (-1), 1) := by decide +kernel
theorem dX12_init_194 : decode cX12_init 194 = .ok (.putfield 85, 3) := by decide +kernel
theorem wm_1716 : (Jvm.Cond.fieldLink "GrownKindsModel" (85 : Nat) "GrownKindsModel" "toldSize" "I") ∈ gT := gT_in (List.mem_of_getElem? (i := 1716) (by decide +kernel)) (by decide +kernel)
theorem dX12_init_197 : decode cX12_init 197 = .ok (.aload_n 0, 1) := by decide +kernel
theorem dX12_init_198 : decode cX12_init 198 = .ok (.iconst (-1), 1) := by decide +kernel
theorem dX12_init_199 : decode cX12_init 199 = .ok (.putfield 88, 3) := by decide +kernel
theorem wm_1717 : (Jvm.Cond.fieldLink "GrownKindsModel" (88 : Nat) "GrownKindsModel" "toldRank" "I") ∈ gT := gT_in (List.mem_of_getElem? (i := 1717) (by decide +kernel)) (by decide +kernel)
theorem dX12_init_202 : decode cX12_init 202 = .ok (.aload_n 0, 1) := by decide +kernel
theorem dX12_init_203 : decode cX12_init 203 = .ok (.invokevirtual 91, 3) := by decide +kernel
theorem wm_1670 : (Jvm.Cond.methodLink "GrownKindsModel" (91 : Nat) ({ cls := "GrownKindsModel", name := "clears", desc := "()V" } : Jvm.MethodName)) ∈ gT := gT_in (List.mem_of_getElem? (i := 1670) (by decide +kernel)) (by decide +kernel)
theorem wm_1672 : (Jvm.Cond.instanceMethod ({ cls := "GrownKindsModel", name := "clears", desc := "()V" } : Jvm.MethodName)) ∈ gT := gT_in (List.mem_of_getElem? (i := 1672) (by decide +kernel)) (by decide +kernel)
theorem wm_86 : Cond.selects "GrownKindsModel" ⟨"GrownKindsModel", "clears", "()V"⟩ ⟨"GrownKindsModel", "clears", "()V"⟩ ∈ gT := gT_in (List.mem_of_getElem? (i := 86) (by decide +kernel)) (by decide +kernel)
theorem wm_187 : (Jvm.Cond.initialized "GrownKindsModel") ∈ gT := gT_in (List.mem_of_getElem? (i := 187) (by decide +kernel)) (by decide +kernel)
theorem wm_1673 : (Jvm.Cond.code ({ cls := "GrownKindsModel", name := "clears", desc := "()V" } : Jvm.MethodName) prog_14_method_7_code (2 : Nat) (Option.none : Option Jvm.ClassFile.FieldType)) ∈ gT := gT_in (List.mem_of_getElem? (i := 1673) (by decide +kernel)) (by decide +kernel)
theorem dX12_init_206 : decode cX12_init 206 = .ok (.return_, 1) := by decide +kernel
set_option maxHeartbeats 4000000 in
set_option maxRecDepth 100000 in
theorem qX12_clears (l : Launch) {D : va_G} {cy : Nat → ClassId} {b n : Nat} (hn : 105 ≤ n) {E : Nat → va_E} {vs : List Value} {f0 : Nat → Int32} (h83 : E 83 = .inr (12, vs)) (hv : vs[0]? = some (.ref (b + 84))) (h84 : E 84 = .inl (cy 1, 228, .inl f0)) : gV l yX12_clears cX12_clears 2 0 0 0 D cy b n E [.ref (b + 83)] (fun u => u.1 = n ∧ u.2 = upE E 84 (.inl (cy 1, 228, .inl memI))) := by
  refine gV_of (by decide) (Nat.le_of_ble_eq_true rfl) ?_
  intro p e s m args below meth c S hr hlk hin hsz ls hl hG
  have hx := S.1
  have hb := S.2.1
  have hl : lv_has ls 2 [(0, .ref (b + 83))] := hl
  have loop : ∀ (t k : Nat) (f : Nat → Int32) (H : Heap) (locs : List Loc) (ls : Array Slot), k ≤ 228 → 229 ≤ k + t → (∀ j, j < k → f j = memI j) → gW D cy b n s H locs (upE E 84 (.inl (cy 1, 228, .inl f))) → lv_has ls 2 [(1, .int (nI k)), (0, .ref (b + 83))] → W p l e (gRm 0 0 0) s m args below meth c H locs 0 0 (gQV D cy b s args below 0 0 (fun u => u.1 = n ∧ u.2 = upE E 84 (.inl (cy 1, 228, .inl memI)))) (F0 m 2 ls []) := by
    intro t
    induction t with
    | zero => intro k f H locs ls h1 h2; exact absurd h2 (by omega)
    | succ t ih =>
      intro k f H locs ls hk ht hf hG hl
      refine lv_iload_n hx hb dX12_clears_2 rfl (lv_at hl 0 rfl) ?_
      refine lv_sipush (v := 228) hx hb dX12_clears_3 (by decide) ?_
      refine lv_icmp_ge (tgt := 39) hx hb dX12_clears_6 (by decide) (fun c1 => ?_) (fun c1 => ?_)
      · have hk2 : k = 228 := by have := (i32_k (N := 228) rfl (by omega) (by omega)).mp c1; omega
        subst hk2
        have hG := gW_eq (gW_ci (g := memI) hG upE_s (by omega) hf) upE_i
        exact g_vret S hr hlk hG (by omega) dX12_clears_39 ⟨Nat.le_refl 0, Nat.le_refl 0⟩ ⟨rfl, rfl⟩
      · have hk2 : k < 228 := by have := mt (i32_k (N := 228) rfl (by omega) (by omega)).mpr c1; omega
        refine lv_aload_n hx hb dX12_clears_9 rfl (lv_at hl 1 rfl) ?_
        refine g_get S hG 83 0 h83 cpX12 wm_1674 dX12_clears_10 hv (by omega) (by decide) ?_
        refine lv_iload_n hx hb dX12_clears_13 rfl (lv_at hl 0 rfl) ?_
        refine lv_iload_n hx hb dX12_clears_14 rfl (lv_at hl 0 rfl) ?_
        refine lv_bipush (v := 96) hx hb dX12_clears_15 (by decide) ?_
        have fin : ∀ x : Int32, x = memI k → W p l e (gRm 0 0 0) s m args below meth c H locs 0 0 (gQV D cy b s args below 0 0 (fun u => u.1 = n ∧ u.2 = upE E 84 (.inl (cy 1, 228, .inl memI)))) (F0 m 32 ls [.int x, .int (nI k), .ref (b + 84)]) := by
          intro x ex
          refine g_iast S hG 84 upE_s (by omega) dX12_clears_32 (vp_in_nI hk2 (by omega)) (fun H locs hG => ?_)
          rw [upE_i, nI_clamp (by omega)] at hG
          refine lv_iinc (v := nI (k + 1)) (lv' := [(1, .int (nI (k + 1))), (0, .ref (b + 83))]) hx hb dX12_clears_33 hl (k := 0) rfl (nI_1 k) (by decide) rfl (fun ls hl => ?_)
          refine lv_goto (tgt := 2) hx hb dX12_clears_36 (by decide) ?_
          refine ih (k + 1) _ H locs ls (by omega) (by omega) (fun j hj => ?_) hG hl
          by_cases hjk : j = k
          · subst hjk; rw [pk_us]; exact ex
          · rw [pk_un hjk]; exact hf j (by omega)
        refine lv_icmp_lt (tgt := 31) hx hb dX12_clears_17 (by decide) (fun c2 => ?_) (fun c2 => ?_)
        · have := (i32_l (N := 96) rfl (by omega) (by omega)).mp c2
          refine lv_iconst (v := 0) hx hb dX12_clears_31 (by decide) ?_
          exact fin 0 (by unfold memI; rw [if_neg (by omega)])
        · have h96 := mt (i32_l (N := 96) rfl (by omega) (by omega)).mpr c2
          refine lv_iload_n hx hb dX12_clears_20 rfl (lv_at hl 0 rfl) ?_
          refine lv_sipush (v := 198) hx hb dX12_clears_21 (by decide) ?_
          refine lv_icmp_ge (tgt := 31) hx hb dX12_clears_24 (by decide) (fun c3 => ?_) (fun c3 => ?_)
          · have := (i32_k (N := 198) rfl (by omega) (by omega)).mp c3
            refine lv_iconst (v := 0) hx hb dX12_clears_31 (by decide) ?_
            exact fin 0 (by unfold memI; rw [if_neg (by omega)])
          · have := mt (i32_k (N := 198) rfl (by omega) (by omega)).mpr c3
            refine lv_iconst (v := -1) hx hb dX12_clears_27 (by decide) ?_
            refine lv_goto (tgt := 32) hx hb dX12_clears_28 (by decide) ?_
            exact fin (-1) (by unfold memI; rw [if_pos (by omega)])
  refine lv_iconst (v := 0) hx hb dX12_clears_0 (by decide) ?_
  refine lv_istore_n (lv' := [(1, .int (nI 0)), (0, .ref (b + 83))]) hx hb dX12_clears_1 rfl hl (by decide) rfl (fun ls hl => ?_)
  exact loop 229 0 f0 s.heap [] ls (by omega) (by omega) (fun j hj => absurd hj (by omega)) (gW_eq hG (upE_same h84).symm) hl
theorem wV_12_91 : gWV "GrownKindsModel" 91 yX12_clears cX12_clears 2 none := ⟨wm_1670, wm_1672, wm_86, wm_187, wm_1673, by decide +kernel, by decide +kernel⟩
set_option maxHeartbeats 4000000 in
set_option maxRecDepth 100000 in
theorem kX12_init_83 (l : Launch) {D : va_G} {cy : Nat → ClassId} {b : Nat} {E : Nat → va_E} (h83 : E 83 = .inr (12, [.null, .null, .null, .int 0, .int 0, .int 0, .int 0, .int 0, .int 0, .int 0, .int 0, .null, .null, .null, .null, .null, .null, .null, .null, .null, .int 0, .int 0, .int 0, .int 0, .int 0, .int 0, .int 0, .int 0, .null, .null, .null, .int 0, .long 0, .null, .null, .null, .null, .null, .int 0, .null, .int 0, .int 0, .int 0, .int 0, .int 0, .int 0, .int 0, .int 0, .int 0, .int 0, .int 0, .int 0])) : gV l yX12_init cX12_init 1 2 21 11628 D cy b 84 E [.ref (b + 83)] (fun u => u.1 = 105 ∧ (∀ j, j < 84 → j ≠ 83 → u.2 j = E j) ∧ u.2 83 = .inr (12, [.ref (b + 84), .ref (b + 85), .ref (b + 86), .int 0, .int 0, .int (-1), .int 0, .int 0, .int 0, .int 0, .int 0, .ref (b + 87), .ref (b + 88), .ref (b + 89), .ref (b + 90), .ref (b + 91), .ref (b + 92), .ref (b + 93), .ref (b + 94), .ref (b + 95), .int 0, .int 0, .int 0, .int 0, .int 0, .int 0, .int 0, .int 0, .ref (b + 96), .ref (b + 97), .ref (b + 98), .int 0, .long 0, .ref (b + 99), .ref (b + 100), .ref (b + 101), .ref (b + 102), .ref (b + 103), .int 0, .ref (b + 104), .int 0, .int 0, .int (-1), .int (-1), .int 0, .int 0, .int 0, .int 0, .int 0, .int 0, .int 0, .int 0]) ∧ u.2 84 = .inl (cy 1, 228, .inl memI) ∧ u.2 85 = .inl (cy 1, 228, .inl (fun _ => 0)) ∧ u.2 86 = .inl (cy 1, 400, .inl (fun _ => 0)) ∧ u.2 87 = .inl (cy 1, 48, .inl (fun _ => 0)) ∧ u.2 88 = .inl (cy 1, 6, .inl (fun _ => 0)) ∧ u.2 89 = .inl (cy 3, 30, .inl (fun _ => 0)) ∧ u.2 90 = .inl (cy 2, 1920, .inr (.inl (fun _ => 0))) ∧ u.2 91 = .inl (cy 2, 1536, .inr (.inl (fun _ => 0))) ∧ u.2 92 = .inl (cy 2, 512, .inr (.inl (fun _ => 0))) ∧ u.2 93 = .inl (cy 2, 240, .inr (.inl (fun _ => 0))) ∧ u.2 94 = .inl (cy 2, 192, .inr (.inl (fun _ => 0))) ∧ u.2 95 = .inl (cy 2, 64, .inr (.inl (fun _ => 0))) ∧ u.2 96 = .inl (cy 1, 40, .inl (fun _ => 0)) ∧ u.2 97 = .inl (cy 1, 512, .inl (fun _ => 0)) ∧ u.2 98 = .inl (cy 1, 512, .inl (fun _ => 0)) ∧ u.2 99 = .inl (cy 1, 1024, .inl (fun _ => 0)) ∧ u.2 100 = .inl (cy 1, 1024, .inl (fun _ => 0)) ∧ u.2 101 = .inl (cy 1, 1024, .inl (fun _ => 0)) ∧ u.2 102 = .inl (cy 1, 1024, .inl (fun _ => 0)) ∧ u.2 103 = .inl (cy 1, 1024, .inl (fun _ => 0)) ∧ u.2 104 = .inl (cy 1, 40, .inl (fun _ => 0))) := by
  refine gV_of (by decide) (Nat.le_of_ble_eq_true rfl) ?_
  intro p e s m args below meth c S hr hlk hin hsz ls hl hG
  have hx := S.1
  have hb := S.2.1
  have hl : lv_has ls 1 [(0, .ref (b + 83))] := hl
  refine lv_aload_n hx hb dX12_init_0 rfl (lv_at hl 0 rfl) ?_
  refine g_objInit S wm_1669 wm_203 wm_204 hl.1 dX12_init_1 ⟨Nat.le_of_ble_eq_true rfl, Nat.le_of_ble_eq_true rfl⟩ ?_
  refine lv_aload_n hx hb dX12_init_4 rfl (lv_at hl 0 rfl) ?_
  refine lv_sipush (v := 228) hx hb dX12_init_5 (by decide) ?_
  refine g_newa (atype := .int) (ty := .int) (N := 228) (a0 := (228, .inl (fun _ => 0))) S hG (by omega) 1 rfl rfl (fun h => h) wm_305 (fun _ => rfl) dX12_init_8 (by decide) (by decide) (by decide) ⟨Nat.le_of_ble_eq_true rfl, Nat.le_of_ble_eq_true rfl⟩ (fun H hG => ?_)
  refine W.widen (k := 1) (n := 228) (Nat.le_of_ble_eq_true rfl) (Nat.le_of_ble_eq_true rfl) ?_
  refine g_put (fs' := [.ref (b + 84), .null, .null, .int 0, .int 0, .int 0, .int 0, .int 0, .int 0, .int 0, .int 0, .null, .null, .null, .null, .null, .null, .null, .null, .null, .int 0, .int 0, .int 0, .int 0, .int 0, .int 0, .int 0, .int 0, .null, .null, .null, .int 0, .long 0, .null, .null, .null, .null, .null, .int 0, .null, .int 0, .int 0, .int 0, .int 0, .int 0, .int 0, .int 0, .int 0, .int 0, .int 0, .int 0, .int 0]) S hG 83 0 h83 cpX12 wm_1674 dX12_init_10 rfl (by omega) (by decide) (Nat.le_of_ble_eq_true rfl) rfl rfl rfl (fun H locs hG => ?_)
  refine lv_aload_n hx hb dX12_init_13 rfl (lv_at hl 0 rfl) ?_
  refine lv_sipush (v := 228) hx hb dX12_init_14 (by decide) ?_
  refine g_newa (atype := .int) (ty := .int) (N := 228) (a0 := (228, .inl (fun _ => 0))) S hG (by omega) 1 rfl rfl (fun h => h) wm_305 (fun _ => rfl) dX12_init_17 (by decide) (by decide) (by decide) ⟨Nat.le_of_ble_eq_true rfl, Nat.le_of_ble_eq_true rfl⟩ (fun H hG => ?_)
  refine W.widen (k := 2) (n := 456) (Nat.le_of_ble_eq_true rfl) (Nat.le_of_ble_eq_true rfl) ?_
  refine g_putF (fs' := [.ref (b + 84), .ref (b + 85), .null, .int 0, .int 0, .int 0, .int 0, .int 0, .int 0, .int 0, .int 0, .null, .null, .null, .null, .null, .null, .null, .null, .null, .int 0, .int 0, .int 0, .int 0, .int 0, .int 0, .int 0, .int 0, .null, .null, .null, .int 0, .long 0, .null, .null, .null, .null, .null, .int 0, .null, .int 0, .int 0, .int 0, .int 0, .int 0, .int 0, .int 0, .int 0, .int 0, .int 0, .int 0, .int 0]) S hG (hin rfl) 83 1 rfl cpX12 wm_1675 dX12_init_19 rfl (by omega) (by decide) (Nat.le_of_ble_eq_true rfl) rfl rfl rfl rfl (fun H locs hG => ?_)
  refine lv_aload_n hx hb dX12_init_22 rfl (lv_at hl 0 rfl) ?_
  refine lv_sipush (v := 400) hx hb dX12_init_23 (by decide) ?_
  refine g_newa (atype := .int) (ty := .int) (N := 400) (a0 := (400, .inl (fun _ => 0))) S hG (by omega) 1 rfl rfl (fun h => h) wm_305 (fun _ => rfl) dX12_init_26 (by decide) (by decide) (by decide) ⟨Nat.le_of_ble_eq_true rfl, Nat.le_of_ble_eq_true rfl⟩ (fun H hG => ?_)
  refine W.widen (k := 3) (n := 856) (Nat.le_of_ble_eq_true rfl) (Nat.le_of_ble_eq_true rfl) ?_
  refine g_putF (fs' := [.ref (b + 84), .ref (b + 85), .ref (b + 86), .int 0, .int 0, .int 0, .int 0, .int 0, .int 0, .int 0, .int 0, .null, .null, .null, .null, .null, .null, .null, .null, .null, .int 0, .int 0, .int 0, .int 0, .int 0, .int 0, .int 0, .int 0, .null, .null, .null, .int 0, .long 0, .null, .null, .null, .null, .null, .int 0, .null, .int 0, .int 0, .int 0, .int 0, .int 0, .int 0, .int 0, .int 0, .int 0, .int 0, .int 0, .int 0]) S hG (hin rfl) 83 2 rfl cpX12 wm_1676 dX12_init_28 rfl (by omega) (by decide) (Nat.le_of_ble_eq_true rfl) rfl rfl rfl rfl (fun H locs hG => ?_)
  refine lv_aload_n hx hb dX12_init_31 rfl (lv_at hl 0 rfl) ?_
  refine lv_iconst (v := (-1)) hx hb dX12_init_32 (by decide) ?_
  refine g_put (fs' := [.ref (b + 84), .ref (b + 85), .ref (b + 86), .int 0, .int 0, .int (-1), .int 0, .int 0, .int 0, .int 0, .int 0, .null, .null, .null, .null, .null, .null, .null, .null, .null, .int 0, .int 0, .int 0, .int 0, .int 0, .int 0, .int 0, .int 0, .null, .null, .null, .int 0, .long 0, .null, .null, .null, .null, .null, .int 0, .null, .int 0, .int 0, .int 0, .int 0, .int 0, .int 0, .int 0, .int 0, .int 0, .int 0, .int 0, .int 0]) S hG 83 5 rfl cpX12 wm_1679 dX12_init_33 rfl (by omega) (by decide) (Nat.le_of_ble_eq_true rfl) rfl rfl rfl (fun H locs hG => ?_)
  refine lv_aload_n hx hb dX12_init_36 rfl (lv_at hl 0 rfl) ?_
  refine lv_bipush (v := 48) hx hb dX12_init_37 (by decide) ?_
  refine g_newa (atype := .int) (ty := .int) (N := 48) (a0 := (48, .inl (fun _ => 0))) S hG (by omega) 1 rfl rfl (fun h => h) wm_305 (fun _ => rfl) dX12_init_39 (by decide) (by decide) (by decide) ⟨Nat.le_of_ble_eq_true rfl, Nat.le_of_ble_eq_true rfl⟩ (fun H hG => ?_)
  refine W.widen (k := 4) (n := 904) (Nat.le_of_ble_eq_true rfl) (Nat.le_of_ble_eq_true rfl) ?_
  refine g_putF (fs' := [.ref (b + 84), .ref (b + 85), .ref (b + 86), .int 0, .int 0, .int (-1), .int 0, .int 0, .int 0, .int 0, .int 0, .ref (b + 87), .null, .null, .null, .null, .null, .null, .null, .null, .int 0, .int 0, .int 0, .int 0, .int 0, .int 0, .int 0, .int 0, .null, .null, .null, .int 0, .long 0, .null, .null, .null, .null, .null, .int 0, .null, .int 0, .int 0, .int 0, .int 0, .int 0, .int 0, .int 0, .int 0, .int 0, .int 0, .int 0, .int 0]) S hG (hin rfl) 83 11 rfl cpX12 wm_1685 dX12_init_41 rfl (by omega) (by decide) (Nat.le_of_ble_eq_true rfl) rfl rfl rfl rfl (fun H locs hG => ?_)
  refine lv_aload_n hx hb dX12_init_44 rfl (lv_at hl 0 rfl) ?_
  refine lv_bipush (v := 6) hx hb dX12_init_45 (by decide) ?_
  refine g_newa (atype := .int) (ty := .int) (N := 6) (a0 := (6, .inl (fun _ => 0))) S hG (by omega) 1 rfl rfl (fun h => h) wm_305 (fun _ => rfl) dX12_init_47 (by decide) (by decide) (by decide) ⟨Nat.le_of_ble_eq_true rfl, Nat.le_of_ble_eq_true rfl⟩ (fun H hG => ?_)
  refine W.widen (k := 5) (n := 910) (Nat.le_of_ble_eq_true rfl) (Nat.le_of_ble_eq_true rfl) ?_
  refine g_putF (fs' := [.ref (b + 84), .ref (b + 85), .ref (b + 86), .int 0, .int 0, .int (-1), .int 0, .int 0, .int 0, .int 0, .int 0, .ref (b + 87), .ref (b + 88), .null, .null, .null, .null, .null, .null, .null, .int 0, .int 0, .int 0, .int 0, .int 0, .int 0, .int 0, .int 0, .null, .null, .null, .int 0, .long 0, .null, .null, .null, .null, .null, .int 0, .null, .int 0, .int 0, .int 0, .int 0, .int 0, .int 0, .int 0, .int 0, .int 0, .int 0, .int 0, .int 0]) S hG (hin rfl) 83 12 rfl cpX12 wm_1686 dX12_init_49 rfl (by omega) (by decide) (Nat.le_of_ble_eq_true rfl) rfl rfl rfl rfl (fun H locs hG => ?_)
  refine lv_aload_n hx hb dX12_init_52 rfl (lv_at hl 0 rfl) ?_
  refine lv_bipush (v := 30) hx hb dX12_init_53 (by decide) ?_
  refine g_newa (atype := .boolean) (ty := .boolean) (N := 30) (a0 := (30, .inl (fun _ => 0))) S hG (by omega) 3 rfl rfl (fun h => h) wm_459 (fun _ => rfl) dX12_init_55 (by decide) (by decide) (by decide) ⟨Nat.le_of_ble_eq_true rfl, Nat.le_of_ble_eq_true rfl⟩ (fun H hG => ?_)
  refine W.widen (k := 6) (n := 940) (Nat.le_of_ble_eq_true rfl) (Nat.le_of_ble_eq_true rfl) ?_
  refine g_putF (fs' := [.ref (b + 84), .ref (b + 85), .ref (b + 86), .int 0, .int 0, .int (-1), .int 0, .int 0, .int 0, .int 0, .int 0, .ref (b + 87), .ref (b + 88), .ref (b + 89), .null, .null, .null, .null, .null, .null, .int 0, .int 0, .int 0, .int 0, .int 0, .int 0, .int 0, .int 0, .null, .null, .null, .int 0, .long 0, .null, .null, .null, .null, .null, .int 0, .null, .int 0, .int 0, .int 0, .int 0, .int 0, .int 0, .int 0, .int 0, .int 0, .int 0, .int 0, .int 0]) S hG (hin rfl) 83 13 rfl cpX12 wm_1687 dX12_init_57 rfl (by omega) (by decide) (Nat.le_of_ble_eq_true rfl) rfl rfl rfl rfl (fun H locs hG => ?_)
  refine lv_aload_n hx hb dX12_init_60 rfl (lv_at hl 0 rfl) ?_
  refine lv_sipush (v := 1920) hx hb dX12_init_61 (by decide) ?_
  refine g_newa (atype := .long) (ty := .long) (N := 1920) (a0 := (1920, .inr (.inl (fun _ => 0)))) S hG (by omega) 2 rfl rfl (fun h => h) wm_427 (fun _ => rfl) dX12_init_64 (by decide) (by decide) (by decide) ⟨Nat.le_of_ble_eq_true rfl, Nat.le_of_ble_eq_true rfl⟩ (fun H hG => ?_)
  refine W.widen (k := 7) (n := 2860) (Nat.le_of_ble_eq_true rfl) (Nat.le_of_ble_eq_true rfl) ?_
  refine g_putF (fs' := [.ref (b + 84), .ref (b + 85), .ref (b + 86), .int 0, .int 0, .int (-1), .int 0, .int 0, .int 0, .int 0, .int 0, .ref (b + 87), .ref (b + 88), .ref (b + 89), .ref (b + 90), .null, .null, .null, .null, .null, .int 0, .int 0, .int 0, .int 0, .int 0, .int 0, .int 0, .int 0, .null, .null, .null, .int 0, .long 0, .null, .null, .null, .null, .null, .int 0, .null, .int 0, .int 0, .int 0, .int 0, .int 0, .int 0, .int 0, .int 0, .int 0, .int 0, .int 0, .int 0]) S hG (hin rfl) 83 14 rfl cpX12 wm_1688 dX12_init_66 rfl (by omega) (by decide) (Nat.le_of_ble_eq_true rfl) rfl rfl rfl rfl (fun H locs hG => ?_)
  refine lv_aload_n hx hb dX12_init_69 rfl (lv_at hl 0 rfl) ?_
  refine lv_sipush (v := 1536) hx hb dX12_init_70 (by decide) ?_
  refine g_newa (atype := .long) (ty := .long) (N := 1536) (a0 := (1536, .inr (.inl (fun _ => 0)))) S hG (by omega) 2 rfl rfl (fun h => h) wm_427 (fun _ => rfl) dX12_init_73 (by decide) (by decide) (by decide) ⟨Nat.le_of_ble_eq_true rfl, Nat.le_of_ble_eq_true rfl⟩ (fun H hG => ?_)
  refine W.widen (k := 8) (n := 4396) (Nat.le_of_ble_eq_true rfl) (Nat.le_of_ble_eq_true rfl) ?_
  refine g_putF (fs' := [.ref (b + 84), .ref (b + 85), .ref (b + 86), .int 0, .int 0, .int (-1), .int 0, .int 0, .int 0, .int 0, .int 0, .ref (b + 87), .ref (b + 88), .ref (b + 89), .ref (b + 90), .ref (b + 91), .null, .null, .null, .null, .int 0, .int 0, .int 0, .int 0, .int 0, .int 0, .int 0, .int 0, .null, .null, .null, .int 0, .long 0, .null, .null, .null, .null, .null, .int 0, .null, .int 0, .int 0, .int 0, .int 0, .int 0, .int 0, .int 0, .int 0, .int 0, .int 0, .int 0, .int 0]) S hG (hin rfl) 83 15 rfl cpX12 wm_1689 dX12_init_75 rfl (by omega) (by decide) (Nat.le_of_ble_eq_true rfl) rfl rfl rfl rfl (fun H locs hG => ?_)
  refine lv_aload_n hx hb dX12_init_78 rfl (lv_at hl 0 rfl) ?_
  refine lv_sipush (v := 512) hx hb dX12_init_79 (by decide) ?_
  refine g_newa (atype := .long) (ty := .long) (N := 512) (a0 := (512, .inr (.inl (fun _ => 0)))) S hG (by omega) 2 rfl rfl (fun h => h) wm_427 (fun _ => rfl) dX12_init_82 (by decide) (by decide) (by decide) ⟨Nat.le_of_ble_eq_true rfl, Nat.le_of_ble_eq_true rfl⟩ (fun H hG => ?_)
  refine W.widen (k := 9) (n := 4908) (Nat.le_of_ble_eq_true rfl) (Nat.le_of_ble_eq_true rfl) ?_
  refine g_putF (fs' := [.ref (b + 84), .ref (b + 85), .ref (b + 86), .int 0, .int 0, .int (-1), .int 0, .int 0, .int 0, .int 0, .int 0, .ref (b + 87), .ref (b + 88), .ref (b + 89), .ref (b + 90), .ref (b + 91), .ref (b + 92), .null, .null, .null, .int 0, .int 0, .int 0, .int 0, .int 0, .int 0, .int 0, .int 0, .null, .null, .null, .int 0, .long 0, .null, .null, .null, .null, .null, .int 0, .null, .int 0, .int 0, .int 0, .int 0, .int 0, .int 0, .int 0, .int 0, .int 0, .int 0, .int 0, .int 0]) S hG (hin rfl) 83 16 rfl cpX12 wm_1690 dX12_init_84 rfl (by omega) (by decide) (Nat.le_of_ble_eq_true rfl) rfl rfl rfl rfl (fun H locs hG => ?_)
  refine lv_aload_n hx hb dX12_init_87 rfl (lv_at hl 0 rfl) ?_
  refine lv_sipush (v := 240) hx hb dX12_init_88 (by decide) ?_
  refine g_newa (atype := .long) (ty := .long) (N := 240) (a0 := (240, .inr (.inl (fun _ => 0)))) S hG (by omega) 2 rfl rfl (fun h => h) wm_427 (fun _ => rfl) dX12_init_91 (by decide) (by decide) (by decide) ⟨Nat.le_of_ble_eq_true rfl, Nat.le_of_ble_eq_true rfl⟩ (fun H hG => ?_)
  refine W.widen (k := 10) (n := 5148) (Nat.le_of_ble_eq_true rfl) (Nat.le_of_ble_eq_true rfl) ?_
  refine g_putF (fs' := [.ref (b + 84), .ref (b + 85), .ref (b + 86), .int 0, .int 0, .int (-1), .int 0, .int 0, .int 0, .int 0, .int 0, .ref (b + 87), .ref (b + 88), .ref (b + 89), .ref (b + 90), .ref (b + 91), .ref (b + 92), .ref (b + 93), .null, .null, .int 0, .int 0, .int 0, .int 0, .int 0, .int 0, .int 0, .int 0, .null, .null, .null, .int 0, .long 0, .null, .null, .null, .null, .null, .int 0, .null, .int 0, .int 0, .int 0, .int 0, .int 0, .int 0, .int 0, .int 0, .int 0, .int 0, .int 0, .int 0]) S hG (hin rfl) 83 17 rfl cpX12 wm_1691 dX12_init_93 rfl (by omega) (by decide) (Nat.le_of_ble_eq_true rfl) rfl rfl rfl rfl (fun H locs hG => ?_)
  refine lv_aload_n hx hb dX12_init_96 rfl (lv_at hl 0 rfl) ?_
  refine lv_sipush (v := 192) hx hb dX12_init_97 (by decide) ?_
  refine g_newa (atype := .long) (ty := .long) (N := 192) (a0 := (192, .inr (.inl (fun _ => 0)))) S hG (by omega) 2 rfl rfl (fun h => h) wm_427 (fun _ => rfl) dX12_init_100 (by decide) (by decide) (by decide) ⟨Nat.le_of_ble_eq_true rfl, Nat.le_of_ble_eq_true rfl⟩ (fun H hG => ?_)
  refine W.widen (k := 11) (n := 5340) (Nat.le_of_ble_eq_true rfl) (Nat.le_of_ble_eq_true rfl) ?_
  refine g_putF (fs' := [.ref (b + 84), .ref (b + 85), .ref (b + 86), .int 0, .int 0, .int (-1), .int 0, .int 0, .int 0, .int 0, .int 0, .ref (b + 87), .ref (b + 88), .ref (b + 89), .ref (b + 90), .ref (b + 91), .ref (b + 92), .ref (b + 93), .ref (b + 94), .null, .int 0, .int 0, .int 0, .int 0, .int 0, .int 0, .int 0, .int 0, .null, .null, .null, .int 0, .long 0, .null, .null, .null, .null, .null, .int 0, .null, .int 0, .int 0, .int 0, .int 0, .int 0, .int 0, .int 0, .int 0, .int 0, .int 0, .int 0, .int 0]) S hG (hin rfl) 83 18 rfl cpX12 wm_1692 dX12_init_102 rfl (by omega) (by decide) (Nat.le_of_ble_eq_true rfl) rfl rfl rfl rfl (fun H locs hG => ?_)
  refine lv_aload_n hx hb dX12_init_105 rfl (lv_at hl 0 rfl) ?_
  refine lv_bipush (v := 64) hx hb dX12_init_106 (by decide) ?_
  refine g_newa (atype := .long) (ty := .long) (N := 64) (a0 := (64, .inr (.inl (fun _ => 0)))) S hG (by omega) 2 rfl rfl (fun h => h) wm_427 (fun _ => rfl) dX12_init_108 (by decide) (by decide) (by decide) ⟨Nat.le_of_ble_eq_true rfl, Nat.le_of_ble_eq_true rfl⟩ (fun H hG => ?_)
  refine W.widen (k := 12) (n := 5404) (Nat.le_of_ble_eq_true rfl) (Nat.le_of_ble_eq_true rfl) ?_
  refine g_putF (fs' := [.ref (b + 84), .ref (b + 85), .ref (b + 86), .int 0, .int 0, .int (-1), .int 0, .int 0, .int 0, .int 0, .int 0, .ref (b + 87), .ref (b + 88), .ref (b + 89), .ref (b + 90), .ref (b + 91), .ref (b + 92), .ref (b + 93), .ref (b + 94), .ref (b + 95), .int 0, .int 0, .int 0, .int 0, .int 0, .int 0, .int 0, .int 0, .null, .null, .null, .int 0, .long 0, .null, .null, .null, .null, .null, .int 0, .null, .int 0, .int 0, .int 0, .int 0, .int 0, .int 0, .int 0, .int 0, .int 0, .int 0, .int 0, .int 0]) S hG (hin rfl) 83 19 rfl cpX12 wm_1693 dX12_init_110 rfl (by omega) (by decide) (Nat.le_of_ble_eq_true rfl) rfl rfl rfl rfl (fun H locs hG => ?_)
  refine lv_aload_n hx hb dX12_init_113 rfl (lv_at hl 0 rfl) ?_
  refine lv_bipush (v := 40) hx hb dX12_init_114 (by decide) ?_
  refine g_newa (atype := .int) (ty := .int) (N := 40) (a0 := (40, .inl (fun _ => 0))) S hG (by omega) 1 rfl rfl (fun h => h) wm_305 (fun _ => rfl) dX12_init_116 (by decide) (by decide) (by decide) ⟨Nat.le_of_ble_eq_true rfl, Nat.le_of_ble_eq_true rfl⟩ (fun H hG => ?_)
  refine W.widen (k := 13) (n := 5444) (Nat.le_of_ble_eq_true rfl) (Nat.le_of_ble_eq_true rfl) ?_
  refine g_putF (fs' := [.ref (b + 84), .ref (b + 85), .ref (b + 86), .int 0, .int 0, .int (-1), .int 0, .int 0, .int 0, .int 0, .int 0, .ref (b + 87), .ref (b + 88), .ref (b + 89), .ref (b + 90), .ref (b + 91), .ref (b + 92), .ref (b + 93), .ref (b + 94), .ref (b + 95), .int 0, .int 0, .int 0, .int 0, .int 0, .int 0, .int 0, .int 0, .ref (b + 96), .null, .null, .int 0, .long 0, .null, .null, .null, .null, .null, .int 0, .null, .int 0, .int 0, .int 0, .int 0, .int 0, .int 0, .int 0, .int 0, .int 0, .int 0, .int 0, .int 0]) S hG (hin rfl) 83 28 rfl cpX12 wm_1702 dX12_init_118 rfl (by omega) (by decide) (Nat.le_of_ble_eq_true rfl) rfl rfl rfl rfl (fun H locs hG => ?_)
  refine lv_aload_n hx hb dX12_init_121 rfl (lv_at hl 0 rfl) ?_
  refine lv_sipush (v := 512) hx hb dX12_init_122 (by decide) ?_
  refine g_newa (atype := .int) (ty := .int) (N := 512) (a0 := (512, .inl (fun _ => 0))) S hG (by omega) 1 rfl rfl (fun h => h) wm_305 (fun _ => rfl) dX12_init_125 (by decide) (by decide) (by decide) ⟨Nat.le_of_ble_eq_true rfl, Nat.le_of_ble_eq_true rfl⟩ (fun H hG => ?_)
  refine W.widen (k := 14) (n := 5956) (Nat.le_of_ble_eq_true rfl) (Nat.le_of_ble_eq_true rfl) ?_
  refine g_putF (fs' := [.ref (b + 84), .ref (b + 85), .ref (b + 86), .int 0, .int 0, .int (-1), .int 0, .int 0, .int 0, .int 0, .int 0, .ref (b + 87), .ref (b + 88), .ref (b + 89), .ref (b + 90), .ref (b + 91), .ref (b + 92), .ref (b + 93), .ref (b + 94), .ref (b + 95), .int 0, .int 0, .int 0, .int 0, .int 0, .int 0, .int 0, .int 0, .ref (b + 96), .ref (b + 97), .null, .int 0, .long 0, .null, .null, .null, .null, .null, .int 0, .null, .int 0, .int 0, .int 0, .int 0, .int 0, .int 0, .int 0, .int 0, .int 0, .int 0, .int 0, .int 0]) S hG (hin rfl) 83 29 rfl cpX12 wm_1703 dX12_init_127 rfl (by omega) (by decide) (Nat.le_of_ble_eq_true rfl) rfl rfl rfl rfl (fun H locs hG => ?_)
  refine lv_aload_n hx hb dX12_init_130 rfl (lv_at hl 0 rfl) ?_
  refine lv_sipush (v := 512) hx hb dX12_init_131 (by decide) ?_
  refine g_newa (atype := .int) (ty := .int) (N := 512) (a0 := (512, .inl (fun _ => 0))) S hG (by omega) 1 rfl rfl (fun h => h) wm_305 (fun _ => rfl) dX12_init_134 (by decide) (by decide) (by decide) ⟨Nat.le_of_ble_eq_true rfl, Nat.le_of_ble_eq_true rfl⟩ (fun H hG => ?_)
  refine W.widen (k := 15) (n := 6468) (Nat.le_of_ble_eq_true rfl) (Nat.le_of_ble_eq_true rfl) ?_
  refine g_putF (fs' := [.ref (b + 84), .ref (b + 85), .ref (b + 86), .int 0, .int 0, .int (-1), .int 0, .int 0, .int 0, .int 0, .int 0, .ref (b + 87), .ref (b + 88), .ref (b + 89), .ref (b + 90), .ref (b + 91), .ref (b + 92), .ref (b + 93), .ref (b + 94), .ref (b + 95), .int 0, .int 0, .int 0, .int 0, .int 0, .int 0, .int 0, .int 0, .ref (b + 96), .ref (b + 97), .ref (b + 98), .int 0, .long 0, .null, .null, .null, .null, .null, .int 0, .null, .int 0, .int 0, .int 0, .int 0, .int 0, .int 0, .int 0, .int 0, .int 0, .int 0, .int 0, .int 0]) S hG (hin rfl) 83 30 rfl cpX12 wm_1704 dX12_init_136 rfl (by omega) (by decide) (Nat.le_of_ble_eq_true rfl) rfl rfl rfl rfl (fun H locs hG => ?_)
  refine lv_aload_n hx hb dX12_init_139 rfl (lv_at hl 0 rfl) ?_
  refine lv_sipush (v := 1024) hx hb dX12_init_140 (by decide) ?_
  refine g_newa (atype := .int) (ty := .int) (N := 1024) (a0 := (1024, .inl (fun _ => 0))) S hG (by omega) 1 rfl rfl (fun h => h) wm_305 (fun _ => rfl) dX12_init_143 (by decide) (by decide) (by decide) ⟨Nat.le_of_ble_eq_true rfl, Nat.le_of_ble_eq_true rfl⟩ (fun H hG => ?_)
  refine W.widen (k := 16) (n := 7492) (Nat.le_of_ble_eq_true rfl) (Nat.le_of_ble_eq_true rfl) ?_
  refine g_putF (fs' := [.ref (b + 84), .ref (b + 85), .ref (b + 86), .int 0, .int 0, .int (-1), .int 0, .int 0, .int 0, .int 0, .int 0, .ref (b + 87), .ref (b + 88), .ref (b + 89), .ref (b + 90), .ref (b + 91), .ref (b + 92), .ref (b + 93), .ref (b + 94), .ref (b + 95), .int 0, .int 0, .int 0, .int 0, .int 0, .int 0, .int 0, .int 0, .ref (b + 96), .ref (b + 97), .ref (b + 98), .int 0, .long 0, .ref (b + 99), .null, .null, .null, .null, .int 0, .null, .int 0, .int 0, .int 0, .int 0, .int 0, .int 0, .int 0, .int 0, .int 0, .int 0, .int 0, .int 0]) S hG (hin rfl) 83 33 rfl cpX12 wm_1707 dX12_init_145 rfl (by omega) (by decide) (Nat.le_of_ble_eq_true rfl) rfl rfl rfl rfl (fun H locs hG => ?_)
  refine lv_aload_n hx hb dX12_init_148 rfl (lv_at hl 0 rfl) ?_
  refine lv_sipush (v := 1024) hx hb dX12_init_149 (by decide) ?_
  refine g_newa (atype := .int) (ty := .int) (N := 1024) (a0 := (1024, .inl (fun _ => 0))) S hG (by omega) 1 rfl rfl (fun h => h) wm_305 (fun _ => rfl) dX12_init_152 (by decide) (by decide) (by decide) ⟨Nat.le_of_ble_eq_true rfl, Nat.le_of_ble_eq_true rfl⟩ (fun H hG => ?_)
  refine W.widen (k := 17) (n := 8516) (Nat.le_of_ble_eq_true rfl) (Nat.le_of_ble_eq_true rfl) ?_
  refine g_putF (fs' := [.ref (b + 84), .ref (b + 85), .ref (b + 86), .int 0, .int 0, .int (-1), .int 0, .int 0, .int 0, .int 0, .int 0, .ref (b + 87), .ref (b + 88), .ref (b + 89), .ref (b + 90), .ref (b + 91), .ref (b + 92), .ref (b + 93), .ref (b + 94), .ref (b + 95), .int 0, .int 0, .int 0, .int 0, .int 0, .int 0, .int 0, .int 0, .ref (b + 96), .ref (b + 97), .ref (b + 98), .int 0, .long 0, .ref (b + 99), .ref (b + 100), .null, .null, .null, .int 0, .null, .int 0, .int 0, .int 0, .int 0, .int 0, .int 0, .int 0, .int 0, .int 0, .int 0, .int 0, .int 0]) S hG (hin rfl) 83 34 rfl cpX12 wm_1708 dX12_init_154 rfl (by omega) (by decide) (Nat.le_of_ble_eq_true rfl) rfl rfl rfl rfl (fun H locs hG => ?_)
  refine lv_aload_n hx hb dX12_init_157 rfl (lv_at hl 0 rfl) ?_
  refine lv_sipush (v := 1024) hx hb dX12_init_158 (by decide) ?_
  refine g_newa (atype := .int) (ty := .int) (N := 1024) (a0 := (1024, .inl (fun _ => 0))) S hG (by omega) 1 rfl rfl (fun h => h) wm_305 (fun _ => rfl) dX12_init_161 (by decide) (by decide) (by decide) ⟨Nat.le_of_ble_eq_true rfl, Nat.le_of_ble_eq_true rfl⟩ (fun H hG => ?_)
  refine W.widen (k := 18) (n := 9540) (Nat.le_of_ble_eq_true rfl) (Nat.le_of_ble_eq_true rfl) ?_
  refine g_putF (fs' := [.ref (b + 84), .ref (b + 85), .ref (b + 86), .int 0, .int 0, .int (-1), .int 0, .int 0, .int 0, .int 0, .int 0, .ref (b + 87), .ref (b + 88), .ref (b + 89), .ref (b + 90), .ref (b + 91), .ref (b + 92), .ref (b + 93), .ref (b + 94), .ref (b + 95), .int 0, .int 0, .int 0, .int 0, .int 0, .int 0, .int 0, .int 0, .ref (b + 96), .ref (b + 97), .ref (b + 98), .int 0, .long 0, .ref (b + 99), .ref (b + 100), .ref (b + 101), .null, .null, .int 0, .null, .int 0, .int 0, .int 0, .int 0, .int 0, .int 0, .int 0, .int 0, .int 0, .int 0, .int 0, .int 0]) S hG (hin rfl) 83 35 rfl cpX12 wm_1709 dX12_init_163 rfl (by omega) (by decide) (Nat.le_of_ble_eq_true rfl) rfl rfl rfl rfl (fun H locs hG => ?_)
  refine lv_aload_n hx hb dX12_init_166 rfl (lv_at hl 0 rfl) ?_
  refine lv_sipush (v := 1024) hx hb dX12_init_167 (by decide) ?_
  refine g_newa (atype := .int) (ty := .int) (N := 1024) (a0 := (1024, .inl (fun _ => 0))) S hG (by omega) 1 rfl rfl (fun h => h) wm_305 (fun _ => rfl) dX12_init_170 (by decide) (by decide) (by decide) ⟨Nat.le_of_ble_eq_true rfl, Nat.le_of_ble_eq_true rfl⟩ (fun H hG => ?_)
  refine W.widen (k := 19) (n := 10564) (Nat.le_of_ble_eq_true rfl) (Nat.le_of_ble_eq_true rfl) ?_
  refine g_putF (fs' := [.ref (b + 84), .ref (b + 85), .ref (b + 86), .int 0, .int 0, .int (-1), .int 0, .int 0, .int 0, .int 0, .int 0, .ref (b + 87), .ref (b + 88), .ref (b + 89), .ref (b + 90), .ref (b + 91), .ref (b + 92), .ref (b + 93), .ref (b + 94), .ref (b + 95), .int 0, .int 0, .int 0, .int 0, .int 0, .int 0, .int 0, .int 0, .ref (b + 96), .ref (b + 97), .ref (b + 98), .int 0, .long 0, .ref (b + 99), .ref (b + 100), .ref (b + 101), .ref (b + 102), .null, .int 0, .null, .int 0, .int 0, .int 0, .int 0, .int 0, .int 0, .int 0, .int 0, .int 0, .int 0, .int 0, .int 0]) S hG (hin rfl) 83 36 rfl cpX12 wm_1710 dX12_init_172 rfl (by omega) (by decide) (Nat.le_of_ble_eq_true rfl) rfl rfl rfl rfl (fun H locs hG => ?_)
  refine lv_aload_n hx hb dX12_init_175 rfl (lv_at hl 0 rfl) ?_
  refine lv_sipush (v := 1024) hx hb dX12_init_176 (by decide) ?_
  refine g_newa (atype := .int) (ty := .int) (N := 1024) (a0 := (1024, .inl (fun _ => 0))) S hG (by omega) 1 rfl rfl (fun h => h) wm_305 (fun _ => rfl) dX12_init_179 (by decide) (by decide) (by decide) ⟨Nat.le_of_ble_eq_true rfl, Nat.le_of_ble_eq_true rfl⟩ (fun H hG => ?_)
  refine W.widen (k := 20) (n := 11588) (Nat.le_of_ble_eq_true rfl) (Nat.le_of_ble_eq_true rfl) ?_
  refine g_putF (fs' := [.ref (b + 84), .ref (b + 85), .ref (b + 86), .int 0, .int 0, .int (-1), .int 0, .int 0, .int 0, .int 0, .int 0, .ref (b + 87), .ref (b + 88), .ref (b + 89), .ref (b + 90), .ref (b + 91), .ref (b + 92), .ref (b + 93), .ref (b + 94), .ref (b + 95), .int 0, .int 0, .int 0, .int 0, .int 0, .int 0, .int 0, .int 0, .ref (b + 96), .ref (b + 97), .ref (b + 98), .int 0, .long 0, .ref (b + 99), .ref (b + 100), .ref (b + 101), .ref (b + 102), .ref (b + 103), .int 0, .null, .int 0, .int 0, .int 0, .int 0, .int 0, .int 0, .int 0, .int 0, .int 0, .int 0, .int 0, .int 0]) S hG (hin rfl) 83 37 rfl cpX12 wm_1711 dX12_init_181 rfl (by omega) (by decide) (Nat.le_of_ble_eq_true rfl) rfl rfl rfl rfl (fun H locs hG => ?_)
  refine lv_aload_n hx hb dX12_init_184 rfl (lv_at hl 0 rfl) ?_
  refine lv_bipush (v := 40) hx hb dX12_init_185 (by decide) ?_
  refine g_newa (atype := .int) (ty := .int) (N := 40) (a0 := (40, .inl (fun _ => 0))) S hG (by omega) 1 rfl rfl (fun h => h) wm_305 (fun _ => rfl) dX12_init_187 (by decide) (by decide) (by decide) ⟨Nat.le_of_ble_eq_true rfl, Nat.le_of_ble_eq_true rfl⟩ (fun H hG => ?_)
  refine W.widen (k := 21) (n := 11628) (Nat.le_of_ble_eq_true rfl) (Nat.le_of_ble_eq_true rfl) ?_
  refine g_putF (fs' := [.ref (b + 84), .ref (b + 85), .ref (b + 86), .int 0, .int 0, .int (-1), .int 0, .int 0, .int 0, .int 0, .int 0, .ref (b + 87), .ref (b + 88), .ref (b + 89), .ref (b + 90), .ref (b + 91), .ref (b + 92), .ref (b + 93), .ref (b + 94), .ref (b + 95), .int 0, .int 0, .int 0, .int 0, .int 0, .int 0, .int 0, .int 0, .ref (b + 96), .ref (b + 97), .ref (b + 98), .int 0, .long 0, .ref (b + 99), .ref (b + 100), .ref (b + 101), .ref (b + 102), .ref (b + 103), .int 0, .ref (b + 104), .int 0, .int 0, .int 0, .int 0, .int 0, .int 0, .int 0, .int 0, .int 0, .int 0, .int 0, .int 0]) S hG (hin rfl) 83 39 rfl cpX12 wm_1713 dX12_init_189 rfl (by omega) (by decide) (Nat.le_of_ble_eq_true rfl) rfl rfl rfl rfl (fun H locs hG => ?_)
  refine lv_aload_n hx hb dX12_init_192 rfl (lv_at hl 0 rfl) ?_
  refine lv_iconst (v := (-1)) hx hb dX12_init_193 (by decide) ?_
  refine g_put (fs' := [.ref (b + 84), .ref (b + 85), .ref (b + 86), .int 0, .int 0, .int (-1), .int 0, .int 0, .int 0, .int 0, .int 0, .ref (b + 87), .ref (b + 88), .ref (b + 89), .ref (b + 90), .ref (b + 91), .ref (b + 92), .ref (b + 93), .ref (b + 94), .ref (b + 95), .int 0, .int 0, .int 0, .int 0, .int 0, .int 0, .int 0, .int 0, .ref (b + 96), .ref (b + 97), .ref (b + 98), .int 0, .long 0, .ref (b + 99), .ref (b + 100), .ref (b + 101), .ref (b + 102), .ref (b + 103), .int 0, .ref (b + 104), .int 0, .int 0, .int (-1), .int 0, .int 0, .int 0, .int 0, .int 0, .int 0, .int 0, .int 0, .int 0]) S hG 83 42 rfl cpX12 wm_1716 dX12_init_194 rfl (by omega) (by decide) (Nat.le_of_ble_eq_true rfl) rfl rfl rfl (fun H locs hG => ?_)
  refine lv_aload_n hx hb dX12_init_197 rfl (lv_at hl 0 rfl) ?_
  refine lv_iconst (v := (-1)) hx hb dX12_init_198 (by decide) ?_
  refine g_put (fs' := [.ref (b + 84), .ref (b + 85), .ref (b + 86), .int 0, .int 0, .int (-1), .int 0, .int 0, .int 0, .int 0, .int 0, .ref (b + 87), .ref (b + 88), .ref (b + 89), .ref (b + 90), .ref (b + 91), .ref (b + 92), .ref (b + 93), .ref (b + 94), .ref (b + 95), .int 0, .int 0, .int 0, .int 0, .int 0, .int 0, .int 0, .int 0, .ref (b + 96), .ref (b + 97), .ref (b + 98), .int 0, .long 0, .ref (b + 99), .ref (b + 100), .ref (b + 101), .ref (b + 102), .ref (b + 103), .int 0, .ref (b + 104), .int 0, .int 0, .int (-1), .int (-1), .int 0, .int 0, .int 0, .int 0, .int 0, .int 0, .int 0, .int 0]) S hG 83 43 rfl cpX12 wm_1717 dX12_init_199 rfl (by omega) (by decide) (Nat.le_of_ble_eq_true rfl) rfl rfl rfl (fun H locs hG => ?_)
  refine lv_aload_n hx hb dX12_init_202 rfl (lv_at hl 0 rfl) ?_
  refine g_vv (As := []) (rest := []) S hG (by omega) (qX12_clears l (by omega) rfl rfl rfl) wV_12_91 rfl cpX12 (by omega) dX12_init_203 rfl hl.1 (ar := 0) (by decide +kernel) rfl ⟨Nat.le_of_ble_eq_true rfl, Nat.le_of_ble_eq_true rfl, Nat.le_of_ble_eq_true rfl, Nat.le_of_ble_eq_true rfl⟩ (Nat.le_of_ble_eq_true rfl) (fun u_E_1 H locs hp_2 hG => ?_)
  obtain ⟨n_E_1, E_1⟩ := u_E_1
  dsimp only at hp_2 hG
  obtain ⟨rfl, rfl⟩ := hp_2
  exact g_vret S hr hlk hG (by omega) dX12_init_206 ⟨Nat.le_of_ble_eq_true rfl, Nat.le_of_ble_eq_true rfl⟩ ⟨rfl, fun j h1 h2 => (upE_n (by omega)).trans ((upE_n (by omega)).trans ((upE_n (by omega)).trans ((upE_n (by omega)).trans ((upE_n (by omega)).trans ((upE_n (by omega)).trans ((upE_n (by omega)).trans ((upE_n (by omega)).trans ((upE_n (by omega)).trans ((upE_n (by omega)).trans ((upE_n (by omega)).trans ((upE_n (by omega)).trans ((upE_n (by omega)).trans ((upE_n (by omega)).trans ((upE_n (by omega)).trans ((upE_n (by omega)).trans ((upE_n (by omega)).trans ((upE_n (by omega)).trans ((upE_n (by omega)).trans ((upE_n (by omega)).trans ((upE_n (by omega)).trans ((upE_n (by omega)).trans ((upE_n (by omega)).trans ((upE_n (by omega)).trans ((upE_n (by omega)).trans ((upE_n (by omega)).trans ((upE_n (by omega)).trans ((upE_n (by omega)).trans ((upE_n (by omega)).trans ((upE_n (by omega)).trans ((upE_n (by omega)).trans ((upE_n (by omega)).trans ((upE_n (by omega)).trans ((upE_n (by omega)).trans ((upE_n (by omega)).trans ((upE_n (by omega)).trans ((upE_n (by omega)).trans ((upE_n (by omega)).trans ((upE_n (by omega)).trans ((upE_n (by omega)).trans ((upE_n (by omega)).trans ((upE_n (by omega)).trans ((upE_n (by omega)).trans ((upE_n (by omega)).trans ((upE_n (by omega)).trans ((upE_n (by omega)).trans (rfl)))))))))))))))))))))))))))))))))))))))))))))), rfl, rfl, rfl, rfl, rfl, rfl, rfl, rfl, rfl, rfl, rfl, rfl, rfl, rfl, rfl, rfl, rfl, rfl, rfl, rfl, rfl, rfl⟩
end
section
theorem dX12_in_0 : decode cX12_in 0 = .ok (.lload_n 0, 1) := by decide +kernel
theorem dX12_in_1 : decode cX12_in 1 = .ok (.lload_n 2, 1) := by decide +kernel
theorem dX12_in_2 : decode cX12_in 2 = .ok (.lcmp, 1) := by decide +kernel
theorem dX12_in_3 : decode cX12_in 3 = .ok (.ifCond .lt 14, 3) := by decide +kernel
theorem dX12_in_17 : decode cX12_in 17 = .ok (.iconst 0, 1) := by decide +kernel
theorem dX12_in_18 : decode cX12_in 18 = .ok (.ireturn, 1) := by decide +kernel
theorem dX12_in_6 : decode cX12_in 6 = .ok (.lload_n 0, 1) := by decide +kernel
theorem dX12_in_7 : decode cX12_in 7 = .ok (.lload 4, 2) := by decide +kernel
theorem dX12_in_9 : decode cX12_in 9 = .ok (.lcmp, 1) := by decide +kernel
theorem dX12_in_10 : decode cX12_in 10 = .ok (.ifCond .gt 7, 3) := by decide +kernel
theorem dX12_in_13 : decode cX12_in 13 = .ok (.iconst 1, 1) := by decide +kernel
theorem dX12_in_14 : decode cX12_in 14 = .ok (.goto 4, 3) := by decide +kernel
theorem dX11_known_0 : decode cX11_known 0 = .ok (.iload_n 1, 1) := by decide +kernel
theorem dX11_known_1 : decode cX11_known 1 = .ok (.ifCond .lt 18, 3) := by decide +kernel
theorem dX11_known_19 : decode cX11_known 19 = .ok (.iconst 0, 1) := by decide +kernel
theorem dX11_known_20 : decode cX11_known 20 = .ok (.ireturn, 1) := by decide +kernel
theorem dX11_known_4 : decode cX11_known 4 = .ok (.iload_n 1, 1) := by decide +kernel
theorem dX11_known_5 : decode cX11_known 5 = .ok (.aload_n 0, 1) := by decide +kernel
theorem dX11_known_6 : decode cX11_known 6 = .ok (.getfield 20, 3) := by decide +kernel
theorem dX11_known_9 : decode cX11_known 9 = .ok (.getfield 156, 3) := by decide +kernel
theorem wm_221 : (Jvm.Cond.fieldLink "GrownKinds" (156 : Nat) "GrownKinds$Grammar" "kinds" "I") ∈ gT := gT_in (List.mem_of_getElem? (i := 221) (by decide +kernel)) (by decide +kernel)
theorem dX11_known_12 : decode cX11_known 12 = .ok (.if_icmp .ge 7, 3) := by decide +kernel
theorem dX11_sized_0 : decode cX11_sized 0 = .ok (.aload_n 0, 1) := by decide +kernel
theorem dX11_sized_1 : decode cX11_sized 1 = .ok (.iload_n 1, 1) := by decide +kernel
theorem dX11_sized_2 : decode cX11_sized 2 = .ok (.invokevirtual 168, 3) := by decide +kernel
theorem wm_1109 : (Jvm.Cond.methodLink "GrownKinds" (168 : Nat) ({ cls := "GrownKinds", name := "known", desc := "(I)Z" } : Jvm.MethodName)) ∈ gT := gT_in (List.mem_of_getElem? (i := 1109) (by decide +kernel)) (by decide +kernel)
theorem wm_1111 : (Jvm.Cond.instanceMethod ({ cls := "GrownKinds", name := "known", desc := "(I)Z" } : Jvm.MethodName)) ∈ gT := gT_in (List.mem_of_getElem? (i := 1111) (by decide +kernel)) (by decide +kernel)
theorem wm_48 : Cond.selects "GrownKinds" ⟨"GrownKinds", "known", "(I)Z"⟩ ⟨"GrownKinds", "known", "(I)Z"⟩ ∈ gT := gT_in (List.mem_of_getElem? (i := 48) (by decide +kernel)) (by decide +kernel)
theorem wm_176 : (Jvm.Cond.initialized "GrownKinds") ∈ gT := gT_in (List.mem_of_getElem? (i := 176) (by decide +kernel)) (by decide +kernel)
theorem wm_1112 : (Jvm.Cond.code ({ cls := "GrownKinds", name := "known", desc := "(I)Z" } : Jvm.MethodName) prog_1_method_9_code (2 : Nat) (Option.some Jvm.ClassFile.FieldType.boolean)) ∈ gT := gT_in (List.mem_of_getElem? (i := 1112) (by decide +kernel)) (by decide +kernel)
theorem dX11_sized_5 : decode cX11_sized 5 = .ok (.ifCond .eq 22, 3) := by decide +kernel
theorem dX11_sized_27 : decode cX11_sized 27 = .ok (.iconst 0, 1) := by decide +kernel
theorem dX11_sized_28 : decode cX11_sized 28 = .ok (.ireturn, 1) := by decide +kernel
theorem dX11_termed_0 : decode cX11_termed 0 = .ok (.aload_n 0, 1) := by decide +kernel
theorem dX11_termed_1 : decode cX11_termed 1 = .ok (.iload_n 1, 1) := by decide +kernel
theorem dX11_termed_2 : decode cX11_termed 2 = .ok (.invokevirtual 168, 3) := by decide +kernel
theorem dX11_termed_5 : decode cX11_termed 5 = .ok (.ifCond .eq 24, 3) := by decide +kernel
theorem dX11_termed_29 : decode cX11_termed 29 = .ok (.iconst 0, 1) := by decide +kernel
theorem dX11_termed_30 : decode cX11_termed 30 = .ok (.ireturn, 1) := by decide +kernel
theorem dX11_boxy_0 : decode cX11_boxy 0 = .ok (.aload_n 0, 1) := by decide +kernel
theorem dX11_boxy_1 : decode cX11_boxy 1 = .ok (.iload_n 1, 1) := by decide +kernel
theorem dX11_boxy_2 : decode cX11_boxy 2 = .ok (.iload_n 2, 1) := by decide +kernel
theorem dX11_boxy_3 : decode cX11_boxy 3 = .ok (.invokevirtual 175, 3) := by decide +kernel
theorem wm_1162 : (Jvm.Cond.methodLink "GrownKinds" (175 : Nat) ({ cls := "GrownKinds", name := "sized", desc := "(II)Z" } : Jvm.MethodName)) ∈ gT := gT_in (List.mem_of_getElem? (i := 1162) (by decide +kernel)) (by decide +kernel)
theorem wm_1164 : (Jvm.Cond.instanceMethod ({ cls := "GrownKinds", name := "sized", desc := "(II)Z" } : Jvm.MethodName)) ∈ gT := gT_in (List.mem_of_getElem? (i := 1164) (by decide +kernel)) (by decide +kernel)
theorem wm_49 : Cond.selects "GrownKinds" ⟨"GrownKinds", "sized", "(II)Z"⟩ ⟨"GrownKinds", "sized", "(II)Z"⟩ ∈ gT := gT_in (List.mem_of_getElem? (i := 49) (by decide +kernel)) (by decide +kernel)
theorem wm_1165 : (Jvm.Cond.code ({ cls := "GrownKinds", name := "sized", desc := "(II)Z" } : Jvm.MethodName) prog_1_method_10_code (3 : Nat) (Option.some Jvm.ClassFile.FieldType.boolean)) ∈ gT := gT_in (List.mem_of_getElem? (i := 1165) (by decide +kernel)) (by decide +kernel)
theorem dX11_boxy_6 : decode cX11_boxy 6 = .ok (.ifCond .eq 21, 3) := by decide +kernel
theorem dX11_boxy_27 : decode cX11_boxy 27 = .ok (.iconst 0, 1) := by decide +kernel
theorem dX11_boxy_28 : decode cX11_boxy 28 = .ok (.ireturn, 1) := by decide +kernel
theorem dX11_lettered_0 : decode cX11_lettered 0 = .ok (.iload_n 0, 1) := by decide +kernel
theorem dX11_lettered_1 : decode cX11_lettered 1 = .ok (.ifCond .lt 13, 3) := by decide +kernel
theorem dX11_lettered_14 : decode cX11_lettered 14 = .ok (.iconst 0, 1) := by decide +kernel
theorem dX11_lettered_15 : decode cX11_lettered 15 = .ok (.ireturn, 1) := by decide +kernel
theorem dX11_lettered_4 : decode cX11_lettered 4 = .ok (.iload_n 0, 1) := by decide +kernel
theorem dX11_lettered_5 : decode cX11_lettered 5 = .ok (.bipush 26, 2) := by decide +kernel
theorem dX11_lettered_7 : decode cX11_lettered 7 = .ok (.if_icmp .ge 7, 3) := by decide +kernel
theorem dX11_lettered_10 : decode cX11_lettered 10 = .ok (.iconst 1, 1) := by decide +kernel
theorem dX11_lettered_11 : decode cX11_lettered 11 = .ok (.goto 4, 3) := by decide +kernel
theorem dX11_terms_0 : decode cX11_terms 0 = .ok (.aload_n 0, 1) := by decide +kernel
theorem dX11_terms_1 : decode cX11_terms 1 = .ok (.iload_n 1, 1) := by decide +kernel
theorem dX11_terms_2 : decode cX11_terms 2 = .ok (.invokevirtual 168, 3) := by decide +kernel
theorem dX11_terms_5 : decode cX11_terms 5 = .ok (.ifCond .eq 15, 3) := by decide +kernel
theorem dX11_terms_20 : decode cX11_terms 20 = .ok (.bipush (-2), 2) := by decide +kernel
theorem dX11_terms_22 : decode cX11_terms 22 = .ok (.ireturn, 1) := by decide +kernel
theorem dX11_off_0 : decode cX11_off 0 = .ok (.aload_n 0, 1) := by decide +kernel
theorem dX11_off_1 : decode cX11_off 1 = .ok (.iload_n 1, 1) := by decide +kernel
theorem dX11_off_2 : decode cX11_off 2 = .ok (.invokevirtual 168, 3) := by decide +kernel
theorem dX11_off_5 : decode cX11_off 5 = .ok (.ifCond .eq 15, 3) := by decide +kernel
theorem dX11_off_20 : decode cX11_off 20 = .ok (.bipush (-2), 2) := by decide +kernel
theorem dX11_off_22 : decode cX11_off 22 = .ok (.ireturn, 1) := by decide +kernel
theorem dX11_letters_0 : decode cX11_letters 0 = .ok (.aload_n 0, 1) := by decide +kernel
theorem dX11_letters_1 : decode cX11_letters 1 = .ok (.iload_n 1, 1) := by decide +kernel
theorem dX11_letters_2 : decode cX11_letters 2 = .ok (.invokevirtual 168, 3) := by decide +kernel
theorem dX11_letters_5 : decode cX11_letters 5 = .ok (.ifCond .eq 15, 3) := by decide +kernel
theorem dX11_letters_20 : decode cX11_letters 20 = .ok (.bipush (-2), 2) := by decide +kernel
theorem dX11_letters_22 : decode cX11_letters 22 = .ok (.ireturn, 1) := by decide +kernel
theorem dX11_uses_0 : decode cX11_uses 0 = .ok (.aload_n 0, 1) := by decide +kernel
theorem dX11_uses_1 : decode cX11_uses 1 = .ok (.iload_n 1, 1) := by decide +kernel
theorem dX11_uses_2 : decode cX11_uses 2 = .ok (.invokevirtual 168, 3) := by decide +kernel
theorem dX11_uses_5 : decode cX11_uses 5 = .ok (.ifCond .eq 15, 3) := by decide +kernel
theorem dX11_uses_20 : decode cX11_uses 20 = .ok (.bipush (-2), 2) := by decide +kernel
theorem dX11_uses_22 : decode cX11_uses 22 = .ok (.ireturn, 1) := by decide +kernel
theorem dX11_reaches_0 : decode cX11_reaches 0 = .ok (.aload_n 0, 1) := by decide +kernel
theorem dX11_reaches_1 : decode cX11_reaches 1 = .ok (.iload_n 1, 1) := by decide +kernel
theorem dX11_reaches_2 : decode cX11_reaches 2 = .ok (.invokevirtual 168, 3) := by decide +kernel
theorem dX11_reaches_5 : decode cX11_reaches 5 = .ok (.ifCond .eq 17, 3) := by decide +kernel
theorem dX11_reaches_22 : decode cX11_reaches 22 = .ok (.bipush (-2), 2) := by decide +kernel
theorem dX11_reaches_24 : decode cX11_reaches 24 = .ok (.ireturn, 1) := by decide +kernel
theorem dX11_empty_0 : decode cX11_empty 0 = .ok (.aload_n 0, 1) := by decide +kernel
theorem dX11_empty_1 : decode cX11_empty 1 = .ok (.iload_n 1, 1) := by decide +kernel
theorem dX11_empty_2 : decode cX11_empty 2 = .ok (.invokevirtual 168, 3) := by decide +kernel
theorem dX11_empty_5 : decode cX11_empty 5 = .ok (.ifCond .eq 17, 3) := by decide +kernel
theorem dX11_empty_22 : decode cX11_empty 22 = .ok (.bipush (-2), 2) := by decide +kernel
theorem dX11_empty_24 : decode cX11_empty 24 = .ok (.ireturn, 1) := by decide +kernel
theorem dX11_leans_0 : decode cX11_leans 0 = .ok (.aload_n 0, 1) := by decide +kernel
theorem dX11_leans_1 : decode cX11_leans 1 = .ok (.iload_n 1, 1) := by decide +kernel
theorem dX11_leans_2 : decode cX11_leans 2 = .ok (.invokevirtual 168, 3) := by decide +kernel
theorem dX11_leans_5 : decode cX11_leans 5 = .ok (.ifCond .eq 15, 3) := by decide +kernel
theorem dX11_leans_20 : decode cX11_leans 20 = .ok (.bipush (-2), 2) := by decide +kernel
theorem dX11_leans_22 : decode cX11_leans 22 = .ok (.ireturn, 1) := by decide +kernel
theorem dX11_blank_0 : decode cX11_blank 0 = .ok (.aload_n 0, 1) := by decide +kernel
theorem dX11_blank_1 : decode cX11_blank 1 = .ok (.getfield 20, 3) := by decide +kernel
theorem dX11_blank_4 : decode cX11_blank 4 = .ok (.getfield 165, 3) := by decide +kernel
theorem wm_224 : (Jvm.Cond.fieldLink "GrownKinds" (165 : Nat) "GrownKinds$Grammar" "lines" "I") ∈ gT := gT_in (List.mem_of_getElem? (i := 224) (by decide +kernel)) (by decide +kernel)
theorem dX11_blank_7 : decode cX11_blank 7 = .ok (.ifCond .ne 6, 3) := by decide +kernel
theorem dX11_blank_10 : decode cX11_blank 10 = .ok (.bipush (-2), 2) := by decide +kernel
theorem dX11_blank_12 : decode cX11_blank 12 = .ok (.ireturn, 1) := by decide +kernel
theorem dX11_things_0 : decode cX11_things 0 = .ok (.aload_n 0, 1) := by decide +kernel
theorem dX11_things_1 : decode cX11_things 1 = .ok (.iload_n 1, 1) := by decide +kernel
theorem dX11_things_2 : decode cX11_things 2 = .ok (.iload_n 2, 1) := by decide +kernel
theorem dX11_things_3 : decode cX11_things 3 = .ok (.invokevirtual 175, 3) := by decide +kernel
theorem dX11_things_6 : decode cX11_things 6 = .ok (.ifCond .eq 15, 3) := by decide +kernel
theorem dX11_things_21 : decode cX11_things 21 = .ok (.ldc2_w 210, 3) := by decide +kernel
theorem wm_1166 : (Jvm.Cond.constantLong "GrownKinds" (210 : Nat) (-2 : Int64)) ∈ gT := gT_in (List.mem_of_getElem? (i := 1166) (by decide +kernel)) (by decide +kernel)
theorem dX11_things_24 : decode cX11_things 24 = .ok (.lreturn, 1) := by decide +kernel
theorem dX11_labelled_0 : decode cX11_labelled 0 = .ok (.aload_n 0, 1) := by decide +kernel
theorem dX11_labelled_1 : decode cX11_labelled 1 = .ok (.iload_n 1, 1) := by decide +kernel
theorem dX11_labelled_2 : decode cX11_labelled 2 = .ok (.iload_n 2, 1) := by decide +kernel
theorem dX11_labelled_3 : decode cX11_labelled 3 = .ok (.invokevirtual 175, 3) := by decide +kernel
theorem dX11_labelled_6 : decode cX11_labelled 6 = .ok (.ifCond .eq 15, 3) := by decide +kernel
theorem dX11_labelled_21 : decode cX11_labelled 21 = .ok (.ldc2_w 210, 3) := by decide +kernel
theorem dX11_labelled_24 : decode cX11_labelled 24 = .ok (.lreturn, 1) := by decide +kernel
theorem dX11_marked_0 : decode cX11_marked 0 = .ok (.aload_n 0, 1) := by decide +kernel
theorem dX11_marked_1 : decode cX11_marked 1 = .ok (.iload_n 1, 1) := by decide +kernel
theorem dX11_marked_2 : decode cX11_marked 2 = .ok (.iload_n 2, 1) := by decide +kernel
theorem dX11_marked_3 : decode cX11_marked 3 = .ok (.invokevirtual 175, 3) := by decide +kernel
theorem dX11_marked_6 : decode cX11_marked 6 = .ok (.ifCond .eq 22, 3) := by decide +kernel
theorem dX11_marked_28 : decode cX11_marked 28 = .ok (.ldc2_w 210, 3) := by decide +kernel
theorem dX11_marked_31 : decode cX11_marked 31 = .ok (.lreturn, 1) := by decide +kernel
theorem dX11_by_0 : decode cX11_by 0 = .ok (.aload_n 0, 1) := by decide +kernel
theorem dX11_by_1 : decode cX11_by 1 = .ok (.iload_n 1, 1) := by decide +kernel
theorem dX11_by_2 : decode cX11_by 2 = .ok (.iload_n 2, 1) := by decide +kernel
theorem dX11_by_3 : decode cX11_by 3 = .ok (.invokevirtual 175, 3) := by decide +kernel
theorem dX11_by_6 : decode cX11_by 6 = .ok (.ifCond .eq 12, 3) := by decide +kernel
theorem dX11_by_18 : decode cX11_by 18 = .ok (.ldc2_w 210, 3) := by decide +kernel
theorem dX11_by_21 : decode cX11_by 21 = .ok (.lreturn, 1) := by decide +kernel
theorem dX11_without_0 : decode cX11_without 0 = .ok (.aload_n 0, 1) := by decide +kernel
theorem dX11_without_1 : decode cX11_without 1 = .ok (.iload_n 1, 1) := by decide +kernel
theorem dX11_without_2 : decode cX11_without 2 = .ok (.iload_n 2, 1) := by decide +kernel
theorem dX11_without_3 : decode cX11_without 3 = .ok (.invokevirtual 228, 3) := by decide +kernel
theorem wm_1222 : (Jvm.Cond.methodLink "GrownKinds" (228 : Nat) ({ cls := "GrownKinds", name := "termed", desc := "(II)Z" } : Jvm.MethodName)) ∈ gT := gT_in (List.mem_of_getElem? (i := 1222) (by decide +kernel)) (by decide +kernel)
theorem wm_1224 : (Jvm.Cond.instanceMethod ({ cls := "GrownKinds", name := "termed", desc := "(II)Z" } : Jvm.MethodName)) ∈ gT := gT_in (List.mem_of_getElem? (i := 1224) (by decide +kernel)) (by decide +kernel)
theorem wm_53 : Cond.selects "GrownKinds" ⟨"GrownKinds", "termed", "(II)Z"⟩ ⟨"GrownKinds", "termed", "(II)Z"⟩ ∈ gT := gT_in (List.mem_of_getElem? (i := 53) (by decide +kernel)) (by decide +kernel)
theorem wm_1225 : (Jvm.Cond.code ({ cls := "GrownKinds", name := "termed", desc := "(II)Z" } : Jvm.MethodName) prog_1_method_11_code (3 : Nat) (Option.some Jvm.ClassFile.FieldType.boolean)) ∈ gT := gT_in (List.mem_of_getElem? (i := 1225) (by decide +kernel)) (by decide +kernel)
theorem dX11_without_6 : decode cX11_without 6 = .ok (.ifCond .eq 13, 3) := by decide +kernel
theorem dX11_without_19 : decode cX11_without 19 = .ok (.ldc2_w 210, 3) := by decide +kernel
theorem dX11_without_22 : decode cX11_without 22 = .ok (.lreturn, 1) := by decide +kernel
theorem dX11_hangs_0 : decode cX11_hangs 0 = .ok (.aload_n 0, 1) := by decide +kernel
theorem dX11_hangs_1 : decode cX11_hangs 1 = .ok (.iload_n 1, 1) := by decide +kernel
theorem dX11_hangs_2 : decode cX11_hangs 2 = .ok (.iload_n 2, 1) := by decide +kernel
theorem dX11_hangs_3 : decode cX11_hangs 3 = .ok (.invokevirtual 175, 3) := by decide +kernel
theorem dX11_hangs_6 : decode cX11_hangs 6 = .ok (.ifCond .ne 6, 3) := by decide +kernel
theorem dX11_hangs_9 : decode cX11_hangs 9 = .ok (.bipush (-2), 2) := by decide +kernel
theorem dX11_hangs_11 : decode cX11_hangs 11 = .ok (.ireturn, 1) := by decide +kernel
theorem dX11_idle_0 : decode cX11_idle 0 = .ok (.aload_n 0, 1) := by decide +kernel
theorem dX11_idle_1 : decode cX11_idle 1 = .ok (.getfield 20, 3) := by decide +kernel
theorem dX11_idle_4 : decode cX11_idle 4 = .ok (.getfield 165, 3) := by decide +kernel
theorem dX11_idle_7 : decode cX11_idle 7 = .ok (.ifCond .ne 6, 3) := by decide +kernel
theorem dX11_idle_10 : decode cX11_idle 10 = .ok (.bipush (-2), 2) := by decide +kernel
theorem dX11_idle_12 : decode cX11_idle 12 = .ok (.ireturn, 1) := by decide +kernel
theorem dX11_first_0 : decode cX11_first 0 = .ok (.aload_n 0, 1) := by decide +kernel
theorem dX11_first_1 : decode cX11_first 1 = .ok (.iload_n 1, 1) := by decide +kernel
theorem dX11_first_2 : decode cX11_first 2 = .ok (.invokevirtual 168, 3) := by decide +kernel
theorem dX11_first_5 : decode cX11_first 5 = .ok (.ifCond .eq 17, 3) := by decide +kernel
theorem dX11_first_22 : decode cX11_first 22 = .ok (.bipush (-2), 2) := by decide +kernel
theorem dX11_first_24 : decode cX11_first 24 = .ok (.ireturn, 1) := by decide +kernel
theorem dX11_least_0 : decode cX11_least 0 = .ok (.aload_n 0, 1) := by decide +kernel
theorem dX11_least_1 : decode cX11_least 1 = .ok (.iload_n 1, 1) := by decide +kernel
theorem dX11_least_2 : decode cX11_least 2 = .ok (.lconst 1, 1) := by decide +kernel
theorem dX11_least_3 : decode cX11_least 3 = .ok (.invokevirtual 202, 3) := by decide +kernel
theorem wm_1146 : (Jvm.Cond.methodLink "GrownKinds" (202 : Nat) ({ cls := "GrownKinds", name := "first", desc := "(IJ)I" } : Jvm.MethodName)) ∈ gT := gT_in (List.mem_of_getElem? (i := 1146) (by decide +kernel)) (by decide +kernel)
theorem wm_1147 : (Jvm.Cond.instanceMethod ({ cls := "GrownKinds", name := "first", desc := "(IJ)I" } : Jvm.MethodName)) ∈ gT := gT_in (List.mem_of_getElem? (i := 1147) (by decide +kernel)) (by decide +kernel)
theorem wm_1148 : (Jvm.Cond.selects "GrownKinds" ({ cls := "GrownKinds", name := "first", desc := "(IJ)I" } : Jvm.MethodName) ({ cls := "GrownKinds", name := "first", desc := "(IJ)I" } : Jvm.MethodName)) ∈ gT := gT_in (List.mem_of_getElem? (i := 1148) (by decide +kernel)) (by decide +kernel)
theorem wm_1149 : (Jvm.Cond.code ({ cls := "GrownKinds", name := "first", desc := "(IJ)I" } : Jvm.MethodName) prog_1_method_26_code (5 : Nat) (Option.some Jvm.ClassFile.FieldType.int)) ∈ gT := gT_in (List.mem_of_getElem? (i := 1149) (by decide +kernel)) (by decide +kernel)
theorem dX11_least_6 : decode cX11_least 6 = .ok (.ireturn, 1) := by decide +kernel
theorem dX11_boxed_0 : decode cX11_boxed 0 = .ok (.aload_n 0, 1) := by decide +kernel
theorem dX11_boxed_1 : decode cX11_boxed 1 = .ok (.iload_n 1, 1) := by decide +kernel
theorem dX11_boxed_2 : decode cX11_boxed 2 = .ok (.iload_n 2, 1) := by decide +kernel
theorem dX11_boxed_3 : decode cX11_boxed 3 = .ok (.iload_n 3, 1) := by decide +kernel
theorem dX11_boxed_4 : decode cX11_boxed 4 = .ok (.invokevirtual 333, 3) := by decide +kernel
theorem wm_1175 : (Jvm.Cond.methodLink "GrownKinds" (333 : Nat) ({ cls := "GrownKinds", name := "boxy", desc := "(III)Z" } : Jvm.MethodName)) ∈ gT := gT_in (List.mem_of_getElem? (i := 1175) (by decide +kernel)) (by decide +kernel)
theorem wm_1177 : (Jvm.Cond.instanceMethod ({ cls := "GrownKinds", name := "boxy", desc := "(III)Z" } : Jvm.MethodName)) ∈ gT := gT_in (List.mem_of_getElem? (i := 1177) (by decide +kernel)) (by decide +kernel)
theorem wm_50 : Cond.selects "GrownKinds" ⟨"GrownKinds", "boxy", "(III)Z"⟩ ⟨"GrownKinds", "boxy", "(III)Z"⟩ ∈ gT := gT_in (List.mem_of_getElem? (i := 50) (by decide +kernel)) (by decide +kernel)
theorem wm_1178 : (Jvm.Cond.code ({ cls := "GrownKinds", name := "boxy", desc := "(III)Z" } : Jvm.MethodName) prog_1_method_13_code (4 : Nat) (Option.some Jvm.ClassFile.FieldType.boolean)) ∈ gT := gT_in (List.mem_of_getElem? (i := 1178) (by decide +kernel)) (by decide +kernel)
theorem dX11_boxed_7 : decode cX11_boxed 7 = .ok (.ifCond .eq 16, 3) := by decide +kernel
theorem dX11_boxed_23 : decode cX11_boxed 23 = .ok (.ldc2_w 210, 3) := by decide +kernel
theorem dX11_boxed_26 : decode cX11_boxed 26 = .ok (.lreturn, 1) := by decide +kernel
theorem dX11_upto_0 : decode cX11_upto 0 = .ok (.aload_n 0, 1) := by decide +kernel
theorem dX11_upto_1 : decode cX11_upto 1 = .ok (.iload_n 1, 1) := by decide +kernel
theorem dX11_upto_2 : decode cX11_upto 2 = .ok (.iconst 0, 1) := by decide +kernel
theorem dX11_upto_3 : decode cX11_upto 3 = .ok (.iload_n 2, 1) := by decide +kernel
theorem dX11_upto_4 : decode cX11_upto 4 = .ok (.invokevirtual 212, 3) := by decide +kernel
theorem wm_1171 : (Jvm.Cond.methodLink "GrownKinds" (212 : Nat) ({ cls := "GrownKinds", name := "boxed", desc := "(III)J" } : Jvm.MethodName)) ∈ gT := gT_in (List.mem_of_getElem? (i := 1171) (by decide +kernel)) (by decide +kernel)
theorem wm_1172 : (Jvm.Cond.instanceMethod ({ cls := "GrownKinds", name := "boxed", desc := "(III)J" } : Jvm.MethodName)) ∈ gT := gT_in (List.mem_of_getElem? (i := 1172) (by decide +kernel)) (by decide +kernel)
theorem wm_1173 : (Jvm.Cond.selects "GrownKinds" ({ cls := "GrownKinds", name := "boxed", desc := "(III)J" } : Jvm.MethodName) ({ cls := "GrownKinds", name := "boxed", desc := "(III)J" } : Jvm.MethodName)) ∈ gT := gT_in (List.mem_of_getElem? (i := 1173) (by decide +kernel)) (by decide +kernel)
theorem wm_1174 : (Jvm.Cond.code ({ cls := "GrownKinds", name := "boxed", desc := "(III)J" } : Jvm.MethodName) prog_1_method_52_code (4 : Nat) (Option.some Jvm.ClassFile.FieldType.long)) ∈ gT := gT_in (List.mem_of_getElem? (i := 1174) (by decide +kernel)) (by decide +kernel)
theorem dX11_upto_7 : decode cX11_upto 7 = .ok (.lreturn, 1) := by decide +kernel
theorem dX11_listing_0 : decode cX11_listing 0 = .ok (.aload_n 0, 1) := by decide +kernel
theorem dX11_listing_1 : decode cX11_listing 1 = .ok (.iload_n 1, 1) := by decide +kernel
theorem dX11_listing_2 : decode cX11_listing 2 = .ok (.iload_n 2, 1) := by decide +kernel
theorem dX11_listing_3 : decode cX11_listing 3 = .ok (.invokevirtual 175, 3) := by decide +kernel
theorem dX11_listing_6 : decode cX11_listing 6 = .ok (.ifCond .ne 6, 3) := by decide +kernel
theorem dX11_listing_9 : decode cX11_listing 9 = .ok (.bipush (-2), 2) := by decide +kernel
theorem dX11_listing_11 : decode cX11_listing 11 = .ok (.ireturn, 1) := by decide +kernel
theorem dX11_spelling_0 : decode cX11_spelling 0 = .ok (.aload_n 0, 1) := by decide +kernel
theorem dX11_spelling_1 : decode cX11_spelling 1 = .ok (.iload_n 1, 1) := by decide +kernel
theorem dX11_spelling_2 : decode cX11_spelling 2 = .ok (.iload_n 2, 1) := by decide +kernel
theorem dX11_spelling_3 : decode cX11_spelling 3 = .ok (.invokevirtual 251, 3) := by decide +kernel
theorem wm_1269 : (Jvm.Cond.methodLink "GrownKinds" (251 : Nat) ({ cls := "GrownKinds", name := "listing", desc := "(II)I" } : Jvm.MethodName)) ∈ gT := gT_in (List.mem_of_getElem? (i := 1269) (by decide +kernel)) (by decide +kernel)
theorem wm_1271 : (Jvm.Cond.instanceMethod ({ cls := "GrownKinds", name := "listing", desc := "(II)I" } : Jvm.MethodName)) ∈ gT := gT_in (List.mem_of_getElem? (i := 1271) (by decide +kernel)) (by decide +kernel)
theorem wm_55 : Cond.selects "GrownKinds" ⟨"GrownKinds", "listing", "(II)I"⟩ ⟨"GrownKinds", "listing", "(II)I"⟩ ∈ gT := gT_in (List.mem_of_getElem? (i := 55) (by decide +kernel)) (by decide +kernel)
theorem wm_1272 : (Jvm.Cond.code ({ cls := "GrownKinds", name := "listing", desc := "(II)I" } : Jvm.MethodName) prog_1_method_32_code (3 : Nat) (Option.some Jvm.ClassFile.FieldType.int)) ∈ gT := gT_in (List.mem_of_getElem? (i := 1272) (by decide +kernel)) (by decide +kernel)
theorem dX11_spelling_6 : decode cX11_spelling 6 = .ok (.istore 4, 2) := by decide +kernel
theorem dX11_spelling_8 : decode cX11_spelling 8 = .ok (.iload 4, 2) := by decide +kernel
theorem dX11_spelling_10 : decode cX11_spelling 10 = .ok (.ifCond .eq 6, 3) := by decide +kernel
theorem dX11_spelling_13 : decode cX11_spelling 13 = .ok (.iload 4, 2) := by decide +kernel
theorem dX11_spelling_15 : decode cX11_spelling 15 = .ok (.ireturn, 1) := by decide +kernel
theorem dX11_rolling_0 : decode cX11_rolling 0 = .ok (.aload_n 0, 1) := by decide +kernel
theorem dX11_rolling_1 : decode cX11_rolling 1 = .ok (.iload_n 1, 1) := by decide +kernel
theorem dX11_rolling_2 : decode cX11_rolling 2 = .ok (.iload_n 2, 1) := by decide +kernel
theorem dX11_rolling_3 : decode cX11_rolling 3 = .ok (.invokevirtual 251, 3) := by decide +kernel
theorem dX11_rolling_6 : decode cX11_rolling 6 = .ok (.istore_n 3, 1) := by decide +kernel
theorem dX11_rolling_7 : decode cX11_rolling 7 = .ok (.iload_n 3, 1) := by decide +kernel
theorem dX11_rolling_8 : decode cX11_rolling 8 = .ok (.ifCond .eq 5, 3) := by decide +kernel
theorem dX11_rolling_11 : decode cX11_rolling 11 = .ok (.iload_n 3, 1) := by decide +kernel
theorem dX11_rolling_12 : decode cX11_rolling 12 = .ok (.ireturn, 1) := by decide +kernel
theorem dX11_length_0 : decode cX11_length 0 = .ok (.aload_n 0, 1) := by decide +kernel
theorem dX11_length_1 : decode cX11_length 1 = .ok (.iload_n 1, 1) := by decide +kernel
theorem dX11_length_2 : decode cX11_length 2 = .ok (.iload_n 2, 1) := by decide +kernel
theorem dX11_length_3 : decode cX11_length 3 = .ok (.iload_n 3, 1) := by decide +kernel
theorem dX11_length_4 : decode cX11_length 4 = .ok (.invokevirtual 259, 3) := by decide +kernel
theorem wm_1265 : (Jvm.Cond.methodLink "GrownKinds" (259 : Nat) ({ cls := "GrownKinds", name := "spelling", desc := "(III)I" } : Jvm.MethodName)) ∈ gT := gT_in (List.mem_of_getElem? (i := 1265) (by decide +kernel)) (by decide +kernel)
theorem wm_1267 : (Jvm.Cond.instanceMethod ({ cls := "GrownKinds", name := "spelling", desc := "(III)I" } : Jvm.MethodName)) ∈ gT := gT_in (List.mem_of_getElem? (i := 1267) (by decide +kernel)) (by decide +kernel)
theorem wm_54 : Cond.selects "GrownKinds" ⟨"GrownKinds", "spelling", "(III)I"⟩ ⟨"GrownKinds", "spelling", "(III)I"⟩ ∈ gT := gT_in (List.mem_of_getElem? (i := 54) (by decide +kernel)) (by decide +kernel)
theorem wm_1268 : (Jvm.Cond.code ({ cls := "GrownKinds", name := "spelling", desc := "(III)I" } : Jvm.MethodName) prog_1_method_33_code (5 : Nat) (Option.some Jvm.ClassFile.FieldType.int)) ∈ gT := gT_in (List.mem_of_getElem? (i := 1268) (by decide +kernel)) (by decide +kernel)
theorem dX11_length_7 : decode cX11_length 7 = .ok (.istore 4, 2) := by decide +kernel
theorem dX11_length_9 : decode cX11_length 9 = .ok (.iload 4, 2) := by decide +kernel
theorem dX11_length_11 : decode cX11_length 11 = .ok (.ifCond .eq 8, 3) := by decide +kernel
theorem dX11_length_14 : decode cX11_length 14 = .ok (.iload 4, 2) := by decide +kernel
theorem dX11_length_16 : decode cX11_length 16 = .ok (.goto 10, 3) := by decide +kernel
theorem dX11_length_26 : decode cX11_length 26 = .ok (.ireturn, 1) := by decide +kernel
theorem dX11_sign_0 : decode cX11_sign 0 = .ok (.iload 4, 2) := by decide +kernel
theorem dX11_sign_2 : decode cX11_sign 2 = .ok (.ifCond .ge 6, 3) := by decide +kernel
theorem dX11_sign_8 : decode cX11_sign 8 = .ok (.aload_n 0, 1) := by decide +kernel
theorem dX11_sign_9 : decode cX11_sign 9 = .ok (.iload_n 1, 1) := by decide +kernel
theorem dX11_sign_10 : decode cX11_sign 10 = .ok (.iload_n 2, 1) := by decide +kernel
theorem dX11_sign_11 : decode cX11_sign 11 = .ok (.iload_n 3, 1) := by decide +kernel
theorem dX11_sign_12 : decode cX11_sign 12 = .ok (.invokevirtual 259, 3) := by decide +kernel
theorem dX11_sign_15 : decode cX11_sign 15 = .ok (.istore 5, 2) := by decide +kernel
theorem dX11_sign_17 : decode cX11_sign 17 = .ok (.iload 5, 2) := by decide +kernel
theorem dX11_sign_19 : decode cX11_sign 19 = .ok (.ifCond .eq 8, 3) := by decide +kernel
theorem dX11_sign_22 : decode cX11_sign 22 = .ok (.iload 5, 2) := by decide +kernel
theorem dX11_sign_24 : decode cX11_sign 24 = .ok (.goto 12, 3) := by decide +kernel
theorem dX11_sign_36 : decode cX11_sign 36 = .ok (.ireturn, 1) := by decide +kernel
theorem dX11_sign_5 : decode cX11_sign 5 = .ok (.bipush (-2), 2) := by decide +kernel
theorem dX11_sign_7 : decode cX11_sign 7 = .ok (.ireturn, 1) := by decide +kernel
theorem dX11_deep_0 : decode cX11_deep 0 = .ok (.aload_n 0, 1) := by decide +kernel
theorem dX11_deep_1 : decode cX11_deep 1 = .ok (.iload_n 1, 1) := by decide +kernel
theorem dX11_deep_2 : decode cX11_deep 2 = .ok (.iload_n 2, 1) := by decide +kernel
theorem dX11_deep_3 : decode cX11_deep 3 = .ok (.iload_n 3, 1) := by decide +kernel
theorem dX11_deep_4 : decode cX11_deep 4 = .ok (.invokevirtual 259, 3) := by decide +kernel
theorem dX11_deep_7 : decode cX11_deep 7 = .ok (.istore 4, 2) := by decide +kernel
theorem dX11_deep_9 : decode cX11_deep 9 = .ok (.iload 4, 2) := by decide +kernel
theorem dX11_deep_11 : decode cX11_deep 11 = .ok (.ifCond .eq 8, 3) := by decide +kernel
theorem dX11_deep_14 : decode cX11_deep 14 = .ok (.iload 4, 2) := by decide +kernel
theorem dX11_deep_16 : decode cX11_deep 16 = .ok (.goto 10, 3) := by decide +kernel
theorem dX11_deep_26 : decode cX11_deep 26 = .ok (.ireturn, 1) := by decide +kernel
theorem dX11_atoms_0 : decode cX11_atoms 0 = .ok (.iload 4, 2) := by decide +kernel
theorem dX11_atoms_2 : decode cX11_atoms 2 = .ok (.invokestatic 221, 3) := by decide +kernel
theorem wm_1203 : (Jvm.Cond.methodLink "GrownKinds" (221 : Nat) ({ cls := "GrownKinds", name := "lettered", desc := "(I)Z" } : Jvm.MethodName)) ∈ gT := gT_in (List.mem_of_getElem? (i := 1203) (by decide +kernel)) (by decide +kernel)
theorem wm_1204 : (Jvm.Cond.static ({ cls := "GrownKinds", name := "lettered", desc := "(I)Z" } : Jvm.MethodName)) ∈ gT := gT_in (List.mem_of_getElem? (i := 1204) (by decide +kernel)) (by decide +kernel)
theorem wm_1205 : (Jvm.Cond.code ({ cls := "GrownKinds", name := "lettered", desc := "(I)Z" } : Jvm.MethodName) prog_1_method_12_code (1 : Nat) (Option.some Jvm.ClassFile.FieldType.boolean)) ∈ gT := gT_in (List.mem_of_getElem? (i := 1205) (by decide +kernel)) (by decide +kernel)
theorem dX11_atoms_5 : decode cX11_atoms 5 = .ok (.ifCond .ne 6, 3) := by decide +kernel
theorem dX11_atoms_11 : decode cX11_atoms 11 = .ok (.aload_n 0, 1) := by decide +kernel
theorem dX11_atoms_12 : decode cX11_atoms 12 = .ok (.iload_n 1, 1) := by decide +kernel
theorem dX11_atoms_13 : decode cX11_atoms 13 = .ok (.iload_n 2, 1) := by decide +kernel
theorem dX11_atoms_14 : decode cX11_atoms 14 = .ok (.iload_n 3, 1) := by decide +kernel
theorem dX11_atoms_15 : decode cX11_atoms 15 = .ok (.invokevirtual 259, 3) := by decide +kernel
theorem dX11_atoms_18 : decode cX11_atoms 18 = .ok (.istore 5, 2) := by decide +kernel
theorem dX11_atoms_20 : decode cX11_atoms 20 = .ok (.iload 5, 2) := by decide +kernel
theorem dX11_atoms_22 : decode cX11_atoms 22 = .ok (.ifCond .eq 8, 3) := by decide +kernel
theorem dX11_atoms_25 : decode cX11_atoms 25 = .ok (.iload 5, 2) := by decide +kernel
theorem dX11_atoms_27 : decode cX11_atoms 27 = .ok (.goto 13, 3) := by decide +kernel
theorem dX11_atoms_40 : decode cX11_atoms 40 = .ok (.ireturn, 1) := by decide +kernel
theorem dX11_atoms_8 : decode cX11_atoms 8 = .ok (.bipush (-2), 2) := by decide +kernel
theorem dX11_atoms_10 : decode cX11_atoms 10 = .ok (.ireturn, 1) := by decide +kernel
theorem dX11_term_0 : decode cX11_term 0 = .ok (.aload_n 0, 1) := by decide +kernel
theorem dX11_term_1 : decode cX11_term 1 = .ok (.iload_n 1, 1) := by decide +kernel
theorem dX11_term_2 : decode cX11_term 2 = .ok (.iload_n 2, 1) := by decide +kernel
theorem dX11_term_3 : decode cX11_term 3 = .ok (.iload_n 3, 1) := by decide +kernel
theorem dX11_term_4 : decode cX11_term 4 = .ok (.invokevirtual 259, 3) := by decide +kernel
theorem dX11_term_7 : decode cX11_term 7 = .ok (.istore 4, 2) := by decide +kernel
theorem dX11_term_9 : decode cX11_term 9 = .ok (.iload 4, 2) := by decide +kernel
theorem dX11_term_11 : decode cX11_term 11 = .ok (.ifCond .eq 8, 3) := by decide +kernel
theorem dX11_term_14 : decode cX11_term 14 = .ok (.iload 4, 2) := by decide +kernel
theorem dX11_term_16 : decode cX11_term 16 = .ok (.goto 10, 3) := by decide +kernel
theorem dX11_term_26 : decode cX11_term 26 = .ok (.ireturn, 1) := by decide +kernel
theorem dX11_symmetries_0 : decode cX11_symmetries 0 = .ok (.aload_n 0, 1) := by decide +kernel
theorem dX11_symmetries_1 : decode cX11_symmetries 1 = .ok (.iload_n 1, 1) := by decide +kernel
theorem dX11_symmetries_2 : decode cX11_symmetries 2 = .ok (.iload_n 2, 1) := by decide +kernel
theorem dX11_symmetries_3 : decode cX11_symmetries 3 = .ok (.iload_n 3, 1) := by decide +kernel
theorem dX11_symmetries_4 : decode cX11_symmetries 4 = .ok (.invokevirtual 259, 3) := by decide +kernel
theorem dX11_symmetries_7 : decode cX11_symmetries 7 = .ok (.istore 4, 2) := by decide +kernel
theorem dX11_symmetries_9 : decode cX11_symmetries 9 = .ok (.iload 4, 2) := by decide +kernel
theorem dX11_symmetries_11 : decode cX11_symmetries 11 = .ok (.ifCond .eq 8, 3) := by decide +kernel
theorem dX11_symmetries_14 : decode cX11_symmetries 14 = .ok (.iload 4, 2) := by decide +kernel
theorem dX11_symmetries_16 : decode cX11_symmetries 16 = .ok (.goto 10, 3) := by decide +kernel
theorem dX11_symmetries_26 : decode cX11_symmetries 26 = .ok (.ireturn, 1) := by decide +kernel
theorem dX11_labels_0 : decode cX11_labels 0 = .ok (.aload_n 0, 1) := by decide +kernel
theorem dX11_labels_1 : decode cX11_labels 1 = .ok (.iload_n 1, 1) := by decide +kernel
theorem dX11_labels_2 : decode cX11_labels 2 = .ok (.iload_n 2, 1) := by decide +kernel
theorem dX11_labels_3 : decode cX11_labels 3 = .ok (.iload_n 3, 1) := by decide +kernel
theorem dX11_labels_4 : decode cX11_labels 4 = .ok (.invokevirtual 259, 3) := by decide +kernel
theorem dX11_labels_7 : decode cX11_labels 7 = .ok (.istore 4, 2) := by decide +kernel
theorem dX11_labels_9 : decode cX11_labels 9 = .ok (.iload 4, 2) := by decide +kernel
theorem dX11_labels_11 : decode cX11_labels 11 = .ok (.ifCond .eq 6, 3) := by decide +kernel
theorem dX11_labels_14 : decode cX11_labels 14 = .ok (.iload 4, 2) := by decide +kernel
theorem dX11_labels_16 : decode cX11_labels 16 = .ok (.ireturn, 1) := by decide +kernel
theorem dX11_tells_0 : decode cX11_tells 0 = .ok (.aload_n 0, 1) := by decide +kernel
theorem dX11_tells_1 : decode cX11_tells 1 = .ok (.iload_n 1, 1) := by decide +kernel
theorem dX11_tells_2 : decode cX11_tells 2 = .ok (.invokevirtual 168, 3) := by decide +kernel
theorem dX11_tells_5 : decode cX11_tells 5 = .ok (.ifCond .ne 6, 3) := by decide +kernel
theorem dX11_tells_8 : decode cX11_tells 8 = .ok (.bipush (-2), 2) := by decide +kernel
theorem dX11_tells_10 : decode cX11_tells 10 = .ok (.ireturn, 1) := by decide +kernel
theorem dX11_shared_0 : decode cX11_shared 0 = .ok (.aload_n 0, 1) := by decide +kernel
theorem dX11_shared_1 : decode cX11_shared 1 = .ok (.iload_n 2, 1) := by decide +kernel
theorem dX11_shared_2 : decode cX11_shared 2 = .ok (.invokevirtual 168, 3) := by decide +kernel
theorem dX11_shared_5 : decode cX11_shared 5 = .ok (.ifCond .ne 6, 3) := by decide +kernel
theorem dX11_shared_8 : decode cX11_shared 8 = .ok (.bipush (-2), 2) := by decide +kernel
theorem dX11_shared_10 : decode cX11_shared 10 = .ok (.ireturn, 1) := by decide +kernel
theorem dX11_deepest_0 : decode cX11_deepest 0 = .ok (.aload_n 0, 1) := by decide +kernel
theorem dX11_deepest_1 : decode cX11_deepest 1 = .ok (.iload_n 1, 1) := by decide +kernel
theorem dX11_deepest_2 : decode cX11_deepest 2 = .ok (.iload_n 2, 1) := by decide +kernel
theorem dX11_deepest_3 : decode cX11_deepest 3 = .ok (.invokevirtual 315, 3) := by decide +kernel
theorem wm_1543 : (Jvm.Cond.methodLink "GrownKinds" (315 : Nat) ({ cls := "GrownKinds", name := "rolling", desc := "(II)I" } : Jvm.MethodName)) ∈ gT := gT_in (List.mem_of_getElem? (i := 1543) (by decide +kernel)) (by decide +kernel)
theorem wm_1545 : (Jvm.Cond.instanceMethod ({ cls := "GrownKinds", name := "rolling", desc := "(II)I" } : Jvm.MethodName)) ∈ gT := gT_in (List.mem_of_getElem? (i := 1545) (by decide +kernel)) (by decide +kernel)
theorem wm_82 : Cond.selects "GrownKinds" ⟨"GrownKinds", "rolling", "(II)I"⟩ ⟨"GrownKinds", "rolling", "(II)I"⟩ ∈ gT := gT_in (List.mem_of_getElem? (i := 82) (by decide +kernel)) (by decide +kernel)
theorem wm_1546 : (Jvm.Cond.code ({ cls := "GrownKinds", name := "rolling", desc := "(II)I" } : Jvm.MethodName) prog_1_method_45_code (7 : Nat) (Option.some Jvm.ClassFile.FieldType.int)) ∈ gT := gT_in (List.mem_of_getElem? (i := 1546) (by decide +kernel)) (by decide +kernel)
theorem dX11_deepest_6 : decode cX11_deepest 6 = .ok (.istore_n 3, 1) := by decide +kernel
theorem dX11_deepest_7 : decode cX11_deepest 7 = .ok (.iload_n 3, 1) := by decide +kernel
theorem dX11_deepest_8 : decode cX11_deepest 8 = .ok (.ifCond .eq 7, 3) := by decide +kernel
theorem dX11_deepest_11 : decode cX11_deepest 11 = .ok (.iload_n 3, 1) := by decide +kernel
theorem dX11_deepest_12 : decode cX11_deepest 12 = .ok (.goto 17, 3) := by decide +kernel
theorem dX11_deepest_29 : decode cX11_deepest 29 = .ok (.ireturn, 1) := by decide +kernel
theorem dX11_fullest_0 : decode cX11_fullest 0 = .ok (.iload_n 3, 1) := by decide +kernel
theorem dX11_fullest_1 : decode cX11_fullest 1 = .ok (.invokestatic 221, 3) := by decide +kernel
theorem dX11_fullest_4 : decode cX11_fullest 4 = .ok (.ifCond .ne 6, 3) := by decide +kernel
theorem dX11_fullest_10 : decode cX11_fullest 10 = .ok (.aload_n 0, 1) := by decide +kernel
theorem dX11_fullest_11 : decode cX11_fullest 11 = .ok (.iload_n 1, 1) := by decide +kernel
theorem dX11_fullest_12 : decode cX11_fullest 12 = .ok (.iload_n 2, 1) := by decide +kernel
theorem dX11_fullest_13 : decode cX11_fullest 13 = .ok (.invokevirtual 315, 3) := by decide +kernel
theorem dX11_fullest_16 : decode cX11_fullest 16 = .ok (.istore 4, 2) := by decide +kernel
theorem dX11_fullest_18 : decode cX11_fullest 18 = .ok (.iload 4, 2) := by decide +kernel
theorem dX11_fullest_20 : decode cX11_fullest 20 = .ok (.ifCond .eq 8, 3) := by decide +kernel
theorem dX11_fullest_23 : decode cX11_fullest 23 = .ok (.iload 4, 2) := by decide +kernel
theorem dX11_fullest_25 : decode cX11_fullest 25 = .ok (.goto 22, 3) := by decide +kernel
theorem dX11_fullest_47 : decode cX11_fullest 47 = .ok (.ireturn, 1) := by decide +kernel
theorem dX11_fullest_7 : decode cX11_fullest 7 = .ok (.bipush (-2), 2) := by decide +kernel
theorem dX11_fullest_9 : decode cX11_fullest 9 = .ok (.ireturn, 1) := by decide +kernel
theorem dX11_stiffest_0 : decode cX11_stiffest 0 = .ok (.aload_n 0, 1) := by decide +kernel
theorem dX11_stiffest_1 : decode cX11_stiffest 1 = .ok (.iload_n 1, 1) := by decide +kernel
theorem dX11_stiffest_2 : decode cX11_stiffest 2 = .ok (.iload_n 2, 1) := by decide +kernel
theorem dX11_stiffest_3 : decode cX11_stiffest 3 = .ok (.invokevirtual 315, 3) := by decide +kernel
theorem dX11_stiffest_6 : decode cX11_stiffest 6 = .ok (.istore_n 3, 1) := by decide +kernel
theorem dX11_stiffest_7 : decode cX11_stiffest 7 = .ok (.iload_n 3, 1) := by decide +kernel
theorem dX11_stiffest_8 : decode cX11_stiffest 8 = .ok (.ifCond .eq 7, 3) := by decide +kernel
theorem dX11_stiffest_11 : decode cX11_stiffest 11 = .ok (.iload_n 3, 1) := by decide +kernel
theorem dX11_stiffest_12 : decode cX11_stiffest 12 = .ok (.goto 17, 3) := by decide +kernel
theorem dX11_stiffest_29 : decode cX11_stiffest 29 = .ok (.ireturn, 1) := by decide +kernel
theorem dX11_chance_0 : decode cX11_chance 0 = .ok (.aload_n 0, 1) := by decide +kernel
theorem dX11_chance_1 : decode cX11_chance 1 = .ok (.iload_n 1, 1) := by decide +kernel
theorem dX11_chance_2 : decode cX11_chance 2 = .ok (.iload_n 3, 1) := by decide +kernel
theorem dX11_chance_3 : decode cX11_chance 3 = .ok (.invokevirtual 228, 3) := by decide +kernel
theorem dX11_chance_6 : decode cX11_chance 6 = .ok (.ifCond .eq 14, 3) := by decide +kernel
theorem dX11_chance_20 : decode cX11_chance 20 = .ok (.bipush (-2), 2) := by decide +kernel
theorem dX11_chance_22 : decode cX11_chance 22 = .ok (.ireturn, 1) := by decide +kernel
theorem dX11_mean_0 : decode cX11_mean 0 = .ok (.iload_n 3, 1) := by decide +kernel
theorem dX11_mean_1 : decode cX11_mean 1 = .ok (.invokestatic 221, 3) := by decide +kernel
theorem dX11_mean_4 : decode cX11_mean 4 = .ok (.ifCond .eq 14, 3) := by decide +kernel
theorem dX11_mean_18 : decode cX11_mean 18 = .ok (.bipush (-2), 2) := by decide +kernel
theorem dX11_mean_20 : decode cX11_mean 20 = .ok (.ireturn, 1) := by decide +kernel
theorem dX11_mean_7 : decode cX11_mean 7 = .ok (.iload 4, 2) := by decide +kernel
theorem dX11_mean_9 : decode cX11_mean 9 = .ok (.ifCond .lt 9, 3) := by decide +kernel
theorem dX11_mean_12 : decode cX11_mean 12 = .ok (.iload 4, 2) := by decide +kernel
theorem dX11_mean_14 : decode cX11_mean 14 = .ok (.iconst 1, 1) := by decide +kernel
theorem dX11_mean_15 : decode cX11_mean 15 = .ok (.if_icmp .le 6, 3) := by decide +kernel
theorem dX11_mean_21 : decode cX11_mean 21 = .ok (.aload_n 0, 1) := by decide +kernel
theorem dX11_mean_22 : decode cX11_mean 22 = .ok (.iload_n 1, 1) := by decide +kernel
theorem dX11_mean_23 : decode cX11_mean 23 = .ok (.iload_n 2, 1) := by decide +kernel
theorem dX11_mean_24 : decode cX11_mean 24 = .ok (.invokevirtual 315, 3) := by decide +kernel
theorem dX11_mean_27 : decode cX11_mean 27 = .ok (.istore 5, 2) := by decide +kernel
theorem dX11_mean_29 : decode cX11_mean 29 = .ok (.iload 5, 2) := by decide +kernel
theorem dX11_mean_31 : decode cX11_mean 31 = .ok (.ifCond .eq 6, 3) := by decide +kernel
theorem dX11_mean_34 : decode cX11_mean 34 = .ok (.iload 5, 2) := by decide +kernel
theorem dX11_mean_36 : decode cX11_mean 36 = .ok (.ireturn, 1) := by decide +kernel
theorem dX11_bits_0 : decode cX11_bits 0 = .ok (.aload_n 0, 1) := by decide +kernel
theorem dX11_bits_1 : decode cX11_bits 1 = .ok (.iload_n 1, 1) := by decide +kernel
theorem dX11_bits_2 : decode cX11_bits 2 = .ok (.iload_n 2, 1) := by decide +kernel
theorem dX11_bits_3 : decode cX11_bits 3 = .ok (.iload_n 3, 1) := by decide +kernel
theorem dX11_bits_4 : decode cX11_bits 4 = .ok (.invokevirtual 333, 3) := by decide +kernel
theorem dX11_bits_7 : decode cX11_bits 7 = .ok (.ifCond .ne 6, 3) := by decide +kernel
theorem dX11_bits_10 : decode cX11_bits 10 = .ok (.bipush (-2), 2) := by decide +kernel
theorem dX11_bits_12 : decode cX11_bits 12 = .ok (.ireturn, 1) := by decide +kernel
theorem dX11_drawn_0 : decode cX11_drawn 0 = .ok (.aload_n 0, 1) := by decide +kernel
theorem dX11_drawn_1 : decode cX11_drawn 1 = .ok (.iload_n 1, 1) := by decide +kernel
theorem dX11_drawn_2 : decode cX11_drawn 2 = .ok (.iload_n 2, 1) := by decide +kernel
theorem dX11_drawn_3 : decode cX11_drawn 3 = .ok (.iload_n 3, 1) := by decide +kernel
theorem dX11_drawn_4 : decode cX11_drawn 4 = .ok (.invokevirtual 333, 3) := by decide +kernel
theorem dX11_drawn_7 : decode cX11_drawn 7 = .ok (.ifCond .eq 27, 3) := by decide +kernel
theorem dX11_drawn_34 : decode cX11_drawn 34 = .ok (.bipush (-2), 2) := by decide +kernel
theorem dX11_drawn_36 : decode cX11_drawn 36 = .ok (.ireturn, 1) := by decide +kernel
theorem dX11_deal_0 : decode cX11_deal 0 = .ok (.aload_n 0, 1) := by decide +kernel
theorem dX11_deal_1 : decode cX11_deal 1 = .ok (.iload_n 1, 1) := by decide +kernel
theorem dX11_deal_2 : decode cX11_deal 2 = .ok (.iload_n 2, 1) := by decide +kernel
theorem dX11_deal_3 : decode cX11_deal 3 = .ok (.iload_n 3, 1) := by decide +kernel
theorem dX11_deal_4 : decode cX11_deal 4 = .ok (.invokevirtual 333, 3) := by decide +kernel
theorem dX11_deal_7 : decode cX11_deal 7 = .ok (.ifCond .eq 16, 3) := by decide +kernel
theorem dX11_deal_23 : decode cX11_deal 23 = .ok (.bipush (-2), 2) := by decide +kernel
theorem dX11_deal_25 : decode cX11_deal 25 = .ok (.ireturn, 1) := by decide +kernel
theorem dX11_takes_0 : decode cX11_takes 0 = .ok (.aload_n 0, 1) := by decide +kernel
theorem dX11_takes_1 : decode cX11_takes 1 = .ok (.iload_n 1, 1) := by decide +kernel
theorem dX11_takes_2 : decode cX11_takes 2 = .ok (.iload_n 2, 1) := by decide +kernel
theorem dX11_takes_3 : decode cX11_takes 3 = .ok (.invokevirtual 228, 3) := by decide +kernel
theorem dX11_takes_6 : decode cX11_takes 6 = .ok (.ifCond .ne 6, 3) := by decide +kernel
theorem dX11_takes_9 : decode cX11_takes 9 = .ok (.bipush (-2), 2) := by decide +kernel
theorem dX11_takes_11 : decode cX11_takes 11 = .ok (.ireturn, 1) := by decide +kernel
theorem dX11_undo_0 : decode cX11_undo 0 = .ok (.aload_n 0, 1) := by decide +kernel
theorem dX11_undo_1 : decode cX11_undo 1 = .ok (.getfield 20, 3) := by decide +kernel
theorem dX11_undo_4 : decode cX11_undo 4 = .ok (.getfield 165, 3) := by decide +kernel
theorem dX11_undo_7 : decode cX11_undo 7 = .ok (.ifCond .ne 6, 3) := by decide +kernel
theorem dX11_undo_10 : decode cX11_undo 10 = .ok (.bipush (-2), 2) := by decide +kernel
theorem dX11_undo_12 : decode cX11_undo 12 = .ok (.ireturn, 1) := by decide +kernel
theorem dX11_anew_0 : decode cX11_anew 0 = .ok (.aload_n 0, 1) := by decide +kernel
theorem dX11_anew_1 : decode cX11_anew 1 = .ok (.getfield 20, 3) := by decide +kernel
theorem dX11_anew_4 : decode cX11_anew 4 = .ok (.getfield 165, 3) := by decide +kernel
theorem dX11_anew_7 : decode cX11_anew 7 = .ok (.ifCond .ne 6, 3) := by decide +kernel
theorem dX11_anew_10 : decode cX11_anew 10 = .ok (.bipush (-2), 2) := by decide +kernel
theorem dX11_anew_12 : decode cX11_anew 12 = .ok (.ireturn, 1) := by decide +kernel
theorem dX1_next_0 : decode cX1_next 0 = .ok (.aload_n 0, 1) := by decide +kernel
theorem dX1_next_1 : decode cX1_next 1 = .ok (.getfield 9, 3) := by decide +kernel
theorem dX1_next_4 : decode cX1_next 4 = .ok (.ifCond .ne 5, 3) := by decide +kernel
theorem dX1_next_7 : decode cX1_next 7 = .ok (.iconst (-1), 1) := by decide +kernel
theorem dX1_next_8 : decode cX1_next 8 = .ok (.ireturn, 1) := by decide +kernel
theorem dX11_dealt_0 : decode cX11_dealt 0 = .ok (.aload_n 0, 1) := by decide +kernel
theorem dX11_dealt_1 : decode cX11_dealt 1 = .ok (.getfield 97, 3) := by decide +kernel
theorem dX11_dealt_4 : decode cX11_dealt 4 = .ok (.invokevirtual 361, 3) := by decide +kernel
theorem wm_1627 : (Jvm.Cond.methodLink "GrownKinds" (361 : Nat) ({ cls := "GrownKinds$Dealer", name := "next", desc := "()I" } : Jvm.MethodName)) ∈ gT := gT_in (List.mem_of_getElem? (i := 1627) (by decide +kernel)) (by decide +kernel)
theorem wm_1628 : (Jvm.Cond.instanceMethod ({ cls := "GrownKinds$Dealer", name := "next", desc := "()I" } : Jvm.MethodName)) ∈ gT := gT_in (List.mem_of_getElem? (i := 1628) (by decide +kernel)) (by decide +kernel)
theorem wm_1629 : (Jvm.Cond.selects "GrownKinds$Dealer" ({ cls := "GrownKinds$Dealer", name := "next", desc := "()I" } : Jvm.MethodName) ({ cls := "GrownKinds$Dealer", name := "next", desc := "()I" } : Jvm.MethodName)) ∈ gT := gT_in (List.mem_of_getElem? (i := 1629) (by decide +kernel)) (by decide +kernel)
theorem wm_1630 : (Jvm.Cond.code ({ cls := "GrownKinds$Dealer", name := "next", desc := "()I" } : Jvm.MethodName) prog_3_method_6_code (2 : Nat) (Option.some Jvm.ClassFile.FieldType.int)) ∈ gT := gT_in (List.mem_of_getElem? (i := 1630) (by decide +kernel)) (by decide +kernel)
theorem dX11_dealt_7 : decode cX11_dealt 7 = .ok (.ireturn, 1) := by decide +kernel
theorem dX11_left_0 : decode cX11_left 0 = .ok (.aload_n 0, 1) := by decide +kernel
theorem dX11_left_1 : decode cX11_left 1 = .ok (.getfield 97, 3) := by decide +kernel
theorem dX11_left_4 : decode cX11_left 4 = .ok (.getfield 365, 3) := by decide +kernel
theorem wm_645 : (Jvm.Cond.fieldLink "GrownKinds" (365 : Nat) "GrownKinds$Dealer" "leftOver" "I") ∈ gT := gT_in (List.mem_of_getElem? (i := 645) (by decide +kernel)) (by decide +kernel)
theorem dX11_left_7 : decode cX11_left 7 = .ok (.ireturn, 1) := by decide +kernel
theorem dX12_isKind_0 : decode cX12_isKind 0 = .ok (.iload_n 1, 1) := by decide +kernel
theorem dX12_isKind_1 : decode cX12_isKind 1 = .ok (.i2l, 1) := by decide +kernel
theorem dX12_isKind_2 : decode cX12_isKind 2 = .ok (.lconst 0, 1) := by decide +kernel
theorem dX12_isKind_3 : decode cX12_isKind 3 = .ok (.aload_n 0, 1) := by decide +kernel
theorem dX12_isKind_4 : decode cX12_isKind 4 = .ok (.getfield 15, 3) := by decide +kernel
theorem dX12_isKind_7 : decode cX12_isKind 7 = .ok (.iconst 0, 1) := by decide +kernel
theorem dX12_isKind_8 : decode cX12_isKind 8 = .ok (.iaload, 1) := by decide +kernel
theorem dX12_isKind_9 : decode cX12_isKind 9 = .ok (.iconst 1, 1) := by decide +kernel
theorem dX12_isKind_10 : decode cX12_isKind 10 = .ok (.isub, 1) := by decide +kernel
theorem dX12_isKind_11 : decode cX12_isKind 11 = .ok (.i2l, 1) := by decide +kernel
theorem dX12_isKind_12 : decode cX12_isKind 12 = .ok (.invokestatic 97, 3) := by decide +kernel
theorem wm_1839 : (Jvm.Cond.methodLink "GrownKindsModel" (97 : Nat) ({ cls := "GrownKindsModel", name := "in", desc := "(JJJ)Z" } : Jvm.MethodName)) ∈ gT := gT_in (List.mem_of_getElem? (i := 1839) (by decide +kernel)) (by decide +kernel)
theorem wm_1840 : (Jvm.Cond.static ({ cls := "GrownKindsModel", name := "in", desc := "(JJJ)Z" } : Jvm.MethodName)) ∈ gT := gT_in (List.mem_of_getElem? (i := 1840) (by decide +kernel)) (by decide +kernel)
theorem wm_1841 : (Jvm.Cond.code ({ cls := "GrownKindsModel", name := "in", desc := "(JJJ)Z" } : Jvm.MethodName) prog_14_method_1_code (6 : Nat) (Option.some Jvm.ClassFile.FieldType.boolean)) ∈ gT := gT_in (List.mem_of_getElem? (i := 1841) (by decide +kernel)) (by decide +kernel)
theorem dX12_isKind_15 : decode cX12_isKind 15 = .ok (.ireturn, 1) := by decide +kernel
theorem dX12_isTerm_0 : decode cX12_isTerm 0 = .ok (.aload_n 0, 1) := by decide +kernel
theorem dX12_isTerm_1 : decode cX12_isTerm 1 = .ok (.iload_n 1, 1) := by decide +kernel
theorem dX12_isTerm_2 : decode cX12_isTerm 2 = .ok (.invokevirtual 225, 3) := by decide +kernel
theorem wm_1982 : (Jvm.Cond.methodLink "GrownKindsModel" (225 : Nat) ({ cls := "GrownKindsModel", name := "isKind", desc := "(I)Z" } : Jvm.MethodName)) ∈ gT := gT_in (List.mem_of_getElem? (i := 1982) (by decide +kernel)) (by decide +kernel)
theorem wm_1984 : (Jvm.Cond.instanceMethod ({ cls := "GrownKindsModel", name := "isKind", desc := "(I)Z" } : Jvm.MethodName)) ∈ gT := gT_in (List.mem_of_getElem? (i := 1984) (by decide +kernel)) (by decide +kernel)
theorem wm_112 : Cond.selects "GrownKindsModel" ⟨"GrownKindsModel", "isKind", "(I)Z"⟩ ⟨"GrownKindsModel", "isKind", "(I)Z"⟩ ∈ gT := gT_in (List.mem_of_getElem? (i := 112) (by decide +kernel)) (by decide +kernel)
theorem wm_1985 : (Jvm.Cond.code ({ cls := "GrownKindsModel", name := "isKind", desc := "(I)Z" } : Jvm.MethodName) prog_14_method_30_code (2 : Nat) (Option.some Jvm.ClassFile.FieldType.boolean)) ∈ gT := gT_in (List.mem_of_getElem? (i := 1985) (by decide +kernel)) (by decide +kernel)
theorem dX12_isTerm_5 : decode cX12_isTerm 5 = .ok (.ifCond .eq 29, 3) := by decide +kernel
theorem dX12_isTerm_34 : decode cX12_isTerm 34 = .ok (.iconst 0, 1) := by decide +kernel
theorem dX12_isTerm_35 : decode cX12_isTerm 35 = .ok (.ireturn, 1) := by decide +kernel
theorem dX12_terms_0 : decode cX12_terms 0 = .ok (.aload_n 0, 1) := by decide +kernel
theorem dX12_terms_1 : decode cX12_terms 1 = .ok (.iload_n 1, 1) := by decide +kernel
theorem dX12_terms_2 : decode cX12_terms 2 = .ok (.invokevirtual 225, 3) := by decide +kernel
theorem dX12_terms_5 : decode cX12_terms 5 = .ok (.ifCond .eq 16, 3) := by decide +kernel
theorem dX12_terms_21 : decode cX12_terms 21 = .ok (.bipush (-2), 2) := by decide +kernel
theorem dX12_terms_23 : decode cX12_terms 23 = .ok (.ireturn, 1) := by decide +kernel
theorem dX12_off_0 : decode cX12_off 0 = .ok (.aload_n 0, 1) := by decide +kernel
theorem dX12_off_1 : decode cX12_off 1 = .ok (.iload_n 1, 1) := by decide +kernel
theorem dX12_off_2 : decode cX12_off 2 = .ok (.invokevirtual 225, 3) := by decide +kernel
theorem dX12_off_5 : decode cX12_off 5 = .ok (.ifCond .eq 15, 3) := by decide +kernel
theorem dX12_off_20 : decode cX12_off 20 = .ok (.bipush (-2), 2) := by decide +kernel
theorem dX12_off_22 : decode cX12_off 22 = .ok (.ireturn, 1) := by decide +kernel
theorem dX12_letters_0 : decode cX12_letters 0 = .ok (.aload_n 0, 1) := by decide +kernel
theorem dX12_letters_1 : decode cX12_letters 1 = .ok (.iload_n 1, 1) := by decide +kernel
theorem dX12_letters_2 : decode cX12_letters 2 = .ok (.invokevirtual 225, 3) := by decide +kernel
theorem dX12_letters_5 : decode cX12_letters 5 = .ok (.ifCond .eq 12, 3) := by decide +kernel
theorem dX12_letters_17 : decode cX12_letters 17 = .ok (.bipush (-2), 2) := by decide +kernel
theorem dX12_letters_19 : decode cX12_letters 19 = .ok (.ireturn, 1) := by decide +kernel
theorem dX12_uses_0 : decode cX12_uses 0 = .ok (.aload_n 0, 1) := by decide +kernel
theorem dX12_uses_1 : decode cX12_uses 1 = .ok (.iload_n 1, 1) := by decide +kernel
theorem dX12_uses_2 : decode cX12_uses 2 = .ok (.invokevirtual 225, 3) := by decide +kernel
theorem dX12_uses_5 : decode cX12_uses 5 = .ok (.ifCond .eq 12, 3) := by decide +kernel
theorem dX12_uses_17 : decode cX12_uses 17 = .ok (.bipush (-2), 2) := by decide +kernel
theorem dX12_uses_19 : decode cX12_uses 19 = .ok (.ireturn, 1) := by decide +kernel
theorem dX12_reaches_0 : decode cX12_reaches 0 = .ok (.aload_n 0, 1) := by decide +kernel
theorem dX12_reaches_1 : decode cX12_reaches 1 = .ok (.iload_n 1, 1) := by decide +kernel
theorem dX12_reaches_2 : decode cX12_reaches 2 = .ok (.invokevirtual 225, 3) := by decide +kernel
theorem dX12_reaches_5 : decode cX12_reaches 5 = .ok (.ifCond .ne 6, 3) := by decide +kernel
theorem dX12_reaches_8 : decode cX12_reaches 8 = .ok (.bipush (-2), 2) := by decide +kernel
theorem dX12_reaches_10 : decode cX12_reaches 10 = .ok (.ireturn, 1) := by decide +kernel
theorem dX12_empty_0 : decode cX12_empty 0 = .ok (.aload_n 0, 1) := by decide +kernel
theorem dX12_empty_1 : decode cX12_empty 1 = .ok (.iload_n 1, 1) := by decide +kernel
theorem dX12_empty_2 : decode cX12_empty 2 = .ok (.invokevirtual 225, 3) := by decide +kernel
theorem dX12_empty_5 : decode cX12_empty 5 = .ok (.ifCond .ne 6, 3) := by decide +kernel
theorem dX12_empty_8 : decode cX12_empty 8 = .ok (.bipush (-2), 2) := by decide +kernel
theorem dX12_empty_10 : decode cX12_empty 10 = .ok (.ireturn, 1) := by decide +kernel
theorem dX12_leans_0 : decode cX12_leans 0 = .ok (.aload_n 0, 1) := by decide +kernel
theorem dX12_leans_1 : decode cX12_leans 1 = .ok (.iload_n 1, 1) := by decide +kernel
theorem dX12_leans_2 : decode cX12_leans 2 = .ok (.invokevirtual 225, 3) := by decide +kernel
theorem dX12_leans_5 : decode cX12_leans 5 = .ok (.ifCond .ne 6, 3) := by decide +kernel
theorem dX12_leans_8 : decode cX12_leans 8 = .ok (.bipush (-2), 2) := by decide +kernel
theorem dX12_leans_10 : decode cX12_leans 10 = .ok (.ireturn, 1) := by decide +kernel
theorem dX12_blank_0 : decode cX12_blank 0 = .ok (.aload_n 0, 1) := by decide +kernel
theorem dX12_blank_1 : decode cX12_blank 1 = .ok (.getfield 15, 3) := by decide +kernel
theorem dX12_blank_4 : decode cX12_blank 4 = .ok (.iconst 3, 1) := by decide +kernel
theorem dX12_blank_5 : decode cX12_blank 5 = .ok (.iaload, 1) := by decide +kernel
theorem dX12_blank_6 : decode cX12_blank 6 = .ok (.ifCond .ne 6, 3) := by decide +kernel
theorem dX12_blank_9 : decode cX12_blank 9 = .ok (.bipush (-2), 2) := by decide +kernel
theorem dX12_blank_11 : decode cX12_blank 11 = .ok (.ireturn, 1) := by decide +kernel
theorem dX12_things_0 : decode cX12_things 0 = .ok (.aload_n 0, 1) := by decide +kernel
theorem dX12_things_1 : decode cX12_things 1 = .ok (.iload_n 1, 1) := by decide +kernel
theorem dX12_things_2 : decode cX12_things 2 = .ok (.invokevirtual 225, 3) := by decide +kernel
theorem dX12_things_5 : decode cX12_things 5 = .ok (.ifCond .eq 11, 3) := by decide +kernel
theorem dX12_things_16 : decode cX12_things 16 = .ok (.ldc2_w 337, 3) := by decide +kernel
theorem wm_2101 : (Jvm.Cond.constantLong "GrownKindsModel" (337 : Nat) (-2 : Int64)) ∈ gT := gT_in (List.mem_of_getElem? (i := 2101) (by decide +kernel)) (by decide +kernel)
theorem dX12_things_19 : decode cX12_things 19 = .ok (.lreturn, 1) := by decide +kernel
theorem dX12_upto_0 : decode cX12_upto 0 = .ok (.aload_n 0, 1) := by decide +kernel
theorem dX12_upto_1 : decode cX12_upto 1 = .ok (.iload_n 1, 1) := by decide +kernel
theorem dX12_upto_2 : decode cX12_upto 2 = .ok (.invokevirtual 225, 3) := by decide +kernel
theorem dX12_upto_5 : decode cX12_upto 5 = .ok (.ifCond .eq 11, 3) := by decide +kernel
theorem dX12_upto_16 : decode cX12_upto 16 = .ok (.ldc2_w 337, 3) := by decide +kernel
theorem dX12_upto_19 : decode cX12_upto 19 = .ok (.lreturn, 1) := by decide +kernel
theorem dX12_labelled_0 : decode cX12_labelled 0 = .ok (.aload_n 0, 1) := by decide +kernel
theorem dX12_labelled_1 : decode cX12_labelled 1 = .ok (.iload_n 1, 1) := by decide +kernel
theorem dX12_labelled_2 : decode cX12_labelled 2 = .ok (.invokevirtual 225, 3) := by decide +kernel
theorem dX12_labelled_5 : decode cX12_labelled 5 = .ok (.ifCond .eq 11, 3) := by decide +kernel
theorem dX12_labelled_16 : decode cX12_labelled 16 = .ok (.ldc2_w 337, 3) := by decide +kernel
theorem dX12_labelled_19 : decode cX12_labelled 19 = .ok (.lreturn, 1) := by decide +kernel
theorem dX12_first_0 : decode cX12_first 0 = .ok (.aload_n 0, 1) := by decide +kernel
theorem dX12_first_1 : decode cX12_first 1 = .ok (.iload_n 1, 1) := by decide +kernel
theorem dX12_first_2 : decode cX12_first 2 = .ok (.invokevirtual 225, 3) := by decide +kernel
theorem dX12_first_5 : decode cX12_first 5 = .ok (.ifCond .eq 14, 3) := by decide +kernel
theorem dX12_first_19 : decode cX12_first 19 = .ok (.bipush (-2), 2) := by decide +kernel
theorem dX12_first_21 : decode cX12_first 21 = .ok (.ireturn, 1) := by decide +kernel
theorem dX12_least_0 : decode cX12_least 0 = .ok (.aload_n 0, 1) := by decide +kernel
theorem dX12_least_1 : decode cX12_least 1 = .ok (.iload_n 1, 1) := by decide +kernel
theorem dX12_least_2 : decode cX12_least 2 = .ok (.lconst 1, 1) := by decide +kernel
theorem dX12_least_3 : decode cX12_least 3 = .ok (.invokevirtual 330, 3) := by decide +kernel
theorem wm_2089 : (Jvm.Cond.methodLink "GrownKindsModel" (330 : Nat) ({ cls := "GrownKindsModel", name := "first", desc := "(IJ)I" } : Jvm.MethodName)) ∈ gT := gT_in (List.mem_of_getElem? (i := 2089) (by decide +kernel)) (by decide +kernel)
theorem wm_2090 : (Jvm.Cond.instanceMethod ({ cls := "GrownKindsModel", name := "first", desc := "(IJ)I" } : Jvm.MethodName)) ∈ gT := gT_in (List.mem_of_getElem? (i := 2090) (by decide +kernel)) (by decide +kernel)
theorem wm_2091 : (Jvm.Cond.selects "GrownKindsModel" ({ cls := "GrownKindsModel", name := "first", desc := "(IJ)I" } : Jvm.MethodName) ({ cls := "GrownKindsModel", name := "first", desc := "(IJ)I" } : Jvm.MethodName)) ∈ gT := gT_in (List.mem_of_getElem? (i := 2091) (by decide +kernel)) (by decide +kernel)
theorem wm_2092 : (Jvm.Cond.code ({ cls := "GrownKindsModel", name := "first", desc := "(IJ)I" } : Jvm.MethodName) prog_14_method_69_code (5 : Nat) (Option.some Jvm.ClassFile.FieldType.int)) ∈ gT := gT_in (List.mem_of_getElem? (i := 2092) (by decide +kernel)) (by decide +kernel)
theorem dX12_least_6 : decode cX12_least 6 = .ok (.ireturn, 1) := by decide +kernel
theorem dX12_marked_0 : decode cX12_marked 0 = .ok (.aload_n 0, 1) := by decide +kernel
theorem dX12_marked_1 : decode cX12_marked 1 = .ok (.iload_n 1, 1) := by decide +kernel
theorem dX12_marked_2 : decode cX12_marked 2 = .ok (.invokevirtual 225, 3) := by decide +kernel
theorem dX12_marked_5 : decode cX12_marked 5 = .ok (.ifCond .eq 36, 3) := by decide +kernel
theorem dX12_marked_41 : decode cX12_marked 41 = .ok (.ldc2_w 337, 3) := by decide +kernel
theorem dX12_marked_44 : decode cX12_marked 44 = .ok (.lreturn, 1) := by decide +kernel
theorem dX12_by_0 : decode cX12_by 0 = .ok (.aload_n 0, 1) := by decide +kernel
theorem dX12_by_1 : decode cX12_by 1 = .ok (.iload_n 1, 1) := by decide +kernel
theorem dX12_by_2 : decode cX12_by 2 = .ok (.iload_n 3, 1) := by decide +kernel
theorem dX12_by_3 : decode cX12_by 3 = .ok (.invokevirtual 344, 3) := by decide +kernel
theorem wm_2116 : (Jvm.Cond.methodLink "GrownKindsModel" (344 : Nat) ({ cls := "GrownKindsModel", name := "isTerm", desc := "(II)Z" } : Jvm.MethodName)) ∈ gT := gT_in (List.mem_of_getElem? (i := 2116) (by decide +kernel)) (by decide +kernel)
theorem wm_2118 : (Jvm.Cond.instanceMethod ({ cls := "GrownKindsModel", name := "isTerm", desc := "(II)Z" } : Jvm.MethodName)) ∈ gT := gT_in (List.mem_of_getElem? (i := 2118) (by decide +kernel)) (by decide +kernel)
theorem wm_127 : Cond.selects "GrownKindsModel" ⟨"GrownKindsModel", "isTerm", "(II)Z"⟩ ⟨"GrownKindsModel", "isTerm", "(II)Z"⟩ ∈ gT := gT_in (List.mem_of_getElem? (i := 127) (by decide +kernel)) (by decide +kernel)
theorem wm_2119 : (Jvm.Cond.code ({ cls := "GrownKindsModel", name := "isTerm", desc := "(II)Z" } : Jvm.MethodName) prog_14_method_32_code (3 : Nat) (Option.some Jvm.ClassFile.FieldType.boolean)) ∈ gT := gT_in (List.mem_of_getElem? (i := 2119) (by decide +kernel)) (by decide +kernel)
theorem dX12_by_6 : decode cX12_by 6 = .ok (.ifCond .eq 11, 3) := by decide +kernel
theorem dX12_by_17 : decode cX12_by 17 = .ok (.ldc2_w 337, 3) := by decide +kernel
theorem dX12_by_20 : decode cX12_by 20 = .ok (.lreturn, 1) := by decide +kernel
theorem dX12_without_0 : decode cX12_without 0 = .ok (.aload_n 0, 1) := by decide +kernel
theorem dX12_without_1 : decode cX12_without 1 = .ok (.iload_n 1, 1) := by decide +kernel
theorem dX12_without_2 : decode cX12_without 2 = .ok (.iload_n 2, 1) := by decide +kernel
theorem dX12_without_3 : decode cX12_without 3 = .ok (.invokevirtual 344, 3) := by decide +kernel
theorem dX12_without_6 : decode cX12_without 6 = .ok (.ifCond .eq 32, 3) := by decide +kernel
theorem dX12_without_38 : decode cX12_without 38 = .ok (.ldc2_w 337, 3) := by decide +kernel
theorem dX12_without_41 : decode cX12_without 41 = .ok (.lreturn, 1) := by decide +kernel
theorem dX12_hangs_0 : decode cX12_hangs 0 = .ok (.aload_n 0, 1) := by decide +kernel
theorem dX12_hangs_1 : decode cX12_hangs 1 = .ok (.iload_n 1, 1) := by decide +kernel
theorem dX12_hangs_2 : decode cX12_hangs 2 = .ok (.invokevirtual 225, 3) := by decide +kernel
theorem dX12_hangs_5 : decode cX12_hangs 5 = .ok (.ifCond .eq 11, 3) := by decide +kernel
theorem dX12_hangs_16 : decode cX12_hangs 16 = .ok (.bipush (-2), 2) := by decide +kernel
theorem dX12_hangs_18 : decode cX12_hangs 18 = .ok (.ireturn, 1) := by decide +kernel
theorem dX12_idle_0 : decode cX12_idle 0 = .ok (.aload_n 0, 1) := by decide +kernel
theorem dX12_idle_1 : decode cX12_idle 1 = .ok (.getfield 15, 3) := by decide +kernel
theorem dX12_idle_4 : decode cX12_idle 4 = .ok (.iconst 3, 1) := by decide +kernel
theorem dX12_idle_5 : decode cX12_idle 5 = .ok (.iaload, 1) := by decide +kernel
theorem dX12_idle_6 : decode cX12_idle 6 = .ok (.ifCond .ne 6, 3) := by decide +kernel
theorem dX12_idle_9 : decode cX12_idle 9 = .ok (.bipush (-2), 2) := by decide +kernel
theorem dX12_idle_11 : decode cX12_idle 11 = .ok (.ireturn, 1) := by decide +kernel
theorem dX12_whyNot_0 : decode cX12_whyNot 0 = .ok (.aload_n 0, 1) := by decide +kernel
theorem dX12_whyNot_1 : decode cX12_whyNot 1 = .ok (.iload_n 1, 1) := by decide +kernel
theorem dX12_whyNot_2 : decode cX12_whyNot 2 = .ok (.invokevirtual 225, 3) := by decide +kernel
theorem dX12_whyNot_5 : decode cX12_whyNot 5 = .ok (.ifCond .eq 11, 3) := by decide +kernel
theorem dX12_whyNot_16 : decode cX12_whyNot 16 = .ok (.bipush (-2), 2) := by decide +kernel
theorem dX12_whyNot_18 : decode cX12_whyNot 18 = .ok (.ireturn, 1) := by decide +kernel
theorem dX12_whyNone_0 : decode cX12_whyNone 0 = .ok (.aload_n 0, 1) := by decide +kernel
theorem dX12_whyNone_1 : decode cX12_whyNone 1 = .ok (.iload_n 1, 1) := by decide +kernel
theorem dX12_whyNone_2 : decode cX12_whyNone 2 = .ok (.invokevirtual 225, 3) := by decide +kernel
theorem dX12_whyNone_5 : decode cX12_whyNone 5 = .ok (.ifCond .eq 11, 3) := by decide +kernel
theorem dX12_whyNone_16 : decode cX12_whyNone 16 = .ok (.bipush (-2), 2) := by decide +kernel
theorem dX12_whyNone_18 : decode cX12_whyNone 18 = .ok (.ireturn, 1) := by decide +kernel
theorem dX12_length_0 : decode cX12_length 0 = .ok (.aload_n 0, 1) := by decide +kernel
theorem dX12_length_1 : decode cX12_length 1 = .ok (.iload_n 1, 1) := by decide +kernel
theorem dX12_length_2 : decode cX12_length 2 = .ok (.iload_n 2, 1) := by decide +kernel
theorem dX12_length_3 : decode cX12_length 3 = .ok (.iload_n 3, 1) := by decide +kernel
theorem dX12_length_4 : decode cX12_length 4 = .ok (.invokevirtual 472, 3) := by decide +kernel
theorem wm_2178 : (Jvm.Cond.methodLink "GrownKindsModel" (472 : Nat) ({ cls := "GrownKindsModel", name := "whyNot", desc := "(III)I" } : Jvm.MethodName)) ∈ gT := gT_in (List.mem_of_getElem? (i := 2178) (by decide +kernel)) (by decide +kernel)
theorem wm_2180 : (Jvm.Cond.instanceMethod ({ cls := "GrownKindsModel", name := "whyNot", desc := "(III)I" } : Jvm.MethodName)) ∈ gT := gT_in (List.mem_of_getElem? (i := 2180) (by decide +kernel)) (by decide +kernel)
theorem wm_136 : Cond.selects "GrownKindsModel" ⟨"GrownKindsModel", "whyNot", "(III)I"⟩ ⟨"GrownKindsModel", "whyNot", "(III)I"⟩ ∈ gT := gT_in (List.mem_of_getElem? (i := 136) (by decide +kernel)) (by decide +kernel)
theorem wm_2181 : (Jvm.Cond.code ({ cls := "GrownKindsModel", name := "whyNot", desc := "(III)I" } : Jvm.MethodName) prog_14_method_105_code (4 : Nat) (Option.some Jvm.ClassFile.FieldType.int)) ∈ gT := gT_in (List.mem_of_getElem? (i := 2181) (by decide +kernel)) (by decide +kernel)
theorem dX12_length_7 : decode cX12_length 7 = .ok (.istore 4, 2) := by decide +kernel
theorem dX12_length_9 : decode cX12_length 9 = .ok (.iload 4, 2) := by decide +kernel
theorem dX12_length_11 : decode cX12_length 11 = .ok (.ifCond .ge 6, 3) := by decide +kernel
theorem dX12_length_14 : decode cX12_length 14 = .ok (.iload 4, 2) := by decide +kernel
theorem dX12_length_16 : decode cX12_length 16 = .ok (.ireturn, 1) := by decide +kernel
theorem dX12_sign_0 : decode cX12_sign 0 = .ok (.iload 4, 2) := by decide +kernel
theorem dX12_sign_2 : decode cX12_sign 2 = .ok (.ifCond .ge 8, 3) := by decide +kernel
theorem dX12_sign_10 : decode cX12_sign 10 = .ok (.aload_n 0, 1) := by decide +kernel
theorem dX12_sign_11 : decode cX12_sign 11 = .ok (.iload_n 1, 1) := by decide +kernel
theorem dX12_sign_12 : decode cX12_sign 12 = .ok (.iload_n 2, 1) := by decide +kernel
theorem dX12_sign_13 : decode cX12_sign 13 = .ok (.iload_n 3, 1) := by decide +kernel
theorem dX12_sign_14 : decode cX12_sign 14 = .ok (.invokevirtual 472, 3) := by decide +kernel
theorem dX12_sign_17 : decode cX12_sign 17 = .ok (.istore 5, 2) := by decide +kernel
theorem dX12_sign_19 : decode cX12_sign 19 = .ok (.iload 5, 2) := by decide +kernel
theorem dX12_sign_21 : decode cX12_sign 21 = .ok (.ifCond .ge 6, 3) := by decide +kernel
theorem dX12_sign_24 : decode cX12_sign 24 = .ok (.iload 5, 2) := by decide +kernel
theorem dX12_sign_26 : decode cX12_sign 26 = .ok (.ireturn, 1) := by decide +kernel
theorem dX12_sign_5 : decode cX12_sign 5 = .ok (.bipush (-2), 2) := by decide +kernel
theorem dX12_sign_7 : decode cX12_sign 7 = .ok (.goto 10, 3) := by decide +kernel
theorem dX12_deep_0 : decode cX12_deep 0 = .ok (.aload_n 0, 1) := by decide +kernel
theorem dX12_deep_1 : decode cX12_deep 1 = .ok (.iload_n 1, 1) := by decide +kernel
theorem dX12_deep_2 : decode cX12_deep 2 = .ok (.iload_n 2, 1) := by decide +kernel
theorem dX12_deep_3 : decode cX12_deep 3 = .ok (.iload_n 3, 1) := by decide +kernel
theorem dX12_deep_4 : decode cX12_deep 4 = .ok (.invokevirtual 472, 3) := by decide +kernel
theorem dX12_deep_7 : decode cX12_deep 7 = .ok (.istore 4, 2) := by decide +kernel
theorem dX12_deep_9 : decode cX12_deep 9 = .ok (.iload 4, 2) := by decide +kernel
theorem dX12_deep_11 : decode cX12_deep 11 = .ok (.ifCond .ge 6, 3) := by decide +kernel
theorem dX12_deep_14 : decode cX12_deep 14 = .ok (.iload 4, 2) := by decide +kernel
theorem dX12_deep_16 : decode cX12_deep 16 = .ok (.ireturn, 1) := by decide +kernel
theorem dX12_atoms_0 : decode cX12_atoms 0 = .ok (.iload 4, 2) := by decide +kernel
theorem dX12_atoms_2 : decode cX12_atoms 2 = .ok (.i2l, 1) := by decide +kernel
theorem dX12_atoms_3 : decode cX12_atoms 3 = .ok (.lconst 0, 1) := by decide +kernel
theorem dX12_atoms_4 : decode cX12_atoms 4 = .ok (.ldc2_w 339, 3) := by decide +kernel
theorem wm_2111 : (Jvm.Cond.constantLong "GrownKindsModel" (339 : Nat) (25 : Int64)) ∈ gT := gT_in (List.mem_of_getElem? (i := 2111) (by decide +kernel)) (by decide +kernel)
theorem dX12_atoms_7 : decode cX12_atoms 7 = .ok (.invokestatic 97, 3) := by decide +kernel
theorem dX12_atoms_10 : decode cX12_atoms 10 = .ok (.ifCond .eq 13, 3) := by decide +kernel
theorem dX12_atoms_23 : decode cX12_atoms 23 = .ok (.bipush (-2), 2) := by decide +kernel
theorem dX12_atoms_25 : decode cX12_atoms 25 = .ok (.istore 5, 2) := by decide +kernel
theorem dX12_atoms_27 : decode cX12_atoms 27 = .ok (.iload 5, 2) := by decide +kernel
theorem dX12_atoms_29 : decode cX12_atoms 29 = .ok (.ifCond .ge 6, 3) := by decide +kernel
theorem dX12_atoms_32 : decode cX12_atoms 32 = .ok (.iload 5, 2) := by decide +kernel
theorem dX12_atoms_34 : decode cX12_atoms 34 = .ok (.ireturn, 1) := by decide +kernel
theorem dX12_atoms_13 : decode cX12_atoms 13 = .ok (.aload_n 0, 1) := by decide +kernel
theorem dX12_atoms_14 : decode cX12_atoms 14 = .ok (.iload_n 1, 1) := by decide +kernel
theorem dX12_atoms_15 : decode cX12_atoms 15 = .ok (.iload_n 2, 1) := by decide +kernel
theorem dX12_atoms_16 : decode cX12_atoms 16 = .ok (.iload_n 3, 1) := by decide +kernel
theorem dX12_atoms_17 : decode cX12_atoms 17 = .ok (.invokevirtual 472, 3) := by decide +kernel
theorem dX12_atoms_20 : decode cX12_atoms 20 = .ok (.goto 5, 3) := by decide +kernel
theorem dX12_term_0 : decode cX12_term 0 = .ok (.aload_n 0, 1) := by decide +kernel
theorem dX12_term_1 : decode cX12_term 1 = .ok (.iload_n 1, 1) := by decide +kernel
theorem dX12_term_2 : decode cX12_term 2 = .ok (.iload_n 2, 1) := by decide +kernel
theorem dX12_term_3 : decode cX12_term 3 = .ok (.iload_n 3, 1) := by decide +kernel
theorem dX12_term_4 : decode cX12_term 4 = .ok (.invokevirtual 472, 3) := by decide +kernel
theorem dX12_term_7 : decode cX12_term 7 = .ok (.istore 4, 2) := by decide +kernel
theorem dX12_term_9 : decode cX12_term 9 = .ok (.iload 4, 2) := by decide +kernel
theorem dX12_term_11 : decode cX12_term 11 = .ok (.ifCond .ge 6, 3) := by decide +kernel
theorem dX12_term_14 : decode cX12_term 14 = .ok (.iload 4, 2) := by decide +kernel
theorem dX12_term_16 : decode cX12_term 16 = .ok (.ireturn, 1) := by decide +kernel
theorem dX12_symmetries_0 : decode cX12_symmetries 0 = .ok (.aload_n 0, 1) := by decide +kernel
theorem dX12_symmetries_1 : decode cX12_symmetries 1 = .ok (.iload_n 1, 1) := by decide +kernel
theorem dX12_symmetries_2 : decode cX12_symmetries 2 = .ok (.iload_n 2, 1) := by decide +kernel
theorem dX12_symmetries_3 : decode cX12_symmetries 3 = .ok (.iload_n 3, 1) := by decide +kernel
theorem dX12_symmetries_4 : decode cX12_symmetries 4 = .ok (.invokevirtual 472, 3) := by decide +kernel
theorem dX12_symmetries_7 : decode cX12_symmetries 7 = .ok (.istore 4, 2) := by decide +kernel
theorem dX12_symmetries_9 : decode cX12_symmetries 9 = .ok (.iload 4, 2) := by decide +kernel
theorem dX12_symmetries_11 : decode cX12_symmetries 11 = .ok (.ifCond .ge 6, 3) := by decide +kernel
theorem dX12_symmetries_14 : decode cX12_symmetries 14 = .ok (.iload 4, 2) := by decide +kernel
theorem dX12_symmetries_16 : decode cX12_symmetries 16 = .ok (.ireturn, 1) := by decide +kernel
theorem dX12_labels_0 : decode cX12_labels 0 = .ok (.aload_n 0, 1) := by decide +kernel
theorem dX12_labels_1 : decode cX12_labels 1 = .ok (.iload_n 1, 1) := by decide +kernel
theorem dX12_labels_2 : decode cX12_labels 2 = .ok (.iload_n 2, 1) := by decide +kernel
theorem dX12_labels_3 : decode cX12_labels 3 = .ok (.iload_n 3, 1) := by decide +kernel
theorem dX12_labels_4 : decode cX12_labels 4 = .ok (.invokevirtual 479, 3) := by decide +kernel
theorem wm_2285 : (Jvm.Cond.methodLink "GrownKindsModel" (479 : Nat) ({ cls := "GrownKindsModel", name := "symmetries", desc := "(III)I" } : Jvm.MethodName)) ∈ gT := gT_in (List.mem_of_getElem? (i := 2285) (by decide +kernel)) (by decide +kernel)
theorem wm_2278 : (Jvm.Cond.instanceMethod ({ cls := "GrownKindsModel", name := "symmetries", desc := "(III)I" } : Jvm.MethodName)) ∈ gT := gT_in (List.mem_of_getElem? (i := 2278) (by decide +kernel)) (by decide +kernel)
theorem wm_2279 : (Jvm.Cond.selects "GrownKindsModel" ({ cls := "GrownKindsModel", name := "symmetries", desc := "(III)I" } : Jvm.MethodName) ({ cls := "GrownKindsModel", name := "symmetries", desc := "(III)I" } : Jvm.MethodName)) ∈ gT := gT_in (List.mem_of_getElem? (i := 2279) (by decide +kernel)) (by decide +kernel)
theorem wm_2280 : (Jvm.Cond.code ({ cls := "GrownKindsModel", name := "symmetries", desc := "(III)I" } : Jvm.MethodName) prog_14_method_111_code (5 : Nat) (Option.some Jvm.ClassFile.FieldType.int)) ∈ gT := gT_in (List.mem_of_getElem? (i := 2280) (by decide +kernel)) (by decide +kernel)
theorem dX12_labels_7 : decode cX12_labels 7 = .ok (.istore 4, 2) := by decide +kernel
theorem dX12_labels_9 : decode cX12_labels 9 = .ok (.iload 4, 2) := by decide +kernel
theorem dX12_labels_11 : decode cX12_labels 11 = .ok (.ifCond .ge 8, 3) := by decide +kernel
theorem dX12_labels_14 : decode cX12_labels 14 = .ok (.iload 4, 2) := by decide +kernel
theorem dX12_labels_16 : decode cX12_labels 16 = .ok (.goto 11, 3) := by decide +kernel
theorem dX12_labels_27 : decode cX12_labels 27 = .ok (.ireturn, 1) := by decide +kernel
theorem dX12_tells_0 : decode cX12_tells 0 = .ok (.aload_n 0, 1) := by decide +kernel
theorem dX12_tells_1 : decode cX12_tells 1 = .ok (.iload_n 1, 1) := by decide +kernel
theorem dX12_tells_2 : decode cX12_tells 2 = .ok (.invokevirtual 225, 3) := by decide +kernel
theorem dX12_tells_5 : decode cX12_tells 5 = .ok (.ifCond .ne 6, 3) := by decide +kernel
theorem dX12_tells_8 : decode cX12_tells 8 = .ok (.bipush (-2), 2) := by decide +kernel
theorem dX12_tells_10 : decode cX12_tells 10 = .ok (.ireturn, 1) := by decide +kernel
theorem dX12_shared_0 : decode cX12_shared 0 = .ok (.aload_n 0, 1) := by decide +kernel
theorem dX12_shared_1 : decode cX12_shared 1 = .ok (.iload_n 2, 1) := by decide +kernel
theorem dX12_shared_2 : decode cX12_shared 2 = .ok (.invokevirtual 225, 3) := by decide +kernel
theorem dX12_shared_5 : decode cX12_shared 5 = .ok (.ifCond .eq 12, 3) := by decide +kernel
theorem dX12_shared_17 : decode cX12_shared 17 = .ok (.bipush (-2), 2) := by decide +kernel
theorem dX12_shared_19 : decode cX12_shared 19 = .ok (.istore 4, 2) := by decide +kernel
theorem dX12_shared_21 : decode cX12_shared 21 = .ok (.iload 4, 2) := by decide +kernel
theorem dX12_shared_23 : decode cX12_shared 23 = .ok (.iconst (-1), 1) := by decide +kernel
theorem dX12_shared_24 : decode cX12_shared 24 = .ok (.if_icmp .ge 6, 3) := by decide +kernel
theorem dX12_shared_27 : decode cX12_shared 27 = .ok (.iload 4, 2) := by decide +kernel
theorem dX12_shared_29 : decode cX12_shared 29 = .ok (.ireturn, 1) := by decide +kernel
theorem dX12_most_0 : decode cX12_most 0 = .ok (.aload_n 0, 1) := by decide +kernel
theorem dX12_most_1 : decode cX12_most 1 = .ok (.iload_n 1, 1) := by decide +kernel
theorem dX12_most_2 : decode cX12_most 2 = .ok (.iload_n 2, 1) := by decide +kernel
theorem dX12_most_3 : decode cX12_most 3 = .ok (.invokevirtual 534, 3) := by decide +kernel
theorem wm_2354 : (Jvm.Cond.methodLink "GrownKindsModel" (534 : Nat) ({ cls := "GrownKindsModel", name := "whyNone", desc := "(II)I" } : Jvm.MethodName)) ∈ gT := gT_in (List.mem_of_getElem? (i := 2354) (by decide +kernel)) (by decide +kernel)
theorem wm_2356 : (Jvm.Cond.instanceMethod ({ cls := "GrownKindsModel", name := "whyNone", desc := "(II)I" } : Jvm.MethodName)) ∈ gT := gT_in (List.mem_of_getElem? (i := 2356) (by decide +kernel)) (by decide +kernel)
theorem wm_169 : Cond.selects "GrownKindsModel" ⟨"GrownKindsModel", "whyNone", "(II)I"⟩ ⟨"GrownKindsModel", "whyNone", "(II)I"⟩ ∈ gT := gT_in (List.mem_of_getElem? (i := 169) (by decide +kernel)) (by decide +kernel)
theorem wm_2357 : (Jvm.Cond.code ({ cls := "GrownKindsModel", name := "whyNone", desc := "(II)I" } : Jvm.MethodName) prog_14_method_129_code (3 : Nat) (Option.some Jvm.ClassFile.FieldType.int)) ∈ gT := gT_in (List.mem_of_getElem? (i := 2357) (by decide +kernel)) (by decide +kernel)
theorem dX12_most_6 : decode cX12_most 6 = .ok (.istore 5, 2) := by decide +kernel
theorem dX12_most_8 : decode cX12_most 8 = .ok (.iload 5, 2) := by decide +kernel
theorem dX12_most_10 : decode cX12_most 10 = .ok (.ifCond .ge 6, 3) := by decide +kernel
theorem dX12_most_13 : decode cX12_most 13 = .ok (.iload 5, 2) := by decide +kernel
theorem dX12_most_15 : decode cX12_most 15 = .ok (.ireturn, 1) := by decide +kernel
theorem dX12_deepest_0 : decode cX12_deepest 0 = .ok (.aload_n 0, 1) := by decide +kernel
theorem dX12_deepest_1 : decode cX12_deepest 1 = .ok (.iload_n 1, 1) := by decide +kernel
theorem dX12_deepest_2 : decode cX12_deepest 2 = .ok (.iload_n 2, 1) := by decide +kernel
theorem dX12_deepest_3 : decode cX12_deepest 3 = .ok (.iconst 0, 1) := by decide +kernel
theorem dX12_deepest_4 : decode cX12_deepest 4 = .ok (.iconst (-1), 1) := by decide +kernel
theorem dX12_deepest_5 : decode cX12_deepest 5 = .ok (.invokevirtual 537, 3) := by decide +kernel
theorem wm_2362 : (Jvm.Cond.methodLink "GrownKindsModel" (537 : Nat) ({ cls := "GrownKindsModel", name := "most", desc := "(IIII)I" } : Jvm.MethodName)) ∈ gT := gT_in (List.mem_of_getElem? (i := 2362) (by decide +kernel)) (by decide +kernel)
theorem wm_2364 : (Jvm.Cond.instanceMethod ({ cls := "GrownKindsModel", name := "most", desc := "(IIII)I" } : Jvm.MethodName)) ∈ gT := gT_in (List.mem_of_getElem? (i := 2364) (by decide +kernel)) (by decide +kernel)
theorem wm_170 : Cond.selects "GrownKindsModel" ⟨"GrownKindsModel", "most", "(IIII)I"⟩ ⟨"GrownKindsModel", "most", "(IIII)I"⟩ ∈ gT := gT_in (List.mem_of_getElem? (i := 170) (by decide +kernel)) (by decide +kernel)
theorem wm_2365 : (Jvm.Cond.code ({ cls := "GrownKindsModel", name := "most", desc := "(IIII)I" } : Jvm.MethodName) prog_14_method_131_code (10 : Nat) (Option.some Jvm.ClassFile.FieldType.int)) ∈ gT := gT_in (List.mem_of_getElem? (i := 2365) (by decide +kernel)) (by decide +kernel)
theorem dX12_deepest_8 : decode cX12_deepest 8 = .ok (.ireturn, 1) := by decide +kernel
theorem dX12_fullest_0 : decode cX12_fullest 0 = .ok (.iload_n 3, 1) := by decide +kernel
theorem dX12_fullest_1 : decode cX12_fullest 1 = .ok (.i2l, 1) := by decide +kernel
theorem dX12_fullest_2 : decode cX12_fullest 2 = .ok (.lconst 0, 1) := by decide +kernel
theorem dX12_fullest_3 : decode cX12_fullest 3 = .ok (.ldc2_w 339, 3) := by decide +kernel
theorem dX12_fullest_6 : decode cX12_fullest 6 = .ok (.invokestatic 97, 3) := by decide +kernel
theorem dX12_fullest_9 : decode cX12_fullest 9 = .ok (.ifCond .eq 14, 3) := by decide +kernel
theorem dX12_fullest_23 : decode cX12_fullest 23 = .ok (.bipush (-2), 2) := by decide +kernel
theorem dX12_fullest_25 : decode cX12_fullest 25 = .ok (.ireturn, 1) := by decide +kernel
theorem dX12_fullest_12 : decode cX12_fullest 12 = .ok (.aload_n 0, 1) := by decide +kernel
theorem dX12_fullest_13 : decode cX12_fullest 13 = .ok (.iload_n 1, 1) := by decide +kernel
theorem dX12_fullest_14 : decode cX12_fullest 14 = .ok (.iload_n 2, 1) := by decide +kernel
theorem dX12_fullest_15 : decode cX12_fullest 15 = .ok (.iconst 1, 1) := by decide +kernel
theorem dX12_fullest_16 : decode cX12_fullest 16 = .ok (.iload_n 3, 1) := by decide +kernel
theorem dX12_fullest_17 : decode cX12_fullest 17 = .ok (.invokevirtual 537, 3) := by decide +kernel
theorem dX12_fullest_20 : decode cX12_fullest 20 = .ok (.goto 5, 3) := by decide +kernel
theorem dX12_stiffest_0 : decode cX12_stiffest 0 = .ok (.aload_n 0, 1) := by decide +kernel
theorem dX12_stiffest_1 : decode cX12_stiffest 1 = .ok (.iload_n 1, 1) := by decide +kernel
theorem dX12_stiffest_2 : decode cX12_stiffest 2 = .ok (.iload_n 2, 1) := by decide +kernel
theorem dX12_stiffest_3 : decode cX12_stiffest 3 = .ok (.iconst 2, 1) := by decide +kernel
theorem dX12_stiffest_4 : decode cX12_stiffest 4 = .ok (.iconst (-1), 1) := by decide +kernel
theorem dX12_stiffest_5 : decode cX12_stiffest 5 = .ok (.invokevirtual 537, 3) := by decide +kernel
theorem dX12_stiffest_8 : decode cX12_stiffest 8 = .ok (.ireturn, 1) := by decide +kernel
theorem dX12_chance_0 : decode cX12_chance 0 = .ok (.aload_n 0, 1) := by decide +kernel
theorem dX12_chance_1 : decode cX12_chance 1 = .ok (.iload_n 1, 1) := by decide +kernel
theorem dX12_chance_2 : decode cX12_chance 2 = .ok (.iload_n 3, 1) := by decide +kernel
theorem dX12_chance_3 : decode cX12_chance 3 = .ok (.invokevirtual 344, 3) := by decide +kernel
theorem dX12_chance_6 : decode cX12_chance 6 = .ok (.ifCond .eq 23, 3) := by decide +kernel
theorem dX12_chance_29 : decode cX12_chance 29 = .ok (.bipush (-2), 2) := by decide +kernel
theorem dX12_chance_31 : decode cX12_chance 31 = .ok (.istore 5, 2) := by decide +kernel
theorem dX12_chance_33 : decode cX12_chance 33 = .ok (.iload 5, 2) := by decide +kernel
theorem dX12_chance_35 : decode cX12_chance 35 = .ok (.ifCond .ge 8, 3) := by decide +kernel
theorem dX12_chance_38 : decode cX12_chance 38 = .ok (.iload 5, 2) := by decide +kernel
theorem dX12_chance_40 : decode cX12_chance 40 = .ok (.goto 23, 3) := by decide +kernel
theorem dX12_chance_63 : decode cX12_chance 63 = .ok (.ireturn, 1) := by decide +kernel
theorem dX12_mean_0 : decode cX12_mean 0 = .ok (.iload_n 3, 1) := by decide +kernel
theorem dX12_mean_1 : decode cX12_mean 1 = .ok (.i2l, 1) := by decide +kernel
theorem dX12_mean_2 : decode cX12_mean 2 = .ok (.lconst 0, 1) := by decide +kernel
theorem dX12_mean_3 : decode cX12_mean 3 = .ok (.ldc2_w 339, 3) := by decide +kernel
theorem dX12_mean_6 : decode cX12_mean 6 = .ok (.invokestatic 97, 3) := by decide +kernel
theorem dX12_mean_9 : decode cX12_mean 9 = .ok (.ifCond .eq 23, 3) := by decide +kernel
theorem dX12_mean_32 : decode cX12_mean 32 = .ok (.bipush (-2), 2) := by decide +kernel
theorem dX12_mean_34 : decode cX12_mean 34 = .ok (.istore 5, 2) := by decide +kernel
theorem dX12_mean_36 : decode cX12_mean 36 = .ok (.iload 5, 2) := by decide +kernel
theorem dX12_mean_38 : decode cX12_mean 38 = .ok (.ifCond .ge 6, 3) := by decide +kernel
theorem dX12_mean_41 : decode cX12_mean 41 = .ok (.iload 5, 2) := by decide +kernel
theorem dX12_mean_43 : decode cX12_mean 43 = .ok (.ireturn, 1) := by decide +kernel
theorem dX12_mean_12 : decode cX12_mean 12 = .ok (.iload 4, 2) := by decide +kernel
theorem dX12_mean_14 : decode cX12_mean 14 = .ok (.i2l, 1) := by decide +kernel
theorem dX12_mean_15 : decode cX12_mean 15 = .ok (.lconst 0, 1) := by decide +kernel
theorem dX12_mean_16 : decode cX12_mean 16 = .ok (.lconst 1, 1) := by decide +kernel
theorem dX12_mean_17 : decode cX12_mean 17 = .ok (.invokestatic 97, 3) := by decide +kernel
theorem dX12_mean_20 : decode cX12_mean 20 = .ok (.ifCond .eq 12, 3) := by decide +kernel
theorem dX12_mean_23 : decode cX12_mean 23 = .ok (.aload_n 0, 1) := by decide +kernel
theorem dX12_mean_24 : decode cX12_mean 24 = .ok (.iload_n 1, 1) := by decide +kernel
theorem dX12_mean_25 : decode cX12_mean 25 = .ok (.iload_n 2, 1) := by decide +kernel
theorem dX12_mean_26 : decode cX12_mean 26 = .ok (.invokevirtual 534, 3) := by decide +kernel
theorem dX12_mean_29 : decode cX12_mean 29 = .ok (.goto 5, 3) := by decide +kernel
theorem dX12_isBox_0 : decode cX12_isBox 0 = .ok (.aload_n 0, 1) := by decide +kernel
theorem dX12_isBox_1 : decode cX12_isBox 1 = .ok (.iload_n 1, 1) := by decide +kernel
theorem dX12_isBox_2 : decode cX12_isBox 2 = .ok (.invokevirtual 225, 3) := by decide +kernel
theorem dX12_isBox_5 : decode cX12_isBox 5 = .ok (.ifCond .eq 28, 3) := by decide +kernel
theorem dX12_isBox_33 : decode cX12_isBox 33 = .ok (.iconst 0, 1) := by decide +kernel
theorem dX12_isBox_34 : decode cX12_isBox 34 = .ok (.ireturn, 1) := by decide +kernel
theorem dX12_inBox_0 : decode cX12_inBox 0 = .ok (.aload_n 0, 1) := by decide +kernel
theorem dX12_inBox_1 : decode cX12_inBox 1 = .ok (.iload_n 1, 1) := by decide +kernel
theorem dX12_inBox_2 : decode cX12_inBox 2 = .ok (.iload_n 2, 1) := by decide +kernel
theorem dX12_inBox_3 : decode cX12_inBox 3 = .ok (.iload_n 3, 1) := by decide +kernel
theorem dX12_inBox_4 : decode cX12_inBox 4 = .ok (.invokevirtual 545, 3) := by decide +kernel
theorem wm_2392 : (Jvm.Cond.methodLink "GrownKindsModel" (545 : Nat) ({ cls := "GrownKindsModel", name := "isBox", desc := "(III)Z" } : Jvm.MethodName)) ∈ gT := gT_in (List.mem_of_getElem? (i := 2392) (by decide +kernel)) (by decide +kernel)
theorem wm_2394 : (Jvm.Cond.instanceMethod ({ cls := "GrownKindsModel", name := "isBox", desc := "(III)Z" } : Jvm.MethodName)) ∈ gT := gT_in (List.mem_of_getElem? (i := 2394) (by decide +kernel)) (by decide +kernel)
theorem wm_171 : Cond.selects "GrownKindsModel" ⟨"GrownKindsModel", "isBox", "(III)Z"⟩ ⟨"GrownKindsModel", "isBox", "(III)Z"⟩ ∈ gT := gT_in (List.mem_of_getElem? (i := 171) (by decide +kernel)) (by decide +kernel)
theorem wm_2395 : (Jvm.Cond.code ({ cls := "GrownKindsModel", name := "isBox", desc := "(III)Z" } : Jvm.MethodName) prog_14_method_139_code (4 : Nat) (Option.some Jvm.ClassFile.FieldType.boolean)) ∈ gT := gT_in (List.mem_of_getElem? (i := 2395) (by decide +kernel)) (by decide +kernel)
theorem dX12_inBox_7 : decode cX12_inBox 7 = .ok (.ifCond .ne 6, 3) := by decide +kernel
theorem dX12_inBox_10 : decode cX12_inBox 10 = .ok (.bipush (-2), 2) := by decide +kernel
theorem dX12_inBox_12 : decode cX12_inBox 12 = .ok (.ireturn, 1) := by decide +kernel
theorem dX12_boxed_0 : decode cX12_boxed 0 = .ok (.aload_n 0, 1) := by decide +kernel
theorem dX12_boxed_1 : decode cX12_boxed 1 = .ok (.iload_n 1, 1) := by decide +kernel
theorem dX12_boxed_2 : decode cX12_boxed 2 = .ok (.iload_n 2, 1) := by decide +kernel
theorem dX12_boxed_3 : decode cX12_boxed 3 = .ok (.iload_n 3, 1) := by decide +kernel
theorem dX12_boxed_4 : decode cX12_boxed 4 = .ok (.invokevirtual 545, 3) := by decide +kernel
theorem dX12_boxed_7 : decode cX12_boxed 7 = .ok (.ifCond .ne 7, 3) := by decide +kernel
theorem dX12_boxed_10 : decode cX12_boxed 10 = .ok (.ldc2_w 337, 3) := by decide +kernel
theorem dX12_boxed_13 : decode cX12_boxed 13 = .ok (.lreturn, 1) := by decide +kernel
theorem dX12_bits_0 : decode cX12_bits 0 = .ok (.aload_n 0, 1) := by decide +kernel
theorem dX12_bits_1 : decode cX12_bits 1 = .ok (.iload_n 1, 1) := by decide +kernel
theorem dX12_bits_2 : decode cX12_bits 2 = .ok (.iload_n 2, 1) := by decide +kernel
theorem dX12_bits_3 : decode cX12_bits 3 = .ok (.iload_n 3, 1) := by decide +kernel
theorem dX12_bits_4 : decode cX12_bits 4 = .ok (.ldc_w 548, 3) := by decide +kernel
theorem wm_2400 : (Jvm.Cond.constant "GrownKindsModel" (548 : Nat) (1000000 : Int32)) ∈ gT := gT_in (List.mem_of_getElem? (i := 2400) (by decide +kernel)) (by decide +kernel)
theorem dX12_bits_7 : decode cX12_bits 7 = .ok (.invokevirtual 549, 3) := by decide +kernel
theorem wm_2401 : (Jvm.Cond.methodLink "GrownKindsModel" (549 : Nat) ({ cls := "GrownKindsModel", name := "inBox", desc := "(IIII)I" } : Jvm.MethodName)) ∈ gT := gT_in (List.mem_of_getElem? (i := 2401) (by decide +kernel)) (by decide +kernel)
theorem wm_2403 : (Jvm.Cond.instanceMethod ({ cls := "GrownKindsModel", name := "inBox", desc := "(IIII)I" } : Jvm.MethodName)) ∈ gT := gT_in (List.mem_of_getElem? (i := 2403) (by decide +kernel)) (by decide +kernel)
theorem wm_172 : Cond.selects "GrownKindsModel" ⟨"GrownKindsModel", "inBox", "(IIII)I"⟩ ⟨"GrownKindsModel", "inBox", "(IIII)I"⟩ ∈ gT := gT_in (List.mem_of_getElem? (i := 172) (by decide +kernel)) (by decide +kernel)
theorem wm_2404 : (Jvm.Cond.code ({ cls := "GrownKindsModel", name := "inBox", desc := "(IIII)I" } : Jvm.MethodName) prog_14_method_142_code (7 : Nat) (Option.some Jvm.ClassFile.FieldType.int)) ∈ gT := gT_in (List.mem_of_getElem? (i := 2404) (by decide +kernel)) (by decide +kernel)
theorem dX12_bits_10 : decode cX12_bits 10 = .ok (.istore 4, 2) := by decide +kernel
theorem dX12_bits_12 : decode cX12_bits 12 = .ok (.iload 4, 2) := by decide +kernel
theorem dX12_bits_14 : decode cX12_bits 14 = .ok (.ifCond .ge 8, 3) := by decide +kernel
theorem dX12_bits_17 : decode cX12_bits 17 = .ok (.iload 4, 2) := by decide +kernel
theorem dX12_bits_19 : decode cX12_bits 19 = .ok (.goto 9, 3) := by decide +kernel
theorem dX12_bits_28 : decode cX12_bits 28 = .ok (.ireturn, 1) := by decide +kernel
theorem dX12_drawn_0 : decode cX12_drawn 0 = .ok (.iload 4, 2) := by decide +kernel
theorem dX12_drawn_2 : decode cX12_drawn 2 = .ok (.i2l, 1) := by decide +kernel
theorem dX12_drawn_3 : decode cX12_drawn 3 = .ok (.lconst 0, 1) := by decide +kernel
theorem dX12_drawn_4 : decode cX12_drawn 4 = .ok (.ldc2_w 559, 3) := by decide +kernel
theorem wm_2412 : (Jvm.Cond.constantLong "GrownKindsModel" (559 : Nat) (1073741823 : Int64)) ∈ gT := gT_in (List.mem_of_getElem? (i := 2412) (by decide +kernel)) (by decide +kernel)
theorem dX12_drawn_7 : decode cX12_drawn 7 = .ok (.invokestatic 97, 3) := by decide +kernel
theorem dX12_drawn_10 : decode cX12_drawn 10 = .ok (.ifCond .eq 27, 3) := by decide +kernel
theorem dX12_drawn_37 : decode cX12_drawn 37 = .ok (.bipush (-2), 2) := by decide +kernel
theorem dX12_drawn_39 : decode cX12_drawn 39 = .ok (.istore 6, 2) := by decide +kernel
theorem dX12_drawn_41 : decode cX12_drawn 41 = .ok (.iload 6, 2) := by decide +kernel
theorem dX12_drawn_43 : decode cX12_drawn 43 = .ok (.ifCond .ge 6, 3) := by decide +kernel
theorem dX12_drawn_46 : decode cX12_drawn 46 = .ok (.iload 6, 2) := by decide +kernel
theorem dX12_drawn_48 : decode cX12_drawn 48 = .ok (.ireturn, 1) := by decide +kernel
theorem dX12_drawn_13 : decode cX12_drawn 13 = .ok (.iload 5, 2) := by decide +kernel
theorem dX12_drawn_15 : decode cX12_drawn 15 = .ok (.i2l, 1) := by decide +kernel
theorem dX12_drawn_16 : decode cX12_drawn 16 = .ok (.lconst 0, 1) := by decide +kernel
theorem dX12_drawn_17 : decode cX12_drawn 17 = .ok (.lconst 1, 1) := by decide +kernel
theorem dX12_drawn_18 : decode cX12_drawn 18 = .ok (.invokestatic 97, 3) := by decide +kernel
theorem dX12_drawn_21 : decode cX12_drawn 21 = .ok (.ifCond .eq 16, 3) := by decide +kernel
theorem dX12_drawn_24 : decode cX12_drawn 24 = .ok (.aload_n 0, 1) := by decide +kernel
theorem dX12_drawn_25 : decode cX12_drawn 25 = .ok (.iload_n 1, 1) := by decide +kernel
theorem dX12_drawn_26 : decode cX12_drawn 26 = .ok (.iload_n 2, 1) := by decide +kernel
theorem dX12_drawn_27 : decode cX12_drawn 27 = .ok (.iload_n 3, 1) := by decide +kernel
theorem dX12_drawn_28 : decode cX12_drawn 28 = .ok (.ldc_w 548, 3) := by decide +kernel
theorem dX12_drawn_31 : decode cX12_drawn 31 = .ok (.invokevirtual 549, 3) := by decide +kernel
theorem dX12_drawn_34 : decode cX12_drawn 34 = .ok (.goto 5, 3) := by decide +kernel
theorem dX12_deal_0 : decode cX12_deal 0 = .ok (.iload 4, 2) := by decide +kernel
theorem dX12_deal_2 : decode cX12_deal 2 = .ok (.i2l, 1) := by decide +kernel
theorem dX12_deal_3 : decode cX12_deal 3 = .ok (.lconst 0, 1) := by decide +kernel
theorem dX12_deal_4 : decode cX12_deal 4 = .ok (.ldc2_w 564, 3) := by decide +kernel
theorem wm_2421 : (Jvm.Cond.constantLong "GrownKindsModel" (564 : Nat) (2000000000 : Int64)) ∈ gT := gT_in (List.mem_of_getElem? (i := 2421) (by decide +kernel)) (by decide +kernel)
theorem dX12_deal_7 : decode cX12_deal 7 = .ok (.invokestatic 97, 3) := by decide +kernel
theorem dX12_deal_10 : decode cX12_deal 10 = .ok (.ifCond .eq 16, 3) := by decide +kernel
theorem dX12_deal_26 : decode cX12_deal 26 = .ok (.bipush (-2), 2) := by decide +kernel
theorem dX12_deal_28 : decode cX12_deal 28 = .ok (.istore 5, 2) := by decide +kernel
theorem dX12_deal_30 : decode cX12_deal 30 = .ok (.iload 5, 2) := by decide +kernel
theorem dX12_deal_32 : decode cX12_deal 32 = .ok (.iconst (-1), 1) := by decide +kernel
theorem dX12_deal_33 : decode cX12_deal 33 = .ok (.if_icmp .ge 6, 3) := by decide +kernel
theorem dX12_deal_36 : decode cX12_deal 36 = .ok (.iload 5, 2) := by decide +kernel
theorem dX12_deal_38 : decode cX12_deal 38 = .ok (.ireturn, 1) := by decide +kernel
theorem dX12_deal_13 : decode cX12_deal 13 = .ok (.aload_n 0, 1) := by decide +kernel
theorem dX12_deal_14 : decode cX12_deal 14 = .ok (.iload_n 1, 1) := by decide +kernel
theorem dX12_deal_15 : decode cX12_deal 15 = .ok (.iload_n 2, 1) := by decide +kernel
theorem dX12_deal_16 : decode cX12_deal 16 = .ok (.iload_n 3, 1) := by decide +kernel
theorem dX12_deal_17 : decode cX12_deal 17 = .ok (.sipush 1000, 3) := by decide +kernel
theorem dX12_deal_20 : decode cX12_deal 20 = .ok (.invokevirtual 549, 3) := by decide +kernel
theorem dX12_deal_23 : decode cX12_deal 23 = .ok (.goto 5, 3) := by decide +kernel
theorem dX12_takes_0 : decode cX12_takes 0 = .ok (.aload_n 0, 1) := by decide +kernel
theorem dX12_takes_1 : decode cX12_takes 1 = .ok (.iload_n 1, 1) := by decide +kernel
theorem dX12_takes_2 : decode cX12_takes 2 = .ok (.iload_n 2, 1) := by decide +kernel
theorem dX12_takes_3 : decode cX12_takes 3 = .ok (.invokevirtual 344, 3) := by decide +kernel
theorem dX12_takes_6 : decode cX12_takes 6 = .ok (.ifCond .ne 6, 3) := by decide +kernel
theorem dX12_takes_9 : decode cX12_takes 9 = .ok (.bipush (-2), 2) := by decide +kernel
theorem dX12_takes_11 : decode cX12_takes 11 = .ok (.ireturn, 1) := by decide +kernel
theorem dX12_undo_0 : decode cX12_undo 0 = .ok (.aload_n 0, 1) := by decide +kernel
theorem dX12_undo_1 : decode cX12_undo 1 = .ok (.getfield 15, 3) := by decide +kernel
theorem dX12_undo_4 : decode cX12_undo 4 = .ok (.iconst 3, 1) := by decide +kernel
theorem dX12_undo_5 : decode cX12_undo 5 = .ok (.iaload, 1) := by decide +kernel
theorem dX12_undo_6 : decode cX12_undo 6 = .ok (.ifCond .ne 6, 3) := by decide +kernel
theorem dX12_undo_9 : decode cX12_undo 9 = .ok (.bipush (-2), 2) := by decide +kernel
theorem dX12_undo_11 : decode cX12_undo 11 = .ok (.ireturn, 1) := by decide +kernel
theorem dX12_anew_0 : decode cX12_anew 0 = .ok (.aload_n 0, 1) := by decide +kernel
theorem dX12_anew_1 : decode cX12_anew 1 = .ok (.getfield 15, 3) := by decide +kernel
theorem dX12_anew_4 : decode cX12_anew 4 = .ok (.iconst 3, 1) := by decide +kernel
theorem dX12_anew_5 : decode cX12_anew 5 = .ok (.iaload, 1) := by decide +kernel
theorem dX12_anew_6 : decode cX12_anew 6 = .ok (.ifCond .ne 6, 3) := by decide +kernel
theorem dX12_anew_9 : decode cX12_anew 9 = .ok (.bipush (-2), 2) := by decide +kernel
theorem dX12_anew_11 : decode cX12_anew 11 = .ok (.ireturn, 1) := by decide +kernel
theorem dX12_dealt_0 : decode cX12_dealt 0 = .ok (.aload_n 0, 1) := by decide +kernel
theorem dX12_dealt_1 : decode cX12_dealt 1 = .ok (.getfield 222, 3) := by decide +kernel
theorem wm_1719 : (Jvm.Cond.fieldLink "GrownKindsModel" (222 : Nat) "GrownKindsModel" "isDealing" "Z") ∈ gT := gT_in (List.mem_of_getElem? (i := 1719) (by decide +kernel)) (by decide +kernel)
theorem dX12_dealt_4 : decode cX12_dealt 4 = .ok (.ifCond .eq 10, 3) := by decide +kernel
theorem dX12_dealt_14 : decode cX12_dealt 14 = .ok (.iconst (-1), 1) := by decide +kernel
theorem dX12_dealt_15 : decode cX12_dealt 15 = .ok (.ireturn, 1) := by decide +kernel
theorem dX12_left_0 : decode cX12_left 0 = .ok (.aload_n 0, 1) := by decide +kernel
theorem dX12_left_1 : decode cX12_left 1 = .ok (.getfield 222, 3) := by decide +kernel
theorem dX12_left_4 : decode cX12_left 4 = .ok (.ifCond .eq 10, 3) := by decide +kernel
theorem dX12_left_14 : decode cX12_left 14 = .ok (.iconst 0, 1) := by decide +kernel
theorem dX12_left_15 : decode cX12_left 15 = .ok (.ireturn, 1) := by decide +kernel
abbrev Z0 (b : Nat) (cy : Nat → ClassId) : va_E := .inr (11, [.ref (b + 1), .int 0, .ref (b + 2), .ref (b + 12), .int 0, .int (-1), .ref (b + 33), .ref (b + 40), .ref (b + 47), .ref (b + 60), .ref (b + 67), .ref (b + 73), .ref (b + 80), .ref (b + 81), .ref (b + 82), .int 0, .int 0, .int (-1), .int (-1)])
abbrev Z1 (b : Nat) (cy : Nat → ClassId) : va_E := .inl (cy 0, 400, .inl (fun _ => 0))
abbrev Z2 (b : Nat) (cy : Nat → ClassId) : va_E := .inr (2, [.int 0, .int 0, .int 0, .int 0, .int 0, .ref (b + 3), .ref (b + 4), .ref (b + 5), .ref (b + 6), .ref (b + 7), .ref (b + 8), .ref (b + 9), .ref (b + 10), .ref (b + 11)])
abbrev Z3 (b : Nat) (cy : Nat → ClassId) : va_E := .inl (cy 1, 24, .inl (fun _ => 0))
abbrev Z4 (b : Nat) (cy : Nat → ClassId) : va_E := .inl (cy 1, 24, .inl (fun _ => 0))
abbrev Z5 (b : Nat) (cy : Nat → ClassId) : va_E := .inl (cy 1, 24, .inl (fun _ => 0))
abbrev Z6 (b : Nat) (cy : Nat → ClassId) : va_E := .inl (cy 1, 24, .inl (fun _ => 0))
abbrev Z7 (b : Nat) (cy : Nat → ClassId) : va_E := .inl (cy 1, 24, .inl (fun _ => 0))
abbrev Z8 (b : Nat) (cy : Nat → ClassId) : va_E := .inl (cy 1, 30, .inl (fun _ => 0))
abbrev Z9 (b : Nat) (cy : Nat → ClassId) : va_E := .inl (cy 1, 300, .inl (fun _ => 0))
abbrev Z10 (b : Nat) (cy : Nat → ClassId) : va_E := .inl (cy 1, 30, .inl (fun _ => 0))
abbrev Z11 (b : Nat) (cy : Nat → ClassId) : va_E := .inl (cy 1, 54, .inl (fun _ => 0))
abbrev Z12 (b : Nat) (cy : Nat → ClassId) : va_E := .inr (5, [.ref (b + 13), .int 0, .int (-1), .ref (b + 26), .ref (b + 23), .int 0, .int 0, .int 3, .int 0, .int 0, .int 0, .ref (b + 24), .ref (b + 25)])
abbrev Z13 (b : Nat) (cy : Nat → ClassId) : va_E := .inr (2, [.int 0, .int 0, .int 0, .int 0, .int 0, .ref (b + 14), .ref (b + 15), .ref (b + 16), .ref (b + 17), .ref (b + 18), .ref (b + 19), .ref (b + 20), .ref (b + 21), .ref (b + 22)])
abbrev Z14 (b : Nat) (cy : Nat → ClassId) : va_E := .inl (cy 1, 24, .inl (fun _ => 0))
abbrev Z15 (b : Nat) (cy : Nat → ClassId) : va_E := .inl (cy 1, 24, .inl (fun _ => 0))
abbrev Z16 (b : Nat) (cy : Nat → ClassId) : va_E := .inl (cy 1, 24, .inl (fun _ => 0))
abbrev Z17 (b : Nat) (cy : Nat → ClassId) : va_E := .inl (cy 1, 24, .inl (fun _ => 0))
abbrev Z18 (b : Nat) (cy : Nat → ClassId) : va_E := .inl (cy 1, 24, .inl (fun _ => 0))
abbrev Z19 (b : Nat) (cy : Nat → ClassId) : va_E := .inl (cy 1, 30, .inl (fun _ => 0))
abbrev Z20 (b : Nat) (cy : Nat → ClassId) : va_E := .inl (cy 1, 300, .inl (fun _ => 0))
abbrev Z21 (b : Nat) (cy : Nat → ClassId) : va_E := .inl (cy 1, 30, .inl (fun _ => 0))
abbrev Z22 (b : Nat) (cy : Nat → ClassId) : va_E := .inl (cy 1, 54, .inl (fun _ => 0))
abbrev Z23 (b : Nat) (cy : Nat → ClassId) : va_E := .inl (cy 0, 0, .inl (fun _ => 0))
abbrev Z24 (b : Nat) (cy : Nat → ClassId) : va_E := .inl (cy 1, 6, .inl (fun _ => 0))
abbrev Z25 (b : Nat) (cy : Nat → ClassId) : va_E := .inl (cy 1, 6, .inl (fun _ => 0))
abbrev Z26 (b : Nat) (cy : Nat → ClassId) : va_E := .inr (3, [.ref (b + 13), .int 0, .int 0, .ref (b + 27), .ref (b + 28), .ref (b + 29), .ref (b + 30), .ref (b + 31), .ref (b + 32)])
abbrev Z27 (b : Nat) (cy : Nat → ClassId) : va_E := .inl (cy 1, 24, .inl (fun _ => 0))
abbrev Z28 (b : Nat) (cy : Nat → ClassId) : va_E := .inl (cy 1, 24, .inl (fun _ => 0))
abbrev Z29 (b : Nat) (cy : Nat → ClassId) : va_E := .inl (cy 1, 24, .inl (fun _ => 0))
abbrev Z30 (b : Nat) (cy : Nat → ClassId) : va_E := .inl (cy 1, 6, .inl (fun _ => 0))
abbrev Z31 (b : Nat) (cy : Nat → ClassId) : va_E := .inl (cy 1, 6, .inl (fun _ => 0))
abbrev Z32 (b : Nat) (cy : Nat → ClassId) : va_E := .inl (cy 1, 6, .inl (fun _ => 0))
abbrev Z33 (b : Nat) (cy : Nat → ClassId) : va_E := .inr (3, [.ref (b + 2), .int 0, .int 0, .ref (b + 34), .ref (b + 35), .ref (b + 36), .ref (b + 37), .ref (b + 38), .ref (b + 39)])
abbrev Z34 (b : Nat) (cy : Nat → ClassId) : va_E := .inl (cy 1, 24, .inl (fun _ => 0))
abbrev Z35 (b : Nat) (cy : Nat → ClassId) : va_E := .inl (cy 1, 24, .inl (fun _ => 0))
abbrev Z36 (b : Nat) (cy : Nat → ClassId) : va_E := .inl (cy 1, 24, .inl (fun _ => 0))
abbrev Z37 (b : Nat) (cy : Nat → ClassId) : va_E := .inl (cy 1, 6, .inl (fun _ => 0))
abbrev Z38 (b : Nat) (cy : Nat → ClassId) : va_E := .inl (cy 1, 6, .inl (fun _ => 0))
abbrev Z39 (b : Nat) (cy : Nat → ClassId) : va_E := .inl (cy 1, 6, .inl (fun _ => 0))
abbrev Z40 (b : Nat) (cy : Nat → ClassId) : va_E := .inr (0, [.ref (b + 2), .int (-1), .ref (b + 41), .ref (b + 42), .ref (b + 43), .ref (b + 44), .ref (b + 45), .ref (b + 46)])
abbrev Z41 (b : Nat) (cy : Nat → ClassId) : va_E := .inl (cy 2, 1536, .inr (.inl (fun _ => 0)))
abbrev Z42 (b : Nat) (cy : Nat → ClassId) : va_E := .inl (cy 2, 1536, .inr (.inl (fun _ => 0)))
abbrev Z43 (b : Nat) (cy : Nat → ClassId) : va_E := .inl (cy 2, 384, .inr (.inl (fun _ => 0)))
abbrev Z44 (b : Nat) (cy : Nat → ClassId) : va_E := .inl (cy 2, 12288, .inr (.inl (fun _ => 0)))
abbrev Z45 (b : Nat) (cy : Nat → ClassId) : va_E := .inl (cy 2, 8, .inr (.inl (fun _ => 0)))
abbrev Z46 (b : Nat) (cy : Nat → ClassId) : va_E := .inl (cy 2, 12288, .inr (.inl (fun _ => 0)))
abbrev Z47 (b : Nat) (cy : Nat → ClassId) : va_E := .inr (4, [.ref (b + 2), .ref (b + 48), .int 0, .ref (b + 55), .ref (b + 56), .ref (b + 57), .ref (b + 58), .ref (b + 59)])
abbrev Z48 (b : Nat) (cy : Nat → ClassId) : va_E := .inr (0, [.ref (b + 2), .int (-1), .ref (b + 49), .ref (b + 50), .ref (b + 51), .ref (b + 52), .ref (b + 53), .ref (b + 54)])
abbrev Z49 (b : Nat) (cy : Nat → ClassId) : va_E := .inl (cy 2, 1536, .inr (.inl (fun _ => 0)))
abbrev Z50 (b : Nat) (cy : Nat → ClassId) : va_E := .inl (cy 2, 1536, .inr (.inl (fun _ => 0)))
abbrev Z51 (b : Nat) (cy : Nat → ClassId) : va_E := .inl (cy 2, 384, .inr (.inl (fun _ => 0)))
abbrev Z52 (b : Nat) (cy : Nat → ClassId) : va_E := .inl (cy 2, 12288, .inr (.inl (fun _ => 0)))
abbrev Z53 (b : Nat) (cy : Nat → ClassId) : va_E := .inl (cy 2, 8, .inr (.inl (fun _ => 0)))
abbrev Z54 (b : Nat) (cy : Nat → ClassId) : va_E := .inl (cy 2, 0, .inr (.inl (fun _ => 0)))
abbrev Z55 (b : Nat) (cy : Nat → ClassId) : va_E := .inl (cy 3, 26, .inl (fun _ => 0))
abbrev Z56 (b : Nat) (cy : Nat → ClassId) : va_E := .inl (cy 3, 60, .inl (fun _ => 0))
abbrev Z57 (b : Nat) (cy : Nat → ClassId) : va_E := .inl (cy 2, 48, .inr (.inl (fun _ => 0)))
abbrev Z58 (b : Nat) (cy : Nat → ClassId) : va_E := .inl (cy 2, 9984, .inr (.inl (fun _ => 0)))
abbrev Z59 (b : Nat) (cy : Nat → ClassId) : va_E := .inl (cy 2, 2880, .inr (.inl (fun _ => 0)))
abbrev Z60 (b : Nat) (cy : Nat → ClassId) : va_E := .inr (9, [.ref (b + 2), .ref (b + 40), .ref (b + 61), .ref (b + 64), .int 0, .int 0, .int 1, .int 0, .int 0, .ref (b + 65), .int 0, .ref (b + 66), .int 0, .int (-1), .int (-1)])
abbrev Z61 (b : Nat) (cy : Nat → ClassId) : va_E := .inr (8, [.ref (b + 2), .ref (b + 40), .int 0, .ref (b + 62), .ref (b + 63), .int 0])
abbrev Z62 (b : Nat) (cy : Nat → ClassId) : va_E := .inl (cy 1, 8, .inl (fun _ => 0))
abbrev Z63 (b : Nat) (cy : Nat → ClassId) : va_E := .inl (cy 4, 192, .inr (.inr (.inr (.inr (fun _ => none)))))
abbrev Z64 (b : Nat) (cy : Nat → ClassId) : va_E := .inl (cy 0, 256, .inl (fun _ => 0))
abbrev Z65 (b : Nat) (cy : Nat → ClassId) : va_E := .inl (cy 1, 26, .inl (fun _ => 0))
abbrev Z66 (b : Nat) (cy : Nat → ClassId) : va_E := .inl (cy 1, 1100, .inl (fun _ => 0))
abbrev Z67 (b : Nat) (cy : Nat → ClassId) : va_E := .inr (10, [.ref (b + 2), .ref (b + 68), .ref (b + 69), .int 0, .int 0, .int 0, .int 1, .ref (b + 70), .int 0, .ref (b + 71), .int 0, .ref (b + 72), .int 0])
abbrev Z68 (b : Nat) (cy : Nat → ClassId) : va_E := .inl (cy 0, 40, .inl (fun _ => 0))
abbrev Z69 (b : Nat) (cy : Nat → ClassId) : va_E := .inl (cy 0, 40, .inl (fun _ => 0))
abbrev Z70 (b : Nat) (cy : Nat → ClassId) : va_E := .inl (cy 1, 40, .inl (fun _ => 0))
abbrev Z71 (b : Nat) (cy : Nat → ClassId) : va_E := .inl (cy 1, 41, .inl (fun _ => 0))
abbrev Z72 (b : Nat) (cy : Nat → ClassId) : va_E := .inl (cy 1, 40, .inl (fun _ => 0))
abbrev Z73 (b : Nat) (cy : Nat → ClassId) : va_E := .inr (7, [.ref (b + 60), .ref (b + 74), .ref (b + 75), .ref (b + 76), .ref (b + 77), .ref (b + 78), .int (-1), .int (-1), .ref (b + 79)])
abbrev Z74 (b : Nat) (cy : Nat → ClassId) : va_E := .inl (cy 3, 48, .inl (fun _ => 0))
abbrev Z75 (b : Nat) (cy : Nat → ClassId) : va_E := .inl (cy 1, 48, .inl (fun _ => 0))
abbrev Z76 (b : Nat) (cy : Nat → ClassId) : va_E := .inl (cy 1, 48, .inl (fun _ => 0))
abbrev Z77 (b : Nat) (cy : Nat → ClassId) : va_E := .inl (cy 1, 1248, .inl (fun _ => 0))
abbrev Z78 (b : Nat) (cy : Nat → ClassId) : va_E := .inl (cy 1, 1248, .inl (fun _ => 0))
abbrev Z79 (b : Nat) (cy : Nat → ClassId) : va_E := .inl (cy 1, 26, .inl (fun _ => 0))
abbrev Z80 (b : Nat) (cy : Nat → ClassId) : va_E := .inr (1, [.ref (b + 40), .int 0, .int 0, .int 0, .int 0, .int 0, .int 0])
abbrev Z81 (b : Nat) (cy : Nat → ClassId) : va_E := .inl (cy 0, 40, .inl (fun _ => 0))
abbrev Z82 (b : Nat) (cy : Nat → ClassId) : va_E := .inl (cy 1, 10, .inl (fun _ => 0))
abbrev Z83 (b : Nat) (cy : Nat → ClassId) : va_E := .inr (12, [.ref (b + 84), .ref (b + 85), .ref (b + 86), .int 0, .int 0, .int (-1), .int 0, .int 0, .int 0, .int 0, .int 0, .ref (b + 87), .ref (b + 88), .ref (b + 89), .ref (b + 90), .ref (b + 91), .ref (b + 92), .ref (b + 93), .ref (b + 94), .ref (b + 95), .int 0, .int 0, .int 0, .int 0, .int 0, .int 0, .int 0, .int 0, .ref (b + 96), .ref (b + 97), .ref (b + 98), .int 0, .long 0, .ref (b + 99), .ref (b + 100), .ref (b + 101), .ref (b + 102), .ref (b + 103), .int 0, .ref (b + 104), .int 0, .int 0, .int (-1), .int (-1), .int 0, .int 0, .int 0, .int 0, .int 0, .int 0, .int 0, .int 0])
abbrev Z84 (b : Nat) (cy : Nat → ClassId) : va_E := .inl (cy 1, 228, .inl memI)
abbrev Z85 (b : Nat) (cy : Nat → ClassId) : va_E := .inl (cy 1, 228, .inl (fun _ => 0))
abbrev Z86 (b : Nat) (cy : Nat → ClassId) : va_E := .inl (cy 1, 400, .inl (fun _ => 0))
abbrev Z87 (b : Nat) (cy : Nat → ClassId) : va_E := .inl (cy 1, 48, .inl (fun _ => 0))
abbrev Z88 (b : Nat) (cy : Nat → ClassId) : va_E := .inl (cy 1, 6, .inl (fun _ => 0))
abbrev Z89 (b : Nat) (cy : Nat → ClassId) : va_E := .inl (cy 3, 30, .inl (fun _ => 0))
abbrev Z90 (b : Nat) (cy : Nat → ClassId) : va_E := .inl (cy 2, 1920, .inr (.inl (fun _ => 0)))
abbrev Z91 (b : Nat) (cy : Nat → ClassId) : va_E := .inl (cy 2, 1536, .inr (.inl (fun _ => 0)))
abbrev Z92 (b : Nat) (cy : Nat → ClassId) : va_E := .inl (cy 2, 512, .inr (.inl (fun _ => 0)))
abbrev Z93 (b : Nat) (cy : Nat → ClassId) : va_E := .inl (cy 2, 240, .inr (.inl (fun _ => 0)))
abbrev Z94 (b : Nat) (cy : Nat → ClassId) : va_E := .inl (cy 2, 192, .inr (.inl (fun _ => 0)))
abbrev Z95 (b : Nat) (cy : Nat → ClassId) : va_E := .inl (cy 2, 64, .inr (.inl (fun _ => 0)))
abbrev Z96 (b : Nat) (cy : Nat → ClassId) : va_E := .inl (cy 1, 40, .inl (fun _ => 0))
abbrev Z97 (b : Nat) (cy : Nat → ClassId) : va_E := .inl (cy 1, 512, .inl (fun _ => 0))
abbrev Z98 (b : Nat) (cy : Nat → ClassId) : va_E := .inl (cy 1, 512, .inl (fun _ => 0))
abbrev Z99 (b : Nat) (cy : Nat → ClassId) : va_E := .inl (cy 1, 1024, .inl (fun _ => 0))
abbrev Z100 (b : Nat) (cy : Nat → ClassId) : va_E := .inl (cy 1, 1024, .inl (fun _ => 0))
abbrev Z101 (b : Nat) (cy : Nat → ClassId) : va_E := .inl (cy 1, 1024, .inl (fun _ => 0))
abbrev Z102 (b : Nat) (cy : Nat → ClassId) : va_E := .inl (cy 1, 1024, .inl (fun _ => 0))
abbrev Z103 (b : Nat) (cy : Nat → ClassId) : va_E := .inl (cy 1, 1024, .inl (fun _ => 0))
abbrev Z104 (b : Nat) (cy : Nat → ClassId) : va_E := .inl (cy 1, 40, .inl (fun _ => 0))
set_option maxHeartbeats 4000000 in
set_option maxRecDepth 100000 in
theorem qX12_in (l : Launch) {D : va_G} {cy : Nat → ClassId} {b n : Nat} (hn : 105 ≤ n) {E : Nat → va_E}   (a1 : Int64) (a2 : Int64) (a3 : Int64) : gI l yX12_in cX12_in 6 (some .boolean) 0 0 0 D cy b n E [.long a1, .long a2, .long a3] (fun r u => r = (if a2 ≤ a1 ∧ a1 ≤ a3 then 1 else 0) ∧ u.1 = n ∧ u.2 = E) := by
  refine gI_of (by decide) (Nat.le_of_ble_eq_true rfl) ?_
  intro p e s m args below meth c S hr hlk hin hsz ls hl hG
  have hx := S.1
  have hb := S.2.1
  have hl : lv_has ls 6 [(0, .long a1), (2, .long a2), (4, .long a3)] := hl
  refine lv_lload_n hx hb dX12_in_0 rfl (lv_at hl 0 rfl) ?_
  refine lv_lload_n hx hb dX12_in_1 rfl (lv_at hl 1 rfl) ?_
  refine W.lcmp hx hb dX12_in_2 ?_
  refine lv_if_lt (tgt := 17) hx hb dX12_in_3 (by decide) (fun c_1 => ?_) (fun c_1 => ?_)
  · refine lv_iconst (v := 0) hx hb dX12_in_17 (by decide) ?_
    exact g_zret S hr hlk hG (by omega) dX12_in_18 ⟨Nat.le_of_ble_eq_true rfl, Nat.le_of_ble_eq_true rfl⟩ rfl ⟨by rw [if_neg (fun h => absurd h.1 (Int64.not_le.mpr ((lg_cmp_lt _ _).mp c_1)))], rfl, rfl⟩
  · refine lv_lload_n hx hb dX12_in_6 rfl (lv_at hl 0 rfl) ?_
    refine lv_lload hx hb dX12_in_7 (lv_at hl 2 rfl) ?_
    refine W.lcmp hx hb dX12_in_9 ?_
    refine lv_if_gt (tgt := 17) hx hb dX12_in_10 (by decide) (fun c_2 => ?_) (fun c_2 => ?_)
    · refine lv_iconst (v := 0) hx hb dX12_in_17 (by decide) ?_
      exact g_zret S hr hlk hG (by omega) dX12_in_18 ⟨Nat.le_of_ble_eq_true rfl, Nat.le_of_ble_eq_true rfl⟩ rfl ⟨by rw [if_neg (fun h => absurd h.2 (Int64.not_le.mpr ((lg_cmp_gt _ _).mp c_2)))], rfl, rfl⟩
    · refine lv_iconst (v := 1) hx hb dX12_in_13 (by decide) ?_
      refine lv_goto (tgt := 18) hx hb dX12_in_14 (by decide) ?_
      exact g_zret S hr hlk hG (by omega) dX12_in_18 ⟨Nat.le_of_ble_eq_true rfl, Nat.le_of_ble_eq_true rfl⟩ rfl ⟨by rw [if_pos ⟨Int64.not_lt.mp (mt (lg_cmp_lt _ _).mpr c_1), Int64.not_lt.mp (mt (lg_cmp_gt _ _).mpr c_2)⟩], rfl, rfl⟩
set_option maxHeartbeats 4000000 in
set_option maxRecDepth 100000 in
theorem qX11_known (l : Launch) {D : va_G} {cy : Nat → ClassId} {b n : Nat} (hn : 105 ≤ n) {E : Nat → va_E} (h0 : E 0 = Z0 b cy) (h2 : E 2 = Z2 b cy)  (a1 : Int32) : gI l yX11_known cX11_known 2 (some .boolean) 0 0 0 D cy b n E [.ref (b + 0), .int a1] (fun r u => r = 0 ∧ u.1 = n ∧ u.2 = E) := by
  refine gI_of (by decide) (Nat.le_of_ble_eq_true rfl) ?_
  intro p e s m args below meth c S hr hlk hin hsz ls hl hG
  have hx := S.1
  have hb := S.2.1
  have hl : lv_has ls 2 [(0, .ref (b + 0)), (1, .int a1)] := hl
  refine lv_iload_n hx hb dX11_known_0 rfl (lv_at hl 1 rfl) ?_
  refine lv_if_lt (tgt := 19) hx hb dX11_known_1 (by decide) (fun c_1 => ?_) (fun c_1 => ?_)
  · refine lv_iconst (v := 0) hx hb dX11_known_19 (by decide) ?_
    exact g_zret S hr hlk hG (by omega) dX11_known_20 ⟨Nat.le_of_ble_eq_true rfl, Nat.le_of_ble_eq_true rfl⟩ rfl ⟨rfl, rfl, rfl⟩
  · refine lv_iload_n hx hb dX11_known_4 rfl (lv_at hl 1 rfl) ?_
    refine lv_aload_n hx hb dX11_known_5 rfl (lv_at hl 0 rfl) ?_
    refine g_get S hG 0 2 h0 cpX11 wm_668 dX11_known_6 rfl (by omega) (by decide) ?_
    refine g_get S hG 2 1 h2 cpX2 wm_221 dX11_known_9 rfl (by omega) (by decide) ?_
    refine lv_icmp_ge (tgt := 19) hx hb dX11_known_12 (by decide) (fun c_2 => ?_) (fun c_2 => (show False by have k0 : (0 : Int32).toInt = 0   := (by decide); have h0 := c_2; have h1 := c_1; simp only [Int32.lt_iff_toInt_lt, Int32.le_iff_toInt_le, Int32.not_lt, Int32.not_le, ← Int32.toInt_inj] at h0 h1 <;> omega).elim)
    refine lv_iconst (v := 0) hx hb dX11_known_19 (by decide) ?_
    exact g_zret S hr hlk hG (by omega) dX11_known_20 ⟨Nat.le_of_ble_eq_true rfl, Nat.le_of_ble_eq_true rfl⟩ rfl ⟨rfl, rfl, rfl⟩
theorem wV_11_168 : gWV "GrownKinds" 168 yX11_known cX11_known 2 (some .boolean) := ⟨wm_1109, wm_1111, wm_48, wm_176, wm_1112, by decide +kernel, by decide +kernel⟩
set_option maxHeartbeats 4000000 in
set_option maxRecDepth 100000 in
theorem qX11_sized (l : Launch) {D : va_G} {cy : Nat → ClassId} {b n : Nat} (hn : 105 ≤ n) {E : Nat → va_E} (h0 : E 0 = Z0 b cy) (h2 : E 2 = Z2 b cy)  (a1 : Int32) (a2 : Int32) : gI l yX11_sized cX11_sized 3 (some .boolean) 1 0 0 D cy b n E [.ref (b + 0), .int a1, .int a2] (fun r u => r = 0 ∧ u.1 = n ∧ u.2 = E) := by
  refine gI_of (by decide) (Nat.le_of_ble_eq_true rfl) ?_
  intro p e s m args below meth c S hr hlk hin hsz ls hl hG
  have hx := S.1
  have hb := S.2.1
  have hl : lv_has ls 3 [(0, .ref (b + 0)), (1, .int a1), (2, .int a2)] := hl
  refine lv_aload_n hx hb dX11_sized_0 rfl (lv_at hl 0 rfl) ?_
  refine lv_iload_n hx hb dX11_sized_1 rfl (lv_at hl 1 rfl) ?_
  refine g_vi (As := [.int a1]) (rest := []) S hG (by omega) (qX11_known l hn h0 h2 a1) wV_11_168 h0 cpX11 (by omega) dX11_sized_2 rfl hl.1 (ar := 1) (by decide +kernel) rfl ⟨Nat.le_of_ble_eq_true rfl, Nat.le_of_ble_eq_true rfl, Nat.le_of_ble_eq_true rfl, Nat.le_of_ble_eq_true rfl⟩ (Nat.le_of_ble_eq_true rfl) (fun r_3 u_E_1 H locs hp_2 hG => ?_)
  obtain ⟨n_E_1, E_1⟩ := u_E_1
  dsimp only at hp_2 hG
  obtain ⟨rfl, nhp_2, ehp_2⟩ := hp_2
  have hG := gW_eq2 hG nhp_2 ehp_2
  refine lv_if_eq (tgt := 27) hx hb dX11_sized_5 (by decide) (fun c_4 => ?_) (fun c_4 => absurd c_4 (by decide))
  refine lv_iconst (v := 0) hx hb dX11_sized_27 (by decide) ?_
  exact g_zret S hr hlk hG (by omega) dX11_sized_28 ⟨Nat.le_of_ble_eq_true rfl, Nat.le_of_ble_eq_true rfl⟩ rfl ⟨rfl, rfl, rfl⟩
set_option maxHeartbeats 4000000 in
set_option maxRecDepth 100000 in
theorem qX11_termed (l : Launch) {D : va_G} {cy : Nat → ClassId} {b n : Nat} (hn : 105 ≤ n) {E : Nat → va_E} (h0 : E 0 = Z0 b cy) (h2 : E 2 = Z2 b cy)  (a1 : Int32) (a2 : Int32) : gI l yX11_termed cX11_termed 3 (some .boolean) 1 0 0 D cy b n E [.ref (b + 0), .int a1, .int a2] (fun r u => r = 0 ∧ u.1 = n ∧ u.2 = E) := by
  refine gI_of (by decide) (Nat.le_of_ble_eq_true rfl) ?_
  intro p e s m args below meth c S hr hlk hin hsz ls hl hG
  have hx := S.1
  have hb := S.2.1
  have hl : lv_has ls 3 [(0, .ref (b + 0)), (1, .int a1), (2, .int a2)] := hl
  refine lv_aload_n hx hb dX11_termed_0 rfl (lv_at hl 0 rfl) ?_
  refine lv_iload_n hx hb dX11_termed_1 rfl (lv_at hl 1 rfl) ?_
  refine g_vi (As := [.int a1]) (rest := []) S hG (by omega) (qX11_known l hn h0 h2 a1) wV_11_168 h0 cpX11 (by omega) dX11_termed_2 rfl hl.1 (ar := 1) (by decide +kernel) rfl ⟨Nat.le_of_ble_eq_true rfl, Nat.le_of_ble_eq_true rfl, Nat.le_of_ble_eq_true rfl, Nat.le_of_ble_eq_true rfl⟩ (Nat.le_of_ble_eq_true rfl) (fun r_3 u_E_1 H locs hp_2 hG => ?_)
  obtain ⟨n_E_1, E_1⟩ := u_E_1
  dsimp only at hp_2 hG
  obtain ⟨rfl, nhp_2, ehp_2⟩ := hp_2
  have hG := gW_eq2 hG nhp_2 ehp_2
  refine lv_if_eq (tgt := 29) hx hb dX11_termed_5 (by decide) (fun c_4 => ?_) (fun c_4 => absurd c_4 (by decide))
  refine lv_iconst (v := 0) hx hb dX11_termed_29 (by decide) ?_
  exact g_zret S hr hlk hG (by omega) dX11_termed_30 ⟨Nat.le_of_ble_eq_true rfl, Nat.le_of_ble_eq_true rfl⟩ rfl ⟨rfl, rfl, rfl⟩
theorem wV_11_175 : gWV "GrownKinds" 175 yX11_sized cX11_sized 3 (some .boolean) := ⟨wm_1162, wm_1164, wm_49, wm_176, wm_1165, by decide +kernel, by decide +kernel⟩
set_option maxHeartbeats 4000000 in
set_option maxRecDepth 100000 in
theorem qX11_boxy (l : Launch) {D : va_G} {cy : Nat → ClassId} {b n : Nat} (hn : 105 ≤ n) {E : Nat → va_E} (h0 : E 0 = Z0 b cy) (h2 : E 2 = Z2 b cy)  (a1 : Int32) (a2 : Int32) (a3 : Int32) : gI l yX11_boxy cX11_boxy 4 (some .boolean) 2 0 0 D cy b n E [.ref (b + 0), .int a1, .int a2, .int a3] (fun r u => r = 0 ∧ u.1 = n ∧ u.2 = E) := by
  refine gI_of (by decide) (Nat.le_of_ble_eq_true rfl) ?_
  intro p e s m args below meth c S hr hlk hin hsz ls hl hG
  have hx := S.1
  have hb := S.2.1
  have hl : lv_has ls 4 [(0, .ref (b + 0)), (1, .int a1), (2, .int a2), (3, .int a3)] := hl
  refine lv_aload_n hx hb dX11_boxy_0 rfl (lv_at hl 0 rfl) ?_
  refine lv_iload_n hx hb dX11_boxy_1 rfl (lv_at hl 1 rfl) ?_
  refine lv_iload_n hx hb dX11_boxy_2 rfl (lv_at hl 2 rfl) ?_
  refine g_vi (As := [.int a1, .int a2]) (rest := []) S hG (by omega) (qX11_sized l hn h0 h2 a1 a2) wV_11_175 h0 cpX11 (by omega) dX11_boxy_3 rfl hl.1 (ar := 2) (by decide +kernel) rfl ⟨Nat.le_of_ble_eq_true rfl, Nat.le_of_ble_eq_true rfl, Nat.le_of_ble_eq_true rfl, Nat.le_of_ble_eq_true rfl⟩ (Nat.le_of_ble_eq_true rfl) (fun r_3 u_E_1 H locs hp_2 hG => ?_)
  obtain ⟨n_E_1, E_1⟩ := u_E_1
  dsimp only at hp_2 hG
  obtain ⟨rfl, nhp_2, ehp_2⟩ := hp_2
  have hG := gW_eq2 hG nhp_2 ehp_2
  refine lv_if_eq (tgt := 27) hx hb dX11_boxy_6 (by decide) (fun c_4 => ?_) (fun c_4 => absurd c_4 (by decide))
  refine lv_iconst (v := 0) hx hb dX11_boxy_27 (by decide) ?_
  exact g_zret S hr hlk hG (by omega) dX11_boxy_28 ⟨Nat.le_of_ble_eq_true rfl, Nat.le_of_ble_eq_true rfl⟩ rfl ⟨rfl, rfl, rfl⟩
set_option maxHeartbeats 4000000 in
set_option maxRecDepth 100000 in
theorem qX11_lettered (l : Launch) {D : va_G} {cy : Nat → ClassId} {b n : Nat} (hn : 105 ≤ n) {E : Nat → va_E}   (a1 : Int32) : gI l yX11_lettered cX11_lettered 1 (some .boolean) 0 0 0 D cy b n E [.int a1] (fun _ u => u.1 = n ∧ u.2 = E) := by
  refine gI_of (by decide) (Nat.le_of_ble_eq_true rfl) ?_
  intro p e s m args below meth c S hr hlk hin hsz ls hl hG
  have hx := S.1
  have hb := S.2.1
  have hl : lv_has ls 1 [(0, .int a1)] := hl
  refine lv_iload_n hx hb dX11_lettered_0 rfl (lv_at hl 0 rfl) ?_
  refine lv_if_lt (tgt := 14) hx hb dX11_lettered_1 (by decide) (fun c_1 => ?_) (fun c_1 => ?_)
  · refine lv_iconst (v := 0) hx hb dX11_lettered_14 (by decide) ?_
    exact g_zret S hr hlk hG (by omega) dX11_lettered_15 ⟨Nat.le_of_ble_eq_true rfl, Nat.le_of_ble_eq_true rfl⟩ rfl ⟨rfl, rfl⟩
  · refine lv_iload_n hx hb dX11_lettered_4 rfl (lv_at hl 0 rfl) ?_
    refine lv_bipush (v := 26) hx hb dX11_lettered_5 (by decide) ?_
    refine lv_icmp_ge (tgt := 14) hx hb dX11_lettered_7 (by decide) (fun c_2 => ?_) (fun c_2 => ?_)
    · refine lv_iconst (v := 0) hx hb dX11_lettered_14 (by decide) ?_
      exact g_zret S hr hlk hG (by omega) dX11_lettered_15 ⟨Nat.le_of_ble_eq_true rfl, Nat.le_of_ble_eq_true rfl⟩ rfl ⟨rfl, rfl⟩
    · refine lv_iconst (v := 1) hx hb dX11_lettered_10 (by decide) ?_
      refine lv_goto (tgt := 15) hx hb dX11_lettered_11 (by decide) ?_
      exact g_zret S hr hlk hG (by omega) dX11_lettered_15 ⟨Nat.le_of_ble_eq_true rfl, Nat.le_of_ble_eq_true rfl⟩ rfl ⟨rfl, rfl⟩
set_option maxHeartbeats 4000000 in
set_option maxRecDepth 100000 in
theorem qX11_terms (l : Launch) {D : va_G} {cy : Nat → ClassId} {b n : Nat} (hn : 105 ≤ n) {E : Nat → va_E} (h0 : E 0 = Z0 b cy) (h2 : E 2 = Z2 b cy)  (a1 : Int32) : gI l yX11_terms cX11_terms 2 (some .int) 1 0 0 D cy b n E [.ref (b + 0), .int a1] (fun r u => r = (-2) ∧ u.1 = n ∧ u.2 = E) := by
  refine gI_of (by decide) (Nat.le_of_ble_eq_true rfl) ?_
  intro p e s m args below meth c S hr hlk hin hsz ls hl hG
  have hx := S.1
  have hb := S.2.1
  have hl : lv_has ls 2 [(0, .ref (b + 0)), (1, .int a1)] := hl
  refine lv_aload_n hx hb dX11_terms_0 rfl (lv_at hl 0 rfl) ?_
  refine lv_iload_n hx hb dX11_terms_1 rfl (lv_at hl 1 rfl) ?_
  refine g_vi (As := [.int a1]) (rest := []) S hG (by omega) (qX11_known l hn h0 h2 a1) wV_11_168 h0 cpX11 (by omega) dX11_terms_2 rfl hl.1 (ar := 1) (by decide +kernel) rfl ⟨Nat.le_of_ble_eq_true rfl, Nat.le_of_ble_eq_true rfl, Nat.le_of_ble_eq_true rfl, Nat.le_of_ble_eq_true rfl⟩ (Nat.le_of_ble_eq_true rfl) (fun r_3 u_E_1 H locs hp_2 hG => ?_)
  obtain ⟨n_E_1, E_1⟩ := u_E_1
  dsimp only at hp_2 hG
  obtain ⟨rfl, nhp_2, ehp_2⟩ := hp_2
  have hG := gW_eq2 hG nhp_2 ehp_2
  refine lv_if_eq (tgt := 20) hx hb dX11_terms_5 (by decide) (fun c_4 => ?_) (fun c_4 => absurd c_4 (by decide))
  refine lv_bipush (v := (-2)) hx hb dX11_terms_20 (by decide) ?_
  exact g_iret S hr hlk hG (by omega) dX11_terms_22 ⟨Nat.le_of_ble_eq_true rfl, Nat.le_of_ble_eq_true rfl⟩ ⟨rfl, rfl, rfl⟩
set_option maxHeartbeats 4000000 in
set_option maxRecDepth 100000 in
theorem qX11_off (l : Launch) {D : va_G} {cy : Nat → ClassId} {b n : Nat} (hn : 105 ≤ n) {E : Nat → va_E} (h0 : E 0 = Z0 b cy) (h2 : E 2 = Z2 b cy)  (a1 : Int32) : gI l yX11_off cX11_off 2 (some .int) 1 0 0 D cy b n E [.ref (b + 0), .int a1] (fun r u => r = (-2) ∧ u.1 = n ∧ u.2 = E) := by
  refine gI_of (by decide) (Nat.le_of_ble_eq_true rfl) ?_
  intro p e s m args below meth c S hr hlk hin hsz ls hl hG
  have hx := S.1
  have hb := S.2.1
  have hl : lv_has ls 2 [(0, .ref (b + 0)), (1, .int a1)] := hl
  refine lv_aload_n hx hb dX11_off_0 rfl (lv_at hl 0 rfl) ?_
  refine lv_iload_n hx hb dX11_off_1 rfl (lv_at hl 1 rfl) ?_
  refine g_vi (As := [.int a1]) (rest := []) S hG (by omega) (qX11_known l hn h0 h2 a1) wV_11_168 h0 cpX11 (by omega) dX11_off_2 rfl hl.1 (ar := 1) (by decide +kernel) rfl ⟨Nat.le_of_ble_eq_true rfl, Nat.le_of_ble_eq_true rfl, Nat.le_of_ble_eq_true rfl, Nat.le_of_ble_eq_true rfl⟩ (Nat.le_of_ble_eq_true rfl) (fun r_3 u_E_1 H locs hp_2 hG => ?_)
  obtain ⟨n_E_1, E_1⟩ := u_E_1
  dsimp only at hp_2 hG
  obtain ⟨rfl, nhp_2, ehp_2⟩ := hp_2
  have hG := gW_eq2 hG nhp_2 ehp_2
  refine lv_if_eq (tgt := 20) hx hb dX11_off_5 (by decide) (fun c_4 => ?_) (fun c_4 => absurd c_4 (by decide))
  refine lv_bipush (v := (-2)) hx hb dX11_off_20 (by decide) ?_
  exact g_iret S hr hlk hG (by omega) dX11_off_22 ⟨Nat.le_of_ble_eq_true rfl, Nat.le_of_ble_eq_true rfl⟩ ⟨rfl, rfl, rfl⟩
set_option maxHeartbeats 4000000 in
set_option maxRecDepth 100000 in
theorem qX11_letters (l : Launch) {D : va_G} {cy : Nat → ClassId} {b n : Nat} (hn : 105 ≤ n) {E : Nat → va_E} (h0 : E 0 = Z0 b cy) (h2 : E 2 = Z2 b cy)  (a1 : Int32) : gI l yX11_letters cX11_letters 2 (some .int) 1 0 0 D cy b n E [.ref (b + 0), .int a1] (fun r u => r = (-2) ∧ u.1 = n ∧ u.2 = E) := by
  refine gI_of (by decide) (Nat.le_of_ble_eq_true rfl) ?_
  intro p e s m args below meth c S hr hlk hin hsz ls hl hG
  have hx := S.1
  have hb := S.2.1
  have hl : lv_has ls 2 [(0, .ref (b + 0)), (1, .int a1)] := hl
  refine lv_aload_n hx hb dX11_letters_0 rfl (lv_at hl 0 rfl) ?_
  refine lv_iload_n hx hb dX11_letters_1 rfl (lv_at hl 1 rfl) ?_
  refine g_vi (As := [.int a1]) (rest := []) S hG (by omega) (qX11_known l hn h0 h2 a1) wV_11_168 h0 cpX11 (by omega) dX11_letters_2 rfl hl.1 (ar := 1) (by decide +kernel) rfl ⟨Nat.le_of_ble_eq_true rfl, Nat.le_of_ble_eq_true rfl, Nat.le_of_ble_eq_true rfl, Nat.le_of_ble_eq_true rfl⟩ (Nat.le_of_ble_eq_true rfl) (fun r_3 u_E_1 H locs hp_2 hG => ?_)
  obtain ⟨n_E_1, E_1⟩ := u_E_1
  dsimp only at hp_2 hG
  obtain ⟨rfl, nhp_2, ehp_2⟩ := hp_2
  have hG := gW_eq2 hG nhp_2 ehp_2
  refine lv_if_eq (tgt := 20) hx hb dX11_letters_5 (by decide) (fun c_4 => ?_) (fun c_4 => absurd c_4 (by decide))
  refine lv_bipush (v := (-2)) hx hb dX11_letters_20 (by decide) ?_
  exact g_iret S hr hlk hG (by omega) dX11_letters_22 ⟨Nat.le_of_ble_eq_true rfl, Nat.le_of_ble_eq_true rfl⟩ ⟨rfl, rfl, rfl⟩
set_option maxHeartbeats 4000000 in
set_option maxRecDepth 100000 in
theorem qX11_uses (l : Launch) {D : va_G} {cy : Nat → ClassId} {b n : Nat} (hn : 105 ≤ n) {E : Nat → va_E} (h0 : E 0 = Z0 b cy) (h2 : E 2 = Z2 b cy)  (a1 : Int32) : gI l yX11_uses cX11_uses 2 (some .int) 1 0 0 D cy b n E [.ref (b + 0), .int a1] (fun r u => r = (-2) ∧ u.1 = n ∧ u.2 = E) := by
  refine gI_of (by decide) (Nat.le_of_ble_eq_true rfl) ?_
  intro p e s m args below meth c S hr hlk hin hsz ls hl hG
  have hx := S.1
  have hb := S.2.1
  have hl : lv_has ls 2 [(0, .ref (b + 0)), (1, .int a1)] := hl
  refine lv_aload_n hx hb dX11_uses_0 rfl (lv_at hl 0 rfl) ?_
  refine lv_iload_n hx hb dX11_uses_1 rfl (lv_at hl 1 rfl) ?_
  refine g_vi (As := [.int a1]) (rest := []) S hG (by omega) (qX11_known l hn h0 h2 a1) wV_11_168 h0 cpX11 (by omega) dX11_uses_2 rfl hl.1 (ar := 1) (by decide +kernel) rfl ⟨Nat.le_of_ble_eq_true rfl, Nat.le_of_ble_eq_true rfl, Nat.le_of_ble_eq_true rfl, Nat.le_of_ble_eq_true rfl⟩ (Nat.le_of_ble_eq_true rfl) (fun r_3 u_E_1 H locs hp_2 hG => ?_)
  obtain ⟨n_E_1, E_1⟩ := u_E_1
  dsimp only at hp_2 hG
  obtain ⟨rfl, nhp_2, ehp_2⟩ := hp_2
  have hG := gW_eq2 hG nhp_2 ehp_2
  refine lv_if_eq (tgt := 20) hx hb dX11_uses_5 (by decide) (fun c_4 => ?_) (fun c_4 => absurd c_4 (by decide))
  refine lv_bipush (v := (-2)) hx hb dX11_uses_20 (by decide) ?_
  exact g_iret S hr hlk hG (by omega) dX11_uses_22 ⟨Nat.le_of_ble_eq_true rfl, Nat.le_of_ble_eq_true rfl⟩ ⟨rfl, rfl, rfl⟩
set_option maxHeartbeats 4000000 in
set_option maxRecDepth 100000 in
theorem qX11_reaches (l : Launch) {D : va_G} {cy : Nat → ClassId} {b n : Nat} (hn : 105 ≤ n) {E : Nat → va_E} (h0 : E 0 = Z0 b cy) (h2 : E 2 = Z2 b cy)  (a1 : Int32) : gI l yX11_reaches cX11_reaches 2 (some .int) 1 0 0 D cy b n E [.ref (b + 0), .int a1] (fun r u => r = (-2) ∧ u.1 = n ∧ u.2 = E) := by
  refine gI_of (by decide) (Nat.le_of_ble_eq_true rfl) ?_
  intro p e s m args below meth c S hr hlk hin hsz ls hl hG
  have hx := S.1
  have hb := S.2.1
  have hl : lv_has ls 2 [(0, .ref (b + 0)), (1, .int a1)] := hl
  refine lv_aload_n hx hb dX11_reaches_0 rfl (lv_at hl 0 rfl) ?_
  refine lv_iload_n hx hb dX11_reaches_1 rfl (lv_at hl 1 rfl) ?_
  refine g_vi (As := [.int a1]) (rest := []) S hG (by omega) (qX11_known l hn h0 h2 a1) wV_11_168 h0 cpX11 (by omega) dX11_reaches_2 rfl hl.1 (ar := 1) (by decide +kernel) rfl ⟨Nat.le_of_ble_eq_true rfl, Nat.le_of_ble_eq_true rfl, Nat.le_of_ble_eq_true rfl, Nat.le_of_ble_eq_true rfl⟩ (Nat.le_of_ble_eq_true rfl) (fun r_3 u_E_1 H locs hp_2 hG => ?_)
  obtain ⟨n_E_1, E_1⟩ := u_E_1
  dsimp only at hp_2 hG
  obtain ⟨rfl, nhp_2, ehp_2⟩ := hp_2
  have hG := gW_eq2 hG nhp_2 ehp_2
  refine lv_if_eq (tgt := 22) hx hb dX11_reaches_5 (by decide) (fun c_4 => ?_) (fun c_4 => absurd c_4 (by decide))
  refine lv_bipush (v := (-2)) hx hb dX11_reaches_22 (by decide) ?_
  exact g_iret S hr hlk hG (by omega) dX11_reaches_24 ⟨Nat.le_of_ble_eq_true rfl, Nat.le_of_ble_eq_true rfl⟩ ⟨rfl, rfl, rfl⟩
set_option maxHeartbeats 4000000 in
set_option maxRecDepth 100000 in
theorem qX11_empty (l : Launch) {D : va_G} {cy : Nat → ClassId} {b n : Nat} (hn : 105 ≤ n) {E : Nat → va_E} (h0 : E 0 = Z0 b cy) (h2 : E 2 = Z2 b cy)  (a1 : Int32) : gI l yX11_empty cX11_empty 2 (some .int) 1 0 0 D cy b n E [.ref (b + 0), .int a1] (fun r u => r = (-2) ∧ u.1 = n ∧ u.2 = E) := by
  refine gI_of (by decide) (Nat.le_of_ble_eq_true rfl) ?_
  intro p e s m args below meth c S hr hlk hin hsz ls hl hG
  have hx := S.1
  have hb := S.2.1
  have hl : lv_has ls 2 [(0, .ref (b + 0)), (1, .int a1)] := hl
  refine lv_aload_n hx hb dX11_empty_0 rfl (lv_at hl 0 rfl) ?_
  refine lv_iload_n hx hb dX11_empty_1 rfl (lv_at hl 1 rfl) ?_
  refine g_vi (As := [.int a1]) (rest := []) S hG (by omega) (qX11_known l hn h0 h2 a1) wV_11_168 h0 cpX11 (by omega) dX11_empty_2 rfl hl.1 (ar := 1) (by decide +kernel) rfl ⟨Nat.le_of_ble_eq_true rfl, Nat.le_of_ble_eq_true rfl, Nat.le_of_ble_eq_true rfl, Nat.le_of_ble_eq_true rfl⟩ (Nat.le_of_ble_eq_true rfl) (fun r_3 u_E_1 H locs hp_2 hG => ?_)
  obtain ⟨n_E_1, E_1⟩ := u_E_1
  dsimp only at hp_2 hG
  obtain ⟨rfl, nhp_2, ehp_2⟩ := hp_2
  have hG := gW_eq2 hG nhp_2 ehp_2
  refine lv_if_eq (tgt := 22) hx hb dX11_empty_5 (by decide) (fun c_4 => ?_) (fun c_4 => absurd c_4 (by decide))
  refine lv_bipush (v := (-2)) hx hb dX11_empty_22 (by decide) ?_
  exact g_iret S hr hlk hG (by omega) dX11_empty_24 ⟨Nat.le_of_ble_eq_true rfl, Nat.le_of_ble_eq_true rfl⟩ ⟨rfl, rfl, rfl⟩
set_option maxHeartbeats 4000000 in
set_option maxRecDepth 100000 in
theorem qX11_leans (l : Launch) {D : va_G} {cy : Nat → ClassId} {b n : Nat} (hn : 105 ≤ n) {E : Nat → va_E} (h0 : E 0 = Z0 b cy) (h2 : E 2 = Z2 b cy)  (a1 : Int32) : gI l yX11_leans cX11_leans 2 (some .int) 1 0 0 D cy b n E [.ref (b + 0), .int a1] (fun r u => r = (-2) ∧ u.1 = n ∧ u.2 = E) := by
  refine gI_of (by decide) (Nat.le_of_ble_eq_true rfl) ?_
  intro p e s m args below meth c S hr hlk hin hsz ls hl hG
  have hx := S.1
  have hb := S.2.1
  have hl : lv_has ls 2 [(0, .ref (b + 0)), (1, .int a1)] := hl
  refine lv_aload_n hx hb dX11_leans_0 rfl (lv_at hl 0 rfl) ?_
  refine lv_iload_n hx hb dX11_leans_1 rfl (lv_at hl 1 rfl) ?_
  refine g_vi (As := [.int a1]) (rest := []) S hG (by omega) (qX11_known l hn h0 h2 a1) wV_11_168 h0 cpX11 (by omega) dX11_leans_2 rfl hl.1 (ar := 1) (by decide +kernel) rfl ⟨Nat.le_of_ble_eq_true rfl, Nat.le_of_ble_eq_true rfl, Nat.le_of_ble_eq_true rfl, Nat.le_of_ble_eq_true rfl⟩ (Nat.le_of_ble_eq_true rfl) (fun r_3 u_E_1 H locs hp_2 hG => ?_)
  obtain ⟨n_E_1, E_1⟩ := u_E_1
  dsimp only at hp_2 hG
  obtain ⟨rfl, nhp_2, ehp_2⟩ := hp_2
  have hG := gW_eq2 hG nhp_2 ehp_2
  refine lv_if_eq (tgt := 20) hx hb dX11_leans_5 (by decide) (fun c_4 => ?_) (fun c_4 => absurd c_4 (by decide))
  refine lv_bipush (v := (-2)) hx hb dX11_leans_20 (by decide) ?_
  exact g_iret S hr hlk hG (by omega) dX11_leans_22 ⟨Nat.le_of_ble_eq_true rfl, Nat.le_of_ble_eq_true rfl⟩ ⟨rfl, rfl, rfl⟩
set_option maxHeartbeats 4000000 in
set_option maxRecDepth 100000 in
theorem qX11_blank (l : Launch) {D : va_G} {cy : Nat → ClassId} {b n : Nat} (hn : 105 ≤ n) {E : Nat → va_E} (h0 : E 0 = Z0 b cy) (h2 : E 2 = Z2 b cy)   : gI l yX11_blank cX11_blank 3 (some .int) 0 0 0 D cy b n E [.ref (b + 0)] (fun r u => r = (-2) ∧ u.1 = n ∧ u.2 = E) := by
  refine gI_of (by decide) (Nat.le_of_ble_eq_true rfl) ?_
  intro p e s m args below meth c S hr hlk hin hsz ls hl hG
  have hx := S.1
  have hb := S.2.1
  have hl : lv_has ls 3 [(0, .ref (b + 0))] := hl
  refine lv_aload_n hx hb dX11_blank_0 rfl (lv_at hl 0 rfl) ?_
  refine g_get S hG 0 2 h0 cpX11 wm_668 dX11_blank_1 rfl (by omega) (by decide) ?_
  refine g_get S hG 2 2 h2 cpX2 wm_224 dX11_blank_4 rfl (by omega) (by decide) ?_
  refine lv_if_ne (tgt := 13) hx hb dX11_blank_7 (by decide) (fun c_1 => absurd c_1 (by decide)) (fun c_1 => ?_)
  refine lv_bipush (v := (-2)) hx hb dX11_blank_10 (by decide) ?_
  exact g_iret S hr hlk hG (by omega) dX11_blank_12 ⟨Nat.le_of_ble_eq_true rfl, Nat.le_of_ble_eq_true rfl⟩ ⟨rfl, rfl, rfl⟩
set_option maxHeartbeats 4000000 in
set_option maxRecDepth 100000 in
theorem qX11_things (l : Launch) {D : va_G} {cy : Nat → ClassId} {b n : Nat} (hn : 105 ≤ n) {E : Nat → va_E} (h0 : E 0 = Z0 b cy) (h2 : E 2 = Z2 b cy)  (a1 : Int32) (a2 : Int32) : gL l yX11_things cX11_things 3 2 0 0 D cy b n E [.ref (b + 0), .int a1, .int a2] (fun r u => r = (-2) ∧ u.1 = n ∧ u.2 = E) := by
  refine gL_of (by decide) (Nat.le_of_ble_eq_true rfl) ?_
  intro p e s m args below meth c S hr hlk hin hsz ls hl hG
  have hx := S.1
  have hb := S.2.1
  have hl : lv_has ls 3 [(0, .ref (b + 0)), (1, .int a1), (2, .int a2)] := hl
  refine lv_aload_n hx hb dX11_things_0 rfl (lv_at hl 0 rfl) ?_
  refine lv_iload_n hx hb dX11_things_1 rfl (lv_at hl 1 rfl) ?_
  refine lv_iload_n hx hb dX11_things_2 rfl (lv_at hl 2 rfl) ?_
  refine g_vi (As := [.int a1, .int a2]) (rest := []) S hG (by omega) (qX11_sized l hn h0 h2 a1 a2) wV_11_175 h0 cpX11 (by omega) dX11_things_3 rfl hl.1 (ar := 2) (by decide +kernel) rfl ⟨Nat.le_of_ble_eq_true rfl, Nat.le_of_ble_eq_true rfl, Nat.le_of_ble_eq_true rfl, Nat.le_of_ble_eq_true rfl⟩ (Nat.le_of_ble_eq_true rfl) (fun r_3 u_E_1 H locs hp_2 hG => ?_)
  obtain ⟨n_E_1, E_1⟩ := u_E_1
  dsimp only at hp_2 hG
  obtain ⟨rfl, nhp_2, ehp_2⟩ := hp_2
  have hG := gW_eq2 hG nhp_2 ehp_2
  refine lv_if_eq (tgt := 21) hx hb dX11_things_6 (by decide) (fun c_4 => ?_) (fun c_4 => absurd c_4 (by decide))
  refine lv_ldc2 (v := -2) hx hb S.2.2.2.1 (S.2.2.2.2 _ wm_1166) dX11_things_21 ?_
  exact g_lret S hr hlk hG (by omega) dX11_things_24 ⟨Nat.le_of_ble_eq_true rfl, Nat.le_of_ble_eq_true rfl⟩ ⟨rfl, rfl, rfl⟩
set_option maxHeartbeats 4000000 in
set_option maxRecDepth 100000 in
theorem qX11_labelled (l : Launch) {D : va_G} {cy : Nat → ClassId} {b n : Nat} (hn : 105 ≤ n) {E : Nat → va_E} (h0 : E 0 = Z0 b cy) (h2 : E 2 = Z2 b cy)  (a1 : Int32) (a2 : Int32) : gL l yX11_labelled cX11_labelled 3 2 0 0 D cy b n E [.ref (b + 0), .int a1, .int a2] (fun r u => r = (-2) ∧ u.1 = n ∧ u.2 = E) := by
  refine gL_of (by decide) (Nat.le_of_ble_eq_true rfl) ?_
  intro p e s m args below meth c S hr hlk hin hsz ls hl hG
  have hx := S.1
  have hb := S.2.1
  have hl : lv_has ls 3 [(0, .ref (b + 0)), (1, .int a1), (2, .int a2)] := hl
  refine lv_aload_n hx hb dX11_labelled_0 rfl (lv_at hl 0 rfl) ?_
  refine lv_iload_n hx hb dX11_labelled_1 rfl (lv_at hl 1 rfl) ?_
  refine lv_iload_n hx hb dX11_labelled_2 rfl (lv_at hl 2 rfl) ?_
  refine g_vi (As := [.int a1, .int a2]) (rest := []) S hG (by omega) (qX11_sized l hn h0 h2 a1 a2) wV_11_175 h0 cpX11 (by omega) dX11_labelled_3 rfl hl.1 (ar := 2) (by decide +kernel) rfl ⟨Nat.le_of_ble_eq_true rfl, Nat.le_of_ble_eq_true rfl, Nat.le_of_ble_eq_true rfl, Nat.le_of_ble_eq_true rfl⟩ (Nat.le_of_ble_eq_true rfl) (fun r_3 u_E_1 H locs hp_2 hG => ?_)
  obtain ⟨n_E_1, E_1⟩ := u_E_1
  dsimp only at hp_2 hG
  obtain ⟨rfl, nhp_2, ehp_2⟩ := hp_2
  have hG := gW_eq2 hG nhp_2 ehp_2
  refine lv_if_eq (tgt := 21) hx hb dX11_labelled_6 (by decide) (fun c_4 => ?_) (fun c_4 => absurd c_4 (by decide))
  refine lv_ldc2 (v := -2) hx hb S.2.2.2.1 (S.2.2.2.2 _ wm_1166) dX11_labelled_21 ?_
  exact g_lret S hr hlk hG (by omega) dX11_labelled_24 ⟨Nat.le_of_ble_eq_true rfl, Nat.le_of_ble_eq_true rfl⟩ ⟨rfl, rfl, rfl⟩
set_option maxHeartbeats 4000000 in
set_option maxRecDepth 100000 in
theorem qX11_marked (l : Launch) {D : va_G} {cy : Nat → ClassId} {b n : Nat} (hn : 105 ≤ n) {E : Nat → va_E} (h0 : E 0 = Z0 b cy) (h2 : E 2 = Z2 b cy)  (a1 : Int32) (a2 : Int32) (a3 : Int32) (a4 : Int32) : gL l yX11_marked cX11_marked 5 2 0 0 D cy b n E [.ref (b + 0), .int a1, .int a2, .int a3, .int a4] (fun r u => r = (-2) ∧ u.1 = n ∧ u.2 = E) := by
  refine gL_of (by decide) (Nat.le_of_ble_eq_true rfl) ?_
  intro p e s m args below meth c S hr hlk hin hsz ls hl hG
  have hx := S.1
  have hb := S.2.1
  have hl : lv_has ls 5 [(0, .ref (b + 0)), (1, .int a1), (2, .int a2), (3, .int a3), (4, .int a4)] := hl
  refine lv_aload_n hx hb dX11_marked_0 rfl (lv_at hl 0 rfl) ?_
  refine lv_iload_n hx hb dX11_marked_1 rfl (lv_at hl 1 rfl) ?_
  refine lv_iload_n hx hb dX11_marked_2 rfl (lv_at hl 2 rfl) ?_
  refine g_vi (As := [.int a1, .int a2]) (rest := []) S hG (by omega) (qX11_sized l hn h0 h2 a1 a2) wV_11_175 h0 cpX11 (by omega) dX11_marked_3 rfl hl.1 (ar := 2) (by decide +kernel) rfl ⟨Nat.le_of_ble_eq_true rfl, Nat.le_of_ble_eq_true rfl, Nat.le_of_ble_eq_true rfl, Nat.le_of_ble_eq_true rfl⟩ (Nat.le_of_ble_eq_true rfl) (fun r_3 u_E_1 H locs hp_2 hG => ?_)
  obtain ⟨n_E_1, E_1⟩ := u_E_1
  dsimp only at hp_2 hG
  obtain ⟨rfl, nhp_2, ehp_2⟩ := hp_2
  have hG := gW_eq2 hG nhp_2 ehp_2
  refine lv_if_eq (tgt := 28) hx hb dX11_marked_6 (by decide) (fun c_4 => ?_) (fun c_4 => absurd c_4 (by decide))
  refine lv_ldc2 (v := -2) hx hb S.2.2.2.1 (S.2.2.2.2 _ wm_1166) dX11_marked_28 ?_
  exact g_lret S hr hlk hG (by omega) dX11_marked_31 ⟨Nat.le_of_ble_eq_true rfl, Nat.le_of_ble_eq_true rfl⟩ ⟨rfl, rfl, rfl⟩
set_option maxHeartbeats 4000000 in
set_option maxRecDepth 100000 in
theorem qX11_by (l : Launch) {D : va_G} {cy : Nat → ClassId} {b n : Nat} (hn : 105 ≤ n) {E : Nat → va_E} (h0 : E 0 = Z0 b cy) (h2 : E 2 = Z2 b cy)  (a1 : Int32) (a2 : Int32) (a3 : Int32) : gL l yX11_by cX11_by 4 2 0 0 D cy b n E [.ref (b + 0), .int a1, .int a2, .int a3] (fun r u => r = (-2) ∧ u.1 = n ∧ u.2 = E) := by
  refine gL_of (by decide) (Nat.le_of_ble_eq_true rfl) ?_
  intro p e s m args below meth c S hr hlk hin hsz ls hl hG
  have hx := S.1
  have hb := S.2.1
  have hl : lv_has ls 4 [(0, .ref (b + 0)), (1, .int a1), (2, .int a2), (3, .int a3)] := hl
  refine lv_aload_n hx hb dX11_by_0 rfl (lv_at hl 0 rfl) ?_
  refine lv_iload_n hx hb dX11_by_1 rfl (lv_at hl 1 rfl) ?_
  refine lv_iload_n hx hb dX11_by_2 rfl (lv_at hl 2 rfl) ?_
  refine g_vi (As := [.int a1, .int a2]) (rest := []) S hG (by omega) (qX11_sized l hn h0 h2 a1 a2) wV_11_175 h0 cpX11 (by omega) dX11_by_3 rfl hl.1 (ar := 2) (by decide +kernel) rfl ⟨Nat.le_of_ble_eq_true rfl, Nat.le_of_ble_eq_true rfl, Nat.le_of_ble_eq_true rfl, Nat.le_of_ble_eq_true rfl⟩ (Nat.le_of_ble_eq_true rfl) (fun r_3 u_E_1 H locs hp_2 hG => ?_)
  obtain ⟨n_E_1, E_1⟩ := u_E_1
  dsimp only at hp_2 hG
  obtain ⟨rfl, nhp_2, ehp_2⟩ := hp_2
  have hG := gW_eq2 hG nhp_2 ehp_2
  refine lv_if_eq (tgt := 18) hx hb dX11_by_6 (by decide) (fun c_4 => ?_) (fun c_4 => absurd c_4 (by decide))
  refine lv_ldc2 (v := -2) hx hb S.2.2.2.1 (S.2.2.2.2 _ wm_1166) dX11_by_18 ?_
  exact g_lret S hr hlk hG (by omega) dX11_by_21 ⟨Nat.le_of_ble_eq_true rfl, Nat.le_of_ble_eq_true rfl⟩ ⟨rfl, rfl, rfl⟩
theorem wV_11_228 : gWV "GrownKinds" 228 yX11_termed cX11_termed 3 (some .boolean) := ⟨wm_1222, wm_1224, wm_53, wm_176, wm_1225, by decide +kernel, by decide +kernel⟩
set_option maxHeartbeats 4000000 in
set_option maxRecDepth 100000 in
theorem qX11_without (l : Launch) {D : va_G} {cy : Nat → ClassId} {b n : Nat} (hn : 105 ≤ n) {E : Nat → va_E} (h0 : E 0 = Z0 b cy) (h2 : E 2 = Z2 b cy)  (a1 : Int32) (a2 : Int32) (a3 : Int32) (a4 : Int32) : gL l yX11_without cX11_without 5 2 0 0 D cy b n E [.ref (b + 0), .int a1, .int a2, .int a3, .int a4] (fun r u => r = (-2) ∧ u.1 = n ∧ u.2 = E) := by
  refine gL_of (by decide) (Nat.le_of_ble_eq_true rfl) ?_
  intro p e s m args below meth c S hr hlk hin hsz ls hl hG
  have hx := S.1
  have hb := S.2.1
  have hl : lv_has ls 5 [(0, .ref (b + 0)), (1, .int a1), (2, .int a2), (3, .int a3), (4, .int a4)] := hl
  refine lv_aload_n hx hb dX11_without_0 rfl (lv_at hl 0 rfl) ?_
  refine lv_iload_n hx hb dX11_without_1 rfl (lv_at hl 1 rfl) ?_
  refine lv_iload_n hx hb dX11_without_2 rfl (lv_at hl 2 rfl) ?_
  refine g_vi (As := [.int a1, .int a2]) (rest := []) S hG (by omega) (qX11_termed l hn h0 h2 a1 a2) wV_11_228 h0 cpX11 (by omega) dX11_without_3 rfl hl.1 (ar := 2) (by decide +kernel) rfl ⟨Nat.le_of_ble_eq_true rfl, Nat.le_of_ble_eq_true rfl, Nat.le_of_ble_eq_true rfl, Nat.le_of_ble_eq_true rfl⟩ (Nat.le_of_ble_eq_true rfl) (fun r_3 u_E_1 H locs hp_2 hG => ?_)
  obtain ⟨n_E_1, E_1⟩ := u_E_1
  dsimp only at hp_2 hG
  obtain ⟨rfl, nhp_2, ehp_2⟩ := hp_2
  have hG := gW_eq2 hG nhp_2 ehp_2
  refine lv_if_eq (tgt := 19) hx hb dX11_without_6 (by decide) (fun c_4 => ?_) (fun c_4 => absurd c_4 (by decide))
  refine lv_ldc2 (v := -2) hx hb S.2.2.2.1 (S.2.2.2.2 _ wm_1166) dX11_without_19 ?_
  exact g_lret S hr hlk hG (by omega) dX11_without_22 ⟨Nat.le_of_ble_eq_true rfl, Nat.le_of_ble_eq_true rfl⟩ ⟨rfl, rfl, rfl⟩
set_option maxHeartbeats 4000000 in
set_option maxRecDepth 100000 in
theorem qX11_hangs (l : Launch) {D : va_G} {cy : Nat → ClassId} {b n : Nat} (hn : 105 ≤ n) {E : Nat → va_E} (h0 : E 0 = Z0 b cy) (h2 : E 2 = Z2 b cy)  (a1 : Int32) (a2 : Int32) : gI l yX11_hangs cX11_hangs 11 (some .int) 2 0 0 D cy b n E [.ref (b + 0), .int a1, .int a2] (fun r u => r = (-2) ∧ u.1 = n ∧ u.2 = E) := by
  refine gI_of (by decide) (Nat.le_of_ble_eq_true rfl) ?_
  intro p e s m args below meth c S hr hlk hin hsz ls hl hG
  have hx := S.1
  have hb := S.2.1
  have hl : lv_has ls 11 [(0, .ref (b + 0)), (1, .int a1), (2, .int a2)] := hl
  refine lv_aload_n hx hb dX11_hangs_0 rfl (lv_at hl 0 rfl) ?_
  refine lv_iload_n hx hb dX11_hangs_1 rfl (lv_at hl 1 rfl) ?_
  refine lv_iload_n hx hb dX11_hangs_2 rfl (lv_at hl 2 rfl) ?_
  refine g_vi (As := [.int a1, .int a2]) (rest := []) S hG (by omega) (qX11_sized l hn h0 h2 a1 a2) wV_11_175 h0 cpX11 (by omega) dX11_hangs_3 rfl hl.1 (ar := 2) (by decide +kernel) rfl ⟨Nat.le_of_ble_eq_true rfl, Nat.le_of_ble_eq_true rfl, Nat.le_of_ble_eq_true rfl, Nat.le_of_ble_eq_true rfl⟩ (Nat.le_of_ble_eq_true rfl) (fun r_3 u_E_1 H locs hp_2 hG => ?_)
  obtain ⟨n_E_1, E_1⟩ := u_E_1
  dsimp only at hp_2 hG
  obtain ⟨rfl, nhp_2, ehp_2⟩ := hp_2
  have hG := gW_eq2 hG nhp_2 ehp_2
  refine lv_if_ne (tgt := 12) hx hb dX11_hangs_6 (by decide) (fun c_4 => absurd c_4 (by decide)) (fun c_4 => ?_)
  refine lv_bipush (v := (-2)) hx hb dX11_hangs_9 (by decide) ?_
  exact g_iret S hr hlk hG (by omega) dX11_hangs_11 ⟨Nat.le_of_ble_eq_true rfl, Nat.le_of_ble_eq_true rfl⟩ ⟨rfl, rfl, rfl⟩
set_option maxHeartbeats 4000000 in
set_option maxRecDepth 100000 in
theorem qX11_idle (l : Launch) {D : va_G} {cy : Nat → ClassId} {b n : Nat} (hn : 105 ≤ n) {E : Nat → va_E} (h0 : E 0 = Z0 b cy) (h2 : E 2 = Z2 b cy)   : gI l yX11_idle cX11_idle 4 (some .int) 0 0 0 D cy b n E [.ref (b + 0)] (fun r u => r = (-2) ∧ u.1 = n ∧ u.2 = E) := by
  refine gI_of (by decide) (Nat.le_of_ble_eq_true rfl) ?_
  intro p e s m args below meth c S hr hlk hin hsz ls hl hG
  have hx := S.1
  have hb := S.2.1
  have hl : lv_has ls 4 [(0, .ref (b + 0))] := hl
  refine lv_aload_n hx hb dX11_idle_0 rfl (lv_at hl 0 rfl) ?_
  refine g_get S hG 0 2 h0 cpX11 wm_668 dX11_idle_1 rfl (by omega) (by decide) ?_
  refine g_get S hG 2 2 h2 cpX2 wm_224 dX11_idle_4 rfl (by omega) (by decide) ?_
  refine lv_if_ne (tgt := 13) hx hb dX11_idle_7 (by decide) (fun c_1 => absurd c_1 (by decide)) (fun c_1 => ?_)
  refine lv_bipush (v := (-2)) hx hb dX11_idle_10 (by decide) ?_
  exact g_iret S hr hlk hG (by omega) dX11_idle_12 ⟨Nat.le_of_ble_eq_true rfl, Nat.le_of_ble_eq_true rfl⟩ ⟨rfl, rfl, rfl⟩
set_option maxHeartbeats 4000000 in
set_option maxRecDepth 100000 in
theorem qX11_first (l : Launch) {D : va_G} {cy : Nat → ClassId} {b n : Nat} (hn : 105 ≤ n) {E : Nat → va_E} (h0 : E 0 = Z0 b cy) (h2 : E 2 = Z2 b cy)  (a1 : Int32) (a2 : Int64) : gI l yX11_first cX11_first 5 (some .int) 1 0 0 D cy b n E [.ref (b + 0), .int a1, .long a2] (fun r u => r = (-2) ∧ u.1 = n ∧ u.2 = E) := by
  refine gI_of (by decide) (Nat.le_of_ble_eq_true rfl) ?_
  intro p e s m args below meth c S hr hlk hin hsz ls hl hG
  have hx := S.1
  have hb := S.2.1
  have hl : lv_has ls 5 [(0, .ref (b + 0)), (1, .int a1), (2, .long a2)] := hl
  refine lv_aload_n hx hb dX11_first_0 rfl (lv_at hl 0 rfl) ?_
  refine lv_iload_n hx hb dX11_first_1 rfl (lv_at hl 1 rfl) ?_
  refine g_vi (As := [.int a1]) (rest := []) S hG (by omega) (qX11_known l hn h0 h2 a1) wV_11_168 h0 cpX11 (by omega) dX11_first_2 rfl hl.1 (ar := 1) (by decide +kernel) rfl ⟨Nat.le_of_ble_eq_true rfl, Nat.le_of_ble_eq_true rfl, Nat.le_of_ble_eq_true rfl, Nat.le_of_ble_eq_true rfl⟩ (Nat.le_of_ble_eq_true rfl) (fun r_3 u_E_1 H locs hp_2 hG => ?_)
  obtain ⟨n_E_1, E_1⟩ := u_E_1
  dsimp only at hp_2 hG
  obtain ⟨rfl, nhp_2, ehp_2⟩ := hp_2
  have hG := gW_eq2 hG nhp_2 ehp_2
  refine lv_if_eq (tgt := 22) hx hb dX11_first_5 (by decide) (fun c_4 => ?_) (fun c_4 => absurd c_4 (by decide))
  refine lv_bipush (v := (-2)) hx hb dX11_first_22 (by decide) ?_
  exact g_iret S hr hlk hG (by omega) dX11_first_24 ⟨Nat.le_of_ble_eq_true rfl, Nat.le_of_ble_eq_true rfl⟩ ⟨rfl, rfl, rfl⟩
theorem wV_11_202 : gWV "GrownKinds" 202 yX11_first cX11_first 5 (some .int) := ⟨wm_1146, wm_1147, wm_1148, wm_176, wm_1149, by decide +kernel, by decide +kernel⟩
set_option maxHeartbeats 4000000 in
set_option maxRecDepth 100000 in
theorem qX11_least (l : Launch) {D : va_G} {cy : Nat → ClassId} {b n : Nat} (hn : 105 ≤ n) {E : Nat → va_E} (h0 : E 0 = Z0 b cy) (h2 : E 2 = Z2 b cy)  (a1 : Int32) : gI l yX11_least cX11_least 2 (some .int) 2 0 0 D cy b n E [.ref (b + 0), .int a1] (fun r u => r = (-2) ∧ u.1 = n ∧ u.2 = E) := by
  refine gI_of (by decide) (Nat.le_of_ble_eq_true rfl) ?_
  intro p e s m args below meth c S hr hlk hin hsz ls hl hG
  have hx := S.1
  have hb := S.2.1
  have hl : lv_has ls 2 [(0, .ref (b + 0)), (1, .int a1)] := hl
  refine lv_aload_n hx hb dX11_least_0 rfl (lv_at hl 0 rfl) ?_
  refine lv_iload_n hx hb dX11_least_1 rfl (lv_at hl 1 rfl) ?_
  refine lv_lconst (v := 1) hx hb dX11_least_2 (by decide) ?_
  refine g_vi (As := [.int a1, .long 1]) (rest := []) S hG (by omega) (qX11_first l hn h0 h2 a1 1) wV_11_202 h0 cpX11 (by omega) dX11_least_3 rfl hl.1 (ar := 2) (by decide +kernel) rfl ⟨Nat.le_of_ble_eq_true rfl, Nat.le_of_ble_eq_true rfl, Nat.le_of_ble_eq_true rfl, Nat.le_of_ble_eq_true rfl⟩ (Nat.le_of_ble_eq_true rfl) (fun r_3 u_E_1 H locs hp_2 hG => ?_)
  obtain ⟨n_E_1, E_1⟩ := u_E_1
  dsimp only at hp_2 hG
  obtain ⟨rfl, nhp_2, ehp_2⟩ := hp_2
  have hG := gW_eq2 hG nhp_2 ehp_2
  exact g_iret S hr hlk hG (by omega) dX11_least_6 ⟨Nat.le_of_ble_eq_true rfl, Nat.le_of_ble_eq_true rfl⟩ ⟨rfl, rfl, rfl⟩
theorem wV_11_333 : gWV "GrownKinds" 333 yX11_boxy cX11_boxy 4 (some .boolean) := ⟨wm_1175, wm_1177, wm_50, wm_176, wm_1178, by decide +kernel, by decide +kernel⟩
set_option maxHeartbeats 4000000 in
set_option maxRecDepth 100000 in
theorem qX11_boxed (l : Launch) {D : va_G} {cy : Nat → ClassId} {b n : Nat} (hn : 105 ≤ n) {E : Nat → va_E} (h0 : E 0 = Z0 b cy) (h2 : E 2 = Z2 b cy)  (a1 : Int32) (a2 : Int32) (a3 : Int32) : gL l yX11_boxed cX11_boxed 4 3 0 0 D cy b n E [.ref (b + 0), .int a1, .int a2, .int a3] (fun r u => r = (-2) ∧ u.1 = n ∧ u.2 = E) := by
  refine gL_of (by decide) (Nat.le_of_ble_eq_true rfl) ?_
  intro p e s m args below meth c S hr hlk hin hsz ls hl hG
  have hx := S.1
  have hb := S.2.1
  have hl : lv_has ls 4 [(0, .ref (b + 0)), (1, .int a1), (2, .int a2), (3, .int a3)] := hl
  refine lv_aload_n hx hb dX11_boxed_0 rfl (lv_at hl 0 rfl) ?_
  refine lv_iload_n hx hb dX11_boxed_1 rfl (lv_at hl 1 rfl) ?_
  refine lv_iload_n hx hb dX11_boxed_2 rfl (lv_at hl 2 rfl) ?_
  refine lv_iload_n hx hb dX11_boxed_3 rfl (lv_at hl 3 rfl) ?_
  refine g_vi (As := [.int a1, .int a2, .int a3]) (rest := []) S hG (by omega) (qX11_boxy l hn h0 h2 a1 a2 a3) wV_11_333 h0 cpX11 (by omega) dX11_boxed_4 rfl hl.1 (ar := 3) (by decide +kernel) rfl ⟨Nat.le_of_ble_eq_true rfl, Nat.le_of_ble_eq_true rfl, Nat.le_of_ble_eq_true rfl, Nat.le_of_ble_eq_true rfl⟩ (Nat.le_of_ble_eq_true rfl) (fun r_3 u_E_1 H locs hp_2 hG => ?_)
  obtain ⟨n_E_1, E_1⟩ := u_E_1
  dsimp only at hp_2 hG
  obtain ⟨rfl, nhp_2, ehp_2⟩ := hp_2
  have hG := gW_eq2 hG nhp_2 ehp_2
  refine lv_if_eq (tgt := 23) hx hb dX11_boxed_7 (by decide) (fun c_4 => ?_) (fun c_4 => absurd c_4 (by decide))
  refine lv_ldc2 (v := -2) hx hb S.2.2.2.1 (S.2.2.2.2 _ wm_1166) dX11_boxed_23 ?_
  exact g_lret S hr hlk hG (by omega) dX11_boxed_26 ⟨Nat.le_of_ble_eq_true rfl, Nat.le_of_ble_eq_true rfl⟩ ⟨rfl, rfl, rfl⟩
theorem wV_11_212 : gWV "GrownKinds" 212 yX11_boxed cX11_boxed 4 (some .long) := ⟨wm_1171, wm_1172, wm_1173, wm_176, wm_1174, by decide +kernel, by decide +kernel⟩
set_option maxHeartbeats 4000000 in
set_option maxRecDepth 100000 in
theorem qX11_upto (l : Launch) {D : va_G} {cy : Nat → ClassId} {b n : Nat} (hn : 105 ≤ n) {E : Nat → va_E} (h0 : E 0 = Z0 b cy) (h2 : E 2 = Z2 b cy)  (a1 : Int32) (a2 : Int32) : gL l yX11_upto cX11_upto 3 4 0 0 D cy b n E [.ref (b + 0), .int a1, .int a2] (fun r u => r = (-2) ∧ u.1 = n ∧ u.2 = E) := by
  refine gL_of (by decide) (Nat.le_of_ble_eq_true rfl) ?_
  intro p e s m args below meth c S hr hlk hin hsz ls hl hG
  have hx := S.1
  have hb := S.2.1
  have hl : lv_has ls 3 [(0, .ref (b + 0)), (1, .int a1), (2, .int a2)] := hl
  refine lv_aload_n hx hb dX11_upto_0 rfl (lv_at hl 0 rfl) ?_
  refine lv_iload_n hx hb dX11_upto_1 rfl (lv_at hl 1 rfl) ?_
  refine lv_iconst (v := 0) hx hb dX11_upto_2 (by decide) ?_
  refine lv_iload_n hx hb dX11_upto_3 rfl (lv_at hl 2 rfl) ?_
  refine g_vl (As := [.int a1, .int 0, .int a2]) (rest := []) S hG (by omega) (qX11_boxed l hn h0 h2 a1 0 a2) wV_11_212 h0 cpX11 (by omega) dX11_upto_4 rfl hl.1 (ar := 3) (by decide +kernel) rfl ⟨Nat.le_of_ble_eq_true rfl, Nat.le_of_ble_eq_true rfl, Nat.le_of_ble_eq_true rfl, Nat.le_of_ble_eq_true rfl⟩ (Nat.le_of_ble_eq_true rfl) (fun r_3 u_E_1 H locs hp_2 hG => ?_)
  obtain ⟨n_E_1, E_1⟩ := u_E_1
  dsimp only at hp_2 hG
  obtain ⟨rfl, nhp_2, ehp_2⟩ := hp_2
  have hG := gW_eq2 hG nhp_2 ehp_2
  exact g_lret S hr hlk hG (by omega) dX11_upto_7 ⟨Nat.le_of_ble_eq_true rfl, Nat.le_of_ble_eq_true rfl⟩ ⟨rfl, rfl, rfl⟩
set_option maxHeartbeats 4000000 in
set_option maxRecDepth 100000 in
theorem qX11_listing (l : Launch) {D : va_G} {cy : Nat → ClassId} {b n : Nat} (hn : 105 ≤ n) {E : Nat → va_E} (h0 : E 0 = Z0 b cy) (h2 : E 2 = Z2 b cy)  (a1 : Int32) (a2 : Int32) : gI l yX11_listing cX11_listing 3 (some .int) 2 0 0 D cy b n E [.ref (b + 0), .int a1, .int a2] (fun r u => r = (-2) ∧ u.1 = n ∧ u.2 = E) := by
  refine gI_of (by decide) (Nat.le_of_ble_eq_true rfl) ?_
  intro p e s m args below meth c S hr hlk hin hsz ls hl hG
  have hx := S.1
  have hb := S.2.1
  have hl : lv_has ls 3 [(0, .ref (b + 0)), (1, .int a1), (2, .int a2)] := hl
  refine lv_aload_n hx hb dX11_listing_0 rfl (lv_at hl 0 rfl) ?_
  refine lv_iload_n hx hb dX11_listing_1 rfl (lv_at hl 1 rfl) ?_
  refine lv_iload_n hx hb dX11_listing_2 rfl (lv_at hl 2 rfl) ?_
  refine g_vi (As := [.int a1, .int a2]) (rest := []) S hG (by omega) (qX11_sized l hn h0 h2 a1 a2) wV_11_175 h0 cpX11 (by omega) dX11_listing_3 rfl hl.1 (ar := 2) (by decide +kernel) rfl ⟨Nat.le_of_ble_eq_true rfl, Nat.le_of_ble_eq_true rfl, Nat.le_of_ble_eq_true rfl, Nat.le_of_ble_eq_true rfl⟩ (Nat.le_of_ble_eq_true rfl) (fun r_3 u_E_1 H locs hp_2 hG => ?_)
  obtain ⟨n_E_1, E_1⟩ := u_E_1
  dsimp only at hp_2 hG
  obtain ⟨rfl, nhp_2, ehp_2⟩ := hp_2
  have hG := gW_eq2 hG nhp_2 ehp_2
  refine lv_if_ne (tgt := 12) hx hb dX11_listing_6 (by decide) (fun c_4 => absurd c_4 (by decide)) (fun c_4 => ?_)
  refine lv_bipush (v := (-2)) hx hb dX11_listing_9 (by decide) ?_
  exact g_iret S hr hlk hG (by omega) dX11_listing_11 ⟨Nat.le_of_ble_eq_true rfl, Nat.le_of_ble_eq_true rfl⟩ ⟨rfl, rfl, rfl⟩
theorem wV_11_251 : gWV "GrownKinds" 251 yX11_listing cX11_listing 3 (some .int) := ⟨wm_1269, wm_1271, wm_55, wm_176, wm_1272, by decide +kernel, by decide +kernel⟩
set_option maxHeartbeats 4000000 in
set_option maxRecDepth 100000 in
theorem qX11_spelling (l : Launch) {D : va_G} {cy : Nat → ClassId} {b n : Nat} (hn : 105 ≤ n) {E : Nat → va_E} (h0 : E 0 = Z0 b cy) (h2 : E 2 = Z2 b cy)  (a1 : Int32) (a2 : Int32) (a3 : Int32) : gI l yX11_spelling cX11_spelling 5 (some .int) 3 0 0 D cy b n E [.ref (b + 0), .int a1, .int a2, .int a3] (fun r u => r = (-2) ∧ u.1 = n ∧ u.2 = E) := by
  refine gI_of (by decide) (Nat.le_of_ble_eq_true rfl) ?_
  intro p e s m args below meth c S hr hlk hin hsz ls hl hG
  have hx := S.1
  have hb := S.2.1
  have hl : lv_has ls 5 [(0, .ref (b + 0)), (1, .int a1), (2, .int a2), (3, .int a3)] := hl
  refine lv_aload_n hx hb dX11_spelling_0 rfl (lv_at hl 0 rfl) ?_
  refine lv_iload_n hx hb dX11_spelling_1 rfl (lv_at hl 1 rfl) ?_
  refine lv_iload_n hx hb dX11_spelling_2 rfl (lv_at hl 2 rfl) ?_
  refine g_vi (As := [.int a1, .int a2]) (rest := []) S hG (by omega) (qX11_listing l hn h0 h2 a1 a2) wV_11_251 h0 cpX11 (by omega) dX11_spelling_3 rfl hl.1 (ar := 2) (by decide +kernel) rfl ⟨Nat.le_of_ble_eq_true rfl, Nat.le_of_ble_eq_true rfl, Nat.le_of_ble_eq_true rfl, Nat.le_of_ble_eq_true rfl⟩ (Nat.le_of_ble_eq_true rfl) (fun r_3 u_E_1 H locs hp_2 hG => ?_)
  obtain ⟨n_E_1, E_1⟩ := u_E_1
  dsimp only at hp_2 hG
  obtain ⟨rfl, nhp_2, ehp_2⟩ := hp_2
  have hG := gW_eq2 hG nhp_2 ehp_2
  refine lv_istore (lv' := [(4, .int (-2)), (0, .ref (b + 0)), (1, .int a1), (2, .int a2), (3, .int a3)]) hx hb dX11_spelling_6 hl (by decide) rfl (fun ls hl => ?_)
  refine lv_iload hx hb dX11_spelling_8 (lv_at hl 0 rfl) ?_
  refine lv_if_eq (tgt := 16) hx hb dX11_spelling_10 (by decide) (fun c_4 => absurd c_4 (by decide)) (fun c_4 => ?_)
  refine lv_iload hx hb dX11_spelling_13 (lv_at hl 0 rfl) ?_
  exact g_iret S hr hlk hG (by omega) dX11_spelling_15 ⟨Nat.le_of_ble_eq_true rfl, Nat.le_of_ble_eq_true rfl⟩ ⟨rfl, rfl, rfl⟩
set_option maxHeartbeats 4000000 in
set_option maxRecDepth 100000 in
theorem qX11_rolling (l : Launch) {D : va_G} {cy : Nat → ClassId} {b n : Nat} (hn : 105 ≤ n) {E : Nat → va_E} (h0 : E 0 = Z0 b cy) (h2 : E 2 = Z2 b cy)  (a1 : Int32) (a2 : Int32) : gI l yX11_rolling cX11_rolling 7 (some .int) 3 0 0 D cy b n E [.ref (b + 0), .int a1, .int a2] (fun r u => r = (-2) ∧ u.1 = n ∧ u.2 = E) := by
  refine gI_of (by decide) (Nat.le_of_ble_eq_true rfl) ?_
  intro p e s m args below meth c S hr hlk hin hsz ls hl hG
  have hx := S.1
  have hb := S.2.1
  have hl : lv_has ls 7 [(0, .ref (b + 0)), (1, .int a1), (2, .int a2)] := hl
  refine lv_aload_n hx hb dX11_rolling_0 rfl (lv_at hl 0 rfl) ?_
  refine lv_iload_n hx hb dX11_rolling_1 rfl (lv_at hl 1 rfl) ?_
  refine lv_iload_n hx hb dX11_rolling_2 rfl (lv_at hl 2 rfl) ?_
  refine g_vi (As := [.int a1, .int a2]) (rest := []) S hG (by omega) (qX11_listing l hn h0 h2 a1 a2) wV_11_251 h0 cpX11 (by omega) dX11_rolling_3 rfl hl.1 (ar := 2) (by decide +kernel) rfl ⟨Nat.le_of_ble_eq_true rfl, Nat.le_of_ble_eq_true rfl, Nat.le_of_ble_eq_true rfl, Nat.le_of_ble_eq_true rfl⟩ (Nat.le_of_ble_eq_true rfl) (fun r_3 u_E_1 H locs hp_2 hG => ?_)
  obtain ⟨n_E_1, E_1⟩ := u_E_1
  dsimp only at hp_2 hG
  obtain ⟨rfl, nhp_2, ehp_2⟩ := hp_2
  have hG := gW_eq2 hG nhp_2 ehp_2
  refine lv_istore_n (lv' := [(3, .int (-2)), (0, .ref (b + 0)), (1, .int a1), (2, .int a2)]) hx hb dX11_rolling_6 rfl hl (by decide) rfl (fun ls hl => ?_)
  refine lv_iload_n hx hb dX11_rolling_7 rfl (lv_at hl 0 rfl) ?_
  refine lv_if_eq (tgt := 13) hx hb dX11_rolling_8 (by decide) (fun c_4 => absurd c_4 (by decide)) (fun c_4 => ?_)
  refine lv_iload_n hx hb dX11_rolling_11 rfl (lv_at hl 0 rfl) ?_
  exact g_iret S hr hlk hG (by omega) dX11_rolling_12 ⟨Nat.le_of_ble_eq_true rfl, Nat.le_of_ble_eq_true rfl⟩ ⟨rfl, rfl, rfl⟩
theorem wV_11_259 : gWV "GrownKinds" 259 yX11_spelling cX11_spelling 5 (some .int) := ⟨wm_1265, wm_1267, wm_54, wm_176, wm_1268, by decide +kernel, by decide +kernel⟩
set_option maxHeartbeats 4000000 in
set_option maxRecDepth 100000 in
theorem qX11_length (l : Launch) {D : va_G} {cy : Nat → ClassId} {b n : Nat} (hn : 105 ≤ n) {E : Nat → va_E} (h0 : E 0 = Z0 b cy) (h2 : E 2 = Z2 b cy)  (a1 : Int32) (a2 : Int32) (a3 : Int32) : gI l yX11_length cX11_length 5 (some .int) 4 0 0 D cy b n E [.ref (b + 0), .int a1, .int a2, .int a3] (fun r u => r = (-2) ∧ u.1 = n ∧ u.2 = E) := by
  refine gI_of (by decide) (Nat.le_of_ble_eq_true rfl) ?_
  intro p e s m args below meth c S hr hlk hin hsz ls hl hG
  have hx := S.1
  have hb := S.2.1
  have hl : lv_has ls 5 [(0, .ref (b + 0)), (1, .int a1), (2, .int a2), (3, .int a3)] := hl
  refine lv_aload_n hx hb dX11_length_0 rfl (lv_at hl 0 rfl) ?_
  refine lv_iload_n hx hb dX11_length_1 rfl (lv_at hl 1 rfl) ?_
  refine lv_iload_n hx hb dX11_length_2 rfl (lv_at hl 2 rfl) ?_
  refine lv_iload_n hx hb dX11_length_3 rfl (lv_at hl 3 rfl) ?_
  refine g_vi (As := [.int a1, .int a2, .int a3]) (rest := []) S hG (by omega) (qX11_spelling l hn h0 h2 a1 a2 a3) wV_11_259 h0 cpX11 (by omega) dX11_length_4 rfl hl.1 (ar := 3) (by decide +kernel) rfl ⟨Nat.le_of_ble_eq_true rfl, Nat.le_of_ble_eq_true rfl, Nat.le_of_ble_eq_true rfl, Nat.le_of_ble_eq_true rfl⟩ (Nat.le_of_ble_eq_true rfl) (fun r_3 u_E_1 H locs hp_2 hG => ?_)
  obtain ⟨n_E_1, E_1⟩ := u_E_1
  dsimp only at hp_2 hG
  obtain ⟨rfl, nhp_2, ehp_2⟩ := hp_2
  have hG := gW_eq2 hG nhp_2 ehp_2
  refine lv_istore (lv' := [(4, .int (-2)), (0, .ref (b + 0)), (1, .int a1), (2, .int a2), (3, .int a3)]) hx hb dX11_length_7 hl (by decide) rfl (fun ls hl => ?_)
  refine lv_iload hx hb dX11_length_9 (lv_at hl 0 rfl) ?_
  refine lv_if_eq (tgt := 19) hx hb dX11_length_11 (by decide) (fun c_4 => absurd c_4 (by decide)) (fun c_4 => ?_)
  refine lv_iload hx hb dX11_length_14 (lv_at hl 0 rfl) ?_
  refine lv_goto (tgt := 26) hx hb dX11_length_16 (by decide) ?_
  exact g_iret S hr hlk hG (by omega) dX11_length_26 ⟨Nat.le_of_ble_eq_true rfl, Nat.le_of_ble_eq_true rfl⟩ ⟨rfl, rfl, rfl⟩
set_option maxHeartbeats 4000000 in
set_option maxRecDepth 100000 in
theorem qX11_sign (l : Launch) {D : va_G} {cy : Nat → ClassId} {b n : Nat} (hn : 105 ≤ n) {E : Nat → va_E} (h0 : E 0 = Z0 b cy) (h2 : E 2 = Z2 b cy)  (a1 : Int32) (a2 : Int32) (a3 : Int32) (a4 : Int32) : gI l yX11_sign cX11_sign 6 (some .int) 4 0 0 D cy b n E [.ref (b + 0), .int a1, .int a2, .int a3, .int a4] (fun r u => r = (-2) ∧ u.1 = n ∧ u.2 = E) := by
  refine gI_of (by decide) (Nat.le_of_ble_eq_true rfl) ?_
  intro p e s m args below meth c S hr hlk hin hsz ls hl hG
  have hx := S.1
  have hb := S.2.1
  have hl : lv_has ls 6 [(0, .ref (b + 0)), (1, .int a1), (2, .int a2), (3, .int a3), (4, .int a4)] := hl
  refine lv_iload hx hb dX11_sign_0 (lv_at hl 4 rfl) ?_
  refine lv_if_ge (tgt := 8) hx hb dX11_sign_2 (by decide) (fun c_1 => ?_) (fun c_1 => ?_)
  · refine lv_aload_n hx hb dX11_sign_8 rfl (lv_at hl 0 rfl) ?_
    refine lv_iload_n hx hb dX11_sign_9 rfl (lv_at hl 1 rfl) ?_
    refine lv_iload_n hx hb dX11_sign_10 rfl (lv_at hl 2 rfl) ?_
    refine lv_iload_n hx hb dX11_sign_11 rfl (lv_at hl 3 rfl) ?_
    refine g_vi (As := [.int a1, .int a2, .int a3]) (rest := []) S hG (by omega) (qX11_spelling l hn h0 h2 a1 a2 a3) wV_11_259 h0 cpX11 (by omega) dX11_sign_12 rfl hl.1 (ar := 3) (by decide +kernel) rfl ⟨Nat.le_of_ble_eq_true rfl, Nat.le_of_ble_eq_true rfl, Nat.le_of_ble_eq_true rfl, Nat.le_of_ble_eq_true rfl⟩ (Nat.le_of_ble_eq_true rfl) (fun r_4 u_E_2 H locs hp_3 hG => ?_)
    obtain ⟨n_E_2, E_2⟩ := u_E_2
    dsimp only at hp_3 hG
    obtain ⟨rfl, nhp_3, ehp_3⟩ := hp_3
    have hG := gW_eq2 hG nhp_3 ehp_3
    refine lv_istore (lv' := [(5, .int (-2)), (0, .ref (b + 0)), (1, .int a1), (2, .int a2), (3, .int a3), (4, .int a4)]) hx hb dX11_sign_15 hl (by decide) rfl (fun ls hl => ?_)
    refine lv_iload hx hb dX11_sign_17 (lv_at hl 0 rfl) ?_
    refine lv_if_eq (tgt := 27) hx hb dX11_sign_19 (by decide) (fun c_5 => absurd c_5 (by decide)) (fun c_5 => ?_)
    refine lv_iload hx hb dX11_sign_22 (lv_at hl 0 rfl) ?_
    refine lv_goto (tgt := 36) hx hb dX11_sign_24 (by decide) ?_
    exact g_iret S hr hlk hG (by omega) dX11_sign_36 ⟨Nat.le_of_ble_eq_true rfl, Nat.le_of_ble_eq_true rfl⟩ ⟨rfl, rfl, rfl⟩
  · refine lv_bipush (v := (-2)) hx hb dX11_sign_5 (by decide) ?_
    exact g_iret S hr hlk hG (by omega) dX11_sign_7 ⟨Nat.le_of_ble_eq_true rfl, Nat.le_of_ble_eq_true rfl⟩ ⟨rfl, rfl, rfl⟩
set_option maxHeartbeats 4000000 in
set_option maxRecDepth 100000 in
theorem qX11_deep (l : Launch) {D : va_G} {cy : Nat → ClassId} {b n : Nat} (hn : 105 ≤ n) {E : Nat → va_E} (h0 : E 0 = Z0 b cy) (h2 : E 2 = Z2 b cy)  (a1 : Int32) (a2 : Int32) (a3 : Int32) : gI l yX11_deep cX11_deep 5 (some .int) 4 0 0 D cy b n E [.ref (b + 0), .int a1, .int a2, .int a3] (fun r u => r = (-2) ∧ u.1 = n ∧ u.2 = E) := by
  refine gI_of (by decide) (Nat.le_of_ble_eq_true rfl) ?_
  intro p e s m args below meth c S hr hlk hin hsz ls hl hG
  have hx := S.1
  have hb := S.2.1
  have hl : lv_has ls 5 [(0, .ref (b + 0)), (1, .int a1), (2, .int a2), (3, .int a3)] := hl
  refine lv_aload_n hx hb dX11_deep_0 rfl (lv_at hl 0 rfl) ?_
  refine lv_iload_n hx hb dX11_deep_1 rfl (lv_at hl 1 rfl) ?_
  refine lv_iload_n hx hb dX11_deep_2 rfl (lv_at hl 2 rfl) ?_
  refine lv_iload_n hx hb dX11_deep_3 rfl (lv_at hl 3 rfl) ?_
  refine g_vi (As := [.int a1, .int a2, .int a3]) (rest := []) S hG (by omega) (qX11_spelling l hn h0 h2 a1 a2 a3) wV_11_259 h0 cpX11 (by omega) dX11_deep_4 rfl hl.1 (ar := 3) (by decide +kernel) rfl ⟨Nat.le_of_ble_eq_true rfl, Nat.le_of_ble_eq_true rfl, Nat.le_of_ble_eq_true rfl, Nat.le_of_ble_eq_true rfl⟩ (Nat.le_of_ble_eq_true rfl) (fun r_3 u_E_1 H locs hp_2 hG => ?_)
  obtain ⟨n_E_1, E_1⟩ := u_E_1
  dsimp only at hp_2 hG
  obtain ⟨rfl, nhp_2, ehp_2⟩ := hp_2
  have hG := gW_eq2 hG nhp_2 ehp_2
  refine lv_istore (lv' := [(4, .int (-2)), (0, .ref (b + 0)), (1, .int a1), (2, .int a2), (3, .int a3)]) hx hb dX11_deep_7 hl (by decide) rfl (fun ls hl => ?_)
  refine lv_iload hx hb dX11_deep_9 (lv_at hl 0 rfl) ?_
  refine lv_if_eq (tgt := 19) hx hb dX11_deep_11 (by decide) (fun c_4 => absurd c_4 (by decide)) (fun c_4 => ?_)
  refine lv_iload hx hb dX11_deep_14 (lv_at hl 0 rfl) ?_
  refine lv_goto (tgt := 26) hx hb dX11_deep_16 (by decide) ?_
  exact g_iret S hr hlk hG (by omega) dX11_deep_26 ⟨Nat.le_of_ble_eq_true rfl, Nat.le_of_ble_eq_true rfl⟩ ⟨rfl, rfl, rfl⟩
theorem wS_11_221 : gWS "GrownKinds" 221 yX11_lettered cX11_lettered 1 (some .boolean) := ⟨wm_1203, wm_1204, wm_176, wm_1205, by decide +kernel, by decide +kernel⟩
set_option maxHeartbeats 4000000 in
set_option maxRecDepth 100000 in
theorem qX11_atoms (l : Launch) {D : va_G} {cy : Nat → ClassId} {b n : Nat} (hn : 105 ≤ n) {E : Nat → va_E} (h0 : E 0 = Z0 b cy) (h2 : E 2 = Z2 b cy)  (a1 : Int32) (a2 : Int32) (a3 : Int32) (a4 : Int32) : gI l yX11_atoms cX11_atoms 6 (some .int) 4 0 0 D cy b n E [.ref (b + 0), .int a1, .int a2, .int a3, .int a4] (fun r u => r = (-2) ∧ u.1 = n ∧ u.2 = E) := by
  refine gI_of (by decide) (Nat.le_of_ble_eq_true rfl) ?_
  intro p e s m args below meth c S hr hlk hin hsz ls hl hG
  have hx := S.1
  have hb := S.2.1
  have hl : lv_has ls 6 [(0, .ref (b + 0)), (1, .int a1), (2, .int a2), (3, .int a3), (4, .int a4)] := hl
  refine lv_iload hx hb dX11_atoms_0 (lv_at hl 4 rfl) ?_
  refine g_si (As := [.int a4]) (rest := []) S hG (by omega) (qX11_lettered l hn  a4) wS_11_221 dX11_atoms_2 rfl hl.1 (ar := 1) (by decide +kernel) rfl ⟨Nat.le_of_ble_eq_true rfl, Nat.le_of_ble_eq_true rfl, Nat.le_of_ble_eq_true rfl, Nat.le_of_ble_eq_true rfl⟩ (Nat.le_of_ble_eq_true rfl) (fun r_3 u_E_1 H locs hp_2 hG => ?_)
  obtain ⟨n_E_1, E_1⟩ := u_E_1
  dsimp only at hp_2 hG
  have hG := gW_eq2 hG hp_2.1 hp_2.2
  refine lv_if_ne (tgt := 11) hx hb dX11_atoms_5 (by decide) (fun c_4 => ?_) (fun c_4 => ?_)
  · refine lv_aload_n hx hb dX11_atoms_11 rfl (lv_at hl 0 rfl) ?_
    refine lv_iload_n hx hb dX11_atoms_12 rfl (lv_at hl 1 rfl) ?_
    refine lv_iload_n hx hb dX11_atoms_13 rfl (lv_at hl 2 rfl) ?_
    refine lv_iload_n hx hb dX11_atoms_14 rfl (lv_at hl 3 rfl) ?_
    refine g_vi (As := [.int a1, .int a2, .int a3]) (rest := []) S hG (by omega) (qX11_spelling l hn h0 h2 a1 a2 a3) wV_11_259 h0 cpX11 (by omega) dX11_atoms_15 rfl hl.1 (ar := 3) (by decide +kernel) rfl ⟨Nat.le_of_ble_eq_true rfl, Nat.le_of_ble_eq_true rfl, Nat.le_of_ble_eq_true rfl, Nat.le_of_ble_eq_true rfl⟩ (Nat.le_of_ble_eq_true rfl) (fun r_7 u_E_5 H locs hp_6 hG => ?_)
    obtain ⟨n_E_5, E_5⟩ := u_E_5
    dsimp only at hp_6 hG
    obtain ⟨rfl, nhp_6, ehp_6⟩ := hp_6
    have hG := gW_eq2 hG nhp_6 ehp_6
    refine lv_istore (lv' := [(5, .int (-2)), (0, .ref (b + 0)), (1, .int a1), (2, .int a2), (3, .int a3), (4, .int a4)]) hx hb dX11_atoms_18 hl (by decide) rfl (fun ls hl => ?_)
    refine lv_iload hx hb dX11_atoms_20 (lv_at hl 0 rfl) ?_
    refine lv_if_eq (tgt := 30) hx hb dX11_atoms_22 (by decide) (fun c_8 => absurd c_8 (by decide)) (fun c_8 => ?_)
    refine lv_iload hx hb dX11_atoms_25 (lv_at hl 0 rfl) ?_
    refine lv_goto (tgt := 40) hx hb dX11_atoms_27 (by decide) ?_
    exact g_iret S hr hlk hG (by omega) dX11_atoms_40 ⟨Nat.le_of_ble_eq_true rfl, Nat.le_of_ble_eq_true rfl⟩ ⟨rfl, rfl, rfl⟩
  · refine lv_bipush (v := (-2)) hx hb dX11_atoms_8 (by decide) ?_
    exact g_iret S hr hlk hG (by omega) dX11_atoms_10 ⟨Nat.le_of_ble_eq_true rfl, Nat.le_of_ble_eq_true rfl⟩ ⟨rfl, rfl, rfl⟩
set_option maxHeartbeats 4000000 in
set_option maxRecDepth 100000 in
theorem qX11_term (l : Launch) {D : va_G} {cy : Nat → ClassId} {b n : Nat} (hn : 105 ≤ n) {E : Nat → va_E} (h0 : E 0 = Z0 b cy) (h2 : E 2 = Z2 b cy)  (a1 : Int32) (a2 : Int32) (a3 : Int32) : gI l yX11_term cX11_term 5 (some .int) 4 0 0 D cy b n E [.ref (b + 0), .int a1, .int a2, .int a3] (fun r u => r = (-2) ∧ u.1 = n ∧ u.2 = E) := by
  refine gI_of (by decide) (Nat.le_of_ble_eq_true rfl) ?_
  intro p e s m args below meth c S hr hlk hin hsz ls hl hG
  have hx := S.1
  have hb := S.2.1
  have hl : lv_has ls 5 [(0, .ref (b + 0)), (1, .int a1), (2, .int a2), (3, .int a3)] := hl
  refine lv_aload_n hx hb dX11_term_0 rfl (lv_at hl 0 rfl) ?_
  refine lv_iload_n hx hb dX11_term_1 rfl (lv_at hl 1 rfl) ?_
  refine lv_iload_n hx hb dX11_term_2 rfl (lv_at hl 2 rfl) ?_
  refine lv_iload_n hx hb dX11_term_3 rfl (lv_at hl 3 rfl) ?_
  refine g_vi (As := [.int a1, .int a2, .int a3]) (rest := []) S hG (by omega) (qX11_spelling l hn h0 h2 a1 a2 a3) wV_11_259 h0 cpX11 (by omega) dX11_term_4 rfl hl.1 (ar := 3) (by decide +kernel) rfl ⟨Nat.le_of_ble_eq_true rfl, Nat.le_of_ble_eq_true rfl, Nat.le_of_ble_eq_true rfl, Nat.le_of_ble_eq_true rfl⟩ (Nat.le_of_ble_eq_true rfl) (fun r_3 u_E_1 H locs hp_2 hG => ?_)
  obtain ⟨n_E_1, E_1⟩ := u_E_1
  dsimp only at hp_2 hG
  obtain ⟨rfl, nhp_2, ehp_2⟩ := hp_2
  have hG := gW_eq2 hG nhp_2 ehp_2
  refine lv_istore (lv' := [(4, .int (-2)), (0, .ref (b + 0)), (1, .int a1), (2, .int a2), (3, .int a3)]) hx hb dX11_term_7 hl (by decide) rfl (fun ls hl => ?_)
  refine lv_iload hx hb dX11_term_9 (lv_at hl 0 rfl) ?_
  refine lv_if_eq (tgt := 19) hx hb dX11_term_11 (by decide) (fun c_4 => absurd c_4 (by decide)) (fun c_4 => ?_)
  refine lv_iload hx hb dX11_term_14 (lv_at hl 0 rfl) ?_
  refine lv_goto (tgt := 26) hx hb dX11_term_16 (by decide) ?_
  exact g_iret S hr hlk hG (by omega) dX11_term_26 ⟨Nat.le_of_ble_eq_true rfl, Nat.le_of_ble_eq_true rfl⟩ ⟨rfl, rfl, rfl⟩
set_option maxHeartbeats 4000000 in
set_option maxRecDepth 100000 in
theorem qX11_symmetries (l : Launch) {D : va_G} {cy : Nat → ClassId} {b n : Nat} (hn : 105 ≤ n) {E : Nat → va_E} (h0 : E 0 = Z0 b cy) (h2 : E 2 = Z2 b cy)  (a1 : Int32) (a2 : Int32) (a3 : Int32) : gI l yX11_symmetries cX11_symmetries 5 (some .int) 4 0 0 D cy b n E [.ref (b + 0), .int a1, .int a2, .int a3] (fun r u => r = (-2) ∧ u.1 = n ∧ u.2 = E) := by
  refine gI_of (by decide) (Nat.le_of_ble_eq_true rfl) ?_
  intro p e s m args below meth c S hr hlk hin hsz ls hl hG
  have hx := S.1
  have hb := S.2.1
  have hl : lv_has ls 5 [(0, .ref (b + 0)), (1, .int a1), (2, .int a2), (3, .int a3)] := hl
  refine lv_aload_n hx hb dX11_symmetries_0 rfl (lv_at hl 0 rfl) ?_
  refine lv_iload_n hx hb dX11_symmetries_1 rfl (lv_at hl 1 rfl) ?_
  refine lv_iload_n hx hb dX11_symmetries_2 rfl (lv_at hl 2 rfl) ?_
  refine lv_iload_n hx hb dX11_symmetries_3 rfl (lv_at hl 3 rfl) ?_
  refine g_vi (As := [.int a1, .int a2, .int a3]) (rest := []) S hG (by omega) (qX11_spelling l hn h0 h2 a1 a2 a3) wV_11_259 h0 cpX11 (by omega) dX11_symmetries_4 rfl hl.1 (ar := 3) (by decide +kernel) rfl ⟨Nat.le_of_ble_eq_true rfl, Nat.le_of_ble_eq_true rfl, Nat.le_of_ble_eq_true rfl, Nat.le_of_ble_eq_true rfl⟩ (Nat.le_of_ble_eq_true rfl) (fun r_3 u_E_1 H locs hp_2 hG => ?_)
  obtain ⟨n_E_1, E_1⟩ := u_E_1
  dsimp only at hp_2 hG
  obtain ⟨rfl, nhp_2, ehp_2⟩ := hp_2
  have hG := gW_eq2 hG nhp_2 ehp_2
  refine lv_istore (lv' := [(4, .int (-2)), (0, .ref (b + 0)), (1, .int a1), (2, .int a2), (3, .int a3)]) hx hb dX11_symmetries_7 hl (by decide) rfl (fun ls hl => ?_)
  refine lv_iload hx hb dX11_symmetries_9 (lv_at hl 0 rfl) ?_
  refine lv_if_eq (tgt := 19) hx hb dX11_symmetries_11 (by decide) (fun c_4 => absurd c_4 (by decide)) (fun c_4 => ?_)
  refine lv_iload hx hb dX11_symmetries_14 (lv_at hl 0 rfl) ?_
  refine lv_goto (tgt := 26) hx hb dX11_symmetries_16 (by decide) ?_
  exact g_iret S hr hlk hG (by omega) dX11_symmetries_26 ⟨Nat.le_of_ble_eq_true rfl, Nat.le_of_ble_eq_true rfl⟩ ⟨rfl, rfl, rfl⟩
set_option maxHeartbeats 4000000 in
set_option maxRecDepth 100000 in
theorem qX11_labels (l : Launch) {D : va_G} {cy : Nat → ClassId} {b n : Nat} (hn : 105 ≤ n) {E : Nat → va_E} (h0 : E 0 = Z0 b cy) (h2 : E 2 = Z2 b cy)  (a1 : Int32) (a2 : Int32) (a3 : Int32) : gI l yX11_labels cX11_labels 5 (some .int) 4 0 0 D cy b n E [.ref (b + 0), .int a1, .int a2, .int a3] (fun r u => r = (-2) ∧ u.1 = n ∧ u.2 = E) := by
  refine gI_of (by decide) (Nat.le_of_ble_eq_true rfl) ?_
  intro p e s m args below meth c S hr hlk hin hsz ls hl hG
  have hx := S.1
  have hb := S.2.1
  have hl : lv_has ls 5 [(0, .ref (b + 0)), (1, .int a1), (2, .int a2), (3, .int a3)] := hl
  refine lv_aload_n hx hb dX11_labels_0 rfl (lv_at hl 0 rfl) ?_
  refine lv_iload_n hx hb dX11_labels_1 rfl (lv_at hl 1 rfl) ?_
  refine lv_iload_n hx hb dX11_labels_2 rfl (lv_at hl 2 rfl) ?_
  refine lv_iload_n hx hb dX11_labels_3 rfl (lv_at hl 3 rfl) ?_
  refine g_vi (As := [.int a1, .int a2, .int a3]) (rest := []) S hG (by omega) (qX11_spelling l hn h0 h2 a1 a2 a3) wV_11_259 h0 cpX11 (by omega) dX11_labels_4 rfl hl.1 (ar := 3) (by decide +kernel) rfl ⟨Nat.le_of_ble_eq_true rfl, Nat.le_of_ble_eq_true rfl, Nat.le_of_ble_eq_true rfl, Nat.le_of_ble_eq_true rfl⟩ (Nat.le_of_ble_eq_true rfl) (fun r_3 u_E_1 H locs hp_2 hG => ?_)
  obtain ⟨n_E_1, E_1⟩ := u_E_1
  dsimp only at hp_2 hG
  obtain ⟨rfl, nhp_2, ehp_2⟩ := hp_2
  have hG := gW_eq2 hG nhp_2 ehp_2
  refine lv_istore (lv' := [(4, .int (-2)), (0, .ref (b + 0)), (1, .int a1), (2, .int a2), (3, .int a3)]) hx hb dX11_labels_7 hl (by decide) rfl (fun ls hl => ?_)
  refine lv_iload hx hb dX11_labels_9 (lv_at hl 0 rfl) ?_
  refine lv_if_eq (tgt := 17) hx hb dX11_labels_11 (by decide) (fun c_4 => absurd c_4 (by decide)) (fun c_4 => ?_)
  refine lv_iload hx hb dX11_labels_14 (lv_at hl 0 rfl) ?_
  exact g_iret S hr hlk hG (by omega) dX11_labels_16 ⟨Nat.le_of_ble_eq_true rfl, Nat.le_of_ble_eq_true rfl⟩ ⟨rfl, rfl, rfl⟩
set_option maxHeartbeats 4000000 in
set_option maxRecDepth 100000 in
theorem qX11_tells (l : Launch) {D : va_G} {cy : Nat → ClassId} {b n : Nat} (hn : 105 ≤ n) {E : Nat → va_E} (h0 : E 0 = Z0 b cy) (h2 : E 2 = Z2 b cy)  (a1 : Int32) : gI l yX11_tells cX11_tells 5 (some .int) 1 0 0 D cy b n E [.ref (b + 0), .int a1] (fun r u => r = (-2) ∧ u.1 = n ∧ u.2 = E) := by
  refine gI_of (by decide) (Nat.le_of_ble_eq_true rfl) ?_
  intro p e s m args below meth c S hr hlk hin hsz ls hl hG
  have hx := S.1
  have hb := S.2.1
  have hl : lv_has ls 5 [(0, .ref (b + 0)), (1, .int a1)] := hl
  refine lv_aload_n hx hb dX11_tells_0 rfl (lv_at hl 0 rfl) ?_
  refine lv_iload_n hx hb dX11_tells_1 rfl (lv_at hl 1 rfl) ?_
  refine g_vi (As := [.int a1]) (rest := []) S hG (by omega) (qX11_known l hn h0 h2 a1) wV_11_168 h0 cpX11 (by omega) dX11_tells_2 rfl hl.1 (ar := 1) (by decide +kernel) rfl ⟨Nat.le_of_ble_eq_true rfl, Nat.le_of_ble_eq_true rfl, Nat.le_of_ble_eq_true rfl, Nat.le_of_ble_eq_true rfl⟩ (Nat.le_of_ble_eq_true rfl) (fun r_3 u_E_1 H locs hp_2 hG => ?_)
  obtain ⟨n_E_1, E_1⟩ := u_E_1
  dsimp only at hp_2 hG
  obtain ⟨rfl, nhp_2, ehp_2⟩ := hp_2
  have hG := gW_eq2 hG nhp_2 ehp_2
  refine lv_if_ne (tgt := 11) hx hb dX11_tells_5 (by decide) (fun c_4 => absurd c_4 (by decide)) (fun c_4 => ?_)
  refine lv_bipush (v := (-2)) hx hb dX11_tells_8 (by decide) ?_
  exact g_iret S hr hlk hG (by omega) dX11_tells_10 ⟨Nat.le_of_ble_eq_true rfl, Nat.le_of_ble_eq_true rfl⟩ ⟨rfl, rfl, rfl⟩
set_option maxHeartbeats 4000000 in
set_option maxRecDepth 100000 in
theorem qX11_shared (l : Launch) {D : va_G} {cy : Nat → ClassId} {b n : Nat} (hn : 105 ≤ n) {E : Nat → va_E} (h0 : E 0 = Z0 b cy) (h2 : E 2 = Z2 b cy)  (a1 : Int32) (a2 : Int32) (a3 : Int32) : gI l yX11_shared cX11_shared 8 (some .int) 1 0 0 D cy b n E [.ref (b + 0), .int a1, .int a2, .int a3] (fun r u => r = (-2) ∧ u.1 = n ∧ u.2 = E) := by
  refine gI_of (by decide) (Nat.le_of_ble_eq_true rfl) ?_
  intro p e s m args below meth c S hr hlk hin hsz ls hl hG
  have hx := S.1
  have hb := S.2.1
  have hl : lv_has ls 8 [(0, .ref (b + 0)), (1, .int a1), (2, .int a2), (3, .int a3)] := hl
  refine lv_aload_n hx hb dX11_shared_0 rfl (lv_at hl 0 rfl) ?_
  refine lv_iload_n hx hb dX11_shared_1 rfl (lv_at hl 2 rfl) ?_
  refine g_vi (As := [.int a2]) (rest := []) S hG (by omega) (qX11_known l hn h0 h2 a2) wV_11_168 h0 cpX11 (by omega) dX11_shared_2 rfl hl.1 (ar := 1) (by decide +kernel) rfl ⟨Nat.le_of_ble_eq_true rfl, Nat.le_of_ble_eq_true rfl, Nat.le_of_ble_eq_true rfl, Nat.le_of_ble_eq_true rfl⟩ (Nat.le_of_ble_eq_true rfl) (fun r_3 u_E_1 H locs hp_2 hG => ?_)
  obtain ⟨n_E_1, E_1⟩ := u_E_1
  dsimp only at hp_2 hG
  obtain ⟨rfl, nhp_2, ehp_2⟩ := hp_2
  have hG := gW_eq2 hG nhp_2 ehp_2
  refine lv_if_ne (tgt := 11) hx hb dX11_shared_5 (by decide) (fun c_4 => absurd c_4 (by decide)) (fun c_4 => ?_)
  refine lv_bipush (v := (-2)) hx hb dX11_shared_8 (by decide) ?_
  exact g_iret S hr hlk hG (by omega) dX11_shared_10 ⟨Nat.le_of_ble_eq_true rfl, Nat.le_of_ble_eq_true rfl⟩ ⟨rfl, rfl, rfl⟩
theorem wV_11_315 : gWV "GrownKinds" 315 yX11_rolling cX11_rolling 7 (some .int) := ⟨wm_1543, wm_1545, wm_82, wm_176, wm_1546, by decide +kernel, by decide +kernel⟩
set_option maxHeartbeats 4000000 in
set_option maxRecDepth 100000 in
theorem qX11_deepest (l : Launch) {D : va_G} {cy : Nat → ClassId} {b n : Nat} (hn : 105 ≤ n) {E : Nat → va_E} (h0 : E 0 = Z0 b cy) (h2 : E 2 = Z2 b cy)  (a1 : Int32) (a2 : Int32) : gI l yX11_deepest cX11_deepest 4 (some .int) 4 0 0 D cy b n E [.ref (b + 0), .int a1, .int a2] (fun r u => r = (-2) ∧ u.1 = n ∧ u.2 = E) := by
  refine gI_of (by decide) (Nat.le_of_ble_eq_true rfl) ?_
  intro p e s m args below meth c S hr hlk hin hsz ls hl hG
  have hx := S.1
  have hb := S.2.1
  have hl : lv_has ls 4 [(0, .ref (b + 0)), (1, .int a1), (2, .int a2)] := hl
  refine lv_aload_n hx hb dX11_deepest_0 rfl (lv_at hl 0 rfl) ?_
  refine lv_iload_n hx hb dX11_deepest_1 rfl (lv_at hl 1 rfl) ?_
  refine lv_iload_n hx hb dX11_deepest_2 rfl (lv_at hl 2 rfl) ?_
  refine g_vi (As := [.int a1, .int a2]) (rest := []) S hG (by omega) (qX11_rolling l hn h0 h2 a1 a2) wV_11_315 h0 cpX11 (by omega) dX11_deepest_3 rfl hl.1 (ar := 2) (by decide +kernel) rfl ⟨Nat.le_of_ble_eq_true rfl, Nat.le_of_ble_eq_true rfl, Nat.le_of_ble_eq_true rfl, Nat.le_of_ble_eq_true rfl⟩ (Nat.le_of_ble_eq_true rfl) (fun r_3 u_E_1 H locs hp_2 hG => ?_)
  obtain ⟨n_E_1, E_1⟩ := u_E_1
  dsimp only at hp_2 hG
  obtain ⟨rfl, nhp_2, ehp_2⟩ := hp_2
  have hG := gW_eq2 hG nhp_2 ehp_2
  refine lv_istore_n (lv' := [(3, .int (-2)), (0, .ref (b + 0)), (1, .int a1), (2, .int a2)]) hx hb dX11_deepest_6 rfl hl (by decide) rfl (fun ls hl => ?_)
  refine lv_iload_n hx hb dX11_deepest_7 rfl (lv_at hl 0 rfl) ?_
  refine lv_if_eq (tgt := 15) hx hb dX11_deepest_8 (by decide) (fun c_4 => absurd c_4 (by decide)) (fun c_4 => ?_)
  refine lv_iload_n hx hb dX11_deepest_11 rfl (lv_at hl 0 rfl) ?_
  refine lv_goto (tgt := 29) hx hb dX11_deepest_12 (by decide) ?_
  exact g_iret S hr hlk hG (by omega) dX11_deepest_29 ⟨Nat.le_of_ble_eq_true rfl, Nat.le_of_ble_eq_true rfl⟩ ⟨rfl, rfl, rfl⟩
set_option maxHeartbeats 4000000 in
set_option maxRecDepth 100000 in
theorem qX11_fullest (l : Launch) {D : va_G} {cy : Nat → ClassId} {b n : Nat} (hn : 105 ≤ n) {E : Nat → va_E} (h0 : E 0 = Z0 b cy) (h2 : E 2 = Z2 b cy)  (a1 : Int32) (a2 : Int32) (a3 : Int32) : gI l yX11_fullest cX11_fullest 5 (some .int) 4 0 0 D cy b n E [.ref (b + 0), .int a1, .int a2, .int a3] (fun r u => r = (-2) ∧ u.1 = n ∧ u.2 = E) := by
  refine gI_of (by decide) (Nat.le_of_ble_eq_true rfl) ?_
  intro p e s m args below meth c S hr hlk hin hsz ls hl hG
  have hx := S.1
  have hb := S.2.1
  have hl : lv_has ls 5 [(0, .ref (b + 0)), (1, .int a1), (2, .int a2), (3, .int a3)] := hl
  refine lv_iload_n hx hb dX11_fullest_0 rfl (lv_at hl 3 rfl) ?_
  refine g_si (As := [.int a3]) (rest := []) S hG (by omega) (qX11_lettered l hn  a3) wS_11_221 dX11_fullest_1 rfl hl.1 (ar := 1) (by decide +kernel) rfl ⟨Nat.le_of_ble_eq_true rfl, Nat.le_of_ble_eq_true rfl, Nat.le_of_ble_eq_true rfl, Nat.le_of_ble_eq_true rfl⟩ (Nat.le_of_ble_eq_true rfl) (fun r_3 u_E_1 H locs hp_2 hG => ?_)
  obtain ⟨n_E_1, E_1⟩ := u_E_1
  dsimp only at hp_2 hG
  have hG := gW_eq2 hG hp_2.1 hp_2.2
  refine lv_if_ne (tgt := 10) hx hb dX11_fullest_4 (by decide) (fun c_4 => ?_) (fun c_4 => ?_)
  · refine lv_aload_n hx hb dX11_fullest_10 rfl (lv_at hl 0 rfl) ?_
    refine lv_iload_n hx hb dX11_fullest_11 rfl (lv_at hl 1 rfl) ?_
    refine lv_iload_n hx hb dX11_fullest_12 rfl (lv_at hl 2 rfl) ?_
    refine g_vi (As := [.int a1, .int a2]) (rest := []) S hG (by omega) (qX11_rolling l hn h0 h2 a1 a2) wV_11_315 h0 cpX11 (by omega) dX11_fullest_13 rfl hl.1 (ar := 2) (by decide +kernel) rfl ⟨Nat.le_of_ble_eq_true rfl, Nat.le_of_ble_eq_true rfl, Nat.le_of_ble_eq_true rfl, Nat.le_of_ble_eq_true rfl⟩ (Nat.le_of_ble_eq_true rfl) (fun r_7 u_E_5 H locs hp_6 hG => ?_)
    obtain ⟨n_E_5, E_5⟩ := u_E_5
    dsimp only at hp_6 hG
    obtain ⟨rfl, nhp_6, ehp_6⟩ := hp_6
    have hG := gW_eq2 hG nhp_6 ehp_6
    refine lv_istore (lv' := [(4, .int (-2)), (0, .ref (b + 0)), (1, .int a1), (2, .int a2), (3, .int a3)]) hx hb dX11_fullest_16 hl (by decide) rfl (fun ls hl => ?_)
    refine lv_iload hx hb dX11_fullest_18 (lv_at hl 0 rfl) ?_
    refine lv_if_eq (tgt := 28) hx hb dX11_fullest_20 (by decide) (fun c_8 => absurd c_8 (by decide)) (fun c_8 => ?_)
    refine lv_iload hx hb dX11_fullest_23 (lv_at hl 0 rfl) ?_
    refine lv_goto (tgt := 47) hx hb dX11_fullest_25 (by decide) ?_
    exact g_iret S hr hlk hG (by omega) dX11_fullest_47 ⟨Nat.le_of_ble_eq_true rfl, Nat.le_of_ble_eq_true rfl⟩ ⟨rfl, rfl, rfl⟩
  · refine lv_bipush (v := (-2)) hx hb dX11_fullest_7 (by decide) ?_
    exact g_iret S hr hlk hG (by omega) dX11_fullest_9 ⟨Nat.le_of_ble_eq_true rfl, Nat.le_of_ble_eq_true rfl⟩ ⟨rfl, rfl, rfl⟩
set_option maxHeartbeats 4000000 in
set_option maxRecDepth 100000 in
theorem qX11_stiffest (l : Launch) {D : va_G} {cy : Nat → ClassId} {b n : Nat} (hn : 105 ≤ n) {E : Nat → va_E} (h0 : E 0 = Z0 b cy) (h2 : E 2 = Z2 b cy)  (a1 : Int32) (a2 : Int32) : gI l yX11_stiffest cX11_stiffest 4 (some .int) 4 0 0 D cy b n E [.ref (b + 0), .int a1, .int a2] (fun r u => r = (-2) ∧ u.1 = n ∧ u.2 = E) := by
  refine gI_of (by decide) (Nat.le_of_ble_eq_true rfl) ?_
  intro p e s m args below meth c S hr hlk hin hsz ls hl hG
  have hx := S.1
  have hb := S.2.1
  have hl : lv_has ls 4 [(0, .ref (b + 0)), (1, .int a1), (2, .int a2)] := hl
  refine lv_aload_n hx hb dX11_stiffest_0 rfl (lv_at hl 0 rfl) ?_
  refine lv_iload_n hx hb dX11_stiffest_1 rfl (lv_at hl 1 rfl) ?_
  refine lv_iload_n hx hb dX11_stiffest_2 rfl (lv_at hl 2 rfl) ?_
  refine g_vi (As := [.int a1, .int a2]) (rest := []) S hG (by omega) (qX11_rolling l hn h0 h2 a1 a2) wV_11_315 h0 cpX11 (by omega) dX11_stiffest_3 rfl hl.1 (ar := 2) (by decide +kernel) rfl ⟨Nat.le_of_ble_eq_true rfl, Nat.le_of_ble_eq_true rfl, Nat.le_of_ble_eq_true rfl, Nat.le_of_ble_eq_true rfl⟩ (Nat.le_of_ble_eq_true rfl) (fun r_3 u_E_1 H locs hp_2 hG => ?_)
  obtain ⟨n_E_1, E_1⟩ := u_E_1
  dsimp only at hp_2 hG
  obtain ⟨rfl, nhp_2, ehp_2⟩ := hp_2
  have hG := gW_eq2 hG nhp_2 ehp_2
  refine lv_istore_n (lv' := [(3, .int (-2)), (0, .ref (b + 0)), (1, .int a1), (2, .int a2)]) hx hb dX11_stiffest_6 rfl hl (by decide) rfl (fun ls hl => ?_)
  refine lv_iload_n hx hb dX11_stiffest_7 rfl (lv_at hl 0 rfl) ?_
  refine lv_if_eq (tgt := 15) hx hb dX11_stiffest_8 (by decide) (fun c_4 => absurd c_4 (by decide)) (fun c_4 => ?_)
  refine lv_iload_n hx hb dX11_stiffest_11 rfl (lv_at hl 0 rfl) ?_
  refine lv_goto (tgt := 29) hx hb dX11_stiffest_12 (by decide) ?_
  exact g_iret S hr hlk hG (by omega) dX11_stiffest_29 ⟨Nat.le_of_ble_eq_true rfl, Nat.le_of_ble_eq_true rfl⟩ ⟨rfl, rfl, rfl⟩
set_option maxHeartbeats 4000000 in
set_option maxRecDepth 100000 in
theorem qX11_chance (l : Launch) {D : va_G} {cy : Nat → ClassId} {b n : Nat} (hn : 105 ≤ n) {E : Nat → va_E} (h0 : E 0 = Z0 b cy) (h2 : E 2 = Z2 b cy)  (a1 : Int32) (a2 : Int32) (a3 : Int32) (a4 : Int32) : gI l yX11_chance cX11_chance 6 (some .int) 2 0 0 D cy b n E [.ref (b + 0), .int a1, .int a2, .int a3, .int a4] (fun r u => r = (-2) ∧ u.1 = n ∧ u.2 = E) := by
  refine gI_of (by decide) (Nat.le_of_ble_eq_true rfl) ?_
  intro p e s m args below meth c S hr hlk hin hsz ls hl hG
  have hx := S.1
  have hb := S.2.1
  have hl : lv_has ls 6 [(0, .ref (b + 0)), (1, .int a1), (2, .int a2), (3, .int a3), (4, .int a4)] := hl
  refine lv_aload_n hx hb dX11_chance_0 rfl (lv_at hl 0 rfl) ?_
  refine lv_iload_n hx hb dX11_chance_1 rfl (lv_at hl 1 rfl) ?_
  refine lv_iload_n hx hb dX11_chance_2 rfl (lv_at hl 3 rfl) ?_
  refine g_vi (As := [.int a1, .int a3]) (rest := []) S hG (by omega) (qX11_termed l hn h0 h2 a1 a3) wV_11_228 h0 cpX11 (by omega) dX11_chance_3 rfl hl.1 (ar := 2) (by decide +kernel) rfl ⟨Nat.le_of_ble_eq_true rfl, Nat.le_of_ble_eq_true rfl, Nat.le_of_ble_eq_true rfl, Nat.le_of_ble_eq_true rfl⟩ (Nat.le_of_ble_eq_true rfl) (fun r_3 u_E_1 H locs hp_2 hG => ?_)
  obtain ⟨n_E_1, E_1⟩ := u_E_1
  dsimp only at hp_2 hG
  obtain ⟨rfl, nhp_2, ehp_2⟩ := hp_2
  have hG := gW_eq2 hG nhp_2 ehp_2
  refine lv_if_eq (tgt := 20) hx hb dX11_chance_6 (by decide) (fun c_4 => ?_) (fun c_4 => absurd c_4 (by decide))
  refine lv_bipush (v := (-2)) hx hb dX11_chance_20 (by decide) ?_
  exact g_iret S hr hlk hG (by omega) dX11_chance_22 ⟨Nat.le_of_ble_eq_true rfl, Nat.le_of_ble_eq_true rfl⟩ ⟨rfl, rfl, rfl⟩
set_option maxHeartbeats 4000000 in
set_option maxRecDepth 100000 in
theorem qX11_mean (l : Launch) {D : va_G} {cy : Nat → ClassId} {b n : Nat} (hn : 105 ≤ n) {E : Nat → va_E} (h0 : E 0 = Z0 b cy) (h2 : E 2 = Z2 b cy)  (a1 : Int32) (a2 : Int32) (a3 : Int32) (a4 : Int32) : gI l yX11_mean cX11_mean 6 (some .int) 4 0 0 D cy b n E [.ref (b + 0), .int a1, .int a2, .int a3, .int a4] (fun r u => r = (-2) ∧ u.1 = n ∧ u.2 = E) := by
  refine gI_of (by decide) (Nat.le_of_ble_eq_true rfl) ?_
  intro p e s m args below meth c S hr hlk hin hsz ls hl hG
  have hx := S.1
  have hb := S.2.1
  have hl : lv_has ls 6 [(0, .ref (b + 0)), (1, .int a1), (2, .int a2), (3, .int a3), (4, .int a4)] := hl
  refine lv_iload_n hx hb dX11_mean_0 rfl (lv_at hl 3 rfl) ?_
  refine g_si (As := [.int a3]) (rest := []) S hG (by omega) (qX11_lettered l hn  a3) wS_11_221 dX11_mean_1 rfl hl.1 (ar := 1) (by decide +kernel) rfl ⟨Nat.le_of_ble_eq_true rfl, Nat.le_of_ble_eq_true rfl, Nat.le_of_ble_eq_true rfl, Nat.le_of_ble_eq_true rfl⟩ (Nat.le_of_ble_eq_true rfl) (fun r_3 u_E_1 H locs hp_2 hG => ?_)
  obtain ⟨n_E_1, E_1⟩ := u_E_1
  dsimp only at hp_2 hG
  have hG := gW_eq2 hG hp_2.1 hp_2.2
  refine lv_if_eq (tgt := 18) hx hb dX11_mean_4 (by decide) (fun c_4 => ?_) (fun c_4 => ?_)
  · refine lv_bipush (v := (-2)) hx hb dX11_mean_18 (by decide) ?_
    exact g_iret S hr hlk hG (by omega) dX11_mean_20 ⟨Nat.le_of_ble_eq_true rfl, Nat.le_of_ble_eq_true rfl⟩ ⟨rfl, rfl, rfl⟩
  · refine lv_iload hx hb dX11_mean_7 (lv_at hl 4 rfl) ?_
    refine lv_if_lt (tgt := 18) hx hb dX11_mean_9 (by decide) (fun c_5 => ?_) (fun c_5 => ?_)
    · refine lv_bipush (v := (-2)) hx hb dX11_mean_18 (by decide) ?_
      exact g_iret S hr hlk hG (by omega) dX11_mean_20 ⟨Nat.le_of_ble_eq_true rfl, Nat.le_of_ble_eq_true rfl⟩ ⟨rfl, rfl, rfl⟩
    · refine lv_iload hx hb dX11_mean_12 (lv_at hl 4 rfl) ?_
      refine lv_iconst (v := 1) hx hb dX11_mean_14 (by decide) ?_
      refine lv_icmp_le (tgt := 21) hx hb dX11_mean_15 (by decide) (fun c_6 => ?_) (fun c_6 => ?_)
      · refine lv_aload_n hx hb dX11_mean_21 rfl (lv_at hl 0 rfl) ?_
        refine lv_iload_n hx hb dX11_mean_22 rfl (lv_at hl 1 rfl) ?_
        refine lv_iload_n hx hb dX11_mean_23 rfl (lv_at hl 2 rfl) ?_
        refine g_vi (As := [.int a1, .int a2]) (rest := []) S hG (by omega) (qX11_rolling l hn h0 h2 a1 a2) wV_11_315 h0 cpX11 (by omega) dX11_mean_24 rfl hl.1 (ar := 2) (by decide +kernel) rfl ⟨Nat.le_of_ble_eq_true rfl, Nat.le_of_ble_eq_true rfl, Nat.le_of_ble_eq_true rfl, Nat.le_of_ble_eq_true rfl⟩ (Nat.le_of_ble_eq_true rfl) (fun r_9 u_E_7 H locs hp_8 hG => ?_)
        obtain ⟨n_E_7, E_7⟩ := u_E_7
        dsimp only at hp_8 hG
        obtain ⟨rfl, nhp_8, ehp_8⟩ := hp_8
        have hG := gW_eq2 hG nhp_8 ehp_8
        refine lv_istore (lv' := [(5, .int (-2)), (0, .ref (b + 0)), (1, .int a1), (2, .int a2), (3, .int a3), (4, .int a4)]) hx hb dX11_mean_27 hl (by decide) rfl (fun ls hl => ?_)
        refine lv_iload hx hb dX11_mean_29 (lv_at hl 0 rfl) ?_
        refine lv_if_eq (tgt := 37) hx hb dX11_mean_31 (by decide) (fun c_10 => absurd c_10 (by decide)) (fun c_10 => ?_)
        refine lv_iload hx hb dX11_mean_34 (lv_at hl 0 rfl) ?_
        exact g_iret S hr hlk hG (by omega) dX11_mean_36 ⟨Nat.le_of_ble_eq_true rfl, Nat.le_of_ble_eq_true rfl⟩ ⟨rfl, rfl, rfl⟩
      · refine lv_bipush (v := (-2)) hx hb dX11_mean_18 (by decide) ?_
        exact g_iret S hr hlk hG (by omega) dX11_mean_20 ⟨Nat.le_of_ble_eq_true rfl, Nat.le_of_ble_eq_true rfl⟩ ⟨rfl, rfl, rfl⟩
set_option maxHeartbeats 4000000 in
set_option maxRecDepth 100000 in
theorem qX11_bits (l : Launch) {D : va_G} {cy : Nat → ClassId} {b n : Nat} (hn : 105 ≤ n) {E : Nat → va_E} (h0 : E 0 = Z0 b cy) (h2 : E 2 = Z2 b cy)  (a1 : Int32) (a2 : Int32) (a3 : Int32) : gI l yX11_bits cX11_bits 6 (some .int) 3 0 0 D cy b n E [.ref (b + 0), .int a1, .int a2, .int a3] (fun r u => r = (-2) ∧ u.1 = n ∧ u.2 = E) := by
  refine gI_of (by decide) (Nat.le_of_ble_eq_true rfl) ?_
  intro p e s m args below meth c S hr hlk hin hsz ls hl hG
  have hx := S.1
  have hb := S.2.1
  have hl : lv_has ls 6 [(0, .ref (b + 0)), (1, .int a1), (2, .int a2), (3, .int a3)] := hl
  refine lv_aload_n hx hb dX11_bits_0 rfl (lv_at hl 0 rfl) ?_
  refine lv_iload_n hx hb dX11_bits_1 rfl (lv_at hl 1 rfl) ?_
  refine lv_iload_n hx hb dX11_bits_2 rfl (lv_at hl 2 rfl) ?_
  refine lv_iload_n hx hb dX11_bits_3 rfl (lv_at hl 3 rfl) ?_
  refine g_vi (As := [.int a1, .int a2, .int a3]) (rest := []) S hG (by omega) (qX11_boxy l hn h0 h2 a1 a2 a3) wV_11_333 h0 cpX11 (by omega) dX11_bits_4 rfl hl.1 (ar := 3) (by decide +kernel) rfl ⟨Nat.le_of_ble_eq_true rfl, Nat.le_of_ble_eq_true rfl, Nat.le_of_ble_eq_true rfl, Nat.le_of_ble_eq_true rfl⟩ (Nat.le_of_ble_eq_true rfl) (fun r_3 u_E_1 H locs hp_2 hG => ?_)
  obtain ⟨n_E_1, E_1⟩ := u_E_1
  dsimp only at hp_2 hG
  obtain ⟨rfl, nhp_2, ehp_2⟩ := hp_2
  have hG := gW_eq2 hG nhp_2 ehp_2
  refine lv_if_ne (tgt := 13) hx hb dX11_bits_7 (by decide) (fun c_4 => absurd c_4 (by decide)) (fun c_4 => ?_)
  refine lv_bipush (v := (-2)) hx hb dX11_bits_10 (by decide) ?_
  exact g_iret S hr hlk hG (by omega) dX11_bits_12 ⟨Nat.le_of_ble_eq_true rfl, Nat.le_of_ble_eq_true rfl⟩ ⟨rfl, rfl, rfl⟩
set_option maxHeartbeats 4000000 in
set_option maxRecDepth 100000 in
theorem qX11_drawn (l : Launch) {D : va_G} {cy : Nat → ClassId} {b n : Nat} (hn : 105 ≤ n) {E : Nat → va_E} (h0 : E 0 = Z0 b cy) (h2 : E 2 = Z2 b cy)  (a1 : Int32) (a2 : Int32) (a3 : Int32) (a4 : Int32) (a5 : Int32) : gI l yX11_drawn cX11_drawn 10 (some .int) 3 0 0 D cy b n E [.ref (b + 0), .int a1, .int a2, .int a3, .int a4, .int a5] (fun r u => r = (-2) ∧ u.1 = n ∧ u.2 = E) := by
  refine gI_of (by decide) (Nat.le_of_ble_eq_true rfl) ?_
  intro p e s m args below meth c S hr hlk hin hsz ls hl hG
  have hx := S.1
  have hb := S.2.1
  have hl : lv_has ls 10 [(0, .ref (b + 0)), (1, .int a1), (2, .int a2), (3, .int a3), (4, .int a4), (5, .int a5)] := hl
  refine lv_aload_n hx hb dX11_drawn_0 rfl (lv_at hl 0 rfl) ?_
  refine lv_iload_n hx hb dX11_drawn_1 rfl (lv_at hl 1 rfl) ?_
  refine lv_iload_n hx hb dX11_drawn_2 rfl (lv_at hl 2 rfl) ?_
  refine lv_iload_n hx hb dX11_drawn_3 rfl (lv_at hl 3 rfl) ?_
  refine g_vi (As := [.int a1, .int a2, .int a3]) (rest := []) S hG (by omega) (qX11_boxy l hn h0 h2 a1 a2 a3) wV_11_333 h0 cpX11 (by omega) dX11_drawn_4 rfl hl.1 (ar := 3) (by decide +kernel) rfl ⟨Nat.le_of_ble_eq_true rfl, Nat.le_of_ble_eq_true rfl, Nat.le_of_ble_eq_true rfl, Nat.le_of_ble_eq_true rfl⟩ (Nat.le_of_ble_eq_true rfl) (fun r_3 u_E_1 H locs hp_2 hG => ?_)
  obtain ⟨n_E_1, E_1⟩ := u_E_1
  dsimp only at hp_2 hG
  obtain ⟨rfl, nhp_2, ehp_2⟩ := hp_2
  have hG := gW_eq2 hG nhp_2 ehp_2
  refine lv_if_eq (tgt := 34) hx hb dX11_drawn_7 (by decide) (fun c_4 => ?_) (fun c_4 => absurd c_4 (by decide))
  refine lv_bipush (v := (-2)) hx hb dX11_drawn_34 (by decide) ?_
  exact g_iret S hr hlk hG (by omega) dX11_drawn_36 ⟨Nat.le_of_ble_eq_true rfl, Nat.le_of_ble_eq_true rfl⟩ ⟨rfl, rfl, rfl⟩
set_option maxHeartbeats 4000000 in
set_option maxRecDepth 100000 in
theorem qX11_deal (l : Launch) {D : va_G} {cy : Nat → ClassId} {b n : Nat} (hn : 105 ≤ n) {E : Nat → va_E} (h0 : E 0 = Z0 b cy) (h2 : E 2 = Z2 b cy)  (a1 : Int32) (a2 : Int32) (a3 : Int32) (a4 : Int32) : gI l yX11_deal cX11_deal 7 (some .int) 3 0 0 D cy b n E [.ref (b + 0), .int a1, .int a2, .int a3, .int a4] (fun r u => r = (-2) ∧ u.1 = n ∧ u.2 = E) := by
  refine gI_of (by decide) (Nat.le_of_ble_eq_true rfl) ?_
  intro p e s m args below meth c S hr hlk hin hsz ls hl hG
  have hx := S.1
  have hb := S.2.1
  have hl : lv_has ls 7 [(0, .ref (b + 0)), (1, .int a1), (2, .int a2), (3, .int a3), (4, .int a4)] := hl
  refine lv_aload_n hx hb dX11_deal_0 rfl (lv_at hl 0 rfl) ?_
  refine lv_iload_n hx hb dX11_deal_1 rfl (lv_at hl 1 rfl) ?_
  refine lv_iload_n hx hb dX11_deal_2 rfl (lv_at hl 2 rfl) ?_
  refine lv_iload_n hx hb dX11_deal_3 rfl (lv_at hl 3 rfl) ?_
  refine g_vi (As := [.int a1, .int a2, .int a3]) (rest := []) S hG (by omega) (qX11_boxy l hn h0 h2 a1 a2 a3) wV_11_333 h0 cpX11 (by omega) dX11_deal_4 rfl hl.1 (ar := 3) (by decide +kernel) rfl ⟨Nat.le_of_ble_eq_true rfl, Nat.le_of_ble_eq_true rfl, Nat.le_of_ble_eq_true rfl, Nat.le_of_ble_eq_true rfl⟩ (Nat.le_of_ble_eq_true rfl) (fun r_3 u_E_1 H locs hp_2 hG => ?_)
  obtain ⟨n_E_1, E_1⟩ := u_E_1
  dsimp only at hp_2 hG
  obtain ⟨rfl, nhp_2, ehp_2⟩ := hp_2
  have hG := gW_eq2 hG nhp_2 ehp_2
  refine lv_if_eq (tgt := 23) hx hb dX11_deal_7 (by decide) (fun c_4 => ?_) (fun c_4 => absurd c_4 (by decide))
  refine lv_bipush (v := (-2)) hx hb dX11_deal_23 (by decide) ?_
  exact g_iret S hr hlk hG (by omega) dX11_deal_25 ⟨Nat.le_of_ble_eq_true rfl, Nat.le_of_ble_eq_true rfl⟩ ⟨rfl, rfl, rfl⟩
set_option maxHeartbeats 4000000 in
set_option maxRecDepth 100000 in
theorem qX11_takes (l : Launch) {D : va_G} {cy : Nat → ClassId} {b n : Nat} (hn : 105 ≤ n) {E : Nat → va_E} (h0 : E 0 = Z0 b cy) (h2 : E 2 = Z2 b cy)  (a1 : Int32) (a2 : Int32) : gI l yX11_takes cX11_takes 3 (some .int) 2 0 0 D cy b n E [.ref (b + 0), .int a1, .int a2] (fun r u => r = (-2) ∧ u.1 = n ∧ u.2 = E) := by
  refine gI_of (by decide) (Nat.le_of_ble_eq_true rfl) ?_
  intro p e s m args below meth c S hr hlk hin hsz ls hl hG
  have hx := S.1
  have hb := S.2.1
  have hl : lv_has ls 3 [(0, .ref (b + 0)), (1, .int a1), (2, .int a2)] := hl
  refine lv_aload_n hx hb dX11_takes_0 rfl (lv_at hl 0 rfl) ?_
  refine lv_iload_n hx hb dX11_takes_1 rfl (lv_at hl 1 rfl) ?_
  refine lv_iload_n hx hb dX11_takes_2 rfl (lv_at hl 2 rfl) ?_
  refine g_vi (As := [.int a1, .int a2]) (rest := []) S hG (by omega) (qX11_termed l hn h0 h2 a1 a2) wV_11_228 h0 cpX11 (by omega) dX11_takes_3 rfl hl.1 (ar := 2) (by decide +kernel) rfl ⟨Nat.le_of_ble_eq_true rfl, Nat.le_of_ble_eq_true rfl, Nat.le_of_ble_eq_true rfl, Nat.le_of_ble_eq_true rfl⟩ (Nat.le_of_ble_eq_true rfl) (fun r_3 u_E_1 H locs hp_2 hG => ?_)
  obtain ⟨n_E_1, E_1⟩ := u_E_1
  dsimp only at hp_2 hG
  obtain ⟨rfl, nhp_2, ehp_2⟩ := hp_2
  have hG := gW_eq2 hG nhp_2 ehp_2
  refine lv_if_ne (tgt := 12) hx hb dX11_takes_6 (by decide) (fun c_4 => absurd c_4 (by decide)) (fun c_4 => ?_)
  refine lv_bipush (v := (-2)) hx hb dX11_takes_9 (by decide) ?_
  exact g_iret S hr hlk hG (by omega) dX11_takes_11 ⟨Nat.le_of_ble_eq_true rfl, Nat.le_of_ble_eq_true rfl⟩ ⟨rfl, rfl, rfl⟩
set_option maxHeartbeats 4000000 in
set_option maxRecDepth 100000 in
theorem qX11_undo (l : Launch) {D : va_G} {cy : Nat → ClassId} {b n : Nat} (hn : 105 ≤ n) {E : Nat → va_E} (h0 : E 0 = Z0 b cy) (h2 : E 2 = Z2 b cy)   : gI l yX11_undo cX11_undo 1 (some .int) 0 0 0 D cy b n E [.ref (b + 0)] (fun r u => r = (-2) ∧ u.1 = n ∧ u.2 = E) := by
  refine gI_of (by decide) (Nat.le_of_ble_eq_true rfl) ?_
  intro p e s m args below meth c S hr hlk hin hsz ls hl hG
  have hx := S.1
  have hb := S.2.1
  have hl : lv_has ls 1 [(0, .ref (b + 0))] := hl
  refine lv_aload_n hx hb dX11_undo_0 rfl (lv_at hl 0 rfl) ?_
  refine g_get S hG 0 2 h0 cpX11 wm_668 dX11_undo_1 rfl (by omega) (by decide) ?_
  refine g_get S hG 2 2 h2 cpX2 wm_224 dX11_undo_4 rfl (by omega) (by decide) ?_
  refine lv_if_ne (tgt := 13) hx hb dX11_undo_7 (by decide) (fun c_1 => absurd c_1 (by decide)) (fun c_1 => ?_)
  refine lv_bipush (v := (-2)) hx hb dX11_undo_10 (by decide) ?_
  exact g_iret S hr hlk hG (by omega) dX11_undo_12 ⟨Nat.le_of_ble_eq_true rfl, Nat.le_of_ble_eq_true rfl⟩ ⟨rfl, rfl, rfl⟩
set_option maxHeartbeats 4000000 in
set_option maxRecDepth 100000 in
theorem qX11_anew (l : Launch) {D : va_G} {cy : Nat → ClassId} {b n : Nat} (hn : 105 ≤ n) {E : Nat → va_E} (h0 : E 0 = Z0 b cy) (h2 : E 2 = Z2 b cy)   : gI l yX11_anew cX11_anew 3 (some .int) 0 0 0 D cy b n E [.ref (b + 0)] (fun r u => r = (-2) ∧ u.1 = n ∧ u.2 = E) := by
  refine gI_of (by decide) (Nat.le_of_ble_eq_true rfl) ?_
  intro p e s m args below meth c S hr hlk hin hsz ls hl hG
  have hx := S.1
  have hb := S.2.1
  have hl : lv_has ls 3 [(0, .ref (b + 0))] := hl
  refine lv_aload_n hx hb dX11_anew_0 rfl (lv_at hl 0 rfl) ?_
  refine g_get S hG 0 2 h0 cpX11 wm_668 dX11_anew_1 rfl (by omega) (by decide) ?_
  refine g_get S hG 2 2 h2 cpX2 wm_224 dX11_anew_4 rfl (by omega) (by decide) ?_
  refine lv_if_ne (tgt := 13) hx hb dX11_anew_7 (by decide) (fun c_1 => absurd c_1 (by decide)) (fun c_1 => ?_)
  refine lv_bipush (v := (-2)) hx hb dX11_anew_10 (by decide) ?_
  exact g_iret S hr hlk hG (by omega) dX11_anew_12 ⟨Nat.le_of_ble_eq_true rfl, Nat.le_of_ble_eq_true rfl⟩ ⟨rfl, rfl, rfl⟩
set_option maxHeartbeats 4000000 in
set_option maxRecDepth 100000 in
theorem qX1_next (l : Launch) {D : va_G} {cy : Nat → ClassId} {b n : Nat} (hn : 105 ≤ n) {E : Nat → va_E} (h80 : E 80 = Z80 b cy)   : gI l yX1_next cX1_next 2 (some .int) 0 0 0 D cy b n E [.ref (b + 80)] (fun r u => r = (-1) ∧ u.1 = n ∧ u.2 = E) := by
  refine gI_of (by decide) (Nat.le_of_ble_eq_true rfl) ?_
  intro p e s m args below meth c S hr hlk hin hsz ls hl hG
  have hx := S.1
  have hb := S.2.1
  have hl : lv_has ls 2 [(0, .ref (b + 80))] := hl
  refine lv_aload_n hx hb dX1_next_0 rfl (lv_at hl 0 rfl) ?_
  refine g_get S hG 80 1 h80 cpX1 wm_644 dX1_next_1 rfl (by omega) (by decide) ?_
  refine lv_if_ne (tgt := 9) hx hb dX1_next_4 (by decide) (fun c_1 => absurd c_1 (by decide)) (fun c_1 => ?_)
  refine lv_iconst (v := (-1)) hx hb dX1_next_7 (by decide) ?_
  exact g_iret S hr hlk hG (by omega) dX1_next_8 ⟨Nat.le_of_ble_eq_true rfl, Nat.le_of_ble_eq_true rfl⟩ ⟨rfl, rfl, rfl⟩
theorem wV_11_361 : gWV "GrownKinds" 361 yX1_next cX1_next 2 (some .int) := ⟨wm_1627, wm_1628, wm_1629, wm_186, wm_1630, by decide +kernel, by decide +kernel⟩
set_option maxHeartbeats 4000000 in
set_option maxRecDepth 100000 in
theorem qX11_dealt (l : Launch) {D : va_G} {cy : Nat → ClassId} {b n : Nat} (hn : 105 ≤ n) {E : Nat → va_E} (h0 : E 0 = Z0 b cy) (h80 : E 80 = Z80 b cy)   : gI l yX11_dealt cX11_dealt 1 (some .int) 1 0 0 D cy b n E [.ref (b + 0)] (fun r u => r = (-1) ∧ u.1 = n ∧ u.2 = E) := by
  refine gI_of (by decide) (Nat.le_of_ble_eq_true rfl) ?_
  intro p e s m args below meth c S hr hlk hin hsz ls hl hG
  have hx := S.1
  have hb := S.2.1
  have hl : lv_has ls 1 [(0, .ref (b + 0))] := hl
  refine lv_aload_n hx hb dX11_dealt_0 rfl (lv_at hl 0 rfl) ?_
  refine g_get S hG 0 12 h0 cpX11 wm_678 dX11_dealt_1 rfl (by omega) (by decide) ?_
  refine g_vi (As := []) (rest := []) S hG (by omega) (qX1_next l hn h80 ) wV_11_361 h80 cpX1 (by omega) dX11_dealt_4 rfl hl.1 (ar := 0) (by decide +kernel) rfl ⟨Nat.le_of_ble_eq_true rfl, Nat.le_of_ble_eq_true rfl, Nat.le_of_ble_eq_true rfl, Nat.le_of_ble_eq_true rfl⟩ (Nat.le_of_ble_eq_true rfl) (fun r_3 u_E_1 H locs hp_2 hG => ?_)
  obtain ⟨n_E_1, E_1⟩ := u_E_1
  dsimp only at hp_2 hG
  obtain ⟨rfl, nhp_2, ehp_2⟩ := hp_2
  have hG := gW_eq2 hG nhp_2 ehp_2
  exact g_iret S hr hlk hG (by omega) dX11_dealt_7 ⟨Nat.le_of_ble_eq_true rfl, Nat.le_of_ble_eq_true rfl⟩ ⟨rfl, rfl, rfl⟩
set_option maxHeartbeats 4000000 in
set_option maxRecDepth 100000 in
theorem qX11_left (l : Launch) {D : va_G} {cy : Nat → ClassId} {b n : Nat} (hn : 105 ≤ n) {E : Nat → va_E} (h0 : E 0 = Z0 b cy) (h80 : E 80 = Z80 b cy)   : gI l yX11_left cX11_left 1 (some .int) 0 0 0 D cy b n E [.ref (b + 0)] (fun r u => r = 0 ∧ u.1 = n ∧ u.2 = E) := by
  refine gI_of (by decide) (Nat.le_of_ble_eq_true rfl) ?_
  intro p e s m args below meth c S hr hlk hin hsz ls hl hG
  have hx := S.1
  have hb := S.2.1
  have hl : lv_has ls 1 [(0, .ref (b + 0))] := hl
  refine lv_aload_n hx hb dX11_left_0 rfl (lv_at hl 0 rfl) ?_
  refine g_get S hG 0 12 h0 cpX11 wm_678 dX11_left_1 rfl (by omega) (by decide) ?_
  refine g_get S hG 80 1 h80 cpX1 wm_645 dX11_left_4 rfl (by omega) (by decide) ?_
  exact g_iret S hr hlk hG (by omega) dX11_left_7 ⟨Nat.le_of_ble_eq_true rfl, Nat.le_of_ble_eq_true rfl⟩ ⟨rfl, rfl, rfl⟩
theorem wS_12_97 : gWS "GrownKindsModel" 97 yX12_in cX12_in 6 (some .boolean) := ⟨wm_1839, wm_1840, wm_187, wm_1841, by decide +kernel, by decide +kernel⟩
set_option maxHeartbeats 4000000 in
set_option maxRecDepth 100000 in
theorem qX12_isKind (l : Launch) {D : va_G} {cy : Nat → ClassId} {b n : Nat} (hn : 105 ≤ n) {E : Nat → va_E} (h83 : E 83 = Z83 b cy) (h84 : E 84 = Z84 b cy)  (a1 : Int32) : gI l yX12_isKind cX12_isKind 2 (some .boolean) 1 0 0 D cy b n E [.ref (b + 83), .int a1] (fun r u => r = 0 ∧ u.1 = n ∧ u.2 = E) := by
  refine gI_of (by decide) (Nat.le_of_ble_eq_true rfl) ?_
  intro p e s m args below meth c S hr hlk hin hsz ls hl hG
  have hx := S.1
  have hb := S.2.1
  have hl : lv_has ls 2 [(0, .ref (b + 83)), (1, .int a1)] := hl
  refine lv_iload_n hx hb dX12_isKind_0 rfl (lv_at hl 1 rfl) ?_
  refine lv_i2l hx hb dX12_isKind_1 rfl ?_
  refine lv_lconst (v := 0) hx hb dX12_isKind_2 (by decide) ?_
  refine lv_aload_n hx hb dX12_isKind_3 rfl (lv_at hl 0 rfl) ?_
  refine g_get S hG 83 0 h83 cpX12 wm_1674 dX12_isKind_4 rfl (by omega) (by decide) ?_
  refine lv_iconst (v := 0) hx hb dX12_isKind_7 (by decide) ?_
  refine g_iald S hG 84 h84 (by omega) dX12_isKind_8 (by unfold vp_in; decide) ?_
  refine lv_topi (fun x_1 ex_1 => ?_)
  obtain rfl : x_1 = 0 := ex_1.trans (by decide)
  refine lv_iconst (v := 1) hx hb dX12_isKind_9 (by decide) ?_
  refine lv_isub hx hb dX12_isKind_10 ?_
  refine lv_topi (fun x_2 ex_2 => ?_)
  obtain rfl : x_2 = (-1) := ex_2.trans (by decide)
  refine lv_i2l (v := (-1)) hx hb dX12_isKind_11 (by decide) ?_
  refine g_si (As := [.long (Int32.toInt64 a1), .long 0, .long (-1)]) (rest := []) S hG (by omega) (qX12_in l hn  (Int32.toInt64 a1) 0 (-1)) wS_12_97 dX12_isKind_12 rfl hl.1 (ar := 3) (by decide +kernel) rfl ⟨Nat.le_of_ble_eq_true rfl, Nat.le_of_ble_eq_true rfl, Nat.le_of_ble_eq_true rfl, Nat.le_of_ble_eq_true rfl⟩ (Nat.le_of_ble_eq_true rfl) (fun r_5 u_E_3 H locs hp_4 hG => ?_)
  obtain ⟨n_E_3, E_3⟩ := u_E_3
  dsimp only at hp_4 hG
  obtain ⟨hr_6, nhp_4, ehp_4⟩ := hp_4
  have hG := gW_eq2 hG nhp_4 ehp_4
  obtain rfl : r_5 = 0 := hr_6.trans (if_neg (fun h => absurd (Int64.le_trans h.1 h.2) (by decide)))
  exact g_zret S hr hlk hG (by omega) dX12_isKind_15 ⟨Nat.le_of_ble_eq_true rfl, Nat.le_of_ble_eq_true rfl⟩ rfl ⟨rfl, rfl, rfl⟩
theorem wV_12_225 : gWV "GrownKindsModel" 225 yX12_isKind cX12_isKind 2 (some .boolean) := ⟨wm_1982, wm_1984, wm_112, wm_187, wm_1985, by decide +kernel, by decide +kernel⟩
set_option maxHeartbeats 4000000 in
set_option maxRecDepth 100000 in
theorem qX12_isTerm (l : Launch) {D : va_G} {cy : Nat → ClassId} {b n : Nat} (hn : 105 ≤ n) {E : Nat → va_E} (h83 : E 83 = Z83 b cy) (h84 : E 84 = Z84 b cy)  (a1 : Int32) (a2 : Int32) : gI l yX12_isTerm cX12_isTerm 3 (some .boolean) 2 0 0 D cy b n E [.ref (b + 83), .int a1, .int a2] (fun r u => r = 0 ∧ u.1 = n ∧ u.2 = E) := by
  refine gI_of (by decide) (Nat.le_of_ble_eq_true rfl) ?_
  intro p e s m args below meth c S hr hlk hin hsz ls hl hG
  have hx := S.1
  have hb := S.2.1
  have hl : lv_has ls 3 [(0, .ref (b + 83)), (1, .int a1), (2, .int a2)] := hl
  refine lv_aload_n hx hb dX12_isTerm_0 rfl (lv_at hl 0 rfl) ?_
  refine lv_iload_n hx hb dX12_isTerm_1 rfl (lv_at hl 1 rfl) ?_
  refine g_vi (As := [.int a1]) (rest := []) S hG (by omega) (qX12_isKind l hn h83 h84 a1) wV_12_225 h83 cpX12 (by omega) dX12_isTerm_2 rfl hl.1 (ar := 1) (by decide +kernel) rfl ⟨Nat.le_of_ble_eq_true rfl, Nat.le_of_ble_eq_true rfl, Nat.le_of_ble_eq_true rfl, Nat.le_of_ble_eq_true rfl⟩ (Nat.le_of_ble_eq_true rfl) (fun r_3 u_E_1 H locs hp_2 hG => ?_)
  obtain ⟨n_E_1, E_1⟩ := u_E_1
  dsimp only at hp_2 hG
  obtain ⟨rfl, nhp_2, ehp_2⟩ := hp_2
  have hG := gW_eq2 hG nhp_2 ehp_2
  refine lv_if_eq (tgt := 34) hx hb dX12_isTerm_5 (by decide) (fun c_4 => ?_) (fun c_4 => absurd c_4 (by decide))
  refine lv_iconst (v := 0) hx hb dX12_isTerm_34 (by decide) ?_
  exact g_zret S hr hlk hG (by omega) dX12_isTerm_35 ⟨Nat.le_of_ble_eq_true rfl, Nat.le_of_ble_eq_true rfl⟩ rfl ⟨rfl, rfl, rfl⟩
set_option maxHeartbeats 4000000 in
set_option maxRecDepth 100000 in
theorem qX12_terms (l : Launch) {D : va_G} {cy : Nat → ClassId} {b n : Nat} (hn : 105 ≤ n) {E : Nat → va_E} (h83 : E 83 = Z83 b cy) (h84 : E 84 = Z84 b cy)  (a1 : Int32) : gI l yX12_terms cX12_terms 2 (some .int) 2 0 0 D cy b n E [.ref (b + 83), .int a1] (fun r u => r = (-2) ∧ u.1 = n ∧ u.2 = E) := by
  refine gI_of (by decide) (Nat.le_of_ble_eq_true rfl) ?_
  intro p e s m args below meth c S hr hlk hin hsz ls hl hG
  have hx := S.1
  have hb := S.2.1
  have hl : lv_has ls 2 [(0, .ref (b + 83)), (1, .int a1)] := hl
  refine lv_aload_n hx hb dX12_terms_0 rfl (lv_at hl 0 rfl) ?_
  refine lv_iload_n hx hb dX12_terms_1 rfl (lv_at hl 1 rfl) ?_
  refine g_vi (As := [.int a1]) (rest := []) S hG (by omega) (qX12_isKind l hn h83 h84 a1) wV_12_225 h83 cpX12 (by omega) dX12_terms_2 rfl hl.1 (ar := 1) (by decide +kernel) rfl ⟨Nat.le_of_ble_eq_true rfl, Nat.le_of_ble_eq_true rfl, Nat.le_of_ble_eq_true rfl, Nat.le_of_ble_eq_true rfl⟩ (Nat.le_of_ble_eq_true rfl) (fun r_3 u_E_1 H locs hp_2 hG => ?_)
  obtain ⟨n_E_1, E_1⟩ := u_E_1
  dsimp only at hp_2 hG
  obtain ⟨rfl, nhp_2, ehp_2⟩ := hp_2
  have hG := gW_eq2 hG nhp_2 ehp_2
  refine lv_if_eq (tgt := 21) hx hb dX12_terms_5 (by decide) (fun c_4 => ?_) (fun c_4 => absurd c_4 (by decide))
  refine lv_bipush (v := (-2)) hx hb dX12_terms_21 (by decide) ?_
  exact g_iret S hr hlk hG (by omega) dX12_terms_23 ⟨Nat.le_of_ble_eq_true rfl, Nat.le_of_ble_eq_true rfl⟩ ⟨rfl, rfl, rfl⟩
set_option maxHeartbeats 4000000 in
set_option maxRecDepth 100000 in
theorem qX12_off (l : Launch) {D : va_G} {cy : Nat → ClassId} {b n : Nat} (hn : 105 ≤ n) {E : Nat → va_E} (h83 : E 83 = Z83 b cy) (h84 : E 84 = Z84 b cy)  (a1 : Int32) : gI l yX12_off cX12_off 2 (some .int) 2 0 0 D cy b n E [.ref (b + 83), .int a1] (fun r u => r = (-2) ∧ u.1 = n ∧ u.2 = E) := by
  refine gI_of (by decide) (Nat.le_of_ble_eq_true rfl) ?_
  intro p e s m args below meth c S hr hlk hin hsz ls hl hG
  have hx := S.1
  have hb := S.2.1
  have hl : lv_has ls 2 [(0, .ref (b + 83)), (1, .int a1)] := hl
  refine lv_aload_n hx hb dX12_off_0 rfl (lv_at hl 0 rfl) ?_
  refine lv_iload_n hx hb dX12_off_1 rfl (lv_at hl 1 rfl) ?_
  refine g_vi (As := [.int a1]) (rest := []) S hG (by omega) (qX12_isKind l hn h83 h84 a1) wV_12_225 h83 cpX12 (by omega) dX12_off_2 rfl hl.1 (ar := 1) (by decide +kernel) rfl ⟨Nat.le_of_ble_eq_true rfl, Nat.le_of_ble_eq_true rfl, Nat.le_of_ble_eq_true rfl, Nat.le_of_ble_eq_true rfl⟩ (Nat.le_of_ble_eq_true rfl) (fun r_3 u_E_1 H locs hp_2 hG => ?_)
  obtain ⟨n_E_1, E_1⟩ := u_E_1
  dsimp only at hp_2 hG
  obtain ⟨rfl, nhp_2, ehp_2⟩ := hp_2
  have hG := gW_eq2 hG nhp_2 ehp_2
  refine lv_if_eq (tgt := 20) hx hb dX12_off_5 (by decide) (fun c_4 => ?_) (fun c_4 => absurd c_4 (by decide))
  refine lv_bipush (v := (-2)) hx hb dX12_off_20 (by decide) ?_
  exact g_iret S hr hlk hG (by omega) dX12_off_22 ⟨Nat.le_of_ble_eq_true rfl, Nat.le_of_ble_eq_true rfl⟩ ⟨rfl, rfl, rfl⟩
set_option maxHeartbeats 4000000 in
set_option maxRecDepth 100000 in
theorem qX12_letters (l : Launch) {D : va_G} {cy : Nat → ClassId} {b n : Nat} (hn : 105 ≤ n) {E : Nat → va_E} (h83 : E 83 = Z83 b cy) (h84 : E 84 = Z84 b cy)  (a1 : Int32) : gI l yX12_letters cX12_letters 2 (some .int) 2 0 0 D cy b n E [.ref (b + 83), .int a1] (fun r u => r = (-2) ∧ u.1 = n ∧ u.2 = E) := by
  refine gI_of (by decide) (Nat.le_of_ble_eq_true rfl) ?_
  intro p e s m args below meth c S hr hlk hin hsz ls hl hG
  have hx := S.1
  have hb := S.2.1
  have hl : lv_has ls 2 [(0, .ref (b + 83)), (1, .int a1)] := hl
  refine lv_aload_n hx hb dX12_letters_0 rfl (lv_at hl 0 rfl) ?_
  refine lv_iload_n hx hb dX12_letters_1 rfl (lv_at hl 1 rfl) ?_
  refine g_vi (As := [.int a1]) (rest := []) S hG (by omega) (qX12_isKind l hn h83 h84 a1) wV_12_225 h83 cpX12 (by omega) dX12_letters_2 rfl hl.1 (ar := 1) (by decide +kernel) rfl ⟨Nat.le_of_ble_eq_true rfl, Nat.le_of_ble_eq_true rfl, Nat.le_of_ble_eq_true rfl, Nat.le_of_ble_eq_true rfl⟩ (Nat.le_of_ble_eq_true rfl) (fun r_3 u_E_1 H locs hp_2 hG => ?_)
  obtain ⟨n_E_1, E_1⟩ := u_E_1
  dsimp only at hp_2 hG
  obtain ⟨rfl, nhp_2, ehp_2⟩ := hp_2
  have hG := gW_eq2 hG nhp_2 ehp_2
  refine lv_if_eq (tgt := 17) hx hb dX12_letters_5 (by decide) (fun c_4 => ?_) (fun c_4 => absurd c_4 (by decide))
  refine lv_bipush (v := (-2)) hx hb dX12_letters_17 (by decide) ?_
  exact g_iret S hr hlk hG (by omega) dX12_letters_19 ⟨Nat.le_of_ble_eq_true rfl, Nat.le_of_ble_eq_true rfl⟩ ⟨rfl, rfl, rfl⟩
set_option maxHeartbeats 4000000 in
set_option maxRecDepth 100000 in
theorem qX12_uses (l : Launch) {D : va_G} {cy : Nat → ClassId} {b n : Nat} (hn : 105 ≤ n) {E : Nat → va_E} (h83 : E 83 = Z83 b cy) (h84 : E 84 = Z84 b cy)  (a1 : Int32) : gI l yX12_uses cX12_uses 2 (some .int) 2 0 0 D cy b n E [.ref (b + 83), .int a1] (fun r u => r = (-2) ∧ u.1 = n ∧ u.2 = E) := by
  refine gI_of (by decide) (Nat.le_of_ble_eq_true rfl) ?_
  intro p e s m args below meth c S hr hlk hin hsz ls hl hG
  have hx := S.1
  have hb := S.2.1
  have hl : lv_has ls 2 [(0, .ref (b + 83)), (1, .int a1)] := hl
  refine lv_aload_n hx hb dX12_uses_0 rfl (lv_at hl 0 rfl) ?_
  refine lv_iload_n hx hb dX12_uses_1 rfl (lv_at hl 1 rfl) ?_
  refine g_vi (As := [.int a1]) (rest := []) S hG (by omega) (qX12_isKind l hn h83 h84 a1) wV_12_225 h83 cpX12 (by omega) dX12_uses_2 rfl hl.1 (ar := 1) (by decide +kernel) rfl ⟨Nat.le_of_ble_eq_true rfl, Nat.le_of_ble_eq_true rfl, Nat.le_of_ble_eq_true rfl, Nat.le_of_ble_eq_true rfl⟩ (Nat.le_of_ble_eq_true rfl) (fun r_3 u_E_1 H locs hp_2 hG => ?_)
  obtain ⟨n_E_1, E_1⟩ := u_E_1
  dsimp only at hp_2 hG
  obtain ⟨rfl, nhp_2, ehp_2⟩ := hp_2
  have hG := gW_eq2 hG nhp_2 ehp_2
  refine lv_if_eq (tgt := 17) hx hb dX12_uses_5 (by decide) (fun c_4 => ?_) (fun c_4 => absurd c_4 (by decide))
  refine lv_bipush (v := (-2)) hx hb dX12_uses_17 (by decide) ?_
  exact g_iret S hr hlk hG (by omega) dX12_uses_19 ⟨Nat.le_of_ble_eq_true rfl, Nat.le_of_ble_eq_true rfl⟩ ⟨rfl, rfl, rfl⟩
set_option maxHeartbeats 4000000 in
set_option maxRecDepth 100000 in
theorem qX12_reaches (l : Launch) {D : va_G} {cy : Nat → ClassId} {b n : Nat} (hn : 105 ≤ n) {E : Nat → va_E} (h83 : E 83 = Z83 b cy) (h84 : E 84 = Z84 b cy)  (a1 : Int32) : gI l yX12_reaches cX12_reaches 5 (some .int) 2 0 0 D cy b n E [.ref (b + 83), .int a1] (fun r u => r = (-2) ∧ u.1 = n ∧ u.2 = E) := by
  refine gI_of (by decide) (Nat.le_of_ble_eq_true rfl) ?_
  intro p e s m args below meth c S hr hlk hin hsz ls hl hG
  have hx := S.1
  have hb := S.2.1
  have hl : lv_has ls 5 [(0, .ref (b + 83)), (1, .int a1)] := hl
  refine lv_aload_n hx hb dX12_reaches_0 rfl (lv_at hl 0 rfl) ?_
  refine lv_iload_n hx hb dX12_reaches_1 rfl (lv_at hl 1 rfl) ?_
  refine g_vi (As := [.int a1]) (rest := []) S hG (by omega) (qX12_isKind l hn h83 h84 a1) wV_12_225 h83 cpX12 (by omega) dX12_reaches_2 rfl hl.1 (ar := 1) (by decide +kernel) rfl ⟨Nat.le_of_ble_eq_true rfl, Nat.le_of_ble_eq_true rfl, Nat.le_of_ble_eq_true rfl, Nat.le_of_ble_eq_true rfl⟩ (Nat.le_of_ble_eq_true rfl) (fun r_3 u_E_1 H locs hp_2 hG => ?_)
  obtain ⟨n_E_1, E_1⟩ := u_E_1
  dsimp only at hp_2 hG
  obtain ⟨rfl, nhp_2, ehp_2⟩ := hp_2
  have hG := gW_eq2 hG nhp_2 ehp_2
  refine lv_if_ne (tgt := 11) hx hb dX12_reaches_5 (by decide) (fun c_4 => absurd c_4 (by decide)) (fun c_4 => ?_)
  refine lv_bipush (v := (-2)) hx hb dX12_reaches_8 (by decide) ?_
  exact g_iret S hr hlk hG (by omega) dX12_reaches_10 ⟨Nat.le_of_ble_eq_true rfl, Nat.le_of_ble_eq_true rfl⟩ ⟨rfl, rfl, rfl⟩
set_option maxHeartbeats 4000000 in
set_option maxRecDepth 100000 in
theorem qX12_empty (l : Launch) {D : va_G} {cy : Nat → ClassId} {b n : Nat} (hn : 105 ≤ n) {E : Nat → va_E} (h83 : E 83 = Z83 b cy) (h84 : E 84 = Z84 b cy)  (a1 : Int32) : gI l yX12_empty cX12_empty 2 (some .int) 2 0 0 D cy b n E [.ref (b + 83), .int a1] (fun r u => r = (-2) ∧ u.1 = n ∧ u.2 = E) := by
  refine gI_of (by decide) (Nat.le_of_ble_eq_true rfl) ?_
  intro p e s m args below meth c S hr hlk hin hsz ls hl hG
  have hx := S.1
  have hb := S.2.1
  have hl : lv_has ls 2 [(0, .ref (b + 83)), (1, .int a1)] := hl
  refine lv_aload_n hx hb dX12_empty_0 rfl (lv_at hl 0 rfl) ?_
  refine lv_iload_n hx hb dX12_empty_1 rfl (lv_at hl 1 rfl) ?_
  refine g_vi (As := [.int a1]) (rest := []) S hG (by omega) (qX12_isKind l hn h83 h84 a1) wV_12_225 h83 cpX12 (by omega) dX12_empty_2 rfl hl.1 (ar := 1) (by decide +kernel) rfl ⟨Nat.le_of_ble_eq_true rfl, Nat.le_of_ble_eq_true rfl, Nat.le_of_ble_eq_true rfl, Nat.le_of_ble_eq_true rfl⟩ (Nat.le_of_ble_eq_true rfl) (fun r_3 u_E_1 H locs hp_2 hG => ?_)
  obtain ⟨n_E_1, E_1⟩ := u_E_1
  dsimp only at hp_2 hG
  obtain ⟨rfl, nhp_2, ehp_2⟩ := hp_2
  have hG := gW_eq2 hG nhp_2 ehp_2
  refine lv_if_ne (tgt := 11) hx hb dX12_empty_5 (by decide) (fun c_4 => absurd c_4 (by decide)) (fun c_4 => ?_)
  refine lv_bipush (v := (-2)) hx hb dX12_empty_8 (by decide) ?_
  exact g_iret S hr hlk hG (by omega) dX12_empty_10 ⟨Nat.le_of_ble_eq_true rfl, Nat.le_of_ble_eq_true rfl⟩ ⟨rfl, rfl, rfl⟩
set_option maxHeartbeats 4000000 in
set_option maxRecDepth 100000 in
theorem qX12_leans (l : Launch) {D : va_G} {cy : Nat → ClassId} {b n : Nat} (hn : 105 ≤ n) {E : Nat → va_E} (h83 : E 83 = Z83 b cy) (h84 : E 84 = Z84 b cy)  (a1 : Int32) : gI l yX12_leans cX12_leans 2 (some .int) 2 0 0 D cy b n E [.ref (b + 83), .int a1] (fun r u => r = (-2) ∧ u.1 = n ∧ u.2 = E) := by
  refine gI_of (by decide) (Nat.le_of_ble_eq_true rfl) ?_
  intro p e s m args below meth c S hr hlk hin hsz ls hl hG
  have hx := S.1
  have hb := S.2.1
  have hl : lv_has ls 2 [(0, .ref (b + 83)), (1, .int a1)] := hl
  refine lv_aload_n hx hb dX12_leans_0 rfl (lv_at hl 0 rfl) ?_
  refine lv_iload_n hx hb dX12_leans_1 rfl (lv_at hl 1 rfl) ?_
  refine g_vi (As := [.int a1]) (rest := []) S hG (by omega) (qX12_isKind l hn h83 h84 a1) wV_12_225 h83 cpX12 (by omega) dX12_leans_2 rfl hl.1 (ar := 1) (by decide +kernel) rfl ⟨Nat.le_of_ble_eq_true rfl, Nat.le_of_ble_eq_true rfl, Nat.le_of_ble_eq_true rfl, Nat.le_of_ble_eq_true rfl⟩ (Nat.le_of_ble_eq_true rfl) (fun r_3 u_E_1 H locs hp_2 hG => ?_)
  obtain ⟨n_E_1, E_1⟩ := u_E_1
  dsimp only at hp_2 hG
  obtain ⟨rfl, nhp_2, ehp_2⟩ := hp_2
  have hG := gW_eq2 hG nhp_2 ehp_2
  refine lv_if_ne (tgt := 11) hx hb dX12_leans_5 (by decide) (fun c_4 => absurd c_4 (by decide)) (fun c_4 => ?_)
  refine lv_bipush (v := (-2)) hx hb dX12_leans_8 (by decide) ?_
  exact g_iret S hr hlk hG (by omega) dX12_leans_10 ⟨Nat.le_of_ble_eq_true rfl, Nat.le_of_ble_eq_true rfl⟩ ⟨rfl, rfl, rfl⟩
set_option maxHeartbeats 4000000 in
set_option maxRecDepth 100000 in
theorem qX12_blank (l : Launch) {D : va_G} {cy : Nat → ClassId} {b n : Nat} (hn : 105 ≤ n) {E : Nat → va_E} (h83 : E 83 = Z83 b cy) (h84 : E 84 = Z84 b cy)   : gI l yX12_blank cX12_blank 3 (some .int) 0 0 0 D cy b n E [.ref (b + 83)] (fun r u => r = (-2) ∧ u.1 = n ∧ u.2 = E) := by
  refine gI_of (by decide) (Nat.le_of_ble_eq_true rfl) ?_
  intro p e s m args below meth c S hr hlk hin hsz ls hl hG
  have hx := S.1
  have hb := S.2.1
  have hl : lv_has ls 3 [(0, .ref (b + 83))] := hl
  refine lv_aload_n hx hb dX12_blank_0 rfl (lv_at hl 0 rfl) ?_
  refine g_get S hG 83 0 h83 cpX12 wm_1674 dX12_blank_1 rfl (by omega) (by decide) ?_
  refine lv_iconst (v := 3) hx hb dX12_blank_4 (by decide) ?_
  refine g_iald S hG 84 h84 (by omega) dX12_blank_5 (by unfold vp_in; decide) ?_
  refine lv_topi (fun x_1 ex_1 => ?_)
  obtain rfl : x_1 = 0 := ex_1.trans (by decide)
  refine lv_if_ne (tgt := 12) hx hb dX12_blank_6 (by decide) (fun c_2 => absurd c_2 (by decide)) (fun c_2 => ?_)
  refine lv_bipush (v := (-2)) hx hb dX12_blank_9 (by decide) ?_
  exact g_iret S hr hlk hG (by omega) dX12_blank_11 ⟨Nat.le_of_ble_eq_true rfl, Nat.le_of_ble_eq_true rfl⟩ ⟨rfl, rfl, rfl⟩
set_option maxHeartbeats 4000000 in
set_option maxRecDepth 100000 in
theorem qX12_things (l : Launch) {D : va_G} {cy : Nat → ClassId} {b n : Nat} (hn : 105 ≤ n) {E : Nat → va_E} (h83 : E 83 = Z83 b cy) (h84 : E 84 = Z84 b cy)  (a1 : Int32) (a2 : Int32) : gL l yX12_things cX12_things 3 2 0 0 D cy b n E [.ref (b + 83), .int a1, .int a2] (fun r u => r = (-2) ∧ u.1 = n ∧ u.2 = E) := by
  refine gL_of (by decide) (Nat.le_of_ble_eq_true rfl) ?_
  intro p e s m args below meth c S hr hlk hin hsz ls hl hG
  have hx := S.1
  have hb := S.2.1
  have hl : lv_has ls 3 [(0, .ref (b + 83)), (1, .int a1), (2, .int a2)] := hl
  refine lv_aload_n hx hb dX12_things_0 rfl (lv_at hl 0 rfl) ?_
  refine lv_iload_n hx hb dX12_things_1 rfl (lv_at hl 1 rfl) ?_
  refine g_vi (As := [.int a1]) (rest := []) S hG (by omega) (qX12_isKind l hn h83 h84 a1) wV_12_225 h83 cpX12 (by omega) dX12_things_2 rfl hl.1 (ar := 1) (by decide +kernel) rfl ⟨Nat.le_of_ble_eq_true rfl, Nat.le_of_ble_eq_true rfl, Nat.le_of_ble_eq_true rfl, Nat.le_of_ble_eq_true rfl⟩ (Nat.le_of_ble_eq_true rfl) (fun r_3 u_E_1 H locs hp_2 hG => ?_)
  obtain ⟨n_E_1, E_1⟩ := u_E_1
  dsimp only at hp_2 hG
  obtain ⟨rfl, nhp_2, ehp_2⟩ := hp_2
  have hG := gW_eq2 hG nhp_2 ehp_2
  refine lv_if_eq (tgt := 16) hx hb dX12_things_5 (by decide) (fun c_4 => ?_) (fun c_4 => absurd c_4 (by decide))
  refine lv_ldc2 (v := -2) hx hb S.2.2.2.1 (S.2.2.2.2 _ wm_2101) dX12_things_16 ?_
  exact g_lret S hr hlk hG (by omega) dX12_things_19 ⟨Nat.le_of_ble_eq_true rfl, Nat.le_of_ble_eq_true rfl⟩ ⟨rfl, rfl, rfl⟩
set_option maxHeartbeats 4000000 in
set_option maxRecDepth 100000 in
theorem qX12_upto (l : Launch) {D : va_G} {cy : Nat → ClassId} {b n : Nat} (hn : 105 ≤ n) {E : Nat → va_E} (h83 : E 83 = Z83 b cy) (h84 : E 84 = Z84 b cy)  (a1 : Int32) (a2 : Int32) : gL l yX12_upto cX12_upto 3 2 0 0 D cy b n E [.ref (b + 83), .int a1, .int a2] (fun r u => r = (-2) ∧ u.1 = n ∧ u.2 = E) := by
  refine gL_of (by decide) (Nat.le_of_ble_eq_true rfl) ?_
  intro p e s m args below meth c S hr hlk hin hsz ls hl hG
  have hx := S.1
  have hb := S.2.1
  have hl : lv_has ls 3 [(0, .ref (b + 83)), (1, .int a1), (2, .int a2)] := hl
  refine lv_aload_n hx hb dX12_upto_0 rfl (lv_at hl 0 rfl) ?_
  refine lv_iload_n hx hb dX12_upto_1 rfl (lv_at hl 1 rfl) ?_
  refine g_vi (As := [.int a1]) (rest := []) S hG (by omega) (qX12_isKind l hn h83 h84 a1) wV_12_225 h83 cpX12 (by omega) dX12_upto_2 rfl hl.1 (ar := 1) (by decide +kernel) rfl ⟨Nat.le_of_ble_eq_true rfl, Nat.le_of_ble_eq_true rfl, Nat.le_of_ble_eq_true rfl, Nat.le_of_ble_eq_true rfl⟩ (Nat.le_of_ble_eq_true rfl) (fun r_3 u_E_1 H locs hp_2 hG => ?_)
  obtain ⟨n_E_1, E_1⟩ := u_E_1
  dsimp only at hp_2 hG
  obtain ⟨rfl, nhp_2, ehp_2⟩ := hp_2
  have hG := gW_eq2 hG nhp_2 ehp_2
  refine lv_if_eq (tgt := 16) hx hb dX12_upto_5 (by decide) (fun c_4 => ?_) (fun c_4 => absurd c_4 (by decide))
  refine lv_ldc2 (v := -2) hx hb S.2.2.2.1 (S.2.2.2.2 _ wm_2101) dX12_upto_16 ?_
  exact g_lret S hr hlk hG (by omega) dX12_upto_19 ⟨Nat.le_of_ble_eq_true rfl, Nat.le_of_ble_eq_true rfl⟩ ⟨rfl, rfl, rfl⟩
set_option maxHeartbeats 4000000 in
set_option maxRecDepth 100000 in
theorem qX12_labelled (l : Launch) {D : va_G} {cy : Nat → ClassId} {b n : Nat} (hn : 105 ≤ n) {E : Nat → va_E} (h83 : E 83 = Z83 b cy) (h84 : E 84 = Z84 b cy)  (a1 : Int32) (a2 : Int32) : gL l yX12_labelled cX12_labelled 3 2 0 0 D cy b n E [.ref (b + 83), .int a1, .int a2] (fun r u => r = (-2) ∧ u.1 = n ∧ u.2 = E) := by
  refine gL_of (by decide) (Nat.le_of_ble_eq_true rfl) ?_
  intro p e s m args below meth c S hr hlk hin hsz ls hl hG
  have hx := S.1
  have hb := S.2.1
  have hl : lv_has ls 3 [(0, .ref (b + 83)), (1, .int a1), (2, .int a2)] := hl
  refine lv_aload_n hx hb dX12_labelled_0 rfl (lv_at hl 0 rfl) ?_
  refine lv_iload_n hx hb dX12_labelled_1 rfl (lv_at hl 1 rfl) ?_
  refine g_vi (As := [.int a1]) (rest := []) S hG (by omega) (qX12_isKind l hn h83 h84 a1) wV_12_225 h83 cpX12 (by omega) dX12_labelled_2 rfl hl.1 (ar := 1) (by decide +kernel) rfl ⟨Nat.le_of_ble_eq_true rfl, Nat.le_of_ble_eq_true rfl, Nat.le_of_ble_eq_true rfl, Nat.le_of_ble_eq_true rfl⟩ (Nat.le_of_ble_eq_true rfl) (fun r_3 u_E_1 H locs hp_2 hG => ?_)
  obtain ⟨n_E_1, E_1⟩ := u_E_1
  dsimp only at hp_2 hG
  obtain ⟨rfl, nhp_2, ehp_2⟩ := hp_2
  have hG := gW_eq2 hG nhp_2 ehp_2
  refine lv_if_eq (tgt := 16) hx hb dX12_labelled_5 (by decide) (fun c_4 => ?_) (fun c_4 => absurd c_4 (by decide))
  refine lv_ldc2 (v := -2) hx hb S.2.2.2.1 (S.2.2.2.2 _ wm_2101) dX12_labelled_16 ?_
  exact g_lret S hr hlk hG (by omega) dX12_labelled_19 ⟨Nat.le_of_ble_eq_true rfl, Nat.le_of_ble_eq_true rfl⟩ ⟨rfl, rfl, rfl⟩
set_option maxHeartbeats 4000000 in
set_option maxRecDepth 100000 in
theorem qX12_first (l : Launch) {D : va_G} {cy : Nat → ClassId} {b n : Nat} (hn : 105 ≤ n) {E : Nat → va_E} (h83 : E 83 = Z83 b cy) (h84 : E 84 = Z84 b cy)  (a1 : Int32) (a2 : Int64) : gI l yX12_first cX12_first 5 (some .int) 2 0 0 D cy b n E [.ref (b + 83), .int a1, .long a2] (fun r u => r = (-2) ∧ u.1 = n ∧ u.2 = E) := by
  refine gI_of (by decide) (Nat.le_of_ble_eq_true rfl) ?_
  intro p e s m args below meth c S hr hlk hin hsz ls hl hG
  have hx := S.1
  have hb := S.2.1
  have hl : lv_has ls 5 [(0, .ref (b + 83)), (1, .int a1), (2, .long a2)] := hl
  refine lv_aload_n hx hb dX12_first_0 rfl (lv_at hl 0 rfl) ?_
  refine lv_iload_n hx hb dX12_first_1 rfl (lv_at hl 1 rfl) ?_
  refine g_vi (As := [.int a1]) (rest := []) S hG (by omega) (qX12_isKind l hn h83 h84 a1) wV_12_225 h83 cpX12 (by omega) dX12_first_2 rfl hl.1 (ar := 1) (by decide +kernel) rfl ⟨Nat.le_of_ble_eq_true rfl, Nat.le_of_ble_eq_true rfl, Nat.le_of_ble_eq_true rfl, Nat.le_of_ble_eq_true rfl⟩ (Nat.le_of_ble_eq_true rfl) (fun r_3 u_E_1 H locs hp_2 hG => ?_)
  obtain ⟨n_E_1, E_1⟩ := u_E_1
  dsimp only at hp_2 hG
  obtain ⟨rfl, nhp_2, ehp_2⟩ := hp_2
  have hG := gW_eq2 hG nhp_2 ehp_2
  refine lv_if_eq (tgt := 19) hx hb dX12_first_5 (by decide) (fun c_4 => ?_) (fun c_4 => absurd c_4 (by decide))
  refine lv_bipush (v := (-2)) hx hb dX12_first_19 (by decide) ?_
  exact g_iret S hr hlk hG (by omega) dX12_first_21 ⟨Nat.le_of_ble_eq_true rfl, Nat.le_of_ble_eq_true rfl⟩ ⟨rfl, rfl, rfl⟩
theorem wV_12_330 : gWV "GrownKindsModel" 330 yX12_first cX12_first 5 (some .int) := ⟨wm_2089, wm_2090, wm_2091, wm_187, wm_2092, by decide +kernel, by decide +kernel⟩
set_option maxHeartbeats 4000000 in
set_option maxRecDepth 100000 in
theorem qX12_least (l : Launch) {D : va_G} {cy : Nat → ClassId} {b n : Nat} (hn : 105 ≤ n) {E : Nat → va_E} (h83 : E 83 = Z83 b cy) (h84 : E 84 = Z84 b cy)  (a1 : Int32) : gI l yX12_least cX12_least 2 (some .int) 3 0 0 D cy b n E [.ref (b + 83), .int a1] (fun r u => r = (-2) ∧ u.1 = n ∧ u.2 = E) := by
  refine gI_of (by decide) (Nat.le_of_ble_eq_true rfl) ?_
  intro p e s m args below meth c S hr hlk hin hsz ls hl hG
  have hx := S.1
  have hb := S.2.1
  have hl : lv_has ls 2 [(0, .ref (b + 83)), (1, .int a1)] := hl
  refine lv_aload_n hx hb dX12_least_0 rfl (lv_at hl 0 rfl) ?_
  refine lv_iload_n hx hb dX12_least_1 rfl (lv_at hl 1 rfl) ?_
  refine lv_lconst (v := 1) hx hb dX12_least_2 (by decide) ?_
  refine g_vi (As := [.int a1, .long 1]) (rest := []) S hG (by omega) (qX12_first l hn h83 h84 a1 1) wV_12_330 h83 cpX12 (by omega) dX12_least_3 rfl hl.1 (ar := 2) (by decide +kernel) rfl ⟨Nat.le_of_ble_eq_true rfl, Nat.le_of_ble_eq_true rfl, Nat.le_of_ble_eq_true rfl, Nat.le_of_ble_eq_true rfl⟩ (Nat.le_of_ble_eq_true rfl) (fun r_3 u_E_1 H locs hp_2 hG => ?_)
  obtain ⟨n_E_1, E_1⟩ := u_E_1
  dsimp only at hp_2 hG
  obtain ⟨rfl, nhp_2, ehp_2⟩ := hp_2
  have hG := gW_eq2 hG nhp_2 ehp_2
  exact g_iret S hr hlk hG (by omega) dX12_least_6 ⟨Nat.le_of_ble_eq_true rfl, Nat.le_of_ble_eq_true rfl⟩ ⟨rfl, rfl, rfl⟩
set_option maxHeartbeats 4000000 in
set_option maxRecDepth 100000 in
theorem qX12_marked (l : Launch) {D : va_G} {cy : Nat → ClassId} {b n : Nat} (hn : 105 ≤ n) {E : Nat → va_E} (h83 : E 83 = Z83 b cy) (h84 : E 84 = Z84 b cy)  (a1 : Int32) (a2 : Int32) (a3 : Int32) (a4 : Int32) : gL l yX12_marked cX12_marked 5 2 0 0 D cy b n E [.ref (b + 83), .int a1, .int a2, .int a3, .int a4] (fun r u => r = (-2) ∧ u.1 = n ∧ u.2 = E) := by
  refine gL_of (by decide) (Nat.le_of_ble_eq_true rfl) ?_
  intro p e s m args below meth c S hr hlk hin hsz ls hl hG
  have hx := S.1
  have hb := S.2.1
  have hl : lv_has ls 5 [(0, .ref (b + 83)), (1, .int a1), (2, .int a2), (3, .int a3), (4, .int a4)] := hl
  refine lv_aload_n hx hb dX12_marked_0 rfl (lv_at hl 0 rfl) ?_
  refine lv_iload_n hx hb dX12_marked_1 rfl (lv_at hl 1 rfl) ?_
  refine g_vi (As := [.int a1]) (rest := []) S hG (by omega) (qX12_isKind l hn h83 h84 a1) wV_12_225 h83 cpX12 (by omega) dX12_marked_2 rfl hl.1 (ar := 1) (by decide +kernel) rfl ⟨Nat.le_of_ble_eq_true rfl, Nat.le_of_ble_eq_true rfl, Nat.le_of_ble_eq_true rfl, Nat.le_of_ble_eq_true rfl⟩ (Nat.le_of_ble_eq_true rfl) (fun r_3 u_E_1 H locs hp_2 hG => ?_)
  obtain ⟨n_E_1, E_1⟩ := u_E_1
  dsimp only at hp_2 hG
  obtain ⟨rfl, nhp_2, ehp_2⟩ := hp_2
  have hG := gW_eq2 hG nhp_2 ehp_2
  refine lv_if_eq (tgt := 41) hx hb dX12_marked_5 (by decide) (fun c_4 => ?_) (fun c_4 => absurd c_4 (by decide))
  refine lv_ldc2 (v := -2) hx hb S.2.2.2.1 (S.2.2.2.2 _ wm_2101) dX12_marked_41 ?_
  exact g_lret S hr hlk hG (by omega) dX12_marked_44 ⟨Nat.le_of_ble_eq_true rfl, Nat.le_of_ble_eq_true rfl⟩ ⟨rfl, rfl, rfl⟩
theorem wV_12_344 : gWV "GrownKindsModel" 344 yX12_isTerm cX12_isTerm 3 (some .boolean) := ⟨wm_2116, wm_2118, wm_127, wm_187, wm_2119, by decide +kernel, by decide +kernel⟩
set_option maxHeartbeats 4000000 in
set_option maxRecDepth 100000 in
theorem qX12_by (l : Launch) {D : va_G} {cy : Nat → ClassId} {b n : Nat} (hn : 105 ≤ n) {E : Nat → va_E} (h83 : E 83 = Z83 b cy) (h84 : E 84 = Z84 b cy)  (a1 : Int32) (a2 : Int32) (a3 : Int32) : gL l yX12_by cX12_by 4 3 0 0 D cy b n E [.ref (b + 83), .int a1, .int a2, .int a3] (fun r u => r = (-2) ∧ u.1 = n ∧ u.2 = E) := by
  refine gL_of (by decide) (Nat.le_of_ble_eq_true rfl) ?_
  intro p e s m args below meth c S hr hlk hin hsz ls hl hG
  have hx := S.1
  have hb := S.2.1
  have hl : lv_has ls 4 [(0, .ref (b + 83)), (1, .int a1), (2, .int a2), (3, .int a3)] := hl
  refine lv_aload_n hx hb dX12_by_0 rfl (lv_at hl 0 rfl) ?_
  refine lv_iload_n hx hb dX12_by_1 rfl (lv_at hl 1 rfl) ?_
  refine lv_iload_n hx hb dX12_by_2 rfl (lv_at hl 3 rfl) ?_
  refine g_vi (As := [.int a1, .int a3]) (rest := []) S hG (by omega) (qX12_isTerm l hn h83 h84 a1 a3) wV_12_344 h83 cpX12 (by omega) dX12_by_3 rfl hl.1 (ar := 2) (by decide +kernel) rfl ⟨Nat.le_of_ble_eq_true rfl, Nat.le_of_ble_eq_true rfl, Nat.le_of_ble_eq_true rfl, Nat.le_of_ble_eq_true rfl⟩ (Nat.le_of_ble_eq_true rfl) (fun r_3 u_E_1 H locs hp_2 hG => ?_)
  obtain ⟨n_E_1, E_1⟩ := u_E_1
  dsimp only at hp_2 hG
  obtain ⟨rfl, nhp_2, ehp_2⟩ := hp_2
  have hG := gW_eq2 hG nhp_2 ehp_2
  refine lv_if_eq (tgt := 17) hx hb dX12_by_6 (by decide) (fun c_4 => ?_) (fun c_4 => absurd c_4 (by decide))
  refine lv_ldc2 (v := -2) hx hb S.2.2.2.1 (S.2.2.2.2 _ wm_2101) dX12_by_17 ?_
  exact g_lret S hr hlk hG (by omega) dX12_by_20 ⟨Nat.le_of_ble_eq_true rfl, Nat.le_of_ble_eq_true rfl⟩ ⟨rfl, rfl, rfl⟩
set_option maxHeartbeats 4000000 in
set_option maxRecDepth 100000 in
theorem qX12_without (l : Launch) {D : va_G} {cy : Nat → ClassId} {b n : Nat} (hn : 105 ≤ n) {E : Nat → va_E} (h83 : E 83 = Z83 b cy) (h84 : E 84 = Z84 b cy)  (a1 : Int32) (a2 : Int32) (a3 : Int32) (a4 : Int32) : gL l yX12_without cX12_without 5 3 0 0 D cy b n E [.ref (b + 83), .int a1, .int a2, .int a3, .int a4] (fun r u => r = (-2) ∧ u.1 = n ∧ u.2 = E) := by
  refine gL_of (by decide) (Nat.le_of_ble_eq_true rfl) ?_
  intro p e s m args below meth c S hr hlk hin hsz ls hl hG
  have hx := S.1
  have hb := S.2.1
  have hl : lv_has ls 5 [(0, .ref (b + 83)), (1, .int a1), (2, .int a2), (3, .int a3), (4, .int a4)] := hl
  refine lv_aload_n hx hb dX12_without_0 rfl (lv_at hl 0 rfl) ?_
  refine lv_iload_n hx hb dX12_without_1 rfl (lv_at hl 1 rfl) ?_
  refine lv_iload_n hx hb dX12_without_2 rfl (lv_at hl 2 rfl) ?_
  refine g_vi (As := [.int a1, .int a2]) (rest := []) S hG (by omega) (qX12_isTerm l hn h83 h84 a1 a2) wV_12_344 h83 cpX12 (by omega) dX12_without_3 rfl hl.1 (ar := 2) (by decide +kernel) rfl ⟨Nat.le_of_ble_eq_true rfl, Nat.le_of_ble_eq_true rfl, Nat.le_of_ble_eq_true rfl, Nat.le_of_ble_eq_true rfl⟩ (Nat.le_of_ble_eq_true rfl) (fun r_3 u_E_1 H locs hp_2 hG => ?_)
  obtain ⟨n_E_1, E_1⟩ := u_E_1
  dsimp only at hp_2 hG
  obtain ⟨rfl, nhp_2, ehp_2⟩ := hp_2
  have hG := gW_eq2 hG nhp_2 ehp_2
  refine lv_if_eq (tgt := 38) hx hb dX12_without_6 (by decide) (fun c_4 => ?_) (fun c_4 => absurd c_4 (by decide))
  refine lv_ldc2 (v := -2) hx hb S.2.2.2.1 (S.2.2.2.2 _ wm_2101) dX12_without_38 ?_
  exact g_lret S hr hlk hG (by omega) dX12_without_41 ⟨Nat.le_of_ble_eq_true rfl, Nat.le_of_ble_eq_true rfl⟩ ⟨rfl, rfl, rfl⟩
set_option maxHeartbeats 4000000 in
set_option maxRecDepth 100000 in
theorem qX12_hangs (l : Launch) {D : va_G} {cy : Nat → ClassId} {b n : Nat} (hn : 105 ≤ n) {E : Nat → va_E} (h83 : E 83 = Z83 b cy) (h84 : E 84 = Z84 b cy)  (a1 : Int32) (a2 : Int32) : gI l yX12_hangs cX12_hangs 9 (some .int) 2 0 0 D cy b n E [.ref (b + 83), .int a1, .int a2] (fun r u => r = (-2) ∧ u.1 = n ∧ u.2 = E) := by
  refine gI_of (by decide) (Nat.le_of_ble_eq_true rfl) ?_
  intro p e s m args below meth c S hr hlk hin hsz ls hl hG
  have hx := S.1
  have hb := S.2.1
  have hl : lv_has ls 9 [(0, .ref (b + 83)), (1, .int a1), (2, .int a2)] := hl
  refine lv_aload_n hx hb dX12_hangs_0 rfl (lv_at hl 0 rfl) ?_
  refine lv_iload_n hx hb dX12_hangs_1 rfl (lv_at hl 1 rfl) ?_
  refine g_vi (As := [.int a1]) (rest := []) S hG (by omega) (qX12_isKind l hn h83 h84 a1) wV_12_225 h83 cpX12 (by omega) dX12_hangs_2 rfl hl.1 (ar := 1) (by decide +kernel) rfl ⟨Nat.le_of_ble_eq_true rfl, Nat.le_of_ble_eq_true rfl, Nat.le_of_ble_eq_true rfl, Nat.le_of_ble_eq_true rfl⟩ (Nat.le_of_ble_eq_true rfl) (fun r_3 u_E_1 H locs hp_2 hG => ?_)
  obtain ⟨n_E_1, E_1⟩ := u_E_1
  dsimp only at hp_2 hG
  obtain ⟨rfl, nhp_2, ehp_2⟩ := hp_2
  have hG := gW_eq2 hG nhp_2 ehp_2
  refine lv_if_eq (tgt := 16) hx hb dX12_hangs_5 (by decide) (fun c_4 => ?_) (fun c_4 => absurd c_4 (by decide))
  refine lv_bipush (v := (-2)) hx hb dX12_hangs_16 (by decide) ?_
  exact g_iret S hr hlk hG (by omega) dX12_hangs_18 ⟨Nat.le_of_ble_eq_true rfl, Nat.le_of_ble_eq_true rfl⟩ ⟨rfl, rfl, rfl⟩
set_option maxHeartbeats 4000000 in
set_option maxRecDepth 100000 in
theorem qX12_idle (l : Launch) {D : va_G} {cy : Nat → ClassId} {b n : Nat} (hn : 105 ≤ n) {E : Nat → va_E} (h83 : E 83 = Z83 b cy) (h84 : E 84 = Z84 b cy)   : gI l yX12_idle cX12_idle 7 (some .int) 0 0 0 D cy b n E [.ref (b + 83)] (fun r u => r = (-2) ∧ u.1 = n ∧ u.2 = E) := by
  refine gI_of (by decide) (Nat.le_of_ble_eq_true rfl) ?_
  intro p e s m args below meth c S hr hlk hin hsz ls hl hG
  have hx := S.1
  have hb := S.2.1
  have hl : lv_has ls 7 [(0, .ref (b + 83))] := hl
  refine lv_aload_n hx hb dX12_idle_0 rfl (lv_at hl 0 rfl) ?_
  refine g_get S hG 83 0 h83 cpX12 wm_1674 dX12_idle_1 rfl (by omega) (by decide) ?_
  refine lv_iconst (v := 3) hx hb dX12_idle_4 (by decide) ?_
  refine g_iald S hG 84 h84 (by omega) dX12_idle_5 (by unfold vp_in; decide) ?_
  refine lv_topi (fun x_1 ex_1 => ?_)
  obtain rfl : x_1 = 0 := ex_1.trans (by decide)
  refine lv_if_ne (tgt := 12) hx hb dX12_idle_6 (by decide) (fun c_2 => absurd c_2 (by decide)) (fun c_2 => ?_)
  refine lv_bipush (v := (-2)) hx hb dX12_idle_9 (by decide) ?_
  exact g_iret S hr hlk hG (by omega) dX12_idle_11 ⟨Nat.le_of_ble_eq_true rfl, Nat.le_of_ble_eq_true rfl⟩ ⟨rfl, rfl, rfl⟩
set_option maxHeartbeats 4000000 in
set_option maxRecDepth 100000 in
theorem qX12_whyNot (l : Launch) {D : va_G} {cy : Nat → ClassId} {b n : Nat} (hn : 105 ≤ n) {E : Nat → va_E} (h83 : E 83 = Z83 b cy) (h84 : E 84 = Z84 b cy)  (a1 : Int32) (a2 : Int32) (a3 : Int32) : gI l yX12_whyNot cX12_whyNot 4 (some .int) 2 0 0 D cy b n E [.ref (b + 83), .int a1, .int a2, .int a3] (fun r u => r = (-2) ∧ u.1 = n ∧ u.2 = E) := by
  refine gI_of (by decide) (Nat.le_of_ble_eq_true rfl) ?_
  intro p e s m args below meth c S hr hlk hin hsz ls hl hG
  have hx := S.1
  have hb := S.2.1
  have hl : lv_has ls 4 [(0, .ref (b + 83)), (1, .int a1), (2, .int a2), (3, .int a3)] := hl
  refine lv_aload_n hx hb dX12_whyNot_0 rfl (lv_at hl 0 rfl) ?_
  refine lv_iload_n hx hb dX12_whyNot_1 rfl (lv_at hl 1 rfl) ?_
  refine g_vi (As := [.int a1]) (rest := []) S hG (by omega) (qX12_isKind l hn h83 h84 a1) wV_12_225 h83 cpX12 (by omega) dX12_whyNot_2 rfl hl.1 (ar := 1) (by decide +kernel) rfl ⟨Nat.le_of_ble_eq_true rfl, Nat.le_of_ble_eq_true rfl, Nat.le_of_ble_eq_true rfl, Nat.le_of_ble_eq_true rfl⟩ (Nat.le_of_ble_eq_true rfl) (fun r_3 u_E_1 H locs hp_2 hG => ?_)
  obtain ⟨n_E_1, E_1⟩ := u_E_1
  dsimp only at hp_2 hG
  obtain ⟨rfl, nhp_2, ehp_2⟩ := hp_2
  have hG := gW_eq2 hG nhp_2 ehp_2
  refine lv_if_eq (tgt := 16) hx hb dX12_whyNot_5 (by decide) (fun c_4 => ?_) (fun c_4 => absurd c_4 (by decide))
  refine lv_bipush (v := (-2)) hx hb dX12_whyNot_16 (by decide) ?_
  exact g_iret S hr hlk hG (by omega) dX12_whyNot_18 ⟨Nat.le_of_ble_eq_true rfl, Nat.le_of_ble_eq_true rfl⟩ ⟨rfl, rfl, rfl⟩
set_option maxHeartbeats 4000000 in
set_option maxRecDepth 100000 in
theorem qX12_whyNone (l : Launch) {D : va_G} {cy : Nat → ClassId} {b n : Nat} (hn : 105 ≤ n) {E : Nat → va_E} (h83 : E 83 = Z83 b cy) (h84 : E 84 = Z84 b cy)  (a1 : Int32) (a2 : Int32) : gI l yX12_whyNone cX12_whyNone 3 (some .int) 2 0 0 D cy b n E [.ref (b + 83), .int a1, .int a2] (fun r u => r = (-2) ∧ u.1 = n ∧ u.2 = E) := by
  refine gI_of (by decide) (Nat.le_of_ble_eq_true rfl) ?_
  intro p e s m args below meth c S hr hlk hin hsz ls hl hG
  have hx := S.1
  have hb := S.2.1
  have hl : lv_has ls 3 [(0, .ref (b + 83)), (1, .int a1), (2, .int a2)] := hl
  refine lv_aload_n hx hb dX12_whyNone_0 rfl (lv_at hl 0 rfl) ?_
  refine lv_iload_n hx hb dX12_whyNone_1 rfl (lv_at hl 1 rfl) ?_
  refine g_vi (As := [.int a1]) (rest := []) S hG (by omega) (qX12_isKind l hn h83 h84 a1) wV_12_225 h83 cpX12 (by omega) dX12_whyNone_2 rfl hl.1 (ar := 1) (by decide +kernel) rfl ⟨Nat.le_of_ble_eq_true rfl, Nat.le_of_ble_eq_true rfl, Nat.le_of_ble_eq_true rfl, Nat.le_of_ble_eq_true rfl⟩ (Nat.le_of_ble_eq_true rfl) (fun r_3 u_E_1 H locs hp_2 hG => ?_)
  obtain ⟨n_E_1, E_1⟩ := u_E_1
  dsimp only at hp_2 hG
  obtain ⟨rfl, nhp_2, ehp_2⟩ := hp_2
  have hG := gW_eq2 hG nhp_2 ehp_2
  refine lv_if_eq (tgt := 16) hx hb dX12_whyNone_5 (by decide) (fun c_4 => ?_) (fun c_4 => absurd c_4 (by decide))
  refine lv_bipush (v := (-2)) hx hb dX12_whyNone_16 (by decide) ?_
  exact g_iret S hr hlk hG (by omega) dX12_whyNone_18 ⟨Nat.le_of_ble_eq_true rfl, Nat.le_of_ble_eq_true rfl⟩ ⟨rfl, rfl, rfl⟩
theorem wV_12_472 : gWV "GrownKindsModel" 472 yX12_whyNot cX12_whyNot 4 (some .int) := ⟨wm_2178, wm_2180, wm_136, wm_187, wm_2181, by decide +kernel, by decide +kernel⟩
set_option maxHeartbeats 4000000 in
set_option maxRecDepth 100000 in
theorem qX12_length (l : Launch) {D : va_G} {cy : Nat → ClassId} {b n : Nat} (hn : 105 ≤ n) {E : Nat → va_E} (h83 : E 83 = Z83 b cy) (h84 : E 84 = Z84 b cy)  (a1 : Int32) (a2 : Int32) (a3 : Int32) : gI l yX12_length cX12_length 5 (some .int) 3 0 0 D cy b n E [.ref (b + 83), .int a1, .int a2, .int a3] (fun r u => r = (-2) ∧ u.1 = n ∧ u.2 = E) := by
  refine gI_of (by decide) (Nat.le_of_ble_eq_true rfl) ?_
  intro p e s m args below meth c S hr hlk hin hsz ls hl hG
  have hx := S.1
  have hb := S.2.1
  have hl : lv_has ls 5 [(0, .ref (b + 83)), (1, .int a1), (2, .int a2), (3, .int a3)] := hl
  refine lv_aload_n hx hb dX12_length_0 rfl (lv_at hl 0 rfl) ?_
  refine lv_iload_n hx hb dX12_length_1 rfl (lv_at hl 1 rfl) ?_
  refine lv_iload_n hx hb dX12_length_2 rfl (lv_at hl 2 rfl) ?_
  refine lv_iload_n hx hb dX12_length_3 rfl (lv_at hl 3 rfl) ?_
  refine g_vi (As := [.int a1, .int a2, .int a3]) (rest := []) S hG (by omega) (qX12_whyNot l hn h83 h84 a1 a2 a3) wV_12_472 h83 cpX12 (by omega) dX12_length_4 rfl hl.1 (ar := 3) (by decide +kernel) rfl ⟨Nat.le_of_ble_eq_true rfl, Nat.le_of_ble_eq_true rfl, Nat.le_of_ble_eq_true rfl, Nat.le_of_ble_eq_true rfl⟩ (Nat.le_of_ble_eq_true rfl) (fun r_3 u_E_1 H locs hp_2 hG => ?_)
  obtain ⟨n_E_1, E_1⟩ := u_E_1
  dsimp only at hp_2 hG
  obtain ⟨rfl, nhp_2, ehp_2⟩ := hp_2
  have hG := gW_eq2 hG nhp_2 ehp_2
  refine lv_istore (lv' := [(4, .int (-2)), (0, .ref (b + 83)), (1, .int a1), (2, .int a2), (3, .int a3)]) hx hb dX12_length_7 hl (by decide) rfl (fun ls hl => ?_)
  refine lv_iload hx hb dX12_length_9 (lv_at hl 0 rfl) ?_
  refine lv_if_ge (tgt := 17) hx hb dX12_length_11 (by decide) (fun c_4 => absurd c_4 (by decide)) (fun c_4 => ?_)
  refine lv_iload hx hb dX12_length_14 (lv_at hl 0 rfl) ?_
  exact g_iret S hr hlk hG (by omega) dX12_length_16 ⟨Nat.le_of_ble_eq_true rfl, Nat.le_of_ble_eq_true rfl⟩ ⟨rfl, rfl, rfl⟩
set_option maxHeartbeats 4000000 in
set_option maxRecDepth 100000 in
theorem qX12_sign (l : Launch) {D : va_G} {cy : Nat → ClassId} {b n : Nat} (hn : 105 ≤ n) {E : Nat → va_E} (h83 : E 83 = Z83 b cy) (h84 : E 84 = Z84 b cy)  (a1 : Int32) (a2 : Int32) (a3 : Int32) (a4 : Int32) : gI l yX12_sign cX12_sign 6 (some .int) 3 0 0 D cy b n E [.ref (b + 83), .int a1, .int a2, .int a3, .int a4] (fun r u => r = (-2) ∧ u.1 = n ∧ u.2 = E) := by
  refine gI_of (by decide) (Nat.le_of_ble_eq_true rfl) ?_
  intro p e s m args below meth c S hr hlk hin hsz ls hl hG
  have hx := S.1
  have hb := S.2.1
  have hl : lv_has ls 6 [(0, .ref (b + 83)), (1, .int a1), (2, .int a2), (3, .int a3), (4, .int a4)] := hl
  refine lv_iload hx hb dX12_sign_0 (lv_at hl 4 rfl) ?_
  refine lv_if_ge (tgt := 10) hx hb dX12_sign_2 (by decide) (fun c_1 => ?_) (fun c_1 => ?_)
  · refine lv_aload_n hx hb dX12_sign_10 rfl (lv_at hl 0 rfl) ?_
    refine lv_iload_n hx hb dX12_sign_11 rfl (lv_at hl 1 rfl) ?_
    refine lv_iload_n hx hb dX12_sign_12 rfl (lv_at hl 2 rfl) ?_
    refine lv_iload_n hx hb dX12_sign_13 rfl (lv_at hl 3 rfl) ?_
    refine g_vi (As := [.int a1, .int a2, .int a3]) (rest := []) S hG (by omega) (qX12_whyNot l hn h83 h84 a1 a2 a3) wV_12_472 h83 cpX12 (by omega) dX12_sign_14 rfl hl.1 (ar := 3) (by decide +kernel) rfl ⟨Nat.le_of_ble_eq_true rfl, Nat.le_of_ble_eq_true rfl, Nat.le_of_ble_eq_true rfl, Nat.le_of_ble_eq_true rfl⟩ (Nat.le_of_ble_eq_true rfl) (fun r_4 u_E_2 H locs hp_3 hG => ?_)
    obtain ⟨n_E_2, E_2⟩ := u_E_2
    dsimp only at hp_3 hG
    obtain ⟨rfl, nhp_3, ehp_3⟩ := hp_3
    have hG := gW_eq2 hG nhp_3 ehp_3
    refine lv_istore (lv' := [(5, .int (-2)), (0, .ref (b + 83)), (1, .int a1), (2, .int a2), (3, .int a3), (4, .int a4)]) hx hb dX12_sign_17 hl (by decide) rfl (fun ls hl => ?_)
    refine lv_iload hx hb dX12_sign_19 (lv_at hl 0 rfl) ?_
    refine lv_if_ge (tgt := 27) hx hb dX12_sign_21 (by decide) (fun c_5 => absurd c_5 (by decide)) (fun c_5 => ?_)
    refine lv_iload hx hb dX12_sign_24 (lv_at hl 0 rfl) ?_
    exact g_iret S hr hlk hG (by omega) dX12_sign_26 ⟨Nat.le_of_ble_eq_true rfl, Nat.le_of_ble_eq_true rfl⟩ ⟨rfl, rfl, rfl⟩
  · refine lv_bipush (v := (-2)) hx hb dX12_sign_5 (by decide) ?_
    refine lv_goto (tgt := 17) hx hb dX12_sign_7 (by decide) ?_
    refine lv_istore (lv' := [(5, .int (-2)), (0, .ref (b + 83)), (1, .int a1), (2, .int a2), (3, .int a3), (4, .int a4)]) hx hb dX12_sign_17 hl (by decide) rfl (fun ls hl => ?_)
    refine lv_iload hx hb dX12_sign_19 (lv_at hl 0 rfl) ?_
    refine lv_if_ge (tgt := 27) hx hb dX12_sign_21 (by decide) (fun c_6 => absurd c_6 (by decide)) (fun c_6 => ?_)
    refine lv_iload hx hb dX12_sign_24 (lv_at hl 0 rfl) ?_
    exact g_iret S hr hlk hG (by omega) dX12_sign_26 ⟨Nat.le_of_ble_eq_true rfl, Nat.le_of_ble_eq_true rfl⟩ ⟨rfl, rfl, rfl⟩
set_option maxHeartbeats 4000000 in
set_option maxRecDepth 100000 in
theorem qX12_deep (l : Launch) {D : va_G} {cy : Nat → ClassId} {b n : Nat} (hn : 105 ≤ n) {E : Nat → va_E} (h83 : E 83 = Z83 b cy) (h84 : E 84 = Z84 b cy)  (a1 : Int32) (a2 : Int32) (a3 : Int32) : gI l yX12_deep cX12_deep 5 (some .int) 3 0 0 D cy b n E [.ref (b + 83), .int a1, .int a2, .int a3] (fun r u => r = (-2) ∧ u.1 = n ∧ u.2 = E) := by
  refine gI_of (by decide) (Nat.le_of_ble_eq_true rfl) ?_
  intro p e s m args below meth c S hr hlk hin hsz ls hl hG
  have hx := S.1
  have hb := S.2.1
  have hl : lv_has ls 5 [(0, .ref (b + 83)), (1, .int a1), (2, .int a2), (3, .int a3)] := hl
  refine lv_aload_n hx hb dX12_deep_0 rfl (lv_at hl 0 rfl) ?_
  refine lv_iload_n hx hb dX12_deep_1 rfl (lv_at hl 1 rfl) ?_
  refine lv_iload_n hx hb dX12_deep_2 rfl (lv_at hl 2 rfl) ?_
  refine lv_iload_n hx hb dX12_deep_3 rfl (lv_at hl 3 rfl) ?_
  refine g_vi (As := [.int a1, .int a2, .int a3]) (rest := []) S hG (by omega) (qX12_whyNot l hn h83 h84 a1 a2 a3) wV_12_472 h83 cpX12 (by omega) dX12_deep_4 rfl hl.1 (ar := 3) (by decide +kernel) rfl ⟨Nat.le_of_ble_eq_true rfl, Nat.le_of_ble_eq_true rfl, Nat.le_of_ble_eq_true rfl, Nat.le_of_ble_eq_true rfl⟩ (Nat.le_of_ble_eq_true rfl) (fun r_3 u_E_1 H locs hp_2 hG => ?_)
  obtain ⟨n_E_1, E_1⟩ := u_E_1
  dsimp only at hp_2 hG
  obtain ⟨rfl, nhp_2, ehp_2⟩ := hp_2
  have hG := gW_eq2 hG nhp_2 ehp_2
  refine lv_istore (lv' := [(4, .int (-2)), (0, .ref (b + 83)), (1, .int a1), (2, .int a2), (3, .int a3)]) hx hb dX12_deep_7 hl (by decide) rfl (fun ls hl => ?_)
  refine lv_iload hx hb dX12_deep_9 (lv_at hl 0 rfl) ?_
  refine lv_if_ge (tgt := 17) hx hb dX12_deep_11 (by decide) (fun c_4 => absurd c_4 (by decide)) (fun c_4 => ?_)
  refine lv_iload hx hb dX12_deep_14 (lv_at hl 0 rfl) ?_
  exact g_iret S hr hlk hG (by omega) dX12_deep_16 ⟨Nat.le_of_ble_eq_true rfl, Nat.le_of_ble_eq_true rfl⟩ ⟨rfl, rfl, rfl⟩
set_option maxHeartbeats 4000000 in
set_option maxRecDepth 100000 in
theorem qX12_atoms (l : Launch) {D : va_G} {cy : Nat → ClassId} {b n : Nat} (hn : 105 ≤ n) {E : Nat → va_E} (h83 : E 83 = Z83 b cy) (h84 : E 84 = Z84 b cy)  (a1 : Int32) (a2 : Int32) (a3 : Int32) (a4 : Int32) : gI l yX12_atoms cX12_atoms 6 (some .int) 3 0 0 D cy b n E [.ref (b + 83), .int a1, .int a2, .int a3, .int a4] (fun r u => r = (-2) ∧ u.1 = n ∧ u.2 = E) := by
  refine gI_of (by decide) (Nat.le_of_ble_eq_true rfl) ?_
  intro p e s m args below meth c S hr hlk hin hsz ls hl hG
  have hx := S.1
  have hb := S.2.1
  have hl : lv_has ls 6 [(0, .ref (b + 83)), (1, .int a1), (2, .int a2), (3, .int a3), (4, .int a4)] := hl
  refine lv_iload hx hb dX12_atoms_0 (lv_at hl 4 rfl) ?_
  refine lv_i2l hx hb dX12_atoms_2 rfl ?_
  refine lv_lconst (v := 0) hx hb dX12_atoms_3 (by decide) ?_
  refine lv_ldc2 (v := 25) hx hb S.2.2.2.1 (S.2.2.2.2 _ wm_2111) dX12_atoms_4 ?_
  refine g_si (As := [.long (Int32.toInt64 a4), .long 0, .long 25]) (rest := []) S hG (by omega) (qX12_in l hn  (Int32.toInt64 a4) 0 25) wS_12_97 dX12_atoms_7 rfl hl.1 (ar := 3) (by decide +kernel) rfl ⟨Nat.le_of_ble_eq_true rfl, Nat.le_of_ble_eq_true rfl, Nat.le_of_ble_eq_true rfl, Nat.le_of_ble_eq_true rfl⟩ (Nat.le_of_ble_eq_true rfl) (fun r_3 u_E_1 H locs hp_2 hG => ?_)
  obtain ⟨n_E_1, E_1⟩ := u_E_1
  dsimp only at hp_2 hG
  obtain ⟨hr_4, nhp_2, ehp_2⟩ := hp_2
  have hG := gW_eq2 hG nhp_2 ehp_2
  refine lv_if_eq (tgt := 23) hx hb dX12_atoms_10 (by decide) (fun c_5 => ?_) (fun c_5 => ?_)
  · refine lv_bipush (v := (-2)) hx hb dX12_atoms_23 (by decide) ?_
    refine lv_istore (lv' := [(5, .int (-2)), (0, .ref (b + 83)), (1, .int a1), (2, .int a2), (3, .int a3), (4, .int a4)]) hx hb dX12_atoms_25 hl (by decide) rfl (fun ls hl => ?_)
    refine lv_iload hx hb dX12_atoms_27 (lv_at hl 0 rfl) ?_
    refine lv_if_ge (tgt := 35) hx hb dX12_atoms_29 (by decide) (fun c_6 => absurd c_6 (by decide)) (fun c_6 => ?_)
    refine lv_iload hx hb dX12_atoms_32 (lv_at hl 0 rfl) ?_
    exact g_iret S hr hlk hG (by omega) dX12_atoms_34 ⟨Nat.le_of_ble_eq_true rfl, Nat.le_of_ble_eq_true rfl⟩ ⟨rfl, rfl, rfl⟩
  · refine lv_aload_n hx hb dX12_atoms_13 rfl (lv_at hl 0 rfl) ?_
    refine lv_iload_n hx hb dX12_atoms_14 rfl (lv_at hl 1 rfl) ?_
    refine lv_iload_n hx hb dX12_atoms_15 rfl (lv_at hl 2 rfl) ?_
    refine lv_iload_n hx hb dX12_atoms_16 rfl (lv_at hl 3 rfl) ?_
    refine g_vi (As := [.int a1, .int a2, .int a3]) (rest := []) S hG (by omega) (qX12_whyNot l hn h83 h84 a1 a2 a3) wV_12_472 h83 cpX12 (by omega) dX12_atoms_17 rfl hl.1 (ar := 3) (by decide +kernel) rfl ⟨Nat.le_of_ble_eq_true rfl, Nat.le_of_ble_eq_true rfl, Nat.le_of_ble_eq_true rfl, Nat.le_of_ble_eq_true rfl⟩ (Nat.le_of_ble_eq_true rfl) (fun r_9 u_E_7 H locs hp_8 hG => ?_)
    obtain ⟨n_E_7, E_7⟩ := u_E_7
    dsimp only at hp_8 hG
    obtain ⟨rfl, nhp_8, ehp_8⟩ := hp_8
    have hG := gW_eq2 hG nhp_8 ehp_8
    refine lv_goto (tgt := 25) hx hb dX12_atoms_20 (by decide) ?_
    refine lv_istore (lv' := [(5, .int (-2)), (0, .ref (b + 83)), (1, .int a1), (2, .int a2), (3, .int a3), (4, .int a4)]) hx hb dX12_atoms_25 hl (by decide) rfl (fun ls hl => ?_)
    refine lv_iload hx hb dX12_atoms_27 (lv_at hl 0 rfl) ?_
    refine lv_if_ge (tgt := 35) hx hb dX12_atoms_29 (by decide) (fun c_10 => absurd c_10 (by decide)) (fun c_10 => ?_)
    refine lv_iload hx hb dX12_atoms_32 (lv_at hl 0 rfl) ?_
    exact g_iret S hr hlk hG (by omega) dX12_atoms_34 ⟨Nat.le_of_ble_eq_true rfl, Nat.le_of_ble_eq_true rfl⟩ ⟨rfl, rfl, rfl⟩
set_option maxHeartbeats 4000000 in
set_option maxRecDepth 100000 in
theorem qX12_term (l : Launch) {D : va_G} {cy : Nat → ClassId} {b n : Nat} (hn : 105 ≤ n) {E : Nat → va_E} (h83 : E 83 = Z83 b cy) (h84 : E 84 = Z84 b cy)  (a1 : Int32) (a2 : Int32) (a3 : Int32) : gI l yX12_term cX12_term 5 (some .int) 3 0 0 D cy b n E [.ref (b + 83), .int a1, .int a2, .int a3] (fun r u => r = (-2) ∧ u.1 = n ∧ u.2 = E) := by
  refine gI_of (by decide) (Nat.le_of_ble_eq_true rfl) ?_
  intro p e s m args below meth c S hr hlk hin hsz ls hl hG
  have hx := S.1
  have hb := S.2.1
  have hl : lv_has ls 5 [(0, .ref (b + 83)), (1, .int a1), (2, .int a2), (3, .int a3)] := hl
  refine lv_aload_n hx hb dX12_term_0 rfl (lv_at hl 0 rfl) ?_
  refine lv_iload_n hx hb dX12_term_1 rfl (lv_at hl 1 rfl) ?_
  refine lv_iload_n hx hb dX12_term_2 rfl (lv_at hl 2 rfl) ?_
  refine lv_iload_n hx hb dX12_term_3 rfl (lv_at hl 3 rfl) ?_
  refine g_vi (As := [.int a1, .int a2, .int a3]) (rest := []) S hG (by omega) (qX12_whyNot l hn h83 h84 a1 a2 a3) wV_12_472 h83 cpX12 (by omega) dX12_term_4 rfl hl.1 (ar := 3) (by decide +kernel) rfl ⟨Nat.le_of_ble_eq_true rfl, Nat.le_of_ble_eq_true rfl, Nat.le_of_ble_eq_true rfl, Nat.le_of_ble_eq_true rfl⟩ (Nat.le_of_ble_eq_true rfl) (fun r_3 u_E_1 H locs hp_2 hG => ?_)
  obtain ⟨n_E_1, E_1⟩ := u_E_1
  dsimp only at hp_2 hG
  obtain ⟨rfl, nhp_2, ehp_2⟩ := hp_2
  have hG := gW_eq2 hG nhp_2 ehp_2
  refine lv_istore (lv' := [(4, .int (-2)), (0, .ref (b + 83)), (1, .int a1), (2, .int a2), (3, .int a3)]) hx hb dX12_term_7 hl (by decide) rfl (fun ls hl => ?_)
  refine lv_iload hx hb dX12_term_9 (lv_at hl 0 rfl) ?_
  refine lv_if_ge (tgt := 17) hx hb dX12_term_11 (by decide) (fun c_4 => absurd c_4 (by decide)) (fun c_4 => ?_)
  refine lv_iload hx hb dX12_term_14 (lv_at hl 0 rfl) ?_
  exact g_iret S hr hlk hG (by omega) dX12_term_16 ⟨Nat.le_of_ble_eq_true rfl, Nat.le_of_ble_eq_true rfl⟩ ⟨rfl, rfl, rfl⟩
set_option maxHeartbeats 4000000 in
set_option maxRecDepth 100000 in
theorem qX12_symmetries (l : Launch) {D : va_G} {cy : Nat → ClassId} {b n : Nat} (hn : 105 ≤ n) {E : Nat → va_E} (h83 : E 83 = Z83 b cy) (h84 : E 84 = Z84 b cy)  (a1 : Int32) (a2 : Int32) (a3 : Int32) : gI l yX12_symmetries cX12_symmetries 5 (some .int) 3 0 0 D cy b n E [.ref (b + 83), .int a1, .int a2, .int a3] (fun r u => r = (-2) ∧ u.1 = n ∧ u.2 = E) := by
  refine gI_of (by decide) (Nat.le_of_ble_eq_true rfl) ?_
  intro p e s m args below meth c S hr hlk hin hsz ls hl hG
  have hx := S.1
  have hb := S.2.1
  have hl : lv_has ls 5 [(0, .ref (b + 83)), (1, .int a1), (2, .int a2), (3, .int a3)] := hl
  refine lv_aload_n hx hb dX12_symmetries_0 rfl (lv_at hl 0 rfl) ?_
  refine lv_iload_n hx hb dX12_symmetries_1 rfl (lv_at hl 1 rfl) ?_
  refine lv_iload_n hx hb dX12_symmetries_2 rfl (lv_at hl 2 rfl) ?_
  refine lv_iload_n hx hb dX12_symmetries_3 rfl (lv_at hl 3 rfl) ?_
  refine g_vi (As := [.int a1, .int a2, .int a3]) (rest := []) S hG (by omega) (qX12_whyNot l hn h83 h84 a1 a2 a3) wV_12_472 h83 cpX12 (by omega) dX12_symmetries_4 rfl hl.1 (ar := 3) (by decide +kernel) rfl ⟨Nat.le_of_ble_eq_true rfl, Nat.le_of_ble_eq_true rfl, Nat.le_of_ble_eq_true rfl, Nat.le_of_ble_eq_true rfl⟩ (Nat.le_of_ble_eq_true rfl) (fun r_3 u_E_1 H locs hp_2 hG => ?_)
  obtain ⟨n_E_1, E_1⟩ := u_E_1
  dsimp only at hp_2 hG
  obtain ⟨rfl, nhp_2, ehp_2⟩ := hp_2
  have hG := gW_eq2 hG nhp_2 ehp_2
  refine lv_istore (lv' := [(4, .int (-2)), (0, .ref (b + 83)), (1, .int a1), (2, .int a2), (3, .int a3)]) hx hb dX12_symmetries_7 hl (by decide) rfl (fun ls hl => ?_)
  refine lv_iload hx hb dX12_symmetries_9 (lv_at hl 0 rfl) ?_
  refine lv_if_ge (tgt := 17) hx hb dX12_symmetries_11 (by decide) (fun c_4 => absurd c_4 (by decide)) (fun c_4 => ?_)
  refine lv_iload hx hb dX12_symmetries_14 (lv_at hl 0 rfl) ?_
  exact g_iret S hr hlk hG (by omega) dX12_symmetries_16 ⟨Nat.le_of_ble_eq_true rfl, Nat.le_of_ble_eq_true rfl⟩ ⟨rfl, rfl, rfl⟩
theorem wV_12_479 : gWV "GrownKindsModel" 479 yX12_symmetries cX12_symmetries 5 (some .int) := ⟨wm_2285, wm_2278, wm_2279, wm_187, wm_2280, by decide +kernel, by decide +kernel⟩
set_option maxHeartbeats 4000000 in
set_option maxRecDepth 100000 in
theorem qX12_labels (l : Launch) {D : va_G} {cy : Nat → ClassId} {b n : Nat} (hn : 105 ≤ n) {E : Nat → va_E} (h83 : E 83 = Z83 b cy) (h84 : E 84 = Z84 b cy)  (a1 : Int32) (a2 : Int32) (a3 : Int32) : gI l yX12_labels cX12_labels 5 (some .int) 4 0 0 D cy b n E [.ref (b + 83), .int a1, .int a2, .int a3] (fun r u => r = (-2) ∧ u.1 = n ∧ u.2 = E) := by
  refine gI_of (by decide) (Nat.le_of_ble_eq_true rfl) ?_
  intro p e s m args below meth c S hr hlk hin hsz ls hl hG
  have hx := S.1
  have hb := S.2.1
  have hl : lv_has ls 5 [(0, .ref (b + 83)), (1, .int a1), (2, .int a2), (3, .int a3)] := hl
  refine lv_aload_n hx hb dX12_labels_0 rfl (lv_at hl 0 rfl) ?_
  refine lv_iload_n hx hb dX12_labels_1 rfl (lv_at hl 1 rfl) ?_
  refine lv_iload_n hx hb dX12_labels_2 rfl (lv_at hl 2 rfl) ?_
  refine lv_iload_n hx hb dX12_labels_3 rfl (lv_at hl 3 rfl) ?_
  refine g_vi (As := [.int a1, .int a2, .int a3]) (rest := []) S hG (by omega) (qX12_symmetries l hn h83 h84 a1 a2 a3) wV_12_479 h83 cpX12 (by omega) dX12_labels_4 rfl hl.1 (ar := 3) (by decide +kernel) rfl ⟨Nat.le_of_ble_eq_true rfl, Nat.le_of_ble_eq_true rfl, Nat.le_of_ble_eq_true rfl, Nat.le_of_ble_eq_true rfl⟩ (Nat.le_of_ble_eq_true rfl) (fun r_3 u_E_1 H locs hp_2 hG => ?_)
  obtain ⟨n_E_1, E_1⟩ := u_E_1
  dsimp only at hp_2 hG
  obtain ⟨rfl, nhp_2, ehp_2⟩ := hp_2
  have hG := gW_eq2 hG nhp_2 ehp_2
  refine lv_istore (lv' := [(4, .int (-2)), (0, .ref (b + 83)), (1, .int a1), (2, .int a2), (3, .int a3)]) hx hb dX12_labels_7 hl (by decide) rfl (fun ls hl => ?_)
  refine lv_iload hx hb dX12_labels_9 (lv_at hl 0 rfl) ?_
  refine lv_if_ge (tgt := 19) hx hb dX12_labels_11 (by decide) (fun c_4 => absurd c_4 (by decide)) (fun c_4 => ?_)
  refine lv_iload hx hb dX12_labels_14 (lv_at hl 0 rfl) ?_
  refine lv_goto (tgt := 27) hx hb dX12_labels_16 (by decide) ?_
  exact g_iret S hr hlk hG (by omega) dX12_labels_27 ⟨Nat.le_of_ble_eq_true rfl, Nat.le_of_ble_eq_true rfl⟩ ⟨rfl, rfl, rfl⟩
set_option maxHeartbeats 4000000 in
set_option maxRecDepth 100000 in
theorem qX12_tells (l : Launch) {D : va_G} {cy : Nat → ClassId} {b n : Nat} (hn : 105 ≤ n) {E : Nat → va_E} (h83 : E 83 = Z83 b cy) (h84 : E 84 = Z84 b cy)  (a1 : Int32) : gI l yX12_tells cX12_tells 7 (some .int) 2 0 0 D cy b n E [.ref (b + 83), .int a1] (fun r u => r = (-2) ∧ u.1 = n ∧ u.2 = E) := by
  refine gI_of (by decide) (Nat.le_of_ble_eq_true rfl) ?_
  intro p e s m args below meth c S hr hlk hin hsz ls hl hG
  have hx := S.1
  have hb := S.2.1
  have hl : lv_has ls 7 [(0, .ref (b + 83)), (1, .int a1)] := hl
  refine lv_aload_n hx hb dX12_tells_0 rfl (lv_at hl 0 rfl) ?_
  refine lv_iload_n hx hb dX12_tells_1 rfl (lv_at hl 1 rfl) ?_
  refine g_vi (As := [.int a1]) (rest := []) S hG (by omega) (qX12_isKind l hn h83 h84 a1) wV_12_225 h83 cpX12 (by omega) dX12_tells_2 rfl hl.1 (ar := 1) (by decide +kernel) rfl ⟨Nat.le_of_ble_eq_true rfl, Nat.le_of_ble_eq_true rfl, Nat.le_of_ble_eq_true rfl, Nat.le_of_ble_eq_true rfl⟩ (Nat.le_of_ble_eq_true rfl) (fun r_3 u_E_1 H locs hp_2 hG => ?_)
  obtain ⟨n_E_1, E_1⟩ := u_E_1
  dsimp only at hp_2 hG
  obtain ⟨rfl, nhp_2, ehp_2⟩ := hp_2
  have hG := gW_eq2 hG nhp_2 ehp_2
  refine lv_if_ne (tgt := 11) hx hb dX12_tells_5 (by decide) (fun c_4 => absurd c_4 (by decide)) (fun c_4 => ?_)
  refine lv_bipush (v := (-2)) hx hb dX12_tells_8 (by decide) ?_
  exact g_iret S hr hlk hG (by omega) dX12_tells_10 ⟨Nat.le_of_ble_eq_true rfl, Nat.le_of_ble_eq_true rfl⟩ ⟨rfl, rfl, rfl⟩
set_option maxHeartbeats 4000000 in
set_option maxRecDepth 100000 in
theorem qX12_shared (l : Launch) {D : va_G} {cy : Nat → ClassId} {b n : Nat} (hn : 105 ≤ n) {E : Nat → va_E} (h83 : E 83 = Z83 b cy) (h84 : E 84 = Z84 b cy)  (a1 : Int32) (a2 : Int32) (a3 : Int32) : gI l yX12_shared cX12_shared 7 (some .int) 2 0 0 D cy b n E [.ref (b + 83), .int a1, .int a2, .int a3] (fun r u => r = (-2) ∧ u.1 = n ∧ u.2 = E) := by
  refine gI_of (by decide) (Nat.le_of_ble_eq_true rfl) ?_
  intro p e s m args below meth c S hr hlk hin hsz ls hl hG
  have hx := S.1
  have hb := S.2.1
  have hl : lv_has ls 7 [(0, .ref (b + 83)), (1, .int a1), (2, .int a2), (3, .int a3)] := hl
  refine lv_aload_n hx hb dX12_shared_0 rfl (lv_at hl 0 rfl) ?_
  refine lv_iload_n hx hb dX12_shared_1 rfl (lv_at hl 2 rfl) ?_
  refine g_vi (As := [.int a2]) (rest := []) S hG (by omega) (qX12_isKind l hn h83 h84 a2) wV_12_225 h83 cpX12 (by omega) dX12_shared_2 rfl hl.1 (ar := 1) (by decide +kernel) rfl ⟨Nat.le_of_ble_eq_true rfl, Nat.le_of_ble_eq_true rfl, Nat.le_of_ble_eq_true rfl, Nat.le_of_ble_eq_true rfl⟩ (Nat.le_of_ble_eq_true rfl) (fun r_3 u_E_1 H locs hp_2 hG => ?_)
  obtain ⟨n_E_1, E_1⟩ := u_E_1
  dsimp only at hp_2 hG
  obtain ⟨rfl, nhp_2, ehp_2⟩ := hp_2
  have hG := gW_eq2 hG nhp_2 ehp_2
  refine lv_if_eq (tgt := 17) hx hb dX12_shared_5 (by decide) (fun c_4 => ?_) (fun c_4 => absurd c_4 (by decide))
  refine lv_bipush (v := (-2)) hx hb dX12_shared_17 (by decide) ?_
  refine lv_istore (lv' := [(4, .int (-2)), (0, .ref (b + 83)), (1, .int a1), (2, .int a2), (3, .int a3)]) hx hb dX12_shared_19 hl (by decide) rfl (fun ls hl => ?_)
  refine lv_iload hx hb dX12_shared_21 (lv_at hl 0 rfl) ?_
  refine lv_iconst (v := (-1)) hx hb dX12_shared_23 (by decide) ?_
  refine lv_icmp_ge (tgt := 30) hx hb dX12_shared_24 (by decide) (fun c_5 => absurd c_5 (by decide)) (fun c_5 => ?_)
  refine lv_iload hx hb dX12_shared_27 (lv_at hl 0 rfl) ?_
  exact g_iret S hr hlk hG (by omega) dX12_shared_29 ⟨Nat.le_of_ble_eq_true rfl, Nat.le_of_ble_eq_true rfl⟩ ⟨rfl, rfl, rfl⟩
theorem wV_12_534 : gWV "GrownKindsModel" 534 yX12_whyNone cX12_whyNone 3 (some .int) := ⟨wm_2354, wm_2356, wm_169, wm_187, wm_2357, by decide +kernel, by decide +kernel⟩
set_option maxHeartbeats 4000000 in
set_option maxRecDepth 100000 in
theorem qX12_most (l : Launch) {D : va_G} {cy : Nat → ClassId} {b n : Nat} (hn : 105 ≤ n) {E : Nat → va_E} (h83 : E 83 = Z83 b cy) (h84 : E 84 = Z84 b cy)  (a1 : Int32) (a2 : Int32) (a3 : Int32) (a4 : Int32) : gI l yX12_most cX12_most 10 (some .int) 3 0 0 D cy b n E [.ref (b + 83), .int a1, .int a2, .int a3, .int a4] (fun r u => r = (-2) ∧ u.1 = n ∧ u.2 = E) := by
  refine gI_of (by decide) (Nat.le_of_ble_eq_true rfl) ?_
  intro p e s m args below meth c S hr hlk hin hsz ls hl hG
  have hx := S.1
  have hb := S.2.1
  have hl : lv_has ls 10 [(0, .ref (b + 83)), (1, .int a1), (2, .int a2), (3, .int a3), (4, .int a4)] := hl
  refine lv_aload_n hx hb dX12_most_0 rfl (lv_at hl 0 rfl) ?_
  refine lv_iload_n hx hb dX12_most_1 rfl (lv_at hl 1 rfl) ?_
  refine lv_iload_n hx hb dX12_most_2 rfl (lv_at hl 2 rfl) ?_
  refine g_vi (As := [.int a1, .int a2]) (rest := []) S hG (by omega) (qX12_whyNone l hn h83 h84 a1 a2) wV_12_534 h83 cpX12 (by omega) dX12_most_3 rfl hl.1 (ar := 2) (by decide +kernel) rfl ⟨Nat.le_of_ble_eq_true rfl, Nat.le_of_ble_eq_true rfl, Nat.le_of_ble_eq_true rfl, Nat.le_of_ble_eq_true rfl⟩ (Nat.le_of_ble_eq_true rfl) (fun r_3 u_E_1 H locs hp_2 hG => ?_)
  obtain ⟨n_E_1, E_1⟩ := u_E_1
  dsimp only at hp_2 hG
  obtain ⟨rfl, nhp_2, ehp_2⟩ := hp_2
  have hG := gW_eq2 hG nhp_2 ehp_2
  refine lv_istore (lv' := [(5, .int (-2)), (0, .ref (b + 83)), (1, .int a1), (2, .int a2), (3, .int a3), (4, .int a4)]) hx hb dX12_most_6 hl (by decide) rfl (fun ls hl => ?_)
  refine lv_iload hx hb dX12_most_8 (lv_at hl 0 rfl) ?_
  refine lv_if_ge (tgt := 16) hx hb dX12_most_10 (by decide) (fun c_4 => absurd c_4 (by decide)) (fun c_4 => ?_)
  refine lv_iload hx hb dX12_most_13 (lv_at hl 0 rfl) ?_
  exact g_iret S hr hlk hG (by omega) dX12_most_15 ⟨Nat.le_of_ble_eq_true rfl, Nat.le_of_ble_eq_true rfl⟩ ⟨rfl, rfl, rfl⟩
theorem wV_12_537 : gWV "GrownKindsModel" 537 yX12_most cX12_most 10 (some .int) := ⟨wm_2362, wm_2364, wm_170, wm_187, wm_2365, by decide +kernel, by decide +kernel⟩
set_option maxHeartbeats 4000000 in
set_option maxRecDepth 100000 in
theorem qX12_deepest (l : Launch) {D : va_G} {cy : Nat → ClassId} {b n : Nat} (hn : 105 ≤ n) {E : Nat → va_E} (h83 : E 83 = Z83 b cy) (h84 : E 84 = Z84 b cy)  (a1 : Int32) (a2 : Int32) : gI l yX12_deepest cX12_deepest 3 (some .int) 4 0 0 D cy b n E [.ref (b + 83), .int a1, .int a2] (fun r u => r = (-2) ∧ u.1 = n ∧ u.2 = E) := by
  refine gI_of (by decide) (Nat.le_of_ble_eq_true rfl) ?_
  intro p e s m args below meth c S hr hlk hin hsz ls hl hG
  have hx := S.1
  have hb := S.2.1
  have hl : lv_has ls 3 [(0, .ref (b + 83)), (1, .int a1), (2, .int a2)] := hl
  refine lv_aload_n hx hb dX12_deepest_0 rfl (lv_at hl 0 rfl) ?_
  refine lv_iload_n hx hb dX12_deepest_1 rfl (lv_at hl 1 rfl) ?_
  refine lv_iload_n hx hb dX12_deepest_2 rfl (lv_at hl 2 rfl) ?_
  refine lv_iconst (v := 0) hx hb dX12_deepest_3 (by decide) ?_
  refine lv_iconst (v := (-1)) hx hb dX12_deepest_4 (by decide) ?_
  refine g_vi (As := [.int a1, .int a2, .int 0, .int (-1)]) (rest := []) S hG (by omega) (qX12_most l hn h83 h84 a1 a2 0 (-1)) wV_12_537 h83 cpX12 (by omega) dX12_deepest_5 rfl hl.1 (ar := 4) (by decide +kernel) rfl ⟨Nat.le_of_ble_eq_true rfl, Nat.le_of_ble_eq_true rfl, Nat.le_of_ble_eq_true rfl, Nat.le_of_ble_eq_true rfl⟩ (Nat.le_of_ble_eq_true rfl) (fun r_3 u_E_1 H locs hp_2 hG => ?_)
  obtain ⟨n_E_1, E_1⟩ := u_E_1
  dsimp only at hp_2 hG
  obtain ⟨rfl, nhp_2, ehp_2⟩ := hp_2
  have hG := gW_eq2 hG nhp_2 ehp_2
  exact g_iret S hr hlk hG (by omega) dX12_deepest_8 ⟨Nat.le_of_ble_eq_true rfl, Nat.le_of_ble_eq_true rfl⟩ ⟨rfl, rfl, rfl⟩
set_option maxHeartbeats 4000000 in
set_option maxRecDepth 100000 in
theorem qX12_fullest (l : Launch) {D : va_G} {cy : Nat → ClassId} {b n : Nat} (hn : 105 ≤ n) {E : Nat → va_E} (h83 : E 83 = Z83 b cy) (h84 : E 84 = Z84 b cy)  (a1 : Int32) (a2 : Int32) (a3 : Int32) : gI l yX12_fullest cX12_fullest 4 (some .int) 4 0 0 D cy b n E [.ref (b + 83), .int a1, .int a2, .int a3] (fun r u => r = (-2) ∧ u.1 = n ∧ u.2 = E) := by
  refine gI_of (by decide) (Nat.le_of_ble_eq_true rfl) ?_
  intro p e s m args below meth c S hr hlk hin hsz ls hl hG
  have hx := S.1
  have hb := S.2.1
  have hl : lv_has ls 4 [(0, .ref (b + 83)), (1, .int a1), (2, .int a2), (3, .int a3)] := hl
  refine lv_iload_n hx hb dX12_fullest_0 rfl (lv_at hl 3 rfl) ?_
  refine lv_i2l hx hb dX12_fullest_1 rfl ?_
  refine lv_lconst (v := 0) hx hb dX12_fullest_2 (by decide) ?_
  refine lv_ldc2 (v := 25) hx hb S.2.2.2.1 (S.2.2.2.2 _ wm_2111) dX12_fullest_3 ?_
  refine g_si (As := [.long (Int32.toInt64 a3), .long 0, .long 25]) (rest := []) S hG (by omega) (qX12_in l hn  (Int32.toInt64 a3) 0 25) wS_12_97 dX12_fullest_6 rfl hl.1 (ar := 3) (by decide +kernel) rfl ⟨Nat.le_of_ble_eq_true rfl, Nat.le_of_ble_eq_true rfl, Nat.le_of_ble_eq_true rfl, Nat.le_of_ble_eq_true rfl⟩ (Nat.le_of_ble_eq_true rfl) (fun r_3 u_E_1 H locs hp_2 hG => ?_)
  obtain ⟨n_E_1, E_1⟩ := u_E_1
  dsimp only at hp_2 hG
  obtain ⟨hr_4, nhp_2, ehp_2⟩ := hp_2
  have hG := gW_eq2 hG nhp_2 ehp_2
  refine lv_if_eq (tgt := 23) hx hb dX12_fullest_9 (by decide) (fun c_5 => ?_) (fun c_5 => ?_)
  · refine lv_bipush (v := (-2)) hx hb dX12_fullest_23 (by decide) ?_
    exact g_iret S hr hlk hG (by omega) dX12_fullest_25 ⟨Nat.le_of_ble_eq_true rfl, Nat.le_of_ble_eq_true rfl⟩ ⟨rfl, rfl, rfl⟩
  · refine lv_aload_n hx hb dX12_fullest_12 rfl (lv_at hl 0 rfl) ?_
    refine lv_iload_n hx hb dX12_fullest_13 rfl (lv_at hl 1 rfl) ?_
    refine lv_iload_n hx hb dX12_fullest_14 rfl (lv_at hl 2 rfl) ?_
    refine lv_iconst (v := 1) hx hb dX12_fullest_15 (by decide) ?_
    refine lv_iload_n hx hb dX12_fullest_16 rfl (lv_at hl 3 rfl) ?_
    refine g_vi (As := [.int a1, .int a2, .int 1, .int a3]) (rest := []) S hG (by omega) (qX12_most l hn h83 h84 a1 a2 1 a3) wV_12_537 h83 cpX12 (by omega) dX12_fullest_17 rfl hl.1 (ar := 4) (by decide +kernel) rfl ⟨Nat.le_of_ble_eq_true rfl, Nat.le_of_ble_eq_true rfl, Nat.le_of_ble_eq_true rfl, Nat.le_of_ble_eq_true rfl⟩ (Nat.le_of_ble_eq_true rfl) (fun r_8 u_E_6 H locs hp_7 hG => ?_)
    obtain ⟨n_E_6, E_6⟩ := u_E_6
    dsimp only at hp_7 hG
    obtain ⟨rfl, nhp_7, ehp_7⟩ := hp_7
    have hG := gW_eq2 hG nhp_7 ehp_7
    refine lv_goto (tgt := 25) hx hb dX12_fullest_20 (by decide) ?_
    exact g_iret S hr hlk hG (by omega) dX12_fullest_25 ⟨Nat.le_of_ble_eq_true rfl, Nat.le_of_ble_eq_true rfl⟩ ⟨rfl, rfl, rfl⟩
set_option maxHeartbeats 4000000 in
set_option maxRecDepth 100000 in
theorem qX12_stiffest (l : Launch) {D : va_G} {cy : Nat → ClassId} {b n : Nat} (hn : 105 ≤ n) {E : Nat → va_E} (h83 : E 83 = Z83 b cy) (h84 : E 84 = Z84 b cy)  (a1 : Int32) (a2 : Int32) : gI l yX12_stiffest cX12_stiffest 3 (some .int) 4 0 0 D cy b n E [.ref (b + 83), .int a1, .int a2] (fun r u => r = (-2) ∧ u.1 = n ∧ u.2 = E) := by
  refine gI_of (by decide) (Nat.le_of_ble_eq_true rfl) ?_
  intro p e s m args below meth c S hr hlk hin hsz ls hl hG
  have hx := S.1
  have hb := S.2.1
  have hl : lv_has ls 3 [(0, .ref (b + 83)), (1, .int a1), (2, .int a2)] := hl
  refine lv_aload_n hx hb dX12_stiffest_0 rfl (lv_at hl 0 rfl) ?_
  refine lv_iload_n hx hb dX12_stiffest_1 rfl (lv_at hl 1 rfl) ?_
  refine lv_iload_n hx hb dX12_stiffest_2 rfl (lv_at hl 2 rfl) ?_
  refine lv_iconst (v := 2) hx hb dX12_stiffest_3 (by decide) ?_
  refine lv_iconst (v := (-1)) hx hb dX12_stiffest_4 (by decide) ?_
  refine g_vi (As := [.int a1, .int a2, .int 2, .int (-1)]) (rest := []) S hG (by omega) (qX12_most l hn h83 h84 a1 a2 2 (-1)) wV_12_537 h83 cpX12 (by omega) dX12_stiffest_5 rfl hl.1 (ar := 4) (by decide +kernel) rfl ⟨Nat.le_of_ble_eq_true rfl, Nat.le_of_ble_eq_true rfl, Nat.le_of_ble_eq_true rfl, Nat.le_of_ble_eq_true rfl⟩ (Nat.le_of_ble_eq_true rfl) (fun r_3 u_E_1 H locs hp_2 hG => ?_)
  obtain ⟨n_E_1, E_1⟩ := u_E_1
  dsimp only at hp_2 hG
  obtain ⟨rfl, nhp_2, ehp_2⟩ := hp_2
  have hG := gW_eq2 hG nhp_2 ehp_2
  exact g_iret S hr hlk hG (by omega) dX12_stiffest_8 ⟨Nat.le_of_ble_eq_true rfl, Nat.le_of_ble_eq_true rfl⟩ ⟨rfl, rfl, rfl⟩
set_option maxHeartbeats 4000000 in
set_option maxRecDepth 100000 in
theorem qX12_chance (l : Launch) {D : va_G} {cy : Nat → ClassId} {b n : Nat} (hn : 105 ≤ n) {E : Nat → va_E} (h83 : E 83 = Z83 b cy) (h84 : E 84 = Z84 b cy)  (a1 : Int32) (a2 : Int32) (a3 : Int32) (a4 : Int32) : gI l yX12_chance cX12_chance 6 (some .int) 3 0 0 D cy b n E [.ref (b + 83), .int a1, .int a2, .int a3, .int a4] (fun r u => r = (-2) ∧ u.1 = n ∧ u.2 = E) := by
  refine gI_of (by decide) (Nat.le_of_ble_eq_true rfl) ?_
  intro p e s m args below meth c S hr hlk hin hsz ls hl hG
  have hx := S.1
  have hb := S.2.1
  have hl : lv_has ls 6 [(0, .ref (b + 83)), (1, .int a1), (2, .int a2), (3, .int a3), (4, .int a4)] := hl
  refine lv_aload_n hx hb dX12_chance_0 rfl (lv_at hl 0 rfl) ?_
  refine lv_iload_n hx hb dX12_chance_1 rfl (lv_at hl 1 rfl) ?_
  refine lv_iload_n hx hb dX12_chance_2 rfl (lv_at hl 3 rfl) ?_
  refine g_vi (As := [.int a1, .int a3]) (rest := []) S hG (by omega) (qX12_isTerm l hn h83 h84 a1 a3) wV_12_344 h83 cpX12 (by omega) dX12_chance_3 rfl hl.1 (ar := 2) (by decide +kernel) rfl ⟨Nat.le_of_ble_eq_true rfl, Nat.le_of_ble_eq_true rfl, Nat.le_of_ble_eq_true rfl, Nat.le_of_ble_eq_true rfl⟩ (Nat.le_of_ble_eq_true rfl) (fun r_3 u_E_1 H locs hp_2 hG => ?_)
  obtain ⟨n_E_1, E_1⟩ := u_E_1
  dsimp only at hp_2 hG
  obtain ⟨rfl, nhp_2, ehp_2⟩ := hp_2
  have hG := gW_eq2 hG nhp_2 ehp_2
  refine lv_if_eq (tgt := 29) hx hb dX12_chance_6 (by decide) (fun c_4 => ?_) (fun c_4 => absurd c_4 (by decide))
  refine lv_bipush (v := (-2)) hx hb dX12_chance_29 (by decide) ?_
  refine lv_istore (lv' := [(5, .int (-2)), (0, .ref (b + 83)), (1, .int a1), (2, .int a2), (3, .int a3), (4, .int a4)]) hx hb dX12_chance_31 hl (by decide) rfl (fun ls hl => ?_)
  refine lv_iload hx hb dX12_chance_33 (lv_at hl 0 rfl) ?_
  refine lv_if_ge (tgt := 43) hx hb dX12_chance_35 (by decide) (fun c_5 => absurd c_5 (by decide)) (fun c_5 => ?_)
  refine lv_iload hx hb dX12_chance_38 (lv_at hl 0 rfl) ?_
  refine lv_goto (tgt := 63) hx hb dX12_chance_40 (by decide) ?_
  exact g_iret S hr hlk hG (by omega) dX12_chance_63 ⟨Nat.le_of_ble_eq_true rfl, Nat.le_of_ble_eq_true rfl⟩ ⟨rfl, rfl, rfl⟩
set_option maxHeartbeats 4000000 in
set_option maxRecDepth 100000 in
theorem qX12_mean (l : Launch) {D : va_G} {cy : Nat → ClassId} {b n : Nat} (hn : 105 ≤ n) {E : Nat → va_E} (h83 : E 83 = Z83 b cy) (h84 : E 84 = Z84 b cy)  (a1 : Int32) (a2 : Int32) (a3 : Int32) (a4 : Int32) : gI l yX12_mean cX12_mean 8 (some .int) 3 0 0 D cy b n E [.ref (b + 83), .int a1, .int a2, .int a3, .int a4] (fun r u => r = (-2) ∧ u.1 = n ∧ u.2 = E) := by
  refine gI_of (by decide) (Nat.le_of_ble_eq_true rfl) ?_
  intro p e s m args below meth c S hr hlk hin hsz ls hl hG
  have hx := S.1
  have hb := S.2.1
  have hl : lv_has ls 8 [(0, .ref (b + 83)), (1, .int a1), (2, .int a2), (3, .int a3), (4, .int a4)] := hl
  refine lv_iload_n hx hb dX12_mean_0 rfl (lv_at hl 3 rfl) ?_
  refine lv_i2l hx hb dX12_mean_1 rfl ?_
  refine lv_lconst (v := 0) hx hb dX12_mean_2 (by decide) ?_
  refine lv_ldc2 (v := 25) hx hb S.2.2.2.1 (S.2.2.2.2 _ wm_2111) dX12_mean_3 ?_
  refine g_si (As := [.long (Int32.toInt64 a3), .long 0, .long 25]) (rest := []) S hG (by omega) (qX12_in l hn  (Int32.toInt64 a3) 0 25) wS_12_97 dX12_mean_6 rfl hl.1 (ar := 3) (by decide +kernel) rfl ⟨Nat.le_of_ble_eq_true rfl, Nat.le_of_ble_eq_true rfl, Nat.le_of_ble_eq_true rfl, Nat.le_of_ble_eq_true rfl⟩ (Nat.le_of_ble_eq_true rfl) (fun r_3 u_E_1 H locs hp_2 hG => ?_)
  obtain ⟨n_E_1, E_1⟩ := u_E_1
  dsimp only at hp_2 hG
  obtain ⟨hr_4, nhp_2, ehp_2⟩ := hp_2
  have hG := gW_eq2 hG nhp_2 ehp_2
  refine lv_if_eq (tgt := 32) hx hb dX12_mean_9 (by decide) (fun c_5 => ?_) (fun c_5 => ?_)
  · refine lv_bipush (v := (-2)) hx hb dX12_mean_32 (by decide) ?_
    refine lv_istore (lv' := [(5, .int (-2)), (0, .ref (b + 83)), (1, .int a1), (2, .int a2), (3, .int a3), (4, .int a4)]) hx hb dX12_mean_34 hl (by decide) rfl (fun ls hl => ?_)
    refine lv_iload hx hb dX12_mean_36 (lv_at hl 0 rfl) ?_
    refine lv_if_ge (tgt := 44) hx hb dX12_mean_38 (by decide) (fun c_6 => absurd c_6 (by decide)) (fun c_6 => ?_)
    refine lv_iload hx hb dX12_mean_41 (lv_at hl 0 rfl) ?_
    exact g_iret S hr hlk hG (by omega) dX12_mean_43 ⟨Nat.le_of_ble_eq_true rfl, Nat.le_of_ble_eq_true rfl⟩ ⟨rfl, rfl, rfl⟩
  · refine lv_iload hx hb dX12_mean_12 (lv_at hl 4 rfl) ?_
    refine lv_i2l hx hb dX12_mean_14 rfl ?_
    refine lv_lconst (v := 0) hx hb dX12_mean_15 (by decide) ?_
    refine lv_lconst (v := 1) hx hb dX12_mean_16 (by decide) ?_
    refine g_si (As := [.long (Int32.toInt64 a4), .long 0, .long 1]) (rest := []) S hG (by omega) (qX12_in l hn  (Int32.toInt64 a4) 0 1) wS_12_97 dX12_mean_17 rfl hl.1 (ar := 3) (by decide +kernel) rfl ⟨Nat.le_of_ble_eq_true rfl, Nat.le_of_ble_eq_true rfl, Nat.le_of_ble_eq_true rfl, Nat.le_of_ble_eq_true rfl⟩ (Nat.le_of_ble_eq_true rfl) (fun r_9 u_E_7 H locs hp_8 hG => ?_)
    obtain ⟨n_E_7, E_7⟩ := u_E_7
    dsimp only at hp_8 hG
    obtain ⟨hr_10, nhp_8, ehp_8⟩ := hp_8
    have hG := gW_eq2 hG nhp_8 ehp_8
    refine lv_if_eq (tgt := 32) hx hb dX12_mean_20 (by decide) (fun c_11 => ?_) (fun c_11 => ?_)
    · refine lv_bipush (v := (-2)) hx hb dX12_mean_32 (by decide) ?_
      refine lv_istore (lv' := [(5, .int (-2)), (0, .ref (b + 83)), (1, .int a1), (2, .int a2), (3, .int a3), (4, .int a4)]) hx hb dX12_mean_34 hl (by decide) rfl (fun ls hl => ?_)
      refine lv_iload hx hb dX12_mean_36 (lv_at hl 0 rfl) ?_
      refine lv_if_ge (tgt := 44) hx hb dX12_mean_38 (by decide) (fun c_12 => absurd c_12 (by decide)) (fun c_12 => ?_)
      refine lv_iload hx hb dX12_mean_41 (lv_at hl 0 rfl) ?_
      exact g_iret S hr hlk hG (by omega) dX12_mean_43 ⟨Nat.le_of_ble_eq_true rfl, Nat.le_of_ble_eq_true rfl⟩ ⟨rfl, rfl, rfl⟩
    · refine lv_aload_n hx hb dX12_mean_23 rfl (lv_at hl 0 rfl) ?_
      refine lv_iload_n hx hb dX12_mean_24 rfl (lv_at hl 1 rfl) ?_
      refine lv_iload_n hx hb dX12_mean_25 rfl (lv_at hl 2 rfl) ?_
      refine g_vi (As := [.int a1, .int a2]) (rest := []) S hG (by omega) (qX12_whyNone l hn h83 h84 a1 a2) wV_12_534 h83 cpX12 (by omega) dX12_mean_26 rfl hl.1 (ar := 2) (by decide +kernel) rfl ⟨Nat.le_of_ble_eq_true rfl, Nat.le_of_ble_eq_true rfl, Nat.le_of_ble_eq_true rfl, Nat.le_of_ble_eq_true rfl⟩ (Nat.le_of_ble_eq_true rfl) (fun r_15 u_E_13 H locs hp_14 hG => ?_)
      obtain ⟨n_E_13, E_13⟩ := u_E_13
      dsimp only at hp_14 hG
      obtain ⟨rfl, nhp_14, ehp_14⟩ := hp_14
      have hG := gW_eq2 hG nhp_14 ehp_14
      refine lv_goto (tgt := 34) hx hb dX12_mean_29 (by decide) ?_
      refine lv_istore (lv' := [(5, .int (-2)), (0, .ref (b + 83)), (1, .int a1), (2, .int a2), (3, .int a3), (4, .int a4)]) hx hb dX12_mean_34 hl (by decide) rfl (fun ls hl => ?_)
      refine lv_iload hx hb dX12_mean_36 (lv_at hl 0 rfl) ?_
      refine lv_if_ge (tgt := 44) hx hb dX12_mean_38 (by decide) (fun c_16 => absurd c_16 (by decide)) (fun c_16 => ?_)
      refine lv_iload hx hb dX12_mean_41 (lv_at hl 0 rfl) ?_
      exact g_iret S hr hlk hG (by omega) dX12_mean_43 ⟨Nat.le_of_ble_eq_true rfl, Nat.le_of_ble_eq_true rfl⟩ ⟨rfl, rfl, rfl⟩
set_option maxHeartbeats 4000000 in
set_option maxRecDepth 100000 in
theorem qX12_isBox (l : Launch) {D : va_G} {cy : Nat → ClassId} {b n : Nat} (hn : 105 ≤ n) {E : Nat → va_E} (h83 : E 83 = Z83 b cy) (h84 : E 84 = Z84 b cy)  (a1 : Int32) (a2 : Int32) (a3 : Int32) : gI l yX12_isBox cX12_isBox 4 (some .boolean) 2 0 0 D cy b n E [.ref (b + 83), .int a1, .int a2, .int a3] (fun r u => r = 0 ∧ u.1 = n ∧ u.2 = E) := by
  refine gI_of (by decide) (Nat.le_of_ble_eq_true rfl) ?_
  intro p e s m args below meth c S hr hlk hin hsz ls hl hG
  have hx := S.1
  have hb := S.2.1
  have hl : lv_has ls 4 [(0, .ref (b + 83)), (1, .int a1), (2, .int a2), (3, .int a3)] := hl
  refine lv_aload_n hx hb dX12_isBox_0 rfl (lv_at hl 0 rfl) ?_
  refine lv_iload_n hx hb dX12_isBox_1 rfl (lv_at hl 1 rfl) ?_
  refine g_vi (As := [.int a1]) (rest := []) S hG (by omega) (qX12_isKind l hn h83 h84 a1) wV_12_225 h83 cpX12 (by omega) dX12_isBox_2 rfl hl.1 (ar := 1) (by decide +kernel) rfl ⟨Nat.le_of_ble_eq_true rfl, Nat.le_of_ble_eq_true rfl, Nat.le_of_ble_eq_true rfl, Nat.le_of_ble_eq_true rfl⟩ (Nat.le_of_ble_eq_true rfl) (fun r_3 u_E_1 H locs hp_2 hG => ?_)
  obtain ⟨n_E_1, E_1⟩ := u_E_1
  dsimp only at hp_2 hG
  obtain ⟨rfl, nhp_2, ehp_2⟩ := hp_2
  have hG := gW_eq2 hG nhp_2 ehp_2
  refine lv_if_eq (tgt := 33) hx hb dX12_isBox_5 (by decide) (fun c_4 => ?_) (fun c_4 => absurd c_4 (by decide))
  refine lv_iconst (v := 0) hx hb dX12_isBox_33 (by decide) ?_
  exact g_zret S hr hlk hG (by omega) dX12_isBox_34 ⟨Nat.le_of_ble_eq_true rfl, Nat.le_of_ble_eq_true rfl⟩ rfl ⟨rfl, rfl, rfl⟩
theorem wV_12_545 : gWV "GrownKindsModel" 545 yX12_isBox cX12_isBox 4 (some .boolean) := ⟨wm_2392, wm_2394, wm_171, wm_187, wm_2395, by decide +kernel, by decide +kernel⟩
set_option maxHeartbeats 4000000 in
set_option maxRecDepth 100000 in
theorem qX12_inBox (l : Launch) {D : va_G} {cy : Nat → ClassId} {b n : Nat} (hn : 105 ≤ n) {E : Nat → va_E} (h83 : E 83 = Z83 b cy) (h84 : E 84 = Z84 b cy)  (a1 : Int32) (a2 : Int32) (a3 : Int32) (a4 : Int32) : gI l yX12_inBox cX12_inBox 7 (some .int) 3 0 0 D cy b n E [.ref (b + 83), .int a1, .int a2, .int a3, .int a4] (fun r u => r = (-2) ∧ u.1 = n ∧ u.2 = E) := by
  refine gI_of (by decide) (Nat.le_of_ble_eq_true rfl) ?_
  intro p e s m args below meth c S hr hlk hin hsz ls hl hG
  have hx := S.1
  have hb := S.2.1
  have hl : lv_has ls 7 [(0, .ref (b + 83)), (1, .int a1), (2, .int a2), (3, .int a3), (4, .int a4)] := hl
  refine lv_aload_n hx hb dX12_inBox_0 rfl (lv_at hl 0 rfl) ?_
  refine lv_iload_n hx hb dX12_inBox_1 rfl (lv_at hl 1 rfl) ?_
  refine lv_iload_n hx hb dX12_inBox_2 rfl (lv_at hl 2 rfl) ?_
  refine lv_iload_n hx hb dX12_inBox_3 rfl (lv_at hl 3 rfl) ?_
  refine g_vi (As := [.int a1, .int a2, .int a3]) (rest := []) S hG (by omega) (qX12_isBox l hn h83 h84 a1 a2 a3) wV_12_545 h83 cpX12 (by omega) dX12_inBox_4 rfl hl.1 (ar := 3) (by decide +kernel) rfl ⟨Nat.le_of_ble_eq_true rfl, Nat.le_of_ble_eq_true rfl, Nat.le_of_ble_eq_true rfl, Nat.le_of_ble_eq_true rfl⟩ (Nat.le_of_ble_eq_true rfl) (fun r_3 u_E_1 H locs hp_2 hG => ?_)
  obtain ⟨n_E_1, E_1⟩ := u_E_1
  dsimp only at hp_2 hG
  obtain ⟨rfl, nhp_2, ehp_2⟩ := hp_2
  have hG := gW_eq2 hG nhp_2 ehp_2
  refine lv_if_ne (tgt := 13) hx hb dX12_inBox_7 (by decide) (fun c_4 => absurd c_4 (by decide)) (fun c_4 => ?_)
  refine lv_bipush (v := (-2)) hx hb dX12_inBox_10 (by decide) ?_
  exact g_iret S hr hlk hG (by omega) dX12_inBox_12 ⟨Nat.le_of_ble_eq_true rfl, Nat.le_of_ble_eq_true rfl⟩ ⟨rfl, rfl, rfl⟩
set_option maxHeartbeats 4000000 in
set_option maxRecDepth 100000 in
theorem qX12_boxed (l : Launch) {D : va_G} {cy : Nat → ClassId} {b n : Nat} (hn : 105 ≤ n) {E : Nat → va_E} (h83 : E 83 = Z83 b cy) (h84 : E 84 = Z84 b cy)  (a1 : Int32) (a2 : Int32) (a3 : Int32) : gL l yX12_boxed cX12_boxed 4 3 0 0 D cy b n E [.ref (b + 83), .int a1, .int a2, .int a3] (fun r u => r = (-2) ∧ u.1 = n ∧ u.2 = E) := by
  refine gL_of (by decide) (Nat.le_of_ble_eq_true rfl) ?_
  intro p e s m args below meth c S hr hlk hin hsz ls hl hG
  have hx := S.1
  have hb := S.2.1
  have hl : lv_has ls 4 [(0, .ref (b + 83)), (1, .int a1), (2, .int a2), (3, .int a3)] := hl
  refine lv_aload_n hx hb dX12_boxed_0 rfl (lv_at hl 0 rfl) ?_
  refine lv_iload_n hx hb dX12_boxed_1 rfl (lv_at hl 1 rfl) ?_
  refine lv_iload_n hx hb dX12_boxed_2 rfl (lv_at hl 2 rfl) ?_
  refine lv_iload_n hx hb dX12_boxed_3 rfl (lv_at hl 3 rfl) ?_
  refine g_vi (As := [.int a1, .int a2, .int a3]) (rest := []) S hG (by omega) (qX12_isBox l hn h83 h84 a1 a2 a3) wV_12_545 h83 cpX12 (by omega) dX12_boxed_4 rfl hl.1 (ar := 3) (by decide +kernel) rfl ⟨Nat.le_of_ble_eq_true rfl, Nat.le_of_ble_eq_true rfl, Nat.le_of_ble_eq_true rfl, Nat.le_of_ble_eq_true rfl⟩ (Nat.le_of_ble_eq_true rfl) (fun r_3 u_E_1 H locs hp_2 hG => ?_)
  obtain ⟨n_E_1, E_1⟩ := u_E_1
  dsimp only at hp_2 hG
  obtain ⟨rfl, nhp_2, ehp_2⟩ := hp_2
  have hG := gW_eq2 hG nhp_2 ehp_2
  refine lv_if_ne (tgt := 14) hx hb dX12_boxed_7 (by decide) (fun c_4 => absurd c_4 (by decide)) (fun c_4 => ?_)
  refine lv_ldc2 (v := -2) hx hb S.2.2.2.1 (S.2.2.2.2 _ wm_2101) dX12_boxed_10 ?_
  exact g_lret S hr hlk hG (by omega) dX12_boxed_13 ⟨Nat.le_of_ble_eq_true rfl, Nat.le_of_ble_eq_true rfl⟩ ⟨rfl, rfl, rfl⟩
theorem wV_12_549 : gWV "GrownKindsModel" 549 yX12_inBox cX12_inBox 7 (some .int) := ⟨wm_2401, wm_2403, wm_172, wm_187, wm_2404, by decide +kernel, by decide +kernel⟩
set_option maxHeartbeats 4000000 in
set_option maxRecDepth 100000 in
theorem qX12_bits (l : Launch) {D : va_G} {cy : Nat → ClassId} {b n : Nat} (hn : 105 ≤ n) {E : Nat → va_E} (h83 : E 83 = Z83 b cy) (h84 : E 84 = Z84 b cy)  (a1 : Int32) (a2 : Int32) (a3 : Int32) : gI l yX12_bits cX12_bits 5 (some .int) 4 0 0 D cy b n E [.ref (b + 83), .int a1, .int a2, .int a3] (fun r u => r = (-2) ∧ u.1 = n ∧ u.2 = E) := by
  refine gI_of (by decide) (Nat.le_of_ble_eq_true rfl) ?_
  intro p e s m args below meth c S hr hlk hin hsz ls hl hG
  have hx := S.1
  have hb := S.2.1
  have hl : lv_has ls 5 [(0, .ref (b + 83)), (1, .int a1), (2, .int a2), (3, .int a3)] := hl
  refine lv_aload_n hx hb dX12_bits_0 rfl (lv_at hl 0 rfl) ?_
  refine lv_iload_n hx hb dX12_bits_1 rfl (lv_at hl 1 rfl) ?_
  refine lv_iload_n hx hb dX12_bits_2 rfl (lv_at hl 2 rfl) ?_
  refine lv_iload_n hx hb dX12_bits_3 rfl (lv_at hl 3 rfl) ?_
  refine lv_ldcw (v := 1000000) hx hb S.2.2.2.1 (S.2.2.2.2 _ wm_2400) dX12_bits_4 ?_
  refine g_vi (As := [.int a1, .int a2, .int a3, .int 1000000]) (rest := []) S hG (by omega) (qX12_inBox l hn h83 h84 a1 a2 a3 1000000) wV_12_549 h83 cpX12 (by omega) dX12_bits_7 rfl hl.1 (ar := 4) (by decide +kernel) rfl ⟨Nat.le_of_ble_eq_true rfl, Nat.le_of_ble_eq_true rfl, Nat.le_of_ble_eq_true rfl, Nat.le_of_ble_eq_true rfl⟩ (Nat.le_of_ble_eq_true rfl) (fun r_3 u_E_1 H locs hp_2 hG => ?_)
  obtain ⟨n_E_1, E_1⟩ := u_E_1
  dsimp only at hp_2 hG
  obtain ⟨rfl, nhp_2, ehp_2⟩ := hp_2
  have hG := gW_eq2 hG nhp_2 ehp_2
  refine lv_istore (lv' := [(4, .int (-2)), (0, .ref (b + 83)), (1, .int a1), (2, .int a2), (3, .int a3)]) hx hb dX12_bits_10 hl (by decide) rfl (fun ls hl => ?_)
  refine lv_iload hx hb dX12_bits_12 (lv_at hl 0 rfl) ?_
  refine lv_if_ge (tgt := 22) hx hb dX12_bits_14 (by decide) (fun c_4 => absurd c_4 (by decide)) (fun c_4 => ?_)
  refine lv_iload hx hb dX12_bits_17 (lv_at hl 0 rfl) ?_
  refine lv_goto (tgt := 28) hx hb dX12_bits_19 (by decide) ?_
  exact g_iret S hr hlk hG (by omega) dX12_bits_28 ⟨Nat.le_of_ble_eq_true rfl, Nat.le_of_ble_eq_true rfl⟩ ⟨rfl, rfl, rfl⟩
set_option maxHeartbeats 4000000 in
set_option maxRecDepth 100000 in
theorem qX12_drawn (l : Launch) {D : va_G} {cy : Nat → ClassId} {b n : Nat} (hn : 105 ≤ n) {E : Nat → va_E} (h83 : E 83 = Z83 b cy) (h84 : E 84 = Z84 b cy)  (a1 : Int32) (a2 : Int32) (a3 : Int32) (a4 : Int32) (a5 : Int32) : gI l yX12_drawn cX12_drawn 11 (some .int) 4 0 0 D cy b n E [.ref (b + 83), .int a1, .int a2, .int a3, .int a4, .int a5] (fun r u => r = (-2) ∧ u.1 = n ∧ u.2 = E) := by
  refine gI_of (by decide) (Nat.le_of_ble_eq_true rfl) ?_
  intro p e s m args below meth c S hr hlk hin hsz ls hl hG
  have hx := S.1
  have hb := S.2.1
  have hl : lv_has ls 11 [(0, .ref (b + 83)), (1, .int a1), (2, .int a2), (3, .int a3), (4, .int a4), (5, .int a5)] := hl
  refine lv_iload hx hb dX12_drawn_0 (lv_at hl 4 rfl) ?_
  refine lv_i2l hx hb dX12_drawn_2 rfl ?_
  refine lv_lconst (v := 0) hx hb dX12_drawn_3 (by decide) ?_
  refine lv_ldc2 (v := 1073741823) hx hb S.2.2.2.1 (S.2.2.2.2 _ wm_2412) dX12_drawn_4 ?_
  refine g_si (As := [.long (Int32.toInt64 a4), .long 0, .long 1073741823]) (rest := []) S hG (by omega) (qX12_in l hn  (Int32.toInt64 a4) 0 1073741823) wS_12_97 dX12_drawn_7 rfl hl.1 (ar := 3) (by decide +kernel) rfl ⟨Nat.le_of_ble_eq_true rfl, Nat.le_of_ble_eq_true rfl, Nat.le_of_ble_eq_true rfl, Nat.le_of_ble_eq_true rfl⟩ (Nat.le_of_ble_eq_true rfl) (fun r_3 u_E_1 H locs hp_2 hG => ?_)
  obtain ⟨n_E_1, E_1⟩ := u_E_1
  dsimp only at hp_2 hG
  obtain ⟨hr_4, nhp_2, ehp_2⟩ := hp_2
  have hG := gW_eq2 hG nhp_2 ehp_2
  refine lv_if_eq (tgt := 37) hx hb dX12_drawn_10 (by decide) (fun c_5 => ?_) (fun c_5 => ?_)
  · refine lv_bipush (v := (-2)) hx hb dX12_drawn_37 (by decide) ?_
    refine lv_istore (lv' := [(6, .int (-2)), (0, .ref (b + 83)), (1, .int a1), (2, .int a2), (3, .int a3), (4, .int a4), (5, .int a5)]) hx hb dX12_drawn_39 hl (by decide) rfl (fun ls hl => ?_)
    refine lv_iload hx hb dX12_drawn_41 (lv_at hl 0 rfl) ?_
    refine lv_if_ge (tgt := 49) hx hb dX12_drawn_43 (by decide) (fun c_6 => absurd c_6 (by decide)) (fun c_6 => ?_)
    refine lv_iload hx hb dX12_drawn_46 (lv_at hl 0 rfl) ?_
    exact g_iret S hr hlk hG (by omega) dX12_drawn_48 ⟨Nat.le_of_ble_eq_true rfl, Nat.le_of_ble_eq_true rfl⟩ ⟨rfl, rfl, rfl⟩
  · refine lv_iload hx hb dX12_drawn_13 (lv_at hl 5 rfl) ?_
    refine lv_i2l hx hb dX12_drawn_15 rfl ?_
    refine lv_lconst (v := 0) hx hb dX12_drawn_16 (by decide) ?_
    refine lv_lconst (v := 1) hx hb dX12_drawn_17 (by decide) ?_
    refine g_si (As := [.long (Int32.toInt64 a5), .long 0, .long 1]) (rest := []) S hG (by omega) (qX12_in l hn  (Int32.toInt64 a5) 0 1) wS_12_97 dX12_drawn_18 rfl hl.1 (ar := 3) (by decide +kernel) rfl ⟨Nat.le_of_ble_eq_true rfl, Nat.le_of_ble_eq_true rfl, Nat.le_of_ble_eq_true rfl, Nat.le_of_ble_eq_true rfl⟩ (Nat.le_of_ble_eq_true rfl) (fun r_9 u_E_7 H locs hp_8 hG => ?_)
    obtain ⟨n_E_7, E_7⟩ := u_E_7
    dsimp only at hp_8 hG
    obtain ⟨hr_10, nhp_8, ehp_8⟩ := hp_8
    have hG := gW_eq2 hG nhp_8 ehp_8
    refine lv_if_eq (tgt := 37) hx hb dX12_drawn_21 (by decide) (fun c_11 => ?_) (fun c_11 => ?_)
    · refine lv_bipush (v := (-2)) hx hb dX12_drawn_37 (by decide) ?_
      refine lv_istore (lv' := [(6, .int (-2)), (0, .ref (b + 83)), (1, .int a1), (2, .int a2), (3, .int a3), (4, .int a4), (5, .int a5)]) hx hb dX12_drawn_39 hl (by decide) rfl (fun ls hl => ?_)
      refine lv_iload hx hb dX12_drawn_41 (lv_at hl 0 rfl) ?_
      refine lv_if_ge (tgt := 49) hx hb dX12_drawn_43 (by decide) (fun c_12 => absurd c_12 (by decide)) (fun c_12 => ?_)
      refine lv_iload hx hb dX12_drawn_46 (lv_at hl 0 rfl) ?_
      exact g_iret S hr hlk hG (by omega) dX12_drawn_48 ⟨Nat.le_of_ble_eq_true rfl, Nat.le_of_ble_eq_true rfl⟩ ⟨rfl, rfl, rfl⟩
    · refine lv_aload_n hx hb dX12_drawn_24 rfl (lv_at hl 0 rfl) ?_
      refine lv_iload_n hx hb dX12_drawn_25 rfl (lv_at hl 1 rfl) ?_
      refine lv_iload_n hx hb dX12_drawn_26 rfl (lv_at hl 2 rfl) ?_
      refine lv_iload_n hx hb dX12_drawn_27 rfl (lv_at hl 3 rfl) ?_
      refine lv_ldcw (v := 1000000) hx hb S.2.2.2.1 (S.2.2.2.2 _ wm_2400) dX12_drawn_28 ?_
      refine g_vi (As := [.int a1, .int a2, .int a3, .int 1000000]) (rest := []) S hG (by omega) (qX12_inBox l hn h83 h84 a1 a2 a3 1000000) wV_12_549 h83 cpX12 (by omega) dX12_drawn_31 rfl hl.1 (ar := 4) (by decide +kernel) rfl ⟨Nat.le_of_ble_eq_true rfl, Nat.le_of_ble_eq_true rfl, Nat.le_of_ble_eq_true rfl, Nat.le_of_ble_eq_true rfl⟩ (Nat.le_of_ble_eq_true rfl) (fun r_15 u_E_13 H locs hp_14 hG => ?_)
      obtain ⟨n_E_13, E_13⟩ := u_E_13
      dsimp only at hp_14 hG
      obtain ⟨rfl, nhp_14, ehp_14⟩ := hp_14
      have hG := gW_eq2 hG nhp_14 ehp_14
      refine lv_goto (tgt := 39) hx hb dX12_drawn_34 (by decide) ?_
      refine lv_istore (lv' := [(6, .int (-2)), (0, .ref (b + 83)), (1, .int a1), (2, .int a2), (3, .int a3), (4, .int a4), (5, .int a5)]) hx hb dX12_drawn_39 hl (by decide) rfl (fun ls hl => ?_)
      refine lv_iload hx hb dX12_drawn_41 (lv_at hl 0 rfl) ?_
      refine lv_if_ge (tgt := 49) hx hb dX12_drawn_43 (by decide) (fun c_16 => absurd c_16 (by decide)) (fun c_16 => ?_)
      refine lv_iload hx hb dX12_drawn_46 (lv_at hl 0 rfl) ?_
      exact g_iret S hr hlk hG (by omega) dX12_drawn_48 ⟨Nat.le_of_ble_eq_true rfl, Nat.le_of_ble_eq_true rfl⟩ ⟨rfl, rfl, rfl⟩
set_option maxHeartbeats 4000000 in
set_option maxRecDepth 100000 in
theorem qX12_deal (l : Launch) {D : va_G} {cy : Nat → ClassId} {b n : Nat} (hn : 105 ≤ n) {E : Nat → va_E} (h83 : E 83 = Z83 b cy) (h84 : E 84 = Z84 b cy)  (a1 : Int32) (a2 : Int32) (a3 : Int32) (a4 : Int32) : gI l yX12_deal cX12_deal 6 (some .int) 4 0 0 D cy b n E [.ref (b + 83), .int a1, .int a2, .int a3, .int a4] (fun r u => r = (-2) ∧ u.1 = n ∧ u.2 = E) := by
  refine gI_of (by decide) (Nat.le_of_ble_eq_true rfl) ?_
  intro p e s m args below meth c S hr hlk hin hsz ls hl hG
  have hx := S.1
  have hb := S.2.1
  have hl : lv_has ls 6 [(0, .ref (b + 83)), (1, .int a1), (2, .int a2), (3, .int a3), (4, .int a4)] := hl
  refine lv_iload hx hb dX12_deal_0 (lv_at hl 4 rfl) ?_
  refine lv_i2l hx hb dX12_deal_2 rfl ?_
  refine lv_lconst (v := 0) hx hb dX12_deal_3 (by decide) ?_
  refine lv_ldc2 (v := 2000000000) hx hb S.2.2.2.1 (S.2.2.2.2 _ wm_2421) dX12_deal_4 ?_
  refine g_si (As := [.long (Int32.toInt64 a4), .long 0, .long 2000000000]) (rest := []) S hG (by omega) (qX12_in l hn  (Int32.toInt64 a4) 0 2000000000) wS_12_97 dX12_deal_7 rfl hl.1 (ar := 3) (by decide +kernel) rfl ⟨Nat.le_of_ble_eq_true rfl, Nat.le_of_ble_eq_true rfl, Nat.le_of_ble_eq_true rfl, Nat.le_of_ble_eq_true rfl⟩ (Nat.le_of_ble_eq_true rfl) (fun r_3 u_E_1 H locs hp_2 hG => ?_)
  obtain ⟨n_E_1, E_1⟩ := u_E_1
  dsimp only at hp_2 hG
  obtain ⟨hr_4, nhp_2, ehp_2⟩ := hp_2
  have hG := gW_eq2 hG nhp_2 ehp_2
  refine lv_if_eq (tgt := 26) hx hb dX12_deal_10 (by decide) (fun c_5 => ?_) (fun c_5 => ?_)
  · refine lv_bipush (v := (-2)) hx hb dX12_deal_26 (by decide) ?_
    refine lv_istore (lv' := [(5, .int (-2)), (0, .ref (b + 83)), (1, .int a1), (2, .int a2), (3, .int a3), (4, .int a4)]) hx hb dX12_deal_28 hl (by decide) rfl (fun ls hl => ?_)
    refine lv_iload hx hb dX12_deal_30 (lv_at hl 0 rfl) ?_
    refine lv_iconst (v := (-1)) hx hb dX12_deal_32 (by decide) ?_
    refine lv_icmp_ge (tgt := 39) hx hb dX12_deal_33 (by decide) (fun c_6 => absurd c_6 (by decide)) (fun c_6 => ?_)
    refine lv_iload hx hb dX12_deal_36 (lv_at hl 0 rfl) ?_
    exact g_iret S hr hlk hG (by omega) dX12_deal_38 ⟨Nat.le_of_ble_eq_true rfl, Nat.le_of_ble_eq_true rfl⟩ ⟨rfl, rfl, rfl⟩
  · refine lv_aload_n hx hb dX12_deal_13 rfl (lv_at hl 0 rfl) ?_
    refine lv_iload_n hx hb dX12_deal_14 rfl (lv_at hl 1 rfl) ?_
    refine lv_iload_n hx hb dX12_deal_15 rfl (lv_at hl 2 rfl) ?_
    refine lv_iload_n hx hb dX12_deal_16 rfl (lv_at hl 3 rfl) ?_
    refine lv_sipush (v := 1000) hx hb dX12_deal_17 (by decide) ?_
    refine g_vi (As := [.int a1, .int a2, .int a3, .int 1000]) (rest := []) S hG (by omega) (qX12_inBox l hn h83 h84 a1 a2 a3 1000) wV_12_549 h83 cpX12 (by omega) dX12_deal_20 rfl hl.1 (ar := 4) (by decide +kernel) rfl ⟨Nat.le_of_ble_eq_true rfl, Nat.le_of_ble_eq_true rfl, Nat.le_of_ble_eq_true rfl, Nat.le_of_ble_eq_true rfl⟩ (Nat.le_of_ble_eq_true rfl) (fun r_9 u_E_7 H locs hp_8 hG => ?_)
    obtain ⟨n_E_7, E_7⟩ := u_E_7
    dsimp only at hp_8 hG
    obtain ⟨rfl, nhp_8, ehp_8⟩ := hp_8
    have hG := gW_eq2 hG nhp_8 ehp_8
    refine lv_goto (tgt := 28) hx hb dX12_deal_23 (by decide) ?_
    refine lv_istore (lv' := [(5, .int (-2)), (0, .ref (b + 83)), (1, .int a1), (2, .int a2), (3, .int a3), (4, .int a4)]) hx hb dX12_deal_28 hl (by decide) rfl (fun ls hl => ?_)
    refine lv_iload hx hb dX12_deal_30 (lv_at hl 0 rfl) ?_
    refine lv_iconst (v := (-1)) hx hb dX12_deal_32 (by decide) ?_
    refine lv_icmp_ge (tgt := 39) hx hb dX12_deal_33 (by decide) (fun c_10 => absurd c_10 (by decide)) (fun c_10 => ?_)
    refine lv_iload hx hb dX12_deal_36 (lv_at hl 0 rfl) ?_
    exact g_iret S hr hlk hG (by omega) dX12_deal_38 ⟨Nat.le_of_ble_eq_true rfl, Nat.le_of_ble_eq_true rfl⟩ ⟨rfl, rfl, rfl⟩
set_option maxHeartbeats 4000000 in
set_option maxRecDepth 100000 in
theorem qX12_takes (l : Launch) {D : va_G} {cy : Nat → ClassId} {b n : Nat} (hn : 105 ≤ n) {E : Nat → va_E} (h83 : E 83 = Z83 b cy) (h84 : E 84 = Z84 b cy)  (a1 : Int32) (a2 : Int32) : gI l yX12_takes cX12_takes 3 (some .int) 3 0 0 D cy b n E [.ref (b + 83), .int a1, .int a2] (fun r u => r = (-2) ∧ u.1 = n ∧ u.2 = E) := by
  refine gI_of (by decide) (Nat.le_of_ble_eq_true rfl) ?_
  intro p e s m args below meth c S hr hlk hin hsz ls hl hG
  have hx := S.1
  have hb := S.2.1
  have hl : lv_has ls 3 [(0, .ref (b + 83)), (1, .int a1), (2, .int a2)] := hl
  refine lv_aload_n hx hb dX12_takes_0 rfl (lv_at hl 0 rfl) ?_
  refine lv_iload_n hx hb dX12_takes_1 rfl (lv_at hl 1 rfl) ?_
  refine lv_iload_n hx hb dX12_takes_2 rfl (lv_at hl 2 rfl) ?_
  refine g_vi (As := [.int a1, .int a2]) (rest := []) S hG (by omega) (qX12_isTerm l hn h83 h84 a1 a2) wV_12_344 h83 cpX12 (by omega) dX12_takes_3 rfl hl.1 (ar := 2) (by decide +kernel) rfl ⟨Nat.le_of_ble_eq_true rfl, Nat.le_of_ble_eq_true rfl, Nat.le_of_ble_eq_true rfl, Nat.le_of_ble_eq_true rfl⟩ (Nat.le_of_ble_eq_true rfl) (fun r_3 u_E_1 H locs hp_2 hG => ?_)
  obtain ⟨n_E_1, E_1⟩ := u_E_1
  dsimp only at hp_2 hG
  obtain ⟨rfl, nhp_2, ehp_2⟩ := hp_2
  have hG := gW_eq2 hG nhp_2 ehp_2
  refine lv_if_ne (tgt := 12) hx hb dX12_takes_6 (by decide) (fun c_4 => absurd c_4 (by decide)) (fun c_4 => ?_)
  refine lv_bipush (v := (-2)) hx hb dX12_takes_9 (by decide) ?_
  exact g_iret S hr hlk hG (by omega) dX12_takes_11 ⟨Nat.le_of_ble_eq_true rfl, Nat.le_of_ble_eq_true rfl⟩ ⟨rfl, rfl, rfl⟩
set_option maxHeartbeats 4000000 in
set_option maxRecDepth 100000 in
theorem qX12_undo (l : Launch) {D : va_G} {cy : Nat → ClassId} {b n : Nat} (hn : 105 ≤ n) {E : Nat → va_E} (h83 : E 83 = Z83 b cy) (h84 : E 84 = Z84 b cy)   : gI l yX12_undo cX12_undo 1 (some .int) 0 0 0 D cy b n E [.ref (b + 83)] (fun r u => r = (-2) ∧ u.1 = n ∧ u.2 = E) := by
  refine gI_of (by decide) (Nat.le_of_ble_eq_true rfl) ?_
  intro p e s m args below meth c S hr hlk hin hsz ls hl hG
  have hx := S.1
  have hb := S.2.1
  have hl : lv_has ls 1 [(0, .ref (b + 83))] := hl
  refine lv_aload_n hx hb dX12_undo_0 rfl (lv_at hl 0 rfl) ?_
  refine g_get S hG 83 0 h83 cpX12 wm_1674 dX12_undo_1 rfl (by omega) (by decide) ?_
  refine lv_iconst (v := 3) hx hb dX12_undo_4 (by decide) ?_
  refine g_iald S hG 84 h84 (by omega) dX12_undo_5 (by unfold vp_in; decide) ?_
  refine lv_topi (fun x_1 ex_1 => ?_)
  obtain rfl : x_1 = 0 := ex_1.trans (by decide)
  refine lv_if_ne (tgt := 12) hx hb dX12_undo_6 (by decide) (fun c_2 => absurd c_2 (by decide)) (fun c_2 => ?_)
  refine lv_bipush (v := (-2)) hx hb dX12_undo_9 (by decide) ?_
  exact g_iret S hr hlk hG (by omega) dX12_undo_11 ⟨Nat.le_of_ble_eq_true rfl, Nat.le_of_ble_eq_true rfl⟩ ⟨rfl, rfl, rfl⟩
set_option maxHeartbeats 4000000 in
set_option maxRecDepth 100000 in
theorem qX12_anew (l : Launch) {D : va_G} {cy : Nat → ClassId} {b n : Nat} (hn : 105 ≤ n) {E : Nat → va_E} (h83 : E 83 = Z83 b cy) (h84 : E 84 = Z84 b cy)   : gI l yX12_anew cX12_anew 2 (some .int) 0 0 0 D cy b n E [.ref (b + 83)] (fun r u => r = (-2) ∧ u.1 = n ∧ u.2 = E) := by
  refine gI_of (by decide) (Nat.le_of_ble_eq_true rfl) ?_
  intro p e s m args below meth c S hr hlk hin hsz ls hl hG
  have hx := S.1
  have hb := S.2.1
  have hl : lv_has ls 2 [(0, .ref (b + 83))] := hl
  refine lv_aload_n hx hb dX12_anew_0 rfl (lv_at hl 0 rfl) ?_
  refine g_get S hG 83 0 h83 cpX12 wm_1674 dX12_anew_1 rfl (by omega) (by decide) ?_
  refine lv_iconst (v := 3) hx hb dX12_anew_4 (by decide) ?_
  refine g_iald S hG 84 h84 (by omega) dX12_anew_5 (by unfold vp_in; decide) ?_
  refine lv_topi (fun x_1 ex_1 => ?_)
  obtain rfl : x_1 = 0 := ex_1.trans (by decide)
  refine lv_if_ne (tgt := 12) hx hb dX12_anew_6 (by decide) (fun c_2 => absurd c_2 (by decide)) (fun c_2 => ?_)
  refine lv_bipush (v := (-2)) hx hb dX12_anew_9 (by decide) ?_
  exact g_iret S hr hlk hG (by omega) dX12_anew_11 ⟨Nat.le_of_ble_eq_true rfl, Nat.le_of_ble_eq_true rfl⟩ ⟨rfl, rfl, rfl⟩
set_option maxHeartbeats 4000000 in
set_option maxRecDepth 100000 in
theorem qX12_dealt (l : Launch) {D : va_G} {cy : Nat → ClassId} {b n : Nat} (hn : 105 ≤ n) {E : Nat → va_E} (h83 : E 83 = Z83 b cy)   : gI l yX12_dealt cX12_dealt 3 (some .int) 0 0 0 D cy b n E [.ref (b + 83)] (fun r u => r = (-1) ∧ u.1 = n ∧ u.2 = E) := by
  refine gI_of (by decide) (Nat.le_of_ble_eq_true rfl) ?_
  intro p e s m args below meth c S hr hlk hin hsz ls hl hG
  have hx := S.1
  have hb := S.2.1
  have hl : lv_has ls 3 [(0, .ref (b + 83))] := hl
  refine lv_aload_n hx hb dX12_dealt_0 rfl (lv_at hl 0 rfl) ?_
  refine g_get S hG 83 45 h83 cpX12 wm_1719 dX12_dealt_1 rfl (by omega) (by decide) ?_
  refine lv_if_eq (tgt := 14) hx hb dX12_dealt_4 (by decide) (fun c_1 => ?_) (fun c_1 => absurd c_1 (by decide))
  refine lv_iconst (v := (-1)) hx hb dX12_dealt_14 (by decide) ?_
  exact g_iret S hr hlk hG (by omega) dX12_dealt_15 ⟨Nat.le_of_ble_eq_true rfl, Nat.le_of_ble_eq_true rfl⟩ ⟨rfl, rfl, rfl⟩
set_option maxHeartbeats 4000000 in
set_option maxRecDepth 100000 in
theorem qX12_left (l : Launch) {D : va_G} {cy : Nat → ClassId} {b n : Nat} (hn : 105 ≤ n) {E : Nat → va_E} (h83 : E 83 = Z83 b cy)   : gI l yX12_left cX12_left 1 (some .int) 0 0 0 D cy b n E [.ref (b + 83)] (fun r u => r = 0 ∧ u.1 = n ∧ u.2 = E) := by
  refine gI_of (by decide) (Nat.le_of_ble_eq_true rfl) ?_
  intro p e s m args below meth c S hr hlk hin hsz ls hl hG
  have hx := S.1
  have hb := S.2.1
  have hl : lv_has ls 1 [(0, .ref (b + 83))] := hl
  refine lv_aload_n hx hb dX12_left_0 rfl (lv_at hl 0 rfl) ?_
  refine g_get S hG 83 45 h83 cpX12 wm_1719 dX12_left_1 rfl (by omega) (by decide) ?_
  refine lv_if_eq (tgt := 14) hx hb dX12_left_4 (by decide) (fun c_1 => ?_) (fun c_1 => absurd c_1 (by decide))
  refine lv_iconst (v := 0) hx hb dX12_left_14 (by decide) ?_
  exact g_iret S hr hlk hG (by omega) dX12_left_15 ⟨Nat.le_of_ble_eq_true rfl, Nat.le_of_ble_eq_true rfl⟩ ⟨rfl, rfl, rfl⟩
end
section
theorem dX11_fault_0 : decode cX11_fault 0 = .ok (.iload_n 1, 1) := by decide +kernel
theorem dX11_fault_1 : decode cX11_fault 1 = .ok (.ifCond .ne 8, 3) := by decide +kernel
theorem dX11_fault_9 : decode cX11_fault 9 = .ok (.iload_n 1, 1) := by decide +kernel
theorem dX11_fault_10 : decode cX11_fault 10 = .ok (.iconst 1, 1) := by decide +kernel
theorem dX11_fault_11 : decode cX11_fault 11 = .ok (.if_icmp .ne 10, 3) := by decide +kernel
theorem dX11_fault_21 : decode cX11_fault 21 = .ok (.iconst (-1), 1) := by decide +kernel
theorem dX11_fault_22 : decode cX11_fault 22 = .ok (.ireturn, 1) := by decide +kernel
theorem dX11_fault_14 : decode cX11_fault 14 = .ok (.aload_n 0, 1) := by decide +kernel
theorem dX11_fault_15 : decode cX11_fault 15 = .ok (.getfield 36, 3) := by decide +kernel
theorem dX11_fault_18 : decode cX11_fault 18 = .ok (.goto 4, 3) := by decide +kernel
theorem dX11_fault_4 : decode cX11_fault 4 = .ok (.aload_n 0, 1) := by decide +kernel
theorem dX11_fault_5 : decode cX11_fault 5 = .ok (.getfield 33, 3) := by decide +kernel
theorem dX11_fault_8 : decode cX11_fault 8 = .ok (.ireturn, 1) := by decide +kernel
theorem dX12_fault_0 : decode cX12_fault 0 = .ok (.iload_n 1, 1) := by decide +kernel
theorem dX12_fault_1 : decode cX12_fault 1 = .ok (.ifCond .ne 10, 3) := by decide +kernel
theorem dX12_fault_11 : decode cX12_fault 11 = .ok (.iload_n 1, 1) := by decide +kernel
theorem dX12_fault_12 : decode cX12_fault 12 = .ok (.iconst 1, 1) := by decide +kernel
theorem dX12_fault_13 : decode cX12_fault 13 = .ok (.if_icmp .ne 10, 3) := by decide +kernel
theorem dX12_fault_23 : decode cX12_fault 23 = .ok (.iconst (-1), 1) := by decide +kernel
theorem dX12_fault_24 : decode cX12_fault 24 = .ok (.ireturn, 1) := by decide +kernel
theorem dX12_fault_16 : decode cX12_fault 16 = .ok (.aload_n 0, 1) := by decide +kernel
theorem dX12_fault_17 : decode cX12_fault 17 = .ok (.getfield 25, 3) := by decide +kernel
theorem dX12_fault_20 : decode cX12_fault 20 = .ok (.goto 4, 3) := by decide +kernel
theorem dX12_fault_4 : decode cX12_fault 4 = .ok (.aload_n 0, 1) := by decide +kernel
theorem dX12_fault_5 : decode cX12_fault 5 = .ok (.getfield 124, 3) := by decide +kernel
theorem wm_1678 : (Jvm.Cond.fieldLink "GrownKindsModel" (124 : Nat) "GrownKindsModel" "faultKind" "I") ∈ gT := gT_in (List.mem_of_getElem? (i := 1678) (by decide +kernel)) (by decide +kernel)
theorem dX12_fault_8 : decode cX12_fault 8 = .ok (.goto 16, 3) := by decide +kernel
theorem dX11_told_0 : decode cX11_told 0 = .ok (.iload_n 1, 1) := by decide +kernel
theorem dX11_told_1 : decode cX11_told 1 = .ok (.ifCond .ne 8, 3) := by decide +kernel
theorem dX11_told_9 : decode cX11_told 9 = .ok (.iload_n 1, 1) := by decide +kernel
theorem dX11_told_10 : decode cX11_told 10 = .ok (.iconst 1, 1) := by decide +kernel
theorem dX11_told_11 : decode cX11_told 11 = .ok (.if_icmp .ne 10, 3) := by decide +kernel
theorem dX11_told_21 : decode cX11_told 21 = .ok (.iconst (-1), 1) := by decide +kernel
theorem dX11_told_22 : decode cX11_told 22 = .ok (.ireturn, 1) := by decide +kernel
theorem dX11_told_14 : decode cX11_told 14 = .ok (.aload_n 0, 1) := by decide +kernel
theorem dX11_told_15 : decode cX11_told 15 = .ok (.getfield 117, 3) := by decide +kernel
theorem dX11_told_18 : decode cX11_told 18 = .ok (.goto 4, 3) := by decide +kernel
theorem dX11_told_4 : decode cX11_told 4 = .ok (.aload_n 0, 1) := by decide +kernel
theorem dX11_told_5 : decode cX11_told 5 = .ok (.getfield 114, 3) := by decide +kernel
theorem dX11_told_8 : decode cX11_told 8 = .ok (.ireturn, 1) := by decide +kernel
theorem dX12_told_0 : decode cX12_told 0 = .ok (.iload_n 1, 1) := by decide +kernel
theorem dX12_told_1 : decode cX12_told 1 = .ok (.ifCond .ne 10, 3) := by decide +kernel
theorem dX12_told_11 : decode cX12_told 11 = .ok (.iload_n 1, 1) := by decide +kernel
theorem dX12_told_12 : decode cX12_told 12 = .ok (.iconst 1, 1) := by decide +kernel
theorem dX12_told_13 : decode cX12_told 13 = .ok (.if_icmp .ne 10, 3) := by decide +kernel
theorem dX12_told_23 : decode cX12_told 23 = .ok (.iconst (-1), 1) := by decide +kernel
theorem dX12_told_24 : decode cX12_told 24 = .ok (.ireturn, 1) := by decide +kernel
theorem dX12_told_16 : decode cX12_told 16 = .ok (.aload_n 0, 1) := by decide +kernel
theorem dX12_told_17 : decode cX12_told 17 = .ok (.getfield 88, 3) := by decide +kernel
theorem dX12_told_20 : decode cX12_told 20 = .ok (.goto 4, 3) := by decide +kernel
theorem dX12_told_4 : decode cX12_told 4 = .ok (.aload_n 0, 1) := by decide +kernel
theorem dX12_told_5 : decode cX12_told 5 = .ok (.getfield 85, 3) := by decide +kernel
theorem dX12_told_8 : decode cX12_told 8 = .ok (.goto 16, 3) := by decide +kernel
theorem dX11_count_0 : decode cX11_count 0 = .ok (.iload_n 1, 1) := by decide +kernel
theorem dX11_count_1 : decode cX11_count 1 = .ok (.tableswitch 81 0 5 #[39, 47, 55, 63, 71, 76], 39) := by decide +kernel
theorem dX11_count_82 : decode cX11_count 82 = .ok (.iconst (-1), 1) := by decide +kernel
theorem dX11_count_83 : decode cX11_count 83 = .ok (.ireturn, 1) := by decide +kernel
theorem dX11_count_40 : decode cX11_count 40 = .ok (.aload_n 0, 1) := by decide +kernel
theorem dX11_count_41 : decode cX11_count 41 = .ok (.getfield 20, 3) := by decide +kernel
theorem dX11_count_44 : decode cX11_count 44 = .ok (.getfield 156, 3) := by decide +kernel
theorem dX11_count_47 : decode cX11_count 47 = .ok (.ireturn, 1) := by decide +kernel
theorem dX11_count_48 : decode cX11_count 48 = .ok (.aload_n 0, 1) := by decide +kernel
theorem dX11_count_49 : decode cX11_count 49 = .ok (.getfield 20, 3) := by decide +kernel
theorem dX11_count_52 : decode cX11_count 52 = .ok (.getfield 159, 3) := by decide +kernel
theorem wm_214 : (Jvm.Cond.fieldLink "GrownKinds" (159 : Nat) "GrownKinds$Grammar" "most" "I") ∈ gT := gT_in (List.mem_of_getElem? (i := 214) (by decide +kernel)) (by decide +kernel)
theorem dX11_count_55 : decode cX11_count 55 = .ok (.ireturn, 1) := by decide +kernel
theorem dX11_count_56 : decode cX11_count 56 = .ok (.aload_n 0, 1) := by decide +kernel
theorem dX11_count_57 : decode cX11_count 57 = .ok (.getfield 20, 3) := by decide +kernel
theorem dX11_count_60 : decode cX11_count 60 = .ok (.getfield 162, 3) := by decide +kernel
theorem wm_228 : (Jvm.Cond.fieldLink "GrownKinds" (162 : Nat) "GrownKinds$Grammar" "parts" "I") ∈ gT := gT_in (List.mem_of_getElem? (i := 228) (by decide +kernel)) (by decide +kernel)
theorem dX11_count_63 : decode cX11_count 63 = .ok (.ireturn, 1) := by decide +kernel
theorem dX11_count_64 : decode cX11_count 64 = .ok (.aload_n 0, 1) := by decide +kernel
theorem dX11_count_65 : decode cX11_count 65 = .ok (.getfield 20, 3) := by decide +kernel
theorem dX11_count_68 : decode cX11_count 68 = .ok (.getfield 165, 3) := by decide +kernel
theorem dX11_count_71 : decode cX11_count 71 = .ok (.ireturn, 1) := by decide +kernel
theorem dX11_count_72 : decode cX11_count 72 = .ok (.aload_n 0, 1) := by decide +kernel
theorem dX11_count_73 : decode cX11_count 73 = .ok (.getfield 108, 3) := by decide +kernel
theorem dX11_count_76 : decode cX11_count 76 = .ok (.ireturn, 1) := by decide +kernel
theorem dX11_count_77 : decode cX11_count 77 = .ok (.aload_n 0, 1) := by decide +kernel
theorem dX11_count_78 : decode cX11_count 78 = .ok (.getfield 13, 3) := by decide +kernel
theorem dX11_count_81 : decode cX11_count 81 = .ok (.ireturn, 1) := by decide +kernel
theorem dX12_count_0 : decode cX12_count 0 = .ok (.iload_n 1, 1) := by decide +kernel
theorem dX12_count_1 : decode cX12_count 1 = .ok (.tableswitch 79 0 5 #[39, 46, 53, 60, 67, 74], 39) := by decide +kernel
theorem dX12_count_80 : decode cX12_count 80 = .ok (.iconst (-1), 1) := by decide +kernel
theorem dX12_count_81 : decode cX12_count 81 = .ok (.ireturn, 1) := by decide +kernel
theorem dX12_count_40 : decode cX12_count 40 = .ok (.aload_n 0, 1) := by decide +kernel
theorem dX12_count_41 : decode cX12_count 41 = .ok (.getfield 15, 3) := by decide +kernel
theorem dX12_count_44 : decode cX12_count 44 = .ok (.iconst 0, 1) := by decide +kernel
theorem dX12_count_45 : decode cX12_count 45 = .ok (.iaload, 1) := by decide +kernel
theorem dX12_count_46 : decode cX12_count 46 = .ok (.ireturn, 1) := by decide +kernel
theorem dX12_count_47 : decode cX12_count 47 = .ok (.aload_n 0, 1) := by decide +kernel
theorem dX12_count_48 : decode cX12_count 48 = .ok (.getfield 15, 3) := by decide +kernel
theorem dX12_count_51 : decode cX12_count 51 = .ok (.iconst 1, 1) := by decide +kernel
theorem dX12_count_52 : decode cX12_count 52 = .ok (.iaload, 1) := by decide +kernel
theorem dX12_count_53 : decode cX12_count 53 = .ok (.ireturn, 1) := by decide +kernel
theorem dX12_count_54 : decode cX12_count 54 = .ok (.aload_n 0, 1) := by decide +kernel
theorem dX12_count_55 : decode cX12_count 55 = .ok (.getfield 15, 3) := by decide +kernel
theorem dX12_count_58 : decode cX12_count 58 = .ok (.iconst 2, 1) := by decide +kernel
theorem dX12_count_59 : decode cX12_count 59 = .ok (.iaload, 1) := by decide +kernel
theorem dX12_count_60 : decode cX12_count 60 = .ok (.ireturn, 1) := by decide +kernel
theorem dX12_count_61 : decode cX12_count 61 = .ok (.aload_n 0, 1) := by decide +kernel
theorem dX12_count_62 : decode cX12_count 62 = .ok (.getfield 15, 3) := by decide +kernel
theorem dX12_count_65 : decode cX12_count 65 = .ok (.iconst 3, 1) := by decide +kernel
theorem dX12_count_66 : decode cX12_count 66 = .ok (.iaload, 1) := by decide +kernel
theorem dX12_count_67 : decode cX12_count 67 = .ok (.ireturn, 1) := by decide +kernel
theorem dX12_count_68 : decode cX12_count 68 = .ok (.aload_n 0, 1) := by decide +kernel
theorem dX12_count_69 : decode cX12_count 69 = .ok (.getfield 15, 3) := by decide +kernel
theorem dX12_count_72 : decode cX12_count 72 = .ok (.iconst 4, 1) := by decide +kernel
theorem dX12_count_73 : decode cX12_count 73 = .ok (.iaload, 1) := by decide +kernel
theorem dX12_count_74 : decode cX12_count 74 = .ok (.ireturn, 1) := by decide +kernel
theorem dX12_count_75 : decode cX12_count 75 = .ok (.aload_n 0, 1) := by decide +kernel
theorem dX12_count_76 : decode cX12_count 76 = .ok (.getfield 94, 3) := by decide +kernel
theorem wm_1677 : (Jvm.Cond.fieldLink "GrownKindsModel" (94 : Nat) "GrownKindsModel" "taped" "I") ∈ gT := gT_in (List.mem_of_getElem? (i := 1677) (by decide +kernel)) (by decide +kernel)
theorem dX12_count_79 : decode cX12_count 79 = .ok (.ireturn, 1) := by decide +kernel
theorem dX11_end_0 : decode cX11_end 0 = .ok (.iload_n 1, 1) := by decide +kernel
theorem dX11_end_1 : decode cX11_end 1 = .ok (.ifCond .lt 11, 3) := by decide +kernel
theorem dX11_end_12 : decode cX11_end 12 = .ok (.iconst (-1), 1) := by decide +kernel
theorem dX11_end_13 : decode cX11_end 13 = .ok (.ireturn, 1) := by decide +kernel
theorem dX11_end_4 : decode cX11_end 4 = .ok (.iload_n 1, 1) := by decide +kernel
theorem dX11_end_5 : decode cX11_end 5 = .ok (.aload_n 0, 1) := by decide +kernel
theorem dX11_end_6 : decode cX11_end 6 = .ok (.getfield 13, 3) := by decide +kernel
theorem dX11_end_9 : decode cX11_end 9 = .ok (.if_icmp .le 5, 3) := by decide +kernel
theorem dX11_end_14 : decode cX11_end 14 = .ok (.aload_n 0, 1) := by decide +kernel
theorem dX11_end_15 : decode cX11_end 15 = .ok (.iload_n 1, 1) := by decide +kernel
theorem dX11_end_16 : decode cX11_end 16 = .ok (.putfield 13, 3) := by decide +kernel
theorem dX11_end_19 : decode cX11_end 19 = .ok (.iload_n 1, 1) := by decide +kernel
theorem dX11_end_20 : decode cX11_end 20 = .ok (.ireturn, 1) := by decide +kernel
theorem dX12_end_0 : decode cX12_end 0 = .ok (.iload_n 1, 1) := by decide +kernel
theorem dX12_end_1 : decode cX12_end 1 = .ok (.i2l, 1) := by decide +kernel
theorem dX12_end_2 : decode cX12_end 2 = .ok (.lconst 0, 1) := by decide +kernel
theorem dX12_end_3 : decode cX12_end 3 = .ok (.aload_n 0, 1) := by decide +kernel
theorem dX12_end_4 : decode cX12_end 4 = .ok (.getfield 94, 3) := by decide +kernel
theorem dX12_end_7 : decode cX12_end 7 = .ok (.i2l, 1) := by decide +kernel
theorem dX12_end_8 : decode cX12_end 8 = .ok (.invokestatic 97, 3) := by decide +kernel
theorem dX12_end_11 : decode cX12_end 11 = .ok (.ifCond .ne 5, 3) := by decide +kernel
theorem dX12_end_16 : decode cX12_end 16 = .ok (.aload_n 0, 1) := by decide +kernel
theorem dX12_end_17 : decode cX12_end 17 = .ok (.iload_n 1, 1) := by decide +kernel
theorem dX12_end_18 : decode cX12_end 18 = .ok (.putfield 94, 3) := by decide +kernel
theorem dX12_end_21 : decode cX12_end 21 = .ok (.iload_n 1, 1) := by decide +kernel
theorem dX12_end_22 : decode cX12_end 22 = .ok (.ireturn, 1) := by decide +kernel
theorem dX12_end_14 : decode cX12_end 14 = .ok (.iconst (-1), 1) := by decide +kernel
theorem dX12_end_15 : decode cX12_end 15 = .ok (.ireturn, 1) := by decide +kernel
set_option maxHeartbeats 4000000 in
set_option maxRecDepth 100000 in
theorem qX11_fault (l : Launch) {D : va_G} {cy : Nat → ClassId} {b n : Nat} (hn : 105 ≤ n) {E : Nat → va_E} (h0 : E 0 = Z0 b cy)  (a1 : Int32) : gI l yX11_fault cX11_fault 2 (some .int) 0 0 0 D cy b n E [.ref (b + 0), .int a1] (fun r u => r = (if a1 = 0 then 0 else -1) ∧ u.1 = n ∧ u.2 = E) := by
  refine gI_of (by decide) (Nat.le_of_ble_eq_true rfl) ?_
  intro p e s m args below meth c S hr hlk hin hsz ls hl hG
  have hx := S.1
  have hb := S.2.1
  have hl : lv_has ls 2 [(0, .ref (b + 0)), (1, .int a1)] := hl
  refine lv_iload_n hx hb dX11_fault_0 rfl (lv_at hl 1 rfl) ?_
  refine lv_if_ne (tgt := 9) hx hb dX11_fault_1 (by decide) (fun c_1 => ?_) (fun c_1 => ?_)
  · refine lv_iload_n hx hb dX11_fault_9 rfl (lv_at hl 1 rfl) ?_
    refine lv_iconst (v := 1) hx hb dX11_fault_10 (by decide) ?_
    refine lv_icmp_ne (tgt := 21) hx hb dX11_fault_11 (by decide) (fun c_2 => ?_) (fun c_2 => ?_)
    · refine lv_iconst (v := (-1)) hx hb dX11_fault_21 (by decide) ?_
      exact g_iret S hr hlk hG (by omega) dX11_fault_22 ⟨Nat.le_of_ble_eq_true rfl, Nat.le_of_ble_eq_true rfl⟩ ⟨by first | rw [if_pos (Decidable.not_not.mp (by assumption))] | rw [if_pos (by assumption)] | rw [if_neg (by assumption)], rfl, rfl⟩
    · refine lv_aload_n hx hb dX11_fault_14 rfl (lv_at hl 0 rfl) ?_
      refine g_get S hG 0 5 h0 cpX11 wm_671 dX11_fault_15 rfl (by omega) (by decide) ?_
      refine lv_goto (tgt := 22) hx hb dX11_fault_18 (by decide) ?_
      exact g_iret S hr hlk hG (by omega) dX11_fault_22 ⟨Nat.le_of_ble_eq_true rfl, Nat.le_of_ble_eq_true rfl⟩ ⟨by first | rw [if_pos (Decidable.not_not.mp (by assumption))] | rw [if_pos (by assumption)] | rw [if_neg (by assumption)], rfl, rfl⟩
  · refine lv_aload_n hx hb dX11_fault_4 rfl (lv_at hl 0 rfl) ?_
    refine g_get S hG 0 4 h0 cpX11 wm_670 dX11_fault_5 rfl (by omega) (by decide) ?_
    exact g_iret S hr hlk hG (by omega) dX11_fault_8 ⟨Nat.le_of_ble_eq_true rfl, Nat.le_of_ble_eq_true rfl⟩ ⟨by first | rw [if_pos (Decidable.not_not.mp (by assumption))] | rw [if_pos (by assumption)] | rw [if_neg (by assumption)], rfl, rfl⟩
set_option maxHeartbeats 4000000 in
set_option maxRecDepth 100000 in
theorem qX12_fault (l : Launch) {D : va_G} {cy : Nat → ClassId} {b n : Nat} (hn : 105 ≤ n) {E : Nat → va_E} (h83 : E 83 = Z83 b cy)  (a1 : Int32) : gI l yX12_fault cX12_fault 2 (some .int) 0 0 0 D cy b n E [.ref (b + 83), .int a1] (fun r u => r = (if a1 = 0 then 0 else -1) ∧ u.1 = n ∧ u.2 = E) := by
  refine gI_of (by decide) (Nat.le_of_ble_eq_true rfl) ?_
  intro p e s m args below meth c S hr hlk hin hsz ls hl hG
  have hx := S.1
  have hb := S.2.1
  have hl : lv_has ls 2 [(0, .ref (b + 83)), (1, .int a1)] := hl
  refine lv_iload_n hx hb dX12_fault_0 rfl (lv_at hl 1 rfl) ?_
  refine lv_if_ne (tgt := 11) hx hb dX12_fault_1 (by decide) (fun c_1 => ?_) (fun c_1 => ?_)
  · refine lv_iload_n hx hb dX12_fault_11 rfl (lv_at hl 1 rfl) ?_
    refine lv_iconst (v := 1) hx hb dX12_fault_12 (by decide) ?_
    refine lv_icmp_ne (tgt := 23) hx hb dX12_fault_13 (by decide) (fun c_2 => ?_) (fun c_2 => ?_)
    · refine lv_iconst (v := (-1)) hx hb dX12_fault_23 (by decide) ?_
      exact g_iret S hr hlk hG (by omega) dX12_fault_24 ⟨Nat.le_of_ble_eq_true rfl, Nat.le_of_ble_eq_true rfl⟩ ⟨by first | rw [if_pos (Decidable.not_not.mp (by assumption))] | rw [if_pos (by assumption)] | rw [if_neg (by assumption)], rfl, rfl⟩
    · refine lv_aload_n hx hb dX12_fault_16 rfl (lv_at hl 0 rfl) ?_
      refine g_get S hG 83 5 h83 cpX12 wm_1679 dX12_fault_17 rfl (by omega) (by decide) ?_
      refine lv_goto (tgt := 24) hx hb dX12_fault_20 (by decide) ?_
      exact g_iret S hr hlk hG (by omega) dX12_fault_24 ⟨Nat.le_of_ble_eq_true rfl, Nat.le_of_ble_eq_true rfl⟩ ⟨by first | rw [if_pos (Decidable.not_not.mp (by assumption))] | rw [if_pos (by assumption)] | rw [if_neg (by assumption)], rfl, rfl⟩
  · refine lv_aload_n hx hb dX12_fault_4 rfl (lv_at hl 0 rfl) ?_
    refine g_get S hG 83 4 h83 cpX12 wm_1678 dX12_fault_5 rfl (by omega) (by decide) ?_
    refine lv_goto (tgt := 24) hx hb dX12_fault_8 (by decide) ?_
    exact g_iret S hr hlk hG (by omega) dX12_fault_24 ⟨Nat.le_of_ble_eq_true rfl, Nat.le_of_ble_eq_true rfl⟩ ⟨by first | rw [if_pos (Decidable.not_not.mp (by assumption))] | rw [if_pos (by assumption)] | rw [if_neg (by assumption)], rfl, rfl⟩
set_option maxHeartbeats 4000000 in
set_option maxRecDepth 100000 in
theorem qX11_told (l : Launch) {D : va_G} {cy : Nat → ClassId} {b n : Nat} (hn : 105 ≤ n) {E : Nat → va_E} (h0 : E 0 = Z0 b cy)  (a1 : Int32) : gI l yX11_told cX11_told 2 (some .int) 0 0 0 D cy b n E [.ref (b + 0), .int a1] (fun r u => r = (-1) ∧ u.1 = n ∧ u.2 = E) := by
  refine gI_of (by decide) (Nat.le_of_ble_eq_true rfl) ?_
  intro p e s m args below meth c S hr hlk hin hsz ls hl hG
  have hx := S.1
  have hb := S.2.1
  have hl : lv_has ls 2 [(0, .ref (b + 0)), (1, .int a1)] := hl
  refine lv_iload_n hx hb dX11_told_0 rfl (lv_at hl 1 rfl) ?_
  refine lv_if_ne (tgt := 9) hx hb dX11_told_1 (by decide) (fun c_1 => ?_) (fun c_1 => ?_)
  · refine lv_iload_n hx hb dX11_told_9 rfl (lv_at hl 1 rfl) ?_
    refine lv_iconst (v := 1) hx hb dX11_told_10 (by decide) ?_
    refine lv_icmp_ne (tgt := 21) hx hb dX11_told_11 (by decide) (fun c_2 => ?_) (fun c_2 => ?_)
    · refine lv_iconst (v := (-1)) hx hb dX11_told_21 (by decide) ?_
      exact g_iret S hr hlk hG (by omega) dX11_told_22 ⟨Nat.le_of_ble_eq_true rfl, Nat.le_of_ble_eq_true rfl⟩ ⟨rfl, rfl, rfl⟩
    · refine lv_aload_n hx hb dX11_told_14 rfl (lv_at hl 0 rfl) ?_
      refine g_get S hG 0 18 h0 cpX11 wm_684 dX11_told_15 rfl (by omega) (by decide) ?_
      refine lv_goto (tgt := 22) hx hb dX11_told_18 (by decide) ?_
      exact g_iret S hr hlk hG (by omega) dX11_told_22 ⟨Nat.le_of_ble_eq_true rfl, Nat.le_of_ble_eq_true rfl⟩ ⟨rfl, rfl, rfl⟩
  · refine lv_aload_n hx hb dX11_told_4 rfl (lv_at hl 0 rfl) ?_
    refine g_get S hG 0 17 h0 cpX11 wm_683 dX11_told_5 rfl (by omega) (by decide) ?_
    exact g_iret S hr hlk hG (by omega) dX11_told_8 ⟨Nat.le_of_ble_eq_true rfl, Nat.le_of_ble_eq_true rfl⟩ ⟨rfl, rfl, rfl⟩
set_option maxHeartbeats 4000000 in
set_option maxRecDepth 100000 in
theorem qX12_told (l : Launch) {D : va_G} {cy : Nat → ClassId} {b n : Nat} (hn : 105 ≤ n) {E : Nat → va_E} (h83 : E 83 = Z83 b cy)  (a1 : Int32) : gI l yX12_told cX12_told 2 (some .int) 0 0 0 D cy b n E [.ref (b + 83), .int a1] (fun r u => r = (-1) ∧ u.1 = n ∧ u.2 = E) := by
  refine gI_of (by decide) (Nat.le_of_ble_eq_true rfl) ?_
  intro p e s m args below meth c S hr hlk hin hsz ls hl hG
  have hx := S.1
  have hb := S.2.1
  have hl : lv_has ls 2 [(0, .ref (b + 83)), (1, .int a1)] := hl
  refine lv_iload_n hx hb dX12_told_0 rfl (lv_at hl 1 rfl) ?_
  refine lv_if_ne (tgt := 11) hx hb dX12_told_1 (by decide) (fun c_1 => ?_) (fun c_1 => ?_)
  · refine lv_iload_n hx hb dX12_told_11 rfl (lv_at hl 1 rfl) ?_
    refine lv_iconst (v := 1) hx hb dX12_told_12 (by decide) ?_
    refine lv_icmp_ne (tgt := 23) hx hb dX12_told_13 (by decide) (fun c_2 => ?_) (fun c_2 => ?_)
    · refine lv_iconst (v := (-1)) hx hb dX12_told_23 (by decide) ?_
      exact g_iret S hr hlk hG (by omega) dX12_told_24 ⟨Nat.le_of_ble_eq_true rfl, Nat.le_of_ble_eq_true rfl⟩ ⟨rfl, rfl, rfl⟩
    · refine lv_aload_n hx hb dX12_told_16 rfl (lv_at hl 0 rfl) ?_
      refine g_get S hG 83 43 h83 cpX12 wm_1717 dX12_told_17 rfl (by omega) (by decide) ?_
      refine lv_goto (tgt := 24) hx hb dX12_told_20 (by decide) ?_
      exact g_iret S hr hlk hG (by omega) dX12_told_24 ⟨Nat.le_of_ble_eq_true rfl, Nat.le_of_ble_eq_true rfl⟩ ⟨rfl, rfl, rfl⟩
  · refine lv_aload_n hx hb dX12_told_4 rfl (lv_at hl 0 rfl) ?_
    refine g_get S hG 83 42 h83 cpX12 wm_1716 dX12_told_5 rfl (by omega) (by decide) ?_
    refine lv_goto (tgt := 24) hx hb dX12_told_8 (by decide) ?_
    exact g_iret S hr hlk hG (by omega) dX12_told_24 ⟨Nat.le_of_ble_eq_true rfl, Nat.le_of_ble_eq_true rfl⟩ ⟨rfl, rfl, rfl⟩
set_option maxHeartbeats 4000000 in
set_option maxRecDepth 100000 in
theorem qX11_count (l : Launch) {D : va_G} {cy : Nat → ClassId} {b n : Nat} (hn : 105 ≤ n) {E : Nat → va_E} (h0 : E 0 = Z0 b cy) (h2 : E 2 = Z2 b cy)  (a1 : Int32) : gI l yX11_count cX11_count 2 (some .int) 0 0 0 D cy b n E [.ref (b + 0), .int a1] (fun r u => r = (if 0 ≤ a1.toInt ∧ a1.toInt ≤ 5 then 0 else -1) ∧ u.1 = n ∧ u.2 = E) := by
  refine gI_of (by decide) (Nat.le_of_ble_eq_true rfl) ?_
  intro p e s m args below meth c S hr hlk hin hsz ls hl hG
  have hx := S.1
  have hb := S.2.1
  have hl : lv_has ls 2 [(0, .ref (b + 0)), (1, .int a1)] := hl
  refine lv_iload_n hx hb dX11_count_0 rfl (lv_at hl 1 rfl) ?_
  rcases (show a1.toInt < 0 ∨ 5 < a1.toInt ∨ a1.toInt = 0 ∨ a1.toInt = 1 ∨ a1.toInt = 2 ∨ a1.toInt = 3 ∨ a1.toInt = 4 ∨ a1.toInt = 5 by omega) with hs_1 | hs_1 | hs_1 | hs_1 | hs_1 | hs_1 | hs_1 | hs_1
  · refine lv_tableOut (tgt := 82) hx hb dX11_count_1 (Or.inl hs_1) (by decide) ?_
    refine lv_iconst (v := (-1)) hx hb dX11_count_82 (by decide) ?_
    exact g_iret S hr hlk hG (by omega) dX11_count_83 ⟨Nat.le_of_ble_eq_true rfl, Nat.le_of_ble_eq_true rfl⟩ ⟨by first | rw [if_pos (by omega)] | rw [if_neg (by omega)], rfl, rfl⟩
  · refine lv_tableOut (tgt := 82) hx hb dX11_count_1 (Or.inr hs_1) (by decide) ?_
    refine lv_iconst (v := (-1)) hx hb dX11_count_82 (by decide) ?_
    exact g_iret S hr hlk hG (by omega) dX11_count_83 ⟨Nat.le_of_ble_eq_true rfl, Nat.le_of_ble_eq_true rfl⟩ ⟨by first | rw [if_pos (by omega)] | rw [if_neg (by omega)], rfl, rfl⟩
  · refine lv_tableIn (off := 39) (tgt := 40) hx hb dX11_count_1 (by omega) (by omega) (by rw [hs_1]; rfl) (by decide) ?_
    refine lv_aload_n hx hb dX11_count_40 rfl (lv_at hl 0 rfl) ?_
    refine g_get S hG 0 2 h0 cpX11 wm_668 dX11_count_41 rfl (by omega) (by decide) ?_
    refine g_get S hG 2 1 h2 cpX2 wm_221 dX11_count_44 rfl (by omega) (by decide) ?_
    exact g_iret S hr hlk hG (by omega) dX11_count_47 ⟨Nat.le_of_ble_eq_true rfl, Nat.le_of_ble_eq_true rfl⟩ ⟨by first | rw [if_pos (by omega)] | rw [if_neg (by omega)], rfl, rfl⟩
  · refine lv_tableIn (off := 47) (tgt := 48) hx hb dX11_count_1 (by omega) (by omega) (by rw [hs_1]; rfl) (by decide) ?_
    refine lv_aload_n hx hb dX11_count_48 rfl (lv_at hl 0 rfl) ?_
    refine g_get S hG 0 2 h0 cpX11 wm_668 dX11_count_49 rfl (by omega) (by decide) ?_
    refine g_get S hG 2 0 h2 cpX2 wm_214 dX11_count_52 rfl (by omega) (by decide) ?_
    exact g_iret S hr hlk hG (by omega) dX11_count_55 ⟨Nat.le_of_ble_eq_true rfl, Nat.le_of_ble_eq_true rfl⟩ ⟨by first | rw [if_pos (by omega)] | rw [if_neg (by omega)], rfl, rfl⟩
  · refine lv_tableIn (off := 55) (tgt := 56) hx hb dX11_count_1 (by omega) (by omega) (by rw [hs_1]; rfl) (by decide) ?_
    refine lv_aload_n hx hb dX11_count_56 rfl (lv_at hl 0 rfl) ?_
    refine g_get S hG 0 2 h0 cpX11 wm_668 dX11_count_57 rfl (by omega) (by decide) ?_
    refine g_get S hG 2 3 h2 cpX2 wm_228 dX11_count_60 rfl (by omega) (by decide) ?_
    exact g_iret S hr hlk hG (by omega) dX11_count_63 ⟨Nat.le_of_ble_eq_true rfl, Nat.le_of_ble_eq_true rfl⟩ ⟨by first | rw [if_pos (by omega)] | rw [if_neg (by omega)], rfl, rfl⟩
  · refine lv_tableIn (off := 63) (tgt := 64) hx hb dX11_count_1 (by omega) (by omega) (by rw [hs_1]; rfl) (by decide) ?_
    refine lv_aload_n hx hb dX11_count_64 rfl (lv_at hl 0 rfl) ?_
    refine g_get S hG 0 2 h0 cpX11 wm_668 dX11_count_65 rfl (by omega) (by decide) ?_
    refine g_get S hG 2 2 h2 cpX2 wm_224 dX11_count_68 rfl (by omega) (by decide) ?_
    exact g_iret S hr hlk hG (by omega) dX11_count_71 ⟨Nat.le_of_ble_eq_true rfl, Nat.le_of_ble_eq_true rfl⟩ ⟨by first | rw [if_pos (by omega)] | rw [if_neg (by omega)], rfl, rfl⟩
  · refine lv_tableIn (off := 71) (tgt := 72) hx hb dX11_count_1 (by omega) (by omega) (by rw [hs_1]; rfl) (by decide) ?_
    refine lv_aload_n hx hb dX11_count_72 rfl (lv_at hl 0 rfl) ?_
    refine g_get S hG 0 15 h0 cpX11 wm_681 dX11_count_73 rfl (by omega) (by decide) ?_
    exact g_iret S hr hlk hG (by omega) dX11_count_76 ⟨Nat.le_of_ble_eq_true rfl, Nat.le_of_ble_eq_true rfl⟩ ⟨by first | rw [if_pos (by omega)] | rw [if_neg (by omega)], rfl, rfl⟩
  · refine lv_tableIn (off := 76) (tgt := 77) hx hb dX11_count_1 (by omega) (by omega) (by rw [hs_1]; rfl) (by decide) ?_
    refine lv_aload_n hx hb dX11_count_77 rfl (lv_at hl 0 rfl) ?_
    refine g_get S hG 0 1 h0 cpX11 wm_667 dX11_count_78 rfl (by omega) (by decide) ?_
    exact g_iret S hr hlk hG (by omega) dX11_count_81 ⟨Nat.le_of_ble_eq_true rfl, Nat.le_of_ble_eq_true rfl⟩ ⟨by first | rw [if_pos (by omega)] | rw [if_neg (by omega)], rfl, rfl⟩
set_option maxHeartbeats 4000000 in
set_option maxRecDepth 100000 in
theorem qX12_count (l : Launch) {D : va_G} {cy : Nat → ClassId} {b n : Nat} (hn : 105 ≤ n) {E : Nat → va_E} (h83 : E 83 = Z83 b cy) (h84 : E 84 = Z84 b cy)  (a1 : Int32) : gI l yX12_count cX12_count 2 (some .int) 0 0 0 D cy b n E [.ref (b + 83), .int a1] (fun r u => r = (if 0 ≤ a1.toInt ∧ a1.toInt ≤ 5 then 0 else -1) ∧ u.1 = n ∧ u.2 = E) := by
  refine gI_of (by decide) (Nat.le_of_ble_eq_true rfl) ?_
  intro p e s m args below meth c S hr hlk hin hsz ls hl hG
  have hx := S.1
  have hb := S.2.1
  have hl : lv_has ls 2 [(0, .ref (b + 83)), (1, .int a1)] := hl
  refine lv_iload_n hx hb dX12_count_0 rfl (lv_at hl 1 rfl) ?_
  rcases (show a1.toInt < 0 ∨ 5 < a1.toInt ∨ a1.toInt = 0 ∨ a1.toInt = 1 ∨ a1.toInt = 2 ∨ a1.toInt = 3 ∨ a1.toInt = 4 ∨ a1.toInt = 5 by omega) with hs_1 | hs_1 | hs_1 | hs_1 | hs_1 | hs_1 | hs_1 | hs_1
  · refine lv_tableOut (tgt := 80) hx hb dX12_count_1 (Or.inl hs_1) (by decide) ?_
    refine lv_iconst (v := (-1)) hx hb dX12_count_80 (by decide) ?_
    exact g_iret S hr hlk hG (by omega) dX12_count_81 ⟨Nat.le_of_ble_eq_true rfl, Nat.le_of_ble_eq_true rfl⟩ ⟨by first | rw [if_pos (by omega)] | rw [if_neg (by omega)], rfl, rfl⟩
  · refine lv_tableOut (tgt := 80) hx hb dX12_count_1 (Or.inr hs_1) (by decide) ?_
    refine lv_iconst (v := (-1)) hx hb dX12_count_80 (by decide) ?_
    exact g_iret S hr hlk hG (by omega) dX12_count_81 ⟨Nat.le_of_ble_eq_true rfl, Nat.le_of_ble_eq_true rfl⟩ ⟨by first | rw [if_pos (by omega)] | rw [if_neg (by omega)], rfl, rfl⟩
  · refine lv_tableIn (off := 39) (tgt := 40) hx hb dX12_count_1 (by omega) (by omega) (by rw [hs_1]; rfl) (by decide) ?_
    refine lv_aload_n hx hb dX12_count_40 rfl (lv_at hl 0 rfl) ?_
    refine g_get S hG 83 0 h83 cpX12 wm_1674 dX12_count_41 rfl (by omega) (by decide) ?_
    refine lv_iconst (v := 0) hx hb dX12_count_44 (by decide) ?_
    refine g_iald S hG 84 h84 (by omega) dX12_count_45 (by unfold vp_in; decide) ?_
    refine lv_topi (fun x_2 ex_2 => ?_)
    obtain rfl : x_2 = 0 := ex_2.trans (by decide)
    exact g_iret S hr hlk hG (by omega) dX12_count_46 ⟨Nat.le_of_ble_eq_true rfl, Nat.le_of_ble_eq_true rfl⟩ ⟨by first | rw [if_pos (by omega)] | rw [if_neg (by omega)], rfl, rfl⟩
  · refine lv_tableIn (off := 46) (tgt := 47) hx hb dX12_count_1 (by omega) (by omega) (by rw [hs_1]; rfl) (by decide) ?_
    refine lv_aload_n hx hb dX12_count_47 rfl (lv_at hl 0 rfl) ?_
    refine g_get S hG 83 0 h83 cpX12 wm_1674 dX12_count_48 rfl (by omega) (by decide) ?_
    refine lv_iconst (v := 1) hx hb dX12_count_51 (by decide) ?_
    refine g_iald S hG 84 h84 (by omega) dX12_count_52 (by unfold vp_in; decide) ?_
    refine lv_topi (fun x_3 ex_3 => ?_)
    obtain rfl : x_3 = 0 := ex_3.trans (by decide)
    exact g_iret S hr hlk hG (by omega) dX12_count_53 ⟨Nat.le_of_ble_eq_true rfl, Nat.le_of_ble_eq_true rfl⟩ ⟨by first | rw [if_pos (by omega)] | rw [if_neg (by omega)], rfl, rfl⟩
  · refine lv_tableIn (off := 53) (tgt := 54) hx hb dX12_count_1 (by omega) (by omega) (by rw [hs_1]; rfl) (by decide) ?_
    refine lv_aload_n hx hb dX12_count_54 rfl (lv_at hl 0 rfl) ?_
    refine g_get S hG 83 0 h83 cpX12 wm_1674 dX12_count_55 rfl (by omega) (by decide) ?_
    refine lv_iconst (v := 2) hx hb dX12_count_58 (by decide) ?_
    refine g_iald S hG 84 h84 (by omega) dX12_count_59 (by unfold vp_in; decide) ?_
    refine lv_topi (fun x_4 ex_4 => ?_)
    obtain rfl : x_4 = 0 := ex_4.trans (by decide)
    exact g_iret S hr hlk hG (by omega) dX12_count_60 ⟨Nat.le_of_ble_eq_true rfl, Nat.le_of_ble_eq_true rfl⟩ ⟨by first | rw [if_pos (by omega)] | rw [if_neg (by omega)], rfl, rfl⟩
  · refine lv_tableIn (off := 60) (tgt := 61) hx hb dX12_count_1 (by omega) (by omega) (by rw [hs_1]; rfl) (by decide) ?_
    refine lv_aload_n hx hb dX12_count_61 rfl (lv_at hl 0 rfl) ?_
    refine g_get S hG 83 0 h83 cpX12 wm_1674 dX12_count_62 rfl (by omega) (by decide) ?_
    refine lv_iconst (v := 3) hx hb dX12_count_65 (by decide) ?_
    refine g_iald S hG 84 h84 (by omega) dX12_count_66 (by unfold vp_in; decide) ?_
    refine lv_topi (fun x_5 ex_5 => ?_)
    obtain rfl : x_5 = 0 := ex_5.trans (by decide)
    exact g_iret S hr hlk hG (by omega) dX12_count_67 ⟨Nat.le_of_ble_eq_true rfl, Nat.le_of_ble_eq_true rfl⟩ ⟨by first | rw [if_pos (by omega)] | rw [if_neg (by omega)], rfl, rfl⟩
  · refine lv_tableIn (off := 67) (tgt := 68) hx hb dX12_count_1 (by omega) (by omega) (by rw [hs_1]; rfl) (by decide) ?_
    refine lv_aload_n hx hb dX12_count_68 rfl (lv_at hl 0 rfl) ?_
    refine g_get S hG 83 0 h83 cpX12 wm_1674 dX12_count_69 rfl (by omega) (by decide) ?_
    refine lv_iconst (v := 4) hx hb dX12_count_72 (by decide) ?_
    refine g_iald S hG 84 h84 (by omega) dX12_count_73 (by unfold vp_in; decide) ?_
    refine lv_topi (fun x_6 ex_6 => ?_)
    obtain rfl : x_6 = 0 := ex_6.trans (by decide)
    exact g_iret S hr hlk hG (by omega) dX12_count_74 ⟨Nat.le_of_ble_eq_true rfl, Nat.le_of_ble_eq_true rfl⟩ ⟨by first | rw [if_pos (by omega)] | rw [if_neg (by omega)], rfl, rfl⟩
  · refine lv_tableIn (off := 74) (tgt := 75) hx hb dX12_count_1 (by omega) (by omega) (by rw [hs_1]; rfl) (by decide) ?_
    refine lv_aload_n hx hb dX12_count_75 rfl (lv_at hl 0 rfl) ?_
    refine g_get S hG 83 3 h83 cpX12 wm_1677 dX12_count_76 rfl (by omega) (by decide) ?_
    exact g_iret S hr hlk hG (by omega) dX12_count_79 ⟨Nat.le_of_ble_eq_true rfl, Nat.le_of_ble_eq_true rfl⟩ ⟨by first | rw [if_pos (by omega)] | rw [if_neg (by omega)], rfl, rfl⟩
set_option maxHeartbeats 4000000 in
set_option maxRecDepth 100000 in
theorem qX11_end (l : Launch) {D : va_G} {cy : Nat → ClassId} {b n : Nat} (hn : 105 ≤ n) {E : Nat → va_E} (h0 : E 0 = Z0 b cy)  (a1 : Int32) : gI l yX11_end cX11_end 2 (some .int) 0 0 0 D cy b n E [.ref (b + 0), .int a1] (fun r _ => r = (if a1 = 0 then 0 else -1)) := by
  refine gI_of (by decide) (Nat.le_of_ble_eq_true rfl) ?_
  intro p e s m args below meth c S hr hlk hin hsz ls hl hG
  have hx := S.1
  have hb := S.2.1
  have hl : lv_has ls 2 [(0, .ref (b + 0)), (1, .int a1)] := hl
  refine lv_iload_n hx hb dX11_end_0 rfl (lv_at hl 1 rfl) ?_
  refine lv_if_lt (tgt := 12) hx hb dX11_end_1 (by decide) (fun c_1 => ?_) (fun c_1 => ?_)
  · refine lv_iconst (v := (-1)) hx hb dX11_end_12 (by decide) ?_
    exact g_iret S hr hlk hG (by omega) dX11_end_13 ⟨Nat.le_of_ble_eq_true rfl, Nat.le_of_ble_eq_true rfl⟩ (by rw [if_neg (fun h => by subst h; revert c_1; decide)])
  · refine lv_iload_n hx hb dX11_end_4 rfl (lv_at hl 1 rfl) ?_
    refine lv_aload_n hx hb dX11_end_5 rfl (lv_at hl 0 rfl) ?_
    refine g_get S hG 0 1 h0 cpX11 wm_667 dX11_end_6 rfl (by omega) (by decide) ?_
    refine lv_icmp_le (tgt := 14) hx hb dX11_end_9 (by decide) (fun c_2 => ?_) (fun c_2 => ?_)
    · refine lv_aload_n hx hb dX11_end_14 rfl (lv_at hl 0 rfl) ?_
      refine lv_iload_n hx hb dX11_end_15 rfl (lv_at hl 1 rfl) ?_
      refine g_put (fs' := [.ref (b + 1), .int a1, .ref (b + 2), .ref (b + 12), .int 0, .int (-1), .ref (b + 33), .ref (b + 40), .ref (b + 47), .ref (b + 60), .ref (b + 67), .ref (b + 73), .ref (b + 80), .ref (b + 81), .ref (b + 82), .int 0, .int 0, .int (-1), .int (-1)]) S hG 0 1 h0 cpX11 wm_667 dX11_end_16 rfl (by omega) (by decide) (Nat.le_of_ble_eq_true rfl) rfl rfl rfl (fun H locs hG => ?_)
      refine lv_iload_n hx hb dX11_end_19 rfl (lv_at hl 1 rfl) ?_
      exact g_iret S hr hlk hG (by omega) dX11_end_20 ⟨Nat.le_of_ble_eq_true rfl, Nat.le_of_ble_eq_true rfl⟩ (by have h0 : a1 = 0 := Int32.le_antisymm (by first | exact c_2 | exact Int32.not_lt.mp c_2) (Int32.not_lt.mp c_1); rw [h0]; rfl)
    · refine lv_iconst (v := (-1)) hx hb dX11_end_12 (by decide) ?_
      exact g_iret S hr hlk hG (by omega) dX11_end_13 ⟨Nat.le_of_ble_eq_true rfl, Nat.le_of_ble_eq_true rfl⟩ (by rw [if_neg (fun h => by subst h; revert c_1 c_2; decide)])
theorem i64_z {x : Int32} (h : (0 : Int64) ≤ x.toInt64 ∧ x.toInt64 ≤ (0 : Int32).toInt64) : x = 0 := by
  have h1 := Int64.le_iff_toInt_le.mp h.1
  have h2 := Int64.le_iff_toInt_le.mp h.2
  rw [Int32.toInt_toInt64] at h1 h2
  have h3 : (0 : Int64).toInt = 0 := by decide
  have h4 : ((0 : Int32).toInt64).toInt = 0 := by decide
  exact Int32.toInt_inj.mp (by show x.toInt = 0; omega)
set_option maxHeartbeats 4000000 in
set_option maxRecDepth 100000 in
theorem qX12_end (l : Launch) {D : va_G} {cy : Nat → ClassId} {b n : Nat} (hn : 105 ≤ n) {E : Nat → va_E} (h83 : E 83 = Z83 b cy)  (a1 : Int32) : gI l yX12_end cX12_end 2 (some .int) 1 0 0 D cy b n E [.ref (b + 83), .int a1] (fun r _ => r = (if a1 = 0 then 0 else -1)) := by
  refine gI_of (by decide) (Nat.le_of_ble_eq_true rfl) ?_
  intro p e s m args below meth c S hr hlk hin hsz ls hl hG
  have hx := S.1
  have hb := S.2.1
  have hl : lv_has ls 2 [(0, .ref (b + 83)), (1, .int a1)] := hl
  refine lv_iload_n hx hb dX12_end_0 rfl (lv_at hl 1 rfl) ?_
  refine lv_i2l hx hb dX12_end_1 rfl ?_
  refine lv_lconst (v := 0) hx hb dX12_end_2 (by decide) ?_
  refine lv_aload_n hx hb dX12_end_3 rfl (lv_at hl 0 rfl) ?_
  refine g_get S hG 83 3 h83 cpX12 wm_1677 dX12_end_4 rfl (by omega) (by decide) ?_
  refine lv_i2l (v := 0) hx hb dX12_end_7 (by decide) ?_
  refine g_si (As := [.long (Int32.toInt64 a1), .long 0, .long 0]) (rest := []) S hG (by omega) (qX12_in l hn  (Int32.toInt64 a1) 0 0) wS_12_97 dX12_end_8 rfl hl.1 (ar := 3) (by decide +kernel) rfl ⟨Nat.le_of_ble_eq_true rfl, Nat.le_of_ble_eq_true rfl, Nat.le_of_ble_eq_true rfl, Nat.le_of_ble_eq_true rfl⟩ (Nat.le_of_ble_eq_true rfl) (fun r_3 u_E_1 H locs hp_2 hG => ?_)
  obtain ⟨n_E_1, E_1⟩ := u_E_1
  dsimp only at hp_2 hG
  obtain ⟨hr_4, nhp_2, ehp_2⟩ := hp_2
  have hG := gW_eq2 hG nhp_2 ehp_2
  refine lv_if_ne (tgt := 16) hx hb dX12_end_11 (by decide) (fun c_5 => ?_) (fun c_5 => ?_)
  · refine lv_aload_n hx hb dX12_end_16 rfl (lv_at hl 0 rfl) ?_
    refine lv_iload_n hx hb dX12_end_17 rfl (lv_at hl 1 rfl) ?_
    refine g_put (fs' := [.ref (b + 84), .ref (b + 85), .ref (b + 86), .int a1, .int 0, .int (-1), .int 0, .int 0, .int 0, .int 0, .int 0, .ref (b + 87), .ref (b + 88), .ref (b + 89), .ref (b + 90), .ref (b + 91), .ref (b + 92), .ref (b + 93), .ref (b + 94), .ref (b + 95), .int 0, .int 0, .int 0, .int 0, .int 0, .int 0, .int 0, .int 0, .ref (b + 96), .ref (b + 97), .ref (b + 98), .int 0, .long 0, .ref (b + 99), .ref (b + 100), .ref (b + 101), .ref (b + 102), .ref (b + 103), .int 0, .ref (b + 104), .int 0, .int 0, .int (-1), .int (-1), .int 0, .int 0, .int 0, .int 0, .int 0, .int 0, .int 0, .int 0]) S hG 83 3 h83 cpX12 wm_1677 dX12_end_18 rfl (by omega) (by decide) (Nat.le_of_ble_eq_true rfl) rfl rfl rfl (fun H locs hG => ?_)
    refine lv_iload_n hx hb dX12_end_21 rfl (lv_at hl 1 rfl) ?_
    exact g_iret S hr hlk hG (by omega) dX12_end_22 ⟨Nat.le_of_ble_eq_true rfl, Nat.le_of_ble_eq_true rfl⟩ (by have h0 : a1 = 0 := i64_z (Decidable.byContradiction fun q => c_5 (hr_4.trans (if_neg q))); rw [h0]; rfl)
  · refine lv_iconst (v := (-1)) hx hb dX12_end_14 (by decide) ?_
    exact g_iret S hr hlk hG (by omega) dX12_end_15 ⟨Nat.le_of_ble_eq_true rfl, Nat.le_of_ble_eq_true rfl⟩ (by rw [if_neg (fun h => by subst h; rw [if_pos (by decide)] at hr_4; have q := c_5; rw [hr_4] at q; revert q; decide)])
end
section
theorem dJ7_fill_53178_5 : decode cJ7_fill_53178 5 = .ok (.iload_n 2, 1) := by decide +kernel
theorem dJ7_fill_53178_6 : decode cJ7_fill_53178 6 = .ok (.iload_n 3, 1) := by decide +kernel
theorem dJ7_fill_53178_7 : decode cJ7_fill_53178 7 = .ok (.if_icmp .ge 13, 3) := by decide +kernel
theorem dJ7_fill_53178_20 : decode cJ7_fill_53178 20 = .ok (.return_, 1) := by decide +kernel
theorem dJ7_fill_53178_10 : decode cJ7_fill_53178 10 = .ok (.aload_n 0, 1) := by decide +kernel
theorem dJ7_fill_53178_11 : decode cJ7_fill_53178 11 = .ok (.iload_n 2, 1) := by decide +kernel
theorem dJ7_fill_53178_12 : decode cJ7_fill_53178 12 = .ok (.iload_n 1, 1) := by decide +kernel
theorem dJ7_fill_53178_13 : decode cJ7_fill_53178 13 = .ok (.iastore, 1) := by decide +kernel
theorem dJ7_fill_53178_14 : decode cJ7_fill_53178 14 = .ok (.iinc 2 1, 3) := by decide +kernel
theorem dJ7_fill_53178_17 : decode cJ7_fill_53178 17 = .ok (.goto (-12), 3) := by decide +kernel
theorem dJ7_fill_53178_0 : decode cJ7_fill_53178 0 = .ok (.iconst 0, 1) := by decide +kernel
theorem dJ7_fill_53178_1 : decode cJ7_fill_53178 1 = .ok (.istore_n 2, 1) := by decide +kernel
theorem dJ7_fill_53178_2 : decode cJ7_fill_53178 2 = .ok (.aload_n 0, 1) := by decide +kernel
theorem dJ7_fill_53178_3 : decode cJ7_fill_53178 3 = .ok (.arraylength, 1) := by decide +kernel
theorem dJ7_fill_53178_4 : decode cJ7_fill_53178 4 = .ok (.istore_n 3, 1) := by decide +kernel
theorem dJ7_fill_49daa_5 : decode cJ7_fill_49daa 5 = .ok (.iload_n 2, 1) := by decide +kernel
theorem dJ7_fill_49daa_6 : decode cJ7_fill_49daa 6 = .ok (.iload_n 3, 1) := by decide +kernel
theorem dJ7_fill_49daa_7 : decode cJ7_fill_49daa 7 = .ok (.if_icmp .ge 13, 3) := by decide +kernel
theorem dJ7_fill_49daa_20 : decode cJ7_fill_49daa 20 = .ok (.return_, 1) := by decide +kernel
theorem dJ7_fill_49daa_10 : decode cJ7_fill_49daa 10 = .ok (.aload_n 0, 1) := by decide +kernel
theorem dJ7_fill_49daa_11 : decode cJ7_fill_49daa 11 = .ok (.iload_n 2, 1) := by decide +kernel
theorem dJ7_fill_49daa_12 : decode cJ7_fill_49daa 12 = .ok (.iload_n 1, 1) := by decide +kernel
theorem dJ7_fill_49daa_13 : decode cJ7_fill_49daa 13 = .ok (.bastore, 1) := by decide +kernel
theorem dJ7_fill_49daa_14 : decode cJ7_fill_49daa 14 = .ok (.iinc 2 1, 3) := by decide +kernel
theorem dJ7_fill_49daa_17 : decode cJ7_fill_49daa 17 = .ok (.goto (-12), 3) := by decide +kernel
theorem dJ7_fill_49daa_0 : decode cJ7_fill_49daa 0 = .ok (.iconst 0, 1) := by decide +kernel
theorem dJ7_fill_49daa_1 : decode cJ7_fill_49daa 1 = .ok (.istore_n 2, 1) := by decide +kernel
theorem dJ7_fill_49daa_2 : decode cJ7_fill_49daa 2 = .ok (.aload_n 0, 1) := by decide +kernel
theorem dJ7_fill_49daa_3 : decode cJ7_fill_49daa 3 = .ok (.arraylength, 1) := by decide +kernel
theorem dJ7_fill_49daa_4 : decode cJ7_fill_49daa 4 = .ok (.istore_n 3, 1) := by decide +kernel
set_option maxHeartbeats 4000000 in
set_option maxRecDepth 100000 in
theorem qJ7_fill_53178 (l : Launch) {D : va_G} {cy : Nat → ClassId} {b n j N : Nat} (hj : j < n) (hN : N < 2 ^ 31) {E : Nat → va_E} {f0 : Nat → Int32} (h : E j = .inl (cy 1, N, .inl f0)) (a2 : Int32) : gV l yJ7_fill_53178 cJ7_fill_53178 4 0 0 0 D cy b n E [.ref (b + j), .int a2] (fun u => u.1 = n ∧ u.2 = upE E j (.inl (cy 1, N, .inl (fun _ => a2)))) := by
  refine gV_of (by decide) (Nat.le_of_ble_eq_true rfl) ?_
  intro p e s m args below meth c S hr hlk hin hsz ls hl hG
  have hx := S.1
  have hb := S.2.1
  have hl : lv_has ls 4 [(0, .ref (b + j)), (1, .int a2)] := hl
  have loop : ∀ (t k : Nat) (f : Nat → Int32) (H : Heap) (locs : List Loc) (ls : Array Slot), k ≤ N → N + 1 ≤ k + t → (∀ i, i < k → f i = a2) → gW D cy b n s H locs (upE E j (.inl (cy 1, N, .inl f))) → lv_has ls 4 [(2, .int (nI k)), (3, .int (nI N)), (0, .ref (b + j)), (1, .int a2)] → W p l e (gRm 0 0 0) s m args below meth c H locs 0 0 (gQV D cy b s args below 0 0 (fun u => u.1 = n ∧ u.2 = upE E j (.inl (cy 1, N, .inl (fun _ => a2))))) (F0 m 5 ls []) := by
    intro t
    induction t with
    | zero => intro k f H locs ls h1 h2; exact absurd h2 (by omega)
    | succ t ih =>
      intro k f H locs ls hk ht hf hG hl
      refine lv_iload_n hx hb dJ7_fill_53178_5 rfl (lv_at hl 0 rfl) ?_
      refine lv_iload_n hx hb dJ7_fill_53178_6 rfl (lv_at hl 1 rfl) ?_
      refine lv_icmp_ge (tgt := 20) hx hb dJ7_fill_53178_7 (by decide) (fun c1 => ?_) (fun c1 => ?_)
      · have hk2 : k = N := by have := (nI_leI hN (by omega)).mp c1; omega
        subst hk2
        have hG := gW_eq (gW_ci (g := fun _ => a2) hG upE_s hj hf) upE_i
        exact g_vret S hr hlk hG (by omega) dJ7_fill_53178_20 ⟨Nat.le_refl 0, Nat.le_refl 0⟩ ⟨rfl, rfl⟩
      · have hk2 : k < N := by have := mt (nI_leI hN (by omega)).mpr c1; omega
        refine lv_aload_n hx hb dJ7_fill_53178_10 rfl (lv_at hl 2 rfl) ?_
        refine lv_iload_n hx hb dJ7_fill_53178_11 rfl (lv_at hl 0 rfl) ?_
        refine lv_iload_n hx hb dJ7_fill_53178_12 rfl (lv_at hl 3 rfl) ?_
        refine g_iast S hG j upE_s hj dJ7_fill_53178_13 (vp_in_nI hk2 hN) (fun H locs hG => ?_)
        rw [upE_i, nI_clamp (by omega)] at hG
        refine lv_iinc (v := nI (k + 1)) (lv' := [(2, .int (nI (k + 1))), (3, .int (nI N)), (0, .ref (b + j)), (1, .int a2)]) hx hb dJ7_fill_53178_14 hl (k := 0) rfl (nI_1 k) (by decide) rfl (fun ls hl => ?_)
        refine lv_goto (tgt := 5) hx hb dJ7_fill_53178_17 (by decide) ?_
        refine ih (k + 1) _ H locs ls (by omega) (by omega) (fun i hi => ?_) hG hl
        by_cases hik : i = k
        · subst hik; rw [pk_us]
        · rw [pk_un hik]; exact hf i (by omega)
  refine lv_iconst (v := 0) hx hb dJ7_fill_53178_0 (by decide) ?_
  refine lv_istore_n (lv' := [(2, .int 0), (0, .ref (b + j)), (1, .int a2)]) hx hb dJ7_fill_53178_1 rfl hl (by decide) rfl (fun ls hl => ?_)
  refine lv_aload_n hx hb dJ7_fill_53178_2 rfl (lv_at hl 1 rfl) ?_
  refine g_alen S hG j 1 h rfl hj dJ7_fill_53178_3 (v := nI N) rfl ?_
  refine lv_istore_n (lv' := [(3, .int (nI N)), (2, .int 0), (0, .ref (b + j)), (1, .int a2)]) hx hb dJ7_fill_53178_4 rfl hl (by decide) rfl (fun ls hl => ?_)
  exact loop (N + 1) 0 f0 s.heap [] ls (by omega) (by omega) (fun j hj => absurd hj (by omega)) (gW_eq hG (upE_same h).symm) (lv_sub hl [1, 0, 2, 3] rfl)
set_option maxHeartbeats 4000000 in
set_option maxRecDepth 100000 in
theorem qJ7_fill_49daa (l : Launch) {D : va_G} {cy : Nat → ClassId} {b n j N : Nat} (hj : j < n) (hN : N < 2 ^ 31) {E : Nat → va_E} {f0 : Nat → Int32} (h : E j = .inl (cy 3, N, .inl f0)) (a2 : Int32) : gV l yJ7_fill_49daa cJ7_fill_49daa 4 0 0 0 D cy b n E [.ref (b + j), .int a2] (fun u => u.1 = n ∧ u.2 = upE E j (.inl (cy 3, N, .inl (fun _ => (vp_nar .boolean a2))))) := by
  refine gV_of (by decide) (Nat.le_of_ble_eq_true rfl) ?_
  intro p e s m args below meth c S hr hlk hin hsz ls hl hG
  have hx := S.1
  have hb := S.2.1
  have hl : lv_has ls 4 [(0, .ref (b + j)), (1, .int a2)] := hl
  have loop : ∀ (t k : Nat) (f : Nat → Int32) (H : Heap) (locs : List Loc) (ls : Array Slot), k ≤ N → N + 1 ≤ k + t → (∀ i, i < k → f i = (vp_nar .boolean a2)) → gW D cy b n s H locs (upE E j (.inl (cy 3, N, .inl f))) → lv_has ls 4 [(2, .int (nI k)), (3, .int (nI N)), (0, .ref (b + j)), (1, .int a2)] → W p l e (gRm 0 0 0) s m args below meth c H locs 0 0 (gQV D cy b s args below 0 0 (fun u => u.1 = n ∧ u.2 = upE E j (.inl (cy 3, N, .inl (fun _ => (vp_nar .boolean a2)))))) (F0 m 5 ls []) := by
    intro t
    induction t with
    | zero => intro k f H locs ls h1 h2; exact absurd h2 (by omega)
    | succ t ih =>
      intro k f H locs ls hk ht hf hG hl
      refine lv_iload_n hx hb dJ7_fill_49daa_5 rfl (lv_at hl 0 rfl) ?_
      refine lv_iload_n hx hb dJ7_fill_49daa_6 rfl (lv_at hl 1 rfl) ?_
      refine lv_icmp_ge (tgt := 20) hx hb dJ7_fill_49daa_7 (by decide) (fun c1 => ?_) (fun c1 => ?_)
      · have hk2 : k = N := by have := (nI_leI hN (by omega)).mp c1; omega
        subst hk2
        have hG := gW_eq (gW_ci (g := fun _ => (vp_nar .boolean a2)) hG upE_s hj hf) upE_i
        exact g_vret S hr hlk hG (by omega) dJ7_fill_49daa_20 ⟨Nat.le_refl 0, Nat.le_refl 0⟩ ⟨rfl, rfl⟩
      · have hk2 : k < N := by have := mt (nI_leI hN (by omega)).mpr c1; omega
        refine lv_aload_n hx hb dJ7_fill_49daa_10 rfl (lv_at hl 2 rfl) ?_
        refine lv_iload_n hx hb dJ7_fill_49daa_11 rfl (lv_at hl 0 rfl) ?_
        refine lv_iload_n hx hb dJ7_fill_49daa_12 rfl (lv_at hl 3 rfl) ?_
        refine g_zast S hG j upE_s hj dJ7_fill_49daa_13 (vp_in_nI hk2 hN) (fun H locs hG => ?_)
        rw [upE_i, nI_clamp (by omega)] at hG
        refine lv_iinc (v := nI (k + 1)) (lv' := [(2, .int (nI (k + 1))), (3, .int (nI N)), (0, .ref (b + j)), (1, .int a2)]) hx hb dJ7_fill_49daa_14 hl (k := 0) rfl (nI_1 k) (by decide) rfl (fun ls hl => ?_)
        refine lv_goto (tgt := 5) hx hb dJ7_fill_49daa_17 (by decide) ?_
        refine ih (k + 1) _ H locs ls (by omega) (by omega) (fun i hi => ?_) hG hl
        by_cases hik : i = k
        · subst hik; rw [pk_us]
        · rw [pk_un hik]; exact hf i (by omega)
  refine lv_iconst (v := 0) hx hb dJ7_fill_49daa_0 (by decide) ?_
  refine lv_istore_n (lv' := [(2, .int 0), (0, .ref (b + j)), (1, .int a2)]) hx hb dJ7_fill_49daa_1 rfl hl (by decide) rfl (fun ls hl => ?_)
  refine lv_aload_n hx hb dJ7_fill_49daa_2 rfl (lv_at hl 1 rfl) ?_
  refine g_alen S hG j 3 h rfl hj dJ7_fill_49daa_3 (v := nI N) rfl ?_
  refine lv_istore_n (lv' := [(3, .int (nI N)), (2, .int 0), (0, .ref (b + j)), (1, .int a2)]) hx hb dJ7_fill_49daa_4 rfl hl (by decide) rfl (fun ls hl => ?_)
  exact loop (N + 1) 0 f0 s.heap [] ls (by omega) (by omega) (fun j hj => absurd hj (by omega)) (gW_eq hG (upE_same h).symm) (lv_sub hl [1, 0, 2, 3] rfl)
section GCP
variable {p : Program} {l : Launch} {e : Env} {R : Room} {s : State} {m : MethodId} {args : Array Value} {below : List Frame} {meth : Method} {c : Code} {H : Heap} {locs : List Loc} {cells slots : Nat} {Q : State → Prop} {cc : ByteArray} {pc nL : Nat} {ls : Array Slot} {rest : List Value} {own : String} {D : va_G} {cy : Nat → ClassId} {b n : Nat} {E : Nat → va_E} {index : Nat}
/-- System.arraycopy of ints -/
theorem g_copyi (S : CallFix p m c cc nL s args gT own) (hG : gW D cy b n s H locs E) (i j : Nat) {N0 N1 : Nat} {f g : Nat → Int32} (h0 : E i = .inl (cy 1, N0, .inl f)) (h1 : E j = .inl (cy 1, N1, .inl g)) (hi : i < n) (hj : j < n) (w : Cond.methodLink own index arraycopyName ∈ gT ∧ Cond.native arraycopyName ∈ gT ∧ Cond.static arraycopyName ∈ gT ∧ Cond.initialized "java/lang/System" ∈ gT) (hls : ls.size = nL) {sp dp k : Int32} (h2 : ¬ sp < 0) (h3 : ¬ dp < 0) (h4 : ¬ k < 0) (h5 : sp.toNatClampNeg + k.toNatClampNeg ≤ N0) (h6 : dp.toNatClampNeg + k.toNatClampNeg ≤ N1) (hR : 1 ≤ R.frames ∧ (rest.map fun v => v.category).sum + (nativeFrameWords "java/lang/System" "arraycopy" 5 + 11) ≤ R.locals) (hdg : decode cc pc = .ok (.invokestatic index, 3))
    (kk : ∀ (H : Heap) (locs : List Loc), gW D cy b n s H locs (upE E j (.inl (cy 1, N1, .inl (va_cpy f g sp.toNatClampNeg dp.toNatClampNeg k.toNatClampNeg)))) → W p l e R s m args below meth c H locs cells slots Q (F0 m (pc + 3) ls rest)) : W p l e R s m args below meth c H locs cells slots Q (F0 m pc ls (.int k :: .int dp :: .ref (b + j) :: .int sp :: .ref (b + i) :: rest)) := by
  refine va_copyi S.1 S.2.1 (S.2.2.1.trans hls.symm) S.2.2.2.1 (S.2.2.2.2 _ w.1) (S.2.2.2.2 _ w.2.1) (S.2.2.2.2 _ w.2.2.1) (S.2.2.2.2 _ w.2.2.2) hG.1.1 hG.2.1 wd_D hG.2.2.1 i j 1 1 (wd_at hi h0) (wd_at hj h1) rfl rfl rfl h2 h3 h4 h5 h6 (fun _ _ => rfl) hR.1 hR.2 hdg fun H1 l1 hp _ hs => ?_
  rw [wd_set hj] at hp
  exact kk H1 l1 ⟨hG.1, hp, hs, hG.2.2.2⟩
end GCP
end
section
theorem dX11_putFour_0 : decode cX11_putFour 0 = .ok (.bipush 24, 2) := by decide +kernel
theorem dX11_putFour_2 : decode cX11_putFour 2 = .ok (.istore_n 2, 1) := by decide +kernel
theorem dX11_putFour_3 : decode cX11_putFour 3 = .ok (.iload_n 2, 1) := by decide +kernel
theorem dX11_putFour_4 : decode cX11_putFour 4 = .ok (.ifCond .lt 42, 3) := by decide +kernel
theorem dX11_putFour_7 : decode cX11_putFour 7 = .ok (.aload_n 0, 1) := by decide +kernel
theorem dX11_putFour_8 : decode cX11_putFour 8 = .ok (.getfield 13, 3) := by decide +kernel
theorem dX11_putFour_11 : decode cX11_putFour 11 = .ok (.sipush 400, 3) := by decide +kernel
theorem dX11_putFour_14 : decode cX11_putFour 14 = .ok (.if_icmp .ge 32, 3) := by decide +kernel
theorem dX11_putFour_17 : decode cX11_putFour 17 = .ok (.aload_n 0, 1) := by decide +kernel
theorem dX11_putFour_18 : decode cX11_putFour 18 = .ok (.getfield 9, 3) := by decide +kernel
theorem dX11_putFour_21 : decode cX11_putFour 21 = .ok (.aload_n 0, 1) := by decide +kernel
theorem dX11_putFour_22 : decode cX11_putFour 22 = .ok (.getfield 13, 3) := by decide +kernel
theorem dX11_putFour_25 : decode cX11_putFour 25 = .ok (.iload_n 1, 1) := by decide +kernel
theorem dX11_putFour_26 : decode cX11_putFour 26 = .ok (.iload_n 2, 1) := by decide +kernel
theorem dX11_putFour_27 : decode cX11_putFour 27 = .ok (.iushr, 1) := by decide +kernel
theorem dX11_putFour_28 : decode cX11_putFour 28 = .ok (.i2b, 1) := by decide +kernel
theorem dX11_putFour_29 : decode cX11_putFour 29 = .ok (.bastore, 1) := by decide +kernel
theorem dX11_putFour_30 : decode cX11_putFour 30 = .ok (.aload_n 0, 1) := by decide +kernel
theorem dX11_putFour_31 : decode cX11_putFour 31 = .ok (.dup, 1) := by decide +kernel
theorem dX11_putFour_32 : decode cX11_putFour 32 = .ok (.getfield 13, 3) := by decide +kernel
theorem dX11_putFour_35 : decode cX11_putFour 35 = .ok (.iconst 1, 1) := by decide +kernel
theorem dX11_putFour_36 : decode cX11_putFour 36 = .ok (.iadd, 1) := by decide +kernel
theorem dX11_putFour_37 : decode cX11_putFour 37 = .ok (.putfield 13, 3) := by decide +kernel
theorem dX11_putFour_40 : decode cX11_putFour 40 = .ok (.iinc 2 (-8), 3) := by decide +kernel
theorem dX11_putFour_43 : decode cX11_putFour 43 = .ok (.goto (-40), 3) := by decide +kernel
theorem dX11_putFour_46 : decode cX11_putFour 46 = .ok (.return_, 1) := by decide +kernel
theorem dX11_feed_0 : decode cX11_feed 0 = .ok (.aload_n 0, 1) := by decide +kernel
theorem dX11_feed_1 : decode cX11_feed 1 = .ok (.getfield 13, 3) := by decide +kernel
theorem dX11_feed_4 : decode cX11_feed 4 = .ok (.bipush 20, 2) := by decide +kernel
theorem dX11_feed_6 : decode cX11_feed 6 = .ok (.iadd, 1) := by decide +kernel
theorem dX11_feed_7 : decode cX11_feed 7 = .ok (.sipush 400, 3) := by decide +kernel
theorem dX11_feed_10 : decode cX11_feed 10 = .ok (.if_icmp .le 5, 3) := by decide +kernel
theorem dX11_feed_15 : decode cX11_feed 15 = .ok (.aload_n 0, 1) := by decide +kernel
theorem dX11_feed_16 : decode cX11_feed 16 = .ok (.iload_n 1, 1) := by decide +kernel
theorem dX11_feed_17 : decode cX11_feed 17 = .ok (.invokevirtual 120, 3) := by decide +kernel
theorem wm_728 : (Jvm.Cond.methodLink "GrownKinds" (120 : Nat) ({ cls := "GrownKinds", name := "putFour", desc := "(I)V" } : Jvm.MethodName)) ∈ gT := gT_in (List.mem_of_getElem? (i := 728) (by decide +kernel)) (by decide +kernel)
theorem wm_730 : (Jvm.Cond.instanceMethod ({ cls := "GrownKinds", name := "putFour", desc := "(I)V" } : Jvm.MethodName)) ∈ gT := gT_in (List.mem_of_getElem? (i := 730) (by decide +kernel)) (by decide +kernel)
theorem wm_0 : Cond.selects "GrownKinds" ⟨"GrownKinds", "putFour", "(I)V"⟩ ⟨"GrownKinds", "putFour", "(I)V"⟩ ∈ gT := gT_in (List.mem_of_getElem? (i := 0) (by decide +kernel)) (by decide +kernel)
theorem wm_731 : (Jvm.Cond.code ({ cls := "GrownKinds", name := "putFour", desc := "(I)V" } : Jvm.MethodName) prog_1_method_3_code (3 : Nat) (Option.none : Option Jvm.ClassFile.FieldType)) ∈ gT := gT_in (List.mem_of_getElem? (i := 731) (by decide +kernel)) (by decide +kernel)
theorem dX11_feed_20 : decode cX11_feed 20 = .ok (.aload_n 0, 1) := by decide +kernel
theorem dX11_feed_21 : decode cX11_feed 21 = .ok (.iload_n 2, 1) := by decide +kernel
theorem dX11_feed_22 : decode cX11_feed 22 = .ok (.invokevirtual 120, 3) := by decide +kernel
theorem dX11_feed_25 : decode cX11_feed 25 = .ok (.aload_n 0, 1) := by decide +kernel
theorem dX11_feed_26 : decode cX11_feed 26 = .ok (.iload_n 3, 1) := by decide +kernel
theorem dX11_feed_27 : decode cX11_feed 27 = .ok (.invokevirtual 120, 3) := by decide +kernel
theorem dX11_feed_30 : decode cX11_feed 30 = .ok (.aload_n 0, 1) := by decide +kernel
theorem dX11_feed_31 : decode cX11_feed 31 = .ok (.iload 4, 2) := by decide +kernel
theorem dX11_feed_33 : decode cX11_feed 33 = .ok (.invokevirtual 120, 3) := by decide +kernel
theorem dX11_feed_36 : decode cX11_feed 36 = .ok (.aload_n 0, 1) := by decide +kernel
theorem dX11_feed_37 : decode cX11_feed 37 = .ok (.iload 5, 2) := by decide +kernel
theorem dX11_feed_39 : decode cX11_feed 39 = .ok (.invokevirtual 120, 3) := by decide +kernel
theorem dX11_feed_42 : decode cX11_feed 42 = .ok (.aload_n 0, 1) := by decide +kernel
theorem dX11_feed_43 : decode cX11_feed 43 = .ok (.getfield 13, 3) := by decide +kernel
theorem dX11_feed_46 : decode cX11_feed 46 = .ok (.ireturn, 1) := by decide +kernel
theorem dX12_feed_0 : decode cX12_feed 0 = .ok (.aload_n 0, 1) := by decide +kernel
theorem dX12_feed_1 : decode cX12_feed 1 = .ok (.getfield 94, 3) := by decide +kernel
theorem dX12_feed_4 : decode cX12_feed 4 = .ok (.sipush 380, 3) := by decide +kernel
theorem dX12_feed_7 : decode cX12_feed 7 = .ok (.if_icmp .le 5, 3) := by decide +kernel
theorem dX12_feed_12 : decode cX12_feed 12 = .ok (.iconst 5, 1) := by decide +kernel
theorem dX12_feed_13 : decode cX12_feed 13 = .ok (.newarray .int, 2) := by decide +kernel
theorem dX12_feed_15 : decode cX12_feed 15 = .ok (.dup, 1) := by decide +kernel
theorem dX12_feed_16 : decode cX12_feed 16 = .ok (.iconst 0, 1) := by decide +kernel
theorem dX12_feed_17 : decode cX12_feed 17 = .ok (.iload_n 1, 1) := by decide +kernel
theorem dX12_feed_18 : decode cX12_feed 18 = .ok (.iastore, 1) := by decide +kernel
theorem dX12_feed_19 : decode cX12_feed 19 = .ok (.dup, 1) := by decide +kernel
theorem dX12_feed_20 : decode cX12_feed 20 = .ok (.iconst 1, 1) := by decide +kernel
theorem dX12_feed_21 : decode cX12_feed 21 = .ok (.iload_n 2, 1) := by decide +kernel
theorem dX12_feed_22 : decode cX12_feed 22 = .ok (.iastore, 1) := by decide +kernel
theorem dX12_feed_23 : decode cX12_feed 23 = .ok (.dup, 1) := by decide +kernel
theorem dX12_feed_24 : decode cX12_feed 24 = .ok (.iconst 2, 1) := by decide +kernel
theorem dX12_feed_25 : decode cX12_feed 25 = .ok (.iload_n 3, 1) := by decide +kernel
theorem dX12_feed_26 : decode cX12_feed 26 = .ok (.iastore, 1) := by decide +kernel
theorem dX12_feed_27 : decode cX12_feed 27 = .ok (.dup, 1) := by decide +kernel
theorem dX12_feed_28 : decode cX12_feed 28 = .ok (.iconst 3, 1) := by decide +kernel
theorem dX12_feed_29 : decode cX12_feed 29 = .ok (.iload 4, 2) := by decide +kernel
theorem dX12_feed_31 : decode cX12_feed 31 = .ok (.iastore, 1) := by decide +kernel
theorem dX12_feed_32 : decode cX12_feed 32 = .ok (.dup, 1) := by decide +kernel
theorem dX12_feed_33 : decode cX12_feed 33 = .ok (.iconst 4, 1) := by decide +kernel
theorem dX12_feed_34 : decode cX12_feed 34 = .ok (.iload 5, 2) := by decide +kernel
theorem dX12_feed_36 : decode cX12_feed 36 = .ok (.iastore, 1) := by decide +kernel
theorem dX12_feed_37 : decode cX12_feed 37 = .ok (.astore 6, 2) := by decide +kernel
theorem dX12_feed_39 : decode cX12_feed 39 = .ok (.iconst 0, 1) := by decide +kernel
theorem dX12_feed_40 : decode cX12_feed 40 = .ok (.istore 7, 2) := by decide +kernel
theorem dX12_feed_42 : decode cX12_feed 42 = .ok (.iload 7, 2) := by decide +kernel
theorem dX12_feed_44 : decode cX12_feed 44 = .ok (.bipush 20, 2) := by decide +kernel
theorem dX12_feed_46 : decode cX12_feed 46 = .ok (.if_icmp .ge 43, 3) := by decide +kernel
theorem dX12_feed_49 : decode cX12_feed 49 = .ok (.aload_n 0, 1) := by decide +kernel
theorem dX12_feed_50 : decode cX12_feed 50 = .ok (.getfield 22, 3) := by decide +kernel
theorem dX12_feed_53 : decode cX12_feed 53 = .ok (.aload_n 0, 1) := by decide +kernel
theorem dX12_feed_54 : decode cX12_feed 54 = .ok (.getfield 94, 3) := by decide +kernel
theorem dX12_feed_57 : decode cX12_feed 57 = .ok (.iload 7, 2) := by decide +kernel
theorem dX12_feed_59 : decode cX12_feed 59 = .ok (.iadd, 1) := by decide +kernel
theorem dX12_feed_60 : decode cX12_feed 60 = .ok (.aload 6, 2) := by decide +kernel
theorem dX12_feed_62 : decode cX12_feed 62 = .ok (.iload 7, 2) := by decide +kernel
theorem dX12_feed_64 : decode cX12_feed 64 = .ok (.iconst 4, 1) := by decide +kernel
theorem dX12_feed_65 : decode cX12_feed 65 = .ok (.idiv, 1) := by decide +kernel
theorem dX12_feed_66 : decode cX12_feed 66 = .ok (.iaload, 1) := by decide +kernel
theorem dX12_feed_67 : decode cX12_feed 67 = .ok (.bipush 24, 2) := by decide +kernel
theorem dX12_feed_69 : decode cX12_feed 69 = .ok (.bipush 8, 2) := by decide +kernel
theorem dX12_feed_71 : decode cX12_feed 71 = .ok (.iload 7, 2) := by decide +kernel
theorem dX12_feed_73 : decode cX12_feed 73 = .ok (.iconst 4, 1) := by decide +kernel
theorem dX12_feed_74 : decode cX12_feed 74 = .ok (.irem, 1) := by decide +kernel
theorem dX12_feed_75 : decode cX12_feed 75 = .ok (.imul, 1) := by decide +kernel
theorem dX12_feed_76 : decode cX12_feed 76 = .ok (.isub, 1) := by decide +kernel
theorem dX12_feed_77 : decode cX12_feed 77 = .ok (.iushr, 1) := by decide +kernel
theorem dX12_feed_78 : decode cX12_feed 78 = .ok (.sipush 255, 3) := by decide +kernel
theorem dX12_feed_81 : decode cX12_feed 81 = .ok (.iand, 1) := by decide +kernel
theorem dX12_feed_82 : decode cX12_feed 82 = .ok (.iastore, 1) := by decide +kernel
theorem dX12_feed_83 : decode cX12_feed 83 = .ok (.iinc 7 1, 3) := by decide +kernel
theorem dX12_feed_86 : decode cX12_feed 86 = .ok (.goto (-44), 3) := by decide +kernel
theorem dX12_feed_89 : decode cX12_feed 89 = .ok (.aload_n 0, 1) := by decide +kernel
theorem dX12_feed_90 : decode cX12_feed 90 = .ok (.dup, 1) := by decide +kernel
theorem dX12_feed_91 : decode cX12_feed 91 = .ok (.getfield 94, 3) := by decide +kernel
theorem dX12_feed_94 : decode cX12_feed 94 = .ok (.bipush 20, 2) := by decide +kernel
theorem dX12_feed_96 : decode cX12_feed 96 = .ok (.iadd, 1) := by decide +kernel
theorem dX12_feed_97 : decode cX12_feed 97 = .ok (.putfield 94, 3) := by decide +kernel
theorem dX12_feed_100 : decode cX12_feed 100 = .ok (.aload_n 0, 1) := by decide +kernel
theorem dX12_feed_101 : decode cX12_feed 101 = .ok (.getfield 94, 3) := by decide +kernel
theorem dX12_feed_104 : decode cX12_feed 104 = .ok (.ireturn, 1) := by decide +kernel
theorem dX2_clear_0 : decode cX2_clear 0 = .ok (.aload_n 0, 1) := by decide +kernel
theorem dX2_clear_1 : decode cX2_clear 1 = .ok (.iconst 0, 1) := by decide +kernel
theorem dX2_clear_2 : decode cX2_clear 2 = .ok (.putfield 9, 3) := by decide +kernel
theorem dX2_clear_5 : decode cX2_clear 5 = .ok (.aload_n 0, 1) := by decide +kernel
theorem dX2_clear_6 : decode cX2_clear 6 = .ok (.iconst 0, 1) := by decide +kernel
theorem dX2_clear_7 : decode cX2_clear 7 = .ok (.putfield 15, 3) := by decide +kernel
theorem dX2_clear_10 : decode cX2_clear 10 = .ok (.aload_n 0, 1) := by decide +kernel
theorem dX2_clear_11 : decode cX2_clear 11 = .ok (.iconst 0, 1) := by decide +kernel
theorem dX2_clear_12 : decode cX2_clear 12 = .ok (.putfield 18, 3) := by decide +kernel
theorem dX2_clear_15 : decode cX2_clear 15 = .ok (.aload_n 0, 1) := by decide +kernel
theorem dX2_clear_16 : decode cX2_clear 16 = .ok (.iconst 0, 1) := by decide +kernel
theorem dX2_clear_17 : decode cX2_clear 17 = .ok (.putfield 21, 3) := by decide +kernel
theorem dX2_clear_20 : decode cX2_clear 20 = .ok (.aload_n 0, 1) := by decide +kernel
theorem dX2_clear_21 : decode cX2_clear 21 = .ok (.iconst 0, 1) := by decide +kernel
theorem dX2_clear_22 : decode cX2_clear 22 = .ok (.putfield 24, 3) := by decide +kernel
theorem dX2_clear_25 : decode cX2_clear 25 = .ok (.aload_n 0, 1) := by decide +kernel
theorem dX2_clear_26 : decode cX2_clear 26 = .ok (.getfield 43, 3) := by decide +kernel
theorem dX2_clear_29 : decode cX2_clear 29 = .ok (.iconst 0, 1) := by decide +kernel
theorem dX2_clear_30 : decode cX2_clear 30 = .ok (.invokestatic 55, 3) := by decide +kernel
theorem wm_748 : (Jvm.Cond.methodLink "GrownKinds$Grammar" (55 : Nat) ({ cls := "java/util/Arrays", name := "fill", desc := "([II)V" } : Jvm.MethodName)) ∈ gT := gT_in (List.mem_of_getElem? (i := 748) (by decide +kernel)) (by decide +kernel)
theorem wm_749 : (Jvm.Cond.static ({ cls := "java/util/Arrays", name := "fill", desc := "([II)V" } : Jvm.MethodName)) ∈ gT := gT_in (List.mem_of_getElem? (i := 749) (by decide +kernel)) (by decide +kernel)
theorem wm_188 : (Jvm.Cond.initialized "java/util/Arrays") ∈ gT := gT_in (List.mem_of_getElem? (i := 188) (by decide +kernel)) (by decide +kernel)
theorem wm_750 : (Jvm.Cond.code ({ cls := "java/util/Arrays", name := "fill", desc := "([II)V" } : Jvm.MethodName) prog_22_method_103_code (4 : Nat) (Option.none : Option Jvm.ClassFile.FieldType)) ∈ gT := gT_in (List.mem_of_getElem? (i := 750) (by decide +kernel)) (by decide +kernel)
theorem dX2_clear_33 : decode cX2_clear 33 = .ok (.aload_n 0, 1) := by decide +kernel
theorem dX2_clear_34 : decode cX2_clear 34 = .ok (.getfield 49, 3) := by decide +kernel
theorem dX2_clear_37 : decode cX2_clear 37 = .ok (.iconst 0, 1) := by decide +kernel
theorem dX2_clear_38 : decode cX2_clear 38 = .ok (.invokestatic 55, 3) := by decide +kernel
theorem dX2_clear_41 : decode cX2_clear 41 = .ok (.return_, 1) := by decide +kernel
theorem dX5_advance_0 : decode cX5_advance 0 = .ok (.aload_n 0, 1) := by decide +kernel
theorem dX5_advance_1 : decode cX5_advance 1 = .ok (.getfield 25, 3) := by decide +kernel
theorem dX5_advance_4 : decode cX5_advance 4 = .ok (.aload_n 0, 1) := by decide +kernel
theorem dX5_advance_5 : decode cX5_advance 5 = .ok (.getfield 22, 3) := by decide +kernel
theorem dX5_advance_8 : decode cX5_advance 8 = .ok (.if_icmp .ge 44, 3) := by decide +kernel
theorem dX5_advance_52 : decode cX5_advance 52 = .ok (.aload_n 0, 1) := by decide +kernel
theorem dX5_advance_53 : decode cX5_advance 53 = .ok (.aload_n 0, 1) := by decide +kernel
theorem dX5_advance_54 : decode cX5_advance 54 = .ok (.getfield 25, 3) := by decide +kernel
theorem dX5_advance_57 : decode cX5_advance 57 = .ok (.putfield 31, 3) := by decide +kernel
theorem dX5_advance_60 : decode cX5_advance 60 = .ok (.aload_n 0, 1) := by decide +kernel
theorem dX5_advance_61 : decode cX5_advance 61 = .ok (.getfield 25, 3) := by decide +kernel
theorem dX5_advance_64 : decode cX5_advance 64 = .ok (.aload_n 0, 1) := by decide +kernel
theorem dX5_advance_65 : decode cX5_advance 65 = .ok (.getfield 22, 3) := by decide +kernel
theorem dX5_advance_68 : decode cX5_advance 68 = .ok (.if_icmp .lt 9, 3) := by decide +kernel
theorem dX5_advance_71 : decode cX5_advance 71 = .ok (.aload_n 0, 1) := by decide +kernel
theorem dX5_advance_72 : decode cX5_advance 72 = .ok (.iconst 3, 1) := by decide +kernel
theorem dX5_advance_73 : decode cX5_advance 73 = .ok (.putfield 28, 3) := by decide +kernel
theorem dX5_advance_76 : decode cX5_advance 76 = .ok (.return_, 1) := by decide +kernel
theorem dX5_read_0 : decode cX5_read 0 = .ok (.aload_n 0, 1) := by decide +kernel
theorem dX5_read_1 : decode cX5_read 1 = .ok (.aload_n 1, 1) := by decide +kernel
theorem dX5_read_2 : decode cX5_read 2 = .ok (.putfield 18, 3) := by decide +kernel
theorem dX5_read_5 : decode cX5_read 5 = .ok (.aload_n 0, 1) := by decide +kernel
theorem dX5_read_6 : decode cX5_read 6 = .ok (.iload_n 2, 1) := by decide +kernel
theorem dX5_read_7 : decode cX5_read 7 = .ok (.putfield 22, 3) := by decide +kernel
theorem dX5_read_10 : decode cX5_read 10 = .ok (.aload_n 0, 1) := by decide +kernel
theorem dX5_read_11 : decode cX5_read 11 = .ok (.iconst 0, 1) := by decide +kernel
theorem dX5_read_12 : decode cX5_read 12 = .ok (.putfield 25, 3) := by decide +kernel
theorem dX5_read_15 : decode cX5_read 15 = .ok (.aload_n 0, 1) := by decide +kernel
theorem dX5_read_16 : decode cX5_read 16 = .ok (.iconst 0, 1) := by decide +kernel
theorem dX5_read_17 : decode cX5_read 17 = .ok (.putfield 9, 3) := by decide +kernel
theorem dX5_read_20 : decode cX5_read 20 = .ok (.aload_n 0, 1) := by decide +kernel
theorem dX5_read_21 : decode cX5_read 21 = .ok (.iconst (-1), 1) := by decide +kernel
theorem dX5_read_22 : decode cX5_read 22 = .ok (.putfield 15, 3) := by decide +kernel
theorem dX5_read_25 : decode cX5_read 25 = .ok (.aload_n 0, 1) := by decide +kernel
theorem dX5_read_26 : decode cX5_read 26 = .ok (.getfield 47, 3) := by decide +kernel
theorem dX5_read_29 : decode cX5_read 29 = .ok (.invokevirtual 60, 3) := by decide +kernel
theorem wm_744 : (Jvm.Cond.methodLink "GrownKinds$Reader" (60 : Nat) ({ cls := "GrownKinds$Grammar", name := "clear", desc := "()V" } : Jvm.MethodName)) ∈ gT := gT_in (List.mem_of_getElem? (i := 744) (by decide +kernel)) (by decide +kernel)
theorem wm_745 : (Jvm.Cond.instanceMethod ({ cls := "GrownKinds$Grammar", name := "clear", desc := "()V" } : Jvm.MethodName)) ∈ gT := gT_in (List.mem_of_getElem? (i := 745) (by decide +kernel)) (by decide +kernel)
theorem wm_746 : (Jvm.Cond.selects "GrownKinds$Grammar" ({ cls := "GrownKinds$Grammar", name := "clear", desc := "()V" } : Jvm.MethodName) ({ cls := "GrownKinds$Grammar", name := "clear", desc := "()V" } : Jvm.MethodName)) ∈ gT := gT_in (List.mem_of_getElem? (i := 746) (by decide +kernel)) (by decide +kernel)
theorem wm_747 : (Jvm.Cond.code ({ cls := "GrownKinds$Grammar", name := "clear", desc := "()V" } : Jvm.MethodName) prog_4_method_2_code (1 : Nat) (Option.none : Option Jvm.ClassFile.FieldType)) ∈ gT := gT_in (List.mem_of_getElem? (i := 747) (by decide +kernel)) (by decide +kernel)
theorem dX5_read_32 : decode cX5_read 32 = .ok (.aload_n 0, 1) := by decide +kernel
theorem dX5_read_33 : decode cX5_read 33 = .ok (.invokevirtual 65, 3) := by decide +kernel
theorem wm_751 : (Jvm.Cond.methodLink "GrownKinds$Reader" (65 : Nat) ({ cls := "GrownKinds$Reader", name := "advance", desc := "()V" } : Jvm.MethodName)) ∈ gT := gT_in (List.mem_of_getElem? (i := 751) (by decide +kernel)) (by decide +kernel)
theorem wm_753 : (Jvm.Cond.instanceMethod ({ cls := "GrownKinds$Reader", name := "advance", desc := "()V" } : Jvm.MethodName)) ∈ gT := gT_in (List.mem_of_getElem? (i := 753) (by decide +kernel)) (by decide +kernel)
theorem wm_1 : Cond.selects "GrownKinds$Reader" ⟨"GrownKinds$Reader", "advance", "()V"⟩ ⟨"GrownKinds$Reader", "advance", "()V"⟩ ∈ gT := gT_in (List.mem_of_getElem? (i := 1) (by decide +kernel)) (by decide +kernel)
theorem wm_754 : (Jvm.Cond.code ({ cls := "GrownKinds$Reader", name := "advance", desc := "()V" } : Jvm.MethodName) prog_7_method_7_code (2 : Nat) (Option.none : Option Jvm.ClassFile.FieldType)) ∈ gT := gT_in (List.mem_of_getElem? (i := 754) (by decide +kernel)) (by decide +kernel)
theorem dX5_read_36 : decode cX5_read 36 = .ok (.aload_n 0, 1) := by decide +kernel
theorem dX5_read_37 : decode cX5_read 37 = .ok (.getfield 28, 3) := by decide +kernel
theorem dX5_read_40 : decode cX5_read 40 = .ok (.iconst 3, 1) := by decide +kernel
theorem dX5_read_41 : decode cX5_read 41 = .ok (.if_icmp .ne 5, 3) := by decide +kernel
theorem dX5_read_44 : decode cX5_read 44 = .ok (.iconst 0, 1) := by decide +kernel
theorem dX5_read_45 : decode cX5_read 45 = .ok (.ireturn, 1) := by decide +kernel
set_option maxHeartbeats 4000000 in
set_option maxRecDepth 100000 in
theorem qX11_putFour_0 (l : Launch) {D : va_G} {cy : Nat → ClassId} {b n : Nat} (hn : 105 ≤ n) {E : Nat → va_E} {f1 : Nat → Int32} (h0 : E 0 = .inr (11, [.ref (b + 1), .int 0, .ref (b + 2), .ref (b + 12), .int 0, .int (-1), .ref (b + 33), .ref (b + 40), .ref (b + 47), .ref (b + 60), .ref (b + 67), .ref (b + 73), .ref (b + 80), .ref (b + 81), .ref (b + 82), .int 0, .int 0, .int (-1), .int (-1)])) (h1 : E 1 = .inl (cy 0, 400, .inl f1))  (a1 : Int32) : gV l yX11_putFour cX11_putFour 3 0 0 0 D cy b n E [.ref (b + 0), .int a1] (fun u => u.1 = n ∧ (∀ j, j ≠ 0 → j ≠ 1 → u.2 j = E j) ∧ u.2 0 = .inr (11, [.ref (b + 1), .int 4, .ref (b + 2), .ref (b + 12), .int 0, .int (-1), .ref (b + 33), .ref (b + 40), .ref (b + 47), .ref (b + 60), .ref (b + 67), .ref (b + 73), .ref (b + 80), .ref (b + 81), .ref (b + 82), .int 0, .int 0, .int (-1), .int (-1)]) ∧ (∃ f : Nat → Int32, u.2 1 = .inl (cy 0, 400, .inl f))) := by
  refine gV_of (by decide) (Nat.le_of_ble_eq_true rfl) ?_
  intro p e s m args below meth c S hr hlk hin hsz ls hl hG
  have hx := S.1
  have hb := S.2.1
  have hl : lv_has ls 3 [(0, .ref (b + 0)), (1, .int a1)] := hl
  refine lv_bipush (v := 24) hx hb dX11_putFour_0 (by decide) ?_
  refine lv_istore_n (lv' := [(2, .int 24), (0, .ref (b + 0)), (1, .int a1)]) hx hb dX11_putFour_2 rfl hl (by decide) rfl (fun ls hl => ?_)
  refine lv_iload_n hx hb dX11_putFour_3 rfl (lv_at hl 0 rfl) ?_
  refine lv_if_lt (tgt := 46) hx hb dX11_putFour_4 (by decide) (fun c_1 => absurd c_1 (by decide)) (fun c_1 => ?_)
  refine lv_aload_n hx hb dX11_putFour_7 rfl (lv_at hl 1 rfl) ?_
  refine g_get S hG 0 1 h0 cpX11 wm_667 dX11_putFour_8 rfl (by omega) (by decide) ?_
  refine lv_sipush (v := 400) hx hb dX11_putFour_11 (by decide) ?_
  refine lv_icmp_ge (tgt := 46) hx hb dX11_putFour_14 (by decide) (fun c_2 => absurd c_2 (by decide)) (fun c_2 => ?_)
  refine lv_aload_n hx hb dX11_putFour_17 rfl (lv_at hl 1 rfl) ?_
  refine g_get S hG 0 0 h0 cpX11 wm_666 dX11_putFour_18 rfl (by omega) (by decide) ?_
  refine lv_aload_n hx hb dX11_putFour_21 rfl (lv_at hl 1 rfl) ?_
  refine g_get S hG 0 1 h0 cpX11 wm_667 dX11_putFour_22 rfl (by omega) (by decide) ?_
  refine lv_iload_n hx hb dX11_putFour_25 rfl (lv_at hl 2 rfl) ?_
  refine lv_iload_n hx hb dX11_putFour_26 rfl (lv_at hl 0 rfl) ?_
  refine lv_iushr hx hb dX11_putFour_27 rfl ?_
  refine lv_topi (fun x_3 ex_3 => ?_)
  refine lv_i2b hx hb dX11_putFour_28 rfl ?_
  refine g_bast S hG 1 h1 (by omega) dX11_putFour_29 (by unfold vp_in; decide) (fun H locs hG => ?_)
  refine lv_aload_n hx hb dX11_putFour_30 rfl (lv_at hl 1 rfl) ?_
  refine lv_dup hx hb dX11_putFour_31 rfl ?_
  refine g_get S hG 0 1 h0 cpX11 wm_667 dX11_putFour_32 rfl (by omega) (by decide) ?_
  refine lv_iconst (v := 1) hx hb dX11_putFour_35 (by decide) ?_
  refine lv_iadd hx hb dX11_putFour_36 ?_
  refine lv_topi (fun x_4 ex_4 => ?_)
  obtain rfl : x_4 = 1 := ex_4.trans (by decide)
  refine g_put (fs' := [.ref (b + 1), .int 1, .ref (b + 2), .ref (b + 12), .int 0, .int (-1), .ref (b + 33), .ref (b + 40), .ref (b + 47), .ref (b + 60), .ref (b + 67), .ref (b + 73), .ref (b + 80), .ref (b + 81), .ref (b + 82), .int 0, .int 0, .int (-1), .int (-1)]) S hG 0 1 h0 cpX11 wm_667 dX11_putFour_37 rfl (by omega) (by decide) (Nat.le_of_ble_eq_true rfl) rfl rfl rfl (fun H locs hG => ?_)
  refine lv_iinc (v := 16) (lv' := [(2, .int 16), (0, .ref (b + 0)), (1, .int a1)]) hx hb dX11_putFour_40 hl (k := 0) rfl (by decide) (by decide) rfl (fun ls hl => ?_)
  refine lv_goto (tgt := 3) hx hb dX11_putFour_43 (by decide) ?_
  refine lv_iload_n hx hb dX11_putFour_3 rfl (lv_at hl 0 rfl) ?_
  refine lv_if_lt (tgt := 46) hx hb dX11_putFour_4 (by decide) (fun c_5 => absurd c_5 (by decide)) (fun c_5 => ?_)
  refine lv_aload_n hx hb dX11_putFour_7 rfl (lv_at hl 1 rfl) ?_
  refine g_get S hG 0 1 rfl cpX11 wm_667 dX11_putFour_8 rfl (by omega) (by decide) ?_
  refine lv_sipush (v := 400) hx hb dX11_putFour_11 (by decide) ?_
  refine lv_icmp_ge (tgt := 46) hx hb dX11_putFour_14 (by decide) (fun c_6 => absurd c_6 (by decide)) (fun c_6 => ?_)
  refine lv_aload_n hx hb dX11_putFour_17 rfl (lv_at hl 1 rfl) ?_
  refine g_get S hG 0 0 rfl cpX11 wm_666 dX11_putFour_18 rfl (by omega) (by decide) ?_
  refine lv_aload_n hx hb dX11_putFour_21 rfl (lv_at hl 1 rfl) ?_
  refine g_get S hG 0 1 rfl cpX11 wm_667 dX11_putFour_22 rfl (by omega) (by decide) ?_
  refine lv_iload_n hx hb dX11_putFour_25 rfl (lv_at hl 2 rfl) ?_
  refine lv_iload_n hx hb dX11_putFour_26 rfl (lv_at hl 0 rfl) ?_
  refine lv_iushr hx hb dX11_putFour_27 rfl ?_
  refine lv_topi (fun x_7 ex_7 => ?_)
  refine lv_i2b hx hb dX11_putFour_28 rfl ?_
  refine g_bast S hG 1 rfl (by omega) dX11_putFour_29 (by unfold vp_in; decide) (fun H locs hG => ?_)
  refine lv_aload_n hx hb dX11_putFour_30 rfl (lv_at hl 1 rfl) ?_
  refine lv_dup hx hb dX11_putFour_31 rfl ?_
  refine g_get S hG 0 1 rfl cpX11 wm_667 dX11_putFour_32 rfl (by omega) (by decide) ?_
  refine lv_iconst (v := 1) hx hb dX11_putFour_35 (by decide) ?_
  refine lv_iadd hx hb dX11_putFour_36 ?_
  refine lv_topi (fun x_8 ex_8 => ?_)
  obtain rfl : x_8 = 2 := ex_8.trans (by decide)
  refine g_put (fs' := [.ref (b + 1), .int 2, .ref (b + 2), .ref (b + 12), .int 0, .int (-1), .ref (b + 33), .ref (b + 40), .ref (b + 47), .ref (b + 60), .ref (b + 67), .ref (b + 73), .ref (b + 80), .ref (b + 81), .ref (b + 82), .int 0, .int 0, .int (-1), .int (-1)]) S hG 0 1 rfl cpX11 wm_667 dX11_putFour_37 rfl (by omega) (by decide) (Nat.le_of_ble_eq_true rfl) rfl rfl rfl (fun H locs hG => ?_)
  refine lv_iinc (v := 8) (lv' := [(2, .int 8), (0, .ref (b + 0)), (1, .int a1)]) hx hb dX11_putFour_40 hl (k := 0) rfl (by decide) (by decide) rfl (fun ls hl => ?_)
  refine lv_goto (tgt := 3) hx hb dX11_putFour_43 (by decide) ?_
  refine lv_iload_n hx hb dX11_putFour_3 rfl (lv_at hl 0 rfl) ?_
  refine lv_if_lt (tgt := 46) hx hb dX11_putFour_4 (by decide) (fun c_9 => absurd c_9 (by decide)) (fun c_9 => ?_)
  refine lv_aload_n hx hb dX11_putFour_7 rfl (lv_at hl 1 rfl) ?_
  refine g_get S hG 0 1 rfl cpX11 wm_667 dX11_putFour_8 rfl (by omega) (by decide) ?_
  refine lv_sipush (v := 400) hx hb dX11_putFour_11 (by decide) ?_
  refine lv_icmp_ge (tgt := 46) hx hb dX11_putFour_14 (by decide) (fun c_10 => absurd c_10 (by decide)) (fun c_10 => ?_)
  refine lv_aload_n hx hb dX11_putFour_17 rfl (lv_at hl 1 rfl) ?_
  refine g_get S hG 0 0 rfl cpX11 wm_666 dX11_putFour_18 rfl (by omega) (by decide) ?_
  refine lv_aload_n hx hb dX11_putFour_21 rfl (lv_at hl 1 rfl) ?_
  refine g_get S hG 0 1 rfl cpX11 wm_667 dX11_putFour_22 rfl (by omega) (by decide) ?_
  refine lv_iload_n hx hb dX11_putFour_25 rfl (lv_at hl 2 rfl) ?_
  refine lv_iload_n hx hb dX11_putFour_26 rfl (lv_at hl 0 rfl) ?_
  refine lv_iushr hx hb dX11_putFour_27 rfl ?_
  refine lv_topi (fun x_11 ex_11 => ?_)
  refine lv_i2b hx hb dX11_putFour_28 rfl ?_
  refine g_bast S hG 1 rfl (by omega) dX11_putFour_29 (by unfold vp_in; decide) (fun H locs hG => ?_)
  refine lv_aload_n hx hb dX11_putFour_30 rfl (lv_at hl 1 rfl) ?_
  refine lv_dup hx hb dX11_putFour_31 rfl ?_
  refine g_get S hG 0 1 rfl cpX11 wm_667 dX11_putFour_32 rfl (by omega) (by decide) ?_
  refine lv_iconst (v := 1) hx hb dX11_putFour_35 (by decide) ?_
  refine lv_iadd hx hb dX11_putFour_36 ?_
  refine lv_topi (fun x_12 ex_12 => ?_)
  obtain rfl : x_12 = 3 := ex_12.trans (by decide)
  refine g_put (fs' := [.ref (b + 1), .int 3, .ref (b + 2), .ref (b + 12), .int 0, .int (-1), .ref (b + 33), .ref (b + 40), .ref (b + 47), .ref (b + 60), .ref (b + 67), .ref (b + 73), .ref (b + 80), .ref (b + 81), .ref (b + 82), .int 0, .int 0, .int (-1), .int (-1)]) S hG 0 1 rfl cpX11 wm_667 dX11_putFour_37 rfl (by omega) (by decide) (Nat.le_of_ble_eq_true rfl) rfl rfl rfl (fun H locs hG => ?_)
  refine lv_iinc (v := 0) (lv' := [(2, .int 0), (0, .ref (b + 0)), (1, .int a1)]) hx hb dX11_putFour_40 hl (k := 0) rfl (by decide) (by decide) rfl (fun ls hl => ?_)
  refine lv_goto (tgt := 3) hx hb dX11_putFour_43 (by decide) ?_
  refine lv_iload_n hx hb dX11_putFour_3 rfl (lv_at hl 0 rfl) ?_
  refine lv_if_lt (tgt := 46) hx hb dX11_putFour_4 (by decide) (fun c_13 => absurd c_13 (by decide)) (fun c_13 => ?_)
  refine lv_aload_n hx hb dX11_putFour_7 rfl (lv_at hl 1 rfl) ?_
  refine g_get S hG 0 1 rfl cpX11 wm_667 dX11_putFour_8 rfl (by omega) (by decide) ?_
  refine lv_sipush (v := 400) hx hb dX11_putFour_11 (by decide) ?_
  refine lv_icmp_ge (tgt := 46) hx hb dX11_putFour_14 (by decide) (fun c_14 => absurd c_14 (by decide)) (fun c_14 => ?_)
  refine lv_aload_n hx hb dX11_putFour_17 rfl (lv_at hl 1 rfl) ?_
  refine g_get S hG 0 0 rfl cpX11 wm_666 dX11_putFour_18 rfl (by omega) (by decide) ?_
  refine lv_aload_n hx hb dX11_putFour_21 rfl (lv_at hl 1 rfl) ?_
  refine g_get S hG 0 1 rfl cpX11 wm_667 dX11_putFour_22 rfl (by omega) (by decide) ?_
  refine lv_iload_n hx hb dX11_putFour_25 rfl (lv_at hl 2 rfl) ?_
  refine lv_iload_n hx hb dX11_putFour_26 rfl (lv_at hl 0 rfl) ?_
  refine lv_iushr hx hb dX11_putFour_27 rfl ?_
  refine lv_topi (fun x_15 ex_15 => ?_)
  refine lv_i2b hx hb dX11_putFour_28 rfl ?_
  refine g_bast S hG 1 rfl (by omega) dX11_putFour_29 (by unfold vp_in; decide) (fun H locs hG => ?_)
  refine lv_aload_n hx hb dX11_putFour_30 rfl (lv_at hl 1 rfl) ?_
  refine lv_dup hx hb dX11_putFour_31 rfl ?_
  refine g_get S hG 0 1 rfl cpX11 wm_667 dX11_putFour_32 rfl (by omega) (by decide) ?_
  refine lv_iconst (v := 1) hx hb dX11_putFour_35 (by decide) ?_
  refine lv_iadd hx hb dX11_putFour_36 ?_
  refine lv_topi (fun x_16 ex_16 => ?_)
  obtain rfl : x_16 = 4 := ex_16.trans (by decide)
  refine g_put (fs' := [.ref (b + 1), .int 4, .ref (b + 2), .ref (b + 12), .int 0, .int (-1), .ref (b + 33), .ref (b + 40), .ref (b + 47), .ref (b + 60), .ref (b + 67), .ref (b + 73), .ref (b + 80), .ref (b + 81), .ref (b + 82), .int 0, .int 0, .int (-1), .int (-1)]) S hG 0 1 rfl cpX11 wm_667 dX11_putFour_37 rfl (by omega) (by decide) (Nat.le_of_ble_eq_true rfl) rfl rfl rfl (fun H locs hG => ?_)
  refine lv_iinc (v := (-8)) (lv' := [(2, .int (-8)), (0, .ref (b + 0)), (1, .int a1)]) hx hb dX11_putFour_40 hl (k := 0) rfl (by decide) (by decide) rfl (fun ls hl => ?_)
  refine lv_goto (tgt := 3) hx hb dX11_putFour_43 (by decide) ?_
  refine lv_iload_n hx hb dX11_putFour_3 rfl (lv_at hl 0 rfl) ?_
  refine lv_if_lt (tgt := 46) hx hb dX11_putFour_4 (by decide) (fun c_17 => ?_) (fun c_17 => absurd c_17 (by decide))
  exact g_vret S hr hlk hG (by omega) dX11_putFour_46 ⟨Nat.le_of_ble_eq_true rfl, Nat.le_of_ble_eq_true rfl⟩ ⟨rfl, fun j hj0 hj1 => (upE_n (by omega)).trans ((upE_n (by omega)).trans ((upE_n (by omega)).trans ((upE_n (by omega)).trans ((upE_n (by omega)).trans ((upE_n (by omega)).trans ((upE_n (by omega)).trans ((upE_n (by omega)).trans (rfl)))))))), rfl, ⟨_, rfl⟩⟩
set_option maxHeartbeats 4000000 in
set_option maxRecDepth 100000 in
theorem qX11_putFour_4 (l : Launch) {D : va_G} {cy : Nat → ClassId} {b n : Nat} (hn : 105 ≤ n) {E : Nat → va_E} {f1 : Nat → Int32} (h0 : E 0 = .inr (11, [.ref (b + 1), .int 4, .ref (b + 2), .ref (b + 12), .int 0, .int (-1), .ref (b + 33), .ref (b + 40), .ref (b + 47), .ref (b + 60), .ref (b + 67), .ref (b + 73), .ref (b + 80), .ref (b + 81), .ref (b + 82), .int 0, .int 0, .int (-1), .int (-1)])) (h1 : E 1 = .inl (cy 0, 400, .inl f1))  (a1 : Int32) : gV l yX11_putFour cX11_putFour 3 0 0 0 D cy b n E [.ref (b + 0), .int a1] (fun u => u.1 = n ∧ (∀ j, j ≠ 0 → j ≠ 1 → u.2 j = E j) ∧ u.2 0 = .inr (11, [.ref (b + 1), .int 8, .ref (b + 2), .ref (b + 12), .int 0, .int (-1), .ref (b + 33), .ref (b + 40), .ref (b + 47), .ref (b + 60), .ref (b + 67), .ref (b + 73), .ref (b + 80), .ref (b + 81), .ref (b + 82), .int 0, .int 0, .int (-1), .int (-1)]) ∧ (∃ f : Nat → Int32, u.2 1 = .inl (cy 0, 400, .inl f))) := by
  refine gV_of (by decide) (Nat.le_of_ble_eq_true rfl) ?_
  intro p e s m args below meth c S hr hlk hin hsz ls hl hG
  have hx := S.1
  have hb := S.2.1
  have hl : lv_has ls 3 [(0, .ref (b + 0)), (1, .int a1)] := hl
  refine lv_bipush (v := 24) hx hb dX11_putFour_0 (by decide) ?_
  refine lv_istore_n (lv' := [(2, .int 24), (0, .ref (b + 0)), (1, .int a1)]) hx hb dX11_putFour_2 rfl hl (by decide) rfl (fun ls hl => ?_)
  refine lv_iload_n hx hb dX11_putFour_3 rfl (lv_at hl 0 rfl) ?_
  refine lv_if_lt (tgt := 46) hx hb dX11_putFour_4 (by decide) (fun c_1 => absurd c_1 (by decide)) (fun c_1 => ?_)
  refine lv_aload_n hx hb dX11_putFour_7 rfl (lv_at hl 1 rfl) ?_
  refine g_get S hG 0 1 h0 cpX11 wm_667 dX11_putFour_8 rfl (by omega) (by decide) ?_
  refine lv_sipush (v := 400) hx hb dX11_putFour_11 (by decide) ?_
  refine lv_icmp_ge (tgt := 46) hx hb dX11_putFour_14 (by decide) (fun c_2 => absurd c_2 (by decide)) (fun c_2 => ?_)
  refine lv_aload_n hx hb dX11_putFour_17 rfl (lv_at hl 1 rfl) ?_
  refine g_get S hG 0 0 h0 cpX11 wm_666 dX11_putFour_18 rfl (by omega) (by decide) ?_
  refine lv_aload_n hx hb dX11_putFour_21 rfl (lv_at hl 1 rfl) ?_
  refine g_get S hG 0 1 h0 cpX11 wm_667 dX11_putFour_22 rfl (by omega) (by decide) ?_
  refine lv_iload_n hx hb dX11_putFour_25 rfl (lv_at hl 2 rfl) ?_
  refine lv_iload_n hx hb dX11_putFour_26 rfl (lv_at hl 0 rfl) ?_
  refine lv_iushr hx hb dX11_putFour_27 rfl ?_
  refine lv_topi (fun x_3 ex_3 => ?_)
  refine lv_i2b hx hb dX11_putFour_28 rfl ?_
  refine g_bast S hG 1 h1 (by omega) dX11_putFour_29 (by unfold vp_in; decide) (fun H locs hG => ?_)
  refine lv_aload_n hx hb dX11_putFour_30 rfl (lv_at hl 1 rfl) ?_
  refine lv_dup hx hb dX11_putFour_31 rfl ?_
  refine g_get S hG 0 1 h0 cpX11 wm_667 dX11_putFour_32 rfl (by omega) (by decide) ?_
  refine lv_iconst (v := 1) hx hb dX11_putFour_35 (by decide) ?_
  refine lv_iadd hx hb dX11_putFour_36 ?_
  refine lv_topi (fun x_4 ex_4 => ?_)
  obtain rfl : x_4 = 5 := ex_4.trans (by decide)
  refine g_put (fs' := [.ref (b + 1), .int 5, .ref (b + 2), .ref (b + 12), .int 0, .int (-1), .ref (b + 33), .ref (b + 40), .ref (b + 47), .ref (b + 60), .ref (b + 67), .ref (b + 73), .ref (b + 80), .ref (b + 81), .ref (b + 82), .int 0, .int 0, .int (-1), .int (-1)]) S hG 0 1 h0 cpX11 wm_667 dX11_putFour_37 rfl (by omega) (by decide) (Nat.le_of_ble_eq_true rfl) rfl rfl rfl (fun H locs hG => ?_)
  refine lv_iinc (v := 16) (lv' := [(2, .int 16), (0, .ref (b + 0)), (1, .int a1)]) hx hb dX11_putFour_40 hl (k := 0) rfl (by decide) (by decide) rfl (fun ls hl => ?_)
  refine lv_goto (tgt := 3) hx hb dX11_putFour_43 (by decide) ?_
  refine lv_iload_n hx hb dX11_putFour_3 rfl (lv_at hl 0 rfl) ?_
  refine lv_if_lt (tgt := 46) hx hb dX11_putFour_4 (by decide) (fun c_5 => absurd c_5 (by decide)) (fun c_5 => ?_)
  refine lv_aload_n hx hb dX11_putFour_7 rfl (lv_at hl 1 rfl) ?_
  refine g_get S hG 0 1 rfl cpX11 wm_667 dX11_putFour_8 rfl (by omega) (by decide) ?_
  refine lv_sipush (v := 400) hx hb dX11_putFour_11 (by decide) ?_
  refine lv_icmp_ge (tgt := 46) hx hb dX11_putFour_14 (by decide) (fun c_6 => absurd c_6 (by decide)) (fun c_6 => ?_)
  refine lv_aload_n hx hb dX11_putFour_17 rfl (lv_at hl 1 rfl) ?_
  refine g_get S hG 0 0 rfl cpX11 wm_666 dX11_putFour_18 rfl (by omega) (by decide) ?_
  refine lv_aload_n hx hb dX11_putFour_21 rfl (lv_at hl 1 rfl) ?_
  refine g_get S hG 0 1 rfl cpX11 wm_667 dX11_putFour_22 rfl (by omega) (by decide) ?_
  refine lv_iload_n hx hb dX11_putFour_25 rfl (lv_at hl 2 rfl) ?_
  refine lv_iload_n hx hb dX11_putFour_26 rfl (lv_at hl 0 rfl) ?_
  refine lv_iushr hx hb dX11_putFour_27 rfl ?_
  refine lv_topi (fun x_7 ex_7 => ?_)
  refine lv_i2b hx hb dX11_putFour_28 rfl ?_
  refine g_bast S hG 1 rfl (by omega) dX11_putFour_29 (by unfold vp_in; decide) (fun H locs hG => ?_)
  refine lv_aload_n hx hb dX11_putFour_30 rfl (lv_at hl 1 rfl) ?_
  refine lv_dup hx hb dX11_putFour_31 rfl ?_
  refine g_get S hG 0 1 rfl cpX11 wm_667 dX11_putFour_32 rfl (by omega) (by decide) ?_
  refine lv_iconst (v := 1) hx hb dX11_putFour_35 (by decide) ?_
  refine lv_iadd hx hb dX11_putFour_36 ?_
  refine lv_topi (fun x_8 ex_8 => ?_)
  obtain rfl : x_8 = 6 := ex_8.trans (by decide)
  refine g_put (fs' := [.ref (b + 1), .int 6, .ref (b + 2), .ref (b + 12), .int 0, .int (-1), .ref (b + 33), .ref (b + 40), .ref (b + 47), .ref (b + 60), .ref (b + 67), .ref (b + 73), .ref (b + 80), .ref (b + 81), .ref (b + 82), .int 0, .int 0, .int (-1), .int (-1)]) S hG 0 1 rfl cpX11 wm_667 dX11_putFour_37 rfl (by omega) (by decide) (Nat.le_of_ble_eq_true rfl) rfl rfl rfl (fun H locs hG => ?_)
  refine lv_iinc (v := 8) (lv' := [(2, .int 8), (0, .ref (b + 0)), (1, .int a1)]) hx hb dX11_putFour_40 hl (k := 0) rfl (by decide) (by decide) rfl (fun ls hl => ?_)
  refine lv_goto (tgt := 3) hx hb dX11_putFour_43 (by decide) ?_
  refine lv_iload_n hx hb dX11_putFour_3 rfl (lv_at hl 0 rfl) ?_
  refine lv_if_lt (tgt := 46) hx hb dX11_putFour_4 (by decide) (fun c_9 => absurd c_9 (by decide)) (fun c_9 => ?_)
  refine lv_aload_n hx hb dX11_putFour_7 rfl (lv_at hl 1 rfl) ?_
  refine g_get S hG 0 1 rfl cpX11 wm_667 dX11_putFour_8 rfl (by omega) (by decide) ?_
  refine lv_sipush (v := 400) hx hb dX11_putFour_11 (by decide) ?_
  refine lv_icmp_ge (tgt := 46) hx hb dX11_putFour_14 (by decide) (fun c_10 => absurd c_10 (by decide)) (fun c_10 => ?_)
  refine lv_aload_n hx hb dX11_putFour_17 rfl (lv_at hl 1 rfl) ?_
  refine g_get S hG 0 0 rfl cpX11 wm_666 dX11_putFour_18 rfl (by omega) (by decide) ?_
  refine lv_aload_n hx hb dX11_putFour_21 rfl (lv_at hl 1 rfl) ?_
  refine g_get S hG 0 1 rfl cpX11 wm_667 dX11_putFour_22 rfl (by omega) (by decide) ?_
  refine lv_iload_n hx hb dX11_putFour_25 rfl (lv_at hl 2 rfl) ?_
  refine lv_iload_n hx hb dX11_putFour_26 rfl (lv_at hl 0 rfl) ?_
  refine lv_iushr hx hb dX11_putFour_27 rfl ?_
  refine lv_topi (fun x_11 ex_11 => ?_)
  refine lv_i2b hx hb dX11_putFour_28 rfl ?_
  refine g_bast S hG 1 rfl (by omega) dX11_putFour_29 (by unfold vp_in; decide) (fun H locs hG => ?_)
  refine lv_aload_n hx hb dX11_putFour_30 rfl (lv_at hl 1 rfl) ?_
  refine lv_dup hx hb dX11_putFour_31 rfl ?_
  refine g_get S hG 0 1 rfl cpX11 wm_667 dX11_putFour_32 rfl (by omega) (by decide) ?_
  refine lv_iconst (v := 1) hx hb dX11_putFour_35 (by decide) ?_
  refine lv_iadd hx hb dX11_putFour_36 ?_
  refine lv_topi (fun x_12 ex_12 => ?_)
  obtain rfl : x_12 = 7 := ex_12.trans (by decide)
  refine g_put (fs' := [.ref (b + 1), .int 7, .ref (b + 2), .ref (b + 12), .int 0, .int (-1), .ref (b + 33), .ref (b + 40), .ref (b + 47), .ref (b + 60), .ref (b + 67), .ref (b + 73), .ref (b + 80), .ref (b + 81), .ref (b + 82), .int 0, .int 0, .int (-1), .int (-1)]) S hG 0 1 rfl cpX11 wm_667 dX11_putFour_37 rfl (by omega) (by decide) (Nat.le_of_ble_eq_true rfl) rfl rfl rfl (fun H locs hG => ?_)
  refine lv_iinc (v := 0) (lv' := [(2, .int 0), (0, .ref (b + 0)), (1, .int a1)]) hx hb dX11_putFour_40 hl (k := 0) rfl (by decide) (by decide) rfl (fun ls hl => ?_)
  refine lv_goto (tgt := 3) hx hb dX11_putFour_43 (by decide) ?_
  refine lv_iload_n hx hb dX11_putFour_3 rfl (lv_at hl 0 rfl) ?_
  refine lv_if_lt (tgt := 46) hx hb dX11_putFour_4 (by decide) (fun c_13 => absurd c_13 (by decide)) (fun c_13 => ?_)
  refine lv_aload_n hx hb dX11_putFour_7 rfl (lv_at hl 1 rfl) ?_
  refine g_get S hG 0 1 rfl cpX11 wm_667 dX11_putFour_8 rfl (by omega) (by decide) ?_
  refine lv_sipush (v := 400) hx hb dX11_putFour_11 (by decide) ?_
  refine lv_icmp_ge (tgt := 46) hx hb dX11_putFour_14 (by decide) (fun c_14 => absurd c_14 (by decide)) (fun c_14 => ?_)
  refine lv_aload_n hx hb dX11_putFour_17 rfl (lv_at hl 1 rfl) ?_
  refine g_get S hG 0 0 rfl cpX11 wm_666 dX11_putFour_18 rfl (by omega) (by decide) ?_
  refine lv_aload_n hx hb dX11_putFour_21 rfl (lv_at hl 1 rfl) ?_
  refine g_get S hG 0 1 rfl cpX11 wm_667 dX11_putFour_22 rfl (by omega) (by decide) ?_
  refine lv_iload_n hx hb dX11_putFour_25 rfl (lv_at hl 2 rfl) ?_
  refine lv_iload_n hx hb dX11_putFour_26 rfl (lv_at hl 0 rfl) ?_
  refine lv_iushr hx hb dX11_putFour_27 rfl ?_
  refine lv_topi (fun x_15 ex_15 => ?_)
  refine lv_i2b hx hb dX11_putFour_28 rfl ?_
  refine g_bast S hG 1 rfl (by omega) dX11_putFour_29 (by unfold vp_in; decide) (fun H locs hG => ?_)
  refine lv_aload_n hx hb dX11_putFour_30 rfl (lv_at hl 1 rfl) ?_
  refine lv_dup hx hb dX11_putFour_31 rfl ?_
  refine g_get S hG 0 1 rfl cpX11 wm_667 dX11_putFour_32 rfl (by omega) (by decide) ?_
  refine lv_iconst (v := 1) hx hb dX11_putFour_35 (by decide) ?_
  refine lv_iadd hx hb dX11_putFour_36 ?_
  refine lv_topi (fun x_16 ex_16 => ?_)
  obtain rfl : x_16 = 8 := ex_16.trans (by decide)
  refine g_put (fs' := [.ref (b + 1), .int 8, .ref (b + 2), .ref (b + 12), .int 0, .int (-1), .ref (b + 33), .ref (b + 40), .ref (b + 47), .ref (b + 60), .ref (b + 67), .ref (b + 73), .ref (b + 80), .ref (b + 81), .ref (b + 82), .int 0, .int 0, .int (-1), .int (-1)]) S hG 0 1 rfl cpX11 wm_667 dX11_putFour_37 rfl (by omega) (by decide) (Nat.le_of_ble_eq_true rfl) rfl rfl rfl (fun H locs hG => ?_)
  refine lv_iinc (v := (-8)) (lv' := [(2, .int (-8)), (0, .ref (b + 0)), (1, .int a1)]) hx hb dX11_putFour_40 hl (k := 0) rfl (by decide) (by decide) rfl (fun ls hl => ?_)
  refine lv_goto (tgt := 3) hx hb dX11_putFour_43 (by decide) ?_
  refine lv_iload_n hx hb dX11_putFour_3 rfl (lv_at hl 0 rfl) ?_
  refine lv_if_lt (tgt := 46) hx hb dX11_putFour_4 (by decide) (fun c_17 => ?_) (fun c_17 => absurd c_17 (by decide))
  exact g_vret S hr hlk hG (by omega) dX11_putFour_46 ⟨Nat.le_of_ble_eq_true rfl, Nat.le_of_ble_eq_true rfl⟩ ⟨rfl, fun j hj0 hj1 => (upE_n (by omega)).trans ((upE_n (by omega)).trans ((upE_n (by omega)).trans ((upE_n (by omega)).trans ((upE_n (by omega)).trans ((upE_n (by omega)).trans ((upE_n (by omega)).trans ((upE_n (by omega)).trans (rfl)))))))), rfl, ⟨_, rfl⟩⟩
set_option maxHeartbeats 4000000 in
set_option maxRecDepth 100000 in
theorem qX11_putFour_8 (l : Launch) {D : va_G} {cy : Nat → ClassId} {b n : Nat} (hn : 105 ≤ n) {E : Nat → va_E} {f1 : Nat → Int32} (h0 : E 0 = .inr (11, [.ref (b + 1), .int 8, .ref (b + 2), .ref (b + 12), .int 0, .int (-1), .ref (b + 33), .ref (b + 40), .ref (b + 47), .ref (b + 60), .ref (b + 67), .ref (b + 73), .ref (b + 80), .ref (b + 81), .ref (b + 82), .int 0, .int 0, .int (-1), .int (-1)])) (h1 : E 1 = .inl (cy 0, 400, .inl f1))  (a1 : Int32) : gV l yX11_putFour cX11_putFour 3 0 0 0 D cy b n E [.ref (b + 0), .int a1] (fun u => u.1 = n ∧ (∀ j, j ≠ 0 → j ≠ 1 → u.2 j = E j) ∧ u.2 0 = .inr (11, [.ref (b + 1), .int 12, .ref (b + 2), .ref (b + 12), .int 0, .int (-1), .ref (b + 33), .ref (b + 40), .ref (b + 47), .ref (b + 60), .ref (b + 67), .ref (b + 73), .ref (b + 80), .ref (b + 81), .ref (b + 82), .int 0, .int 0, .int (-1), .int (-1)]) ∧ (∃ f : Nat → Int32, u.2 1 = .inl (cy 0, 400, .inl f))) := by
  refine gV_of (by decide) (Nat.le_of_ble_eq_true rfl) ?_
  intro p e s m args below meth c S hr hlk hin hsz ls hl hG
  have hx := S.1
  have hb := S.2.1
  have hl : lv_has ls 3 [(0, .ref (b + 0)), (1, .int a1)] := hl
  refine lv_bipush (v := 24) hx hb dX11_putFour_0 (by decide) ?_
  refine lv_istore_n (lv' := [(2, .int 24), (0, .ref (b + 0)), (1, .int a1)]) hx hb dX11_putFour_2 rfl hl (by decide) rfl (fun ls hl => ?_)
  refine lv_iload_n hx hb dX11_putFour_3 rfl (lv_at hl 0 rfl) ?_
  refine lv_if_lt (tgt := 46) hx hb dX11_putFour_4 (by decide) (fun c_1 => absurd c_1 (by decide)) (fun c_1 => ?_)
  refine lv_aload_n hx hb dX11_putFour_7 rfl (lv_at hl 1 rfl) ?_
  refine g_get S hG 0 1 h0 cpX11 wm_667 dX11_putFour_8 rfl (by omega) (by decide) ?_
  refine lv_sipush (v := 400) hx hb dX11_putFour_11 (by decide) ?_
  refine lv_icmp_ge (tgt := 46) hx hb dX11_putFour_14 (by decide) (fun c_2 => absurd c_2 (by decide)) (fun c_2 => ?_)
  refine lv_aload_n hx hb dX11_putFour_17 rfl (lv_at hl 1 rfl) ?_
  refine g_get S hG 0 0 h0 cpX11 wm_666 dX11_putFour_18 rfl (by omega) (by decide) ?_
  refine lv_aload_n hx hb dX11_putFour_21 rfl (lv_at hl 1 rfl) ?_
  refine g_get S hG 0 1 h0 cpX11 wm_667 dX11_putFour_22 rfl (by omega) (by decide) ?_
  refine lv_iload_n hx hb dX11_putFour_25 rfl (lv_at hl 2 rfl) ?_
  refine lv_iload_n hx hb dX11_putFour_26 rfl (lv_at hl 0 rfl) ?_
  refine lv_iushr hx hb dX11_putFour_27 rfl ?_
  refine lv_topi (fun x_3 ex_3 => ?_)
  refine lv_i2b hx hb dX11_putFour_28 rfl ?_
  refine g_bast S hG 1 h1 (by omega) dX11_putFour_29 (by unfold vp_in; decide) (fun H locs hG => ?_)
  refine lv_aload_n hx hb dX11_putFour_30 rfl (lv_at hl 1 rfl) ?_
  refine lv_dup hx hb dX11_putFour_31 rfl ?_
  refine g_get S hG 0 1 h0 cpX11 wm_667 dX11_putFour_32 rfl (by omega) (by decide) ?_
  refine lv_iconst (v := 1) hx hb dX11_putFour_35 (by decide) ?_
  refine lv_iadd hx hb dX11_putFour_36 ?_
  refine lv_topi (fun x_4 ex_4 => ?_)
  obtain rfl : x_4 = 9 := ex_4.trans (by decide)
  refine g_put (fs' := [.ref (b + 1), .int 9, .ref (b + 2), .ref (b + 12), .int 0, .int (-1), .ref (b + 33), .ref (b + 40), .ref (b + 47), .ref (b + 60), .ref (b + 67), .ref (b + 73), .ref (b + 80), .ref (b + 81), .ref (b + 82), .int 0, .int 0, .int (-1), .int (-1)]) S hG 0 1 h0 cpX11 wm_667 dX11_putFour_37 rfl (by omega) (by decide) (Nat.le_of_ble_eq_true rfl) rfl rfl rfl (fun H locs hG => ?_)
  refine lv_iinc (v := 16) (lv' := [(2, .int 16), (0, .ref (b + 0)), (1, .int a1)]) hx hb dX11_putFour_40 hl (k := 0) rfl (by decide) (by decide) rfl (fun ls hl => ?_)
  refine lv_goto (tgt := 3) hx hb dX11_putFour_43 (by decide) ?_
  refine lv_iload_n hx hb dX11_putFour_3 rfl (lv_at hl 0 rfl) ?_
  refine lv_if_lt (tgt := 46) hx hb dX11_putFour_4 (by decide) (fun c_5 => absurd c_5 (by decide)) (fun c_5 => ?_)
  refine lv_aload_n hx hb dX11_putFour_7 rfl (lv_at hl 1 rfl) ?_
  refine g_get S hG 0 1 rfl cpX11 wm_667 dX11_putFour_8 rfl (by omega) (by decide) ?_
  refine lv_sipush (v := 400) hx hb dX11_putFour_11 (by decide) ?_
  refine lv_icmp_ge (tgt := 46) hx hb dX11_putFour_14 (by decide) (fun c_6 => absurd c_6 (by decide)) (fun c_6 => ?_)
  refine lv_aload_n hx hb dX11_putFour_17 rfl (lv_at hl 1 rfl) ?_
  refine g_get S hG 0 0 rfl cpX11 wm_666 dX11_putFour_18 rfl (by omega) (by decide) ?_
  refine lv_aload_n hx hb dX11_putFour_21 rfl (lv_at hl 1 rfl) ?_
  refine g_get S hG 0 1 rfl cpX11 wm_667 dX11_putFour_22 rfl (by omega) (by decide) ?_
  refine lv_iload_n hx hb dX11_putFour_25 rfl (lv_at hl 2 rfl) ?_
  refine lv_iload_n hx hb dX11_putFour_26 rfl (lv_at hl 0 rfl) ?_
  refine lv_iushr hx hb dX11_putFour_27 rfl ?_
  refine lv_topi (fun x_7 ex_7 => ?_)
  refine lv_i2b hx hb dX11_putFour_28 rfl ?_
  refine g_bast S hG 1 rfl (by omega) dX11_putFour_29 (by unfold vp_in; decide) (fun H locs hG => ?_)
  refine lv_aload_n hx hb dX11_putFour_30 rfl (lv_at hl 1 rfl) ?_
  refine lv_dup hx hb dX11_putFour_31 rfl ?_
  refine g_get S hG 0 1 rfl cpX11 wm_667 dX11_putFour_32 rfl (by omega) (by decide) ?_
  refine lv_iconst (v := 1) hx hb dX11_putFour_35 (by decide) ?_
  refine lv_iadd hx hb dX11_putFour_36 ?_
  refine lv_topi (fun x_8 ex_8 => ?_)
  obtain rfl : x_8 = 10 := ex_8.trans (by decide)
  refine g_put (fs' := [.ref (b + 1), .int 10, .ref (b + 2), .ref (b + 12), .int 0, .int (-1), .ref (b + 33), .ref (b + 40), .ref (b + 47), .ref (b + 60), .ref (b + 67), .ref (b + 73), .ref (b + 80), .ref (b + 81), .ref (b + 82), .int 0, .int 0, .int (-1), .int (-1)]) S hG 0 1 rfl cpX11 wm_667 dX11_putFour_37 rfl (by omega) (by decide) (Nat.le_of_ble_eq_true rfl) rfl rfl rfl (fun H locs hG => ?_)
  refine lv_iinc (v := 8) (lv' := [(2, .int 8), (0, .ref (b + 0)), (1, .int a1)]) hx hb dX11_putFour_40 hl (k := 0) rfl (by decide) (by decide) rfl (fun ls hl => ?_)
  refine lv_goto (tgt := 3) hx hb dX11_putFour_43 (by decide) ?_
  refine lv_iload_n hx hb dX11_putFour_3 rfl (lv_at hl 0 rfl) ?_
  refine lv_if_lt (tgt := 46) hx hb dX11_putFour_4 (by decide) (fun c_9 => absurd c_9 (by decide)) (fun c_9 => ?_)
  refine lv_aload_n hx hb dX11_putFour_7 rfl (lv_at hl 1 rfl) ?_
  refine g_get S hG 0 1 rfl cpX11 wm_667 dX11_putFour_8 rfl (by omega) (by decide) ?_
  refine lv_sipush (v := 400) hx hb dX11_putFour_11 (by decide) ?_
  refine lv_icmp_ge (tgt := 46) hx hb dX11_putFour_14 (by decide) (fun c_10 => absurd c_10 (by decide)) (fun c_10 => ?_)
  refine lv_aload_n hx hb dX11_putFour_17 rfl (lv_at hl 1 rfl) ?_
  refine g_get S hG 0 0 rfl cpX11 wm_666 dX11_putFour_18 rfl (by omega) (by decide) ?_
  refine lv_aload_n hx hb dX11_putFour_21 rfl (lv_at hl 1 rfl) ?_
  refine g_get S hG 0 1 rfl cpX11 wm_667 dX11_putFour_22 rfl (by omega) (by decide) ?_
  refine lv_iload_n hx hb dX11_putFour_25 rfl (lv_at hl 2 rfl) ?_
  refine lv_iload_n hx hb dX11_putFour_26 rfl (lv_at hl 0 rfl) ?_
  refine lv_iushr hx hb dX11_putFour_27 rfl ?_
  refine lv_topi (fun x_11 ex_11 => ?_)
  refine lv_i2b hx hb dX11_putFour_28 rfl ?_
  refine g_bast S hG 1 rfl (by omega) dX11_putFour_29 (by unfold vp_in; decide) (fun H locs hG => ?_)
  refine lv_aload_n hx hb dX11_putFour_30 rfl (lv_at hl 1 rfl) ?_
  refine lv_dup hx hb dX11_putFour_31 rfl ?_
  refine g_get S hG 0 1 rfl cpX11 wm_667 dX11_putFour_32 rfl (by omega) (by decide) ?_
  refine lv_iconst (v := 1) hx hb dX11_putFour_35 (by decide) ?_
  refine lv_iadd hx hb dX11_putFour_36 ?_
  refine lv_topi (fun x_12 ex_12 => ?_)
  obtain rfl : x_12 = 11 := ex_12.trans (by decide)
  refine g_put (fs' := [.ref (b + 1), .int 11, .ref (b + 2), .ref (b + 12), .int 0, .int (-1), .ref (b + 33), .ref (b + 40), .ref (b + 47), .ref (b + 60), .ref (b + 67), .ref (b + 73), .ref (b + 80), .ref (b + 81), .ref (b + 82), .int 0, .int 0, .int (-1), .int (-1)]) S hG 0 1 rfl cpX11 wm_667 dX11_putFour_37 rfl (by omega) (by decide) (Nat.le_of_ble_eq_true rfl) rfl rfl rfl (fun H locs hG => ?_)
  refine lv_iinc (v := 0) (lv' := [(2, .int 0), (0, .ref (b + 0)), (1, .int a1)]) hx hb dX11_putFour_40 hl (k := 0) rfl (by decide) (by decide) rfl (fun ls hl => ?_)
  refine lv_goto (tgt := 3) hx hb dX11_putFour_43 (by decide) ?_
  refine lv_iload_n hx hb dX11_putFour_3 rfl (lv_at hl 0 rfl) ?_
  refine lv_if_lt (tgt := 46) hx hb dX11_putFour_4 (by decide) (fun c_13 => absurd c_13 (by decide)) (fun c_13 => ?_)
  refine lv_aload_n hx hb dX11_putFour_7 rfl (lv_at hl 1 rfl) ?_
  refine g_get S hG 0 1 rfl cpX11 wm_667 dX11_putFour_8 rfl (by omega) (by decide) ?_
  refine lv_sipush (v := 400) hx hb dX11_putFour_11 (by decide) ?_
  refine lv_icmp_ge (tgt := 46) hx hb dX11_putFour_14 (by decide) (fun c_14 => absurd c_14 (by decide)) (fun c_14 => ?_)
  refine lv_aload_n hx hb dX11_putFour_17 rfl (lv_at hl 1 rfl) ?_
  refine g_get S hG 0 0 rfl cpX11 wm_666 dX11_putFour_18 rfl (by omega) (by decide) ?_
  refine lv_aload_n hx hb dX11_putFour_21 rfl (lv_at hl 1 rfl) ?_
  refine g_get S hG 0 1 rfl cpX11 wm_667 dX11_putFour_22 rfl (by omega) (by decide) ?_
  refine lv_iload_n hx hb dX11_putFour_25 rfl (lv_at hl 2 rfl) ?_
  refine lv_iload_n hx hb dX11_putFour_26 rfl (lv_at hl 0 rfl) ?_
  refine lv_iushr hx hb dX11_putFour_27 rfl ?_
  refine lv_topi (fun x_15 ex_15 => ?_)
  refine lv_i2b hx hb dX11_putFour_28 rfl ?_
  refine g_bast S hG 1 rfl (by omega) dX11_putFour_29 (by unfold vp_in; decide) (fun H locs hG => ?_)
  refine lv_aload_n hx hb dX11_putFour_30 rfl (lv_at hl 1 rfl) ?_
  refine lv_dup hx hb dX11_putFour_31 rfl ?_
  refine g_get S hG 0 1 rfl cpX11 wm_667 dX11_putFour_32 rfl (by omega) (by decide) ?_
  refine lv_iconst (v := 1) hx hb dX11_putFour_35 (by decide) ?_
  refine lv_iadd hx hb dX11_putFour_36 ?_
  refine lv_topi (fun x_16 ex_16 => ?_)
  obtain rfl : x_16 = 12 := ex_16.trans (by decide)
  refine g_put (fs' := [.ref (b + 1), .int 12, .ref (b + 2), .ref (b + 12), .int 0, .int (-1), .ref (b + 33), .ref (b + 40), .ref (b + 47), .ref (b + 60), .ref (b + 67), .ref (b + 73), .ref (b + 80), .ref (b + 81), .ref (b + 82), .int 0, .int 0, .int (-1), .int (-1)]) S hG 0 1 rfl cpX11 wm_667 dX11_putFour_37 rfl (by omega) (by decide) (Nat.le_of_ble_eq_true rfl) rfl rfl rfl (fun H locs hG => ?_)
  refine lv_iinc (v := (-8)) (lv' := [(2, .int (-8)), (0, .ref (b + 0)), (1, .int a1)]) hx hb dX11_putFour_40 hl (k := 0) rfl (by decide) (by decide) rfl (fun ls hl => ?_)
  refine lv_goto (tgt := 3) hx hb dX11_putFour_43 (by decide) ?_
  refine lv_iload_n hx hb dX11_putFour_3 rfl (lv_at hl 0 rfl) ?_
  refine lv_if_lt (tgt := 46) hx hb dX11_putFour_4 (by decide) (fun c_17 => ?_) (fun c_17 => absurd c_17 (by decide))
  exact g_vret S hr hlk hG (by omega) dX11_putFour_46 ⟨Nat.le_of_ble_eq_true rfl, Nat.le_of_ble_eq_true rfl⟩ ⟨rfl, fun j hj0 hj1 => (upE_n (by omega)).trans ((upE_n (by omega)).trans ((upE_n (by omega)).trans ((upE_n (by omega)).trans ((upE_n (by omega)).trans ((upE_n (by omega)).trans ((upE_n (by omega)).trans ((upE_n (by omega)).trans (rfl)))))))), rfl, ⟨_, rfl⟩⟩
set_option maxHeartbeats 4000000 in
set_option maxRecDepth 100000 in
theorem qX11_putFour_12 (l : Launch) {D : va_G} {cy : Nat → ClassId} {b n : Nat} (hn : 105 ≤ n) {E : Nat → va_E} {f1 : Nat → Int32} (h0 : E 0 = .inr (11, [.ref (b + 1), .int 12, .ref (b + 2), .ref (b + 12), .int 0, .int (-1), .ref (b + 33), .ref (b + 40), .ref (b + 47), .ref (b + 60), .ref (b + 67), .ref (b + 73), .ref (b + 80), .ref (b + 81), .ref (b + 82), .int 0, .int 0, .int (-1), .int (-1)])) (h1 : E 1 = .inl (cy 0, 400, .inl f1))  (a1 : Int32) : gV l yX11_putFour cX11_putFour 3 0 0 0 D cy b n E [.ref (b + 0), .int a1] (fun u => u.1 = n ∧ (∀ j, j ≠ 0 → j ≠ 1 → u.2 j = E j) ∧ u.2 0 = .inr (11, [.ref (b + 1), .int 16, .ref (b + 2), .ref (b + 12), .int 0, .int (-1), .ref (b + 33), .ref (b + 40), .ref (b + 47), .ref (b + 60), .ref (b + 67), .ref (b + 73), .ref (b + 80), .ref (b + 81), .ref (b + 82), .int 0, .int 0, .int (-1), .int (-1)]) ∧ (∃ f : Nat → Int32, u.2 1 = .inl (cy 0, 400, .inl f))) := by
  refine gV_of (by decide) (Nat.le_of_ble_eq_true rfl) ?_
  intro p e s m args below meth c S hr hlk hin hsz ls hl hG
  have hx := S.1
  have hb := S.2.1
  have hl : lv_has ls 3 [(0, .ref (b + 0)), (1, .int a1)] := hl
  refine lv_bipush (v := 24) hx hb dX11_putFour_0 (by decide) ?_
  refine lv_istore_n (lv' := [(2, .int 24), (0, .ref (b + 0)), (1, .int a1)]) hx hb dX11_putFour_2 rfl hl (by decide) rfl (fun ls hl => ?_)
  refine lv_iload_n hx hb dX11_putFour_3 rfl (lv_at hl 0 rfl) ?_
  refine lv_if_lt (tgt := 46) hx hb dX11_putFour_4 (by decide) (fun c_1 => absurd c_1 (by decide)) (fun c_1 => ?_)
  refine lv_aload_n hx hb dX11_putFour_7 rfl (lv_at hl 1 rfl) ?_
  refine g_get S hG 0 1 h0 cpX11 wm_667 dX11_putFour_8 rfl (by omega) (by decide) ?_
  refine lv_sipush (v := 400) hx hb dX11_putFour_11 (by decide) ?_
  refine lv_icmp_ge (tgt := 46) hx hb dX11_putFour_14 (by decide) (fun c_2 => absurd c_2 (by decide)) (fun c_2 => ?_)
  refine lv_aload_n hx hb dX11_putFour_17 rfl (lv_at hl 1 rfl) ?_
  refine g_get S hG 0 0 h0 cpX11 wm_666 dX11_putFour_18 rfl (by omega) (by decide) ?_
  refine lv_aload_n hx hb dX11_putFour_21 rfl (lv_at hl 1 rfl) ?_
  refine g_get S hG 0 1 h0 cpX11 wm_667 dX11_putFour_22 rfl (by omega) (by decide) ?_
  refine lv_iload_n hx hb dX11_putFour_25 rfl (lv_at hl 2 rfl) ?_
  refine lv_iload_n hx hb dX11_putFour_26 rfl (lv_at hl 0 rfl) ?_
  refine lv_iushr hx hb dX11_putFour_27 rfl ?_
  refine lv_topi (fun x_3 ex_3 => ?_)
  refine lv_i2b hx hb dX11_putFour_28 rfl ?_
  refine g_bast S hG 1 h1 (by omega) dX11_putFour_29 (by unfold vp_in; decide) (fun H locs hG => ?_)
  refine lv_aload_n hx hb dX11_putFour_30 rfl (lv_at hl 1 rfl) ?_
  refine lv_dup hx hb dX11_putFour_31 rfl ?_
  refine g_get S hG 0 1 h0 cpX11 wm_667 dX11_putFour_32 rfl (by omega) (by decide) ?_
  refine lv_iconst (v := 1) hx hb dX11_putFour_35 (by decide) ?_
  refine lv_iadd hx hb dX11_putFour_36 ?_
  refine lv_topi (fun x_4 ex_4 => ?_)
  obtain rfl : x_4 = 13 := ex_4.trans (by decide)
  refine g_put (fs' := [.ref (b + 1), .int 13, .ref (b + 2), .ref (b + 12), .int 0, .int (-1), .ref (b + 33), .ref (b + 40), .ref (b + 47), .ref (b + 60), .ref (b + 67), .ref (b + 73), .ref (b + 80), .ref (b + 81), .ref (b + 82), .int 0, .int 0, .int (-1), .int (-1)]) S hG 0 1 h0 cpX11 wm_667 dX11_putFour_37 rfl (by omega) (by decide) (Nat.le_of_ble_eq_true rfl) rfl rfl rfl (fun H locs hG => ?_)
  refine lv_iinc (v := 16) (lv' := [(2, .int 16), (0, .ref (b + 0)), (1, .int a1)]) hx hb dX11_putFour_40 hl (k := 0) rfl (by decide) (by decide) rfl (fun ls hl => ?_)
  refine lv_goto (tgt := 3) hx hb dX11_putFour_43 (by decide) ?_
  refine lv_iload_n hx hb dX11_putFour_3 rfl (lv_at hl 0 rfl) ?_
  refine lv_if_lt (tgt := 46) hx hb dX11_putFour_4 (by decide) (fun c_5 => absurd c_5 (by decide)) (fun c_5 => ?_)
  refine lv_aload_n hx hb dX11_putFour_7 rfl (lv_at hl 1 rfl) ?_
  refine g_get S hG 0 1 rfl cpX11 wm_667 dX11_putFour_8 rfl (by omega) (by decide) ?_
  refine lv_sipush (v := 400) hx hb dX11_putFour_11 (by decide) ?_
  refine lv_icmp_ge (tgt := 46) hx hb dX11_putFour_14 (by decide) (fun c_6 => absurd c_6 (by decide)) (fun c_6 => ?_)
  refine lv_aload_n hx hb dX11_putFour_17 rfl (lv_at hl 1 rfl) ?_
  refine g_get S hG 0 0 rfl cpX11 wm_666 dX11_putFour_18 rfl (by omega) (by decide) ?_
  refine lv_aload_n hx hb dX11_putFour_21 rfl (lv_at hl 1 rfl) ?_
  refine g_get S hG 0 1 rfl cpX11 wm_667 dX11_putFour_22 rfl (by omega) (by decide) ?_
  refine lv_iload_n hx hb dX11_putFour_25 rfl (lv_at hl 2 rfl) ?_
  refine lv_iload_n hx hb dX11_putFour_26 rfl (lv_at hl 0 rfl) ?_
  refine lv_iushr hx hb dX11_putFour_27 rfl ?_
  refine lv_topi (fun x_7 ex_7 => ?_)
  refine lv_i2b hx hb dX11_putFour_28 rfl ?_
  refine g_bast S hG 1 rfl (by omega) dX11_putFour_29 (by unfold vp_in; decide) (fun H locs hG => ?_)
  refine lv_aload_n hx hb dX11_putFour_30 rfl (lv_at hl 1 rfl) ?_
  refine lv_dup hx hb dX11_putFour_31 rfl ?_
  refine g_get S hG 0 1 rfl cpX11 wm_667 dX11_putFour_32 rfl (by omega) (by decide) ?_
  refine lv_iconst (v := 1) hx hb dX11_putFour_35 (by decide) ?_
  refine lv_iadd hx hb dX11_putFour_36 ?_
  refine lv_topi (fun x_8 ex_8 => ?_)
  obtain rfl : x_8 = 14 := ex_8.trans (by decide)
  refine g_put (fs' := [.ref (b + 1), .int 14, .ref (b + 2), .ref (b + 12), .int 0, .int (-1), .ref (b + 33), .ref (b + 40), .ref (b + 47), .ref (b + 60), .ref (b + 67), .ref (b + 73), .ref (b + 80), .ref (b + 81), .ref (b + 82), .int 0, .int 0, .int (-1), .int (-1)]) S hG 0 1 rfl cpX11 wm_667 dX11_putFour_37 rfl (by omega) (by decide) (Nat.le_of_ble_eq_true rfl) rfl rfl rfl (fun H locs hG => ?_)
  refine lv_iinc (v := 8) (lv' := [(2, .int 8), (0, .ref (b + 0)), (1, .int a1)]) hx hb dX11_putFour_40 hl (k := 0) rfl (by decide) (by decide) rfl (fun ls hl => ?_)
  refine lv_goto (tgt := 3) hx hb dX11_putFour_43 (by decide) ?_
  refine lv_iload_n hx hb dX11_putFour_3 rfl (lv_at hl 0 rfl) ?_
  refine lv_if_lt (tgt := 46) hx hb dX11_putFour_4 (by decide) (fun c_9 => absurd c_9 (by decide)) (fun c_9 => ?_)
  refine lv_aload_n hx hb dX11_putFour_7 rfl (lv_at hl 1 rfl) ?_
  refine g_get S hG 0 1 rfl cpX11 wm_667 dX11_putFour_8 rfl (by omega) (by decide) ?_
  refine lv_sipush (v := 400) hx hb dX11_putFour_11 (by decide) ?_
  refine lv_icmp_ge (tgt := 46) hx hb dX11_putFour_14 (by decide) (fun c_10 => absurd c_10 (by decide)) (fun c_10 => ?_)
  refine lv_aload_n hx hb dX11_putFour_17 rfl (lv_at hl 1 rfl) ?_
  refine g_get S hG 0 0 rfl cpX11 wm_666 dX11_putFour_18 rfl (by omega) (by decide) ?_
  refine lv_aload_n hx hb dX11_putFour_21 rfl (lv_at hl 1 rfl) ?_
  refine g_get S hG 0 1 rfl cpX11 wm_667 dX11_putFour_22 rfl (by omega) (by decide) ?_
  refine lv_iload_n hx hb dX11_putFour_25 rfl (lv_at hl 2 rfl) ?_
  refine lv_iload_n hx hb dX11_putFour_26 rfl (lv_at hl 0 rfl) ?_
  refine lv_iushr hx hb dX11_putFour_27 rfl ?_
  refine lv_topi (fun x_11 ex_11 => ?_)
  refine lv_i2b hx hb dX11_putFour_28 rfl ?_
  refine g_bast S hG 1 rfl (by omega) dX11_putFour_29 (by unfold vp_in; decide) (fun H locs hG => ?_)
  refine lv_aload_n hx hb dX11_putFour_30 rfl (lv_at hl 1 rfl) ?_
  refine lv_dup hx hb dX11_putFour_31 rfl ?_
  refine g_get S hG 0 1 rfl cpX11 wm_667 dX11_putFour_32 rfl (by omega) (by decide) ?_
  refine lv_iconst (v := 1) hx hb dX11_putFour_35 (by decide) ?_
  refine lv_iadd hx hb dX11_putFour_36 ?_
  refine lv_topi (fun x_12 ex_12 => ?_)
  obtain rfl : x_12 = 15 := ex_12.trans (by decide)
  refine g_put (fs' := [.ref (b + 1), .int 15, .ref (b + 2), .ref (b + 12), .int 0, .int (-1), .ref (b + 33), .ref (b + 40), .ref (b + 47), .ref (b + 60), .ref (b + 67), .ref (b + 73), .ref (b + 80), .ref (b + 81), .ref (b + 82), .int 0, .int 0, .int (-1), .int (-1)]) S hG 0 1 rfl cpX11 wm_667 dX11_putFour_37 rfl (by omega) (by decide) (Nat.le_of_ble_eq_true rfl) rfl rfl rfl (fun H locs hG => ?_)
  refine lv_iinc (v := 0) (lv' := [(2, .int 0), (0, .ref (b + 0)), (1, .int a1)]) hx hb dX11_putFour_40 hl (k := 0) rfl (by decide) (by decide) rfl (fun ls hl => ?_)
  refine lv_goto (tgt := 3) hx hb dX11_putFour_43 (by decide) ?_
  refine lv_iload_n hx hb dX11_putFour_3 rfl (lv_at hl 0 rfl) ?_
  refine lv_if_lt (tgt := 46) hx hb dX11_putFour_4 (by decide) (fun c_13 => absurd c_13 (by decide)) (fun c_13 => ?_)
  refine lv_aload_n hx hb dX11_putFour_7 rfl (lv_at hl 1 rfl) ?_
  refine g_get S hG 0 1 rfl cpX11 wm_667 dX11_putFour_8 rfl (by omega) (by decide) ?_
  refine lv_sipush (v := 400) hx hb dX11_putFour_11 (by decide) ?_
  refine lv_icmp_ge (tgt := 46) hx hb dX11_putFour_14 (by decide) (fun c_14 => absurd c_14 (by decide)) (fun c_14 => ?_)
  refine lv_aload_n hx hb dX11_putFour_17 rfl (lv_at hl 1 rfl) ?_
  refine g_get S hG 0 0 rfl cpX11 wm_666 dX11_putFour_18 rfl (by omega) (by decide) ?_
  refine lv_aload_n hx hb dX11_putFour_21 rfl (lv_at hl 1 rfl) ?_
  refine g_get S hG 0 1 rfl cpX11 wm_667 dX11_putFour_22 rfl (by omega) (by decide) ?_
  refine lv_iload_n hx hb dX11_putFour_25 rfl (lv_at hl 2 rfl) ?_
  refine lv_iload_n hx hb dX11_putFour_26 rfl (lv_at hl 0 rfl) ?_
  refine lv_iushr hx hb dX11_putFour_27 rfl ?_
  refine lv_topi (fun x_15 ex_15 => ?_)
  refine lv_i2b hx hb dX11_putFour_28 rfl ?_
  refine g_bast S hG 1 rfl (by omega) dX11_putFour_29 (by unfold vp_in; decide) (fun H locs hG => ?_)
  refine lv_aload_n hx hb dX11_putFour_30 rfl (lv_at hl 1 rfl) ?_
  refine lv_dup hx hb dX11_putFour_31 rfl ?_
  refine g_get S hG 0 1 rfl cpX11 wm_667 dX11_putFour_32 rfl (by omega) (by decide) ?_
  refine lv_iconst (v := 1) hx hb dX11_putFour_35 (by decide) ?_
  refine lv_iadd hx hb dX11_putFour_36 ?_
  refine lv_topi (fun x_16 ex_16 => ?_)
  obtain rfl : x_16 = 16 := ex_16.trans (by decide)
  refine g_put (fs' := [.ref (b + 1), .int 16, .ref (b + 2), .ref (b + 12), .int 0, .int (-1), .ref (b + 33), .ref (b + 40), .ref (b + 47), .ref (b + 60), .ref (b + 67), .ref (b + 73), .ref (b + 80), .ref (b + 81), .ref (b + 82), .int 0, .int 0, .int (-1), .int (-1)]) S hG 0 1 rfl cpX11 wm_667 dX11_putFour_37 rfl (by omega) (by decide) (Nat.le_of_ble_eq_true rfl) rfl rfl rfl (fun H locs hG => ?_)
  refine lv_iinc (v := (-8)) (lv' := [(2, .int (-8)), (0, .ref (b + 0)), (1, .int a1)]) hx hb dX11_putFour_40 hl (k := 0) rfl (by decide) (by decide) rfl (fun ls hl => ?_)
  refine lv_goto (tgt := 3) hx hb dX11_putFour_43 (by decide) ?_
  refine lv_iload_n hx hb dX11_putFour_3 rfl (lv_at hl 0 rfl) ?_
  refine lv_if_lt (tgt := 46) hx hb dX11_putFour_4 (by decide) (fun c_17 => ?_) (fun c_17 => absurd c_17 (by decide))
  exact g_vret S hr hlk hG (by omega) dX11_putFour_46 ⟨Nat.le_of_ble_eq_true rfl, Nat.le_of_ble_eq_true rfl⟩ ⟨rfl, fun j hj0 hj1 => (upE_n (by omega)).trans ((upE_n (by omega)).trans ((upE_n (by omega)).trans ((upE_n (by omega)).trans ((upE_n (by omega)).trans ((upE_n (by omega)).trans ((upE_n (by omega)).trans ((upE_n (by omega)).trans (rfl)))))))), rfl, ⟨_, rfl⟩⟩
set_option maxHeartbeats 4000000 in
set_option maxRecDepth 100000 in
theorem qX11_putFour_16 (l : Launch) {D : va_G} {cy : Nat → ClassId} {b n : Nat} (hn : 105 ≤ n) {E : Nat → va_E} {f1 : Nat → Int32} (h0 : E 0 = .inr (11, [.ref (b + 1), .int 16, .ref (b + 2), .ref (b + 12), .int 0, .int (-1), .ref (b + 33), .ref (b + 40), .ref (b + 47), .ref (b + 60), .ref (b + 67), .ref (b + 73), .ref (b + 80), .ref (b + 81), .ref (b + 82), .int 0, .int 0, .int (-1), .int (-1)])) (h1 : E 1 = .inl (cy 0, 400, .inl f1))  (a1 : Int32) : gV l yX11_putFour cX11_putFour 3 0 0 0 D cy b n E [.ref (b + 0), .int a1] (fun u => u.1 = n ∧ (∀ j, j ≠ 0 → j ≠ 1 → u.2 j = E j) ∧ u.2 0 = .inr (11, [.ref (b + 1), .int 20, .ref (b + 2), .ref (b + 12), .int 0, .int (-1), .ref (b + 33), .ref (b + 40), .ref (b + 47), .ref (b + 60), .ref (b + 67), .ref (b + 73), .ref (b + 80), .ref (b + 81), .ref (b + 82), .int 0, .int 0, .int (-1), .int (-1)]) ∧ (∃ f : Nat → Int32, u.2 1 = .inl (cy 0, 400, .inl f))) := by
  refine gV_of (by decide) (Nat.le_of_ble_eq_true rfl) ?_
  intro p e s m args below meth c S hr hlk hin hsz ls hl hG
  have hx := S.1
  have hb := S.2.1
  have hl : lv_has ls 3 [(0, .ref (b + 0)), (1, .int a1)] := hl
  refine lv_bipush (v := 24) hx hb dX11_putFour_0 (by decide) ?_
  refine lv_istore_n (lv' := [(2, .int 24), (0, .ref (b + 0)), (1, .int a1)]) hx hb dX11_putFour_2 rfl hl (by decide) rfl (fun ls hl => ?_)
  refine lv_iload_n hx hb dX11_putFour_3 rfl (lv_at hl 0 rfl) ?_
  refine lv_if_lt (tgt := 46) hx hb dX11_putFour_4 (by decide) (fun c_1 => absurd c_1 (by decide)) (fun c_1 => ?_)
  refine lv_aload_n hx hb dX11_putFour_7 rfl (lv_at hl 1 rfl) ?_
  refine g_get S hG 0 1 h0 cpX11 wm_667 dX11_putFour_8 rfl (by omega) (by decide) ?_
  refine lv_sipush (v := 400) hx hb dX11_putFour_11 (by decide) ?_
  refine lv_icmp_ge (tgt := 46) hx hb dX11_putFour_14 (by decide) (fun c_2 => absurd c_2 (by decide)) (fun c_2 => ?_)
  refine lv_aload_n hx hb dX11_putFour_17 rfl (lv_at hl 1 rfl) ?_
  refine g_get S hG 0 0 h0 cpX11 wm_666 dX11_putFour_18 rfl (by omega) (by decide) ?_
  refine lv_aload_n hx hb dX11_putFour_21 rfl (lv_at hl 1 rfl) ?_
  refine g_get S hG 0 1 h0 cpX11 wm_667 dX11_putFour_22 rfl (by omega) (by decide) ?_
  refine lv_iload_n hx hb dX11_putFour_25 rfl (lv_at hl 2 rfl) ?_
  refine lv_iload_n hx hb dX11_putFour_26 rfl (lv_at hl 0 rfl) ?_
  refine lv_iushr hx hb dX11_putFour_27 rfl ?_
  refine lv_topi (fun x_3 ex_3 => ?_)
  refine lv_i2b hx hb dX11_putFour_28 rfl ?_
  refine g_bast S hG 1 h1 (by omega) dX11_putFour_29 (by unfold vp_in; decide) (fun H locs hG => ?_)
  refine lv_aload_n hx hb dX11_putFour_30 rfl (lv_at hl 1 rfl) ?_
  refine lv_dup hx hb dX11_putFour_31 rfl ?_
  refine g_get S hG 0 1 h0 cpX11 wm_667 dX11_putFour_32 rfl (by omega) (by decide) ?_
  refine lv_iconst (v := 1) hx hb dX11_putFour_35 (by decide) ?_
  refine lv_iadd hx hb dX11_putFour_36 ?_
  refine lv_topi (fun x_4 ex_4 => ?_)
  obtain rfl : x_4 = 17 := ex_4.trans (by decide)
  refine g_put (fs' := [.ref (b + 1), .int 17, .ref (b + 2), .ref (b + 12), .int 0, .int (-1), .ref (b + 33), .ref (b + 40), .ref (b + 47), .ref (b + 60), .ref (b + 67), .ref (b + 73), .ref (b + 80), .ref (b + 81), .ref (b + 82), .int 0, .int 0, .int (-1), .int (-1)]) S hG 0 1 h0 cpX11 wm_667 dX11_putFour_37 rfl (by omega) (by decide) (Nat.le_of_ble_eq_true rfl) rfl rfl rfl (fun H locs hG => ?_)
  refine lv_iinc (v := 16) (lv' := [(2, .int 16), (0, .ref (b + 0)), (1, .int a1)]) hx hb dX11_putFour_40 hl (k := 0) rfl (by decide) (by decide) rfl (fun ls hl => ?_)
  refine lv_goto (tgt := 3) hx hb dX11_putFour_43 (by decide) ?_
  refine lv_iload_n hx hb dX11_putFour_3 rfl (lv_at hl 0 rfl) ?_
  refine lv_if_lt (tgt := 46) hx hb dX11_putFour_4 (by decide) (fun c_5 => absurd c_5 (by decide)) (fun c_5 => ?_)
  refine lv_aload_n hx hb dX11_putFour_7 rfl (lv_at hl 1 rfl) ?_
  refine g_get S hG 0 1 rfl cpX11 wm_667 dX11_putFour_8 rfl (by omega) (by decide) ?_
  refine lv_sipush (v := 400) hx hb dX11_putFour_11 (by decide) ?_
  refine lv_icmp_ge (tgt := 46) hx hb dX11_putFour_14 (by decide) (fun c_6 => absurd c_6 (by decide)) (fun c_6 => ?_)
  refine lv_aload_n hx hb dX11_putFour_17 rfl (lv_at hl 1 rfl) ?_
  refine g_get S hG 0 0 rfl cpX11 wm_666 dX11_putFour_18 rfl (by omega) (by decide) ?_
  refine lv_aload_n hx hb dX11_putFour_21 rfl (lv_at hl 1 rfl) ?_
  refine g_get S hG 0 1 rfl cpX11 wm_667 dX11_putFour_22 rfl (by omega) (by decide) ?_
  refine lv_iload_n hx hb dX11_putFour_25 rfl (lv_at hl 2 rfl) ?_
  refine lv_iload_n hx hb dX11_putFour_26 rfl (lv_at hl 0 rfl) ?_
  refine lv_iushr hx hb dX11_putFour_27 rfl ?_
  refine lv_topi (fun x_7 ex_7 => ?_)
  refine lv_i2b hx hb dX11_putFour_28 rfl ?_
  refine g_bast S hG 1 rfl (by omega) dX11_putFour_29 (by unfold vp_in; decide) (fun H locs hG => ?_)
  refine lv_aload_n hx hb dX11_putFour_30 rfl (lv_at hl 1 rfl) ?_
  refine lv_dup hx hb dX11_putFour_31 rfl ?_
  refine g_get S hG 0 1 rfl cpX11 wm_667 dX11_putFour_32 rfl (by omega) (by decide) ?_
  refine lv_iconst (v := 1) hx hb dX11_putFour_35 (by decide) ?_
  refine lv_iadd hx hb dX11_putFour_36 ?_
  refine lv_topi (fun x_8 ex_8 => ?_)
  obtain rfl : x_8 = 18 := ex_8.trans (by decide)
  refine g_put (fs' := [.ref (b + 1), .int 18, .ref (b + 2), .ref (b + 12), .int 0, .int (-1), .ref (b + 33), .ref (b + 40), .ref (b + 47), .ref (b + 60), .ref (b + 67), .ref (b + 73), .ref (b + 80), .ref (b + 81), .ref (b + 82), .int 0, .int 0, .int (-1), .int (-1)]) S hG 0 1 rfl cpX11 wm_667 dX11_putFour_37 rfl (by omega) (by decide) (Nat.le_of_ble_eq_true rfl) rfl rfl rfl (fun H locs hG => ?_)
  refine lv_iinc (v := 8) (lv' := [(2, .int 8), (0, .ref (b + 0)), (1, .int a1)]) hx hb dX11_putFour_40 hl (k := 0) rfl (by decide) (by decide) rfl (fun ls hl => ?_)
  refine lv_goto (tgt := 3) hx hb dX11_putFour_43 (by decide) ?_
  refine lv_iload_n hx hb dX11_putFour_3 rfl (lv_at hl 0 rfl) ?_
  refine lv_if_lt (tgt := 46) hx hb dX11_putFour_4 (by decide) (fun c_9 => absurd c_9 (by decide)) (fun c_9 => ?_)
  refine lv_aload_n hx hb dX11_putFour_7 rfl (lv_at hl 1 rfl) ?_
  refine g_get S hG 0 1 rfl cpX11 wm_667 dX11_putFour_8 rfl (by omega) (by decide) ?_
  refine lv_sipush (v := 400) hx hb dX11_putFour_11 (by decide) ?_
  refine lv_icmp_ge (tgt := 46) hx hb dX11_putFour_14 (by decide) (fun c_10 => absurd c_10 (by decide)) (fun c_10 => ?_)
  refine lv_aload_n hx hb dX11_putFour_17 rfl (lv_at hl 1 rfl) ?_
  refine g_get S hG 0 0 rfl cpX11 wm_666 dX11_putFour_18 rfl (by omega) (by decide) ?_
  refine lv_aload_n hx hb dX11_putFour_21 rfl (lv_at hl 1 rfl) ?_
  refine g_get S hG 0 1 rfl cpX11 wm_667 dX11_putFour_22 rfl (by omega) (by decide) ?_
  refine lv_iload_n hx hb dX11_putFour_25 rfl (lv_at hl 2 rfl) ?_
  refine lv_iload_n hx hb dX11_putFour_26 rfl (lv_at hl 0 rfl) ?_
  refine lv_iushr hx hb dX11_putFour_27 rfl ?_
  refine lv_topi (fun x_11 ex_11 => ?_)
  refine lv_i2b hx hb dX11_putFour_28 rfl ?_
  refine g_bast S hG 1 rfl (by omega) dX11_putFour_29 (by unfold vp_in; decide) (fun H locs hG => ?_)
  refine lv_aload_n hx hb dX11_putFour_30 rfl (lv_at hl 1 rfl) ?_
  refine lv_dup hx hb dX11_putFour_31 rfl ?_
  refine g_get S hG 0 1 rfl cpX11 wm_667 dX11_putFour_32 rfl (by omega) (by decide) ?_
  refine lv_iconst (v := 1) hx hb dX11_putFour_35 (by decide) ?_
  refine lv_iadd hx hb dX11_putFour_36 ?_
  refine lv_topi (fun x_12 ex_12 => ?_)
  obtain rfl : x_12 = 19 := ex_12.trans (by decide)
  refine g_put (fs' := [.ref (b + 1), .int 19, .ref (b + 2), .ref (b + 12), .int 0, .int (-1), .ref (b + 33), .ref (b + 40), .ref (b + 47), .ref (b + 60), .ref (b + 67), .ref (b + 73), .ref (b + 80), .ref (b + 81), .ref (b + 82), .int 0, .int 0, .int (-1), .int (-1)]) S hG 0 1 rfl cpX11 wm_667 dX11_putFour_37 rfl (by omega) (by decide) (Nat.le_of_ble_eq_true rfl) rfl rfl rfl (fun H locs hG => ?_)
  refine lv_iinc (v := 0) (lv' := [(2, .int 0), (0, .ref (b + 0)), (1, .int a1)]) hx hb dX11_putFour_40 hl (k := 0) rfl (by decide) (by decide) rfl (fun ls hl => ?_)
  refine lv_goto (tgt := 3) hx hb dX11_putFour_43 (by decide) ?_
  refine lv_iload_n hx hb dX11_putFour_3 rfl (lv_at hl 0 rfl) ?_
  refine lv_if_lt (tgt := 46) hx hb dX11_putFour_4 (by decide) (fun c_13 => absurd c_13 (by decide)) (fun c_13 => ?_)
  refine lv_aload_n hx hb dX11_putFour_7 rfl (lv_at hl 1 rfl) ?_
  refine g_get S hG 0 1 rfl cpX11 wm_667 dX11_putFour_8 rfl (by omega) (by decide) ?_
  refine lv_sipush (v := 400) hx hb dX11_putFour_11 (by decide) ?_
  refine lv_icmp_ge (tgt := 46) hx hb dX11_putFour_14 (by decide) (fun c_14 => absurd c_14 (by decide)) (fun c_14 => ?_)
  refine lv_aload_n hx hb dX11_putFour_17 rfl (lv_at hl 1 rfl) ?_
  refine g_get S hG 0 0 rfl cpX11 wm_666 dX11_putFour_18 rfl (by omega) (by decide) ?_
  refine lv_aload_n hx hb dX11_putFour_21 rfl (lv_at hl 1 rfl) ?_
  refine g_get S hG 0 1 rfl cpX11 wm_667 dX11_putFour_22 rfl (by omega) (by decide) ?_
  refine lv_iload_n hx hb dX11_putFour_25 rfl (lv_at hl 2 rfl) ?_
  refine lv_iload_n hx hb dX11_putFour_26 rfl (lv_at hl 0 rfl) ?_
  refine lv_iushr hx hb dX11_putFour_27 rfl ?_
  refine lv_topi (fun x_15 ex_15 => ?_)
  refine lv_i2b hx hb dX11_putFour_28 rfl ?_
  refine g_bast S hG 1 rfl (by omega) dX11_putFour_29 (by unfold vp_in; decide) (fun H locs hG => ?_)
  refine lv_aload_n hx hb dX11_putFour_30 rfl (lv_at hl 1 rfl) ?_
  refine lv_dup hx hb dX11_putFour_31 rfl ?_
  refine g_get S hG 0 1 rfl cpX11 wm_667 dX11_putFour_32 rfl (by omega) (by decide) ?_
  refine lv_iconst (v := 1) hx hb dX11_putFour_35 (by decide) ?_
  refine lv_iadd hx hb dX11_putFour_36 ?_
  refine lv_topi (fun x_16 ex_16 => ?_)
  obtain rfl : x_16 = 20 := ex_16.trans (by decide)
  refine g_put (fs' := [.ref (b + 1), .int 20, .ref (b + 2), .ref (b + 12), .int 0, .int (-1), .ref (b + 33), .ref (b + 40), .ref (b + 47), .ref (b + 60), .ref (b + 67), .ref (b + 73), .ref (b + 80), .ref (b + 81), .ref (b + 82), .int 0, .int 0, .int (-1), .int (-1)]) S hG 0 1 rfl cpX11 wm_667 dX11_putFour_37 rfl (by omega) (by decide) (Nat.le_of_ble_eq_true rfl) rfl rfl rfl (fun H locs hG => ?_)
  refine lv_iinc (v := (-8)) (lv' := [(2, .int (-8)), (0, .ref (b + 0)), (1, .int a1)]) hx hb dX11_putFour_40 hl (k := 0) rfl (by decide) (by decide) rfl (fun ls hl => ?_)
  refine lv_goto (tgt := 3) hx hb dX11_putFour_43 (by decide) ?_
  refine lv_iload_n hx hb dX11_putFour_3 rfl (lv_at hl 0 rfl) ?_
  refine lv_if_lt (tgt := 46) hx hb dX11_putFour_4 (by decide) (fun c_17 => ?_) (fun c_17 => absurd c_17 (by decide))
  exact g_vret S hr hlk hG (by omega) dX11_putFour_46 ⟨Nat.le_of_ble_eq_true rfl, Nat.le_of_ble_eq_true rfl⟩ ⟨rfl, fun j hj0 hj1 => (upE_n (by omega)).trans ((upE_n (by omega)).trans ((upE_n (by omega)).trans ((upE_n (by omega)).trans ((upE_n (by omega)).trans ((upE_n (by omega)).trans ((upE_n (by omega)).trans ((upE_n (by omega)).trans (rfl)))))))), rfl, ⟨_, rfl⟩⟩
theorem wV_11_120 : gWV "GrownKinds" 120 yX11_putFour cX11_putFour 3 none := ⟨wm_728, wm_730, wm_0, wm_176, wm_731, by decide +kernel, by decide +kernel⟩
set_option maxHeartbeats 4000000 in
set_option maxRecDepth 100000 in
theorem qX11_feed (l : Launch) {D : va_G} {cy : Nat → ClassId} {b n : Nat} (hn : 105 ≤ n) {E : Nat → va_E}  (h0 : E 0 = Z0 b cy) (h1 : E 1 = Z1 b cy)  (a1 : Int32) (a2 : Int32) (a3 : Int32) (a4 : Int32) (a5 : Int32) : gI l yX11_feed cX11_feed 6 (some .int) 1 0 0 D cy b n E [.ref (b + 0), .int a1, .int a2, .int a3, .int a4, .int a5] (fun r _ => r = 20) := by
  refine gI_of (by decide) (Nat.le_of_ble_eq_true rfl) ?_
  intro p e s m args below meth c S hr hlk hin hsz ls hl hG
  have hx := S.1
  have hb := S.2.1
  have hl : lv_has ls 6 [(0, .ref (b + 0)), (1, .int a1), (2, .int a2), (3, .int a3), (4, .int a4), (5, .int a5)] := hl
  refine lv_aload_n hx hb dX11_feed_0 rfl (lv_at hl 0 rfl) ?_
  refine g_get S hG 0 1 h0 cpX11 wm_667 dX11_feed_1 rfl (by omega) (by decide) ?_
  refine lv_bipush (v := 20) hx hb dX11_feed_4 (by decide) ?_
  refine lv_iadd hx hb dX11_feed_6 ?_
  refine lv_topi (fun x_1 ex_1 => ?_)
  obtain rfl : x_1 = 20 := ex_1.trans (by decide)
  refine lv_sipush (v := 400) hx hb dX11_feed_7 (by decide) ?_
  refine lv_icmp_le (tgt := 15) hx hb dX11_feed_10 (by decide) (fun c_2 => ?_) (fun c_2 => absurd c_2 (by decide))
  refine lv_aload_n hx hb dX11_feed_15 rfl (lv_at hl 0 rfl) ?_
  refine lv_iload_n hx hb dX11_feed_16 rfl (lv_at hl 1 rfl) ?_
  refine g_vv (As := [.int a1]) (rest := []) S hG (by omega) (qX11_putFour_0 l hn (by exact h0) (by exact h1) a1) wV_11_120 h0 cpX11 (by omega) dX11_feed_17 rfl hl.1 (ar := 1) (by decide +kernel) rfl ⟨Nat.le_of_ble_eq_true rfl, Nat.le_of_ble_eq_true rfl, Nat.le_of_ble_eq_true rfl, Nat.le_of_ble_eq_true rfl⟩ (Nat.le_of_ble_eq_true rfl) (fun u_E_3 H locs hp_4 hG => ?_)
  obtain ⟨n_E_3, E_3⟩ := u_E_3
  dsimp only at hp_4 hG
  obtain ⟨en_6, hlo_5, g_7, ⟨F_9, g_8⟩⟩ := hp_4
  have hG := gW_eq2 hG en_6 rfl
  refine lv_aload_n hx hb dX11_feed_20 rfl (lv_at hl 0 rfl) ?_
  refine lv_iload_n hx hb dX11_feed_21 rfl (lv_at hl 2 rfl) ?_
  refine g_vv (As := [.int a2]) (rest := []) S hG (by omega) (qX11_putFour_4 l hn (by exact g_7) (by exact g_8) a2) wV_11_120 g_7 cpX11 (by omega) dX11_feed_22 rfl hl.1 (ar := 1) (by decide +kernel) rfl ⟨Nat.le_of_ble_eq_true rfl, Nat.le_of_ble_eq_true rfl, Nat.le_of_ble_eq_true rfl, Nat.le_of_ble_eq_true rfl⟩ (Nat.le_of_ble_eq_true rfl) (fun u_E_10 H locs hp_11 hG => ?_)
  obtain ⟨n_E_10, E_10⟩ := u_E_10
  dsimp only at hp_11 hG
  obtain ⟨en_13, hlo_12, g_14, ⟨F_16, g_15⟩⟩ := hp_11
  have hG := gW_eq2 hG en_13 rfl
  refine lv_aload_n hx hb dX11_feed_25 rfl (lv_at hl 0 rfl) ?_
  refine lv_iload_n hx hb dX11_feed_26 rfl (lv_at hl 3 rfl) ?_
  refine g_vv (As := [.int a3]) (rest := []) S hG (by omega) (qX11_putFour_8 l hn (by exact g_14) (by exact g_15) a3) wV_11_120 g_14 cpX11 (by omega) dX11_feed_27 rfl hl.1 (ar := 1) (by decide +kernel) rfl ⟨Nat.le_of_ble_eq_true rfl, Nat.le_of_ble_eq_true rfl, Nat.le_of_ble_eq_true rfl, Nat.le_of_ble_eq_true rfl⟩ (Nat.le_of_ble_eq_true rfl) (fun u_E_17 H locs hp_18 hG => ?_)
  obtain ⟨n_E_17, E_17⟩ := u_E_17
  dsimp only at hp_18 hG
  obtain ⟨en_20, hlo_19, g_21, ⟨F_23, g_22⟩⟩ := hp_18
  have hG := gW_eq2 hG en_20 rfl
  refine lv_aload_n hx hb dX11_feed_30 rfl (lv_at hl 0 rfl) ?_
  refine lv_iload hx hb dX11_feed_31 (lv_at hl 4 rfl) ?_
  refine g_vv (As := [.int a4]) (rest := []) S hG (by omega) (qX11_putFour_12 l hn (by exact g_21) (by exact g_22) a4) wV_11_120 g_21 cpX11 (by omega) dX11_feed_33 rfl hl.1 (ar := 1) (by decide +kernel) rfl ⟨Nat.le_of_ble_eq_true rfl, Nat.le_of_ble_eq_true rfl, Nat.le_of_ble_eq_true rfl, Nat.le_of_ble_eq_true rfl⟩ (Nat.le_of_ble_eq_true rfl) (fun u_E_24 H locs hp_25 hG => ?_)
  obtain ⟨n_E_24, E_24⟩ := u_E_24
  dsimp only at hp_25 hG
  obtain ⟨en_27, hlo_26, g_28, ⟨F_30, g_29⟩⟩ := hp_25
  have hG := gW_eq2 hG en_27 rfl
  refine lv_aload_n hx hb dX11_feed_36 rfl (lv_at hl 0 rfl) ?_
  refine lv_iload hx hb dX11_feed_37 (lv_at hl 5 rfl) ?_
  refine g_vv (As := [.int a5]) (rest := []) S hG (by omega) (qX11_putFour_16 l hn (by exact g_28) (by exact g_29) a5) wV_11_120 g_28 cpX11 (by omega) dX11_feed_39 rfl hl.1 (ar := 1) (by decide +kernel) rfl ⟨Nat.le_of_ble_eq_true rfl, Nat.le_of_ble_eq_true rfl, Nat.le_of_ble_eq_true rfl, Nat.le_of_ble_eq_true rfl⟩ (Nat.le_of_ble_eq_true rfl) (fun u_E_31 H locs hp_32 hG => ?_)
  obtain ⟨n_E_31, E_31⟩ := u_E_31
  dsimp only at hp_32 hG
  obtain ⟨en_34, hlo_33, g_35, ⟨F_37, g_36⟩⟩ := hp_32
  have hG := gW_eq2 hG en_34 rfl
  refine lv_aload_n hx hb dX11_feed_42 rfl (lv_at hl 0 rfl) ?_
  refine g_get S hG 0 1 g_35 cpX11 wm_667 dX11_feed_43 rfl (by omega) (by decide) ?_
  exact g_iret S hr hlk hG (by omega) dX11_feed_46 ⟨Nat.le_of_ble_eq_true rfl, Nat.le_of_ble_eq_true rfl⟩ rfl
set_option maxHeartbeats 4000000 in
set_option maxRecDepth 100000 in
theorem qX12_feed (l : Launch) {D : va_G} {cy : Nat → ClassId} {b n : Nat} (hn : 105 ≤ n) {E : Nat → va_E}  (h83 : E 83 = Z83 b cy) (h86 : E 86 = Z86 b cy)  (a1 : Int32) (a2 : Int32) (a3 : Int32) (a4 : Int32) (a5 : Int32) : gI l yX12_feed cX12_feed 8 (some .int) 0 1 5 D cy b n E [.ref (b + 83), .int a1, .int a2, .int a3, .int a4, .int a5] (fun r _ => r = 20) := by
  refine gI_of (by decide) (Nat.le_of_ble_eq_true rfl) ?_
  intro p e s m args below meth c S hr hlk hin hsz ls hl hG
  have hx := S.1
  have hb := S.2.1
  have hl : lv_has ls 8 [(0, .ref (b + 83)), (1, .int a1), (2, .int a2), (3, .int a3), (4, .int a4), (5, .int a5)] := hl
  refine lv_aload_n hx hb dX12_feed_0 rfl (lv_at hl 0 rfl) ?_
  refine g_get S hG 83 3 h83 cpX12 wm_1677 dX12_feed_1 rfl (by omega) (by decide) ?_
  refine lv_sipush (v := 380) hx hb dX12_feed_4 (by decide) ?_
  refine lv_icmp_le (tgt := 12) hx hb dX12_feed_7 (by decide) (fun c_1 => ?_) (fun c_1 => absurd c_1 (by decide))
  refine lv_iconst (v := 5) hx hb dX12_feed_12 (by decide) ?_
  refine g_newa (atype := .int) (ty := .int) (N := 5) (a0 := (5, .inl (fun _ => 0))) S hG (by omega) 1 rfl rfl (fun h => h) wm_305 (fun _ => rfl) dX12_feed_13 (by decide) (by decide) (by decide) ⟨Nat.le_of_ble_eq_true rfl, Nat.le_of_ble_eq_true rfl⟩ (fun H hG => ?_)
  refine lv_dup hx hb dX12_feed_15 rfl ?_
  refine lv_iconst (v := 0) hx hb dX12_feed_16 (by decide) ?_
  refine lv_iload_n hx hb dX12_feed_17 rfl (lv_at hl 1 rfl) ?_
  refine g_iast S hG n upE_s (by omega) dX12_feed_18 (by unfold vp_in; decide) (fun H locs hG => ?_)
  refine lv_dup hx hb dX12_feed_19 rfl ?_
  refine lv_iconst (v := 1) hx hb dX12_feed_20 (by decide) ?_
  refine lv_iload_n hx hb dX12_feed_21 rfl (lv_at hl 2 rfl) ?_
  refine g_iast S hG n upE_s (by omega) dX12_feed_22 (by unfold vp_in; decide) (fun H locs hG => ?_)
  refine lv_dup hx hb dX12_feed_23 rfl ?_
  refine lv_iconst (v := 2) hx hb dX12_feed_24 (by decide) ?_
  refine lv_iload_n hx hb dX12_feed_25 rfl (lv_at hl 3 rfl) ?_
  refine g_iast S hG n upE_s (by omega) dX12_feed_26 (by unfold vp_in; decide) (fun H locs hG => ?_)
  refine lv_dup hx hb dX12_feed_27 rfl ?_
  refine lv_iconst (v := 3) hx hb dX12_feed_28 (by decide) ?_
  refine lv_iload hx hb dX12_feed_29 (lv_at hl 4 rfl) ?_
  refine g_iast S hG n upE_s (by omega) dX12_feed_31 (by unfold vp_in; decide) (fun H locs hG => ?_)
  refine lv_dup hx hb dX12_feed_32 rfl ?_
  refine lv_iconst (v := 4) hx hb dX12_feed_33 (by decide) ?_
  refine lv_iload hx hb dX12_feed_34 (lv_at hl 5 rfl) ?_
  refine g_iast S hG n upE_s (by omega) dX12_feed_36 (by unfold vp_in; decide) (fun H locs hG => ?_)
  refine lv_astore (lv' := [(6, .ref (b + n)), (0, .ref (b + 83)), (1, .int a1), (2, .int a2), (3, .int a3), (4, .int a4), (5, .int a5)]) hx hb dX12_feed_37 hl (by decide) rfl (fun ls hl => ?_)
  refine lv_iconst (v := 0) hx hb dX12_feed_39 (by decide) ?_
  refine lv_istore (lv' := [(7, .int 0), (6, .ref (b + n)), (0, .ref (b + 83)), (1, .int a1), (2, .int a2), (3, .int a3), (4, .int a4), (5, .int a5)]) hx hb dX12_feed_40 hl (by decide) rfl (fun ls hl => ?_)
  refine lv_iload hx hb dX12_feed_42 (lv_at hl 0 rfl) ?_
  refine lv_bipush (v := 20) hx hb dX12_feed_44 (by decide) ?_
  refine lv_icmp_ge (tgt := 89) hx hb dX12_feed_46 (by decide) (fun c_2 => absurd c_2 (by decide)) (fun c_2 => ?_)
  refine lv_aload_n hx hb dX12_feed_49 rfl (lv_at hl 2 rfl) ?_
  refine g_get S hG 83 2 ((upE_n (by omega)).trans ((upE_n (by omega)).trans ((upE_n (by omega)).trans ((upE_n (by omega)).trans ((upE_n (by omega)).trans ((upE_n (by omega)).trans h83)))))) cpX12 wm_1676 dX12_feed_50 rfl (by omega) (by decide) ?_
  refine lv_aload_n hx hb dX12_feed_53 rfl (lv_at hl 2 rfl) ?_
  refine g_get S hG 83 3 ((upE_n (by omega)).trans ((upE_n (by omega)).trans ((upE_n (by omega)).trans ((upE_n (by omega)).trans ((upE_n (by omega)).trans ((upE_n (by omega)).trans h83)))))) cpX12 wm_1677 dX12_feed_54 rfl (by omega) (by decide) ?_
  refine lv_iload hx hb dX12_feed_57 (lv_at hl 0 rfl) ?_
  refine lv_iadd hx hb dX12_feed_59 ?_
  refine lv_topi (fun x_3 ex_3 => ?_)
  obtain rfl : x_3 = 0 := ex_3.trans (by decide)
  refine lv_aload hx hb dX12_feed_60 (lv_at hl 1 rfl) ?_
  refine lv_iload hx hb dX12_feed_62 (lv_at hl 0 rfl) ?_
  refine lv_iconst (v := 4) hx hb dX12_feed_64 (by decide) ?_
  refine lv_idiv hx hb dX12_feed_65 (by decide) ?_
  refine lv_topi (fun x_4 ex_4 => ?_)
  obtain rfl : x_4 = 0 := ex_4.trans (by decide)
  refine g_iald S hG n upE_s (by omega) dX12_feed_66 (by unfold vp_in; decide) ?_
  refine lv_bipush (v := 24) hx hb dX12_feed_67 (by decide) ?_
  refine lv_bipush (v := 8) hx hb dX12_feed_69 (by decide) ?_
  refine lv_iload hx hb dX12_feed_71 (lv_at hl 0 rfl) ?_
  refine lv_iconst (v := 4) hx hb dX12_feed_73 (by decide) ?_
  refine lv_irem hx hb dX12_feed_74 (by decide) ?_
  refine lv_topi (fun x_5 ex_5 => ?_)
  obtain rfl : x_5 = 0 := ex_5.trans (by decide)
  refine lv_imul hx hb dX12_feed_75 ?_
  refine lv_topi (fun x_6 ex_6 => ?_)
  obtain rfl : x_6 = 0 := ex_6.trans (by decide)
  refine lv_isub hx hb dX12_feed_76 ?_
  refine lv_topi (fun x_7 ex_7 => ?_)
  obtain rfl : x_7 = 24 := ex_7.trans (by decide)
  refine lv_iushr hx hb dX12_feed_77 rfl ?_
  refine lv_topi (fun x_8 ex_8 => ?_)
  refine lv_sipush (v := 255) hx hb dX12_feed_78 (by decide) ?_
  refine lv_iand hx hb dX12_feed_81 ?_
  refine g_iast S hG 86 ((upE_n (by omega)).trans ((upE_n (by omega)).trans ((upE_n (by omega)).trans ((upE_n (by omega)).trans ((upE_n (by omega)).trans ((upE_n (by omega)).trans h86)))))) (by omega) dX12_feed_82 (by unfold vp_in; decide) (fun H locs hG => ?_)
  refine lv_iinc (v := 1) (lv' := [(7, .int 1), (6, .ref (b + n)), (0, .ref (b + 83)), (1, .int a1), (2, .int a2), (3, .int a3), (4, .int a4), (5, .int a5)]) hx hb dX12_feed_83 hl (k := 0) rfl (by decide) (by decide) rfl (fun ls hl => ?_)
  refine lv_goto (tgt := 42) hx hb dX12_feed_86 (by decide) ?_
  refine lv_iload hx hb dX12_feed_42 (lv_at hl 0 rfl) ?_
  refine lv_bipush (v := 20) hx hb dX12_feed_44 (by decide) ?_
  refine lv_icmp_ge (tgt := 89) hx hb dX12_feed_46 (by decide) (fun c_9 => absurd c_9 (by decide)) (fun c_9 => ?_)
  refine lv_aload_n hx hb dX12_feed_49 rfl (lv_at hl 2 rfl) ?_
  refine g_get S hG 83 2 ((upE_n (by omega)).trans ((upE_n (by omega)).trans ((upE_n (by omega)).trans ((upE_n (by omega)).trans ((upE_n (by omega)).trans ((upE_n (by omega)).trans ((upE_n (by omega)).trans h83))))))) cpX12 wm_1676 dX12_feed_50 rfl (by omega) (by decide) ?_
  refine lv_aload_n hx hb dX12_feed_53 rfl (lv_at hl 2 rfl) ?_
  refine g_get S hG 83 3 ((upE_n (by omega)).trans ((upE_n (by omega)).trans ((upE_n (by omega)).trans ((upE_n (by omega)).trans ((upE_n (by omega)).trans ((upE_n (by omega)).trans ((upE_n (by omega)).trans h83))))))) cpX12 wm_1677 dX12_feed_54 rfl (by omega) (by decide) ?_
  refine lv_iload hx hb dX12_feed_57 (lv_at hl 0 rfl) ?_
  refine lv_iadd hx hb dX12_feed_59 ?_
  refine lv_topi (fun x_10 ex_10 => ?_)
  obtain rfl : x_10 = 1 := ex_10.trans (by decide)
  refine lv_aload hx hb dX12_feed_60 (lv_at hl 1 rfl) ?_
  refine lv_iload hx hb dX12_feed_62 (lv_at hl 0 rfl) ?_
  refine lv_iconst (v := 4) hx hb dX12_feed_64 (by decide) ?_
  refine lv_idiv hx hb dX12_feed_65 (by decide) ?_
  refine lv_topi (fun x_11 ex_11 => ?_)
  obtain rfl : x_11 = 0 := ex_11.trans (by decide)
  refine g_iald S hG n ((upE_n (by omega)).trans upE_s) (by omega) dX12_feed_66 (by unfold vp_in; decide) ?_
  refine lv_bipush (v := 24) hx hb dX12_feed_67 (by decide) ?_
  refine lv_bipush (v := 8) hx hb dX12_feed_69 (by decide) ?_
  refine lv_iload hx hb dX12_feed_71 (lv_at hl 0 rfl) ?_
  refine lv_iconst (v := 4) hx hb dX12_feed_73 (by decide) ?_
  refine lv_irem hx hb dX12_feed_74 (by decide) ?_
  refine lv_topi (fun x_12 ex_12 => ?_)
  obtain rfl : x_12 = 1 := ex_12.trans (by decide)
  refine lv_imul hx hb dX12_feed_75 ?_
  refine lv_topi (fun x_13 ex_13 => ?_)
  obtain rfl : x_13 = 8 := ex_13.trans (by decide)
  refine lv_isub hx hb dX12_feed_76 ?_
  refine lv_topi (fun x_14 ex_14 => ?_)
  obtain rfl : x_14 = 16 := ex_14.trans (by decide)
  refine lv_iushr hx hb dX12_feed_77 rfl ?_
  refine lv_topi (fun x_15 ex_15 => ?_)
  refine lv_sipush (v := 255) hx hb dX12_feed_78 (by decide) ?_
  refine lv_iand hx hb dX12_feed_81 ?_
  refine g_iast S hG 86 upE_s (by omega) dX12_feed_82 (by unfold vp_in; decide) (fun H locs hG => ?_)
  refine lv_iinc (v := 2) (lv' := [(7, .int 2), (6, .ref (b + n)), (0, .ref (b + 83)), (1, .int a1), (2, .int a2), (3, .int a3), (4, .int a4), (5, .int a5)]) hx hb dX12_feed_83 hl (k := 0) rfl (by decide) (by decide) rfl (fun ls hl => ?_)
  refine lv_goto (tgt := 42) hx hb dX12_feed_86 (by decide) ?_
  refine lv_iload hx hb dX12_feed_42 (lv_at hl 0 rfl) ?_
  refine lv_bipush (v := 20) hx hb dX12_feed_44 (by decide) ?_
  refine lv_icmp_ge (tgt := 89) hx hb dX12_feed_46 (by decide) (fun c_16 => absurd c_16 (by decide)) (fun c_16 => ?_)
  refine lv_aload_n hx hb dX12_feed_49 rfl (lv_at hl 2 rfl) ?_
  refine g_get S hG 83 2 ((upE_n (by omega)).trans ((upE_n (by omega)).trans ((upE_n (by omega)).trans ((upE_n (by omega)).trans ((upE_n (by omega)).trans ((upE_n (by omega)).trans ((upE_n (by omega)).trans ((upE_n (by omega)).trans h83)))))))) cpX12 wm_1676 dX12_feed_50 rfl (by omega) (by decide) ?_
  refine lv_aload_n hx hb dX12_feed_53 rfl (lv_at hl 2 rfl) ?_
  refine g_get S hG 83 3 ((upE_n (by omega)).trans ((upE_n (by omega)).trans ((upE_n (by omega)).trans ((upE_n (by omega)).trans ((upE_n (by omega)).trans ((upE_n (by omega)).trans ((upE_n (by omega)).trans ((upE_n (by omega)).trans h83)))))))) cpX12 wm_1677 dX12_feed_54 rfl (by omega) (by decide) ?_
  refine lv_iload hx hb dX12_feed_57 (lv_at hl 0 rfl) ?_
  refine lv_iadd hx hb dX12_feed_59 ?_
  refine lv_topi (fun x_17 ex_17 => ?_)
  obtain rfl : x_17 = 2 := ex_17.trans (by decide)
  refine lv_aload hx hb dX12_feed_60 (lv_at hl 1 rfl) ?_
  refine lv_iload hx hb dX12_feed_62 (lv_at hl 0 rfl) ?_
  refine lv_iconst (v := 4) hx hb dX12_feed_64 (by decide) ?_
  refine lv_idiv hx hb dX12_feed_65 (by decide) ?_
  refine lv_topi (fun x_18 ex_18 => ?_)
  obtain rfl : x_18 = 0 := ex_18.trans (by decide)
  refine g_iald S hG n ((upE_n (by omega)).trans ((upE_n (by omega)).trans upE_s)) (by omega) dX12_feed_66 (by unfold vp_in; decide) ?_
  refine lv_bipush (v := 24) hx hb dX12_feed_67 (by decide) ?_
  refine lv_bipush (v := 8) hx hb dX12_feed_69 (by decide) ?_
  refine lv_iload hx hb dX12_feed_71 (lv_at hl 0 rfl) ?_
  refine lv_iconst (v := 4) hx hb dX12_feed_73 (by decide) ?_
  refine lv_irem hx hb dX12_feed_74 (by decide) ?_
  refine lv_topi (fun x_19 ex_19 => ?_)
  obtain rfl : x_19 = 2 := ex_19.trans (by decide)
  refine lv_imul hx hb dX12_feed_75 ?_
  refine lv_topi (fun x_20 ex_20 => ?_)
  obtain rfl : x_20 = 16 := ex_20.trans (by decide)
  refine lv_isub hx hb dX12_feed_76 ?_
  refine lv_topi (fun x_21 ex_21 => ?_)
  obtain rfl : x_21 = 8 := ex_21.trans (by decide)
  refine lv_iushr hx hb dX12_feed_77 rfl ?_
  refine lv_topi (fun x_22 ex_22 => ?_)
  refine lv_sipush (v := 255) hx hb dX12_feed_78 (by decide) ?_
  refine lv_iand hx hb dX12_feed_81 ?_
  refine g_iast S hG 86 upE_s (by omega) dX12_feed_82 (by unfold vp_in; decide) (fun H locs hG => ?_)
  refine lv_iinc (v := 3) (lv' := [(7, .int 3), (6, .ref (b + n)), (0, .ref (b + 83)), (1, .int a1), (2, .int a2), (3, .int a3), (4, .int a4), (5, .int a5)]) hx hb dX12_feed_83 hl (k := 0) rfl (by decide) (by decide) rfl (fun ls hl => ?_)
  refine lv_goto (tgt := 42) hx hb dX12_feed_86 (by decide) ?_
  refine lv_iload hx hb dX12_feed_42 (lv_at hl 0 rfl) ?_
  refine lv_bipush (v := 20) hx hb dX12_feed_44 (by decide) ?_
  refine lv_icmp_ge (tgt := 89) hx hb dX12_feed_46 (by decide) (fun c_23 => absurd c_23 (by decide)) (fun c_23 => ?_)
  refine lv_aload_n hx hb dX12_feed_49 rfl (lv_at hl 2 rfl) ?_
  refine g_get S hG 83 2 ((upE_n (by omega)).trans ((upE_n (by omega)).trans ((upE_n (by omega)).trans ((upE_n (by omega)).trans ((upE_n (by omega)).trans ((upE_n (by omega)).trans ((upE_n (by omega)).trans ((upE_n (by omega)).trans ((upE_n (by omega)).trans h83))))))))) cpX12 wm_1676 dX12_feed_50 rfl (by omega) (by decide) ?_
  refine lv_aload_n hx hb dX12_feed_53 rfl (lv_at hl 2 rfl) ?_
  refine g_get S hG 83 3 ((upE_n (by omega)).trans ((upE_n (by omega)).trans ((upE_n (by omega)).trans ((upE_n (by omega)).trans ((upE_n (by omega)).trans ((upE_n (by omega)).trans ((upE_n (by omega)).trans ((upE_n (by omega)).trans ((upE_n (by omega)).trans h83))))))))) cpX12 wm_1677 dX12_feed_54 rfl (by omega) (by decide) ?_
  refine lv_iload hx hb dX12_feed_57 (lv_at hl 0 rfl) ?_
  refine lv_iadd hx hb dX12_feed_59 ?_
  refine lv_topi (fun x_24 ex_24 => ?_)
  obtain rfl : x_24 = 3 := ex_24.trans (by decide)
  refine lv_aload hx hb dX12_feed_60 (lv_at hl 1 rfl) ?_
  refine lv_iload hx hb dX12_feed_62 (lv_at hl 0 rfl) ?_
  refine lv_iconst (v := 4) hx hb dX12_feed_64 (by decide) ?_
  refine lv_idiv hx hb dX12_feed_65 (by decide) ?_
  refine lv_topi (fun x_25 ex_25 => ?_)
  obtain rfl : x_25 = 0 := ex_25.trans (by decide)
  refine g_iald S hG n ((upE_n (by omega)).trans ((upE_n (by omega)).trans ((upE_n (by omega)).trans upE_s))) (by omega) dX12_feed_66 (by unfold vp_in; decide) ?_
  refine lv_bipush (v := 24) hx hb dX12_feed_67 (by decide) ?_
  refine lv_bipush (v := 8) hx hb dX12_feed_69 (by decide) ?_
  refine lv_iload hx hb dX12_feed_71 (lv_at hl 0 rfl) ?_
  refine lv_iconst (v := 4) hx hb dX12_feed_73 (by decide) ?_
  refine lv_irem hx hb dX12_feed_74 (by decide) ?_
  refine lv_topi (fun x_26 ex_26 => ?_)
  obtain rfl : x_26 = 3 := ex_26.trans (by decide)
  refine lv_imul hx hb dX12_feed_75 ?_
  refine lv_topi (fun x_27 ex_27 => ?_)
  obtain rfl : x_27 = 24 := ex_27.trans (by decide)
  refine lv_isub hx hb dX12_feed_76 ?_
  refine lv_topi (fun x_28 ex_28 => ?_)
  obtain rfl : x_28 = 0 := ex_28.trans (by decide)
  refine lv_iushr hx hb dX12_feed_77 rfl ?_
  refine lv_topi (fun x_29 ex_29 => ?_)
  refine lv_sipush (v := 255) hx hb dX12_feed_78 (by decide) ?_
  refine lv_iand hx hb dX12_feed_81 ?_
  refine g_iast S hG 86 upE_s (by omega) dX12_feed_82 (by unfold vp_in; decide) (fun H locs hG => ?_)
  refine lv_iinc (v := 4) (lv' := [(7, .int 4), (6, .ref (b + n)), (0, .ref (b + 83)), (1, .int a1), (2, .int a2), (3, .int a3), (4, .int a4), (5, .int a5)]) hx hb dX12_feed_83 hl (k := 0) rfl (by decide) (by decide) rfl (fun ls hl => ?_)
  refine lv_goto (tgt := 42) hx hb dX12_feed_86 (by decide) ?_
  refine lv_iload hx hb dX12_feed_42 (lv_at hl 0 rfl) ?_
  refine lv_bipush (v := 20) hx hb dX12_feed_44 (by decide) ?_
  refine lv_icmp_ge (tgt := 89) hx hb dX12_feed_46 (by decide) (fun c_30 => absurd c_30 (by decide)) (fun c_30 => ?_)
  refine lv_aload_n hx hb dX12_feed_49 rfl (lv_at hl 2 rfl) ?_
  refine g_get S hG 83 2 ((upE_n (by omega)).trans ((upE_n (by omega)).trans ((upE_n (by omega)).trans ((upE_n (by omega)).trans ((upE_n (by omega)).trans ((upE_n (by omega)).trans ((upE_n (by omega)).trans ((upE_n (by omega)).trans ((upE_n (by omega)).trans ((upE_n (by omega)).trans h83)))))))))) cpX12 wm_1676 dX12_feed_50 rfl (by omega) (by decide) ?_
  refine lv_aload_n hx hb dX12_feed_53 rfl (lv_at hl 2 rfl) ?_
  refine g_get S hG 83 3 ((upE_n (by omega)).trans ((upE_n (by omega)).trans ((upE_n (by omega)).trans ((upE_n (by omega)).trans ((upE_n (by omega)).trans ((upE_n (by omega)).trans ((upE_n (by omega)).trans ((upE_n (by omega)).trans ((upE_n (by omega)).trans ((upE_n (by omega)).trans h83)))))))))) cpX12 wm_1677 dX12_feed_54 rfl (by omega) (by decide) ?_
  refine lv_iload hx hb dX12_feed_57 (lv_at hl 0 rfl) ?_
  refine lv_iadd hx hb dX12_feed_59 ?_
  refine lv_topi (fun x_31 ex_31 => ?_)
  obtain rfl : x_31 = 4 := ex_31.trans (by decide)
  refine lv_aload hx hb dX12_feed_60 (lv_at hl 1 rfl) ?_
  refine lv_iload hx hb dX12_feed_62 (lv_at hl 0 rfl) ?_
  refine lv_iconst (v := 4) hx hb dX12_feed_64 (by decide) ?_
  refine lv_idiv hx hb dX12_feed_65 (by decide) ?_
  refine lv_topi (fun x_32 ex_32 => ?_)
  obtain rfl : x_32 = 1 := ex_32.trans (by decide)
  refine g_iald S hG n ((upE_n (by omega)).trans ((upE_n (by omega)).trans ((upE_n (by omega)).trans ((upE_n (by omega)).trans upE_s)))) (by omega) dX12_feed_66 (by unfold vp_in; decide) ?_
  refine lv_bipush (v := 24) hx hb dX12_feed_67 (by decide) ?_
  refine lv_bipush (v := 8) hx hb dX12_feed_69 (by decide) ?_
  refine lv_iload hx hb dX12_feed_71 (lv_at hl 0 rfl) ?_
  refine lv_iconst (v := 4) hx hb dX12_feed_73 (by decide) ?_
  refine lv_irem hx hb dX12_feed_74 (by decide) ?_
  refine lv_topi (fun x_33 ex_33 => ?_)
  obtain rfl : x_33 = 0 := ex_33.trans (by decide)
  refine lv_imul hx hb dX12_feed_75 ?_
  refine lv_topi (fun x_34 ex_34 => ?_)
  obtain rfl : x_34 = 0 := ex_34.trans (by decide)
  refine lv_isub hx hb dX12_feed_76 ?_
  refine lv_topi (fun x_35 ex_35 => ?_)
  obtain rfl : x_35 = 24 := ex_35.trans (by decide)
  refine lv_iushr hx hb dX12_feed_77 rfl ?_
  refine lv_topi (fun x_36 ex_36 => ?_)
  refine lv_sipush (v := 255) hx hb dX12_feed_78 (by decide) ?_
  refine lv_iand hx hb dX12_feed_81 ?_
  refine g_iast S hG 86 upE_s (by omega) dX12_feed_82 (by unfold vp_in; decide) (fun H locs hG => ?_)
  refine lv_iinc (v := 5) (lv' := [(7, .int 5), (6, .ref (b + n)), (0, .ref (b + 83)), (1, .int a1), (2, .int a2), (3, .int a3), (4, .int a4), (5, .int a5)]) hx hb dX12_feed_83 hl (k := 0) rfl (by decide) (by decide) rfl (fun ls hl => ?_)
  refine lv_goto (tgt := 42) hx hb dX12_feed_86 (by decide) ?_
  refine lv_iload hx hb dX12_feed_42 (lv_at hl 0 rfl) ?_
  refine lv_bipush (v := 20) hx hb dX12_feed_44 (by decide) ?_
  refine lv_icmp_ge (tgt := 89) hx hb dX12_feed_46 (by decide) (fun c_37 => absurd c_37 (by decide)) (fun c_37 => ?_)
  refine lv_aload_n hx hb dX12_feed_49 rfl (lv_at hl 2 rfl) ?_
  refine g_get S hG 83 2 ((upE_n (by omega)).trans ((upE_n (by omega)).trans ((upE_n (by omega)).trans ((upE_n (by omega)).trans ((upE_n (by omega)).trans ((upE_n (by omega)).trans ((upE_n (by omega)).trans ((upE_n (by omega)).trans ((upE_n (by omega)).trans ((upE_n (by omega)).trans ((upE_n (by omega)).trans h83))))))))))) cpX12 wm_1676 dX12_feed_50 rfl (by omega) (by decide) ?_
  refine lv_aload_n hx hb dX12_feed_53 rfl (lv_at hl 2 rfl) ?_
  refine g_get S hG 83 3 ((upE_n (by omega)).trans ((upE_n (by omega)).trans ((upE_n (by omega)).trans ((upE_n (by omega)).trans ((upE_n (by omega)).trans ((upE_n (by omega)).trans ((upE_n (by omega)).trans ((upE_n (by omega)).trans ((upE_n (by omega)).trans ((upE_n (by omega)).trans ((upE_n (by omega)).trans h83))))))))))) cpX12 wm_1677 dX12_feed_54 rfl (by omega) (by decide) ?_
  refine lv_iload hx hb dX12_feed_57 (lv_at hl 0 rfl) ?_
  refine lv_iadd hx hb dX12_feed_59 ?_
  refine lv_topi (fun x_38 ex_38 => ?_)
  obtain rfl : x_38 = 5 := ex_38.trans (by decide)
  refine lv_aload hx hb dX12_feed_60 (lv_at hl 1 rfl) ?_
  refine lv_iload hx hb dX12_feed_62 (lv_at hl 0 rfl) ?_
  refine lv_iconst (v := 4) hx hb dX12_feed_64 (by decide) ?_
  refine lv_idiv hx hb dX12_feed_65 (by decide) ?_
  refine lv_topi (fun x_39 ex_39 => ?_)
  obtain rfl : x_39 = 1 := ex_39.trans (by decide)
  refine g_iald S hG n ((upE_n (by omega)).trans ((upE_n (by omega)).trans ((upE_n (by omega)).trans ((upE_n (by omega)).trans ((upE_n (by omega)).trans upE_s))))) (by omega) dX12_feed_66 (by unfold vp_in; decide) ?_
  refine lv_bipush (v := 24) hx hb dX12_feed_67 (by decide) ?_
  refine lv_bipush (v := 8) hx hb dX12_feed_69 (by decide) ?_
  refine lv_iload hx hb dX12_feed_71 (lv_at hl 0 rfl) ?_
  refine lv_iconst (v := 4) hx hb dX12_feed_73 (by decide) ?_
  refine lv_irem hx hb dX12_feed_74 (by decide) ?_
  refine lv_topi (fun x_40 ex_40 => ?_)
  obtain rfl : x_40 = 1 := ex_40.trans (by decide)
  refine lv_imul hx hb dX12_feed_75 ?_
  refine lv_topi (fun x_41 ex_41 => ?_)
  obtain rfl : x_41 = 8 := ex_41.trans (by decide)
  refine lv_isub hx hb dX12_feed_76 ?_
  refine lv_topi (fun x_42 ex_42 => ?_)
  obtain rfl : x_42 = 16 := ex_42.trans (by decide)
  refine lv_iushr hx hb dX12_feed_77 rfl ?_
  refine lv_topi (fun x_43 ex_43 => ?_)
  refine lv_sipush (v := 255) hx hb dX12_feed_78 (by decide) ?_
  refine lv_iand hx hb dX12_feed_81 ?_
  refine g_iast S hG 86 upE_s (by omega) dX12_feed_82 (by unfold vp_in; decide) (fun H locs hG => ?_)
  refine lv_iinc (v := 6) (lv' := [(7, .int 6), (6, .ref (b + n)), (0, .ref (b + 83)), (1, .int a1), (2, .int a2), (3, .int a3), (4, .int a4), (5, .int a5)]) hx hb dX12_feed_83 hl (k := 0) rfl (by decide) (by decide) rfl (fun ls hl => ?_)
  refine lv_goto (tgt := 42) hx hb dX12_feed_86 (by decide) ?_
  refine lv_iload hx hb dX12_feed_42 (lv_at hl 0 rfl) ?_
  refine lv_bipush (v := 20) hx hb dX12_feed_44 (by decide) ?_
  refine lv_icmp_ge (tgt := 89) hx hb dX12_feed_46 (by decide) (fun c_44 => absurd c_44 (by decide)) (fun c_44 => ?_)
  refine lv_aload_n hx hb dX12_feed_49 rfl (lv_at hl 2 rfl) ?_
  refine g_get S hG 83 2 ((upE_n (by omega)).trans ((upE_n (by omega)).trans ((upE_n (by omega)).trans ((upE_n (by omega)).trans ((upE_n (by omega)).trans ((upE_n (by omega)).trans ((upE_n (by omega)).trans ((upE_n (by omega)).trans ((upE_n (by omega)).trans ((upE_n (by omega)).trans ((upE_n (by omega)).trans ((upE_n (by omega)).trans h83)))))))))))) cpX12 wm_1676 dX12_feed_50 rfl (by omega) (by decide) ?_
  refine lv_aload_n hx hb dX12_feed_53 rfl (lv_at hl 2 rfl) ?_
  refine g_get S hG 83 3 ((upE_n (by omega)).trans ((upE_n (by omega)).trans ((upE_n (by omega)).trans ((upE_n (by omega)).trans ((upE_n (by omega)).trans ((upE_n (by omega)).trans ((upE_n (by omega)).trans ((upE_n (by omega)).trans ((upE_n (by omega)).trans ((upE_n (by omega)).trans ((upE_n (by omega)).trans ((upE_n (by omega)).trans h83)))))))))))) cpX12 wm_1677 dX12_feed_54 rfl (by omega) (by decide) ?_
  refine lv_iload hx hb dX12_feed_57 (lv_at hl 0 rfl) ?_
  refine lv_iadd hx hb dX12_feed_59 ?_
  refine lv_topi (fun x_45 ex_45 => ?_)
  obtain rfl : x_45 = 6 := ex_45.trans (by decide)
  refine lv_aload hx hb dX12_feed_60 (lv_at hl 1 rfl) ?_
  refine lv_iload hx hb dX12_feed_62 (lv_at hl 0 rfl) ?_
  refine lv_iconst (v := 4) hx hb dX12_feed_64 (by decide) ?_
  refine lv_idiv hx hb dX12_feed_65 (by decide) ?_
  refine lv_topi (fun x_46 ex_46 => ?_)
  obtain rfl : x_46 = 1 := ex_46.trans (by decide)
  refine g_iald S hG n ((upE_n (by omega)).trans ((upE_n (by omega)).trans ((upE_n (by omega)).trans ((upE_n (by omega)).trans ((upE_n (by omega)).trans ((upE_n (by omega)).trans upE_s)))))) (by omega) dX12_feed_66 (by unfold vp_in; decide) ?_
  refine lv_bipush (v := 24) hx hb dX12_feed_67 (by decide) ?_
  refine lv_bipush (v := 8) hx hb dX12_feed_69 (by decide) ?_
  refine lv_iload hx hb dX12_feed_71 (lv_at hl 0 rfl) ?_
  refine lv_iconst (v := 4) hx hb dX12_feed_73 (by decide) ?_
  refine lv_irem hx hb dX12_feed_74 (by decide) ?_
  refine lv_topi (fun x_47 ex_47 => ?_)
  obtain rfl : x_47 = 2 := ex_47.trans (by decide)
  refine lv_imul hx hb dX12_feed_75 ?_
  refine lv_topi (fun x_48 ex_48 => ?_)
  obtain rfl : x_48 = 16 := ex_48.trans (by decide)
  refine lv_isub hx hb dX12_feed_76 ?_
  refine lv_topi (fun x_49 ex_49 => ?_)
  obtain rfl : x_49 = 8 := ex_49.trans (by decide)
  refine lv_iushr hx hb dX12_feed_77 rfl ?_
  refine lv_topi (fun x_50 ex_50 => ?_)
  refine lv_sipush (v := 255) hx hb dX12_feed_78 (by decide) ?_
  refine lv_iand hx hb dX12_feed_81 ?_
  refine g_iast S hG 86 upE_s (by omega) dX12_feed_82 (by unfold vp_in; decide) (fun H locs hG => ?_)
  refine lv_iinc (v := 7) (lv' := [(7, .int 7), (6, .ref (b + n)), (0, .ref (b + 83)), (1, .int a1), (2, .int a2), (3, .int a3), (4, .int a4), (5, .int a5)]) hx hb dX12_feed_83 hl (k := 0) rfl (by decide) (by decide) rfl (fun ls hl => ?_)
  refine lv_goto (tgt := 42) hx hb dX12_feed_86 (by decide) ?_
  refine lv_iload hx hb dX12_feed_42 (lv_at hl 0 rfl) ?_
  refine lv_bipush (v := 20) hx hb dX12_feed_44 (by decide) ?_
  refine lv_icmp_ge (tgt := 89) hx hb dX12_feed_46 (by decide) (fun c_51 => absurd c_51 (by decide)) (fun c_51 => ?_)
  refine lv_aload_n hx hb dX12_feed_49 rfl (lv_at hl 2 rfl) ?_
  refine g_get S hG 83 2 ((upE_n (by omega)).trans ((upE_n (by omega)).trans ((upE_n (by omega)).trans ((upE_n (by omega)).trans ((upE_n (by omega)).trans ((upE_n (by omega)).trans ((upE_n (by omega)).trans ((upE_n (by omega)).trans ((upE_n (by omega)).trans ((upE_n (by omega)).trans ((upE_n (by omega)).trans ((upE_n (by omega)).trans ((upE_n (by omega)).trans h83))))))))))))) cpX12 wm_1676 dX12_feed_50 rfl (by omega) (by decide) ?_
  refine lv_aload_n hx hb dX12_feed_53 rfl (lv_at hl 2 rfl) ?_
  refine g_get S hG 83 3 ((upE_n (by omega)).trans ((upE_n (by omega)).trans ((upE_n (by omega)).trans ((upE_n (by omega)).trans ((upE_n (by omega)).trans ((upE_n (by omega)).trans ((upE_n (by omega)).trans ((upE_n (by omega)).trans ((upE_n (by omega)).trans ((upE_n (by omega)).trans ((upE_n (by omega)).trans ((upE_n (by omega)).trans ((upE_n (by omega)).trans h83))))))))))))) cpX12 wm_1677 dX12_feed_54 rfl (by omega) (by decide) ?_
  refine lv_iload hx hb dX12_feed_57 (lv_at hl 0 rfl) ?_
  refine lv_iadd hx hb dX12_feed_59 ?_
  refine lv_topi (fun x_52 ex_52 => ?_)
  obtain rfl : x_52 = 7 := ex_52.trans (by decide)
  refine lv_aload hx hb dX12_feed_60 (lv_at hl 1 rfl) ?_
  refine lv_iload hx hb dX12_feed_62 (lv_at hl 0 rfl) ?_
  refine lv_iconst (v := 4) hx hb dX12_feed_64 (by decide) ?_
  refine lv_idiv hx hb dX12_feed_65 (by decide) ?_
  refine lv_topi (fun x_53 ex_53 => ?_)
  obtain rfl : x_53 = 1 := ex_53.trans (by decide)
  refine g_iald S hG n ((upE_n (by omega)).trans ((upE_n (by omega)).trans ((upE_n (by omega)).trans ((upE_n (by omega)).trans ((upE_n (by omega)).trans ((upE_n (by omega)).trans ((upE_n (by omega)).trans upE_s))))))) (by omega) dX12_feed_66 (by unfold vp_in; decide) ?_
  refine lv_bipush (v := 24) hx hb dX12_feed_67 (by decide) ?_
  refine lv_bipush (v := 8) hx hb dX12_feed_69 (by decide) ?_
  refine lv_iload hx hb dX12_feed_71 (lv_at hl 0 rfl) ?_
  refine lv_iconst (v := 4) hx hb dX12_feed_73 (by decide) ?_
  refine lv_irem hx hb dX12_feed_74 (by decide) ?_
  refine lv_topi (fun x_54 ex_54 => ?_)
  obtain rfl : x_54 = 3 := ex_54.trans (by decide)
  refine lv_imul hx hb dX12_feed_75 ?_
  refine lv_topi (fun x_55 ex_55 => ?_)
  obtain rfl : x_55 = 24 := ex_55.trans (by decide)
  refine lv_isub hx hb dX12_feed_76 ?_
  refine lv_topi (fun x_56 ex_56 => ?_)
  obtain rfl : x_56 = 0 := ex_56.trans (by decide)
  refine lv_iushr hx hb dX12_feed_77 rfl ?_
  refine lv_topi (fun x_57 ex_57 => ?_)
  refine lv_sipush (v := 255) hx hb dX12_feed_78 (by decide) ?_
  refine lv_iand hx hb dX12_feed_81 ?_
  refine g_iast S hG 86 upE_s (by omega) dX12_feed_82 (by unfold vp_in; decide) (fun H locs hG => ?_)
  refine lv_iinc (v := 8) (lv' := [(7, .int 8), (6, .ref (b + n)), (0, .ref (b + 83)), (1, .int a1), (2, .int a2), (3, .int a3), (4, .int a4), (5, .int a5)]) hx hb dX12_feed_83 hl (k := 0) rfl (by decide) (by decide) rfl (fun ls hl => ?_)
  refine lv_goto (tgt := 42) hx hb dX12_feed_86 (by decide) ?_
  refine lv_iload hx hb dX12_feed_42 (lv_at hl 0 rfl) ?_
  refine lv_bipush (v := 20) hx hb dX12_feed_44 (by decide) ?_
  refine lv_icmp_ge (tgt := 89) hx hb dX12_feed_46 (by decide) (fun c_58 => absurd c_58 (by decide)) (fun c_58 => ?_)
  refine lv_aload_n hx hb dX12_feed_49 rfl (lv_at hl 2 rfl) ?_
  refine g_get S hG 83 2 ((upE_n (by omega)).trans ((upE_n (by omega)).trans ((upE_n (by omega)).trans ((upE_n (by omega)).trans ((upE_n (by omega)).trans ((upE_n (by omega)).trans ((upE_n (by omega)).trans ((upE_n (by omega)).trans ((upE_n (by omega)).trans ((upE_n (by omega)).trans ((upE_n (by omega)).trans ((upE_n (by omega)).trans ((upE_n (by omega)).trans ((upE_n (by omega)).trans h83)))))))))))))) cpX12 wm_1676 dX12_feed_50 rfl (by omega) (by decide) ?_
  refine lv_aload_n hx hb dX12_feed_53 rfl (lv_at hl 2 rfl) ?_
  refine g_get S hG 83 3 ((upE_n (by omega)).trans ((upE_n (by omega)).trans ((upE_n (by omega)).trans ((upE_n (by omega)).trans ((upE_n (by omega)).trans ((upE_n (by omega)).trans ((upE_n (by omega)).trans ((upE_n (by omega)).trans ((upE_n (by omega)).trans ((upE_n (by omega)).trans ((upE_n (by omega)).trans ((upE_n (by omega)).trans ((upE_n (by omega)).trans ((upE_n (by omega)).trans h83)))))))))))))) cpX12 wm_1677 dX12_feed_54 rfl (by omega) (by decide) ?_
  refine lv_iload hx hb dX12_feed_57 (lv_at hl 0 rfl) ?_
  refine lv_iadd hx hb dX12_feed_59 ?_
  refine lv_topi (fun x_59 ex_59 => ?_)
  obtain rfl : x_59 = 8 := ex_59.trans (by decide)
  refine lv_aload hx hb dX12_feed_60 (lv_at hl 1 rfl) ?_
  refine lv_iload hx hb dX12_feed_62 (lv_at hl 0 rfl) ?_
  refine lv_iconst (v := 4) hx hb dX12_feed_64 (by decide) ?_
  refine lv_idiv hx hb dX12_feed_65 (by decide) ?_
  refine lv_topi (fun x_60 ex_60 => ?_)
  obtain rfl : x_60 = 2 := ex_60.trans (by decide)
  refine g_iald S hG n ((upE_n (by omega)).trans ((upE_n (by omega)).trans ((upE_n (by omega)).trans ((upE_n (by omega)).trans ((upE_n (by omega)).trans ((upE_n (by omega)).trans ((upE_n (by omega)).trans ((upE_n (by omega)).trans upE_s)))))))) (by omega) dX12_feed_66 (by unfold vp_in; decide) ?_
  refine lv_bipush (v := 24) hx hb dX12_feed_67 (by decide) ?_
  refine lv_bipush (v := 8) hx hb dX12_feed_69 (by decide) ?_
  refine lv_iload hx hb dX12_feed_71 (lv_at hl 0 rfl) ?_
  refine lv_iconst (v := 4) hx hb dX12_feed_73 (by decide) ?_
  refine lv_irem hx hb dX12_feed_74 (by decide) ?_
  refine lv_topi (fun x_61 ex_61 => ?_)
  obtain rfl : x_61 = 0 := ex_61.trans (by decide)
  refine lv_imul hx hb dX12_feed_75 ?_
  refine lv_topi (fun x_62 ex_62 => ?_)
  obtain rfl : x_62 = 0 := ex_62.trans (by decide)
  refine lv_isub hx hb dX12_feed_76 ?_
  refine lv_topi (fun x_63 ex_63 => ?_)
  obtain rfl : x_63 = 24 := ex_63.trans (by decide)
  refine lv_iushr hx hb dX12_feed_77 rfl ?_
  refine lv_topi (fun x_64 ex_64 => ?_)
  refine lv_sipush (v := 255) hx hb dX12_feed_78 (by decide) ?_
  refine lv_iand hx hb dX12_feed_81 ?_
  refine g_iast S hG 86 upE_s (by omega) dX12_feed_82 (by unfold vp_in; decide) (fun H locs hG => ?_)
  refine lv_iinc (v := 9) (lv' := [(7, .int 9), (6, .ref (b + n)), (0, .ref (b + 83)), (1, .int a1), (2, .int a2), (3, .int a3), (4, .int a4), (5, .int a5)]) hx hb dX12_feed_83 hl (k := 0) rfl (by decide) (by decide) rfl (fun ls hl => ?_)
  refine lv_goto (tgt := 42) hx hb dX12_feed_86 (by decide) ?_
  refine lv_iload hx hb dX12_feed_42 (lv_at hl 0 rfl) ?_
  refine lv_bipush (v := 20) hx hb dX12_feed_44 (by decide) ?_
  refine lv_icmp_ge (tgt := 89) hx hb dX12_feed_46 (by decide) (fun c_65 => absurd c_65 (by decide)) (fun c_65 => ?_)
  refine lv_aload_n hx hb dX12_feed_49 rfl (lv_at hl 2 rfl) ?_
  refine g_get S hG 83 2 ((upE_n (by omega)).trans ((upE_n (by omega)).trans ((upE_n (by omega)).trans ((upE_n (by omega)).trans ((upE_n (by omega)).trans ((upE_n (by omega)).trans ((upE_n (by omega)).trans ((upE_n (by omega)).trans ((upE_n (by omega)).trans ((upE_n (by omega)).trans ((upE_n (by omega)).trans ((upE_n (by omega)).trans ((upE_n (by omega)).trans ((upE_n (by omega)).trans ((upE_n (by omega)).trans h83))))))))))))))) cpX12 wm_1676 dX12_feed_50 rfl (by omega) (by decide) ?_
  refine lv_aload_n hx hb dX12_feed_53 rfl (lv_at hl 2 rfl) ?_
  refine g_get S hG 83 3 ((upE_n (by omega)).trans ((upE_n (by omega)).trans ((upE_n (by omega)).trans ((upE_n (by omega)).trans ((upE_n (by omega)).trans ((upE_n (by omega)).trans ((upE_n (by omega)).trans ((upE_n (by omega)).trans ((upE_n (by omega)).trans ((upE_n (by omega)).trans ((upE_n (by omega)).trans ((upE_n (by omega)).trans ((upE_n (by omega)).trans ((upE_n (by omega)).trans ((upE_n (by omega)).trans h83))))))))))))))) cpX12 wm_1677 dX12_feed_54 rfl (by omega) (by decide) ?_
  refine lv_iload hx hb dX12_feed_57 (lv_at hl 0 rfl) ?_
  refine lv_iadd hx hb dX12_feed_59 ?_
  refine lv_topi (fun x_66 ex_66 => ?_)
  obtain rfl : x_66 = 9 := ex_66.trans (by decide)
  refine lv_aload hx hb dX12_feed_60 (lv_at hl 1 rfl) ?_
  refine lv_iload hx hb dX12_feed_62 (lv_at hl 0 rfl) ?_
  refine lv_iconst (v := 4) hx hb dX12_feed_64 (by decide) ?_
  refine lv_idiv hx hb dX12_feed_65 (by decide) ?_
  refine lv_topi (fun x_67 ex_67 => ?_)
  obtain rfl : x_67 = 2 := ex_67.trans (by decide)
  refine g_iald S hG n ((upE_n (by omega)).trans ((upE_n (by omega)).trans ((upE_n (by omega)).trans ((upE_n (by omega)).trans ((upE_n (by omega)).trans ((upE_n (by omega)).trans ((upE_n (by omega)).trans ((upE_n (by omega)).trans ((upE_n (by omega)).trans upE_s))))))))) (by omega) dX12_feed_66 (by unfold vp_in; decide) ?_
  refine lv_bipush (v := 24) hx hb dX12_feed_67 (by decide) ?_
  refine lv_bipush (v := 8) hx hb dX12_feed_69 (by decide) ?_
  refine lv_iload hx hb dX12_feed_71 (lv_at hl 0 rfl) ?_
  refine lv_iconst (v := 4) hx hb dX12_feed_73 (by decide) ?_
  refine lv_irem hx hb dX12_feed_74 (by decide) ?_
  refine lv_topi (fun x_68 ex_68 => ?_)
  obtain rfl : x_68 = 1 := ex_68.trans (by decide)
  refine lv_imul hx hb dX12_feed_75 ?_
  refine lv_topi (fun x_69 ex_69 => ?_)
  obtain rfl : x_69 = 8 := ex_69.trans (by decide)
  refine lv_isub hx hb dX12_feed_76 ?_
  refine lv_topi (fun x_70 ex_70 => ?_)
  obtain rfl : x_70 = 16 := ex_70.trans (by decide)
  refine lv_iushr hx hb dX12_feed_77 rfl ?_
  refine lv_topi (fun x_71 ex_71 => ?_)
  refine lv_sipush (v := 255) hx hb dX12_feed_78 (by decide) ?_
  refine lv_iand hx hb dX12_feed_81 ?_
  refine g_iast S hG 86 upE_s (by omega) dX12_feed_82 (by unfold vp_in; decide) (fun H locs hG => ?_)
  refine lv_iinc (v := 10) (lv' := [(7, .int 10), (6, .ref (b + n)), (0, .ref (b + 83)), (1, .int a1), (2, .int a2), (3, .int a3), (4, .int a4), (5, .int a5)]) hx hb dX12_feed_83 hl (k := 0) rfl (by decide) (by decide) rfl (fun ls hl => ?_)
  refine lv_goto (tgt := 42) hx hb dX12_feed_86 (by decide) ?_
  refine lv_iload hx hb dX12_feed_42 (lv_at hl 0 rfl) ?_
  refine lv_bipush (v := 20) hx hb dX12_feed_44 (by decide) ?_
  refine lv_icmp_ge (tgt := 89) hx hb dX12_feed_46 (by decide) (fun c_72 => absurd c_72 (by decide)) (fun c_72 => ?_)
  refine lv_aload_n hx hb dX12_feed_49 rfl (lv_at hl 2 rfl) ?_
  refine g_get S hG 83 2 ((upE_n (by omega)).trans ((upE_n (by omega)).trans ((upE_n (by omega)).trans ((upE_n (by omega)).trans ((upE_n (by omega)).trans ((upE_n (by omega)).trans ((upE_n (by omega)).trans ((upE_n (by omega)).trans ((upE_n (by omega)).trans ((upE_n (by omega)).trans ((upE_n (by omega)).trans ((upE_n (by omega)).trans ((upE_n (by omega)).trans ((upE_n (by omega)).trans ((upE_n (by omega)).trans ((upE_n (by omega)).trans h83)))))))))))))))) cpX12 wm_1676 dX12_feed_50 rfl (by omega) (by decide) ?_
  refine lv_aload_n hx hb dX12_feed_53 rfl (lv_at hl 2 rfl) ?_
  refine g_get S hG 83 3 ((upE_n (by omega)).trans ((upE_n (by omega)).trans ((upE_n (by omega)).trans ((upE_n (by omega)).trans ((upE_n (by omega)).trans ((upE_n (by omega)).trans ((upE_n (by omega)).trans ((upE_n (by omega)).trans ((upE_n (by omega)).trans ((upE_n (by omega)).trans ((upE_n (by omega)).trans ((upE_n (by omega)).trans ((upE_n (by omega)).trans ((upE_n (by omega)).trans ((upE_n (by omega)).trans ((upE_n (by omega)).trans h83)))))))))))))))) cpX12 wm_1677 dX12_feed_54 rfl (by omega) (by decide) ?_
  refine lv_iload hx hb dX12_feed_57 (lv_at hl 0 rfl) ?_
  refine lv_iadd hx hb dX12_feed_59 ?_
  refine lv_topi (fun x_73 ex_73 => ?_)
  obtain rfl : x_73 = 10 := ex_73.trans (by decide)
  refine lv_aload hx hb dX12_feed_60 (lv_at hl 1 rfl) ?_
  refine lv_iload hx hb dX12_feed_62 (lv_at hl 0 rfl) ?_
  refine lv_iconst (v := 4) hx hb dX12_feed_64 (by decide) ?_
  refine lv_idiv hx hb dX12_feed_65 (by decide) ?_
  refine lv_topi (fun x_74 ex_74 => ?_)
  obtain rfl : x_74 = 2 := ex_74.trans (by decide)
  refine g_iald S hG n ((upE_n (by omega)).trans ((upE_n (by omega)).trans ((upE_n (by omega)).trans ((upE_n (by omega)).trans ((upE_n (by omega)).trans ((upE_n (by omega)).trans ((upE_n (by omega)).trans ((upE_n (by omega)).trans ((upE_n (by omega)).trans ((upE_n (by omega)).trans upE_s)))))))))) (by omega) dX12_feed_66 (by unfold vp_in; decide) ?_
  refine lv_bipush (v := 24) hx hb dX12_feed_67 (by decide) ?_
  refine lv_bipush (v := 8) hx hb dX12_feed_69 (by decide) ?_
  refine lv_iload hx hb dX12_feed_71 (lv_at hl 0 rfl) ?_
  refine lv_iconst (v := 4) hx hb dX12_feed_73 (by decide) ?_
  refine lv_irem hx hb dX12_feed_74 (by decide) ?_
  refine lv_topi (fun x_75 ex_75 => ?_)
  obtain rfl : x_75 = 2 := ex_75.trans (by decide)
  refine lv_imul hx hb dX12_feed_75 ?_
  refine lv_topi (fun x_76 ex_76 => ?_)
  obtain rfl : x_76 = 16 := ex_76.trans (by decide)
  refine lv_isub hx hb dX12_feed_76 ?_
  refine lv_topi (fun x_77 ex_77 => ?_)
  obtain rfl : x_77 = 8 := ex_77.trans (by decide)
  refine lv_iushr hx hb dX12_feed_77 rfl ?_
  refine lv_topi (fun x_78 ex_78 => ?_)
  refine lv_sipush (v := 255) hx hb dX12_feed_78 (by decide) ?_
  refine lv_iand hx hb dX12_feed_81 ?_
  refine g_iast S hG 86 upE_s (by omega) dX12_feed_82 (by unfold vp_in; decide) (fun H locs hG => ?_)
  refine lv_iinc (v := 11) (lv' := [(7, .int 11), (6, .ref (b + n)), (0, .ref (b + 83)), (1, .int a1), (2, .int a2), (3, .int a3), (4, .int a4), (5, .int a5)]) hx hb dX12_feed_83 hl (k := 0) rfl (by decide) (by decide) rfl (fun ls hl => ?_)
  refine lv_goto (tgt := 42) hx hb dX12_feed_86 (by decide) ?_
  refine lv_iload hx hb dX12_feed_42 (lv_at hl 0 rfl) ?_
  refine lv_bipush (v := 20) hx hb dX12_feed_44 (by decide) ?_
  refine lv_icmp_ge (tgt := 89) hx hb dX12_feed_46 (by decide) (fun c_79 => absurd c_79 (by decide)) (fun c_79 => ?_)
  refine lv_aload_n hx hb dX12_feed_49 rfl (lv_at hl 2 rfl) ?_
  refine g_get S hG 83 2 ((upE_n (by omega)).trans ((upE_n (by omega)).trans ((upE_n (by omega)).trans ((upE_n (by omega)).trans ((upE_n (by omega)).trans ((upE_n (by omega)).trans ((upE_n (by omega)).trans ((upE_n (by omega)).trans ((upE_n (by omega)).trans ((upE_n (by omega)).trans ((upE_n (by omega)).trans ((upE_n (by omega)).trans ((upE_n (by omega)).trans ((upE_n (by omega)).trans ((upE_n (by omega)).trans ((upE_n (by omega)).trans ((upE_n (by omega)).trans h83))))))))))))))))) cpX12 wm_1676 dX12_feed_50 rfl (by omega) (by decide) ?_
  refine lv_aload_n hx hb dX12_feed_53 rfl (lv_at hl 2 rfl) ?_
  refine g_get S hG 83 3 ((upE_n (by omega)).trans ((upE_n (by omega)).trans ((upE_n (by omega)).trans ((upE_n (by omega)).trans ((upE_n (by omega)).trans ((upE_n (by omega)).trans ((upE_n (by omega)).trans ((upE_n (by omega)).trans ((upE_n (by omega)).trans ((upE_n (by omega)).trans ((upE_n (by omega)).trans ((upE_n (by omega)).trans ((upE_n (by omega)).trans ((upE_n (by omega)).trans ((upE_n (by omega)).trans ((upE_n (by omega)).trans ((upE_n (by omega)).trans h83))))))))))))))))) cpX12 wm_1677 dX12_feed_54 rfl (by omega) (by decide) ?_
  refine lv_iload hx hb dX12_feed_57 (lv_at hl 0 rfl) ?_
  refine lv_iadd hx hb dX12_feed_59 ?_
  refine lv_topi (fun x_80 ex_80 => ?_)
  obtain rfl : x_80 = 11 := ex_80.trans (by decide)
  refine lv_aload hx hb dX12_feed_60 (lv_at hl 1 rfl) ?_
  refine lv_iload hx hb dX12_feed_62 (lv_at hl 0 rfl) ?_
  refine lv_iconst (v := 4) hx hb dX12_feed_64 (by decide) ?_
  refine lv_idiv hx hb dX12_feed_65 (by decide) ?_
  refine lv_topi (fun x_81 ex_81 => ?_)
  obtain rfl : x_81 = 2 := ex_81.trans (by decide)
  refine g_iald S hG n ((upE_n (by omega)).trans ((upE_n (by omega)).trans ((upE_n (by omega)).trans ((upE_n (by omega)).trans ((upE_n (by omega)).trans ((upE_n (by omega)).trans ((upE_n (by omega)).trans ((upE_n (by omega)).trans ((upE_n (by omega)).trans ((upE_n (by omega)).trans ((upE_n (by omega)).trans upE_s))))))))))) (by omega) dX12_feed_66 (by unfold vp_in; decide) ?_
  refine lv_bipush (v := 24) hx hb dX12_feed_67 (by decide) ?_
  refine lv_bipush (v := 8) hx hb dX12_feed_69 (by decide) ?_
  refine lv_iload hx hb dX12_feed_71 (lv_at hl 0 rfl) ?_
  refine lv_iconst (v := 4) hx hb dX12_feed_73 (by decide) ?_
  refine lv_irem hx hb dX12_feed_74 (by decide) ?_
  refine lv_topi (fun x_82 ex_82 => ?_)
  obtain rfl : x_82 = 3 := ex_82.trans (by decide)
  refine lv_imul hx hb dX12_feed_75 ?_
  refine lv_topi (fun x_83 ex_83 => ?_)
  obtain rfl : x_83 = 24 := ex_83.trans (by decide)
  refine lv_isub hx hb dX12_feed_76 ?_
  refine lv_topi (fun x_84 ex_84 => ?_)
  obtain rfl : x_84 = 0 := ex_84.trans (by decide)
  refine lv_iushr hx hb dX12_feed_77 rfl ?_
  refine lv_topi (fun x_85 ex_85 => ?_)
  refine lv_sipush (v := 255) hx hb dX12_feed_78 (by decide) ?_
  refine lv_iand hx hb dX12_feed_81 ?_
  refine g_iast S hG 86 upE_s (by omega) dX12_feed_82 (by unfold vp_in; decide) (fun H locs hG => ?_)
  refine lv_iinc (v := 12) (lv' := [(7, .int 12), (6, .ref (b + n)), (0, .ref (b + 83)), (1, .int a1), (2, .int a2), (3, .int a3), (4, .int a4), (5, .int a5)]) hx hb dX12_feed_83 hl (k := 0) rfl (by decide) (by decide) rfl (fun ls hl => ?_)
  refine lv_goto (tgt := 42) hx hb dX12_feed_86 (by decide) ?_
  refine lv_iload hx hb dX12_feed_42 (lv_at hl 0 rfl) ?_
  refine lv_bipush (v := 20) hx hb dX12_feed_44 (by decide) ?_
  refine lv_icmp_ge (tgt := 89) hx hb dX12_feed_46 (by decide) (fun c_86 => absurd c_86 (by decide)) (fun c_86 => ?_)
  refine lv_aload_n hx hb dX12_feed_49 rfl (lv_at hl 2 rfl) ?_
  refine g_get S hG 83 2 ((upE_n (by omega)).trans ((upE_n (by omega)).trans ((upE_n (by omega)).trans ((upE_n (by omega)).trans ((upE_n (by omega)).trans ((upE_n (by omega)).trans ((upE_n (by omega)).trans ((upE_n (by omega)).trans ((upE_n (by omega)).trans ((upE_n (by omega)).trans ((upE_n (by omega)).trans ((upE_n (by omega)).trans ((upE_n (by omega)).trans ((upE_n (by omega)).trans ((upE_n (by omega)).trans ((upE_n (by omega)).trans ((upE_n (by omega)).trans ((upE_n (by omega)).trans h83)))))))))))))))))) cpX12 wm_1676 dX12_feed_50 rfl (by omega) (by decide) ?_
  refine lv_aload_n hx hb dX12_feed_53 rfl (lv_at hl 2 rfl) ?_
  refine g_get S hG 83 3 ((upE_n (by omega)).trans ((upE_n (by omega)).trans ((upE_n (by omega)).trans ((upE_n (by omega)).trans ((upE_n (by omega)).trans ((upE_n (by omega)).trans ((upE_n (by omega)).trans ((upE_n (by omega)).trans ((upE_n (by omega)).trans ((upE_n (by omega)).trans ((upE_n (by omega)).trans ((upE_n (by omega)).trans ((upE_n (by omega)).trans ((upE_n (by omega)).trans ((upE_n (by omega)).trans ((upE_n (by omega)).trans ((upE_n (by omega)).trans ((upE_n (by omega)).trans h83)))))))))))))))))) cpX12 wm_1677 dX12_feed_54 rfl (by omega) (by decide) ?_
  refine lv_iload hx hb dX12_feed_57 (lv_at hl 0 rfl) ?_
  refine lv_iadd hx hb dX12_feed_59 ?_
  refine lv_topi (fun x_87 ex_87 => ?_)
  obtain rfl : x_87 = 12 := ex_87.trans (by decide)
  refine lv_aload hx hb dX12_feed_60 (lv_at hl 1 rfl) ?_
  refine lv_iload hx hb dX12_feed_62 (lv_at hl 0 rfl) ?_
  refine lv_iconst (v := 4) hx hb dX12_feed_64 (by decide) ?_
  refine lv_idiv hx hb dX12_feed_65 (by decide) ?_
  refine lv_topi (fun x_88 ex_88 => ?_)
  obtain rfl : x_88 = 3 := ex_88.trans (by decide)
  refine g_iald S hG n ((upE_n (by omega)).trans ((upE_n (by omega)).trans ((upE_n (by omega)).trans ((upE_n (by omega)).trans ((upE_n (by omega)).trans ((upE_n (by omega)).trans ((upE_n (by omega)).trans ((upE_n (by omega)).trans ((upE_n (by omega)).trans ((upE_n (by omega)).trans ((upE_n (by omega)).trans ((upE_n (by omega)).trans upE_s)))))))))))) (by omega) dX12_feed_66 (by unfold vp_in; decide) ?_
  refine lv_bipush (v := 24) hx hb dX12_feed_67 (by decide) ?_
  refine lv_bipush (v := 8) hx hb dX12_feed_69 (by decide) ?_
  refine lv_iload hx hb dX12_feed_71 (lv_at hl 0 rfl) ?_
  refine lv_iconst (v := 4) hx hb dX12_feed_73 (by decide) ?_
  refine lv_irem hx hb dX12_feed_74 (by decide) ?_
  refine lv_topi (fun x_89 ex_89 => ?_)
  obtain rfl : x_89 = 0 := ex_89.trans (by decide)
  refine lv_imul hx hb dX12_feed_75 ?_
  refine lv_topi (fun x_90 ex_90 => ?_)
  obtain rfl : x_90 = 0 := ex_90.trans (by decide)
  refine lv_isub hx hb dX12_feed_76 ?_
  refine lv_topi (fun x_91 ex_91 => ?_)
  obtain rfl : x_91 = 24 := ex_91.trans (by decide)
  refine lv_iushr hx hb dX12_feed_77 rfl ?_
  refine lv_topi (fun x_92 ex_92 => ?_)
  refine lv_sipush (v := 255) hx hb dX12_feed_78 (by decide) ?_
  refine lv_iand hx hb dX12_feed_81 ?_
  refine g_iast S hG 86 upE_s (by omega) dX12_feed_82 (by unfold vp_in; decide) (fun H locs hG => ?_)
  refine lv_iinc (v := 13) (lv' := [(7, .int 13), (6, .ref (b + n)), (0, .ref (b + 83)), (1, .int a1), (2, .int a2), (3, .int a3), (4, .int a4), (5, .int a5)]) hx hb dX12_feed_83 hl (k := 0) rfl (by decide) (by decide) rfl (fun ls hl => ?_)
  refine lv_goto (tgt := 42) hx hb dX12_feed_86 (by decide) ?_
  refine lv_iload hx hb dX12_feed_42 (lv_at hl 0 rfl) ?_
  refine lv_bipush (v := 20) hx hb dX12_feed_44 (by decide) ?_
  refine lv_icmp_ge (tgt := 89) hx hb dX12_feed_46 (by decide) (fun c_93 => absurd c_93 (by decide)) (fun c_93 => ?_)
  refine lv_aload_n hx hb dX12_feed_49 rfl (lv_at hl 2 rfl) ?_
  refine g_get S hG 83 2 ((upE_n (by omega)).trans ((upE_n (by omega)).trans ((upE_n (by omega)).trans ((upE_n (by omega)).trans ((upE_n (by omega)).trans ((upE_n (by omega)).trans ((upE_n (by omega)).trans ((upE_n (by omega)).trans ((upE_n (by omega)).trans ((upE_n (by omega)).trans ((upE_n (by omega)).trans ((upE_n (by omega)).trans ((upE_n (by omega)).trans ((upE_n (by omega)).trans ((upE_n (by omega)).trans ((upE_n (by omega)).trans ((upE_n (by omega)).trans ((upE_n (by omega)).trans ((upE_n (by omega)).trans h83))))))))))))))))))) cpX12 wm_1676 dX12_feed_50 rfl (by omega) (by decide) ?_
  refine lv_aload_n hx hb dX12_feed_53 rfl (lv_at hl 2 rfl) ?_
  refine g_get S hG 83 3 ((upE_n (by omega)).trans ((upE_n (by omega)).trans ((upE_n (by omega)).trans ((upE_n (by omega)).trans ((upE_n (by omega)).trans ((upE_n (by omega)).trans ((upE_n (by omega)).trans ((upE_n (by omega)).trans ((upE_n (by omega)).trans ((upE_n (by omega)).trans ((upE_n (by omega)).trans ((upE_n (by omega)).trans ((upE_n (by omega)).trans ((upE_n (by omega)).trans ((upE_n (by omega)).trans ((upE_n (by omega)).trans ((upE_n (by omega)).trans ((upE_n (by omega)).trans ((upE_n (by omega)).trans h83))))))))))))))))))) cpX12 wm_1677 dX12_feed_54 rfl (by omega) (by decide) ?_
  refine lv_iload hx hb dX12_feed_57 (lv_at hl 0 rfl) ?_
  refine lv_iadd hx hb dX12_feed_59 ?_
  refine lv_topi (fun x_94 ex_94 => ?_)
  obtain rfl : x_94 = 13 := ex_94.trans (by decide)
  refine lv_aload hx hb dX12_feed_60 (lv_at hl 1 rfl) ?_
  refine lv_iload hx hb dX12_feed_62 (lv_at hl 0 rfl) ?_
  refine lv_iconst (v := 4) hx hb dX12_feed_64 (by decide) ?_
  refine lv_idiv hx hb dX12_feed_65 (by decide) ?_
  refine lv_topi (fun x_95 ex_95 => ?_)
  obtain rfl : x_95 = 3 := ex_95.trans (by decide)
  refine g_iald S hG n ((upE_n (by omega)).trans ((upE_n (by omega)).trans ((upE_n (by omega)).trans ((upE_n (by omega)).trans ((upE_n (by omega)).trans ((upE_n (by omega)).trans ((upE_n (by omega)).trans ((upE_n (by omega)).trans ((upE_n (by omega)).trans ((upE_n (by omega)).trans ((upE_n (by omega)).trans ((upE_n (by omega)).trans ((upE_n (by omega)).trans upE_s))))))))))))) (by omega) dX12_feed_66 (by unfold vp_in; decide) ?_
  refine lv_bipush (v := 24) hx hb dX12_feed_67 (by decide) ?_
  refine lv_bipush (v := 8) hx hb dX12_feed_69 (by decide) ?_
  refine lv_iload hx hb dX12_feed_71 (lv_at hl 0 rfl) ?_
  refine lv_iconst (v := 4) hx hb dX12_feed_73 (by decide) ?_
  refine lv_irem hx hb dX12_feed_74 (by decide) ?_
  refine lv_topi (fun x_96 ex_96 => ?_)
  obtain rfl : x_96 = 1 := ex_96.trans (by decide)
  refine lv_imul hx hb dX12_feed_75 ?_
  refine lv_topi (fun x_97 ex_97 => ?_)
  obtain rfl : x_97 = 8 := ex_97.trans (by decide)
  refine lv_isub hx hb dX12_feed_76 ?_
  refine lv_topi (fun x_98 ex_98 => ?_)
  obtain rfl : x_98 = 16 := ex_98.trans (by decide)
  refine lv_iushr hx hb dX12_feed_77 rfl ?_
  refine lv_topi (fun x_99 ex_99 => ?_)
  refine lv_sipush (v := 255) hx hb dX12_feed_78 (by decide) ?_
  refine lv_iand hx hb dX12_feed_81 ?_
  refine g_iast S hG 86 upE_s (by omega) dX12_feed_82 (by unfold vp_in; decide) (fun H locs hG => ?_)
  refine lv_iinc (v := 14) (lv' := [(7, .int 14), (6, .ref (b + n)), (0, .ref (b + 83)), (1, .int a1), (2, .int a2), (3, .int a3), (4, .int a4), (5, .int a5)]) hx hb dX12_feed_83 hl (k := 0) rfl (by decide) (by decide) rfl (fun ls hl => ?_)
  refine lv_goto (tgt := 42) hx hb dX12_feed_86 (by decide) ?_
  refine lv_iload hx hb dX12_feed_42 (lv_at hl 0 rfl) ?_
  refine lv_bipush (v := 20) hx hb dX12_feed_44 (by decide) ?_
  refine lv_icmp_ge (tgt := 89) hx hb dX12_feed_46 (by decide) (fun c_100 => absurd c_100 (by decide)) (fun c_100 => ?_)
  refine lv_aload_n hx hb dX12_feed_49 rfl (lv_at hl 2 rfl) ?_
  refine g_get S hG 83 2 ((upE_n (by omega)).trans ((upE_n (by omega)).trans ((upE_n (by omega)).trans ((upE_n (by omega)).trans ((upE_n (by omega)).trans ((upE_n (by omega)).trans ((upE_n (by omega)).trans ((upE_n (by omega)).trans ((upE_n (by omega)).trans ((upE_n (by omega)).trans ((upE_n (by omega)).trans ((upE_n (by omega)).trans ((upE_n (by omega)).trans ((upE_n (by omega)).trans ((upE_n (by omega)).trans ((upE_n (by omega)).trans ((upE_n (by omega)).trans ((upE_n (by omega)).trans ((upE_n (by omega)).trans ((upE_n (by omega)).trans h83)))))))))))))))))))) cpX12 wm_1676 dX12_feed_50 rfl (by omega) (by decide) ?_
  refine lv_aload_n hx hb dX12_feed_53 rfl (lv_at hl 2 rfl) ?_
  refine g_get S hG 83 3 ((upE_n (by omega)).trans ((upE_n (by omega)).trans ((upE_n (by omega)).trans ((upE_n (by omega)).trans ((upE_n (by omega)).trans ((upE_n (by omega)).trans ((upE_n (by omega)).trans ((upE_n (by omega)).trans ((upE_n (by omega)).trans ((upE_n (by omega)).trans ((upE_n (by omega)).trans ((upE_n (by omega)).trans ((upE_n (by omega)).trans ((upE_n (by omega)).trans ((upE_n (by omega)).trans ((upE_n (by omega)).trans ((upE_n (by omega)).trans ((upE_n (by omega)).trans ((upE_n (by omega)).trans ((upE_n (by omega)).trans h83)))))))))))))))))))) cpX12 wm_1677 dX12_feed_54 rfl (by omega) (by decide) ?_
  refine lv_iload hx hb dX12_feed_57 (lv_at hl 0 rfl) ?_
  refine lv_iadd hx hb dX12_feed_59 ?_
  refine lv_topi (fun x_101 ex_101 => ?_)
  obtain rfl : x_101 = 14 := ex_101.trans (by decide)
  refine lv_aload hx hb dX12_feed_60 (lv_at hl 1 rfl) ?_
  refine lv_iload hx hb dX12_feed_62 (lv_at hl 0 rfl) ?_
  refine lv_iconst (v := 4) hx hb dX12_feed_64 (by decide) ?_
  refine lv_idiv hx hb dX12_feed_65 (by decide) ?_
  refine lv_topi (fun x_102 ex_102 => ?_)
  obtain rfl : x_102 = 3 := ex_102.trans (by decide)
  refine g_iald S hG n ((upE_n (by omega)).trans ((upE_n (by omega)).trans ((upE_n (by omega)).trans ((upE_n (by omega)).trans ((upE_n (by omega)).trans ((upE_n (by omega)).trans ((upE_n (by omega)).trans ((upE_n (by omega)).trans ((upE_n (by omega)).trans ((upE_n (by omega)).trans ((upE_n (by omega)).trans ((upE_n (by omega)).trans ((upE_n (by omega)).trans ((upE_n (by omega)).trans upE_s)))))))))))))) (by omega) dX12_feed_66 (by unfold vp_in; decide) ?_
  refine lv_bipush (v := 24) hx hb dX12_feed_67 (by decide) ?_
  refine lv_bipush (v := 8) hx hb dX12_feed_69 (by decide) ?_
  refine lv_iload hx hb dX12_feed_71 (lv_at hl 0 rfl) ?_
  refine lv_iconst (v := 4) hx hb dX12_feed_73 (by decide) ?_
  refine lv_irem hx hb dX12_feed_74 (by decide) ?_
  refine lv_topi (fun x_103 ex_103 => ?_)
  obtain rfl : x_103 = 2 := ex_103.trans (by decide)
  refine lv_imul hx hb dX12_feed_75 ?_
  refine lv_topi (fun x_104 ex_104 => ?_)
  obtain rfl : x_104 = 16 := ex_104.trans (by decide)
  refine lv_isub hx hb dX12_feed_76 ?_
  refine lv_topi (fun x_105 ex_105 => ?_)
  obtain rfl : x_105 = 8 := ex_105.trans (by decide)
  refine lv_iushr hx hb dX12_feed_77 rfl ?_
  refine lv_topi (fun x_106 ex_106 => ?_)
  refine lv_sipush (v := 255) hx hb dX12_feed_78 (by decide) ?_
  refine lv_iand hx hb dX12_feed_81 ?_
  refine g_iast S hG 86 upE_s (by omega) dX12_feed_82 (by unfold vp_in; decide) (fun H locs hG => ?_)
  refine lv_iinc (v := 15) (lv' := [(7, .int 15), (6, .ref (b + n)), (0, .ref (b + 83)), (1, .int a1), (2, .int a2), (3, .int a3), (4, .int a4), (5, .int a5)]) hx hb dX12_feed_83 hl (k := 0) rfl (by decide) (by decide) rfl (fun ls hl => ?_)
  refine lv_goto (tgt := 42) hx hb dX12_feed_86 (by decide) ?_
  refine lv_iload hx hb dX12_feed_42 (lv_at hl 0 rfl) ?_
  refine lv_bipush (v := 20) hx hb dX12_feed_44 (by decide) ?_
  refine lv_icmp_ge (tgt := 89) hx hb dX12_feed_46 (by decide) (fun c_107 => absurd c_107 (by decide)) (fun c_107 => ?_)
  refine lv_aload_n hx hb dX12_feed_49 rfl (lv_at hl 2 rfl) ?_
  refine g_get S hG 83 2 ((upE_n (by omega)).trans ((upE_n (by omega)).trans ((upE_n (by omega)).trans ((upE_n (by omega)).trans ((upE_n (by omega)).trans ((upE_n (by omega)).trans ((upE_n (by omega)).trans ((upE_n (by omega)).trans ((upE_n (by omega)).trans ((upE_n (by omega)).trans ((upE_n (by omega)).trans ((upE_n (by omega)).trans ((upE_n (by omega)).trans ((upE_n (by omega)).trans ((upE_n (by omega)).trans ((upE_n (by omega)).trans ((upE_n (by omega)).trans ((upE_n (by omega)).trans ((upE_n (by omega)).trans ((upE_n (by omega)).trans ((upE_n (by omega)).trans h83))))))))))))))))))))) cpX12 wm_1676 dX12_feed_50 rfl (by omega) (by decide) ?_
  refine lv_aload_n hx hb dX12_feed_53 rfl (lv_at hl 2 rfl) ?_
  refine g_get S hG 83 3 ((upE_n (by omega)).trans ((upE_n (by omega)).trans ((upE_n (by omega)).trans ((upE_n (by omega)).trans ((upE_n (by omega)).trans ((upE_n (by omega)).trans ((upE_n (by omega)).trans ((upE_n (by omega)).trans ((upE_n (by omega)).trans ((upE_n (by omega)).trans ((upE_n (by omega)).trans ((upE_n (by omega)).trans ((upE_n (by omega)).trans ((upE_n (by omega)).trans ((upE_n (by omega)).trans ((upE_n (by omega)).trans ((upE_n (by omega)).trans ((upE_n (by omega)).trans ((upE_n (by omega)).trans ((upE_n (by omega)).trans ((upE_n (by omega)).trans h83))))))))))))))))))))) cpX12 wm_1677 dX12_feed_54 rfl (by omega) (by decide) ?_
  refine lv_iload hx hb dX12_feed_57 (lv_at hl 0 rfl) ?_
  refine lv_iadd hx hb dX12_feed_59 ?_
  refine lv_topi (fun x_108 ex_108 => ?_)
  obtain rfl : x_108 = 15 := ex_108.trans (by decide)
  refine lv_aload hx hb dX12_feed_60 (lv_at hl 1 rfl) ?_
  refine lv_iload hx hb dX12_feed_62 (lv_at hl 0 rfl) ?_
  refine lv_iconst (v := 4) hx hb dX12_feed_64 (by decide) ?_
  refine lv_idiv hx hb dX12_feed_65 (by decide) ?_
  refine lv_topi (fun x_109 ex_109 => ?_)
  obtain rfl : x_109 = 3 := ex_109.trans (by decide)
  refine g_iald S hG n ((upE_n (by omega)).trans ((upE_n (by omega)).trans ((upE_n (by omega)).trans ((upE_n (by omega)).trans ((upE_n (by omega)).trans ((upE_n (by omega)).trans ((upE_n (by omega)).trans ((upE_n (by omega)).trans ((upE_n (by omega)).trans ((upE_n (by omega)).trans ((upE_n (by omega)).trans ((upE_n (by omega)).trans ((upE_n (by omega)).trans ((upE_n (by omega)).trans ((upE_n (by omega)).trans upE_s))))))))))))))) (by omega) dX12_feed_66 (by unfold vp_in; decide) ?_
  refine lv_bipush (v := 24) hx hb dX12_feed_67 (by decide) ?_
  refine lv_bipush (v := 8) hx hb dX12_feed_69 (by decide) ?_
  refine lv_iload hx hb dX12_feed_71 (lv_at hl 0 rfl) ?_
  refine lv_iconst (v := 4) hx hb dX12_feed_73 (by decide) ?_
  refine lv_irem hx hb dX12_feed_74 (by decide) ?_
  refine lv_topi (fun x_110 ex_110 => ?_)
  obtain rfl : x_110 = 3 := ex_110.trans (by decide)
  refine lv_imul hx hb dX12_feed_75 ?_
  refine lv_topi (fun x_111 ex_111 => ?_)
  obtain rfl : x_111 = 24 := ex_111.trans (by decide)
  refine lv_isub hx hb dX12_feed_76 ?_
  refine lv_topi (fun x_112 ex_112 => ?_)
  obtain rfl : x_112 = 0 := ex_112.trans (by decide)
  refine lv_iushr hx hb dX12_feed_77 rfl ?_
  refine lv_topi (fun x_113 ex_113 => ?_)
  refine lv_sipush (v := 255) hx hb dX12_feed_78 (by decide) ?_
  refine lv_iand hx hb dX12_feed_81 ?_
  refine g_iast S hG 86 upE_s (by omega) dX12_feed_82 (by unfold vp_in; decide) (fun H locs hG => ?_)
  refine lv_iinc (v := 16) (lv' := [(7, .int 16), (6, .ref (b + n)), (0, .ref (b + 83)), (1, .int a1), (2, .int a2), (3, .int a3), (4, .int a4), (5, .int a5)]) hx hb dX12_feed_83 hl (k := 0) rfl (by decide) (by decide) rfl (fun ls hl => ?_)
  refine lv_goto (tgt := 42) hx hb dX12_feed_86 (by decide) ?_
  refine lv_iload hx hb dX12_feed_42 (lv_at hl 0 rfl) ?_
  refine lv_bipush (v := 20) hx hb dX12_feed_44 (by decide) ?_
  refine lv_icmp_ge (tgt := 89) hx hb dX12_feed_46 (by decide) (fun c_114 => absurd c_114 (by decide)) (fun c_114 => ?_)
  refine lv_aload_n hx hb dX12_feed_49 rfl (lv_at hl 2 rfl) ?_
  refine g_get S hG 83 2 ((upE_n (by omega)).trans ((upE_n (by omega)).trans ((upE_n (by omega)).trans ((upE_n (by omega)).trans ((upE_n (by omega)).trans ((upE_n (by omega)).trans ((upE_n (by omega)).trans ((upE_n (by omega)).trans ((upE_n (by omega)).trans ((upE_n (by omega)).trans ((upE_n (by omega)).trans ((upE_n (by omega)).trans ((upE_n (by omega)).trans ((upE_n (by omega)).trans ((upE_n (by omega)).trans ((upE_n (by omega)).trans ((upE_n (by omega)).trans ((upE_n (by omega)).trans ((upE_n (by omega)).trans ((upE_n (by omega)).trans ((upE_n (by omega)).trans ((upE_n (by omega)).trans h83)))))))))))))))))))))) cpX12 wm_1676 dX12_feed_50 rfl (by omega) (by decide) ?_
  refine lv_aload_n hx hb dX12_feed_53 rfl (lv_at hl 2 rfl) ?_
  refine g_get S hG 83 3 ((upE_n (by omega)).trans ((upE_n (by omega)).trans ((upE_n (by omega)).trans ((upE_n (by omega)).trans ((upE_n (by omega)).trans ((upE_n (by omega)).trans ((upE_n (by omega)).trans ((upE_n (by omega)).trans ((upE_n (by omega)).trans ((upE_n (by omega)).trans ((upE_n (by omega)).trans ((upE_n (by omega)).trans ((upE_n (by omega)).trans ((upE_n (by omega)).trans ((upE_n (by omega)).trans ((upE_n (by omega)).trans ((upE_n (by omega)).trans ((upE_n (by omega)).trans ((upE_n (by omega)).trans ((upE_n (by omega)).trans ((upE_n (by omega)).trans ((upE_n (by omega)).trans h83)))))))))))))))))))))) cpX12 wm_1677 dX12_feed_54 rfl (by omega) (by decide) ?_
  refine lv_iload hx hb dX12_feed_57 (lv_at hl 0 rfl) ?_
  refine lv_iadd hx hb dX12_feed_59 ?_
  refine lv_topi (fun x_115 ex_115 => ?_)
  obtain rfl : x_115 = 16 := ex_115.trans (by decide)
  refine lv_aload hx hb dX12_feed_60 (lv_at hl 1 rfl) ?_
  refine lv_iload hx hb dX12_feed_62 (lv_at hl 0 rfl) ?_
  refine lv_iconst (v := 4) hx hb dX12_feed_64 (by decide) ?_
  refine lv_idiv hx hb dX12_feed_65 (by decide) ?_
  refine lv_topi (fun x_116 ex_116 => ?_)
  obtain rfl : x_116 = 4 := ex_116.trans (by decide)
  refine g_iald S hG n ((upE_n (by omega)).trans ((upE_n (by omega)).trans ((upE_n (by omega)).trans ((upE_n (by omega)).trans ((upE_n (by omega)).trans ((upE_n (by omega)).trans ((upE_n (by omega)).trans ((upE_n (by omega)).trans ((upE_n (by omega)).trans ((upE_n (by omega)).trans ((upE_n (by omega)).trans ((upE_n (by omega)).trans ((upE_n (by omega)).trans ((upE_n (by omega)).trans ((upE_n (by omega)).trans ((upE_n (by omega)).trans upE_s)))))))))))))))) (by omega) dX12_feed_66 (by unfold vp_in; decide) ?_
  refine lv_bipush (v := 24) hx hb dX12_feed_67 (by decide) ?_
  refine lv_bipush (v := 8) hx hb dX12_feed_69 (by decide) ?_
  refine lv_iload hx hb dX12_feed_71 (lv_at hl 0 rfl) ?_
  refine lv_iconst (v := 4) hx hb dX12_feed_73 (by decide) ?_
  refine lv_irem hx hb dX12_feed_74 (by decide) ?_
  refine lv_topi (fun x_117 ex_117 => ?_)
  obtain rfl : x_117 = 0 := ex_117.trans (by decide)
  refine lv_imul hx hb dX12_feed_75 ?_
  refine lv_topi (fun x_118 ex_118 => ?_)
  obtain rfl : x_118 = 0 := ex_118.trans (by decide)
  refine lv_isub hx hb dX12_feed_76 ?_
  refine lv_topi (fun x_119 ex_119 => ?_)
  obtain rfl : x_119 = 24 := ex_119.trans (by decide)
  refine lv_iushr hx hb dX12_feed_77 rfl ?_
  refine lv_topi (fun x_120 ex_120 => ?_)
  refine lv_sipush (v := 255) hx hb dX12_feed_78 (by decide) ?_
  refine lv_iand hx hb dX12_feed_81 ?_
  refine g_iast S hG 86 upE_s (by omega) dX12_feed_82 (by unfold vp_in; decide) (fun H locs hG => ?_)
  refine lv_iinc (v := 17) (lv' := [(7, .int 17), (6, .ref (b + n)), (0, .ref (b + 83)), (1, .int a1), (2, .int a2), (3, .int a3), (4, .int a4), (5, .int a5)]) hx hb dX12_feed_83 hl (k := 0) rfl (by decide) (by decide) rfl (fun ls hl => ?_)
  refine lv_goto (tgt := 42) hx hb dX12_feed_86 (by decide) ?_
  refine lv_iload hx hb dX12_feed_42 (lv_at hl 0 rfl) ?_
  refine lv_bipush (v := 20) hx hb dX12_feed_44 (by decide) ?_
  refine lv_icmp_ge (tgt := 89) hx hb dX12_feed_46 (by decide) (fun c_121 => absurd c_121 (by decide)) (fun c_121 => ?_)
  refine lv_aload_n hx hb dX12_feed_49 rfl (lv_at hl 2 rfl) ?_
  refine g_get S hG 83 2 ((upE_n (by omega)).trans ((upE_n (by omega)).trans ((upE_n (by omega)).trans ((upE_n (by omega)).trans ((upE_n (by omega)).trans ((upE_n (by omega)).trans ((upE_n (by omega)).trans ((upE_n (by omega)).trans ((upE_n (by omega)).trans ((upE_n (by omega)).trans ((upE_n (by omega)).trans ((upE_n (by omega)).trans ((upE_n (by omega)).trans ((upE_n (by omega)).trans ((upE_n (by omega)).trans ((upE_n (by omega)).trans ((upE_n (by omega)).trans ((upE_n (by omega)).trans ((upE_n (by omega)).trans ((upE_n (by omega)).trans ((upE_n (by omega)).trans ((upE_n (by omega)).trans ((upE_n (by omega)).trans h83))))))))))))))))))))))) cpX12 wm_1676 dX12_feed_50 rfl (by omega) (by decide) ?_
  refine lv_aload_n hx hb dX12_feed_53 rfl (lv_at hl 2 rfl) ?_
  refine g_get S hG 83 3 ((upE_n (by omega)).trans ((upE_n (by omega)).trans ((upE_n (by omega)).trans ((upE_n (by omega)).trans ((upE_n (by omega)).trans ((upE_n (by omega)).trans ((upE_n (by omega)).trans ((upE_n (by omega)).trans ((upE_n (by omega)).trans ((upE_n (by omega)).trans ((upE_n (by omega)).trans ((upE_n (by omega)).trans ((upE_n (by omega)).trans ((upE_n (by omega)).trans ((upE_n (by omega)).trans ((upE_n (by omega)).trans ((upE_n (by omega)).trans ((upE_n (by omega)).trans ((upE_n (by omega)).trans ((upE_n (by omega)).trans ((upE_n (by omega)).trans ((upE_n (by omega)).trans ((upE_n (by omega)).trans h83))))))))))))))))))))))) cpX12 wm_1677 dX12_feed_54 rfl (by omega) (by decide) ?_
  refine lv_iload hx hb dX12_feed_57 (lv_at hl 0 rfl) ?_
  refine lv_iadd hx hb dX12_feed_59 ?_
  refine lv_topi (fun x_122 ex_122 => ?_)
  obtain rfl : x_122 = 17 := ex_122.trans (by decide)
  refine lv_aload hx hb dX12_feed_60 (lv_at hl 1 rfl) ?_
  refine lv_iload hx hb dX12_feed_62 (lv_at hl 0 rfl) ?_
  refine lv_iconst (v := 4) hx hb dX12_feed_64 (by decide) ?_
  refine lv_idiv hx hb dX12_feed_65 (by decide) ?_
  refine lv_topi (fun x_123 ex_123 => ?_)
  obtain rfl : x_123 = 4 := ex_123.trans (by decide)
  refine g_iald S hG n ((upE_n (by omega)).trans ((upE_n (by omega)).trans ((upE_n (by omega)).trans ((upE_n (by omega)).trans ((upE_n (by omega)).trans ((upE_n (by omega)).trans ((upE_n (by omega)).trans ((upE_n (by omega)).trans ((upE_n (by omega)).trans ((upE_n (by omega)).trans ((upE_n (by omega)).trans ((upE_n (by omega)).trans ((upE_n (by omega)).trans ((upE_n (by omega)).trans ((upE_n (by omega)).trans ((upE_n (by omega)).trans ((upE_n (by omega)).trans upE_s))))))))))))))))) (by omega) dX12_feed_66 (by unfold vp_in; decide) ?_
  refine lv_bipush (v := 24) hx hb dX12_feed_67 (by decide) ?_
  refine lv_bipush (v := 8) hx hb dX12_feed_69 (by decide) ?_
  refine lv_iload hx hb dX12_feed_71 (lv_at hl 0 rfl) ?_
  refine lv_iconst (v := 4) hx hb dX12_feed_73 (by decide) ?_
  refine lv_irem hx hb dX12_feed_74 (by decide) ?_
  refine lv_topi (fun x_124 ex_124 => ?_)
  obtain rfl : x_124 = 1 := ex_124.trans (by decide)
  refine lv_imul hx hb dX12_feed_75 ?_
  refine lv_topi (fun x_125 ex_125 => ?_)
  obtain rfl : x_125 = 8 := ex_125.trans (by decide)
  refine lv_isub hx hb dX12_feed_76 ?_
  refine lv_topi (fun x_126 ex_126 => ?_)
  obtain rfl : x_126 = 16 := ex_126.trans (by decide)
  refine lv_iushr hx hb dX12_feed_77 rfl ?_
  refine lv_topi (fun x_127 ex_127 => ?_)
  refine lv_sipush (v := 255) hx hb dX12_feed_78 (by decide) ?_
  refine lv_iand hx hb dX12_feed_81 ?_
  refine g_iast S hG 86 upE_s (by omega) dX12_feed_82 (by unfold vp_in; decide) (fun H locs hG => ?_)
  refine lv_iinc (v := 18) (lv' := [(7, .int 18), (6, .ref (b + n)), (0, .ref (b + 83)), (1, .int a1), (2, .int a2), (3, .int a3), (4, .int a4), (5, .int a5)]) hx hb dX12_feed_83 hl (k := 0) rfl (by decide) (by decide) rfl (fun ls hl => ?_)
  refine lv_goto (tgt := 42) hx hb dX12_feed_86 (by decide) ?_
  refine lv_iload hx hb dX12_feed_42 (lv_at hl 0 rfl) ?_
  refine lv_bipush (v := 20) hx hb dX12_feed_44 (by decide) ?_
  refine lv_icmp_ge (tgt := 89) hx hb dX12_feed_46 (by decide) (fun c_128 => absurd c_128 (by decide)) (fun c_128 => ?_)
  refine lv_aload_n hx hb dX12_feed_49 rfl (lv_at hl 2 rfl) ?_
  refine g_get S hG 83 2 ((upE_n (by omega)).trans ((upE_n (by omega)).trans ((upE_n (by omega)).trans ((upE_n (by omega)).trans ((upE_n (by omega)).trans ((upE_n (by omega)).trans ((upE_n (by omega)).trans ((upE_n (by omega)).trans ((upE_n (by omega)).trans ((upE_n (by omega)).trans ((upE_n (by omega)).trans ((upE_n (by omega)).trans ((upE_n (by omega)).trans ((upE_n (by omega)).trans ((upE_n (by omega)).trans ((upE_n (by omega)).trans ((upE_n (by omega)).trans ((upE_n (by omega)).trans ((upE_n (by omega)).trans ((upE_n (by omega)).trans ((upE_n (by omega)).trans ((upE_n (by omega)).trans ((upE_n (by omega)).trans ((upE_n (by omega)).trans h83)))))))))))))))))))))))) cpX12 wm_1676 dX12_feed_50 rfl (by omega) (by decide) ?_
  refine lv_aload_n hx hb dX12_feed_53 rfl (lv_at hl 2 rfl) ?_
  refine g_get S hG 83 3 ((upE_n (by omega)).trans ((upE_n (by omega)).trans ((upE_n (by omega)).trans ((upE_n (by omega)).trans ((upE_n (by omega)).trans ((upE_n (by omega)).trans ((upE_n (by omega)).trans ((upE_n (by omega)).trans ((upE_n (by omega)).trans ((upE_n (by omega)).trans ((upE_n (by omega)).trans ((upE_n (by omega)).trans ((upE_n (by omega)).trans ((upE_n (by omega)).trans ((upE_n (by omega)).trans ((upE_n (by omega)).trans ((upE_n (by omega)).trans ((upE_n (by omega)).trans ((upE_n (by omega)).trans ((upE_n (by omega)).trans ((upE_n (by omega)).trans ((upE_n (by omega)).trans ((upE_n (by omega)).trans ((upE_n (by omega)).trans h83)))))))))))))))))))))))) cpX12 wm_1677 dX12_feed_54 rfl (by omega) (by decide) ?_
  refine lv_iload hx hb dX12_feed_57 (lv_at hl 0 rfl) ?_
  refine lv_iadd hx hb dX12_feed_59 ?_
  refine lv_topi (fun x_129 ex_129 => ?_)
  obtain rfl : x_129 = 18 := ex_129.trans (by decide)
  refine lv_aload hx hb dX12_feed_60 (lv_at hl 1 rfl) ?_
  refine lv_iload hx hb dX12_feed_62 (lv_at hl 0 rfl) ?_
  refine lv_iconst (v := 4) hx hb dX12_feed_64 (by decide) ?_
  refine lv_idiv hx hb dX12_feed_65 (by decide) ?_
  refine lv_topi (fun x_130 ex_130 => ?_)
  obtain rfl : x_130 = 4 := ex_130.trans (by decide)
  refine g_iald S hG n ((upE_n (by omega)).trans ((upE_n (by omega)).trans ((upE_n (by omega)).trans ((upE_n (by omega)).trans ((upE_n (by omega)).trans ((upE_n (by omega)).trans ((upE_n (by omega)).trans ((upE_n (by omega)).trans ((upE_n (by omega)).trans ((upE_n (by omega)).trans ((upE_n (by omega)).trans ((upE_n (by omega)).trans ((upE_n (by omega)).trans ((upE_n (by omega)).trans ((upE_n (by omega)).trans ((upE_n (by omega)).trans ((upE_n (by omega)).trans ((upE_n (by omega)).trans upE_s)))))))))))))))))) (by omega) dX12_feed_66 (by unfold vp_in; decide) ?_
  refine lv_bipush (v := 24) hx hb dX12_feed_67 (by decide) ?_
  refine lv_bipush (v := 8) hx hb dX12_feed_69 (by decide) ?_
  refine lv_iload hx hb dX12_feed_71 (lv_at hl 0 rfl) ?_
  refine lv_iconst (v := 4) hx hb dX12_feed_73 (by decide) ?_
  refine lv_irem hx hb dX12_feed_74 (by decide) ?_
  refine lv_topi (fun x_131 ex_131 => ?_)
  obtain rfl : x_131 = 2 := ex_131.trans (by decide)
  refine lv_imul hx hb dX12_feed_75 ?_
  refine lv_topi (fun x_132 ex_132 => ?_)
  obtain rfl : x_132 = 16 := ex_132.trans (by decide)
  refine lv_isub hx hb dX12_feed_76 ?_
  refine lv_topi (fun x_133 ex_133 => ?_)
  obtain rfl : x_133 = 8 := ex_133.trans (by decide)
  refine lv_iushr hx hb dX12_feed_77 rfl ?_
  refine lv_topi (fun x_134 ex_134 => ?_)
  refine lv_sipush (v := 255) hx hb dX12_feed_78 (by decide) ?_
  refine lv_iand hx hb dX12_feed_81 ?_
  refine g_iast S hG 86 upE_s (by omega) dX12_feed_82 (by unfold vp_in; decide) (fun H locs hG => ?_)
  refine lv_iinc (v := 19) (lv' := [(7, .int 19), (6, .ref (b + n)), (0, .ref (b + 83)), (1, .int a1), (2, .int a2), (3, .int a3), (4, .int a4), (5, .int a5)]) hx hb dX12_feed_83 hl (k := 0) rfl (by decide) (by decide) rfl (fun ls hl => ?_)
  refine lv_goto (tgt := 42) hx hb dX12_feed_86 (by decide) ?_
  refine lv_iload hx hb dX12_feed_42 (lv_at hl 0 rfl) ?_
  refine lv_bipush (v := 20) hx hb dX12_feed_44 (by decide) ?_
  refine lv_icmp_ge (tgt := 89) hx hb dX12_feed_46 (by decide) (fun c_135 => absurd c_135 (by decide)) (fun c_135 => ?_)
  refine lv_aload_n hx hb dX12_feed_49 rfl (lv_at hl 2 rfl) ?_
  refine g_get S hG 83 2 ((upE_n (by omega)).trans ((upE_n (by omega)).trans ((upE_n (by omega)).trans ((upE_n (by omega)).trans ((upE_n (by omega)).trans ((upE_n (by omega)).trans ((upE_n (by omega)).trans ((upE_n (by omega)).trans ((upE_n (by omega)).trans ((upE_n (by omega)).trans ((upE_n (by omega)).trans ((upE_n (by omega)).trans ((upE_n (by omega)).trans ((upE_n (by omega)).trans ((upE_n (by omega)).trans ((upE_n (by omega)).trans ((upE_n (by omega)).trans ((upE_n (by omega)).trans ((upE_n (by omega)).trans ((upE_n (by omega)).trans ((upE_n (by omega)).trans ((upE_n (by omega)).trans ((upE_n (by omega)).trans ((upE_n (by omega)).trans ((upE_n (by omega)).trans h83))))))))))))))))))))))))) cpX12 wm_1676 dX12_feed_50 rfl (by omega) (by decide) ?_
  refine lv_aload_n hx hb dX12_feed_53 rfl (lv_at hl 2 rfl) ?_
  refine g_get S hG 83 3 ((upE_n (by omega)).trans ((upE_n (by omega)).trans ((upE_n (by omega)).trans ((upE_n (by omega)).trans ((upE_n (by omega)).trans ((upE_n (by omega)).trans ((upE_n (by omega)).trans ((upE_n (by omega)).trans ((upE_n (by omega)).trans ((upE_n (by omega)).trans ((upE_n (by omega)).trans ((upE_n (by omega)).trans ((upE_n (by omega)).trans ((upE_n (by omega)).trans ((upE_n (by omega)).trans ((upE_n (by omega)).trans ((upE_n (by omega)).trans ((upE_n (by omega)).trans ((upE_n (by omega)).trans ((upE_n (by omega)).trans ((upE_n (by omega)).trans ((upE_n (by omega)).trans ((upE_n (by omega)).trans ((upE_n (by omega)).trans ((upE_n (by omega)).trans h83))))))))))))))))))))))))) cpX12 wm_1677 dX12_feed_54 rfl (by omega) (by decide) ?_
  refine lv_iload hx hb dX12_feed_57 (lv_at hl 0 rfl) ?_
  refine lv_iadd hx hb dX12_feed_59 ?_
  refine lv_topi (fun x_136 ex_136 => ?_)
  obtain rfl : x_136 = 19 := ex_136.trans (by decide)
  refine lv_aload hx hb dX12_feed_60 (lv_at hl 1 rfl) ?_
  refine lv_iload hx hb dX12_feed_62 (lv_at hl 0 rfl) ?_
  refine lv_iconst (v := 4) hx hb dX12_feed_64 (by decide) ?_
  refine lv_idiv hx hb dX12_feed_65 (by decide) ?_
  refine lv_topi (fun x_137 ex_137 => ?_)
  obtain rfl : x_137 = 4 := ex_137.trans (by decide)
  refine g_iald S hG n ((upE_n (by omega)).trans ((upE_n (by omega)).trans ((upE_n (by omega)).trans ((upE_n (by omega)).trans ((upE_n (by omega)).trans ((upE_n (by omega)).trans ((upE_n (by omega)).trans ((upE_n (by omega)).trans ((upE_n (by omega)).trans ((upE_n (by omega)).trans ((upE_n (by omega)).trans ((upE_n (by omega)).trans ((upE_n (by omega)).trans ((upE_n (by omega)).trans ((upE_n (by omega)).trans ((upE_n (by omega)).trans ((upE_n (by omega)).trans ((upE_n (by omega)).trans ((upE_n (by omega)).trans upE_s))))))))))))))))))) (by omega) dX12_feed_66 (by unfold vp_in; decide) ?_
  refine lv_bipush (v := 24) hx hb dX12_feed_67 (by decide) ?_
  refine lv_bipush (v := 8) hx hb dX12_feed_69 (by decide) ?_
  refine lv_iload hx hb dX12_feed_71 (lv_at hl 0 rfl) ?_
  refine lv_iconst (v := 4) hx hb dX12_feed_73 (by decide) ?_
  refine lv_irem hx hb dX12_feed_74 (by decide) ?_
  refine lv_topi (fun x_138 ex_138 => ?_)
  obtain rfl : x_138 = 3 := ex_138.trans (by decide)
  refine lv_imul hx hb dX12_feed_75 ?_
  refine lv_topi (fun x_139 ex_139 => ?_)
  obtain rfl : x_139 = 24 := ex_139.trans (by decide)
  refine lv_isub hx hb dX12_feed_76 ?_
  refine lv_topi (fun x_140 ex_140 => ?_)
  obtain rfl : x_140 = 0 := ex_140.trans (by decide)
  refine lv_iushr hx hb dX12_feed_77 rfl ?_
  refine lv_topi (fun x_141 ex_141 => ?_)
  refine lv_sipush (v := 255) hx hb dX12_feed_78 (by decide) ?_
  refine lv_iand hx hb dX12_feed_81 ?_
  refine g_iast S hG 86 upE_s (by omega) dX12_feed_82 (by unfold vp_in; decide) (fun H locs hG => ?_)
  refine lv_iinc (v := 20) (lv' := [(7, .int 20), (6, .ref (b + n)), (0, .ref (b + 83)), (1, .int a1), (2, .int a2), (3, .int a3), (4, .int a4), (5, .int a5)]) hx hb dX12_feed_83 hl (k := 0) rfl (by decide) (by decide) rfl (fun ls hl => ?_)
  refine lv_goto (tgt := 42) hx hb dX12_feed_86 (by decide) ?_
  refine lv_iload hx hb dX12_feed_42 (lv_at hl 0 rfl) ?_
  refine lv_bipush (v := 20) hx hb dX12_feed_44 (by decide) ?_
  refine lv_icmp_ge (tgt := 89) hx hb dX12_feed_46 (by decide) (fun c_142 => ?_) (fun c_142 => absurd c_142 (by decide))
  refine lv_aload_n hx hb dX12_feed_89 rfl (lv_at hl 2 rfl) ?_
  refine lv_dup hx hb dX12_feed_90 rfl ?_
  refine g_get S hG 83 3 ((upE_n (by omega)).trans ((upE_n (by omega)).trans ((upE_n (by omega)).trans ((upE_n (by omega)).trans ((upE_n (by omega)).trans ((upE_n (by omega)).trans ((upE_n (by omega)).trans ((upE_n (by omega)).trans ((upE_n (by omega)).trans ((upE_n (by omega)).trans ((upE_n (by omega)).trans ((upE_n (by omega)).trans ((upE_n (by omega)).trans ((upE_n (by omega)).trans ((upE_n (by omega)).trans ((upE_n (by omega)).trans ((upE_n (by omega)).trans ((upE_n (by omega)).trans ((upE_n (by omega)).trans ((upE_n (by omega)).trans ((upE_n (by omega)).trans ((upE_n (by omega)).trans ((upE_n (by omega)).trans ((upE_n (by omega)).trans ((upE_n (by omega)).trans ((upE_n (by omega)).trans h83)))))))))))))))))))))))))) cpX12 wm_1677 dX12_feed_91 rfl (by omega) (by decide) ?_
  refine lv_bipush (v := 20) hx hb dX12_feed_94 (by decide) ?_
  refine lv_iadd hx hb dX12_feed_96 ?_
  refine lv_topi (fun x_143 ex_143 => ?_)
  obtain rfl : x_143 = 20 := ex_143.trans (by decide)
  refine g_put (fs' := [.ref (b + 84), .ref (b + 85), .ref (b + 86), .int 20, .int 0, .int (-1), .int 0, .int 0, .int 0, .int 0, .int 0, .ref (b + 87), .ref (b + 88), .ref (b + 89), .ref (b + 90), .ref (b + 91), .ref (b + 92), .ref (b + 93), .ref (b + 94), .ref (b + 95), .int 0, .int 0, .int 0, .int 0, .int 0, .int 0, .int 0, .int 0, .ref (b + 96), .ref (b + 97), .ref (b + 98), .int 0, .long 0, .ref (b + 99), .ref (b + 100), .ref (b + 101), .ref (b + 102), .ref (b + 103), .int 0, .ref (b + 104), .int 0, .int 0, .int (-1), .int (-1), .int 0, .int 0, .int 0, .int 0, .int 0, .int 0, .int 0, .int 0]) S hG 83 3 ((upE_n (by omega)).trans ((upE_n (by omega)).trans ((upE_n (by omega)).trans ((upE_n (by omega)).trans ((upE_n (by omega)).trans ((upE_n (by omega)).trans ((upE_n (by omega)).trans ((upE_n (by omega)).trans ((upE_n (by omega)).trans ((upE_n (by omega)).trans ((upE_n (by omega)).trans ((upE_n (by omega)).trans ((upE_n (by omega)).trans ((upE_n (by omega)).trans ((upE_n (by omega)).trans ((upE_n (by omega)).trans ((upE_n (by omega)).trans ((upE_n (by omega)).trans ((upE_n (by omega)).trans ((upE_n (by omega)).trans ((upE_n (by omega)).trans ((upE_n (by omega)).trans ((upE_n (by omega)).trans ((upE_n (by omega)).trans ((upE_n (by omega)).trans ((upE_n (by omega)).trans h83)))))))))))))))))))))))))) cpX12 wm_1677 dX12_feed_97 rfl (by omega) (by decide) (Nat.le_of_ble_eq_true rfl) rfl rfl rfl (fun H locs hG => ?_)
  refine lv_aload_n hx hb dX12_feed_100 rfl (lv_at hl 2 rfl) ?_
  refine g_get S hG 83 3 upE_s cpX12 wm_1677 dX12_feed_101 rfl (by omega) (by decide) ?_
  exact g_iret S hr hlk hG (by omega) dX12_feed_104 ⟨Nat.le_of_ble_eq_true rfl, Nat.le_of_ble_eq_true rfl⟩ rfl
theorem wS_2_55 : gWS "GrownKinds$Grammar" 55 yJ7_fill_53178 cJ7_fill_53178 4 none := ⟨wm_748, wm_749, wm_188, wm_750, by decide +kernel, by decide +kernel⟩
set_option maxHeartbeats 4000000 in
set_option maxRecDepth 100000 in
theorem qX2_clear_13 (l : Launch) {D : va_G} {cy : Nat → ClassId} {b n : Nat} (hn : 105 ≤ n) {E : Nat → va_E}  (h13 : E 13 = Z13 b cy) (h19 : E 19 = Z19 b cy) (h21 : E 21 = Z21 b cy)   : gV l yX2_clear cX2_clear 1 1 0 0 D cy b n E [.ref (b + 13)] (fun u => u.1 = n ∧ (∀ j, j ≠ 13 → j ≠ 19 → j ≠ 21 → u.2 j = E j) ∧ u.2 13 = .inr (2, [.int 0, .int 0, .int 0, .int 0, .int 0, .ref (b + 14), .ref (b + 15), .ref (b + 16), .ref (b + 17), .ref (b + 18), .ref (b + 19), .ref (b + 20), .ref (b + 21), .ref (b + 22)]) ∧ (∃ f : Nat → Int32, u.2 19 = .inl (cy 1, 30, .inl f)) ∧ (∃ f : Nat → Int32, u.2 21 = .inl (cy 1, 30, .inl f))) := by
  refine gV_of (by decide) (Nat.le_of_ble_eq_true rfl) ?_
  intro p e s m args below meth c S hr hlk hin hsz ls hl hG
  have hx := S.1
  have hb := S.2.1
  have hl : lv_has ls 1 [(0, .ref (b + 13))] := hl
  refine lv_aload_n hx hb dX2_clear_0 rfl (lv_at hl 0 rfl) ?_
  refine lv_iconst (v := 0) hx hb dX2_clear_1 (by decide) ?_
  refine g_put (fs' := [.int 0, .int 0, .int 0, .int 0, .int 0, .ref (b + 14), .ref (b + 15), .ref (b + 16), .ref (b + 17), .ref (b + 18), .ref (b + 19), .ref (b + 20), .ref (b + 21), .ref (b + 22)]) S hG 13 0 h13 cpX2 wm_211 dX2_clear_2 rfl (by omega) (by decide) (Nat.le_of_ble_eq_true rfl) rfl rfl rfl (fun H locs hG => ?_)
  refine lv_aload_n hx hb dX2_clear_5 rfl (lv_at hl 0 rfl) ?_
  refine lv_iconst (v := 0) hx hb dX2_clear_6 (by decide) ?_
  refine g_put (fs' := [.int 0, .int 0, .int 0, .int 0, .int 0, .ref (b + 14), .ref (b + 15), .ref (b + 16), .ref (b + 17), .ref (b + 18), .ref (b + 19), .ref (b + 20), .ref (b + 21), .ref (b + 22)]) S hG 13 1 rfl cpX2 wm_217 dX2_clear_7 rfl (by omega) (by decide) (Nat.le_of_ble_eq_true rfl) rfl rfl rfl (fun H locs hG => ?_)
  refine lv_aload_n hx hb dX2_clear_10 rfl (lv_at hl 0 rfl) ?_
  refine lv_iconst (v := 0) hx hb dX2_clear_11 (by decide) ?_
  refine g_put (fs' := [.int 0, .int 0, .int 0, .int 0, .int 0, .ref (b + 14), .ref (b + 15), .ref (b + 16), .ref (b + 17), .ref (b + 18), .ref (b + 19), .ref (b + 20), .ref (b + 21), .ref (b + 22)]) S hG 13 2 rfl cpX2 wm_222 dX2_clear_12 rfl (by omega) (by decide) (Nat.le_of_ble_eq_true rfl) rfl rfl rfl (fun H locs hG => ?_)
  refine lv_aload_n hx hb dX2_clear_15 rfl (lv_at hl 0 rfl) ?_
  refine lv_iconst (v := 0) hx hb dX2_clear_16 (by decide) ?_
  refine g_put (fs' := [.int 0, .int 0, .int 0, .int 0, .int 0, .ref (b + 14), .ref (b + 15), .ref (b + 16), .ref (b + 17), .ref (b + 18), .ref (b + 19), .ref (b + 20), .ref (b + 21), .ref (b + 22)]) S hG 13 3 rfl cpX2 wm_225 dX2_clear_17 rfl (by omega) (by decide) (Nat.le_of_ble_eq_true rfl) rfl rfl rfl (fun H locs hG => ?_)
  refine lv_aload_n hx hb dX2_clear_20 rfl (lv_at hl 0 rfl) ?_
  refine lv_iconst (v := 0) hx hb dX2_clear_21 (by decide) ?_
  refine g_put (fs' := [.int 0, .int 0, .int 0, .int 0, .int 0, .ref (b + 14), .ref (b + 15), .ref (b + 16), .ref (b + 17), .ref (b + 18), .ref (b + 19), .ref (b + 20), .ref (b + 21), .ref (b + 22)]) S hG 13 4 rfl cpX2 wm_230 dX2_clear_22 rfl (by omega) (by decide) (Nat.le_of_ble_eq_true rfl) rfl rfl rfl (fun H locs hG => ?_)
  refine lv_aload_n hx hb dX2_clear_25 rfl (lv_at hl 0 rfl) ?_
  refine g_get S hG 13 10 rfl cpX2 wm_261 dX2_clear_26 rfl (by omega) (by decide) ?_
  refine lv_iconst (v := 0) hx hb dX2_clear_29 (by decide) ?_
  refine g_sv (As := [.ref (b + 19), .int 0]) (rest := []) S hG (by omega) (qJ7_fill_53178 l (j := 19) (N := 30) (by omega) (by decide) (by exact h19) 0) wS_2_55 dX2_clear_30 rfl hl.1 (ar := 2) (by decide +kernel) rfl ⟨Nat.le_of_ble_eq_true rfl, Nat.le_of_ble_eq_true rfl, Nat.le_of_ble_eq_true rfl, Nat.le_of_ble_eq_true rfl⟩ (Nat.le_of_ble_eq_true rfl) (fun u_E_1 H locs hp_2 hG => ?_)
  obtain ⟨n_E_1, E_1⟩ := u_E_1
  dsimp only at hp_2 hG
  obtain ⟨nhp_2, rfl⟩ := hp_2
  have hG := gW_eq2 hG nhp_2 rfl
  refine lv_aload_n hx hb dX2_clear_33 rfl (lv_at hl 0 rfl) ?_
  refine g_get S hG 13 12 rfl cpX2 wm_270 dX2_clear_34 rfl (by omega) (by decide) ?_
  refine lv_iconst (v := 0) hx hb dX2_clear_37 (by decide) ?_
  refine g_sv (As := [.ref (b + 21), .int 0]) (rest := []) S hG (by omega) (qJ7_fill_53178 l (j := 21) (N := 30) (by omega) (by decide) (by exact h21) 0) wS_2_55 dX2_clear_38 rfl hl.1 (ar := 2) (by decide +kernel) rfl ⟨Nat.le_of_ble_eq_true rfl, Nat.le_of_ble_eq_true rfl, Nat.le_of_ble_eq_true rfl, Nat.le_of_ble_eq_true rfl⟩ (Nat.le_of_ble_eq_true rfl) (fun u_E_3 H locs hp_4 hG => ?_)
  obtain ⟨n_E_3, E_3⟩ := u_E_3
  dsimp only at hp_4 hG
  obtain ⟨nhp_4, rfl⟩ := hp_4
  have hG := gW_eq2 hG nhp_4 rfl
  exact g_vret S hr hlk hG (by omega) dX2_clear_41 ⟨Nat.le_of_ble_eq_true rfl, Nat.le_of_ble_eq_true rfl⟩ ⟨rfl, fun j hj13 hj19 hj21 => (upE_n (by omega)).trans ((upE_n (by omega)).trans ((upE_n (by omega)).trans ((upE_n (by omega)).trans ((upE_n (by omega)).trans ((upE_n (by omega)).trans ((upE_n (by omega)).trans (rfl))))))), rfl, ⟨_, rfl⟩, ⟨_, rfl⟩⟩
set_option maxHeartbeats 4000000 in
set_option maxRecDepth 100000 in
theorem qX5_advance (l : Launch) {D : va_G} {cy : Nat → ClassId} {b n : Nat} (hn : 105 ≤ n) {E : Nat → va_E}  (h12 : E 12 = .inr (5, [.ref (b + 13), .int 0, .int (-1), .ref (b + 26), .ref (b + 1), .int 0, .int 0, .int 3, .int 0, .int 0, .int 0, .ref (b + 24), .ref (b + 25)]))   : gV l yX5_advance cX5_advance 2 0 0 0 D cy b n E [.ref (b + 12)] (fun u => u.1 = n ∧ (∀ j, j ≠ 12 → u.2 j = E j) ∧ u.2 12 = .inr (5, [.ref (b + 13), .int 0, .int (-1), .ref (b + 26), .ref (b + 1), .int 0, .int 0, .int 3, .int 0, .int 0, .int 0, .ref (b + 24), .ref (b + 25)])) := by
  refine gV_of (by decide) (Nat.le_of_ble_eq_true rfl) ?_
  intro p e s m args below meth c S hr hlk hin hsz ls hl hG
  have hx := S.1
  have hb := S.2.1
  have hl : lv_has ls 2 [(0, .ref (b + 12))] := hl
  refine lv_aload_n hx hb dX5_advance_0 rfl (lv_at hl 0 rfl) ?_
  refine g_get S hG 12 6 h12 cpX5 wm_360 dX5_advance_1 rfl (by omega) (by decide) ?_
  refine lv_aload_n hx hb dX5_advance_4 rfl (lv_at hl 0 rfl) ?_
  refine g_get S hG 12 5 h12 cpX5 wm_359 dX5_advance_5 rfl (by omega) (by decide) ?_
  refine lv_icmp_ge (tgt := 52) hx hb dX5_advance_8 (by decide) (fun c_1 => ?_) (fun c_1 => absurd c_1 (by decide))
  refine lv_aload_n hx hb dX5_advance_52 rfl (lv_at hl 0 rfl) ?_
  refine lv_aload_n hx hb dX5_advance_53 rfl (lv_at hl 0 rfl) ?_
  refine g_get S hG 12 6 h12 cpX5 wm_360 dX5_advance_54 rfl (by omega) (by decide) ?_
  refine g_put (fs' := [.ref (b + 13), .int 0, .int (-1), .ref (b + 26), .ref (b + 1), .int 0, .int 0, .int 3, .int 0, .int 0, .int 0, .ref (b + 24), .ref (b + 25)]) S hG 12 8 h12 cpX5 wm_362 dX5_advance_57 rfl (by omega) (by decide) (Nat.le_of_ble_eq_true rfl) rfl rfl rfl (fun H locs hG => ?_)
  refine lv_aload_n hx hb dX5_advance_60 rfl (lv_at hl 0 rfl) ?_
  refine g_get S hG 12 6 rfl cpX5 wm_360 dX5_advance_61 rfl (by omega) (by decide) ?_
  refine lv_aload_n hx hb dX5_advance_64 rfl (lv_at hl 0 rfl) ?_
  refine g_get S hG 12 5 rfl cpX5 wm_359 dX5_advance_65 rfl (by omega) (by decide) ?_
  refine lv_icmp_lt (tgt := 77) hx hb dX5_advance_68 (by decide) (fun c_2 => absurd c_2 (by decide)) (fun c_2 => ?_)
  refine lv_aload_n hx hb dX5_advance_71 rfl (lv_at hl 0 rfl) ?_
  refine lv_iconst (v := 3) hx hb dX5_advance_72 (by decide) ?_
  refine g_put (fs' := [.ref (b + 13), .int 0, .int (-1), .ref (b + 26), .ref (b + 1), .int 0, .int 0, .int 3, .int 0, .int 0, .int 0, .ref (b + 24), .ref (b + 25)]) S hG 12 7 rfl cpX5 wm_361 dX5_advance_73 rfl (by omega) (by decide) (Nat.le_of_ble_eq_true rfl) rfl rfl rfl (fun H locs hG => ?_)
  exact g_vret S hr hlk hG (by omega) dX5_advance_76 ⟨Nat.le_of_ble_eq_true rfl, Nat.le_of_ble_eq_true rfl⟩ ⟨rfl, fun j hj12 => (upE_n (by omega)).trans ((upE_n (by omega)).trans (rfl)), rfl⟩
theorem wV_5_60 : gWV "GrownKinds$Reader" 60 yX2_clear cX2_clear 1 none := ⟨wm_744, wm_745, wm_746, wm_177, wm_747, by decide +kernel, by decide +kernel⟩
theorem wV_5_65 : gWV "GrownKinds$Reader" 65 yX5_advance cX5_advance 2 none := ⟨wm_751, wm_753, wm_1, wm_178, wm_754, by decide +kernel, by decide +kernel⟩
set_option maxHeartbeats 4000000 in
set_option maxRecDepth 100000 in
theorem qX5_read (l : Launch) {D : va_G} {cy : Nat → ClassId} {b n : Nat} (hn : 105 ≤ n) {E : Nat → va_E}  (h12 : E 12 = Z12 b cy) (h13 : E 13 = Z13 b cy) (h19 : E 19 = Z19 b cy) (h21 : E 21 = Z21 b cy)   : gI l yX5_read cX5_read 4 (some .int) 2 0 0 D cy b n E [.ref (b + 12), .ref (b + 1), .int 0] (fun r u => r = 0 ∧ u.1 = n ∧ (∀ j, j ≠ 12 → j ≠ 13 → j ≠ 19 → j ≠ 21 → u.2 j = E j) ∧ u.2 12 = .inr (5, [.ref (b + 13), .int 0, .int (-1), .ref (b + 26), .ref (b + 1), .int 0, .int 0, .int 3, .int 0, .int 0, .int 0, .ref (b + 24), .ref (b + 25)]) ∧ u.2 13 = .inr (2, [.int 0, .int 0, .int 0, .int 0, .int 0, .ref (b + 14), .ref (b + 15), .ref (b + 16), .ref (b + 17), .ref (b + 18), .ref (b + 19), .ref (b + 20), .ref (b + 21), .ref (b + 22)]) ∧ (∃ f : Nat → Int32, u.2 19 = .inl (cy 1, 30, .inl f)) ∧ (∃ f : Nat → Int32, u.2 21 = .inl (cy 1, 30, .inl f))) := by
  refine gI_of (by decide) (Nat.le_of_ble_eq_true rfl) ?_
  intro p e s m args below meth c S hr hlk hin hsz ls hl hG
  have hx := S.1
  have hb := S.2.1
  have hl : lv_has ls 4 [(0, .ref (b + 12)), (1, .ref (b + 1)), (2, .int 0)] := hl
  refine lv_aload_n hx hb dX5_read_0 rfl (lv_at hl 0 rfl) ?_
  refine lv_aload_n hx hb dX5_read_1 rfl (lv_at hl 1 rfl) ?_
  refine g_put (fs' := [.ref (b + 13), .int 0, .int (-1), .ref (b + 26), .ref (b + 1), .int 0, .int 0, .int 3, .int 0, .int 0, .int 0, .ref (b + 24), .ref (b + 25)]) S hG 12 4 h12 cpX5 wm_358 dX5_read_2 rfl (by omega) (by decide) (Nat.le_of_ble_eq_true rfl) rfl rfl rfl (fun H locs hG => ?_)
  refine lv_aload_n hx hb dX5_read_5 rfl (lv_at hl 0 rfl) ?_
  refine lv_iload_n hx hb dX5_read_6 rfl (lv_at hl 2 rfl) ?_
  refine g_put (fs' := [.ref (b + 13), .int 0, .int (-1), .ref (b + 26), .ref (b + 1), .int 0, .int 0, .int 3, .int 0, .int 0, .int 0, .ref (b + 24), .ref (b + 25)]) S hG 12 5 rfl cpX5 wm_359 dX5_read_7 rfl (by omega) (by decide) (Nat.le_of_ble_eq_true rfl) rfl rfl rfl (fun H locs hG => ?_)
  refine lv_aload_n hx hb dX5_read_10 rfl (lv_at hl 0 rfl) ?_
  refine lv_iconst (v := 0) hx hb dX5_read_11 (by decide) ?_
  refine g_put (fs' := [.ref (b + 13), .int 0, .int (-1), .ref (b + 26), .ref (b + 1), .int 0, .int 0, .int 3, .int 0, .int 0, .int 0, .ref (b + 24), .ref (b + 25)]) S hG 12 6 rfl cpX5 wm_360 dX5_read_12 rfl (by omega) (by decide) (Nat.le_of_ble_eq_true rfl) rfl rfl rfl (fun H locs hG => ?_)
  refine lv_aload_n hx hb dX5_read_15 rfl (lv_at hl 0 rfl) ?_
  refine lv_iconst (v := 0) hx hb dX5_read_16 (by decide) ?_
  refine g_put (fs' := [.ref (b + 13), .int 0, .int (-1), .ref (b + 26), .ref (b + 1), .int 0, .int 0, .int 3, .int 0, .int 0, .int 0, .ref (b + 24), .ref (b + 25)]) S hG 12 1 rfl cpX5 wm_353 dX5_read_17 rfl (by omega) (by decide) (Nat.le_of_ble_eq_true rfl) rfl rfl rfl (fun H locs hG => ?_)
  refine lv_aload_n hx hb dX5_read_20 rfl (lv_at hl 0 rfl) ?_
  refine lv_iconst (v := (-1)) hx hb dX5_read_21 (by decide) ?_
  refine g_put (fs' := [.ref (b + 13), .int 0, .int (-1), .ref (b + 26), .ref (b + 1), .int 0, .int 0, .int 3, .int 0, .int 0, .int 0, .ref (b + 24), .ref (b + 25)]) S hG 12 2 rfl cpX5 wm_355 dX5_read_22 rfl (by omega) (by decide) (Nat.le_of_ble_eq_true rfl) rfl rfl rfl (fun H locs hG => ?_)
  refine lv_aload_n hx hb dX5_read_25 rfl (lv_at hl 0 rfl) ?_
  refine g_get S hG 12 0 rfl cpX5 wm_351 dX5_read_26 rfl (by omega) (by decide) ?_
  refine g_vv (As := []) (rest := []) S hG (by omega) (qX2_clear_13 l hn (by exact h13) (by exact h19) (by exact h21) ) wV_5_60 h13 cpX2 (by omega) dX5_read_29 rfl hl.1 (ar := 0) (by decide +kernel) rfl ⟨Nat.le_of_ble_eq_true rfl, Nat.le_of_ble_eq_true rfl, Nat.le_of_ble_eq_true rfl, Nat.le_of_ble_eq_true rfl⟩ (Nat.le_of_ble_eq_true rfl) (fun u_E_1 H locs hp_2 hG => ?_)
  obtain ⟨n_E_1, E_1⟩ := u_E_1
  dsimp only at hp_2 hG
  obtain ⟨en_4, hlo_3, g_5, ⟨F_7, g_6⟩, ⟨F_9, g_8⟩⟩ := hp_2
  have hG := gW_eq2 hG en_4 rfl
  refine lv_aload_n hx hb dX5_read_32 rfl (lv_at hl 0 rfl) ?_
  refine g_vv (As := []) (rest := []) S hG (by omega) (qX5_advance l hn (by exact ((hlo_3 12 (by decide) (by decide) (by decide) ).trans rfl)) ) wV_5_65 ((hlo_3 12 (by decide) (by decide) (by decide) ).trans rfl) cpX5 (by omega) dX5_read_33 rfl hl.1 (ar := 0) (by decide +kernel) rfl ⟨Nat.le_of_ble_eq_true rfl, Nat.le_of_ble_eq_true rfl, Nat.le_of_ble_eq_true rfl, Nat.le_of_ble_eq_true rfl⟩ (Nat.le_of_ble_eq_true rfl) (fun u_E_10 H locs hp_11 hG => ?_)
  obtain ⟨n_E_10, E_10⟩ := u_E_10
  dsimp only at hp_11 hG
  obtain ⟨en_13, hlo_12, g_14⟩ := hp_11
  have hG := gW_eq2 hG en_13 rfl
  refine lv_aload_n hx hb dX5_read_36 rfl (lv_at hl 0 rfl) ?_
  refine g_get S hG 12 7 g_14 cpX5 wm_361 dX5_read_37 rfl (by omega) (by decide) ?_
  refine lv_iconst (v := 3) hx hb dX5_read_40 (by decide) ?_
  refine lv_icmp_ne (tgt := 46) hx hb dX5_read_41 (by decide) (fun c_15 => absurd c_15 (by decide)) (fun c_15 => ?_)
  refine lv_iconst (v := 0) hx hb dX5_read_44 (by decide) ?_
  exact g_iret S hr hlk hG (by omega) dX5_read_45 ⟨Nat.le_of_ble_eq_true rfl, Nat.le_of_ble_eq_true rfl⟩ ⟨rfl, rfl, fun j hj12 hj13 hj19 hj21 => (hlo_12 j (by omega) ).trans ((hlo_3 j (by omega) (by omega) (by omega) ).trans ((upE_n (by omega)).trans ((upE_n (by omega)).trans ((upE_n (by omega)).trans ((upE_n (by omega)).trans ((upE_n (by omega)).trans (rfl))))))), g_14, ((hlo_12 13 (by decide) ).trans g_5), ⟨_, ((hlo_12 19 (by decide) ).trans g_6)⟩, ⟨_, ((hlo_12 21 (by decide) ).trans g_8)⟩⟩
end
