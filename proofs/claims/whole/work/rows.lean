section
-- ===== PART A: goes FIRST, ahead of the names: the tables' words, and 'selects' of the private methods out of them =====
/-- a private method of a class that the tables say can be made, by its rows of tables_1 -/
def lw_okq (q : MethodName × Nat) : Prop := (q.1.cls ≠ "java/lang/invoke/MethodHandle" ∧ q.1.cls ≠ "java/lang/invoke/VarHandle") ∧ Cond.instantiable q.1.cls q.2 ∈ tables_1 ∧ Cond.privateMethod q.1 ∈ tables_1 ∧ Cond.instanceMethod q.1 ∈ tables_1
theorem lw_p0 : lw_okq (⟨"LeastFrames$Ground", "measure", "(I)V"⟩, 7) := ⟨⟨by decide +kernel, by decide +kernel⟩, List.mem_of_getElem? (i := 60) (by decide +kernel), List.mem_of_getElem? (i := 261) (by decide +kernel), List.mem_of_getElem? (i := 262) (by decide +kernel)⟩
theorem lw_p1 : lw_okq (⟨"LeastFrames", "found", "(I)I"⟩, 9) := ⟨⟨by decide +kernel, by decide +kernel⟩, List.mem_of_getElem? (i := 13) (by decide +kernel), List.mem_of_getElem? (i := 315) (by decide +kernel), List.mem_of_getElem? (i := 316) (by decide +kernel)⟩
theorem lw_p2 : lw_okq (⟨"LeastFrames", "isBar", "(I)Z"⟩, 9) := ⟨⟨by decide +kernel, by decide +kernel⟩, List.mem_of_getElem? (i := 13) (by decide +kernel), List.mem_of_getElem? (i := 332) (by decide +kernel), List.mem_of_getElem? (i := 333) (by decide +kernel)⟩
theorem lw_p3 : lw_okq (⟨"LeastFrames", "bestNow", "()I"⟩, 9) := ⟨⟨by decide +kernel, by decide +kernel⟩, List.mem_of_getElem? (i := 13) (by decide +kernel), List.mem_of_getElem? (i := 347) (by decide +kernel), List.mem_of_getElem? (i := 348) (by decide +kernel)⟩
theorem lw_p4 : lw_okq (⟨"LeastFrames$Bearers", "keep", "(LLeastFrames$Ground;I)V"⟩, 11) := ⟨⟨by decide +kernel, by decide +kernel⟩, List.mem_of_getElem? (i := 101) (by decide +kernel), List.mem_of_getElem? (i := 372) (by decide +kernel), List.mem_of_getElem? (i := 373) (by decide +kernel)⟩
theorem lw_p5 : lw_okq (⟨"LeastFrames$Tableau", "pivotRow", "(II)I"⟩, 8) := ⟨⟨by decide +kernel, by decide +kernel⟩, List.mem_of_getElem? (i := 21) (by decide +kernel), List.mem_of_getElem? (i := 387) (by decide +kernel), List.mem_of_getElem? (i := 388) (by decide +kernel)⟩
theorem lw_p6 : lw_okq (⟨"LeastFrames$FaultFinder", "lay", "([JLLeastFrames$Ground;II)V"⟩, 3) := ⟨⟨by decide +kernel, by decide +kernel⟩, List.mem_of_getElem? (i := 146) (by decide +kernel), List.mem_of_getElem? (i := 418) (by decide +kernel), List.mem_of_getElem? (i := 419) (by decide +kernel)⟩
theorem lw_p7 : lw_okq (⟨"LeastFrames$FaultFinder", "reduce", "(I)V"⟩, 3) := ⟨⟨by decide +kernel, by decide +kernel⟩, List.mem_of_getElem? (i := 146) (by decide +kernel), List.mem_of_getElem? (i := 423) (by decide +kernel), List.mem_of_getElem? (i := 424) (by decide +kernel)⟩
theorem lw_p8 : lw_okq (⟨"LeastFrames$FaultFinder", "firstOther", "([J)I"⟩, 3) := ⟨⟨by decide +kernel, by decide +kernel⟩, List.mem_of_getElem? (i := 146) (by decide +kernel), List.mem_of_getElem? (i := 427) (by decide +kernel), List.mem_of_getElem? (i := 428) (by decide +kernel)⟩
theorem lw_p9 : lw_okq (⟨"LeastFrames", "mostSaving", "()I"⟩, 9) := ⟨⟨by decide +kernel, by decide +kernel⟩, List.mem_of_getElem? (i := 13) (by decide +kernel), List.mem_of_getElem? (i := 474) (by decide +kernel), List.mem_of_getElem? (i := 475) (by decide +kernel)⟩
theorem lw_p10 : lw_okq (⟨"LeastFrames$Ground", "freeShift", "(I)I"⟩, 7) := ⟨⟨by decide +kernel, by decide +kernel⟩, List.mem_of_getElem? (i := 60) (by decide +kernel), List.mem_of_getElem? (i := 505) (by decide +kernel), List.mem_of_getElem? (i := 506) (by decide +kernel)⟩
theorem lw_p11 : lw_okq (⟨"LeastFrames$Crossing", "meet", "(LLeastFrames$Ground;II)Z"⟩, 5) := ⟨⟨by decide +kernel, by decide +kernel⟩, List.mem_of_getElem? (i := 163) (by decide +kernel), List.mem_of_getElem? (i := 531) (by decide +kernel), List.mem_of_getElem? (i := 532) (by decide +kernel)⟩
theorem lw_p12 : lw_okq (⟨"LeastFrames", "crossings", "()I"⟩, 9) := ⟨⟨by decide +kernel, by decide +kernel⟩, List.mem_of_getElem? (i := 13) (by decide +kernel), List.mem_of_getElem? (i := 587) (by decide +kernel), List.mem_of_getElem? (i := 588) (by decide +kernel)⟩
theorem lw_p13 : lw_okq (⟨"LeastFrames", "digestPair", "(JI)J"⟩, 9) := ⟨⟨by decide +kernel, by decide +kernel⟩, List.mem_of_getElem? (i := 13) (by decide +kernel), List.mem_of_getElem? (i := 603) (by decide +kernel), List.mem_of_getElem? (i := 604) (by decide +kernel)⟩
theorem lw_p14 : lw_okq (⟨"LeastFramesModel", "pairs", "()I"⟩, 22) := ⟨⟨by decide +kernel, by decide +kernel⟩, List.mem_of_getElem? (i := 615) (by decide +kernel), List.mem_of_getElem? (i := 700) (by decide +kernel), List.mem_of_getElem? (i := 701) (by decide +kernel)⟩
theorem lw_p15 : lw_okq (⟨"LeastFramesModel", "isPoint", "(I)Z"⟩, 22) := ⟨⟨by decide +kernel, by decide +kernel⟩, List.mem_of_getElem? (i := 615) (by decide +kernel), List.mem_of_getElem? (i := 708) (by decide +kernel), List.mem_of_getElem? (i := 709) (by decide +kernel)⟩
def lw_privs_1 : List (MethodName × Nat) := [(⟨"LeastFrames$Ground", "measure", "(I)V"⟩, 7), (⟨"LeastFrames", "found", "(I)I"⟩, 9), (⟨"LeastFrames", "isBar", "(I)Z"⟩, 9), (⟨"LeastFrames", "bestNow", "()I"⟩, 9), (⟨"LeastFrames$Bearers", "keep", "(LLeastFrames$Ground;I)V"⟩, 11), (⟨"LeastFrames$Tableau", "pivotRow", "(II)I"⟩, 8), (⟨"LeastFrames$FaultFinder", "lay", "([JLLeastFrames$Ground;II)V"⟩, 3), (⟨"LeastFrames$FaultFinder", "reduce", "(I)V"⟩, 3), (⟨"LeastFrames$FaultFinder", "firstOther", "([J)I"⟩, 3), (⟨"LeastFrames", "mostSaving", "()I"⟩, 9), (⟨"LeastFrames$Ground", "freeShift", "(I)I"⟩, 7), (⟨"LeastFrames$Crossing", "meet", "(LLeastFrames$Ground;II)Z"⟩, 5), (⟨"LeastFrames", "crossings", "()I"⟩, 9), (⟨"LeastFrames", "digestPair", "(JI)J"⟩, 9), (⟨"LeastFramesModel", "pairs", "()I"⟩, 22), (⟨"LeastFramesModel", "isPoint", "(I)Z"⟩, 22)]
theorem lw_r1 : ∀ q ∈ lw_privs_1, lw_okq q := List.forall_mem_cons.mpr ⟨lw_p0, List.forall_mem_cons.mpr ⟨lw_p1, List.forall_mem_cons.mpr ⟨lw_p2, List.forall_mem_cons.mpr ⟨lw_p3, List.forall_mem_cons.mpr ⟨lw_p4, List.forall_mem_cons.mpr ⟨lw_p5, List.forall_mem_cons.mpr ⟨lw_p6, List.forall_mem_cons.mpr ⟨lw_p7, List.forall_mem_cons.mpr ⟨lw_p8, List.forall_mem_cons.mpr ⟨lw_p9, List.forall_mem_cons.mpr ⟨lw_p10, List.forall_mem_cons.mpr ⟨lw_p11, List.forall_mem_cons.mpr ⟨lw_p12, List.forall_mem_cons.mpr ⟨lw_p13, List.forall_mem_cons.mpr ⟨lw_p14, List.forall_mem_cons.mpr ⟨lw_p15, fun _ h => absurd h List.not_mem_nil⟩⟩⟩⟩⟩⟩⟩⟩⟩⟩⟩⟩⟩⟩⟩⟩
theorem lw_p16 : lw_okq (⟨"LeastFramesModel", "isPair", "(I)Z"⟩, 22) := ⟨⟨by decide +kernel, by decide +kernel⟩, List.mem_of_getElem? (i := 615) (by decide +kernel), List.mem_of_getElem? (i := 721) (by decide +kernel), List.mem_of_getElem? (i := 722) (by decide +kernel)⟩
theorem lw_p17 : lw_okq (⟨"LeastFramesModel", "meets", "(I)I"⟩, 22) := ⟨⟨by decide +kernel, by decide +kernel⟩, List.mem_of_getElem? (i := 615) (by decide +kernel), List.mem_of_getElem? (i := 736) (by decide +kernel), List.mem_of_getElem? (i := 737) (by decide +kernel)⟩
theorem lw_p18 : lw_okq (⟨"LeastFramesModel", "infoOf", "(II)I"⟩, 22) := ⟨⟨by decide +kernel, by decide +kernel⟩, List.mem_of_getElem? (i := 615) (by decide +kernel), List.mem_of_getElem? (i := 746) (by decide +kernel), List.mem_of_getElem? (i := 747) (by decide +kernel)⟩
theorem lw_p19 : lw_okq (⟨"LeastFramesModel", "pairOf", "(II)I"⟩, 22) := ⟨⟨by decide +kernel, by decide +kernel⟩, List.mem_of_getElem? (i := 615) (by decide +kernel), List.mem_of_getElem? (i := 754) (by decide +kernel), List.mem_of_getElem? (i := 755) (by decide +kernel)⟩
theorem lw_p20 : lw_okq (⟨"LeastFramesModel", "quad", "(I)I"⟩, 22) := ⟨⟨by decide +kernel, by decide +kernel⟩, List.mem_of_getElem? (i := 615) (by decide +kernel), List.mem_of_getElem? (i := 764) (by decide +kernel), List.mem_of_getElem? (i := 765) (by decide +kernel)⟩
theorem lw_p21 : lw_okq (⟨"LeastFramesModel", "far", "(II)I"⟩, 22) := ⟨⟨by decide +kernel, by decide +kernel⟩, List.mem_of_getElem? (i := 615) (by decide +kernel), List.mem_of_getElem? (i := 768) (by decide +kernel), List.mem_of_getElem? (i := 769) (by decide +kernel)⟩
theorem lw_p22 : lw_okq (⟨"LeastFramesModel", "volumeOf", "(II)J"⟩, 22) := ⟨⟨by decide +kernel, by decide +kernel⟩, List.mem_of_getElem? (i := 615) (by decide +kernel), List.mem_of_getElem? (i := 776) (by decide +kernel), List.mem_of_getElem? (i := 777) (by decide +kernel)⟩
theorem lw_p23 : lw_okq (⟨"LeastFramesModel", "bestOf", "(I)I"⟩, 22) := ⟨⟨by decide +kernel, by decide +kernel⟩, List.mem_of_getElem? (i := 615) (by decide +kernel), List.mem_of_getElem? (i := 780) (by decide +kernel), List.mem_of_getElem? (i := 781) (by decide +kernel)⟩
theorem lw_p24 : lw_okq (⟨"LeastFramesModel", "finds", "()V"⟩, 22) := ⟨⟨by decide +kernel, by decide +kernel⟩, List.mem_of_getElem? (i := 615) (by decide +kernel), List.mem_of_getElem? (i := 784) (by decide +kernel), List.mem_of_getElem? (i := 785) (by decide +kernel)⟩
theorem lw_p25 : lw_okq (⟨"LeastFramesModel", "faultOf", "(I)I"⟩, 22) := ⟨⟨by decide +kernel, by decide +kernel⟩, List.mem_of_getElem? (i := 615) (by decide +kernel), List.mem_of_getElem? (i := 788) (by decide +kernel), List.mem_of_getElem? (i := 789) (by decide +kernel)⟩
theorem lw_p26 : lw_okq (⟨"LeastFramesModel", "isWay", "(I)Z"⟩, 22) := ⟨⟨by decide +kernel, by decide +kernel⟩, List.mem_of_getElem? (i := 615) (by decide +kernel), List.mem_of_getElem? (i := 792) (by decide +kernel), List.mem_of_getElem? (i := 793) (by decide +kernel)⟩
theorem lw_p27 : lw_okq (⟨"LeastFramesModel", "adds", "(II)Z"⟩, 22) := ⟨⟨by decide +kernel, by decide +kernel⟩, List.mem_of_getElem? (i := 615) (by decide +kernel), List.mem_of_getElem? (i := 796) (by decide +kernel), List.mem_of_getElem? (i := 797) (by decide +kernel)⟩
theorem lw_p28 : lw_okq (⟨"LeastFramesModel", "brought", "(II)I"⟩, 22) := ⟨⟨by decide +kernel, by decide +kernel⟩, List.mem_of_getElem? (i := 615) (by decide +kernel), List.mem_of_getElem? (i := 800) (by decide +kernel), List.mem_of_getElem? (i := 801) (by decide +kernel)⟩
theorem lw_p29 : lw_okq (⟨"LeastFramesModel", "clears", "(III)V"⟩, 22) := ⟨⟨by decide +kernel, by decide +kernel⟩, List.mem_of_getElem? (i := 615) (by decide +kernel), List.mem_of_getElem? (i := 804) (by decide +kernel), List.mem_of_getElem? (i := 805) (by decide +kernel)⟩
theorem lw_p30 : lw_okq (⟨"LeastFramesModel", "lowers", "(I)V"⟩, 22) := ⟨⟨by decide +kernel, by decide +kernel⟩, List.mem_of_getElem? (i := 615) (by decide +kernel), List.mem_of_getElem? (i := 808) (by decide +kernel), List.mem_of_getElem? (i := 809) (by decide +kernel)⟩
theorem lw_p31 : lw_okq (⟨"LeastFramesModel", "volumes", "(I)V"⟩, 22) := ⟨⟨by decide +kernel, by decide +kernel⟩, List.mem_of_getElem? (i := 615) (by decide +kernel), List.mem_of_getElem? (i := 818) (by decide +kernel), List.mem_of_getElem? (i := 819) (by decide +kernel)⟩
def lw_privs_2 : List (MethodName × Nat) := [(⟨"LeastFramesModel", "isPair", "(I)Z"⟩, 22), (⟨"LeastFramesModel", "meets", "(I)I"⟩, 22), (⟨"LeastFramesModel", "infoOf", "(II)I"⟩, 22), (⟨"LeastFramesModel", "pairOf", "(II)I"⟩, 22), (⟨"LeastFramesModel", "quad", "(I)I"⟩, 22), (⟨"LeastFramesModel", "far", "(II)I"⟩, 22), (⟨"LeastFramesModel", "volumeOf", "(II)J"⟩, 22), (⟨"LeastFramesModel", "bestOf", "(I)I"⟩, 22), (⟨"LeastFramesModel", "finds", "()V"⟩, 22), (⟨"LeastFramesModel", "faultOf", "(I)I"⟩, 22), (⟨"LeastFramesModel", "isWay", "(I)Z"⟩, 22), (⟨"LeastFramesModel", "adds", "(II)Z"⟩, 22), (⟨"LeastFramesModel", "brought", "(II)I"⟩, 22), (⟨"LeastFramesModel", "clears", "(III)V"⟩, 22), (⟨"LeastFramesModel", "lowers", "(I)V"⟩, 22), (⟨"LeastFramesModel", "volumes", "(I)V"⟩, 22)]
theorem lw_r2 : ∀ q ∈ lw_privs_2, lw_okq q := List.forall_mem_cons.mpr ⟨lw_p16, List.forall_mem_cons.mpr ⟨lw_p17, List.forall_mem_cons.mpr ⟨lw_p18, List.forall_mem_cons.mpr ⟨lw_p19, List.forall_mem_cons.mpr ⟨lw_p20, List.forall_mem_cons.mpr ⟨lw_p21, List.forall_mem_cons.mpr ⟨lw_p22, List.forall_mem_cons.mpr ⟨lw_p23, List.forall_mem_cons.mpr ⟨lw_p24, List.forall_mem_cons.mpr ⟨lw_p25, List.forall_mem_cons.mpr ⟨lw_p26, List.forall_mem_cons.mpr ⟨lw_p27, List.forall_mem_cons.mpr ⟨lw_p28, List.forall_mem_cons.mpr ⟨lw_p29, List.forall_mem_cons.mpr ⟨lw_p30, List.forall_mem_cons.mpr ⟨lw_p31, fun _ h => absurd h List.not_mem_nil⟩⟩⟩⟩⟩⟩⟩⟩⟩⟩⟩⟩⟩⟩⟩⟩
theorem lw_p32 : lw_okq (⟨"LeastFramesModel", "isLess", "(II)Z"⟩, 22) := ⟨⟨by decide +kernel, by decide +kernel⟩, List.mem_of_getElem? (i := 615) (by decide +kernel), List.mem_of_getElem? (i := 825) (by decide +kernel), List.mem_of_getElem? (i := 826) (by decide +kernel)⟩
theorem lw_p33 : lw_okq (⟨"LeastFramesModel", "frameNow", "()I"⟩, 22) := ⟨⟨by decide +kernel, by decide +kernel⟩, List.mem_of_getElem? (i := 615) (by decide +kernel), List.mem_of_getElem? (i := 841) (by decide +kernel), List.mem_of_getElem? (i := 842) (by decide +kernel)⟩
theorem lw_p34 : lw_okq (⟨"LeastFramesModel", "pullOf", "(II)J"⟩, 22) := ⟨⟨by decide +kernel, by decide +kernel⟩, List.mem_of_getElem? (i := 615) (by decide +kernel), List.mem_of_getElem? (i := 849) (by decide +kernel), List.mem_of_getElem? (i := 850) (by decide +kernel)⟩
theorem lw_p35 : lw_okq (⟨"LeastFramesModel", "isBar", "(I)Z"⟩, 22) := ⟨⟨by decide +kernel, by decide +kernel⟩, List.mem_of_getElem? (i := 615) (by decide +kernel), List.mem_of_getElem? (i := 857) (by decide +kernel), List.mem_of_getElem? (i := 858) (by decide +kernel)⟩
theorem lw_p36 : lw_okq (⟨"LeastFramesModel", "neededNow", "()I"⟩, 22) := ⟨⟨by decide +kernel, by decide +kernel⟩, List.mem_of_getElem? (i := 615) (by decide +kernel), List.mem_of_getElem? (i := 869) (by decide +kernel), List.mem_of_getElem? (i := 870) (by decide +kernel)⟩
theorem lw_p37 : lw_okq (⟨"LeastFramesModel", "isNeeded", "(II)Z"⟩, 22) := ⟨⟨by decide +kernel, by decide +kernel⟩, List.mem_of_getElem? (i := 615) (by decide +kernel), List.mem_of_getElem? (i := 873) (by decide +kernel), List.mem_of_getElem? (i := 874) (by decide +kernel)⟩
theorem lw_p38 : lw_okq (⟨"LeastFramesModel", "dearestNow", "()I"⟩, 22) := ⟨⟨by decide +kernel, by decide +kernel⟩, List.mem_of_getElem? (i := 615) (by decide +kernel), List.mem_of_getElem? (i := 881) (by decide +kernel), List.mem_of_getElem? (i := 882) (by decide +kernel)⟩
theorem lw_p39 : lw_okq (⟨"LeastFramesModel", "gainOf", "(II)J"⟩, 22) := ⟨⟨by decide +kernel, by decide +kernel⟩, List.mem_of_getElem? (i := 615) (by decide +kernel), List.mem_of_getElem? (i := 889) (by decide +kernel), List.mem_of_getElem? (i := 890) (by decide +kernel)⟩
theorem lw_p40 : lw_okq (⟨"LeastFramesModel", "growing", "()I"⟩, 22) := ⟨⟨by decide +kernel, by decide +kernel⟩, List.mem_of_getElem? (i := 615) (by decide +kernel), List.mem_of_getElem? (i := 897) (by decide +kernel), List.mem_of_getElem? (i := 898) (by decide +kernel)⟩
theorem lw_p41 : lw_okq (⟨"LeastFramesModel", "wouldBe", "(III)J"⟩, 22) := ⟨⟨by decide +kernel, by decide +kernel⟩, List.mem_of_getElem? (i := 615) (by decide +kernel), List.mem_of_getElem? (i := 909) (by decide +kernel), List.mem_of_getElem? (i := 910) (by decide +kernel)⟩
theorem lw_p42 : lw_okq (⟨"LeastFramesModel", "stretchOf", "(I)I"⟩, 22) := ⟨⟨by decide +kernel, by decide +kernel⟩, List.mem_of_getElem? (i := 615) (by decide +kernel), List.mem_of_getElem? (i := 921) (by decide +kernel), List.mem_of_getElem? (i := 922) (by decide +kernel)⟩
theorem lw_p43 : lw_okq (⟨"LeastFramesModel", "shiftAt", "(I)I"⟩, 22) := ⟨⟨by decide +kernel, by decide +kernel⟩, List.mem_of_getElem? (i := 615) (by decide +kernel), List.mem_of_getElem? (i := 925) (by decide +kernel), List.mem_of_getElem? (i := 926) (by decide +kernel)⟩
theorem lw_p44 : lw_okq (⟨"LeastFramesModel", "workNow", "()I"⟩, 22) := ⟨⟨by decide +kernel, by decide +kernel⟩, List.mem_of_getElem? (i := 615) (by decide +kernel), List.mem_of_getElem? (i := 934) (by decide +kernel), List.mem_of_getElem? (i := 935) (by decide +kernel)⟩
theorem lw_p45 : lw_okq (⟨"LeastFramesModel", "provesNow", "()I"⟩, 22) := ⟨⟨by decide +kernel, by decide +kernel⟩, List.mem_of_getElem? (i := 615) (by decide +kernel), List.mem_of_getElem? (i := 942) (by decide +kernel), List.mem_of_getElem? (i := 943) (by decide +kernel)⟩
theorem lw_p46 : lw_okq (⟨"LeastFramesModel", "crossOf", "(II)I"⟩, 22) := ⟨⟨by decide +kernel, by decide +kernel⟩, List.mem_of_getElem? (i := 615) (by decide +kernel), List.mem_of_getElem? (i := 950) (by decide +kernel), List.mem_of_getElem? (i := 951) (by decide +kernel)⟩
theorem lw_p47 : lw_okq (⟨"LeastFramesModel", "crossing", "(II)I"⟩, 22) := ⟨⟨by decide +kernel, by decide +kernel⟩, List.mem_of_getElem? (i := 615) (by decide +kernel), List.mem_of_getElem? (i := 954) (by decide +kernel), List.mem_of_getElem? (i := 955) (by decide +kernel)⟩
def lw_privs_3 : List (MethodName × Nat) := [(⟨"LeastFramesModel", "isLess", "(II)Z"⟩, 22), (⟨"LeastFramesModel", "frameNow", "()I"⟩, 22), (⟨"LeastFramesModel", "pullOf", "(II)J"⟩, 22), (⟨"LeastFramesModel", "isBar", "(I)Z"⟩, 22), (⟨"LeastFramesModel", "neededNow", "()I"⟩, 22), (⟨"LeastFramesModel", "isNeeded", "(II)Z"⟩, 22), (⟨"LeastFramesModel", "dearestNow", "()I"⟩, 22), (⟨"LeastFramesModel", "gainOf", "(II)J"⟩, 22), (⟨"LeastFramesModel", "growing", "()I"⟩, 22), (⟨"LeastFramesModel", "wouldBe", "(III)J"⟩, 22), (⟨"LeastFramesModel", "stretchOf", "(I)I"⟩, 22), (⟨"LeastFramesModel", "shiftAt", "(I)I"⟩, 22), (⟨"LeastFramesModel", "workNow", "()I"⟩, 22), (⟨"LeastFramesModel", "provesNow", "()I"⟩, 22), (⟨"LeastFramesModel", "crossOf", "(II)I"⟩, 22), (⟨"LeastFramesModel", "crossing", "(II)I"⟩, 22)]
theorem lw_r3 : ∀ q ∈ lw_privs_3, lw_okq q := List.forall_mem_cons.mpr ⟨lw_p32, List.forall_mem_cons.mpr ⟨lw_p33, List.forall_mem_cons.mpr ⟨lw_p34, List.forall_mem_cons.mpr ⟨lw_p35, List.forall_mem_cons.mpr ⟨lw_p36, List.forall_mem_cons.mpr ⟨lw_p37, List.forall_mem_cons.mpr ⟨lw_p38, List.forall_mem_cons.mpr ⟨lw_p39, List.forall_mem_cons.mpr ⟨lw_p40, List.forall_mem_cons.mpr ⟨lw_p41, List.forall_mem_cons.mpr ⟨lw_p42, List.forall_mem_cons.mpr ⟨lw_p43, List.forall_mem_cons.mpr ⟨lw_p44, List.forall_mem_cons.mpr ⟨lw_p45, List.forall_mem_cons.mpr ⟨lw_p46, List.forall_mem_cons.mpr ⟨lw_p47, fun _ h => absurd h List.not_mem_nil⟩⟩⟩⟩⟩⟩⟩⟩⟩⟩⟩⟩⟩⟩⟩⟩
theorem lw_p48 : lw_okq (⟨"LeastFramesModel", "isCross", "(II)Z"⟩, 22) := ⟨⟨by decide +kernel, by decide +kernel⟩, List.mem_of_getElem? (i := 615) (by decide +kernel), List.mem_of_getElem? (i := 958) (by decide +kernel), List.mem_of_getElem? (i := 959) (by decide +kernel)⟩
theorem lw_p49 : lw_okq (⟨"LeastFramesModel", "ways", "()I"⟩, 22) := ⟨⟨by decide +kernel, by decide +kernel⟩, List.mem_of_getElem? (i := 615) (by decide +kernel), List.mem_of_getElem? (i := 992) (by decide +kernel), List.mem_of_getElem? (i := 993) (by decide +kernel)⟩
theorem lw_p50 : lw_okq (⟨"LeastFramesModel", "crossings", "()I"⟩, 22) := ⟨⟨by decide +kernel, by decide +kernel⟩, List.mem_of_getElem? (i := 615) (by decide +kernel), List.mem_of_getElem? (i := 996) (by decide +kernel), List.mem_of_getElem? (i := 997) (by decide +kernel)⟩
theorem lw_p51 : lw_okq (⟨"LeastFramesModel", "pairDigest", "(JI)J"⟩, 22) := ⟨⟨by decide +kernel, by decide +kernel⟩, List.mem_of_getElem? (i := 615) (by decide +kernel), List.mem_of_getElem? (i := 1008) (by decide +kernel), List.mem_of_getElem? (i := 1009) (by decide +kernel)⟩
def lw_privs_4 : List (MethodName × Nat) := [(⟨"LeastFramesModel", "isCross", "(II)Z"⟩, 22), (⟨"LeastFramesModel", "ways", "()I"⟩, 22), (⟨"LeastFramesModel", "crossings", "()I"⟩, 22), (⟨"LeastFramesModel", "pairDigest", "(JI)J"⟩, 22)]
theorem lw_r4 : ∀ q ∈ lw_privs_4, lw_okq q := List.forall_mem_cons.mpr ⟨lw_p48, List.forall_mem_cons.mpr ⟨lw_p49, List.forall_mem_cons.mpr ⟨lw_p50, List.forall_mem_cons.mpr ⟨lw_p51, fun _ h => absurd h List.not_mem_nil⟩⟩⟩⟩
def lw_privs : List (MethodName × Nat) := lw_privs_1 ++ (lw_privs_2 ++ (lw_privs_3 ++ (lw_privs_4)))
def lw_tbl : List Cond := k2_sels lw_privs ++ tables_1
theorem lw_privs_ok : ∀ q ∈ lw_privs, lw_okq q := by
  show ∀ q ∈ lw_privs_1 ++ (lw_privs_2 ++ (lw_privs_3 ++ (lw_privs_4))), lw_okq q
  exact List.forall_mem_append.mpr ⟨lw_r1, List.forall_mem_append.mpr ⟨lw_r2, List.forall_mem_append.mpr ⟨lw_r3, lw_r4⟩⟩⟩
end
section
def RX0 : String := "LeastFrames$Bearers"
def TX0 : u_T := fun k => match k with
  | 0 => ("LeastFrames$Bearers", "sets", "[I", true)
  | 1 => ("LeastFrames$Bearers", "above", "[J", true)
  | 2 => ("LeastFrames$Bearers", "below", "[J", true)
  | 3 => ("LeastFrames$Bearers", "pulls", "[J", true)
  | 4 => ("LeastFrames$Bearers", "pullsBelow", "J", false)
  | 5 => ("LeastFrames$Bearers", "tableau", "LLeastFrames$Tableau;", true)
  | 6 => ("LeastFrames$Bearers", "next", "[I", true)
  | 7 => ("LeastFrames$Bearers", "size", "I", false)
  | 8 => ("LeastFrames$Bearers", "asked", "I", false)
  | 9 => ("LeastFrames$Bearers", "answer", "I", false)
  | _ => ("LeastFrames$Bearers", "pullsOf", "I", false)
def tyX0 : Nat → FieldType := fun k => match k with
  | 0 => .array .int
  | 1 => .array .long
  | 2 => .array .long
  | 3 => .array .long
  | 4 => .long
  | 5 => .object "LeastFrames$Tableau"
  | 6 => .array .int
  | 7 => .int
  | 8 => .int
  | 9 => .int
  | _ => .int
abbrev wsX00 : List Cond := u_ws RX0 TX0 11
theorem nmX0 : ∀ a, a < 11 → ∀ b, b < 11 → a ≠ b → (TX0 a).2.1 ≠ (TX0 b).2.1 := by decide +kernel
theorem tyX0_ok : ∀ k, k < 11 → parseFieldDescriptor (TX0 k).2.2.1 = some (tyX0 k) := by decide +kernel
abbrev cX0_init : ByteArray := prog_2_method_1_code
def yX0_init : MethodName := ⟨RX0, "<init>", "(LLeastFrames$Tableau;)V"⟩
abbrev cX0_gather : ByteArray := prog_2_method_2_code
def yX0_gather : MethodName := ⟨RX0, "gather", "(LLeastFrames$Ground;I)V"⟩
abbrev cX0_keep : ByteArray := prog_2_method_3_code
def yX0_keep : MethodName := ⟨RX0, "keep", "(LLeastFrames$Ground;I)V"⟩
abbrev cX0_leastWithin : ByteArray := prog_2_method_4_code
def yX0_leastWithin : MethodName := ⟨RX0, "leastWithin", "(I)I"⟩
abbrev cX0_isDearer : ByteArray := prog_2_method_5_code
def yX0_isDearer : MethodName := ⟨RX0, "isDearer", "(II)Z"⟩
abbrev cX0_volume : ByteArray := prog_2_method_6_code
def yX0_volume : MethodName := ⟨RX0, "volume", "(II)J"⟩
abbrev cX0_difference : ByteArray := prog_2_method_7_code
def yX0_difference : MethodName := ⟨RX0, "difference", "(III)J"⟩
abbrev cX0_solve : ByteArray := prog_2_method_8_code
def yX0_solve : MethodName := ⟨RX0, "solve", "(LLeastFrames$Ground;I)V"⟩
def RX1 : String := "LeastFrames$Crossing"
def TX1 : u_T := fun k => match k with
  | 0 => ("LeastFrames$Crossing", "lesser", "I", false)
  | 1 => ("LeastFrames$Crossing", "greater", "I", false)
  | 2 => ("LeastFrames$Crossing", "xAbove", "J", false)
  | 3 => ("LeastFrames$Crossing", "yAbove", "J", false)
  | _ => ("LeastFrames$Crossing", "below", "J", false)
def tyX1 : Nat → FieldType := fun k => match k with
  | 0 => .int
  | 1 => .int
  | 2 => .long
  | 3 => .long
  | _ => .long
abbrev wsX10 : List Cond := u_ws RX1 TX1 5
theorem nmX1 : ∀ a, a < 5 → ∀ b, b < 5 → a ≠ b → (TX1 a).2.1 ≠ (TX1 b).2.1 := by decide +kernel
theorem tyX1_ok : ∀ k, k < 5 → parseFieldDescriptor (TX1 k).2.2.1 = some (tyX1 k) := by decide +kernel
abbrev cX1_init : ByteArray := prog_3_method_1_code
def yX1_init : MethodName := ⟨RX1, "<init>", "()V"⟩
abbrev cX1_pass : ByteArray := prog_3_method_2_code
def yX1_pass : MethodName := ⟨RX1, "pass", "(LLeastFrames$Ground;II)I"⟩
abbrev cX1_meet : ByteArray := prog_3_method_3_code
def yX1_meet : MethodName := ⟨RX1, "meet", "(LLeastFrames$Ground;II)Z"⟩
abbrev cX1_isInside : ByteArray := prog_3_method_4_code
def yX1_isInside : MethodName := ⟨RX1, "isInside", "(II)Z"⟩
def RX2 : String := "LeastFrames$FaultFinder"
def TX2 : u_T := fun k => match k with
  | 0 => ("LeastFrames$FaultFinder", "rows", "[[J", true)
  | 1 => ("LeastFrames$FaultFinder", "columnOf", "[I", true)
  | _ => ("LeastFrames$FaultFinder", "columns", "I", false)
def tyX2 : Nat → FieldType := fun k => match k with
  | 0 => .array (.array .long)
  | 1 => .array .int
  | _ => .int
abbrev wsX20 : List Cond := u_ws RX2 TX2 3
theorem nmX2 : ∀ a, a < 3 → ∀ b, b < 3 → a ≠ b → (TX2 a).2.1 ≠ (TX2 b).2.1 := by decide +kernel
theorem tyX2_ok : ∀ k, k < 3 → parseFieldDescriptor (TX2 k).2.2.1 = some (tyX2 k) := by decide +kernel
abbrev cX2_init : ByteArray := prog_4_method_1_code
def yX2_init : MethodName := ⟨RX2, "<init>", "()V"⟩
abbrev cX2_first : ByteArray := prog_4_method_2_code
def yX2_first : MethodName := ⟨RX2, "first", "(LLeastFrames$Ground;I)I"⟩
abbrev cX2_lay : ByteArray := prog_4_method_3_code
def yX2_lay : MethodName := ⟨RX2, "lay", "([JLLeastFrames$Ground;II)V"⟩
abbrev cX2_reduce : ByteArray := prog_4_method_4_code
def yX2_reduce : MethodName := ⟨RX2, "reduce", "(I)V"⟩
abbrev cX2_firstOther : ByteArray := prog_4_method_5_code
def yX2_firstOther : MethodName := ⟨RX2, "firstOther", "([J)I"⟩
def RX3 : String := "LeastFrames$Ground"
def TX3 : u_T := fun k => match k with
  | 0 => ("LeastFrames$Ground", "places", "[I", true)
  | 1 => ("LeastFrames$Ground", "held", "[I", true)
  | 2 => ("LeastFrames$Ground", "loads", "[I", true)
  | 3 => ("LeastFrames$Ground", "shifts", "[I", true)
  | 4 => ("LeastFrames$Ground", "runs", "[I", true)
  | 5 => ("LeastFrames$Ground", "quads", "[I", true)
  | _ => ("LeastFrames$Ground", "size", "I", false)
def tyX3 : Nat → FieldType := fun k => match k with
  | 0 => .array .int
  | 1 => .array .int
  | 2 => .array .int
  | 3 => .array .int
  | 4 => .array .int
  | 5 => .array .int
  | _ => .int
abbrev wsX30 : List Cond := u_ws RX3 TX3 7
theorem nmX3 : ∀ a, a < 7 → ∀ b, b < 7 → a ≠ b → (TX3 a).2.1 ≠ (TX3 b).2.1 := by decide +kernel
theorem tyX3_ok : ∀ k, k < 7 → parseFieldDescriptor (TX3 k).2.2.1 = some (tyX3 k) := by decide +kernel
abbrev cX3_init : ByteArray := prog_5_method_1_code
def yX3_init : MethodName := ⟨RX3, "<init>", "()V"⟩
abbrev cX3_hasPoint : ByteArray := prog_5_method_2_code
def yX3_hasPoint : MethodName := ⟨RX3, "hasPoint", "(I)Z"⟩
abbrev cX3_isTaken : ByteArray := prog_5_method_3_code
def yX3_isTaken : MethodName := ⟨RX3, "isTaken", "(II)Z"⟩
abbrev cX3_add : ByteArray := prog_5_method_4_code
def yX3_add : MethodName := ⟨RX3, "add", "(II)I"⟩
abbrev cX3_measure : ByteArray := prog_5_method_5_code
def yX3_measure : MethodName := ⟨RX3, "measure", "(I)V"⟩
abbrev cX3_pairs : ByteArray := prog_5_method_6_code
def yX3_pairs : MethodName := ⟨RX3, "pairs", "()I"⟩
abbrev cX3_everyPair : ByteArray := prog_5_method_7_code
def yX3_everyPair : MethodName := ⟨RX3, "everyPair", "()I"⟩
abbrev cX3_hasPair : ByteArray := prog_5_method_8_code
def yX3_hasPair : MethodName := ⟨RX3, "hasPair", "(I)Z"⟩
abbrev cX3_isFree : ByteArray := prog_5_method_9_code
def yX3_isFree : MethodName := ⟨RX3, "isFree", "(I)Z"⟩
abbrev cX3_ways : ByteArray := prog_5_method_10_code
def yX3_ways : MethodName := ⟨RX3, "ways", "()I"⟩
abbrev cX3_brought : ByteArray := prog_5_method_11_code
def yX3_brought : MethodName := ⟨RX3, "brought", "(II)I"⟩
abbrev cX3_stretchParts : ByteArray := prog_5_method_12_code
def yX3_stretchParts : MethodName := ⟨RX3, "stretchParts", "(I)J"⟩
abbrev cX3_workParts : ByteArray := prog_5_method_13_code
def yX3_workParts : MethodName := ⟨RX3, "workParts", "()J"⟩
abbrev cX3_freeShift : ByteArray := prog_5_method_14_code
def yX3_freeShift : MethodName := ⟨RX3, "freeShift", "(I)I"⟩
def RX4 : String := "LeastFrames$Sheet"
def TX4 : u_T := fun k => match k with
  | 0 => ("LeastFrames$Sheet", "items", "[J", true)
  | 1 => ("LeastFrames$Sheet", "lost", "Z", false)
  | 2 => ("LeastFrames$Sheet", "form", "I", false)
  | _ => ("LeastFrames$Sheet", "size", "I", false)
def tyX4 : Nat → FieldType := fun k => match k with
  | 0 => .array .long
  | 1 => .boolean
  | 2 => .int
  | _ => .int
abbrev wsX40 : List Cond := u_ws RX4 TX4 4
theorem nmX4 : ∀ a, a < 4 → ∀ b, b < 4 → a ≠ b → (TX4 a).2.1 ≠ (TX4 b).2.1 := by decide +kernel
theorem tyX4_ok : ∀ k, k < 4 → parseFieldDescriptor (TX4 k).2.2.1 = some (tyX4 k) := by decide +kernel
abbrev cX4_init : ByteArray := prog_6_method_1_code
def yX4_init : MethodName := ⟨RX4, "<init>", "()V"⟩
abbrev cX4_renew : ByteArray := prog_6_method_2_code
def yX4_renew : MethodName := ⟨RX4, "renew", "(II)V"⟩
abbrev cX4_hasItems : ByteArray := prog_6_method_3_code
def yX4_hasItems : MethodName := ⟨RX4, "hasItems", "(II)Z"⟩
def RX5 : String := "LeastFrames$Tableau"
def TX5 : u_T := fun k => match k with
  | 0 => ("LeastFrames$Tableau", "cells", "[[J", true)
  | 1 => ("LeastFrames$Tableau", "columnOf", "[I", true)
  | 2 => ("LeastFrames$Tableau", "rowOf", "[I", true)
  | 3 => ("LeastFrames$Tableau", "usedRows", "[I", true)
  | 4 => ("LeastFrames$Tableau", "pivots", "[J", true)
  | 5 => ("LeastFrames$Tableau", "solved", "[J", true)
  | 6 => ("LeastFrames$Tableau", "rows", "I", false)
  | _ => ("LeastFrames$Tableau", "columns", "I", false)
def tyX5 : Nat → FieldType := fun k => match k with
  | 0 => .array (.array .long)
  | 1 => .array .int
  | 2 => .array .int
  | 3 => .array .int
  | 4 => .array .long
  | 5 => .array .long
  | 6 => .int
  | _ => .int
abbrev wsX50 : List Cond := u_ws RX5 TX5 8
theorem nmX5 : ∀ a, a < 8 → ∀ b, b < 8 → a ≠ b → (TX5 a).2.1 ≠ (TX5 b).2.1 := by decide +kernel
theorem tyX5_ok : ∀ k, k < 8 → parseFieldDescriptor (TX5 k).2.2.1 = some (tyX5 k) := by decide +kernel
abbrev cX5_init : ByteArray := prog_7_method_1_code
def yX5_init : MethodName := ⟨RX5, "<init>", "()V"⟩
abbrev cX5_lay : ByteArray := prog_7_method_2_code
def yX5_lay : MethodName := ⟨RX5, "lay", "(LLeastFrames$Ground;I)V"⟩
abbrev cX5_enter : ByteArray := prog_7_method_3_code
def yX5_enter : MethodName := ⟨RX5, "enter", "(II)Z"⟩
abbrev cX5_pivotRow : ByteArray := prog_7_method_4_code
def yX5_pivotRow : MethodName := ⟨RX5, "pivotRow", "(II)I"⟩
abbrev cX5_bears : ByteArray := prog_7_method_5_code
def yX5_bears : MethodName := ⟨RX5, "bears", "(I)Z"⟩
abbrev cX5_solve : ByteArray := prog_7_method_6_code
def yX5_solve : MethodName := ⟨RX5, "solve", "(I)V"⟩
def RX6 : String := "LeastFrames"
def TX6 : u_T := fun k => match k with
  | 0 => ("LeastFrames", "ground", "LLeastFrames$Ground;", true)
  | 1 => ("LeastFrames", "now", "LLeastFrames$Bearers;", true)
  | 2 => ("LeastFrames", "then", "LLeastFrames$Bearers;", true)
  | 3 => ("LeastFrames", "faults", "LLeastFrames$FaultFinder;", true)
  | 4 => ("LeastFrames", "crossing", "LLeastFrames$Crossing;", true)
  | 5 => ("LeastFrames", "sheets", "[LLeastFrames$Sheet;", true)
  | 6 => ("LeastFrames", "bars", "I", false)
  | 7 => ("LeastFrames", "finding", "I", false)
  | _ => ("LeastFrames", "stale", "Z", false)
def tyX6 : Nat → FieldType := fun k => match k with
  | 0 => .object "LeastFrames$Ground"
  | 1 => .object "LeastFrames$Bearers"
  | 2 => .object "LeastFrames$Bearers"
  | 3 => .object "LeastFrames$FaultFinder"
  | 4 => .object "LeastFrames$Crossing"
  | 5 => .array (.object "LeastFrames$Sheet")
  | 6 => .int
  | 7 => .int
  | _ => .boolean
abbrev wsX60 : List Cond := u_ws RX6 TX6 9
theorem nmX6 : ∀ a, a < 9 → ∀ b, b < 9 → a ≠ b → (TX6 a).2.1 ≠ (TX6 b).2.1 := by decide +kernel
theorem tyX6_ok : ∀ k, k < 9 → parseFieldDescriptor (TX6 k).2.2.1 = some (tyX6 k) := by decide +kernel
abbrev cX6_init : ByteArray := prog_1_method_1_code
def yX6_init : MethodName := ⟨RX6, "<init>", "()V"⟩
abbrev cX6_point : ByteArray := prog_1_method_2_code
def yX6_point : MethodName := ⟨RX6, "point", "(II)I"⟩
abbrev cX6_back : ByteArray := prog_1_method_3_code
def yX6_back : MethodName := ⟨RX6, "back", "()I"⟩
abbrev cX6_hold : ByteArray := prog_1_method_4_code
def yX6_hold : MethodName := ⟨RX6, "hold", "(II)I"⟩
abbrev cX6_load : ByteArray := prog_1_method_5_code
def yX6_load : MethodName := ⟨RX6, "load", "(III)I"⟩
abbrev cX6_bar : ByteArray := prog_1_method_6_code
def yX6_bar : MethodName := ⟨RX6, "bar", "(I)I"⟩
abbrev cX6_all : ByteArray := prog_1_method_7_code
def yX6_all : MethodName := ⟨RX6, "all", "()I"⟩
abbrev cX6_read : ByteArray := prog_1_method_8_code
def yX6_read : MethodName := ⟨RX6, "read", "(I)I"⟩
abbrev cX6_info : ByteArray := prog_1_method_9_code
def yX6_info : MethodName := ⟨RX6, "info", "(II)I"⟩
abbrev cX6_pair : ByteArray := prog_1_method_10_code
def yX6_pair : MethodName := ⟨RX6, "pair", "(II)I"⟩
abbrev cX6_least : ByteArray := prog_1_method_11_code
def yX6_least : MethodName := ⟨RX6, "least", "(I)J"⟩
abbrev cX6_fault : ByteArray := prog_1_method_12_code
def yX6_fault : MethodName := ⟨RX6, "fault", "()I"⟩
abbrev cX6_frame : ByteArray := prog_1_method_13_code
def yX6_frame : MethodName := ⟨RX6, "frame", "()I"⟩
abbrev cX6_pull : ByteArray := prog_1_method_14_code
def yX6_pull : MethodName := ⟨RX6, "pull", "(II)J"⟩
abbrev cX6_without : ByteArray := prog_1_method_15_code
def yX6_without : MethodName := ⟨RX6, "without", "(II)J"⟩
abbrev cX6_why : ByteArray := prog_1_method_16_code
def yX6_why : MethodName := ⟨RX6, "why", "(I)I"⟩
abbrev cX6_needed : ByteArray := prog_1_method_17_code
def yX6_needed : MethodName := ⟨RX6, "needed", "()I"⟩
abbrev cX6_dearest : ByteArray := prog_1_method_18_code
def yX6_dearest : MethodName := ⟨RX6, "dearest", "()I"⟩
abbrev cX6_gain : ByteArray := prog_1_method_19_code
def yX6_gain : MethodName := ⟨RX6, "gain", "(II)J"⟩
abbrev cX6_grow : ByteArray := prog_1_method_20_code
def yX6_grow : MethodName := ⟨RX6, "grow", "()I"⟩
abbrev cX6_prune : ByteArray := prog_1_method_21_code
def yX6_prune : MethodName := ⟨RX6, "prune", "()I"⟩
abbrev cX6_would : ByteArray := prog_1_method_22_code
def yX6_would : MethodName := ⟨RX6, "would", "(IIII)J"⟩
abbrev cX6_shift : ByteArray := prog_1_method_23_code
def yX6_shift : MethodName := ⟨RX6, "shift", "(III)I"⟩
abbrev cX6_stretch : ByteArray := prog_1_method_24_code
def yX6_stretch : MethodName := ⟨RX6, "stretch", "(II)J"⟩
abbrev cX6_work : ByteArray := prog_1_method_25_code
def yX6_work : MethodName := ⟨RX6, "work", "(I)J"⟩
abbrev cX6_proves : ByteArray := prog_1_method_26_code
def yX6_proves : MethodName := ⟨RX6, "proves", "()I"⟩
abbrev cX6_cross : ByteArray := prog_1_method_27_code
def yX6_cross : MethodName := ⟨RX6, "cross", "(II)I"⟩
abbrev cX6_sheet : ByteArray := prog_1_method_28_code
def yX6_sheet : MethodName := ⟨RX6, "sheet", "(III)I"⟩
abbrev cX6_lose : ByteArray := prog_1_method_29_code
def yX6_lose : MethodName := ⟨RX6, "lose", "(I)I"⟩
abbrev cX6_put : ByteArray := prog_1_method_30_code
def yX6_put : MethodName := ⟨RX6, "put", "(IIII)I"⟩
abbrev cX6_get : ByteArray := prog_1_method_31_code
def yX6_get : MethodName := ⟨RX6, "get", "(II)J"⟩
abbrev cX6_copy : ByteArray := prog_1_method_32_code
def yX6_copy : MethodName := ⟨RX6, "copy", "(IIIII)I"⟩
abbrev cX6_write : ByteArray := prog_1_method_33_code
def yX6_write : MethodName := ⟨RX6, "write", "(I)I"⟩
abbrev cX6_count : ByteArray := prog_1_method_34_code
def yX6_count : MethodName := ⟨RX6, "count", "(I)I"⟩
abbrev cX6_digest : ByteArray := prog_1_method_35_code
def yX6_digest : MethodName := ⟨RX6, "digest", "()J"⟩
abbrev cX6_digestPair : ByteArray := prog_1_method_36_code
def yX6_digestPair : MethodName := ⟨RX6, "digestPair", "(JI)J"⟩
abbrev cX6_bestNow : ByteArray := prog_1_method_37_code
def yX6_bestNow : MethodName := ⟨RX6, "bestNow", "()I"⟩
abbrev cX6_mostSaving : ByteArray := prog_1_method_38_code
def yX6_mostSaving : MethodName := ⟨RX6, "mostSaving", "()I"⟩
abbrev cX6_crossings : ByteArray := prog_1_method_39_code
def yX6_crossings : MethodName := ⟨RX6, "crossings", "()I"⟩
abbrev cX6_found : ByteArray := prog_1_method_40_code
def yX6_found : MethodName := ⟨RX6, "found", "(I)I"⟩
abbrev cX6_isBar : ByteArray := prog_1_method_41_code
def yX6_isBar : MethodName := ⟨RX6, "isBar", "(I)Z"⟩
abbrev cX6_bitsOrNone : ByteArray := prog_1_method_42_code
def yX6_bitsOrNone : MethodName := ⟨RX6, "bitsOrNone", "(I)I"⟩
abbrev cX6_asLong : ByteArray := prog_1_method_43_code
def yX6_asLong : MethodName := ⟨RX6, "asLong", "(I)J"⟩
abbrev cX6_isWithin : ByteArray := prog_1_method_44_code
def yX6_isWithin : MethodName := ⟨RX6, "isWithin", "(III)Z"⟩
abbrev cX6_isLoad : ByteArray := prog_1_method_45_code
def yX6_isLoad : MethodName := ⟨RX6, "isLoad", "(J)Z"⟩
abbrev cX6_isPart : ByteArray := prog_1_method_46_code
def yX6_isPart : MethodName := ⟨RX6, "isPart", "(I)Z"⟩
abbrev cX6_isSheet : ByteArray := prog_1_method_47_code
def yX6_isSheet : MethodName := ⟨RX6, "isSheet", "(I)Z"⟩
abbrev cX6_lowest : ByteArray := prog_1_method_48_code
def yX6_lowest : MethodName := ⟨RX6, "lowest", "(JJI)J"⟩
def RX7 : String := "LeastFramesModel"
def TX7 : u_T := fun k => match k with
  | 0 => ("LeastFramesModel", "xs", "[I", true)
  | 1 => ("LeastFramesModel", "ys", "[I", true)
  | 2 => ("LeastFramesModel", "helds", "[I", true)
  | 3 => ("LeastFramesModel", "loads", "[I", true)
  | 4 => ("LeastFramesModel", "shifts", "[I", true)
  | 5 => ("LeastFramesModel", "points", "I", false)
  | 6 => ("LeastFramesModel", "bars", "I", false)
  | 7 => ("LeastFramesModel", "rows", "[J", true)
  | 8 => ("LeastFramesModel", "pivots", "[I", true)
  | 9 => ("LeastFramesModel", "rank", "I", false)
  | 10 => ("LeastFramesModel", "bears", "[Z", true)
  | 11 => ("LeastFramesModel", "aboves", "[J", true)
  | 12 => ("LeastFramesModel", "belows", "[J", true)
  | 13 => ("LeastFramesModel", "isKnown", "Z", false)
  | 14 => ("LeastFramesModel", "sHit", "I", false)
  | 15 => ("LeastFramesModel", "tHit", "I", false)
  | 16 => ("LeastFramesModel", "under", "I", false)
  | 17 => ("LeastFramesModel", "forms", "[I", true)
  | 18 => ("LeastFramesModel", "sizes", "[I", true)
  | 19 => ("LeastFramesModel", "items", "[J", true)
  | 20 => ("LeastFramesModel", "movedItems", "[J", true)
  | _ => ("LeastFramesModel", "finding", "I", false)
def tyX7 : Nat → FieldType := fun k => match k with
  | 0 => .array .int
  | 1 => .array .int
  | 2 => .array .int
  | 3 => .array .int
  | 4 => .array .int
  | 5 => .int
  | 6 => .int
  | 7 => .array .long
  | 8 => .array .int
  | 9 => .int
  | 10 => .array .boolean
  | 11 => .array .long
  | 12 => .array .long
  | 13 => .boolean
  | 14 => .int
  | 15 => .int
  | 16 => .int
  | 17 => .array .int
  | 18 => .array .int
  | 19 => .array .long
  | 20 => .array .long
  | _ => .int
abbrev wsX70 : List Cond := u_ws RX7 TX7 22
theorem nmX7 : ∀ a, a < 22 → ∀ b, b < 22 → a ≠ b → (TX7 a).2.1 ≠ (TX7 b).2.1 := by decide +kernel
theorem tyX7_ok : ∀ k, k < 22 → parseFieldDescriptor (TX7 k).2.2.1 = some (tyX7 k) := by decide +kernel
abbrev cX7_init : ByteArray := prog_9_method_1_code
def yX7_init : MethodName := ⟨RX7, "<init>", "()V"⟩
abbrev cX7_in : ByteArray := prog_9_method_3_code
def yX7_in : MethodName := ⟨RX7, "in", "(III)Z"⟩
abbrev cX7_no : ByteArray := prog_9_method_4_code
def yX7_no : MethodName := ⟨RX7, "no", "(I)J"⟩
abbrev cX7_divisor : ByteArray := prog_9_method_5_code
def yX7_divisor : MethodName := ⟨RX7, "divisor", "(JJ)J"⟩
abbrev cX7_partOf : ByteArray := prog_9_method_6_code
def yX7_partOf : MethodName := ⟨RX7, "partOf", "(JJI)J"⟩
abbrev cX7_isPoint : ByteArray := prog_9_method_7_code
def yX7_isPoint : MethodName := ⟨RX7, "isPoint", "(I)Z"⟩
abbrev cX7_pairs : ByteArray := prog_9_method_8_code
def yX7_pairs : MethodName := ⟨RX7, "pairs", "()I"⟩
abbrev cX7_isPair : ByteArray := prog_9_method_9_code
def yX7_isPair : MethodName := ⟨RX7, "isPair", "(I)Z"⟩
abbrev cX7_isBar : ByteArray := prog_9_method_10_code
def yX7_isBar : MethodName := ⟨RX7, "isBar", "(I)Z"⟩
abbrev cX7_greater : ByteArray := prog_9_method_11_code
def yX7_greater : MethodName := ⟨RX7, "greater", "(I)I"⟩
abbrev cX7_lesser : ByteArray := prog_9_method_12_code
def yX7_lesser : MethodName := ⟨RX7, "lesser", "(I)I"⟩
abbrev cX7_far : ByteArray := prog_9_method_13_code
def yX7_far : MethodName := ⟨RX7, "far", "(II)I"⟩
abbrev cX7_quad : ByteArray := prog_9_method_14_code
def yX7_quad : MethodName := ⟨RX7, "quad", "(I)I"⟩
abbrev cX7_point : ByteArray := prog_9_method_15_code
def yX7_point : MethodName := ⟨RX7, "point", "(II)I"⟩
abbrev cX7_back : ByteArray := prog_9_method_16_code
def yX7_back : MethodName := ⟨RX7, "back", "()I"⟩
abbrev cX7_hold : ByteArray := prog_9_method_17_code
def yX7_hold : MethodName := ⟨RX7, "hold", "(II)I"⟩
abbrev cX7_load : ByteArray := prog_9_method_18_code
def yX7_load : MethodName := ⟨RX7, "load", "(III)I"⟩
abbrev cX7_bar : ByteArray := prog_9_method_19_code
def yX7_bar : MethodName := ⟨RX7, "bar", "(I)I"⟩
abbrev cX7_all : ByteArray := prog_9_method_20_code
def yX7_all : MethodName := ⟨RX7, "all", "()I"⟩
abbrev cX7_read : ByteArray := prog_9_method_21_code
def yX7_read : MethodName := ⟨RX7, "read", "(I)I"⟩
abbrev cX7_infoOf : ByteArray := prog_9_method_22_code
def yX7_infoOf : MethodName := ⟨RX7, "infoOf", "(II)I"⟩
abbrev cX7_info : ByteArray := prog_9_method_23_code
def yX7_info : MethodName := ⟨RX7, "info", "(II)I"⟩
abbrev cX7_pairOf : ByteArray := prog_9_method_24_code
def yX7_pairOf : MethodName := ⟨RX7, "pairOf", "(II)I"⟩
abbrev cX7_pair : ByteArray := prog_9_method_25_code
def yX7_pair : MethodName := ⟨RX7, "pair", "(II)I"⟩
abbrev cX7_isWay : ByteArray := prog_9_method_26_code
def yX7_isWay : MethodName := ⟨RX7, "isWay", "(I)Z"⟩
abbrev cX7_brought : ByteArray := prog_9_method_27_code
def yX7_brought : MethodName := ⟨RX7, "brought", "(II)I"⟩
abbrev cX7_lowers : ByteArray := prog_9_method_28_code
def yX7_lowers : MethodName := ⟨RX7, "lowers", "(I)V"⟩
abbrev cX7_clears : ByteArray := prog_9_method_29_code
def yX7_clears : MethodName := ⟨RX7, "clears", "(III)V"⟩
abbrev cX7_adds : ByteArray := prog_9_method_30_code
def yX7_adds : MethodName := ⟨RX7, "adds", "(II)Z"⟩
abbrev cX7_faultOf : ByteArray := prog_9_method_31_code
def yX7_faultOf : MethodName := ⟨RX7, "faultOf", "(I)I"⟩
abbrev cX7_size : ByteArray := prog_9_method_32_code
def yX7_size : MethodName := ⟨RX7, "size", "(I)I"⟩
abbrev cX7_volumes : ByteArray := prog_9_method_33_code
def yX7_volumes : MethodName := ⟨RX7, "volumes", "(I)V"⟩
abbrev cX7_finds : ByteArray := prog_9_method_34_code
def yX7_finds : MethodName := ⟨RX7, "finds", "()V"⟩
abbrev cX7_isLess : ByteArray := prog_9_method_35_code
def yX7_isLess : MethodName := ⟨RX7, "isLess", "(II)Z"⟩
abbrev cX7_bestOf : ByteArray := prog_9_method_36_code
def yX7_bestOf : MethodName := ⟨RX7, "bestOf", "(I)I"⟩
abbrev cX7_volumeOf : ByteArray := prog_9_method_37_code
def yX7_volumeOf : MethodName := ⟨RX7, "volumeOf", "(II)J"⟩
abbrev cX7_least : ByteArray := prog_9_method_38_code
def yX7_least : MethodName := ⟨RX7, "least", "(I)J"⟩
abbrev cX7_fault : ByteArray := prog_9_method_39_code
def yX7_fault : MethodName := ⟨RX7, "fault", "()I"⟩
abbrev cX7_frameNow : ByteArray := prog_9_method_40_code
def yX7_frameNow : MethodName := ⟨RX7, "frameNow", "()I"⟩
abbrev cX7_frame : ByteArray := prog_9_method_41_code
def yX7_frame : MethodName := ⟨RX7, "frame", "()I"⟩
abbrev cX7_pullOf : ByteArray := prog_9_method_42_code
def yX7_pullOf : MethodName := ⟨RX7, "pullOf", "(II)J"⟩
abbrev cX7_pull : ByteArray := prog_9_method_43_code
def yX7_pull : MethodName := ⟨RX7, "pull", "(II)J"⟩
abbrev cX7_without : ByteArray := prog_9_method_44_code
def yX7_without : MethodName := ⟨RX7, "without", "(II)J"⟩
abbrev cX7_why : ByteArray := prog_9_method_45_code
def yX7_why : MethodName := ⟨RX7, "why", "(I)I"⟩
abbrev cX7_isNeeded : ByteArray := prog_9_method_46_code
def yX7_isNeeded : MethodName := ⟨RX7, "isNeeded", "(II)Z"⟩
abbrev cX7_neededNow : ByteArray := prog_9_method_47_code
def yX7_neededNow : MethodName := ⟨RX7, "neededNow", "()I"⟩
abbrev cX7_needed : ByteArray := prog_9_method_48_code
def yX7_needed : MethodName := ⟨RX7, "needed", "()I"⟩
abbrev cX7_dearestNow : ByteArray := prog_9_method_49_code
def yX7_dearestNow : MethodName := ⟨RX7, "dearestNow", "()I"⟩
abbrev cX7_dearest : ByteArray := prog_9_method_50_code
def yX7_dearest : MethodName := ⟨RX7, "dearest", "()I"⟩
abbrev cX7_gainOf : ByteArray := prog_9_method_51_code
def yX7_gainOf : MethodName := ⟨RX7, "gainOf", "(II)J"⟩
abbrev cX7_gain : ByteArray := prog_9_method_52_code
def yX7_gain : MethodName := ⟨RX7, "gain", "(II)J"⟩
abbrev cX7_growing : ByteArray := prog_9_method_53_code
def yX7_growing : MethodName := ⟨RX7, "growing", "()I"⟩
abbrev cX7_grow : ByteArray := prog_9_method_54_code
def yX7_grow : MethodName := ⟨RX7, "grow", "()I"⟩
abbrev cX7_prune : ByteArray := prog_9_method_55_code
def yX7_prune : MethodName := ⟨RX7, "prune", "()I"⟩
abbrev cX7_wouldBe : ByteArray := prog_9_method_56_code
def yX7_wouldBe : MethodName := ⟨RX7, "wouldBe", "(III)J"⟩
abbrev cX7_would : ByteArray := prog_9_method_57_code
def yX7_would : MethodName := ⟨RX7, "would", "(IIII)J"⟩
abbrev cX7_shift : ByteArray := prog_9_method_58_code
def yX7_shift : MethodName := ⟨RX7, "shift", "(III)I"⟩
abbrev cX7_shiftAt : ByteArray := prog_9_method_59_code
def yX7_shiftAt : MethodName := ⟨RX7, "shiftAt", "(I)I"⟩
abbrev cX7_stretchOf : ByteArray := prog_9_method_60_code
def yX7_stretchOf : MethodName := ⟨RX7, "stretchOf", "(I)I"⟩
abbrev cX7_stretch : ByteArray := prog_9_method_61_code
def yX7_stretch : MethodName := ⟨RX7, "stretch", "(II)J"⟩
abbrev cX7_workNow : ByteArray := prog_9_method_62_code
def yX7_workNow : MethodName := ⟨RX7, "workNow", "()I"⟩
abbrev cX7_work : ByteArray := prog_9_method_63_code
def yX7_work : MethodName := ⟨RX7, "work", "(I)J"⟩
abbrev cX7_provesNow : ByteArray := prog_9_method_64_code
def yX7_provesNow : MethodName := ⟨RX7, "provesNow", "()I"⟩
abbrev cX7_proves : ByteArray := prog_9_method_65_code
def yX7_proves : MethodName := ⟨RX7, "proves", "()I"⟩
abbrev cX7_isCross : ByteArray := prog_9_method_66_code
def yX7_isCross : MethodName := ⟨RX7, "isCross", "(II)Z"⟩
abbrev cX7_crossing : ByteArray := prog_9_method_67_code
def yX7_crossing : MethodName := ⟨RX7, "crossing", "(II)I"⟩
abbrev cX7_crossings : ByteArray := prog_9_method_68_code
def yX7_crossings : MethodName := ⟨RX7, "crossings", "()I"⟩
abbrev cX7_crossOf : ByteArray := prog_9_method_69_code
def yX7_crossOf : MethodName := ⟨RX7, "crossOf", "(II)I"⟩
abbrev cX7_cross : ByteArray := prog_9_method_70_code
def yX7_cross : MethodName := ⟨RX7, "cross", "(II)I"⟩
abbrev cX7_meets : ByteArray := prog_9_method_71_code
def yX7_meets : MethodName := ⟨RX7, "meets", "(I)I"⟩
abbrev cX7_isSheet : ByteArray := prog_9_method_72_code
def yX7_isSheet : MethodName := ⟨RX7, "isSheet", "(I)Z"⟩
abbrev cX7_sheet : ByteArray := prog_9_method_73_code
def yX7_sheet : MethodName := ⟨RX7, "sheet", "(III)I"⟩
abbrev cX7_lose : ByteArray := prog_9_method_74_code
def yX7_lose : MethodName := ⟨RX7, "lose", "(I)I"⟩
abbrev cX7_put : ByteArray := prog_9_method_75_code
def yX7_put : MethodName := ⟨RX7, "put", "(IIII)I"⟩
abbrev cX7_get : ByteArray := prog_9_method_76_code
def yX7_get : MethodName := ⟨RX7, "get", "(II)J"⟩
abbrev cX7_copy : ByteArray := prog_9_method_77_code
def yX7_copy : MethodName := ⟨RX7, "copy", "(IIIII)I"⟩
abbrev cX7_write : ByteArray := prog_9_method_78_code
def yX7_write : MethodName := ⟨RX7, "write", "(I)I"⟩
abbrev cX7_ways : ByteArray := prog_9_method_79_code
def yX7_ways : MethodName := ⟨RX7, "ways", "()I"⟩
abbrev cX7_count : ByteArray := prog_9_method_80_code
def yX7_count : MethodName := ⟨RX7, "count", "(I)I"⟩
abbrev cX7_pairDigest : ByteArray := prog_9_method_81_code
def yX7_pairDigest : MethodName := ⟨RX7, "pairDigest", "(JI)J"⟩
abbrev cX7_digest : ByteArray := prog_9_method_82_code
def yX7_digest : MethodName := ⟨RX7, "digest", "()J"⟩
def RJ6 : String := "java/lang/Integer"
def TJ6 : u_T := fun k => match k with
  | _ => ("", "", "", false)
def tyJ6 : Nat → FieldType := fun k => match k with
  | _ => .int
abbrev wsJ60 : List Cond := u_ws RJ6 TJ6 0
theorem nmJ6 : ∀ a, a < 0 → ∀ b, b < 0 → a ≠ b → (TJ6 a).2.1 ≠ (TJ6 b).2.1 := by decide +kernel
theorem tyJ6_ok : ∀ k, k < 0 → parseFieldDescriptor (TJ6 k).2.2.1 = some (tyJ6 k) := by decide +kernel
abbrev cJ6_bitCount_0f7a4 : ByteArray := prog_10_method_49_code
def yJ6_bitCount_0f7a4 : MethodName := ⟨RJ6, "bitCount", "(I)I"⟩
def RJ9 : String := "java/lang/Math"
def TJ9 : u_T := fun k => match k with
  | _ => ("", "", "", false)
def tyJ9 : Nat → FieldType := fun k => match k with
  | _ => .int
abbrev wsJ90 : List Cond := u_ws RJ9 TJ9 0
theorem nmJ9 : ∀ a, a < 0 → ∀ b, b < 0 → a ≠ b → (TJ9 a).2.1 ≠ (TJ9 b).2.1 := by decide +kernel
theorem tyJ9_ok : ∀ k, k < 0 → parseFieldDescriptor (TJ9 k).2.2.1 = some (tyJ9 k) := by decide +kernel
abbrev cJ9_abs_067f4 : ByteArray := prog_11_method_61_code
def yJ9_abs_067f4 : MethodName := ⟨RJ9, "abs", "(J)J"⟩
abbrev cJ9_min_7cf53 : ByteArray := prog_11_method_69_code
def yJ9_min_7cf53 : MethodName := ⟨RJ9, "min", "(II)I"⟩
def RJ10 : String := "java/lang/System"
def TJ10 : u_T := fun k => match k with
  | _ => ("", "", "", false)
def tyJ10 : Nat → FieldType := fun k => match k with
  | _ => .int
abbrev wsJ100 : List Cond := u_ws RJ10 TJ10 0
theorem nmJ10 : ∀ a, a < 0 → ∀ b, b < 0 → a ≠ b → (TJ10 a).2.1 ≠ (TJ10 b).2.1 := by decide +kernel
theorem tyJ10_ok : ∀ k, k < 0 → parseFieldDescriptor (TJ10 k).2.2.1 = some (tyJ10 k) := by decide +kernel
def RL : String := "LeastFramesLaw"
abbrev cL_law : ByteArray := code
def yL_law : MethodName := ⟨RL, "law", "([I)Z"⟩
abbrev vwCl : List vw_C := [(RX0, TX0, 11), (RX1, TX1, 5), (RX2, TX2, 3), (RX3, TX3, 7), (RX4, TX4, 4), (RX5, TX5, 8), (RX6, TX6, 9), (RX7, TX7, 22)]
end
section
theorem dX0_init_0 : decode cX0_init 0 = .ok (.aload_n 0, 1) := by decide +kernel
theorem dX0_init_1 : decode cX0_init 1 = .ok (.invokespecial 3, 3) := by decide +kernel
theorem dX0_init_4 : decode cX0_init 4 = .ok (.aload_n 0, 1) := by decide +kernel
theorem dX0_init_5 : decode cX0_init 5 = .ok (.sipush 252, 3) := by decide +kernel
theorem dX0_init_8 : decode cX0_init 8 = .ok (.newarray .int, 2) := by decide +kernel
theorem dX0_init_10 : decode cX0_init 10 = .ok (.putfield 11, 3) := by decide +kernel
theorem dX0_init_13 : decode cX0_init 13 = .ok (.aload_n 0, 1) := by decide +kernel
theorem dX0_init_14 : decode cX0_init 14 = .ok (.sipush 252, 3) := by decide +kernel
theorem dX0_init_17 : decode cX0_init 17 = .ok (.newarray .long, 2) := by decide +kernel
theorem dX0_init_19 : decode cX0_init 19 = .ok (.putfield 15, 3) := by decide +kernel
theorem dX0_init_22 : decode cX0_init 22 = .ok (.aload_n 0, 1) := by decide +kernel
theorem dX0_init_23 : decode cX0_init 23 = .ok (.sipush 252, 3) := by decide +kernel
theorem dX0_init_26 : decode cX0_init 26 = .ok (.newarray .long, 2) := by decide +kernel
theorem dX0_init_28 : decode cX0_init 28 = .ok (.putfield 19, 3) := by decide +kernel
theorem dX0_init_31 : decode cX0_init 31 = .ok (.aload_n 0, 1) := by decide +kernel
theorem dX0_init_32 : decode cX0_init 32 = .ok (.bipush 10, 2) := by decide +kernel
theorem dX0_init_34 : decode cX0_init 34 = .ok (.newarray .long, 2) := by decide +kernel
theorem dX0_init_36 : decode cX0_init 36 = .ok (.putfield 22, 3) := by decide +kernel
theorem dX0_init_39 : decode cX0_init 39 = .ok (.aload_n 0, 1) := by decide +kernel
theorem dX0_init_40 : decode cX0_init 40 = .ok (.lconst 1, 1) := by decide +kernel
theorem dX0_init_41 : decode cX0_init 41 = .ok (.putfield 25, 3) := by decide +kernel
theorem dX0_init_44 : decode cX0_init 44 = .ok (.aload_n 0, 1) := by decide +kernel
theorem dX0_init_45 : decode cX0_init 45 = .ok (.bipush 8, 2) := by decide +kernel
theorem dX0_init_47 : decode cX0_init 47 = .ok (.newarray .int, 2) := by decide +kernel
theorem dX0_init_49 : decode cX0_init 49 = .ok (.putfield 31, 3) := by decide +kernel
theorem dX0_init_52 : decode cX0_init 52 = .ok (.aload_n 0, 1) := by decide +kernel
theorem dX0_init_53 : decode cX0_init 53 = .ok (.iconst (-1), 1) := by decide +kernel
theorem dX0_init_54 : decode cX0_init 54 = .ok (.putfield 34, 3) := by decide +kernel
theorem dX0_init_57 : decode cX0_init 57 = .ok (.aload_n 0, 1) := by decide +kernel
theorem dX0_init_58 : decode cX0_init 58 = .ok (.iconst (-1), 1) := by decide +kernel
theorem dX0_init_59 : decode cX0_init 59 = .ok (.putfield 38, 3) := by decide +kernel
theorem dX0_init_62 : decode cX0_init 62 = .ok (.aload_n 0, 1) := by decide +kernel
theorem dX0_init_63 : decode cX0_init 63 = .ok (.iconst (-1), 1) := by decide +kernel
theorem dX0_init_64 : decode cX0_init 64 = .ok (.putfield 41, 3) := by decide +kernel
theorem dX0_init_67 : decode cX0_init 67 = .ok (.aload_n 0, 1) := by decide +kernel
theorem dX0_init_68 : decode cX0_init 68 = .ok (.aload_n 1, 1) := by decide +kernel
theorem dX0_init_69 : decode cX0_init 69 = .ok (.putfield 44, 3) := by decide +kernel
theorem dX0_init_72 : decode cX0_init 72 = .ok (.return_, 1) := by decide +kernel
theorem dX0_gather_0 : decode cX0_gather 0 = .ok (.aload_n 0, 1) := by decide +kernel
theorem dX0_gather_1 : decode cX0_gather 1 = .ok (.iconst 0, 1) := by decide +kernel
theorem dX0_gather_2 : decode cX0_gather 2 = .ok (.putfield 48, 3) := by decide +kernel
theorem dX0_gather_5 : decode cX0_gather 5 = .ok (.aload_n 0, 1) := by decide +kernel
theorem dX0_gather_6 : decode cX0_gather 6 = .ok (.iconst (-1), 1) := by decide +kernel
theorem dX0_gather_7 : decode cX0_gather 7 = .ok (.putfield 34, 3) := by decide +kernel
theorem dX0_gather_10 : decode cX0_gather 10 = .ok (.aload_n 0, 1) := by decide +kernel
theorem dX0_gather_11 : decode cX0_gather 11 = .ok (.iconst (-1), 1) := by decide +kernel
theorem dX0_gather_12 : decode cX0_gather 12 = .ok (.putfield 41, 3) := by decide +kernel
theorem dX0_gather_15 : decode cX0_gather 15 = .ok (.aload_n 0, 1) := by decide +kernel
theorem dX0_gather_16 : decode cX0_gather 16 = .ok (.getfield 44, 3) := by decide +kernel
theorem dX0_gather_19 : decode cX0_gather 19 = .ok (.aload_n 1, 1) := by decide +kernel
theorem dX0_gather_20 : decode cX0_gather 20 = .ok (.iload_n 2, 1) := by decide +kernel
theorem dX0_gather_21 : decode cX0_gather 21 = .ok (.invokevirtual 51, 3) := by decide +kernel
theorem dX0_gather_24 : decode cX0_gather 24 = .ok (.aload_n 0, 1) := by decide +kernel
theorem dX0_gather_25 : decode cX0_gather 25 = .ok (.getfield 44, 3) := by decide +kernel
theorem dX0_gather_28 : decode cX0_gather 28 = .ok (.iconst 0, 1) := by decide +kernel
theorem dX0_gather_29 : decode cX0_gather 29 = .ok (.invokevirtual 55, 3) := by decide +kernel
theorem dX0_gather_32 : decode cX0_gather 32 = .ok (.ifCond .eq 10, 3) := by decide +kernel
theorem dX0_gather_35 : decode cX0_gather 35 = .ok (.aload_n 0, 1) := by decide +kernel
theorem dX0_gather_36 : decode cX0_gather 36 = .ok (.aload_n 1, 1) := by decide +kernel
theorem dX0_gather_37 : decode cX0_gather 37 = .ok (.iconst 0, 1) := by decide +kernel
theorem dX0_gather_38 : decode cX0_gather 38 = .ok (.invokevirtual 59, 3) := by decide +kernel
theorem dX0_gather_41 : decode cX0_gather 41 = .ok (.return_, 1) := by decide +kernel
theorem dX0_gather_42 : decode cX0_gather 42 = .ok (.iconst 0, 1) := by decide +kernel
theorem dX0_gather_43 : decode cX0_gather 43 = .ok (.istore_n 3, 1) := by decide +kernel
theorem dX0_gather_44 : decode cX0_gather 44 = .ok (.aload_n 0, 1) := by decide +kernel
theorem dX0_gather_45 : decode cX0_gather 45 = .ok (.getfield 31, 3) := by decide +kernel
theorem dX0_gather_48 : decode cX0_gather 48 = .ok (.iconst 0, 1) := by decide +kernel
theorem dX0_gather_49 : decode cX0_gather 49 = .ok (.iconst 0, 1) := by decide +kernel
theorem dX0_gather_50 : decode cX0_gather 50 = .ok (.iastore, 1) := by decide +kernel
theorem dX0_gather_51 : decode cX0_gather 51 = .ok (.iconst 0, 1) := by decide +kernel
theorem dX0_gather_52 : decode cX0_gather 52 = .ok (.istore 4, 2) := by decide +kernel
theorem dX0_gather_54 : decode cX0_gather 54 = .ok (.iload 4, 2) := by decide +kernel
theorem dX0_gather_56 : decode cX0_gather 56 = .ok (.sipush 2048, 3) := by decide +kernel
theorem dX0_gather_59 : decode cX0_gather 59 = .ok (.if_icmp .ge 102, 3) := by decide +kernel
theorem dX0_gather_62 : decode cX0_gather 62 = .ok (.iload_n 3, 1) := by decide +kernel
theorem dX0_gather_63 : decode cX0_gather 63 = .ok (.ifCond .lt 98, 3) := by decide +kernel
theorem dX0_gather_66 : decode cX0_gather 66 = .ok (.aload_n 0, 1) := by decide +kernel
theorem dX0_gather_67 : decode cX0_gather 67 = .ok (.getfield 31, 3) := by decide +kernel
theorem dX0_gather_70 : decode cX0_gather 70 = .ok (.iload_n 3, 1) := by decide +kernel
theorem dX0_gather_71 : decode cX0_gather 71 = .ok (.iaload, 1) := by decide +kernel
theorem dX0_gather_72 : decode cX0_gather 72 = .ok (.istore 5, 2) := by decide +kernel
theorem dX0_gather_74 : decode cX0_gather 74 = .ok (.iload 5, 2) := by decide +kernel
theorem dX0_gather_76 : decode cX0_gather 76 = .ok (.aload_n 0, 1) := by decide +kernel
theorem dX0_gather_77 : decode cX0_gather 77 = .ok (.getfield 44, 3) := by decide +kernel
theorem dX0_gather_80 : decode cX0_gather 80 = .ok (.getfield 62, 3) := by decide +kernel
theorem dX0_gather_83 : decode cX0_gather 83 = .ok (.if_icmp .lt 9, 3) := by decide +kernel
theorem dX0_gather_86 : decode cX0_gather 86 = .ok (.iinc 3 (-1), 3) := by decide +kernel
theorem dX0_gather_89 : decode cX0_gather 89 = .ok (.goto 66, 3) := by decide +kernel
theorem dX0_gather_92 : decode cX0_gather 92 = .ok (.aload_n 0, 1) := by decide +kernel
theorem dX0_gather_93 : decode cX0_gather 93 = .ok (.getfield 31, 3) := by decide +kernel
theorem dX0_gather_96 : decode cX0_gather 96 = .ok (.iload_n 3, 1) := by decide +kernel
theorem dX0_gather_97 : decode cX0_gather 97 = .ok (.iload 5, 2) := by decide +kernel
theorem dX0_gather_99 : decode cX0_gather 99 = .ok (.iconst 1, 1) := by decide +kernel
theorem dX0_gather_100 : decode cX0_gather 100 = .ok (.iadd, 1) := by decide +kernel
theorem dX0_gather_101 : decode cX0_gather 101 = .ok (.iastore, 1) := by decide +kernel
theorem dX0_gather_102 : decode cX0_gather 102 = .ok (.aload_n 0, 1) := by decide +kernel
theorem dX0_gather_103 : decode cX0_gather 103 = .ok (.getfield 44, 3) := by decide +kernel
theorem dX0_gather_106 : decode cX0_gather 106 = .ok (.iload_n 3, 1) := by decide +kernel
theorem dX0_gather_107 : decode cX0_gather 107 = .ok (.iload 5, 2) := by decide +kernel
theorem dX0_gather_109 : decode cX0_gather 109 = .ok (.invokevirtual 65, 3) := by decide +kernel
theorem dX0_gather_112 : decode cX0_gather 112 = .ok (.ifCond .ne 6, 3) := by decide +kernel
theorem dX0_gather_115 : decode cX0_gather 115 = .ok (.goto 40, 3) := by decide +kernel
theorem dX0_gather_118 : decode cX0_gather 118 = .ok (.aload_n 0, 1) := by decide +kernel
theorem dX0_gather_119 : decode cX0_gather 119 = .ok (.getfield 44, 3) := by decide +kernel
theorem dX0_gather_122 : decode cX0_gather 122 = .ok (.iload_n 3, 1) := by decide +kernel
theorem dX0_gather_123 : decode cX0_gather 123 = .ok (.iconst 1, 1) := by decide +kernel
theorem dX0_gather_124 : decode cX0_gather 124 = .ok (.iadd, 1) := by decide +kernel
theorem dX0_gather_125 : decode cX0_gather 125 = .ok (.invokevirtual 55, 3) := by decide +kernel
theorem dX0_gather_128 : decode cX0_gather 128 = .ok (.ifCond .eq 14, 3) := by decide +kernel
theorem dX0_gather_131 : decode cX0_gather 131 = .ok (.aload_n 0, 1) := by decide +kernel
theorem dX0_gather_132 : decode cX0_gather 132 = .ok (.aload_n 1, 1) := by decide +kernel
theorem dX0_gather_133 : decode cX0_gather 133 = .ok (.iload_n 3, 1) := by decide +kernel
theorem dX0_gather_134 : decode cX0_gather 134 = .ok (.iconst 1, 1) := by decide +kernel
theorem dX0_gather_135 : decode cX0_gather 135 = .ok (.iadd, 1) := by decide +kernel
theorem dX0_gather_136 : decode cX0_gather 136 = .ok (.invokevirtual 59, 3) := by decide +kernel
theorem dX0_gather_139 : decode cX0_gather 139 = .ok (.goto 16, 3) := by decide +kernel
theorem dX0_gather_142 : decode cX0_gather 142 = .ok (.iinc 3 1, 3) := by decide +kernel
theorem dX0_gather_145 : decode cX0_gather 145 = .ok (.aload_n 0, 1) := by decide +kernel
theorem dX0_gather_146 : decode cX0_gather 146 = .ok (.getfield 31, 3) := by decide +kernel
theorem dX0_gather_149 : decode cX0_gather 149 = .ok (.iload_n 3, 1) := by decide +kernel
theorem dX0_gather_150 : decode cX0_gather 150 = .ok (.iload 5, 2) := by decide +kernel
theorem dX0_gather_152 : decode cX0_gather 152 = .ok (.iconst 1, 1) := by decide +kernel
theorem dX0_gather_153 : decode cX0_gather 153 = .ok (.iadd, 1) := by decide +kernel
theorem dX0_gather_154 : decode cX0_gather 154 = .ok (.iastore, 1) := by decide +kernel
theorem dX0_gather_155 : decode cX0_gather 155 = .ok (.iinc 4 1, 3) := by decide +kernel
theorem dX0_gather_158 : decode cX0_gather 158 = .ok (.goto (-104), 3) := by decide +kernel
theorem dX0_gather_161 : decode cX0_gather 161 = .ok (.return_, 1) := by decide +kernel
theorem dX0_keep_0 : decode cX0_keep 0 = .ok (.aload_n 0, 1) := by decide +kernel
theorem dX0_keep_1 : decode cX0_keep 1 = .ok (.getfield 44, 3) := by decide +kernel
theorem dX0_keep_4 : decode cX0_keep 4 = .ok (.iload_n 2, 1) := by decide +kernel
theorem dX0_keep_5 : decode cX0_keep 5 = .ok (.invokevirtual 69, 3) := by decide +kernel
theorem dX0_keep_8 : decode cX0_keep 8 = .ok (.iconst 0, 1) := by decide +kernel
theorem dX0_keep_9 : decode cX0_keep 9 = .ok (.istore_n 3, 1) := by decide +kernel
theorem dX0_keep_10 : decode cX0_keep 10 = .ok (.lconst 0, 1) := by decide +kernel
theorem dX0_keep_11 : decode cX0_keep 11 = .ok (.lstore 4, 2) := by decide +kernel
theorem dX0_keep_13 : decode cX0_keep 13 = .ok (.iconst 0, 1) := by decide +kernel
theorem dX0_keep_14 : decode cX0_keep 14 = .ok (.istore 6, 2) := by decide +kernel
theorem dX0_keep_16 : decode cX0_keep 16 = .ok (.iload 6, 2) := by decide +kernel
theorem dX0_keep_18 : decode cX0_keep 18 = .ok (.iload_n 2, 1) := by decide +kernel
theorem dX0_keep_19 : decode cX0_keep 19 = .ok (.if_icmp .ge 71, 3) := by decide +kernel
theorem dX0_keep_22 : decode cX0_keep 22 = .ok (.aload_n 0, 1) := by decide +kernel
theorem dX0_keep_23 : decode cX0_keep 23 = .ok (.getfield 44, 3) := by decide +kernel
theorem dX0_keep_26 : decode cX0_keep 26 = .ok (.getfield 73, 3) := by decide +kernel
theorem dX0_keep_29 : decode cX0_keep 29 = .ok (.iload 6, 2) := by decide +kernel
theorem dX0_keep_31 : decode cX0_keep 31 = .ok (.laload, 1) := by decide +kernel
theorem dX0_keep_32 : decode cX0_keep 32 = .ok (.lconst 0, 1) := by decide +kernel
theorem dX0_keep_33 : decode cX0_keep 33 = .ok (.lcmp, 1) := by decide +kernel
theorem dX0_keep_34 : decode cX0_keep 34 = .ok (.ifCond .ne 4, 3) := by decide +kernel
theorem dX0_keep_37 : decode cX0_keep 37 = .ok (.return_, 1) := by decide +kernel
theorem dX0_keep_38 : decode cX0_keep 38 = .ok (.aload_n 0, 1) := by decide +kernel
theorem dX0_keep_39 : decode cX0_keep 39 = .ok (.getfield 44, 3) := by decide +kernel
theorem dX0_keep_42 : decode cX0_keep 42 = .ok (.getfield 76, 3) := by decide +kernel
theorem dX0_keep_45 : decode cX0_keep 45 = .ok (.iload 6, 2) := by decide +kernel
theorem dX0_keep_47 : decode cX0_keep 47 = .ok (.iaload, 1) := by decide +kernel
theorem dX0_keep_48 : decode cX0_keep 48 = .ok (.istore 7, 2) := by decide +kernel
theorem dX0_keep_50 : decode cX0_keep 50 = .ok (.iload_n 3, 1) := by decide +kernel
theorem dX0_keep_51 : decode cX0_keep 51 = .ok (.iconst 1, 1) := by decide +kernel
theorem dX0_keep_52 : decode cX0_keep 52 = .ok (.iload 7, 2) := by decide +kernel
theorem dX0_keep_54 : decode cX0_keep 54 = .ok (.ishl, 1) := by decide +kernel
theorem dX0_keep_55 : decode cX0_keep 55 = .ok (.ior, 1) := by decide +kernel
theorem dX0_keep_56 : decode cX0_keep 56 = .ok (.istore_n 3, 1) := by decide +kernel
theorem dX0_keep_57 : decode cX0_keep 57 = .ok (.lload 4, 2) := by decide +kernel
theorem dX0_keep_59 : decode cX0_keep 59 = .ok (.aload_n 1, 1) := by decide +kernel
theorem dX0_keep_60 : decode cX0_keep 60 = .ok (.getfield 79, 3) := by decide +kernel
theorem dX0_keep_63 : decode cX0_keep 63 = .ok (.iload 7, 2) := by decide +kernel
theorem dX0_keep_65 : decode cX0_keep 65 = .ok (.iaload, 1) := by decide +kernel
theorem dX0_keep_66 : decode cX0_keep 66 = .ok (.i2l, 1) := by decide +kernel
theorem dX0_keep_67 : decode cX0_keep 67 = .ok (.aload_n 0, 1) := by decide +kernel
theorem dX0_keep_68 : decode cX0_keep 68 = .ok (.getfield 44, 3) := by decide +kernel
theorem dX0_keep_71 : decode cX0_keep 71 = .ok (.getfield 73, 3) := by decide +kernel
theorem dX0_keep_74 : decode cX0_keep 74 = .ok (.iload 6, 2) := by decide +kernel
theorem dX0_keep_76 : decode cX0_keep 76 = .ok (.laload, 1) := by decide +kernel
theorem dX0_keep_77 : decode cX0_keep 77 = .ok (.invokestatic 84, 3) := by decide +kernel
theorem dX0_keep_80 : decode cX0_keep 80 = .ok (.lmul, 1) := by decide +kernel
theorem dX0_keep_81 : decode cX0_keep 81 = .ok (.ladd, 1) := by decide +kernel
theorem dX0_keep_82 : decode cX0_keep 82 = .ok (.lstore 4, 2) := by decide +kernel
theorem dX0_keep_84 : decode cX0_keep 84 = .ok (.iinc 6 1, 3) := by decide +kernel
theorem dX0_keep_87 : decode cX0_keep 87 = .ok (.goto (-71), 3) := by decide +kernel
theorem dX0_keep_90 : decode cX0_keep 90 = .ok (.aload_n 0, 1) := by decide +kernel
theorem dX0_keep_91 : decode cX0_keep 91 = .ok (.getfield 48, 3) := by decide +kernel
theorem dX0_keep_94 : decode cX0_keep 94 = .ok (.sipush 252, 3) := by decide +kernel
theorem dX0_keep_97 : decode cX0_keep 97 = .ok (.if_icmp .ge 55, 3) := by decide +kernel
theorem dX0_keep_100 : decode cX0_keep 100 = .ok (.aload_n 0, 1) := by decide +kernel
theorem dX0_keep_101 : decode cX0_keep 101 = .ok (.getfield 11, 3) := by decide +kernel
theorem dX0_keep_104 : decode cX0_keep 104 = .ok (.aload_n 0, 1) := by decide +kernel
theorem dX0_keep_105 : decode cX0_keep 105 = .ok (.getfield 48, 3) := by decide +kernel
theorem dX0_keep_108 : decode cX0_keep 108 = .ok (.iload_n 3, 1) := by decide +kernel
theorem dX0_keep_109 : decode cX0_keep 109 = .ok (.iastore, 1) := by decide +kernel
theorem dX0_keep_110 : decode cX0_keep 110 = .ok (.aload_n 0, 1) := by decide +kernel
theorem dX0_keep_111 : decode cX0_keep 111 = .ok (.getfield 15, 3) := by decide +kernel
theorem dX0_keep_114 : decode cX0_keep 114 = .ok (.aload_n 0, 1) := by decide +kernel
theorem dX0_keep_115 : decode cX0_keep 115 = .ok (.getfield 48, 3) := by decide +kernel
theorem dX0_keep_118 : decode cX0_keep 118 = .ok (.lload 4, 2) := by decide +kernel
theorem dX0_keep_120 : decode cX0_keep 120 = .ok (.lastore, 1) := by decide +kernel
theorem dX0_keep_121 : decode cX0_keep 121 = .ok (.aload_n 0, 1) := by decide +kernel
theorem dX0_keep_122 : decode cX0_keep 122 = .ok (.getfield 19, 3) := by decide +kernel
theorem dX0_keep_125 : decode cX0_keep 125 = .ok (.aload_n 0, 1) := by decide +kernel
theorem dX0_keep_126 : decode cX0_keep 126 = .ok (.getfield 48, 3) := by decide +kernel
theorem dX0_keep_129 : decode cX0_keep 129 = .ok (.aload_n 0, 1) := by decide +kernel
theorem dX0_keep_130 : decode cX0_keep 130 = .ok (.getfield 44, 3) := by decide +kernel
theorem dX0_keep_133 : decode cX0_keep 133 = .ok (.getfield 90, 3) := by decide +kernel
theorem dX0_keep_136 : decode cX0_keep 136 = .ok (.iload_n 2, 1) := by decide +kernel
theorem dX0_keep_137 : decode cX0_keep 137 = .ok (.laload, 1) := by decide +kernel
theorem dX0_keep_138 : decode cX0_keep 138 = .ok (.invokestatic 84, 3) := by decide +kernel
theorem dX0_keep_141 : decode cX0_keep 141 = .ok (.lastore, 1) := by decide +kernel
theorem dX0_keep_142 : decode cX0_keep 142 = .ok (.aload_n 0, 1) := by decide +kernel
theorem dX0_keep_143 : decode cX0_keep 143 = .ok (.dup, 1) := by decide +kernel
theorem dX0_keep_144 : decode cX0_keep 144 = .ok (.getfield 48, 3) := by decide +kernel
theorem dX0_keep_147 : decode cX0_keep 147 = .ok (.iconst 1, 1) := by decide +kernel
theorem dX0_keep_148 : decode cX0_keep 148 = .ok (.iadd, 1) := by decide +kernel
theorem dX0_keep_149 : decode cX0_keep 149 = .ok (.putfield 48, 3) := by decide +kernel
theorem dX0_keep_152 : decode cX0_keep 152 = .ok (.return_, 1) := by decide +kernel
theorem dX0_leastWithin_0 : decode cX0_leastWithin 0 = .ok (.iload_n 1, 1) := by decide +kernel
theorem dX0_leastWithin_1 : decode cX0_leastWithin 1 = .ok (.aload_n 0, 1) := by decide +kernel
theorem dX0_leastWithin_2 : decode cX0_leastWithin 2 = .ok (.getfield 34, 3) := by decide +kernel
theorem dX0_leastWithin_5 : decode cX0_leastWithin 5 = .ok (.if_icmp .ne 8, 3) := by decide +kernel
theorem dX0_leastWithin_8 : decode cX0_leastWithin 8 = .ok (.aload_n 0, 1) := by decide +kernel
theorem dX0_leastWithin_9 : decode cX0_leastWithin 9 = .ok (.getfield 38, 3) := by decide +kernel
theorem dX0_leastWithin_12 : decode cX0_leastWithin 12 = .ok (.ireturn, 1) := by decide +kernel
theorem dX0_leastWithin_13 : decode cX0_leastWithin 13 = .ok (.iconst (-1), 1) := by decide +kernel
theorem dX0_leastWithin_14 : decode cX0_leastWithin 14 = .ok (.istore_n 2, 1) := by decide +kernel
theorem dX0_leastWithin_15 : decode cX0_leastWithin 15 = .ok (.iconst 0, 1) := by decide +kernel
theorem dX0_leastWithin_16 : decode cX0_leastWithin 16 = .ok (.istore_n 3, 1) := by decide +kernel
theorem dX0_leastWithin_17 : decode cX0_leastWithin 17 = .ok (.iload_n 3, 1) := by decide +kernel
theorem dX0_leastWithin_18 : decode cX0_leastWithin 18 = .ok (.aload_n 0, 1) := by decide +kernel
theorem dX0_leastWithin_19 : decode cX0_leastWithin 19 = .ok (.getfield 48, 3) := by decide +kernel
theorem dX0_leastWithin_22 : decode cX0_leastWithin 22 = .ok (.if_icmp .ge 64, 3) := by decide +kernel
theorem dX0_leastWithin_25 : decode cX0_leastWithin 25 = .ok (.aload_n 0, 1) := by decide +kernel
theorem dX0_leastWithin_26 : decode cX0_leastWithin 26 = .ok (.getfield 11, 3) := by decide +kernel
theorem dX0_leastWithin_29 : decode cX0_leastWithin 29 = .ok (.iload_n 3, 1) := by decide +kernel
theorem dX0_leastWithin_30 : decode cX0_leastWithin 30 = .ok (.iaload, 1) := by decide +kernel
theorem dX0_leastWithin_31 : decode cX0_leastWithin 31 = .ok (.iload_n 1, 1) := by decide +kernel
theorem dX0_leastWithin_32 : decode cX0_leastWithin 32 = .ok (.iconst (-1), 1) := by decide +kernel
theorem dX0_leastWithin_33 : decode cX0_leastWithin 33 = .ok (.ixor, 1) := by decide +kernel
theorem dX0_leastWithin_34 : decode cX0_leastWithin 34 = .ok (.iand, 1) := by decide +kernel
theorem dX0_leastWithin_35 : decode cX0_leastWithin 35 = .ok (.ifCond .eq 6, 3) := by decide +kernel
theorem dX0_leastWithin_38 : decode cX0_leastWithin 38 = .ok (.goto 42, 3) := by decide +kernel
theorem dX0_leastWithin_41 : decode cX0_leastWithin 41 = .ok (.iload_n 2, 1) := by decide +kernel
theorem dX0_leastWithin_42 : decode cX0_leastWithin 42 = .ok (.ifCond .lt 36, 3) := by decide +kernel
theorem dX0_leastWithin_45 : decode cX0_leastWithin 45 = .ok (.aload_n 0, 1) := by decide +kernel
theorem dX0_leastWithin_46 : decode cX0_leastWithin 46 = .ok (.iload_n 2, 1) := by decide +kernel
theorem dX0_leastWithin_47 : decode cX0_leastWithin 47 = .ok (.iload_n 3, 1) := by decide +kernel
theorem dX0_leastWithin_48 : decode cX0_leastWithin 48 = .ok (.invokevirtual 93, 3) := by decide +kernel
theorem dX0_leastWithin_51 : decode cX0_leastWithin 51 = .ok (.ifCond .ne 27, 3) := by decide +kernel
theorem dX0_leastWithin_54 : decode cX0_leastWithin 54 = .ok (.aload_n 0, 1) := by decide +kernel
theorem dX0_leastWithin_55 : decode cX0_leastWithin 55 = .ok (.iload_n 3, 1) := by decide +kernel
theorem dX0_leastWithin_56 : decode cX0_leastWithin 56 = .ok (.iload_n 2, 1) := by decide +kernel
theorem dX0_leastWithin_57 : decode cX0_leastWithin 57 = .ok (.invokevirtual 93, 3) := by decide +kernel
theorem dX0_leastWithin_60 : decode cX0_leastWithin 60 = .ok (.ifCond .ne 20, 3) := by decide +kernel
theorem dX0_leastWithin_63 : decode cX0_leastWithin 63 = .ok (.aload_n 0, 1) := by decide +kernel
theorem dX0_leastWithin_64 : decode cX0_leastWithin 64 = .ok (.getfield 11, 3) := by decide +kernel
theorem dX0_leastWithin_67 : decode cX0_leastWithin 67 = .ok (.iload_n 3, 1) := by decide +kernel
theorem dX0_leastWithin_68 : decode cX0_leastWithin 68 = .ok (.iaload, 1) := by decide +kernel
theorem dX0_leastWithin_69 : decode cX0_leastWithin 69 = .ok (.aload_n 0, 1) := by decide +kernel
theorem dX0_leastWithin_70 : decode cX0_leastWithin 70 = .ok (.getfield 11, 3) := by decide +kernel
theorem dX0_leastWithin_73 : decode cX0_leastWithin 73 = .ok (.iload_n 2, 1) := by decide +kernel
theorem dX0_leastWithin_74 : decode cX0_leastWithin 74 = .ok (.iaload, 1) := by decide +kernel
theorem dX0_leastWithin_75 : decode cX0_leastWithin 75 = .ok (.if_icmp .ge 5, 3) := by decide +kernel
theorem dX0_leastWithin_78 : decode cX0_leastWithin 78 = .ok (.iload_n 3, 1) := by decide +kernel
theorem dX0_leastWithin_79 : decode cX0_leastWithin 79 = .ok (.istore_n 2, 1) := by decide +kernel
theorem dX0_leastWithin_80 : decode cX0_leastWithin 80 = .ok (.iinc 3 1, 3) := by decide +kernel
theorem dX0_leastWithin_83 : decode cX0_leastWithin 83 = .ok (.goto (-66), 3) := by decide +kernel
theorem dX0_leastWithin_86 : decode cX0_leastWithin 86 = .ok (.aload_n 0, 1) := by decide +kernel
theorem dX0_leastWithin_87 : decode cX0_leastWithin 87 = .ok (.iload_n 1, 1) := by decide +kernel
theorem dX0_leastWithin_88 : decode cX0_leastWithin 88 = .ok (.putfield 34, 3) := by decide +kernel
theorem dX0_leastWithin_91 : decode cX0_leastWithin 91 = .ok (.aload_n 0, 1) := by decide +kernel
theorem dX0_leastWithin_92 : decode cX0_leastWithin 92 = .ok (.iload_n 2, 1) := by decide +kernel
theorem dX0_leastWithin_93 : decode cX0_leastWithin 93 = .ok (.putfield 38, 3) := by decide +kernel
theorem dX0_leastWithin_96 : decode cX0_leastWithin 96 = .ok (.iload_n 2, 1) := by decide +kernel
theorem dX0_leastWithin_97 : decode cX0_leastWithin 97 = .ok (.ireturn, 1) := by decide +kernel
theorem dX0_isDearer_0 : decode cX0_isDearer 0 = .ok (.iload_n 1, 1) := by decide +kernel
theorem dX0_isDearer_1 : decode cX0_isDearer 1 = .ok (.ifCond .lt 7, 3) := by decide +kernel
theorem dX0_isDearer_4 : decode cX0_isDearer 4 = .ok (.iload_n 2, 1) := by decide +kernel
theorem dX0_isDearer_5 : decode cX0_isDearer 5 = .ok (.ifCond .ge 17, 3) := by decide +kernel
theorem dX0_isDearer_8 : decode cX0_isDearer 8 = .ok (.iload_n 1, 1) := by decide +kernel
theorem dX0_isDearer_9 : decode cX0_isDearer 9 = .ok (.ifCond .ge 11, 3) := by decide +kernel
theorem dX0_isDearer_12 : decode cX0_isDearer 12 = .ok (.iload_n 2, 1) := by decide +kernel
theorem dX0_isDearer_13 : decode cX0_isDearer 13 = .ok (.ifCond .lt 7, 3) := by decide +kernel
theorem dX0_isDearer_16 : decode cX0_isDearer 16 = .ok (.iconst 1, 1) := by decide +kernel
theorem dX0_isDearer_17 : decode cX0_isDearer 17 = .ok (.goto 4, 3) := by decide +kernel
theorem dX0_isDearer_20 : decode cX0_isDearer 20 = .ok (.iconst 0, 1) := by decide +kernel
theorem dX0_isDearer_21 : decode cX0_isDearer 21 = .ok (.ireturn, 1) := by decide +kernel
theorem dX0_isDearer_22 : decode cX0_isDearer 22 = .ok (.aload_n 0, 1) := by decide +kernel
theorem dX0_isDearer_23 : decode cX0_isDearer 23 = .ok (.getfield 15, 3) := by decide +kernel
theorem dX0_isDearer_26 : decode cX0_isDearer 26 = .ok (.iload_n 1, 1) := by decide +kernel
theorem dX0_isDearer_27 : decode cX0_isDearer 27 = .ok (.laload, 1) := by decide +kernel
theorem dX0_isDearer_28 : decode cX0_isDearer 28 = .ok (.aload_n 0, 1) := by decide +kernel
theorem dX0_isDearer_29 : decode cX0_isDearer 29 = .ok (.getfield 19, 3) := by decide +kernel
theorem dX0_isDearer_32 : decode cX0_isDearer 32 = .ok (.iload_n 2, 1) := by decide +kernel
theorem dX0_isDearer_33 : decode cX0_isDearer 33 = .ok (.laload, 1) := by decide +kernel
theorem dX0_isDearer_34 : decode cX0_isDearer 34 = .ok (.lmul, 1) := by decide +kernel
theorem dX0_isDearer_35 : decode cX0_isDearer 35 = .ok (.aload_n 0, 1) := by decide +kernel
theorem dX0_isDearer_36 : decode cX0_isDearer 36 = .ok (.getfield 15, 3) := by decide +kernel
theorem dX0_isDearer_39 : decode cX0_isDearer 39 = .ok (.iload_n 2, 1) := by decide +kernel
theorem dX0_isDearer_40 : decode cX0_isDearer 40 = .ok (.laload, 1) := by decide +kernel
theorem dX0_isDearer_41 : decode cX0_isDearer 41 = .ok (.aload_n 0, 1) := by decide +kernel
theorem dX0_isDearer_42 : decode cX0_isDearer 42 = .ok (.getfield 19, 3) := by decide +kernel
theorem dX0_isDearer_45 : decode cX0_isDearer 45 = .ok (.iload_n 1, 1) := by decide +kernel
theorem dX0_isDearer_46 : decode cX0_isDearer 46 = .ok (.laload, 1) := by decide +kernel
theorem dX0_isDearer_47 : decode cX0_isDearer 47 = .ok (.lmul, 1) := by decide +kernel
theorem dX0_isDearer_48 : decode cX0_isDearer 48 = .ok (.lcmp, 1) := by decide +kernel
theorem dX0_isDearer_49 : decode cX0_isDearer 49 = .ok (.ifCond .le 7, 3) := by decide +kernel
theorem dX0_isDearer_52 : decode cX0_isDearer 52 = .ok (.iconst 1, 1) := by decide +kernel
theorem dX0_isDearer_53 : decode cX0_isDearer 53 = .ok (.goto 4, 3) := by decide +kernel
theorem dX0_isDearer_56 : decode cX0_isDearer 56 = .ok (.iconst 0, 1) := by decide +kernel
theorem dX0_isDearer_57 : decode cX0_isDearer 57 = .ok (.ireturn, 1) := by decide +kernel
theorem dX0_volume_0 : decode cX0_volume 0 = .ok (.iload_n 1, 1) := by decide +kernel
theorem dX0_volume_1 : decode cX0_volume 1 = .ok (.ifCond .ge 11, 3) := by decide +kernel
theorem dX0_volume_4 : decode cX0_volume 4 = .ok (.bipush (-3), 2) := by decide +kernel
theorem dX0_volume_6 : decode cX0_volume 6 = .ok (.invokestatic 96, 3) := by decide +kernel
theorem dX0_volume_9 : decode cX0_volume 9 = .ok (.goto 19, 3) := by decide +kernel
theorem dX0_volume_12 : decode cX0_volume 12 = .ok (.aload_n 0, 1) := by decide +kernel
theorem dX0_volume_13 : decode cX0_volume 13 = .ok (.getfield 15, 3) := by decide +kernel
theorem dX0_volume_16 : decode cX0_volume 16 = .ok (.iload_n 1, 1) := by decide +kernel
theorem dX0_volume_17 : decode cX0_volume 17 = .ok (.laload, 1) := by decide +kernel
theorem dX0_volume_18 : decode cX0_volume 18 = .ok (.aload_n 0, 1) := by decide +kernel
theorem dX0_volume_19 : decode cX0_volume 19 = .ok (.getfield 19, 3) := by decide +kernel
theorem dX0_volume_22 : decode cX0_volume 22 = .ok (.iload_n 1, 1) := by decide +kernel
theorem dX0_volume_23 : decode cX0_volume 23 = .ok (.laload, 1) := by decide +kernel
theorem dX0_volume_24 : decode cX0_volume 24 = .ok (.iload_n 2, 1) := by decide +kernel
theorem dX0_volume_25 : decode cX0_volume 25 = .ok (.invokestatic 100, 3) := by decide +kernel
theorem dX0_volume_28 : decode cX0_volume 28 = .ok (.lreturn, 1) := by decide +kernel
theorem dX0_difference_0 : decode cX0_difference 0 = .ok (.iload_n 1, 1) := by decide +kernel
theorem dX0_difference_1 : decode cX0_difference 1 = .ok (.ifCond .lt 7, 3) := by decide +kernel
theorem dX0_difference_4 : decode cX0_difference 4 = .ok (.iload_n 2, 1) := by decide +kernel
theorem dX0_difference_5 : decode cX0_difference 5 = .ok (.ifCond .ge 9, 3) := by decide +kernel
theorem dX0_difference_8 : decode cX0_difference 8 = .ok (.bipush (-3), 2) := by decide +kernel
theorem dX0_difference_10 : decode cX0_difference 10 = .ok (.invokestatic 96, 3) := by decide +kernel
theorem dX0_difference_13 : decode cX0_difference 13 = .ok (.lreturn, 1) := by decide +kernel
theorem dX0_difference_14 : decode cX0_difference 14 = .ok (.aload_n 0, 1) := by decide +kernel
theorem dX0_difference_15 : decode cX0_difference 15 = .ok (.getfield 15, 3) := by decide +kernel
theorem dX0_difference_18 : decode cX0_difference 18 = .ok (.iload_n 1, 1) := by decide +kernel
theorem dX0_difference_19 : decode cX0_difference 19 = .ok (.laload, 1) := by decide +kernel
theorem dX0_difference_20 : decode cX0_difference 20 = .ok (.aload_n 0, 1) := by decide +kernel
theorem dX0_difference_21 : decode cX0_difference 21 = .ok (.getfield 19, 3) := by decide +kernel
theorem dX0_difference_24 : decode cX0_difference 24 = .ok (.iload_n 2, 1) := by decide +kernel
theorem dX0_difference_25 : decode cX0_difference 25 = .ok (.laload, 1) := by decide +kernel
theorem dX0_difference_26 : decode cX0_difference 26 = .ok (.lmul, 1) := by decide +kernel
theorem dX0_difference_27 : decode cX0_difference 27 = .ok (.aload_n 0, 1) := by decide +kernel
theorem dX0_difference_28 : decode cX0_difference 28 = .ok (.getfield 15, 3) := by decide +kernel
theorem dX0_difference_31 : decode cX0_difference 31 = .ok (.iload_n 2, 1) := by decide +kernel
theorem dX0_difference_32 : decode cX0_difference 32 = .ok (.laload, 1) := by decide +kernel
theorem dX0_difference_33 : decode cX0_difference 33 = .ok (.aload_n 0, 1) := by decide +kernel
theorem dX0_difference_34 : decode cX0_difference 34 = .ok (.getfield 19, 3) := by decide +kernel
theorem dX0_difference_37 : decode cX0_difference 37 = .ok (.iload_n 1, 1) := by decide +kernel
theorem dX0_difference_38 : decode cX0_difference 38 = .ok (.laload, 1) := by decide +kernel
theorem dX0_difference_39 : decode cX0_difference 39 = .ok (.lmul, 1) := by decide +kernel
theorem dX0_difference_40 : decode cX0_difference 40 = .ok (.lsub, 1) := by decide +kernel
theorem dX0_difference_41 : decode cX0_difference 41 = .ok (.lstore 4, 2) := by decide +kernel
theorem dX0_difference_43 : decode cX0_difference 43 = .ok (.lload 4, 2) := by decide +kernel
theorem dX0_difference_45 : decode cX0_difference 45 = .ok (.aload_n 0, 1) := by decide +kernel
theorem dX0_difference_46 : decode cX0_difference 46 = .ok (.getfield 19, 3) := by decide +kernel
theorem dX0_difference_49 : decode cX0_difference 49 = .ok (.iload_n 1, 1) := by decide +kernel
theorem dX0_difference_50 : decode cX0_difference 50 = .ok (.laload, 1) := by decide +kernel
theorem dX0_difference_51 : decode cX0_difference 51 = .ok (.aload_n 0, 1) := by decide +kernel
theorem dX0_difference_52 : decode cX0_difference 52 = .ok (.getfield 19, 3) := by decide +kernel
theorem dX0_difference_55 : decode cX0_difference 55 = .ok (.iload_n 2, 1) := by decide +kernel
theorem dX0_difference_56 : decode cX0_difference 56 = .ok (.laload, 1) := by decide +kernel
theorem dX0_difference_57 : decode cX0_difference 57 = .ok (.lmul, 1) := by decide +kernel
theorem dX0_difference_58 : decode cX0_difference 58 = .ok (.iload_n 3, 1) := by decide +kernel
theorem dX0_difference_59 : decode cX0_difference 59 = .ok (.invokestatic 100, 3) := by decide +kernel
theorem dX0_difference_62 : decode cX0_difference 62 = .ok (.lreturn, 1) := by decide +kernel
theorem dX0_solve_0 : decode cX0_solve 0 = .ok (.iload_n 2, 1) := by decide +kernel
theorem dX0_solve_1 : decode cX0_solve 1 = .ok (.aload_n 0, 1) := by decide +kernel
theorem dX0_solve_2 : decode cX0_solve 2 = .ok (.getfield 41, 3) := by decide +kernel
theorem dX0_solve_5 : decode cX0_solve 5 = .ok (.if_icmp .ne 4, 3) := by decide +kernel
theorem dX0_solve_8 : decode cX0_solve 8 = .ok (.return_, 1) := by decide +kernel
theorem dX0_solve_9 : decode cX0_solve 9 = .ok (.aload_n 0, 1) := by decide +kernel
theorem dX0_solve_10 : decode cX0_solve 10 = .ok (.getfield 44, 3) := by decide +kernel
theorem dX0_solve_13 : decode cX0_solve 13 = .ok (.aload_n 1, 1) := by decide +kernel
theorem dX0_solve_14 : decode cX0_solve 14 = .ok (.iload_n 2, 1) := by decide +kernel
theorem dX0_solve_15 : decode cX0_solve 15 = .ok (.invokevirtual 51, 3) := by decide +kernel
theorem dX0_solve_18 : decode cX0_solve 18 = .ok (.iconst 0, 1) := by decide +kernel
theorem dX0_solve_19 : decode cX0_solve 19 = .ok (.istore_n 3, 1) := by decide +kernel
theorem dX0_solve_20 : decode cX0_solve 20 = .ok (.iconst 0, 1) := by decide +kernel
theorem dX0_solve_21 : decode cX0_solve 21 = .ok (.istore 4, 2) := by decide +kernel
theorem dX0_solve_23 : decode cX0_solve 23 = .ok (.iload 4, 2) := by decide +kernel
theorem dX0_solve_25 : decode cX0_solve 25 = .ok (.bipush 10, 2) := by decide +kernel
theorem dX0_solve_27 : decode cX0_solve 27 = .ok (.if_icmp .ge 45, 3) := by decide +kernel
theorem dX0_solve_30 : decode cX0_solve 30 = .ok (.aload_n 0, 1) := by decide +kernel
theorem dX0_solve_31 : decode cX0_solve 31 = .ok (.getfield 22, 3) := by decide +kernel
theorem dX0_solve_34 : decode cX0_solve 34 = .ok (.iload 4, 2) := by decide +kernel
theorem dX0_solve_36 : decode cX0_solve 36 = .ok (.lconst 0, 1) := by decide +kernel
theorem dX0_solve_37 : decode cX0_solve 37 = .ok (.lastore, 1) := by decide +kernel
theorem dX0_solve_38 : decode cX0_solve 38 = .ok (.iload 4, 2) := by decide +kernel
theorem dX0_solve_40 : decode cX0_solve 40 = .ok (.aload_n 0, 1) := by decide +kernel
theorem dX0_solve_41 : decode cX0_solve 41 = .ok (.getfield 44, 3) := by decide +kernel
theorem dX0_solve_44 : decode cX0_solve 44 = .ok (.getfield 62, 3) := by decide +kernel
theorem dX0_solve_47 : decode cX0_solve 47 = .ok (.if_icmp .ge 19, 3) := by decide +kernel
theorem dX0_solve_50 : decode cX0_solve 50 = .ok (.aload_n 0, 1) := by decide +kernel
theorem dX0_solve_51 : decode cX0_solve 51 = .ok (.getfield 44, 3) := by decide +kernel
theorem dX0_solve_54 : decode cX0_solve 54 = .ok (.iload_n 3, 1) := by decide +kernel
theorem dX0_solve_55 : decode cX0_solve 55 = .ok (.iload 4, 2) := by decide +kernel
theorem dX0_solve_57 : decode cX0_solve 57 = .ok (.invokevirtual 65, 3) := by decide +kernel
theorem dX0_solve_60 : decode cX0_solve 60 = .ok (.ifCond .eq 6, 3) := by decide +kernel
theorem dX0_solve_63 : decode cX0_solve 63 = .ok (.iinc 3 1, 3) := by decide +kernel
theorem dX0_solve_66 : decode cX0_solve 66 = .ok (.iinc 4 1, 3) := by decide +kernel
theorem dX0_solve_69 : decode cX0_solve 69 = .ok (.goto (-46), 3) := by decide +kernel
theorem dX0_solve_72 : decode cX0_solve 72 = .ok (.aload_n 0, 1) := by decide +kernel
theorem dX0_solve_73 : decode cX0_solve 73 = .ok (.getfield 44, 3) := by decide +kernel
theorem dX0_solve_76 : decode cX0_solve 76 = .ok (.iload_n 3, 1) := by decide +kernel
theorem dX0_solve_77 : decode cX0_solve 77 = .ok (.invokevirtual 69, 3) := by decide +kernel
theorem dX0_solve_80 : decode cX0_solve 80 = .ok (.iconst 0, 1) := by decide +kernel
theorem dX0_solve_81 : decode cX0_solve 81 = .ok (.istore 4, 2) := by decide +kernel
theorem dX0_solve_83 : decode cX0_solve 83 = .ok (.iload 4, 2) := by decide +kernel
theorem dX0_solve_85 : decode cX0_solve 85 = .ok (.iload_n 3, 1) := by decide +kernel
theorem dX0_solve_86 : decode cX0_solve 86 = .ok (.if_icmp .ge 34, 3) := by decide +kernel
theorem dX0_solve_89 : decode cX0_solve 89 = .ok (.aload_n 0, 1) := by decide +kernel
theorem dX0_solve_90 : decode cX0_solve 90 = .ok (.getfield 22, 3) := by decide +kernel
theorem dX0_solve_93 : decode cX0_solve 93 = .ok (.aload_n 0, 1) := by decide +kernel
theorem dX0_solve_94 : decode cX0_solve 94 = .ok (.getfield 44, 3) := by decide +kernel
theorem dX0_solve_97 : decode cX0_solve 97 = .ok (.getfield 76, 3) := by decide +kernel
theorem dX0_solve_100 : decode cX0_solve 100 = .ok (.iload 4, 2) := by decide +kernel
theorem dX0_solve_102 : decode cX0_solve 102 = .ok (.iaload, 1) := by decide +kernel
theorem dX0_solve_103 : decode cX0_solve 103 = .ok (.aload_n 0, 1) := by decide +kernel
theorem dX0_solve_104 : decode cX0_solve 104 = .ok (.getfield 44, 3) := by decide +kernel
theorem dX0_solve_107 : decode cX0_solve 107 = .ok (.getfield 73, 3) := by decide +kernel
theorem dX0_solve_110 : decode cX0_solve 110 = .ok (.iload 4, 2) := by decide +kernel
theorem dX0_solve_112 : decode cX0_solve 112 = .ok (.laload, 1) := by decide +kernel
theorem dX0_solve_113 : decode cX0_solve 113 = .ok (.lastore, 1) := by decide +kernel
theorem dX0_solve_114 : decode cX0_solve 114 = .ok (.iinc 4 1, 3) := by decide +kernel
theorem dX0_solve_117 : decode cX0_solve 117 = .ok (.goto (-34), 3) := by decide +kernel
theorem dX0_solve_120 : decode cX0_solve 120 = .ok (.aload_n 0, 1) := by decide +kernel
theorem dX0_solve_121 : decode cX0_solve 121 = .ok (.aload_n 0, 1) := by decide +kernel
theorem dX0_solve_122 : decode cX0_solve 122 = .ok (.getfield 44, 3) := by decide +kernel
theorem dX0_solve_125 : decode cX0_solve 125 = .ok (.getfield 90, 3) := by decide +kernel
theorem dX0_solve_128 : decode cX0_solve 128 = .ok (.iload_n 3, 1) := by decide +kernel
theorem dX0_solve_129 : decode cX0_solve 129 = .ok (.laload, 1) := by decide +kernel
theorem dX0_solve_130 : decode cX0_solve 130 = .ok (.putfield 25, 3) := by decide +kernel
theorem dX0_solve_133 : decode cX0_solve 133 = .ok (.aload_n 0, 1) := by decide +kernel
theorem dX0_solve_134 : decode cX0_solve 134 = .ok (.iload_n 2, 1) := by decide +kernel
theorem dX0_solve_135 : decode cX0_solve 135 = .ok (.putfield 41, 3) := by decide +kernel
theorem dX0_solve_138 : decode cX0_solve 138 = .ok (.return_, 1) := by decide +kernel
theorem dX1_init_0 : decode cX1_init 0 = .ok (.aload_n 0, 1) := by decide +kernel
theorem dX1_init_1 : decode cX1_init 1 = .ok (.invokespecial 3, 3) := by decide +kernel
theorem dX1_init_4 : decode cX1_init 4 = .ok (.return_, 1) := by decide +kernel
theorem dX1_pass_0 : decode cX1_pass 0 = .ok (.iconst 0, 1) := by decide +kernel
theorem dX1_pass_1 : decode cX1_pass 1 = .ok (.istore 4, 2) := by decide +kernel
theorem dX1_pass_3 : decode cX1_pass 3 = .ok (.iconst 0, 1) := by decide +kernel
theorem dX1_pass_4 : decode cX1_pass 4 = .ok (.istore 5, 2) := by decide +kernel
theorem dX1_pass_6 : decode cX1_pass 6 = .ok (.iload 5, 2) := by decide +kernel
theorem dX1_pass_8 : decode cX1_pass 8 = .ok (.bipush 10, 2) := by decide +kernel
theorem dX1_pass_10 : decode cX1_pass 10 = .ok (.if_icmp .ge 84, 3) := by decide +kernel
theorem dX1_pass_13 : decode cX1_pass 13 = .ok (.iload 5, 2) := by decide +kernel
theorem dX1_pass_15 : decode cX1_pass 15 = .ok (.iconst 1, 1) := by decide +kernel
theorem dX1_pass_16 : decode cX1_pass 16 = .ok (.iadd, 1) := by decide +kernel
theorem dX1_pass_17 : decode cX1_pass 17 = .ok (.istore 6, 2) := by decide +kernel
theorem dX1_pass_19 : decode cX1_pass 19 = .ok (.iload 6, 2) := by decide +kernel
theorem dX1_pass_21 : decode cX1_pass 21 = .ok (.bipush 10, 2) := by decide +kernel
theorem dX1_pass_23 : decode cX1_pass 23 = .ok (.if_icmp .ge 65, 3) := by decide +kernel
theorem dX1_pass_26 : decode cX1_pass 26 = .ok (.iload_n 2, 1) := by decide +kernel
theorem dX1_pass_27 : decode cX1_pass 27 = .ok (.iload 5, 2) := by decide +kernel
theorem dX1_pass_29 : decode cX1_pass 29 = .ok (.ishr, 1) := by decide +kernel
theorem dX1_pass_30 : decode cX1_pass 30 = .ok (.iconst 1, 1) := by decide +kernel
theorem dX1_pass_31 : decode cX1_pass 31 = .ok (.iand, 1) := by decide +kernel
theorem dX1_pass_32 : decode cX1_pass 32 = .ok (.ifCond .eq 16, 3) := by decide +kernel
theorem dX1_pass_35 : decode cX1_pass 35 = .ok (.iload_n 2, 1) := by decide +kernel
theorem dX1_pass_36 : decode cX1_pass 36 = .ok (.iload 6, 2) := by decide +kernel
theorem dX1_pass_38 : decode cX1_pass 38 = .ok (.ishr, 1) := by decide +kernel
theorem dX1_pass_39 : decode cX1_pass 39 = .ok (.iconst 1, 1) := by decide +kernel
theorem dX1_pass_40 : decode cX1_pass 40 = .ok (.iand, 1) := by decide +kernel
theorem dX1_pass_41 : decode cX1_pass 41 = .ok (.ifCond .eq 7, 3) := by decide +kernel
theorem dX1_pass_44 : decode cX1_pass 44 = .ok (.iconst 1, 1) := by decide +kernel
theorem dX1_pass_45 : decode cX1_pass 45 = .ok (.goto 4, 3) := by decide +kernel
theorem dX1_pass_48 : decode cX1_pass 48 = .ok (.iconst 0, 1) := by decide +kernel
theorem dX1_pass_49 : decode cX1_pass 49 = .ok (.istore 7, 2) := by decide +kernel
theorem dX1_pass_51 : decode cX1_pass 51 = .ok (.iload 7, 2) := by decide +kernel
theorem dX1_pass_53 : decode cX1_pass 53 = .ok (.ifCond .eq 29, 3) := by decide +kernel
theorem dX1_pass_56 : decode cX1_pass 56 = .ok (.aload_n 0, 1) := by decide +kernel
theorem dX1_pass_57 : decode cX1_pass 57 = .ok (.aload_n 1, 1) := by decide +kernel
theorem dX1_pass_58 : decode cX1_pass 58 = .ok (.iload 5, 2) := by decide +kernel
theorem dX1_pass_60 : decode cX1_pass 60 = .ok (.iload 6, 2) := by decide +kernel
theorem dX1_pass_62 : decode cX1_pass 62 = .ok (.invokevirtual 9, 3) := by decide +kernel
theorem dX1_pass_65 : decode cX1_pass 65 = .ok (.ifCond .eq 17, 3) := by decide +kernel
theorem dX1_pass_68 : decode cX1_pass 68 = .ok (.iinc 4 1, 3) := by decide +kernel
theorem dX1_pass_71 : decode cX1_pass 71 = .ok (.iload 4, 2) := by decide +kernel
theorem dX1_pass_73 : decode cX1_pass 73 = .ok (.iconst 1, 1) := by decide +kernel
theorem dX1_pass_74 : decode cX1_pass 74 = .ok (.isub, 1) := by decide +kernel
theorem dX1_pass_75 : decode cX1_pass 75 = .ok (.iload_n 3, 1) := by decide +kernel
theorem dX1_pass_76 : decode cX1_pass 76 = .ok (.if_icmp .ne 6, 3) := by decide +kernel
theorem dX1_pass_79 : decode cX1_pass 79 = .ok (.iload 4, 2) := by decide +kernel
theorem dX1_pass_81 : decode cX1_pass 81 = .ok (.ireturn, 1) := by decide +kernel
theorem dX1_pass_82 : decode cX1_pass 82 = .ok (.iinc 6 1, 3) := by decide +kernel
theorem dX1_pass_85 : decode cX1_pass 85 = .ok (.goto (-66), 3) := by decide +kernel
theorem dX1_pass_88 : decode cX1_pass 88 = .ok (.iinc 5 1, 3) := by decide +kernel
theorem dX1_pass_91 : decode cX1_pass 91 = .ok (.goto (-85), 3) := by decide +kernel
theorem dX1_pass_94 : decode cX1_pass 94 = .ok (.iload 4, 2) := by decide +kernel
theorem dX1_pass_96 : decode cX1_pass 96 = .ok (.ireturn, 1) := by decide +kernel
theorem dX1_meet_0 : decode cX1_meet 0 = .ok (.aload_n 1, 1) := by decide +kernel
theorem dX1_meet_1 : decode cX1_meet 1 = .ok (.getfield 15, 3) := by decide +kernel
theorem dX1_meet_4 : decode cX1_meet 4 = .ok (.iconst 2, 1) := by decide +kernel
theorem dX1_meet_5 : decode cX1_meet 5 = .ok (.iload_n 2, 1) := by decide +kernel
theorem dX1_meet_6 : decode cX1_meet 6 = .ok (.imul, 1) := by decide +kernel
theorem dX1_meet_7 : decode cX1_meet 7 = .ok (.iaload, 1) := by decide +kernel
theorem dX1_meet_8 : decode cX1_meet 8 = .ok (.istore 4, 2) := by decide +kernel
theorem dX1_meet_10 : decode cX1_meet 10 = .ok (.aload_n 1, 1) := by decide +kernel
theorem dX1_meet_11 : decode cX1_meet 11 = .ok (.getfield 15, 3) := by decide +kernel
theorem dX1_meet_14 : decode cX1_meet 14 = .ok (.iconst 2, 1) := by decide +kernel
theorem dX1_meet_15 : decode cX1_meet 15 = .ok (.iload_n 2, 1) := by decide +kernel
theorem dX1_meet_16 : decode cX1_meet 16 = .ok (.imul, 1) := by decide +kernel
theorem dX1_meet_17 : decode cX1_meet 17 = .ok (.iconst 1, 1) := by decide +kernel
theorem dX1_meet_18 : decode cX1_meet 18 = .ok (.iadd, 1) := by decide +kernel
theorem dX1_meet_19 : decode cX1_meet 19 = .ok (.iaload, 1) := by decide +kernel
theorem dX1_meet_20 : decode cX1_meet 20 = .ok (.istore 5, 2) := by decide +kernel
theorem dX1_meet_22 : decode cX1_meet 22 = .ok (.aload_n 1, 1) := by decide +kernel
theorem dX1_meet_23 : decode cX1_meet 23 = .ok (.getfield 15, 3) := by decide +kernel
theorem dX1_meet_26 : decode cX1_meet 26 = .ok (.iconst 2, 1) := by decide +kernel
theorem dX1_meet_27 : decode cX1_meet 27 = .ok (.iload_n 3, 1) := by decide +kernel
theorem dX1_meet_28 : decode cX1_meet 28 = .ok (.imul, 1) := by decide +kernel
theorem dX1_meet_29 : decode cX1_meet 29 = .ok (.iaload, 1) := by decide +kernel
theorem dX1_meet_30 : decode cX1_meet 30 = .ok (.istore 6, 2) := by decide +kernel
theorem dX1_meet_32 : decode cX1_meet 32 = .ok (.aload_n 1, 1) := by decide +kernel
theorem dX1_meet_33 : decode cX1_meet 33 = .ok (.getfield 15, 3) := by decide +kernel
theorem dX1_meet_36 : decode cX1_meet 36 = .ok (.iconst 2, 1) := by decide +kernel
theorem dX1_meet_37 : decode cX1_meet 37 = .ok (.iload_n 3, 1) := by decide +kernel
theorem dX1_meet_38 : decode cX1_meet 38 = .ok (.imul, 1) := by decide +kernel
theorem dX1_meet_39 : decode cX1_meet 39 = .ok (.iconst 1, 1) := by decide +kernel
theorem dX1_meet_40 : decode cX1_meet 40 = .ok (.iadd, 1) := by decide +kernel
theorem dX1_meet_41 : decode cX1_meet 41 = .ok (.iaload, 1) := by decide +kernel
theorem dX1_meet_42 : decode cX1_meet 42 = .ok (.istore 7, 2) := by decide +kernel
theorem dX1_meet_44 : decode cX1_meet 44 = .ok (.aload_n 1, 1) := by decide +kernel
theorem dX1_meet_45 : decode cX1_meet 45 = .ok (.getfield 21, 3) := by decide +kernel
theorem dX1_meet_48 : decode cX1_meet 48 = .ok (.iconst 2, 1) := by decide +kernel
theorem dX1_meet_49 : decode cX1_meet 49 = .ok (.getstatic 24, 3) := by decide +kernel
theorem dX1_meet_52 : decode cX1_meet 52 = .ok (.iload_n 2, 1) := by decide +kernel
theorem dX1_meet_53 : decode cX1_meet 53 = .ok (.iaload, 1) := by decide +kernel
theorem dX1_meet_54 : decode cX1_meet 54 = .ok (.imul, 1) := by decide +kernel
theorem dX1_meet_55 : decode cX1_meet 55 = .ok (.iaload, 1) := by decide +kernel
theorem dX1_meet_56 : decode cX1_meet 56 = .ok (.istore 8, 2) := by decide +kernel
theorem dX1_meet_58 : decode cX1_meet 58 = .ok (.aload_n 1, 1) := by decide +kernel
theorem dX1_meet_59 : decode cX1_meet 59 = .ok (.getfield 21, 3) := by decide +kernel
theorem dX1_meet_62 : decode cX1_meet 62 = .ok (.iconst 2, 1) := by decide +kernel
theorem dX1_meet_63 : decode cX1_meet 63 = .ok (.getstatic 24, 3) := by decide +kernel
theorem dX1_meet_66 : decode cX1_meet 66 = .ok (.iload_n 2, 1) := by decide +kernel
theorem dX1_meet_67 : decode cX1_meet 67 = .ok (.iaload, 1) := by decide +kernel
theorem dX1_meet_68 : decode cX1_meet 68 = .ok (.imul, 1) := by decide +kernel
theorem dX1_meet_69 : decode cX1_meet 69 = .ok (.iconst 1, 1) := by decide +kernel
theorem dX1_meet_70 : decode cX1_meet 70 = .ok (.iadd, 1) := by decide +kernel
theorem dX1_meet_71 : decode cX1_meet 71 = .ok (.iaload, 1) := by decide +kernel
theorem dX1_meet_72 : decode cX1_meet 72 = .ok (.istore 9, 2) := by decide +kernel
theorem dX1_meet_74 : decode cX1_meet 74 = .ok (.aload_n 1, 1) := by decide +kernel
theorem dX1_meet_75 : decode cX1_meet 75 = .ok (.getfield 21, 3) := by decide +kernel
theorem dX1_meet_78 : decode cX1_meet 78 = .ok (.iconst 2, 1) := by decide +kernel
theorem dX1_meet_79 : decode cX1_meet 79 = .ok (.getstatic 24, 3) := by decide +kernel
theorem dX1_meet_82 : decode cX1_meet 82 = .ok (.iload_n 3, 1) := by decide +kernel
theorem dX1_meet_83 : decode cX1_meet 83 = .ok (.iaload, 1) := by decide +kernel
theorem dX1_meet_84 : decode cX1_meet 84 = .ok (.imul, 1) := by decide +kernel
theorem dX1_meet_85 : decode cX1_meet 85 = .ok (.iaload, 1) := by decide +kernel
theorem dX1_meet_86 : decode cX1_meet 86 = .ok (.iload 8, 2) := by decide +kernel
theorem dX1_meet_88 : decode cX1_meet 88 = .ok (.isub, 1) := by decide +kernel
theorem dX1_meet_89 : decode cX1_meet 89 = .ok (.istore 10, 2) := by decide +kernel
theorem dX1_meet_91 : decode cX1_meet 91 = .ok (.aload_n 1, 1) := by decide +kernel
theorem dX1_meet_92 : decode cX1_meet 92 = .ok (.getfield 21, 3) := by decide +kernel
theorem dX1_meet_95 : decode cX1_meet 95 = .ok (.iconst 2, 1) := by decide +kernel
theorem dX1_meet_96 : decode cX1_meet 96 = .ok (.getstatic 24, 3) := by decide +kernel
theorem dX1_meet_99 : decode cX1_meet 99 = .ok (.iload_n 3, 1) := by decide +kernel
theorem dX1_meet_100 : decode cX1_meet 100 = .ok (.iaload, 1) := by decide +kernel
theorem dX1_meet_101 : decode cX1_meet 101 = .ok (.imul, 1) := by decide +kernel
theorem dX1_meet_102 : decode cX1_meet 102 = .ok (.iconst 1, 1) := by decide +kernel
theorem dX1_meet_103 : decode cX1_meet 103 = .ok (.iadd, 1) := by decide +kernel
theorem dX1_meet_104 : decode cX1_meet 104 = .ok (.iaload, 1) := by decide +kernel
theorem dX1_meet_105 : decode cX1_meet 105 = .ok (.iload 9, 2) := by decide +kernel
theorem dX1_meet_107 : decode cX1_meet 107 = .ok (.isub, 1) := by decide +kernel
theorem dX1_meet_108 : decode cX1_meet 108 = .ok (.istore 11, 2) := by decide +kernel
theorem dX1_meet_110 : decode cX1_meet 110 = .ok (.iload 4, 2) := by decide +kernel
theorem dX1_meet_112 : decode cX1_meet 112 = .ok (.iload 7, 2) := by decide +kernel
theorem dX1_meet_114 : decode cX1_meet 114 = .ok (.imul, 1) := by decide +kernel
theorem dX1_meet_115 : decode cX1_meet 115 = .ok (.iload 5, 2) := by decide +kernel
theorem dX1_meet_117 : decode cX1_meet 117 = .ok (.iload 6, 2) := by decide +kernel
theorem dX1_meet_119 : decode cX1_meet 119 = .ok (.imul, 1) := by decide +kernel
theorem dX1_meet_120 : decode cX1_meet 120 = .ok (.isub, 1) := by decide +kernel
theorem dX1_meet_121 : decode cX1_meet 121 = .ok (.istore 12, 2) := by decide +kernel
theorem dX1_meet_123 : decode cX1_meet 123 = .ok (.iload 10, 2) := by decide +kernel
theorem dX1_meet_125 : decode cX1_meet 125 = .ok (.iload 7, 2) := by decide +kernel
theorem dX1_meet_127 : decode cX1_meet 127 = .ok (.imul, 1) := by decide +kernel
theorem dX1_meet_128 : decode cX1_meet 128 = .ok (.iload 11, 2) := by decide +kernel
theorem dX1_meet_130 : decode cX1_meet 130 = .ok (.iload 6, 2) := by decide +kernel
theorem dX1_meet_132 : decode cX1_meet 132 = .ok (.imul, 1) := by decide +kernel
theorem dX1_meet_133 : decode cX1_meet 133 = .ok (.isub, 1) := by decide +kernel
theorem dX1_meet_134 : decode cX1_meet 134 = .ok (.istore 13, 2) := by decide +kernel
theorem dX1_meet_136 : decode cX1_meet 136 = .ok (.iload 10, 2) := by decide +kernel
theorem dX1_meet_138 : decode cX1_meet 138 = .ok (.iload 5, 2) := by decide +kernel
theorem dX1_meet_140 : decode cX1_meet 140 = .ok (.imul, 1) := by decide +kernel
theorem dX1_meet_141 : decode cX1_meet 141 = .ok (.iload 11, 2) := by decide +kernel
theorem dX1_meet_143 : decode cX1_meet 143 = .ok (.iload 4, 2) := by decide +kernel
theorem dX1_meet_145 : decode cX1_meet 145 = .ok (.imul, 1) := by decide +kernel
theorem dX1_meet_146 : decode cX1_meet 146 = .ok (.isub, 1) := by decide +kernel
theorem dX1_meet_147 : decode cX1_meet 147 = .ok (.istore 14, 2) := by decide +kernel
theorem dX1_meet_149 : decode cX1_meet 149 = .ok (.iload 13, 2) := by decide +kernel
theorem dX1_meet_151 : decode cX1_meet 151 = .ok (.iload 12, 2) := by decide +kernel
theorem dX1_meet_153 : decode cX1_meet 153 = .ok (.invokestatic 27, 3) := by decide +kernel
theorem dX1_meet_156 : decode cX1_meet 156 = .ok (.ifCond .eq 13, 3) := by decide +kernel
theorem dX1_meet_159 : decode cX1_meet 159 = .ok (.iload 14, 2) := by decide +kernel
theorem dX1_meet_161 : decode cX1_meet 161 = .ok (.iload 12, 2) := by decide +kernel
theorem dX1_meet_163 : decode cX1_meet 163 = .ok (.invokestatic 27, 3) := by decide +kernel
theorem dX1_meet_166 : decode cX1_meet 166 = .ok (.ifCond .ne 5, 3) := by decide +kernel
theorem dX1_meet_169 : decode cX1_meet 169 = .ok (.iconst 0, 1) := by decide +kernel
theorem dX1_meet_170 : decode cX1_meet 170 = .ok (.ireturn, 1) := by decide +kernel
theorem dX1_meet_171 : decode cX1_meet 171 = .ok (.aload_n 0, 1) := by decide +kernel
theorem dX1_meet_172 : decode cX1_meet 172 = .ok (.iload_n 2, 1) := by decide +kernel
theorem dX1_meet_173 : decode cX1_meet 173 = .ok (.putfield 31, 3) := by decide +kernel
theorem dX1_meet_176 : decode cX1_meet 176 = .ok (.aload_n 0, 1) := by decide +kernel
theorem dX1_meet_177 : decode cX1_meet 177 = .ok (.iload_n 3, 1) := by decide +kernel
theorem dX1_meet_178 : decode cX1_meet 178 = .ok (.putfield 35, 3) := by decide +kernel
theorem dX1_meet_181 : decode cX1_meet 181 = .ok (.aload_n 0, 1) := by decide +kernel
theorem dX1_meet_182 : decode cX1_meet 182 = .ok (.iload 12, 2) := by decide +kernel
theorem dX1_meet_184 : decode cX1_meet 184 = .ok (.i2l, 1) := by decide +kernel
theorem dX1_meet_185 : decode cX1_meet 185 = .ok (.putfield 38, 3) := by decide +kernel
theorem dX1_meet_188 : decode cX1_meet 188 = .ok (.aload_n 0, 1) := by decide +kernel
theorem dX1_meet_189 : decode cX1_meet 189 = .ok (.iload 8, 2) := by decide +kernel
theorem dX1_meet_191 : decode cX1_meet 191 = .ok (.i2l, 1) := by decide +kernel
theorem dX1_meet_192 : decode cX1_meet 192 = .ok (.iload 12, 2) := by decide +kernel
theorem dX1_meet_194 : decode cX1_meet 194 = .ok (.i2l, 1) := by decide +kernel
theorem dX1_meet_195 : decode cX1_meet 195 = .ok (.lmul, 1) := by decide +kernel
theorem dX1_meet_196 : decode cX1_meet 196 = .ok (.iload 13, 2) := by decide +kernel
theorem dX1_meet_198 : decode cX1_meet 198 = .ok (.i2l, 1) := by decide +kernel
theorem dX1_meet_199 : decode cX1_meet 199 = .ok (.iload 4, 2) := by decide +kernel
theorem dX1_meet_201 : decode cX1_meet 201 = .ok (.i2l, 1) := by decide +kernel
theorem dX1_meet_202 : decode cX1_meet 202 = .ok (.lmul, 1) := by decide +kernel
theorem dX1_meet_203 : decode cX1_meet 203 = .ok (.ladd, 1) := by decide +kernel
theorem dX1_meet_204 : decode cX1_meet 204 = .ok (.putfield 42, 3) := by decide +kernel
theorem dX1_meet_207 : decode cX1_meet 207 = .ok (.aload_n 0, 1) := by decide +kernel
theorem dX1_meet_208 : decode cX1_meet 208 = .ok (.iload 9, 2) := by decide +kernel
theorem dX1_meet_210 : decode cX1_meet 210 = .ok (.i2l, 1) := by decide +kernel
theorem dX1_meet_211 : decode cX1_meet 211 = .ok (.iload 12, 2) := by decide +kernel
theorem dX1_meet_213 : decode cX1_meet 213 = .ok (.i2l, 1) := by decide +kernel
theorem dX1_meet_214 : decode cX1_meet 214 = .ok (.lmul, 1) := by decide +kernel
theorem dX1_meet_215 : decode cX1_meet 215 = .ok (.iload 13, 2) := by decide +kernel
theorem dX1_meet_217 : decode cX1_meet 217 = .ok (.i2l, 1) := by decide +kernel
theorem dX1_meet_218 : decode cX1_meet 218 = .ok (.iload 5, 2) := by decide +kernel
theorem dX1_meet_220 : decode cX1_meet 220 = .ok (.i2l, 1) := by decide +kernel
theorem dX1_meet_221 : decode cX1_meet 221 = .ok (.lmul, 1) := by decide +kernel
theorem dX1_meet_222 : decode cX1_meet 222 = .ok (.ladd, 1) := by decide +kernel
theorem dX1_meet_223 : decode cX1_meet 223 = .ok (.putfield 45, 3) := by decide +kernel
theorem dX1_meet_226 : decode cX1_meet 226 = .ok (.iconst 1, 1) := by decide +kernel
theorem dX1_meet_227 : decode cX1_meet 227 = .ok (.ireturn, 1) := by decide +kernel
theorem dX1_isInside_0 : decode cX1_isInside 0 = .ok (.iload_n 1, 1) := by decide +kernel
theorem dX1_isInside_1 : decode cX1_isInside 1 = .ok (.ifCond .le 20, 3) := by decide +kernel
theorem dX1_isInside_4 : decode cX1_isInside 4 = .ok (.iload_n 0, 1) := by decide +kernel
theorem dX1_isInside_5 : decode cX1_isInside 5 = .ok (.ifCond .le 12, 3) := by decide +kernel
theorem dX1_isInside_8 : decode cX1_isInside 8 = .ok (.iload_n 0, 1) := by decide +kernel
theorem dX1_isInside_9 : decode cX1_isInside 9 = .ok (.iload_n 1, 1) := by decide +kernel
theorem dX1_isInside_10 : decode cX1_isInside 10 = .ok (.if_icmp .ge 7, 3) := by decide +kernel
theorem dX1_isInside_13 : decode cX1_isInside 13 = .ok (.iconst 1, 1) := by decide +kernel
theorem dX1_isInside_14 : decode cX1_isInside 14 = .ok (.goto 21, 3) := by decide +kernel
theorem dX1_isInside_17 : decode cX1_isInside 17 = .ok (.iconst 0, 1) := by decide +kernel
theorem dX1_isInside_18 : decode cX1_isInside 18 = .ok (.goto 17, 3) := by decide +kernel
theorem dX1_isInside_21 : decode cX1_isInside 21 = .ok (.iload_n 0, 1) := by decide +kernel
theorem dX1_isInside_22 : decode cX1_isInside 22 = .ok (.ifCond .ge 12, 3) := by decide +kernel
theorem dX1_isInside_25 : decode cX1_isInside 25 = .ok (.iload_n 0, 1) := by decide +kernel
theorem dX1_isInside_26 : decode cX1_isInside 26 = .ok (.iload_n 1, 1) := by decide +kernel
theorem dX1_isInside_27 : decode cX1_isInside 27 = .ok (.if_icmp .le 7, 3) := by decide +kernel
theorem dX1_isInside_30 : decode cX1_isInside 30 = .ok (.iconst 1, 1) := by decide +kernel
theorem dX1_isInside_31 : decode cX1_isInside 31 = .ok (.goto 4, 3) := by decide +kernel
theorem dX1_isInside_34 : decode cX1_isInside 34 = .ok (.iconst 0, 1) := by decide +kernel
theorem dX1_isInside_35 : decode cX1_isInside 35 = .ok (.ireturn, 1) := by decide +kernel
theorem dX2_init_0 : decode cX2_init 0 = .ok (.aload_n 0, 1) := by decide +kernel
theorem dX2_init_1 : decode cX2_init 1 = .ok (.invokespecial 5, 3) := by decide +kernel
theorem dX2_init_4 : decode cX2_init 4 = .ok (.aload_n 0, 1) := by decide +kernel
theorem dX2_init_5 : decode cX2_init 5 = .ok (.bipush 10, 2) := by decide +kernel
theorem dX2_init_7 : decode cX2_init 7 = .ok (.bipush 11, 2) := by decide +kernel
theorem dX2_init_9 : decode cX2_init 9 = .ok (.multianewarray 13 2, 4) := by decide +kernel
theorem dX2_init_13 : decode cX2_init 13 = .ok (.putfield 15, 3) := by decide +kernel
theorem dX2_init_16 : decode cX2_init 16 = .ok (.aload_n 0, 1) := by decide +kernel
theorem dX2_init_17 : decode cX2_init 17 = .ok (.bipush 10, 2) := by decide +kernel
theorem dX2_init_19 : decode cX2_init 19 = .ok (.newarray .int, 2) := by decide +kernel
theorem dX2_init_21 : decode cX2_init 21 = .ok (.putfield 18, 3) := by decide +kernel
theorem dX2_init_24 : decode cX2_init 24 = .ok (.return_, 1) := by decide +kernel
theorem dX2_first_0 : decode cX2_first 0 = .ok (.iconst 0, 1) := by decide +kernel
theorem dX2_first_1 : decode cX2_first 1 = .ok (.istore_n 3, 1) := by decide +kernel
theorem dX2_first_2 : decode cX2_first 2 = .ok (.aload_n 0, 1) := by decide +kernel
theorem dX2_first_3 : decode cX2_first 3 = .ok (.aload_n 1, 1) := by decide +kernel
theorem dX2_first_4 : decode cX2_first 4 = .ok (.invokevirtual 22, 3) := by decide +kernel
theorem dX2_first_7 : decode cX2_first 7 = .ok (.putfield 28, 3) := by decide +kernel
theorem dX2_first_10 : decode cX2_first 10 = .ok (.iconst 0, 1) := by decide +kernel
theorem dX2_first_11 : decode cX2_first 11 = .ok (.istore 4, 2) := by decide +kernel
theorem dX2_first_13 : decode cX2_first 13 = .ok (.iload 4, 2) := by decide +kernel
theorem dX2_first_15 : decode cX2_first 15 = .ok (.iconst 2, 1) := by decide +kernel
theorem dX2_first_16 : decode cX2_first 16 = .ok (.aload_n 1, 1) := by decide +kernel
theorem dX2_first_17 : decode cX2_first 17 = .ok (.getfield 32, 3) := by decide +kernel
theorem dX2_first_20 : decode cX2_first 20 = .ok (.imul, 1) := by decide +kernel
theorem dX2_first_21 : decode cX2_first 21 = .ok (.if_icmp .ge 94, 3) := by decide +kernel
theorem dX2_first_24 : decode cX2_first 24 = .ok (.aload_n 1, 1) := by decide +kernel
theorem dX2_first_25 : decode cX2_first 25 = .ok (.iload 4, 2) := by decide +kernel
theorem dX2_first_27 : decode cX2_first 27 = .ok (.invokevirtual 35, 3) := by decide +kernel
theorem dX2_first_30 : decode cX2_first 30 = .ok (.ifCond .ne 6, 3) := by decide +kernel
theorem dX2_first_33 : decode cX2_first 33 = .ok (.goto 76, 3) := by decide +kernel
theorem dX2_first_36 : decode cX2_first 36 = .ok (.aload_n 0, 1) := by decide +kernel
theorem dX2_first_37 : decode cX2_first 37 = .ok (.aload_n 0, 1) := by decide +kernel
theorem dX2_first_38 : decode cX2_first 38 = .ok (.getfield 15, 3) := by decide +kernel
theorem dX2_first_41 : decode cX2_first 41 = .ok (.iload_n 3, 1) := by decide +kernel
theorem dX2_first_42 : decode cX2_first 42 = .ok (.aaload, 1) := by decide +kernel
theorem dX2_first_43 : decode cX2_first 43 = .ok (.aload_n 1, 1) := by decide +kernel
theorem dX2_first_44 : decode cX2_first 44 = .ok (.iload_n 2, 1) := by decide +kernel
theorem dX2_first_45 : decode cX2_first 45 = .ok (.iload 4, 2) := by decide +kernel
theorem dX2_first_47 : decode cX2_first 47 = .ok (.invokevirtual 39, 3) := by decide +kernel
theorem dX2_first_50 : decode cX2_first 50 = .ok (.aload_n 0, 1) := by decide +kernel
theorem dX2_first_51 : decode cX2_first 51 = .ok (.iload_n 3, 1) := by decide +kernel
theorem dX2_first_52 : decode cX2_first 52 = .ok (.invokevirtual 43, 3) := by decide +kernel
theorem dX2_first_55 : decode cX2_first 55 = .ok (.aload_n 0, 1) := by decide +kernel
theorem dX2_first_56 : decode cX2_first 56 = .ok (.aload_n 0, 1) := by decide +kernel
theorem dX2_first_57 : decode cX2_first 57 = .ok (.getfield 15, 3) := by decide +kernel
theorem dX2_first_60 : decode cX2_first 60 = .ok (.iload_n 3, 1) := by decide +kernel
theorem dX2_first_61 : decode cX2_first 61 = .ok (.aaload, 1) := by decide +kernel
theorem dX2_first_62 : decode cX2_first 62 = .ok (.invokevirtual 47, 3) := by decide +kernel
theorem dX2_first_65 : decode cX2_first 65 = .ok (.istore 5, 2) := by decide +kernel
theorem dX2_first_67 : decode cX2_first 67 = .ok (.iload 5, 2) := by decide +kernel
theorem dX2_first_69 : decode cX2_first 69 = .ok (.aload_n 0, 1) := by decide +kernel
theorem dX2_first_70 : decode cX2_first 70 = .ok (.getfield 28, 3) := by decide +kernel
theorem dX2_first_73 : decode cX2_first 73 = .ok (.if_icmp .ge 17, 3) := by decide +kernel
theorem dX2_first_76 : decode cX2_first 76 = .ok (.aload_n 0, 1) := by decide +kernel
theorem dX2_first_77 : decode cX2_first 77 = .ok (.getfield 18, 3) := by decide +kernel
theorem dX2_first_80 : decode cX2_first 80 = .ok (.iload_n 3, 1) := by decide +kernel
theorem dX2_first_81 : decode cX2_first 81 = .ok (.iload 5, 2) := by decide +kernel
theorem dX2_first_83 : decode cX2_first 83 = .ok (.iastore, 1) := by decide +kernel
theorem dX2_first_84 : decode cX2_first 84 = .ok (.iinc 3 1, 3) := by decide +kernel
theorem dX2_first_87 : decode cX2_first 87 = .ok (.goto 22, 3) := by decide +kernel
theorem dX2_first_90 : decode cX2_first 90 = .ok (.aload_n 0, 1) := by decide +kernel
theorem dX2_first_91 : decode cX2_first 91 = .ok (.getfield 15, 3) := by decide +kernel
theorem dX2_first_94 : decode cX2_first 94 = .ok (.iload_n 3, 1) := by decide +kernel
theorem dX2_first_95 : decode cX2_first 95 = .ok (.aaload, 1) := by decide +kernel
theorem dX2_first_96 : decode cX2_first 96 = .ok (.aload_n 0, 1) := by decide +kernel
theorem dX2_first_97 : decode cX2_first 97 = .ok (.getfield 28, 3) := by decide +kernel
theorem dX2_first_100 : decode cX2_first 100 = .ok (.laload, 1) := by decide +kernel
theorem dX2_first_101 : decode cX2_first 101 = .ok (.lconst 0, 1) := by decide +kernel
theorem dX2_first_102 : decode cX2_first 102 = .ok (.lcmp, 1) := by decide +kernel
theorem dX2_first_103 : decode cX2_first 103 = .ok (.ifCond .eq 6, 3) := by decide +kernel
theorem dX2_first_106 : decode cX2_first 106 = .ok (.iload 4, 2) := by decide +kernel
theorem dX2_first_108 : decode cX2_first 108 = .ok (.ireturn, 1) := by decide +kernel
theorem dX2_first_109 : decode cX2_first 109 = .ok (.iinc 4 1, 3) := by decide +kernel
theorem dX2_first_112 : decode cX2_first 112 = .ok (.goto (-99), 3) := by decide +kernel
theorem dX2_first_115 : decode cX2_first 115 = .ok (.iconst (-1), 1) := by decide +kernel
theorem dX2_first_116 : decode cX2_first 116 = .ok (.ireturn, 1) := by decide +kernel
theorem dX2_lay_0 : decode cX2_lay 0 = .ok (.iconst 0, 1) := by decide +kernel
theorem dX2_lay_1 : decode cX2_lay 1 = .ok (.istore 5, 2) := by decide +kernel
theorem dX2_lay_3 : decode cX2_lay 3 = .ok (.iload 5, 2) := by decide +kernel
theorem dX2_lay_5 : decode cX2_lay 5 = .ok (.aload_n 0, 1) := by decide +kernel
theorem dX2_lay_6 : decode cX2_lay 6 = .ok (.getfield 28, 3) := by decide +kernel
theorem dX2_lay_9 : decode cX2_lay 9 = .ok (.if_icmp .ge 35, 3) := by decide +kernel
theorem dX2_lay_12 : decode cX2_lay 12 = .ok (.aload_n 1, 1) := by decide +kernel
theorem dX2_lay_13 : decode cX2_lay 13 = .ok (.iload 5, 2) := by decide +kernel
theorem dX2_lay_15 : decode cX2_lay 15 = .ok (.iload_n 3, 1) := by decide +kernel
theorem dX2_lay_16 : decode cX2_lay 16 = .ok (.iload 5, 2) := by decide +kernel
theorem dX2_lay_18 : decode cX2_lay 18 = .ok (.ishr, 1) := by decide +kernel
theorem dX2_lay_19 : decode cX2_lay 19 = .ok (.iconst 1, 1) := by decide +kernel
theorem dX2_lay_20 : decode cX2_lay 20 = .ok (.iand, 1) := by decide +kernel
theorem dX2_lay_21 : decode cX2_lay 21 = .ok (.ifCond .ne 7, 3) := by decide +kernel
theorem dX2_lay_24 : decode cX2_lay 24 = .ok (.lconst 0, 1) := by decide +kernel
theorem dX2_lay_25 : decode cX2_lay 25 = .ok (.goto 12, 3) := by decide +kernel
theorem dX2_lay_28 : decode cX2_lay 28 = .ok (.aload_n 2, 1) := by decide +kernel
theorem dX2_lay_29 : decode cX2_lay 29 = .ok (.iload 5, 2) := by decide +kernel
theorem dX2_lay_31 : decode cX2_lay 31 = .ok (.iload 4, 2) := by decide +kernel
theorem dX2_lay_33 : decode cX2_lay 33 = .ok (.invokevirtual 51, 3) := by decide +kernel
theorem dX2_lay_36 : decode cX2_lay 36 = .ok (.i2l, 1) := by decide +kernel
theorem dX2_lay_37 : decode cX2_lay 37 = .ok (.lastore, 1) := by decide +kernel
theorem dX2_lay_38 : decode cX2_lay 38 = .ok (.iinc 5 1, 3) := by decide +kernel
theorem dX2_lay_41 : decode cX2_lay 41 = .ok (.goto (-38), 3) := by decide +kernel
theorem dX2_lay_44 : decode cX2_lay 44 = .ok (.aload_n 1, 1) := by decide +kernel
theorem dX2_lay_45 : decode cX2_lay 45 = .ok (.aload_n 0, 1) := by decide +kernel
theorem dX2_lay_46 : decode cX2_lay 46 = .ok (.getfield 28, 3) := by decide +kernel
theorem dX2_lay_49 : decode cX2_lay 49 = .ok (.aload_n 2, 1) := by decide +kernel
theorem dX2_lay_50 : decode cX2_lay 50 = .ok (.getfield 55, 3) := by decide +kernel
theorem dX2_lay_53 : decode cX2_lay 53 = .ok (.iload 4, 2) := by decide +kernel
theorem dX2_lay_55 : decode cX2_lay 55 = .ok (.iaload, 1) := by decide +kernel
theorem dX2_lay_56 : decode cX2_lay 56 = .ok (.ineg, 1) := by decide +kernel
theorem dX2_lay_57 : decode cX2_lay 57 = .ok (.i2l, 1) := by decide +kernel
theorem dX2_lay_58 : decode cX2_lay 58 = .ok (.lastore, 1) := by decide +kernel
theorem dX2_lay_59 : decode cX2_lay 59 = .ok (.return_, 1) := by decide +kernel
theorem dX2_reduce_0 : decode cX2_reduce 0 = .ok (.aload_n 0, 1) := by decide +kernel
theorem dX2_reduce_1 : decode cX2_reduce 1 = .ok (.getfield 15, 3) := by decide +kernel
theorem dX2_reduce_4 : decode cX2_reduce 4 = .ok (.iload_n 1, 1) := by decide +kernel
theorem dX2_reduce_5 : decode cX2_reduce 5 = .ok (.aaload, 1) := by decide +kernel
theorem dX2_reduce_6 : decode cX2_reduce 6 = .ok (.astore_n 2, 1) := by decide +kernel
theorem dX2_reduce_7 : decode cX2_reduce 7 = .ok (.lconst 1, 1) := by decide +kernel
theorem dX2_reduce_8 : decode cX2_reduce 8 = .ok (.lstore_n 3, 1) := by decide +kernel
theorem dX2_reduce_9 : decode cX2_reduce 9 = .ok (.iconst 0, 1) := by decide +kernel
theorem dX2_reduce_10 : decode cX2_reduce 10 = .ok (.istore 5, 2) := by decide +kernel
theorem dX2_reduce_12 : decode cX2_reduce 12 = .ok (.iload 5, 2) := by decide +kernel
theorem dX2_reduce_14 : decode cX2_reduce 14 = .ok (.iload_n 1, 1) := by decide +kernel
theorem dX2_reduce_15 : decode cX2_reduce 15 = .ok (.if_icmp .ge 90, 3) := by decide +kernel
theorem dX2_reduce_18 : decode cX2_reduce 18 = .ok (.lload_n 3, 1) := by decide +kernel
theorem dX2_reduce_19 : decode cX2_reduce 19 = .ok (.lconst 0, 1) := by decide +kernel
theorem dX2_reduce_20 : decode cX2_reduce 20 = .ok (.lcmp, 1) := by decide +kernel
theorem dX2_reduce_21 : decode cX2_reduce 21 = .ok (.ifCond .eq 84, 3) := by decide +kernel
theorem dX2_reduce_24 : decode cX2_reduce 24 = .ok (.aload_n 0, 1) := by decide +kernel
theorem dX2_reduce_25 : decode cX2_reduce 25 = .ok (.getfield 15, 3) := by decide +kernel
theorem dX2_reduce_28 : decode cX2_reduce 28 = .ok (.iload 5, 2) := by decide +kernel
theorem dX2_reduce_30 : decode cX2_reduce 30 = .ok (.aaload, 1) := by decide +kernel
theorem dX2_reduce_31 : decode cX2_reduce 31 = .ok (.astore 6, 2) := by decide +kernel
theorem dX2_reduce_33 : decode cX2_reduce 33 = .ok (.aload 6, 2) := by decide +kernel
theorem dX2_reduce_35 : decode cX2_reduce 35 = .ok (.aload_n 0, 1) := by decide +kernel
theorem dX2_reduce_36 : decode cX2_reduce 36 = .ok (.getfield 18, 3) := by decide +kernel
theorem dX2_reduce_39 : decode cX2_reduce 39 = .ok (.iload 5, 2) := by decide +kernel
theorem dX2_reduce_41 : decode cX2_reduce 41 = .ok (.iaload, 1) := by decide +kernel
theorem dX2_reduce_42 : decode cX2_reduce 42 = .ok (.laload, 1) := by decide +kernel
theorem dX2_reduce_43 : decode cX2_reduce 43 = .ok (.lstore 7, 2) := by decide +kernel
theorem dX2_reduce_45 : decode cX2_reduce 45 = .ok (.aload_n 2, 1) := by decide +kernel
theorem dX2_reduce_46 : decode cX2_reduce 46 = .ok (.aload_n 0, 1) := by decide +kernel
theorem dX2_reduce_47 : decode cX2_reduce 47 = .ok (.getfield 18, 3) := by decide +kernel
theorem dX2_reduce_50 : decode cX2_reduce 50 = .ok (.iload 5, 2) := by decide +kernel
theorem dX2_reduce_52 : decode cX2_reduce 52 = .ok (.iaload, 1) := by decide +kernel
theorem dX2_reduce_53 : decode cX2_reduce 53 = .ok (.laload, 1) := by decide +kernel
theorem dX2_reduce_54 : decode cX2_reduce 54 = .ok (.lstore 9, 2) := by decide +kernel
theorem dX2_reduce_56 : decode cX2_reduce 56 = .ok (.iconst 0, 1) := by decide +kernel
theorem dX2_reduce_57 : decode cX2_reduce 57 = .ok (.istore 11, 2) := by decide +kernel
theorem dX2_reduce_59 : decode cX2_reduce 59 = .ok (.iload 11, 2) := by decide +kernel
theorem dX2_reduce_61 : decode cX2_reduce 61 = .ok (.aload_n 0, 1) := by decide +kernel
theorem dX2_reduce_62 : decode cX2_reduce 62 = .ok (.getfield 28, 3) := by decide +kernel
theorem dX2_reduce_65 : decode cX2_reduce 65 = .ok (.if_icmp .gt 31, 3) := by decide +kernel
theorem dX2_reduce_68 : decode cX2_reduce 68 = .ok (.aload_n 2, 1) := by decide +kernel
theorem dX2_reduce_69 : decode cX2_reduce 69 = .ok (.iload 11, 2) := by decide +kernel
theorem dX2_reduce_71 : decode cX2_reduce 71 = .ok (.lload 7, 2) := by decide +kernel
theorem dX2_reduce_73 : decode cX2_reduce 73 = .ok (.aload_n 2, 1) := by decide +kernel
theorem dX2_reduce_74 : decode cX2_reduce 74 = .ok (.iload 11, 2) := by decide +kernel
theorem dX2_reduce_76 : decode cX2_reduce 76 = .ok (.laload, 1) := by decide +kernel
theorem dX2_reduce_77 : decode cX2_reduce 77 = .ok (.lmul, 1) := by decide +kernel
theorem dX2_reduce_78 : decode cX2_reduce 78 = .ok (.lload 9, 2) := by decide +kernel
theorem dX2_reduce_80 : decode cX2_reduce 80 = .ok (.aload 6, 2) := by decide +kernel
theorem dX2_reduce_82 : decode cX2_reduce 82 = .ok (.iload 11, 2) := by decide +kernel
theorem dX2_reduce_84 : decode cX2_reduce 84 = .ok (.laload, 1) := by decide +kernel
theorem dX2_reduce_85 : decode cX2_reduce 85 = .ok (.lmul, 1) := by decide +kernel
theorem dX2_reduce_86 : decode cX2_reduce 86 = .ok (.lsub, 1) := by decide +kernel
theorem dX2_reduce_87 : decode cX2_reduce 87 = .ok (.lload_n 3, 1) := by decide +kernel
theorem dX2_reduce_88 : decode cX2_reduce 88 = .ok (.ldiv, 1) := by decide +kernel
theorem dX2_reduce_89 : decode cX2_reduce 89 = .ok (.lastore, 1) := by decide +kernel
theorem dX2_reduce_90 : decode cX2_reduce 90 = .ok (.iinc 11 1, 3) := by decide +kernel
theorem dX2_reduce_93 : decode cX2_reduce 93 = .ok (.goto (-34), 3) := by decide +kernel
theorem dX2_reduce_96 : decode cX2_reduce 96 = .ok (.lload 7, 2) := by decide +kernel
theorem dX2_reduce_98 : decode cX2_reduce 98 = .ok (.lstore_n 3, 1) := by decide +kernel
theorem dX2_reduce_99 : decode cX2_reduce 99 = .ok (.iinc 5 1, 3) := by decide +kernel
theorem dX2_reduce_102 : decode cX2_reduce 102 = .ok (.goto (-90), 3) := by decide +kernel
theorem dX2_reduce_105 : decode cX2_reduce 105 = .ok (.return_, 1) := by decide +kernel
theorem dX2_firstOther_0 : decode cX2_firstOther 0 = .ok (.iconst 0, 1) := by decide +kernel
theorem dX2_firstOther_1 : decode cX2_firstOther 1 = .ok (.istore_n 2, 1) := by decide +kernel
theorem dX2_firstOther_2 : decode cX2_firstOther 2 = .ok (.iload_n 2, 1) := by decide +kernel
theorem dX2_firstOther_3 : decode cX2_firstOther 3 = .ok (.aload_n 0, 1) := by decide +kernel
theorem dX2_firstOther_4 : decode cX2_firstOther 4 = .ok (.getfield 28, 3) := by decide +kernel
theorem dX2_firstOther_7 : decode cX2_firstOther 7 = .ok (.if_icmp .ge 17, 3) := by decide +kernel
theorem dX2_firstOther_10 : decode cX2_firstOther 10 = .ok (.aload_n 1, 1) := by decide +kernel
theorem dX2_firstOther_11 : decode cX2_firstOther 11 = .ok (.iload_n 2, 1) := by decide +kernel
theorem dX2_firstOther_12 : decode cX2_firstOther 12 = .ok (.laload, 1) := by decide +kernel
theorem dX2_firstOther_13 : decode cX2_firstOther 13 = .ok (.lconst 0, 1) := by decide +kernel
theorem dX2_firstOther_14 : decode cX2_firstOther 14 = .ok (.lcmp, 1) := by decide +kernel
theorem dX2_firstOther_15 : decode cX2_firstOther 15 = .ok (.ifCond .ne 9, 3) := by decide +kernel
theorem dX2_firstOther_18 : decode cX2_firstOther 18 = .ok (.iinc 2 1, 3) := by decide +kernel
theorem dX2_firstOther_21 : decode cX2_firstOther 21 = .ok (.goto (-19), 3) := by decide +kernel
theorem dX2_firstOther_24 : decode cX2_firstOther 24 = .ok (.iload_n 2, 1) := by decide +kernel
theorem dX2_firstOther_25 : decode cX2_firstOther 25 = .ok (.ireturn, 1) := by decide +kernel
theorem dX3_init_0 : decode cX3_init 0 = .ok (.aload_n 0, 1) := by decide +kernel
theorem dX3_init_1 : decode cX3_init 1 = .ok (.invokespecial 3, 3) := by decide +kernel
theorem dX3_init_4 : decode cX3_init 4 = .ok (.aload_n 0, 1) := by decide +kernel
theorem dX3_init_5 : decode cX3_init 5 = .ok (.bipush 10, 2) := by decide +kernel
theorem dX3_init_7 : decode cX3_init 7 = .ok (.newarray .int, 2) := by decide +kernel
theorem dX3_init_9 : decode cX3_init 9 = .ok (.putfield 9, 3) := by decide +kernel
theorem dX3_init_12 : decode cX3_init 12 = .ok (.aload_n 0, 1) := by decide +kernel
theorem dX3_init_13 : decode cX3_init 13 = .ok (.iconst 5, 1) := by decide +kernel
theorem dX3_init_14 : decode cX3_init 14 = .ok (.newarray .int, 2) := by decide +kernel
theorem dX3_init_16 : decode cX3_init 16 = .ok (.putfield 15, 3) := by decide +kernel
theorem dX3_init_19 : decode cX3_init 19 = .ok (.aload_n 0, 1) := by decide +kernel
theorem dX3_init_20 : decode cX3_init 20 = .ok (.bipush 10, 2) := by decide +kernel
theorem dX3_init_22 : decode cX3_init 22 = .ok (.newarray .int, 2) := by decide +kernel
theorem dX3_init_24 : decode cX3_init 24 = .ok (.putfield 18, 3) := by decide +kernel
theorem dX3_init_27 : decode cX3_init 27 = .ok (.aload_n 0, 1) := by decide +kernel
theorem dX3_init_28 : decode cX3_init 28 = .ok (.bipush 10, 2) := by decide +kernel
theorem dX3_init_30 : decode cX3_init 30 = .ok (.newarray .int, 2) := by decide +kernel
theorem dX3_init_32 : decode cX3_init 32 = .ok (.putfield 21, 3) := by decide +kernel
theorem dX3_init_35 : decode cX3_init 35 = .ok (.aload_n 0, 1) := by decide +kernel
theorem dX3_init_36 : decode cX3_init 36 = .ok (.bipush 20, 2) := by decide +kernel
theorem dX3_init_38 : decode cX3_init 38 = .ok (.newarray .int, 2) := by decide +kernel
theorem dX3_init_40 : decode cX3_init 40 = .ok (.putfield 24, 3) := by decide +kernel
theorem dX3_init_43 : decode cX3_init 43 = .ok (.aload_n 0, 1) := by decide +kernel
theorem dX3_init_44 : decode cX3_init 44 = .ok (.bipush 10, 2) := by decide +kernel
theorem dX3_init_46 : decode cX3_init 46 = .ok (.newarray .int, 2) := by decide +kernel
theorem dX3_init_48 : decode cX3_init 48 = .ok (.putfield 27, 3) := by decide +kernel
theorem dX3_init_51 : decode cX3_init 51 = .ok (.return_, 1) := by decide +kernel
theorem dX3_hasPoint_0 : decode cX3_hasPoint 0 = .ok (.iload_n 1, 1) := by decide +kernel
theorem dX3_hasPoint_1 : decode cX3_hasPoint 1 = .ok (.ifCond .lt 15, 3) := by decide +kernel
theorem dX3_hasPoint_4 : decode cX3_hasPoint 4 = .ok (.iload_n 1, 1) := by decide +kernel
theorem dX3_hasPoint_5 : decode cX3_hasPoint 5 = .ok (.aload_n 0, 1) := by decide +kernel
theorem dX3_hasPoint_6 : decode cX3_hasPoint 6 = .ok (.getfield 30, 3) := by decide +kernel
theorem dX3_hasPoint_9 : decode cX3_hasPoint 9 = .ok (.if_icmp .ge 7, 3) := by decide +kernel
theorem dX3_hasPoint_12 : decode cX3_hasPoint 12 = .ok (.iconst 1, 1) := by decide +kernel
theorem dX3_hasPoint_13 : decode cX3_hasPoint 13 = .ok (.goto 4, 3) := by decide +kernel
theorem dX3_hasPoint_16 : decode cX3_hasPoint 16 = .ok (.iconst 0, 1) := by decide +kernel
theorem dX3_hasPoint_17 : decode cX3_hasPoint 17 = .ok (.ireturn, 1) := by decide +kernel
theorem dX3_isTaken_0 : decode cX3_isTaken 0 = .ok (.iconst 0, 1) := by decide +kernel
theorem dX3_isTaken_1 : decode cX3_isTaken 1 = .ok (.istore_n 3, 1) := by decide +kernel
theorem dX3_isTaken_2 : decode cX3_isTaken 2 = .ok (.iload_n 3, 1) := by decide +kernel
theorem dX3_isTaken_3 : decode cX3_isTaken 3 = .ok (.aload_n 0, 1) := by decide +kernel
theorem dX3_isTaken_4 : decode cX3_isTaken 4 = .ok (.getfield 30, 3) := by decide +kernel
theorem dX3_isTaken_7 : decode cX3_isTaken 7 = .ok (.if_icmp .ge 37, 3) := by decide +kernel
theorem dX3_isTaken_10 : decode cX3_isTaken 10 = .ok (.aload_n 0, 1) := by decide +kernel
theorem dX3_isTaken_11 : decode cX3_isTaken 11 = .ok (.getfield 9, 3) := by decide +kernel
theorem dX3_isTaken_14 : decode cX3_isTaken 14 = .ok (.iconst 2, 1) := by decide +kernel
theorem dX3_isTaken_15 : decode cX3_isTaken 15 = .ok (.iload_n 3, 1) := by decide +kernel
theorem dX3_isTaken_16 : decode cX3_isTaken 16 = .ok (.imul, 1) := by decide +kernel
theorem dX3_isTaken_17 : decode cX3_isTaken 17 = .ok (.iaload, 1) := by decide +kernel
theorem dX3_isTaken_18 : decode cX3_isTaken 18 = .ok (.iload_n 1, 1) := by decide +kernel
theorem dX3_isTaken_19 : decode cX3_isTaken 19 = .ok (.if_icmp .ne 19, 3) := by decide +kernel
theorem dX3_isTaken_22 : decode cX3_isTaken 22 = .ok (.aload_n 0, 1) := by decide +kernel
theorem dX3_isTaken_23 : decode cX3_isTaken 23 = .ok (.getfield 9, 3) := by decide +kernel
theorem dX3_isTaken_26 : decode cX3_isTaken 26 = .ok (.iconst 2, 1) := by decide +kernel
theorem dX3_isTaken_27 : decode cX3_isTaken 27 = .ok (.iload_n 3, 1) := by decide +kernel
theorem dX3_isTaken_28 : decode cX3_isTaken 28 = .ok (.imul, 1) := by decide +kernel
theorem dX3_isTaken_29 : decode cX3_isTaken 29 = .ok (.iconst 1, 1) := by decide +kernel
theorem dX3_isTaken_30 : decode cX3_isTaken 30 = .ok (.iadd, 1) := by decide +kernel
theorem dX3_isTaken_31 : decode cX3_isTaken 31 = .ok (.iaload, 1) := by decide +kernel
theorem dX3_isTaken_32 : decode cX3_isTaken 32 = .ok (.iload_n 2, 1) := by decide +kernel
theorem dX3_isTaken_33 : decode cX3_isTaken 33 = .ok (.if_icmp .ne 5, 3) := by decide +kernel
theorem dX3_isTaken_36 : decode cX3_isTaken 36 = .ok (.iconst 1, 1) := by decide +kernel
theorem dX3_isTaken_37 : decode cX3_isTaken 37 = .ok (.ireturn, 1) := by decide +kernel
theorem dX3_isTaken_38 : decode cX3_isTaken 38 = .ok (.iinc 3 1, 3) := by decide +kernel
theorem dX3_isTaken_41 : decode cX3_isTaken 41 = .ok (.goto (-39), 3) := by decide +kernel
theorem dX3_isTaken_44 : decode cX3_isTaken 44 = .ok (.iconst 0, 1) := by decide +kernel
theorem dX3_isTaken_45 : decode cX3_isTaken 45 = .ok (.ireturn, 1) := by decide +kernel
theorem dX3_add_0 : decode cX3_add 0 = .ok (.aload_n 0, 1) := by decide +kernel
theorem dX3_add_1 : decode cX3_add 1 = .ok (.getfield 30, 3) := by decide +kernel
theorem dX3_add_4 : decode cX3_add 4 = .ok (.istore_n 3, 1) := by decide +kernel
theorem dX3_add_5 : decode cX3_add 5 = .ok (.aload_n 0, 1) := by decide +kernel
theorem dX3_add_6 : decode cX3_add 6 = .ok (.getfield 9, 3) := by decide +kernel
theorem dX3_add_9 : decode cX3_add 9 = .ok (.iconst 2, 1) := by decide +kernel
theorem dX3_add_10 : decode cX3_add 10 = .ok (.iload_n 3, 1) := by decide +kernel
theorem dX3_add_11 : decode cX3_add 11 = .ok (.imul, 1) := by decide +kernel
theorem dX3_add_12 : decode cX3_add 12 = .ok (.iload_n 1, 1) := by decide +kernel
theorem dX3_add_13 : decode cX3_add 13 = .ok (.iastore, 1) := by decide +kernel
theorem dX3_add_14 : decode cX3_add 14 = .ok (.aload_n 0, 1) := by decide +kernel
theorem dX3_add_15 : decode cX3_add 15 = .ok (.getfield 9, 3) := by decide +kernel
theorem dX3_add_18 : decode cX3_add 18 = .ok (.iconst 2, 1) := by decide +kernel
theorem dX3_add_19 : decode cX3_add 19 = .ok (.iload_n 3, 1) := by decide +kernel
theorem dX3_add_20 : decode cX3_add 20 = .ok (.imul, 1) := by decide +kernel
theorem dX3_add_21 : decode cX3_add 21 = .ok (.iconst 1, 1) := by decide +kernel
theorem dX3_add_22 : decode cX3_add 22 = .ok (.iadd, 1) := by decide +kernel
theorem dX3_add_23 : decode cX3_add 23 = .ok (.iload_n 2, 1) := by decide +kernel
theorem dX3_add_24 : decode cX3_add 24 = .ok (.iastore, 1) := by decide +kernel
theorem dX3_add_25 : decode cX3_add 25 = .ok (.aload_n 0, 1) := by decide +kernel
theorem dX3_add_26 : decode cX3_add 26 = .ok (.getfield 15, 3) := by decide +kernel
theorem dX3_add_29 : decode cX3_add 29 = .ok (.iload_n 3, 1) := by decide +kernel
theorem dX3_add_30 : decode cX3_add 30 = .ok (.iconst 0, 1) := by decide +kernel
theorem dX3_add_31 : decode cX3_add 31 = .ok (.iastore, 1) := by decide +kernel
theorem dX3_add_32 : decode cX3_add 32 = .ok (.iconst 2, 1) := by decide +kernel
theorem dX3_add_33 : decode cX3_add 33 = .ok (.iload_n 3, 1) := by decide +kernel
theorem dX3_add_34 : decode cX3_add 34 = .ok (.imul, 1) := by decide +kernel
theorem dX3_add_35 : decode cX3_add 35 = .ok (.istore 4, 2) := by decide +kernel
theorem dX3_add_37 : decode cX3_add 37 = .ok (.iload 4, 2) := by decide +kernel
theorem dX3_add_39 : decode cX3_add 39 = .ok (.iconst 2, 1) := by decide +kernel
theorem dX3_add_40 : decode cX3_add 40 = .ok (.iload_n 3, 1) := by decide +kernel
theorem dX3_add_41 : decode cX3_add 41 = .ok (.imul, 1) := by decide +kernel
theorem dX3_add_42 : decode cX3_add 42 = .ok (.iconst 2, 1) := by decide +kernel
theorem dX3_add_43 : decode cX3_add 43 = .ok (.iadd, 1) := by decide +kernel
theorem dX3_add_44 : decode cX3_add 44 = .ok (.if_icmp .ge 25, 3) := by decide +kernel
theorem dX3_add_47 : decode cX3_add 47 = .ok (.aload_n 0, 1) := by decide +kernel
theorem dX3_add_48 : decode cX3_add 48 = .ok (.getfield 18, 3) := by decide +kernel
theorem dX3_add_51 : decode cX3_add 51 = .ok (.iload 4, 2) := by decide +kernel
theorem dX3_add_53 : decode cX3_add 53 = .ok (.iconst 0, 1) := by decide +kernel
theorem dX3_add_54 : decode cX3_add 54 = .ok (.iastore, 1) := by decide +kernel
theorem dX3_add_55 : decode cX3_add 55 = .ok (.aload_n 0, 1) := by decide +kernel
theorem dX3_add_56 : decode cX3_add 56 = .ok (.getfield 21, 3) := by decide +kernel
theorem dX3_add_59 : decode cX3_add 59 = .ok (.iload 4, 2) := by decide +kernel
theorem dX3_add_61 : decode cX3_add 61 = .ok (.iconst 0, 1) := by decide +kernel
theorem dX3_add_62 : decode cX3_add 62 = .ok (.iastore, 1) := by decide +kernel
theorem dX3_add_63 : decode cX3_add 63 = .ok (.iinc 4 1, 3) := by decide +kernel
theorem dX3_add_66 : decode cX3_add 66 = .ok (.goto (-29), 3) := by decide +kernel
theorem dX3_add_69 : decode cX3_add 69 = .ok (.aload_n 0, 1) := by decide +kernel
theorem dX3_add_70 : decode cX3_add 70 = .ok (.invokevirtual 34, 3) := by decide +kernel
theorem dX3_add_73 : decode cX3_add 73 = .ok (.istore 4, 2) := by decide +kernel
theorem dX3_add_75 : decode cX3_add 75 = .ok (.aload_n 0, 1) := by decide +kernel
theorem dX3_add_76 : decode cX3_add 76 = .ok (.dup, 1) := by decide +kernel
theorem dX3_add_77 : decode cX3_add 77 = .ok (.getfield 30, 3) := by decide +kernel
theorem dX3_add_80 : decode cX3_add 80 = .ok (.iconst 1, 1) := by decide +kernel
theorem dX3_add_81 : decode cX3_add 81 = .ok (.iadd, 1) := by decide +kernel
theorem dX3_add_82 : decode cX3_add 82 = .ok (.putfield 30, 3) := by decide +kernel
theorem dX3_add_85 : decode cX3_add 85 = .ok (.iload 4, 2) := by decide +kernel
theorem dX3_add_87 : decode cX3_add 87 = .ok (.istore 5, 2) := by decide +kernel
theorem dX3_add_89 : decode cX3_add 89 = .ok (.iload 5, 2) := by decide +kernel
theorem dX3_add_91 : decode cX3_add 91 = .ok (.aload_n 0, 1) := by decide +kernel
theorem dX3_add_92 : decode cX3_add 92 = .ok (.invokevirtual 34, 3) := by decide +kernel
theorem dX3_add_95 : decode cX3_add 95 = .ok (.if_icmp .ge 15, 3) := by decide +kernel
theorem dX3_add_98 : decode cX3_add 98 = .ok (.aload_n 0, 1) := by decide +kernel
theorem dX3_add_99 : decode cX3_add 99 = .ok (.iload 5, 2) := by decide +kernel
theorem dX3_add_101 : decode cX3_add 101 = .ok (.invokevirtual 38, 3) := by decide +kernel
theorem dX3_add_104 : decode cX3_add 104 = .ok (.iinc 5 1, 3) := by decide +kernel
theorem dX3_add_107 : decode cX3_add 107 = .ok (.goto (-18), 3) := by decide +kernel
theorem dX3_add_110 : decode cX3_add 110 = .ok (.iload_n 3, 1) := by decide +kernel
theorem dX3_add_111 : decode cX3_add 111 = .ok (.ireturn, 1) := by decide +kernel
theorem dX3_measure_0 : decode cX3_measure 0 = .ok (.aload_n 0, 1) := by decide +kernel
theorem dX3_measure_1 : decode cX3_measure 1 = .ok (.getfield 9, 3) := by decide +kernel
theorem dX3_measure_4 : decode cX3_measure 4 = .ok (.iconst 2, 1) := by decide +kernel
theorem dX3_measure_5 : decode cX3_measure 5 = .ok (.getstatic 42, 3) := by decide +kernel
theorem dX3_measure_8 : decode cX3_measure 8 = .ok (.iload_n 1, 1) := by decide +kernel
theorem dX3_measure_9 : decode cX3_measure 9 = .ok (.iaload, 1) := by decide +kernel
theorem dX3_measure_10 : decode cX3_measure 10 = .ok (.imul, 1) := by decide +kernel
theorem dX3_measure_11 : decode cX3_measure 11 = .ok (.iaload, 1) := by decide +kernel
theorem dX3_measure_12 : decode cX3_measure 12 = .ok (.aload_n 0, 1) := by decide +kernel
theorem dX3_measure_13 : decode cX3_measure 13 = .ok (.getfield 9, 3) := by decide +kernel
theorem dX3_measure_16 : decode cX3_measure 16 = .ok (.iconst 2, 1) := by decide +kernel
theorem dX3_measure_17 : decode cX3_measure 17 = .ok (.getstatic 45, 3) := by decide +kernel
theorem dX3_measure_20 : decode cX3_measure 20 = .ok (.iload_n 1, 1) := by decide +kernel
theorem dX3_measure_21 : decode cX3_measure 21 = .ok (.iaload, 1) := by decide +kernel
theorem dX3_measure_22 : decode cX3_measure 22 = .ok (.imul, 1) := by decide +kernel
theorem dX3_measure_23 : decode cX3_measure 23 = .ok (.iaload, 1) := by decide +kernel
theorem dX3_measure_24 : decode cX3_measure 24 = .ok (.isub, 1) := by decide +kernel
theorem dX3_measure_25 : decode cX3_measure 25 = .ok (.istore_n 2, 1) := by decide +kernel
theorem dX3_measure_26 : decode cX3_measure 26 = .ok (.aload_n 0, 1) := by decide +kernel
theorem dX3_measure_27 : decode cX3_measure 27 = .ok (.getfield 9, 3) := by decide +kernel
theorem dX3_measure_30 : decode cX3_measure 30 = .ok (.iconst 2, 1) := by decide +kernel
theorem dX3_measure_31 : decode cX3_measure 31 = .ok (.getstatic 42, 3) := by decide +kernel
theorem dX3_measure_34 : decode cX3_measure 34 = .ok (.iload_n 1, 1) := by decide +kernel
theorem dX3_measure_35 : decode cX3_measure 35 = .ok (.iaload, 1) := by decide +kernel
theorem dX3_measure_36 : decode cX3_measure 36 = .ok (.imul, 1) := by decide +kernel
theorem dX3_measure_37 : decode cX3_measure 37 = .ok (.iconst 1, 1) := by decide +kernel
theorem dX3_measure_38 : decode cX3_measure 38 = .ok (.iadd, 1) := by decide +kernel
theorem dX3_measure_39 : decode cX3_measure 39 = .ok (.iaload, 1) := by decide +kernel
theorem dX3_measure_40 : decode cX3_measure 40 = .ok (.aload_n 0, 1) := by decide +kernel
theorem dX3_measure_41 : decode cX3_measure 41 = .ok (.getfield 9, 3) := by decide +kernel
theorem dX3_measure_44 : decode cX3_measure 44 = .ok (.iconst 2, 1) := by decide +kernel
theorem dX3_measure_45 : decode cX3_measure 45 = .ok (.getstatic 45, 3) := by decide +kernel
theorem dX3_measure_48 : decode cX3_measure 48 = .ok (.iload_n 1, 1) := by decide +kernel
theorem dX3_measure_49 : decode cX3_measure 49 = .ok (.iaload, 1) := by decide +kernel
theorem dX3_measure_50 : decode cX3_measure 50 = .ok (.imul, 1) := by decide +kernel
theorem dX3_measure_51 : decode cX3_measure 51 = .ok (.iconst 1, 1) := by decide +kernel
theorem dX3_measure_52 : decode cX3_measure 52 = .ok (.iadd, 1) := by decide +kernel
theorem dX3_measure_53 : decode cX3_measure 53 = .ok (.iaload, 1) := by decide +kernel
theorem dX3_measure_54 : decode cX3_measure 54 = .ok (.isub, 1) := by decide +kernel
theorem dX3_measure_55 : decode cX3_measure 55 = .ok (.istore_n 3, 1) := by decide +kernel
theorem dX3_measure_56 : decode cX3_measure 56 = .ok (.aload_n 0, 1) := by decide +kernel
theorem dX3_measure_57 : decode cX3_measure 57 = .ok (.getfield 24, 3) := by decide +kernel
theorem dX3_measure_60 : decode cX3_measure 60 = .ok (.iconst 2, 1) := by decide +kernel
theorem dX3_measure_61 : decode cX3_measure 61 = .ok (.iload_n 1, 1) := by decide +kernel
theorem dX3_measure_62 : decode cX3_measure 62 = .ok (.imul, 1) := by decide +kernel
theorem dX3_measure_63 : decode cX3_measure 63 = .ok (.iload_n 2, 1) := by decide +kernel
theorem dX3_measure_64 : decode cX3_measure 64 = .ok (.iastore, 1) := by decide +kernel
theorem dX3_measure_65 : decode cX3_measure 65 = .ok (.aload_n 0, 1) := by decide +kernel
theorem dX3_measure_66 : decode cX3_measure 66 = .ok (.getfield 24, 3) := by decide +kernel
theorem dX3_measure_69 : decode cX3_measure 69 = .ok (.iconst 2, 1) := by decide +kernel
theorem dX3_measure_70 : decode cX3_measure 70 = .ok (.iload_n 1, 1) := by decide +kernel
theorem dX3_measure_71 : decode cX3_measure 71 = .ok (.imul, 1) := by decide +kernel
theorem dX3_measure_72 : decode cX3_measure 72 = .ok (.iconst 1, 1) := by decide +kernel
theorem dX3_measure_73 : decode cX3_measure 73 = .ok (.iadd, 1) := by decide +kernel
theorem dX3_measure_74 : decode cX3_measure 74 = .ok (.iload_n 3, 1) := by decide +kernel
theorem dX3_measure_75 : decode cX3_measure 75 = .ok (.iastore, 1) := by decide +kernel
theorem dX3_measure_76 : decode cX3_measure 76 = .ok (.aload_n 0, 1) := by decide +kernel
theorem dX3_measure_77 : decode cX3_measure 77 = .ok (.getfield 27, 3) := by decide +kernel
theorem dX3_measure_80 : decode cX3_measure 80 = .ok (.iload_n 1, 1) := by decide +kernel
theorem dX3_measure_81 : decode cX3_measure 81 = .ok (.iload_n 2, 1) := by decide +kernel
theorem dX3_measure_82 : decode cX3_measure 82 = .ok (.iload_n 2, 1) := by decide +kernel
theorem dX3_measure_83 : decode cX3_measure 83 = .ok (.imul, 1) := by decide +kernel
theorem dX3_measure_84 : decode cX3_measure 84 = .ok (.iload_n 3, 1) := by decide +kernel
theorem dX3_measure_85 : decode cX3_measure 85 = .ok (.iload_n 3, 1) := by decide +kernel
theorem dX3_measure_86 : decode cX3_measure 86 = .ok (.imul, 1) := by decide +kernel
theorem dX3_measure_87 : decode cX3_measure 87 = .ok (.iadd, 1) := by decide +kernel
theorem dX3_measure_88 : decode cX3_measure 88 = .ok (.iastore, 1) := by decide +kernel
theorem dX3_measure_89 : decode cX3_measure 89 = .ok (.return_, 1) := by decide +kernel
theorem dX3_pairs_0 : decode cX3_pairs 0 = .ok (.aload_n 0, 1) := by decide +kernel
theorem dX3_pairs_1 : decode cX3_pairs 1 = .ok (.getfield 30, 3) := by decide +kernel
theorem dX3_pairs_4 : decode cX3_pairs 4 = .ok (.aload_n 0, 1) := by decide +kernel
theorem dX3_pairs_5 : decode cX3_pairs 5 = .ok (.getfield 30, 3) := by decide +kernel
theorem dX3_pairs_8 : decode cX3_pairs 8 = .ok (.iconst 1, 1) := by decide +kernel
theorem dX3_pairs_9 : decode cX3_pairs 9 = .ok (.isub, 1) := by decide +kernel
theorem dX3_pairs_10 : decode cX3_pairs 10 = .ok (.imul, 1) := by decide +kernel
theorem dX3_pairs_11 : decode cX3_pairs 11 = .ok (.iconst 2, 1) := by decide +kernel
theorem dX3_pairs_12 : decode cX3_pairs 12 = .ok (.idiv, 1) := by decide +kernel
theorem dX3_pairs_13 : decode cX3_pairs 13 = .ok (.ireturn, 1) := by decide +kernel
theorem dX3_everyPair_0 : decode cX3_everyPair 0 = .ok (.iconst 1, 1) := by decide +kernel
theorem dX3_everyPair_1 : decode cX3_everyPair 1 = .ok (.aload_n 0, 1) := by decide +kernel
theorem dX3_everyPair_2 : decode cX3_everyPair 2 = .ok (.invokevirtual 34, 3) := by decide +kernel
theorem dX3_everyPair_5 : decode cX3_everyPair 5 = .ok (.ishl, 1) := by decide +kernel
theorem dX3_everyPair_6 : decode cX3_everyPair 6 = .ok (.iconst 1, 1) := by decide +kernel
theorem dX3_everyPair_7 : decode cX3_everyPair 7 = .ok (.isub, 1) := by decide +kernel
theorem dX3_everyPair_8 : decode cX3_everyPair 8 = .ok (.ireturn, 1) := by decide +kernel
theorem dX3_hasPair_0 : decode cX3_hasPair 0 = .ok (.iload_n 1, 1) := by decide +kernel
theorem dX3_hasPair_1 : decode cX3_hasPair 1 = .ok (.ifCond .lt 15, 3) := by decide +kernel
theorem dX3_hasPair_4 : decode cX3_hasPair 4 = .ok (.iload_n 1, 1) := by decide +kernel
theorem dX3_hasPair_5 : decode cX3_hasPair 5 = .ok (.aload_n 0, 1) := by decide +kernel
theorem dX3_hasPair_6 : decode cX3_hasPair 6 = .ok (.invokevirtual 34, 3) := by decide +kernel
theorem dX3_hasPair_9 : decode cX3_hasPair 9 = .ok (.if_icmp .ge 7, 3) := by decide +kernel
theorem dX3_hasPair_12 : decode cX3_hasPair 12 = .ok (.iconst 1, 1) := by decide +kernel
theorem dX3_hasPair_13 : decode cX3_hasPair 13 = .ok (.goto 4, 3) := by decide +kernel
theorem dX3_hasPair_16 : decode cX3_hasPair 16 = .ok (.iconst 0, 1) := by decide +kernel
theorem dX3_hasPair_17 : decode cX3_hasPair 17 = .ok (.ireturn, 1) := by decide +kernel
theorem dX3_isFree_0 : decode cX3_isFree 0 = .ok (.aload_n 0, 1) := by decide +kernel
theorem dX3_isFree_1 : decode cX3_isFree 1 = .ok (.getfield 15, 3) := by decide +kernel
theorem dX3_isFree_4 : decode cX3_isFree 4 = .ok (.iload_n 1, 1) := by decide +kernel
theorem dX3_isFree_5 : decode cX3_isFree 5 = .ok (.iconst 2, 1) := by decide +kernel
theorem dX3_isFree_6 : decode cX3_isFree 6 = .ok (.idiv, 1) := by decide +kernel
theorem dX3_isFree_7 : decode cX3_isFree 7 = .ok (.iaload, 1) := by decide +kernel
theorem dX3_isFree_8 : decode cX3_isFree 8 = .ok (.iload_n 1, 1) := by decide +kernel
theorem dX3_isFree_9 : decode cX3_isFree 9 = .ok (.iconst 2, 1) := by decide +kernel
theorem dX3_isFree_10 : decode cX3_isFree 10 = .ok (.irem, 1) := by decide +kernel
theorem dX3_isFree_11 : decode cX3_isFree 11 = .ok (.ishr, 1) := by decide +kernel
theorem dX3_isFree_12 : decode cX3_isFree 12 = .ok (.iconst 1, 1) := by decide +kernel
theorem dX3_isFree_13 : decode cX3_isFree 13 = .ok (.iand, 1) := by decide +kernel
theorem dX3_isFree_14 : decode cX3_isFree 14 = .ok (.ifCond .ne 7, 3) := by decide +kernel
theorem dX3_isFree_17 : decode cX3_isFree 17 = .ok (.iconst 1, 1) := by decide +kernel
theorem dX3_isFree_18 : decode cX3_isFree 18 = .ok (.goto 4, 3) := by decide +kernel
theorem dX3_isFree_21 : decode cX3_isFree 21 = .ok (.iconst 0, 1) := by decide +kernel
theorem dX3_isFree_22 : decode cX3_isFree 22 = .ok (.ireturn, 1) := by decide +kernel
theorem dX3_ways_0 : decode cX3_ways 0 = .ok (.iconst 0, 1) := by decide +kernel
theorem dX3_ways_1 : decode cX3_ways 1 = .ok (.istore_n 1, 1) := by decide +kernel
theorem dX3_ways_2 : decode cX3_ways 2 = .ok (.iconst 0, 1) := by decide +kernel
theorem dX3_ways_3 : decode cX3_ways 3 = .ok (.istore_n 2, 1) := by decide +kernel
theorem dX3_ways_4 : decode cX3_ways 4 = .ok (.iload_n 2, 1) := by decide +kernel
theorem dX3_ways_5 : decode cX3_ways 5 = .ok (.iconst 2, 1) := by decide +kernel
theorem dX3_ways_6 : decode cX3_ways 6 = .ok (.aload_n 0, 1) := by decide +kernel
theorem dX3_ways_7 : decode cX3_ways 7 = .ok (.getfield 30, 3) := by decide +kernel
theorem dX3_ways_10 : decode cX3_ways 10 = .ok (.imul, 1) := by decide +kernel
theorem dX3_ways_11 : decode cX3_ways 11 = .ok (.if_icmp .ge 25, 3) := by decide +kernel
theorem dX3_ways_14 : decode cX3_ways 14 = .ok (.iload_n 1, 1) := by decide +kernel
theorem dX3_ways_15 : decode cX3_ways 15 = .ok (.aload_n 0, 1) := by decide +kernel
theorem dX3_ways_16 : decode cX3_ways 16 = .ok (.iload_n 2, 1) := by decide +kernel
theorem dX3_ways_17 : decode cX3_ways 17 = .ok (.invokevirtual 48, 3) := by decide +kernel
theorem dX3_ways_20 : decode cX3_ways 20 = .ok (.ifCond .eq 7, 3) := by decide +kernel
theorem dX3_ways_23 : decode cX3_ways 23 = .ok (.iconst 1, 1) := by decide +kernel
theorem dX3_ways_24 : decode cX3_ways 24 = .ok (.goto 4, 3) := by decide +kernel
theorem dX3_ways_27 : decode cX3_ways 27 = .ok (.iconst 0, 1) := by decide +kernel
theorem dX3_ways_28 : decode cX3_ways 28 = .ok (.iadd, 1) := by decide +kernel
theorem dX3_ways_29 : decode cX3_ways 29 = .ok (.istore_n 1, 1) := by decide +kernel
theorem dX3_ways_30 : decode cX3_ways 30 = .ok (.iinc 2 1, 3) := by decide +kernel
theorem dX3_ways_33 : decode cX3_ways 33 = .ok (.goto (-29), 3) := by decide +kernel
theorem dX3_ways_36 : decode cX3_ways 36 = .ok (.iload_n 1, 1) := by decide +kernel
theorem dX3_ways_37 : decode cX3_ways 37 = .ok (.ireturn, 1) := by decide +kernel
theorem dX3_brought_0 : decode cX3_brought 0 = .ok (.aload_n 0, 1) := by decide +kernel
theorem dX3_brought_1 : decode cX3_brought 1 = .ok (.getfield 24, 3) := by decide +kernel
theorem dX3_brought_4 : decode cX3_brought 4 = .ok (.iconst 2, 1) := by decide +kernel
theorem dX3_brought_5 : decode cX3_brought 5 = .ok (.iload_n 1, 1) := by decide +kernel
theorem dX3_brought_6 : decode cX3_brought 6 = .ok (.imul, 1) := by decide +kernel
theorem dX3_brought_7 : decode cX3_brought 7 = .ok (.iload_n 2, 1) := by decide +kernel
theorem dX3_brought_8 : decode cX3_brought 8 = .ok (.iconst 2, 1) := by decide +kernel
theorem dX3_brought_9 : decode cX3_brought 9 = .ok (.irem, 1) := by decide +kernel
theorem dX3_brought_10 : decode cX3_brought 10 = .ok (.iadd, 1) := by decide +kernel
theorem dX3_brought_11 : decode cX3_brought 11 = .ok (.iaload, 1) := by decide +kernel
theorem dX3_brought_12 : decode cX3_brought 12 = .ok (.istore_n 3, 1) := by decide +kernel
theorem dX3_brought_13 : decode cX3_brought 13 = .ok (.iload_n 2, 1) := by decide +kernel
theorem dX3_brought_14 : decode cX3_brought 14 = .ok (.iconst 2, 1) := by decide +kernel
theorem dX3_brought_15 : decode cX3_brought 15 = .ok (.idiv, 1) := by decide +kernel
theorem dX3_brought_16 : decode cX3_brought 16 = .ok (.getstatic 45, 3) := by decide +kernel
theorem dX3_brought_19 : decode cX3_brought 19 = .ok (.iload_n 1, 1) := by decide +kernel
theorem dX3_brought_20 : decode cX3_brought 20 = .ok (.iaload, 1) := by decide +kernel
theorem dX3_brought_21 : decode cX3_brought 21 = .ok (.if_icmp .ne 5, 3) := by decide +kernel
theorem dX3_brought_24 : decode cX3_brought 24 = .ok (.iload_n 3, 1) := by decide +kernel
theorem dX3_brought_25 : decode cX3_brought 25 = .ok (.ireturn, 1) := by decide +kernel
theorem dX3_brought_26 : decode cX3_brought 26 = .ok (.iload_n 2, 1) := by decide +kernel
theorem dX3_brought_27 : decode cX3_brought 27 = .ok (.iconst 2, 1) := by decide +kernel
theorem dX3_brought_28 : decode cX3_brought 28 = .ok (.idiv, 1) := by decide +kernel
theorem dX3_brought_29 : decode cX3_brought 29 = .ok (.getstatic 42, 3) := by decide +kernel
theorem dX3_brought_32 : decode cX3_brought 32 = .ok (.iload_n 1, 1) := by decide +kernel
theorem dX3_brought_33 : decode cX3_brought 33 = .ok (.iaload, 1) := by decide +kernel
theorem dX3_brought_34 : decode cX3_brought 34 = .ok (.if_icmp .ne 8, 3) := by decide +kernel
theorem dX3_brought_37 : decode cX3_brought 37 = .ok (.iload_n 3, 1) := by decide +kernel
theorem dX3_brought_38 : decode cX3_brought 38 = .ok (.ineg, 1) := by decide +kernel
theorem dX3_brought_39 : decode cX3_brought 39 = .ok (.goto 4, 3) := by decide +kernel
theorem dX3_brought_42 : decode cX3_brought 42 = .ok (.iconst 0, 1) := by decide +kernel
theorem dX3_brought_43 : decode cX3_brought 43 = .ok (.ireturn, 1) := by decide +kernel
theorem dX3_stretchParts_0 : decode cX3_stretchParts 0 = .ok (.iconst 0, 1) := by decide +kernel
theorem dX3_stretchParts_1 : decode cX3_stretchParts 1 = .ok (.istore_n 2, 1) := by decide +kernel
theorem dX3_stretchParts_2 : decode cX3_stretchParts 2 = .ok (.iconst 0, 1) := by decide +kernel
theorem dX3_stretchParts_3 : decode cX3_stretchParts 3 = .ok (.istore_n 3, 1) := by decide +kernel
theorem dX3_stretchParts_4 : decode cX3_stretchParts 4 = .ok (.iload_n 3, 1) := by decide +kernel
theorem dX3_stretchParts_5 : decode cX3_stretchParts 5 = .ok (.iconst 2, 1) := by decide +kernel
theorem dX3_stretchParts_6 : decode cX3_stretchParts 6 = .ok (.if_icmp .ge 54, 3) := by decide +kernel
theorem dX3_stretchParts_9 : decode cX3_stretchParts 9 = .ok (.aload_n 0, 1) := by decide +kernel
theorem dX3_stretchParts_10 : decode cX3_stretchParts 10 = .ok (.iconst 2, 1) := by decide +kernel
theorem dX3_stretchParts_11 : decode cX3_stretchParts 11 = .ok (.getstatic 42, 3) := by decide +kernel
theorem dX3_stretchParts_14 : decode cX3_stretchParts 14 = .ok (.iload_n 1, 1) := by decide +kernel
theorem dX3_stretchParts_15 : decode cX3_stretchParts 15 = .ok (.iaload, 1) := by decide +kernel
theorem dX3_stretchParts_16 : decode cX3_stretchParts 16 = .ok (.imul, 1) := by decide +kernel
theorem dX3_stretchParts_17 : decode cX3_stretchParts 17 = .ok (.iload_n 3, 1) := by decide +kernel
theorem dX3_stretchParts_18 : decode cX3_stretchParts 18 = .ok (.iadd, 1) := by decide +kernel
theorem dX3_stretchParts_19 : decode cX3_stretchParts 19 = .ok (.invokevirtual 52, 3) := by decide +kernel
theorem dX3_stretchParts_22 : decode cX3_stretchParts 22 = .ok (.aload_n 0, 1) := by decide +kernel
theorem dX3_stretchParts_23 : decode cX3_stretchParts 23 = .ok (.iconst 2, 1) := by decide +kernel
theorem dX3_stretchParts_24 : decode cX3_stretchParts 24 = .ok (.getstatic 45, 3) := by decide +kernel
theorem dX3_stretchParts_27 : decode cX3_stretchParts 27 = .ok (.iload_n 1, 1) := by decide +kernel
theorem dX3_stretchParts_28 : decode cX3_stretchParts 28 = .ok (.iaload, 1) := by decide +kernel
theorem dX3_stretchParts_29 : decode cX3_stretchParts 29 = .ok (.imul, 1) := by decide +kernel
theorem dX3_stretchParts_30 : decode cX3_stretchParts 30 = .ok (.iload_n 3, 1) := by decide +kernel
theorem dX3_stretchParts_31 : decode cX3_stretchParts 31 = .ok (.iadd, 1) := by decide +kernel
theorem dX3_stretchParts_32 : decode cX3_stretchParts 32 = .ok (.invokevirtual 52, 3) := by decide +kernel
theorem dX3_stretchParts_35 : decode cX3_stretchParts 35 = .ok (.isub, 1) := by decide +kernel
theorem dX3_stretchParts_36 : decode cX3_stretchParts 36 = .ok (.istore 4, 2) := by decide +kernel
theorem dX3_stretchParts_38 : decode cX3_stretchParts 38 = .ok (.iload_n 2, 1) := by decide +kernel
theorem dX3_stretchParts_39 : decode cX3_stretchParts 39 = .ok (.iload 4, 2) := by decide +kernel
theorem dX3_stretchParts_41 : decode cX3_stretchParts 41 = .ok (.aload_n 0, 1) := by decide +kernel
theorem dX3_stretchParts_42 : decode cX3_stretchParts 42 = .ok (.getfield 24, 3) := by decide +kernel
theorem dX3_stretchParts_45 : decode cX3_stretchParts 45 = .ok (.iconst 2, 1) := by decide +kernel
theorem dX3_stretchParts_46 : decode cX3_stretchParts 46 = .ok (.iload_n 1, 1) := by decide +kernel
theorem dX3_stretchParts_47 : decode cX3_stretchParts 47 = .ok (.imul, 1) := by decide +kernel
theorem dX3_stretchParts_48 : decode cX3_stretchParts 48 = .ok (.iload_n 3, 1) := by decide +kernel
theorem dX3_stretchParts_49 : decode cX3_stretchParts 49 = .ok (.iadd, 1) := by decide +kernel
theorem dX3_stretchParts_50 : decode cX3_stretchParts 50 = .ok (.iaload, 1) := by decide +kernel
theorem dX3_stretchParts_51 : decode cX3_stretchParts 51 = .ok (.imul, 1) := by decide +kernel
theorem dX3_stretchParts_52 : decode cX3_stretchParts 52 = .ok (.iadd, 1) := by decide +kernel
theorem dX3_stretchParts_53 : decode cX3_stretchParts 53 = .ok (.istore_n 2, 1) := by decide +kernel
theorem dX3_stretchParts_54 : decode cX3_stretchParts 54 = .ok (.iinc 3 1, 3) := by decide +kernel
theorem dX3_stretchParts_57 : decode cX3_stretchParts 57 = .ok (.goto (-53), 3) := by decide +kernel
theorem dX3_stretchParts_60 : decode cX3_stretchParts 60 = .ok (.iload_n 2, 1) := by decide +kernel
theorem dX3_stretchParts_61 : decode cX3_stretchParts 61 = .ok (.i2l, 1) := by decide +kernel
theorem dX3_stretchParts_62 : decode cX3_stretchParts 62 = .ok (.lreturn, 1) := by decide +kernel
theorem dX3_workParts_0 : decode cX3_workParts 0 = .ok (.iconst 0, 1) := by decide +kernel
theorem dX3_workParts_1 : decode cX3_workParts 1 = .ok (.istore_n 1, 1) := by decide +kernel
theorem dX3_workParts_2 : decode cX3_workParts 2 = .ok (.iconst 0, 1) := by decide +kernel
theorem dX3_workParts_3 : decode cX3_workParts 3 = .ok (.istore_n 2, 1) := by decide +kernel
theorem dX3_workParts_4 : decode cX3_workParts 4 = .ok (.iload_n 2, 1) := by decide +kernel
theorem dX3_workParts_5 : decode cX3_workParts 5 = .ok (.iconst 2, 1) := by decide +kernel
theorem dX3_workParts_6 : decode cX3_workParts 6 = .ok (.aload_n 0, 1) := by decide +kernel
theorem dX3_workParts_7 : decode cX3_workParts 7 = .ok (.getfield 30, 3) := by decide +kernel
theorem dX3_workParts_10 : decode cX3_workParts 10 = .ok (.imul, 1) := by decide +kernel
theorem dX3_workParts_11 : decode cX3_workParts 11 = .ok (.if_icmp .ge 24, 3) := by decide +kernel
theorem dX3_workParts_14 : decode cX3_workParts 14 = .ok (.iload_n 1, 1) := by decide +kernel
theorem dX3_workParts_15 : decode cX3_workParts 15 = .ok (.aload_n 0, 1) := by decide +kernel
theorem dX3_workParts_16 : decode cX3_workParts 16 = .ok (.getfield 18, 3) := by decide +kernel
theorem dX3_workParts_19 : decode cX3_workParts 19 = .ok (.iload_n 2, 1) := by decide +kernel
theorem dX3_workParts_20 : decode cX3_workParts 20 = .ok (.iaload, 1) := by decide +kernel
theorem dX3_workParts_21 : decode cX3_workParts 21 = .ok (.aload_n 0, 1) := by decide +kernel
theorem dX3_workParts_22 : decode cX3_workParts 22 = .ok (.iload_n 2, 1) := by decide +kernel
theorem dX3_workParts_23 : decode cX3_workParts 23 = .ok (.invokevirtual 52, 3) := by decide +kernel
theorem dX3_workParts_26 : decode cX3_workParts 26 = .ok (.imul, 1) := by decide +kernel
theorem dX3_workParts_27 : decode cX3_workParts 27 = .ok (.iadd, 1) := by decide +kernel
theorem dX3_workParts_28 : decode cX3_workParts 28 = .ok (.istore_n 1, 1) := by decide +kernel
theorem dX3_workParts_29 : decode cX3_workParts 29 = .ok (.iinc 2 1, 3) := by decide +kernel
theorem dX3_workParts_32 : decode cX3_workParts 32 = .ok (.goto (-28), 3) := by decide +kernel
theorem dX3_workParts_35 : decode cX3_workParts 35 = .ok (.iload_n 1, 1) := by decide +kernel
theorem dX3_workParts_36 : decode cX3_workParts 36 = .ok (.i2l, 1) := by decide +kernel
theorem dX3_workParts_37 : decode cX3_workParts 37 = .ok (.lreturn, 1) := by decide +kernel
theorem dX3_freeShift_0 : decode cX3_freeShift 0 = .ok (.aload_n 0, 1) := by decide +kernel
theorem dX3_freeShift_1 : decode cX3_freeShift 1 = .ok (.iload_n 1, 1) := by decide +kernel
theorem dX3_freeShift_2 : decode cX3_freeShift 2 = .ok (.invokevirtual 48, 3) := by decide +kernel
theorem dX3_freeShift_5 : decode cX3_freeShift 5 = .ok (.ifCond .eq 12, 3) := by decide +kernel
theorem dX3_freeShift_8 : decode cX3_freeShift 8 = .ok (.aload_n 0, 1) := by decide +kernel
theorem dX3_freeShift_9 : decode cX3_freeShift 9 = .ok (.getfield 21, 3) := by decide +kernel
theorem dX3_freeShift_12 : decode cX3_freeShift 12 = .ok (.iload_n 1, 1) := by decide +kernel
theorem dX3_freeShift_13 : decode cX3_freeShift 13 = .ok (.iaload, 1) := by decide +kernel
theorem dX3_freeShift_14 : decode cX3_freeShift 14 = .ok (.goto 4, 3) := by decide +kernel
theorem dX3_freeShift_17 : decode cX3_freeShift 17 = .ok (.iconst 0, 1) := by decide +kernel
theorem dX3_freeShift_18 : decode cX3_freeShift 18 = .ok (.ireturn, 1) := by decide +kernel
theorem dX4_init_0 : decode cX4_init 0 = .ok (.aload_n 0, 1) := by decide +kernel
theorem dX4_init_1 : decode cX4_init 1 = .ok (.invokespecial 3, 3) := by decide +kernel
theorem dX4_init_4 : decode cX4_init 4 = .ok (.aload_n 0, 1) := by decide +kernel
theorem dX4_init_5 : decode cX4_init 5 = .ok (.bipush 40, 2) := by decide +kernel
theorem dX4_init_7 : decode cX4_init 7 = .ok (.newarray .long, 2) := by decide +kernel
theorem dX4_init_9 : decode cX4_init 9 = .ok (.putfield 9, 3) := by decide +kernel
theorem dX4_init_12 : decode cX4_init 12 = .ok (.aload_n 0, 1) := by decide +kernel
theorem dX4_init_13 : decode cX4_init 13 = .ok (.iconst 1, 1) := by decide +kernel
theorem dX4_init_14 : decode cX4_init 14 = .ok (.putfield 15, 3) := by decide +kernel
theorem dX4_init_17 : decode cX4_init 17 = .ok (.return_, 1) := by decide +kernel
theorem dX4_renew_0 : decode cX4_renew 0 = .ok (.aload_n 0, 1) := by decide +kernel
theorem dX4_renew_1 : decode cX4_renew 1 = .ok (.iconst 0, 1) := by decide +kernel
theorem dX4_renew_2 : decode cX4_renew 2 = .ok (.putfield 15, 3) := by decide +kernel
theorem dX4_renew_5 : decode cX4_renew 5 = .ok (.aload_n 0, 1) := by decide +kernel
theorem dX4_renew_6 : decode cX4_renew 6 = .ok (.iload_n 1, 1) := by decide +kernel
theorem dX4_renew_7 : decode cX4_renew 7 = .ok (.putfield 19, 3) := by decide +kernel
theorem dX4_renew_10 : decode cX4_renew 10 = .ok (.aload_n 0, 1) := by decide +kernel
theorem dX4_renew_11 : decode cX4_renew 11 = .ok (.iload_n 2, 1) := by decide +kernel
theorem dX4_renew_12 : decode cX4_renew 12 = .ok (.putfield 23, 3) := by decide +kernel
theorem dX4_renew_15 : decode cX4_renew 15 = .ok (.iconst 0, 1) := by decide +kernel
theorem dX4_renew_16 : decode cX4_renew 16 = .ok (.istore_n 3, 1) := by decide +kernel
theorem dX4_renew_17 : decode cX4_renew 17 = .ok (.iload_n 3, 1) := by decide +kernel
theorem dX4_renew_18 : decode cX4_renew 18 = .ok (.bipush 40, 2) := by decide +kernel
theorem dX4_renew_20 : decode cX4_renew 20 = .ok (.if_icmp .ge 16, 3) := by decide +kernel
theorem dX4_renew_23 : decode cX4_renew 23 = .ok (.aload_n 0, 1) := by decide +kernel
theorem dX4_renew_24 : decode cX4_renew 24 = .ok (.getfield 9, 3) := by decide +kernel
theorem dX4_renew_27 : decode cX4_renew 27 = .ok (.iload_n 3, 1) := by decide +kernel
theorem dX4_renew_28 : decode cX4_renew 28 = .ok (.lconst 0, 1) := by decide +kernel
theorem dX4_renew_29 : decode cX4_renew 29 = .ok (.lastore, 1) := by decide +kernel
theorem dX4_renew_30 : decode cX4_renew 30 = .ok (.iinc 3 1, 3) := by decide +kernel
theorem dX4_renew_33 : decode cX4_renew 33 = .ok (.goto (-16), 3) := by decide +kernel
theorem dX4_renew_36 : decode cX4_renew 36 = .ok (.return_, 1) := by decide +kernel
theorem dX4_hasItems_0 : decode cX4_hasItems 0 = .ok (.iload_n 1, 1) := by decide +kernel
theorem dX4_hasItems_1 : decode cX4_hasItems 1 = .ok (.ifCond .lt 29, 3) := by decide +kernel
theorem dX4_hasItems_4 : decode cX4_hasItems 4 = .ok (.iload_n 2, 1) := by decide +kernel
theorem dX4_hasItems_5 : decode cX4_hasItems 5 = .ok (.ifCond .lt 25, 3) := by decide +kernel
theorem dX4_hasItems_8 : decode cX4_hasItems 8 = .ok (.iload_n 1, 1) := by decide +kernel
theorem dX4_hasItems_9 : decode cX4_hasItems 9 = .ok (.aload_n 0, 1) := by decide +kernel
theorem dX4_hasItems_10 : decode cX4_hasItems 10 = .ok (.getfield 23, 3) := by decide +kernel
theorem dX4_hasItems_13 : decode cX4_hasItems 13 = .ok (.if_icmp .gt 17, 3) := by decide +kernel
theorem dX4_hasItems_16 : decode cX4_hasItems 16 = .ok (.iload_n 2, 1) := by decide +kernel
theorem dX4_hasItems_17 : decode cX4_hasItems 17 = .ok (.aload_n 0, 1) := by decide +kernel
theorem dX4_hasItems_18 : decode cX4_hasItems 18 = .ok (.getfield 23, 3) := by decide +kernel
theorem dX4_hasItems_21 : decode cX4_hasItems 21 = .ok (.iload_n 1, 1) := by decide +kernel
theorem dX4_hasItems_22 : decode cX4_hasItems 22 = .ok (.isub, 1) := by decide +kernel
theorem dX4_hasItems_23 : decode cX4_hasItems 23 = .ok (.if_icmp .gt 7, 3) := by decide +kernel
theorem dX4_hasItems_26 : decode cX4_hasItems 26 = .ok (.iconst 1, 1) := by decide +kernel
theorem dX4_hasItems_27 : decode cX4_hasItems 27 = .ok (.goto 4, 3) := by decide +kernel
theorem dX4_hasItems_30 : decode cX4_hasItems 30 = .ok (.iconst 0, 1) := by decide +kernel
theorem dX4_hasItems_31 : decode cX4_hasItems 31 = .ok (.ireturn, 1) := by decide +kernel
theorem dX5_init_0 : decode cX5_init 0 = .ok (.aload_n 0, 1) := by decide +kernel
theorem dX5_init_1 : decode cX5_init 1 = .ok (.invokespecial 3, 3) := by decide +kernel
theorem dX5_init_4 : decode cX5_init 4 = .ok (.aload_n 0, 1) := by decide +kernel
theorem dX5_init_5 : decode cX5_init 5 = .ok (.bipush 8, 2) := by decide +kernel
theorem dX5_init_7 : decode cX5_init 7 = .ok (.bipush 110, 2) := by decide +kernel
theorem dX5_init_9 : decode cX5_init 9 = .ok (.multianewarray 11 2, 4) := by decide +kernel
theorem dX5_init_13 : decode cX5_init 13 = .ok (.putfield 13, 3) := by decide +kernel
theorem dX5_init_16 : decode cX5_init 16 = .ok (.aload_n 0, 1) := by decide +kernel
theorem dX5_init_17 : decode cX5_init 17 = .ok (.bipush 8, 2) := by decide +kernel
theorem dX5_init_19 : decode cX5_init 19 = .ok (.newarray .int, 2) := by decide +kernel
theorem dX5_init_21 : decode cX5_init 21 = .ok (.putfield 16, 3) := by decide +kernel
theorem dX5_init_24 : decode cX5_init 24 = .ok (.aload_n 0, 1) := by decide +kernel
theorem dX5_init_25 : decode cX5_init 25 = .ok (.bipush 8, 2) := by decide +kernel
theorem dX5_init_27 : decode cX5_init 27 = .ok (.newarray .int, 2) := by decide +kernel
theorem dX5_init_29 : decode cX5_init 29 = .ok (.putfield 20, 3) := by decide +kernel
theorem dX5_init_32 : decode cX5_init 32 = .ok (.aload_n 0, 1) := by decide +kernel
theorem dX5_init_33 : decode cX5_init 33 = .ok (.bipush 8, 2) := by decide +kernel
theorem dX5_init_35 : decode cX5_init 35 = .ok (.newarray .int, 2) := by decide +kernel
theorem dX5_init_37 : decode cX5_init 37 = .ok (.putfield 23, 3) := by decide +kernel
theorem dX5_init_40 : decode cX5_init 40 = .ok (.aload_n 0, 1) := by decide +kernel
theorem dX5_init_41 : decode cX5_init 41 = .ok (.bipush 8, 2) := by decide +kernel
theorem dX5_init_43 : decode cX5_init 43 = .ok (.newarray .long, 2) := by decide +kernel
theorem dX5_init_45 : decode cX5_init 45 = .ok (.putfield 26, 3) := by decide +kernel
theorem dX5_init_48 : decode cX5_init 48 = .ok (.aload_n 0, 1) := by decide +kernel
theorem dX5_init_49 : decode cX5_init 49 = .ok (.bipush 8, 2) := by decide +kernel
theorem dX5_init_51 : decode cX5_init 51 = .ok (.newarray .long, 2) := by decide +kernel
theorem dX5_init_53 : decode cX5_init 53 = .ok (.putfield 30, 3) := by decide +kernel
theorem dX5_init_56 : decode cX5_init 56 = .ok (.return_, 1) := by decide +kernel
theorem dX5_lay_0 : decode cX5_lay 0 = .ok (.aload_n 0, 1) := by decide +kernel
theorem dX5_lay_1 : decode cX5_lay 1 = .ok (.getfield 13, 3) := by decide +kernel
theorem dX5_lay_4 : decode cX5_lay 4 = .ok (.iconst 0, 1) := by decide +kernel
theorem dX5_lay_5 : decode cX5_lay 5 = .ok (.aaload, 1) := by decide +kernel
theorem dX5_lay_6 : decode cX5_lay 6 = .ok (.astore_n 3, 1) := by decide +kernel
theorem dX5_lay_7 : decode cX5_lay 7 = .ok (.aload_n 0, 1) := by decide +kernel
theorem dX5_lay_8 : decode cX5_lay 8 = .ok (.aload_n 1, 1) := by decide +kernel
theorem dX5_lay_9 : decode cX5_lay 9 = .ok (.invokevirtual 33, 3) := by decide +kernel
theorem dX5_lay_12 : decode cX5_lay 12 = .ok (.putfield 39, 3) := by decide +kernel
theorem dX5_lay_15 : decode cX5_lay 15 = .ok (.aload_n 0, 1) := by decide +kernel
theorem dX5_lay_16 : decode cX5_lay 16 = .ok (.iconst 0, 1) := by decide +kernel
theorem dX5_lay_17 : decode cX5_lay 17 = .ok (.putfield 43, 3) := by decide +kernel
theorem dX5_lay_20 : decode cX5_lay 20 = .ok (.aload_n 0, 1) := by decide +kernel
theorem dX5_lay_21 : decode cX5_lay 21 = .ok (.getfield 23, 3) := by decide +kernel
theorem dX5_lay_24 : decode cX5_lay 24 = .ok (.iconst 0, 1) := by decide +kernel
theorem dX5_lay_25 : decode cX5_lay 25 = .ok (.iconst 0, 1) := by decide +kernel
theorem dX5_lay_26 : decode cX5_lay 26 = .ok (.iastore, 1) := by decide +kernel
theorem dX5_lay_27 : decode cX5_lay 27 = .ok (.aload_n 0, 1) := by decide +kernel
theorem dX5_lay_28 : decode cX5_lay 28 = .ok (.getfield 26, 3) := by decide +kernel
theorem dX5_lay_31 : decode cX5_lay 31 = .ok (.iconst 0, 1) := by decide +kernel
theorem dX5_lay_32 : decode cX5_lay 32 = .ok (.lconst 1, 1) := by decide +kernel
theorem dX5_lay_33 : decode cX5_lay 33 = .ok (.lastore, 1) := by decide +kernel
theorem dX5_lay_34 : decode cX5_lay 34 = .ok (.iconst 0, 1) := by decide +kernel
theorem dX5_lay_35 : decode cX5_lay 35 = .ok (.istore 4, 2) := by decide +kernel
theorem dX5_lay_37 : decode cX5_lay 37 = .ok (.iload 4, 2) := by decide +kernel
theorem dX5_lay_39 : decode cX5_lay 39 = .ok (.iconst 2, 1) := by decide +kernel
theorem dX5_lay_40 : decode cX5_lay 40 = .ok (.aload_n 1, 1) := by decide +kernel
theorem dX5_lay_41 : decode cX5_lay 41 = .ok (.getfield 46, 3) := by decide +kernel
theorem dX5_lay_44 : decode cX5_lay 44 = .ok (.imul, 1) := by decide +kernel
theorem dX5_lay_45 : decode cX5_lay 45 = .ok (.if_icmp .ge 105, 3) := by decide +kernel
theorem dX5_lay_48 : decode cX5_lay 48 = .ok (.aload_n 1, 1) := by decide +kernel
theorem dX5_lay_49 : decode cX5_lay 49 = .ok (.iload 4, 2) := by decide +kernel
theorem dX5_lay_51 : decode cX5_lay 51 = .ok (.invokevirtual 49, 3) := by decide +kernel
theorem dX5_lay_54 : decode cX5_lay 54 = .ok (.ifCond .ne 6, 3) := by decide +kernel
theorem dX5_lay_57 : decode cX5_lay 57 = .ok (.goto 87, 3) := by decide +kernel
theorem dX5_lay_60 : decode cX5_lay 60 = .ok (.aload_n 0, 1) := by decide +kernel
theorem dX5_lay_61 : decode cX5_lay 61 = .ok (.getfield 43, 3) := by decide +kernel
theorem dX5_lay_64 : decode cX5_lay 64 = .ok (.bipush 11, 2) := by decide +kernel
theorem dX5_lay_66 : decode cX5_lay 66 = .ok (.imul, 1) := by decide +kernel
theorem dX5_lay_67 : decode cX5_lay 67 = .ok (.istore 5, 2) := by decide +kernel
theorem dX5_lay_69 : decode cX5_lay 69 = .ok (.iconst 0, 1) := by decide +kernel
theorem dX5_lay_70 : decode cX5_lay 70 = .ok (.istore 6, 2) := by decide +kernel
theorem dX5_lay_72 : decode cX5_lay 72 = .ok (.iload 6, 2) := by decide +kernel
theorem dX5_lay_74 : decode cX5_lay 74 = .ok (.aload_n 0, 1) := by decide +kernel
theorem dX5_lay_75 : decode cX5_lay 75 = .ok (.getfield 39, 3) := by decide +kernel
theorem dX5_lay_78 : decode cX5_lay 78 = .ok (.if_icmp .ge 38, 3) := by decide +kernel
theorem dX5_lay_81 : decode cX5_lay 81 = .ok (.aload_n 3, 1) := by decide +kernel
theorem dX5_lay_82 : decode cX5_lay 82 = .ok (.iload 5, 2) := by decide +kernel
theorem dX5_lay_84 : decode cX5_lay 84 = .ok (.iload 6, 2) := by decide +kernel
theorem dX5_lay_86 : decode cX5_lay 86 = .ok (.iadd, 1) := by decide +kernel
theorem dX5_lay_87 : decode cX5_lay 87 = .ok (.iload_n 2, 1) := by decide +kernel
theorem dX5_lay_88 : decode cX5_lay 88 = .ok (.iload 6, 2) := by decide +kernel
theorem dX5_lay_90 : decode cX5_lay 90 = .ok (.ishr, 1) := by decide +kernel
theorem dX5_lay_91 : decode cX5_lay 91 = .ok (.iconst 1, 1) := by decide +kernel
theorem dX5_lay_92 : decode cX5_lay 92 = .ok (.iand, 1) := by decide +kernel
theorem dX5_lay_93 : decode cX5_lay 93 = .ok (.ifCond .ne 7, 3) := by decide +kernel
theorem dX5_lay_96 : decode cX5_lay 96 = .ok (.lconst 0, 1) := by decide +kernel
theorem dX5_lay_97 : decode cX5_lay 97 = .ok (.goto 12, 3) := by decide +kernel
theorem dX5_lay_100 : decode cX5_lay 100 = .ok (.aload_n 1, 1) := by decide +kernel
theorem dX5_lay_101 : decode cX5_lay 101 = .ok (.iload 6, 2) := by decide +kernel
theorem dX5_lay_103 : decode cX5_lay 103 = .ok (.iload 4, 2) := by decide +kernel
theorem dX5_lay_105 : decode cX5_lay 105 = .ok (.invokevirtual 53, 3) := by decide +kernel
theorem dX5_lay_108 : decode cX5_lay 108 = .ok (.i2l, 1) := by decide +kernel
theorem dX5_lay_109 : decode cX5_lay 109 = .ok (.lastore, 1) := by decide +kernel
theorem dX5_lay_110 : decode cX5_lay 110 = .ok (.iinc 6 1, 3) := by decide +kernel
theorem dX5_lay_113 : decode cX5_lay 113 = .ok (.goto (-41), 3) := by decide +kernel
theorem dX5_lay_116 : decode cX5_lay 116 = .ok (.aload_n 3, 1) := by decide +kernel
theorem dX5_lay_117 : decode cX5_lay 117 = .ok (.iload 5, 2) := by decide +kernel
theorem dX5_lay_119 : decode cX5_lay 119 = .ok (.aload_n 0, 1) := by decide +kernel
theorem dX5_lay_120 : decode cX5_lay 120 = .ok (.getfield 39, 3) := by decide +kernel
theorem dX5_lay_123 : decode cX5_lay 123 = .ok (.iadd, 1) := by decide +kernel
theorem dX5_lay_124 : decode cX5_lay 124 = .ok (.aload_n 1, 1) := by decide +kernel
theorem dX5_lay_125 : decode cX5_lay 125 = .ok (.getfield 57, 3) := by decide +kernel
theorem dX5_lay_128 : decode cX5_lay 128 = .ok (.iload 4, 2) := by decide +kernel
theorem dX5_lay_130 : decode cX5_lay 130 = .ok (.iaload, 1) := by decide +kernel
theorem dX5_lay_131 : decode cX5_lay 131 = .ok (.ineg, 1) := by decide +kernel
theorem dX5_lay_132 : decode cX5_lay 132 = .ok (.i2l, 1) := by decide +kernel
theorem dX5_lay_133 : decode cX5_lay 133 = .ok (.lastore, 1) := by decide +kernel
theorem dX5_lay_134 : decode cX5_lay 134 = .ok (.aload_n 0, 1) := by decide +kernel
theorem dX5_lay_135 : decode cX5_lay 135 = .ok (.dup, 1) := by decide +kernel
theorem dX5_lay_136 : decode cX5_lay 136 = .ok (.getfield 43, 3) := by decide +kernel
theorem dX5_lay_139 : decode cX5_lay 139 = .ok (.iconst 1, 1) := by decide +kernel
theorem dX5_lay_140 : decode cX5_lay 140 = .ok (.iadd, 1) := by decide +kernel
theorem dX5_lay_141 : decode cX5_lay 141 = .ok (.putfield 43, 3) := by decide +kernel
theorem dX5_lay_144 : decode cX5_lay 144 = .ok (.iinc 4 1, 3) := by decide +kernel
theorem dX5_lay_147 : decode cX5_lay 147 = .ok (.goto (-110), 3) := by decide +kernel
theorem dX5_lay_150 : decode cX5_lay 150 = .ok (.return_, 1) := by decide +kernel
theorem dX5_enter_0 : decode cX5_enter 0 = .ok (.aload_n 0, 1) := by decide +kernel
theorem dX5_enter_1 : decode cX5_enter 1 = .ok (.iload_n 1, 1) := by decide +kernel
theorem dX5_enter_2 : decode cX5_enter 2 = .ok (.iload_n 2, 1) := by decide +kernel
theorem dX5_enter_3 : decode cX5_enter 3 = .ok (.invokevirtual 60, 3) := by decide +kernel
theorem dX5_enter_6 : decode cX5_enter 6 = .ok (.istore_n 3, 1) := by decide +kernel
theorem dX5_enter_7 : decode cX5_enter 7 = .ok (.iload_n 3, 1) := by decide +kernel
theorem dX5_enter_8 : decode cX5_enter 8 = .ok (.ifCond .ge 5, 3) := by decide +kernel
theorem dX5_enter_11 : decode cX5_enter 11 = .ok (.iconst 0, 1) := by decide +kernel
theorem dX5_enter_12 : decode cX5_enter 12 = .ok (.ireturn, 1) := by decide +kernel
theorem dX5_enter_13 : decode cX5_enter 13 = .ok (.aload_n 0, 1) := by decide +kernel
theorem dX5_enter_14 : decode cX5_enter 14 = .ok (.getfield 13, 3) := by decide +kernel
theorem dX5_enter_17 : decode cX5_enter 17 = .ok (.iload_n 1, 1) := by decide +kernel
theorem dX5_enter_18 : decode cX5_enter 18 = .ok (.aaload, 1) := by decide +kernel
theorem dX5_enter_19 : decode cX5_enter 19 = .ok (.astore 4, 2) := by decide +kernel
theorem dX5_enter_21 : decode cX5_enter 21 = .ok (.aload_n 0, 1) := by decide +kernel
theorem dX5_enter_22 : decode cX5_enter 22 = .ok (.getfield 13, 3) := by decide +kernel
theorem dX5_enter_25 : decode cX5_enter 25 = .ok (.iload_n 1, 1) := by decide +kernel
theorem dX5_enter_26 : decode cX5_enter 26 = .ok (.iconst 1, 1) := by decide +kernel
theorem dX5_enter_27 : decode cX5_enter 27 = .ok (.iadd, 1) := by decide +kernel
theorem dX5_enter_28 : decode cX5_enter 28 = .ok (.aaload, 1) := by decide +kernel
theorem dX5_enter_29 : decode cX5_enter 29 = .ok (.astore 5, 2) := by decide +kernel
theorem dX5_enter_31 : decode cX5_enter 31 = .ok (.iload_n 3, 1) := by decide +kernel
theorem dX5_enter_32 : decode cX5_enter 32 = .ok (.bipush 11, 2) := by decide +kernel
theorem dX5_enter_34 : decode cX5_enter 34 = .ok (.imul, 1) := by decide +kernel
theorem dX5_enter_35 : decode cX5_enter 35 = .ok (.istore 6, 2) := by decide +kernel
theorem dX5_enter_37 : decode cX5_enter 37 = .ok (.aload 4, 2) := by decide +kernel
theorem dX5_enter_39 : decode cX5_enter 39 = .ok (.iload 6, 2) := by decide +kernel
theorem dX5_enter_41 : decode cX5_enter 41 = .ok (.iload_n 2, 1) := by decide +kernel
theorem dX5_enter_42 : decode cX5_enter 42 = .ok (.iadd, 1) := by decide +kernel
theorem dX5_enter_43 : decode cX5_enter 43 = .ok (.laload, 1) := by decide +kernel
theorem dX5_enter_44 : decode cX5_enter 44 = .ok (.lstore 7, 2) := by decide +kernel
theorem dX5_enter_46 : decode cX5_enter 46 = .ok (.aload_n 0, 1) := by decide +kernel
theorem dX5_enter_47 : decode cX5_enter 47 = .ok (.getfield 26, 3) := by decide +kernel
theorem dX5_enter_50 : decode cX5_enter 50 = .ok (.iload_n 1, 1) := by decide +kernel
theorem dX5_enter_51 : decode cX5_enter 51 = .ok (.laload, 1) := by decide +kernel
theorem dX5_enter_52 : decode cX5_enter 52 = .ok (.lstore 9, 2) := by decide +kernel
theorem dX5_enter_54 : decode cX5_enter 54 = .ok (.aload_n 0, 1) := by decide +kernel
theorem dX5_enter_55 : decode cX5_enter 55 = .ok (.getfield 23, 3) := by decide +kernel
theorem dX5_enter_58 : decode cX5_enter 58 = .ok (.iload_n 1, 1) := by decide +kernel
theorem dX5_enter_59 : decode cX5_enter 59 = .ok (.iaload, 1) := by decide +kernel
theorem dX5_enter_60 : decode cX5_enter 60 = .ok (.iconst 1, 1) := by decide +kernel
theorem dX5_enter_61 : decode cX5_enter 61 = .ok (.iload_n 3, 1) := by decide +kernel
theorem dX5_enter_62 : decode cX5_enter 62 = .ok (.ishl, 1) := by decide +kernel
theorem dX5_enter_63 : decode cX5_enter 63 = .ok (.ior, 1) := by decide +kernel
theorem dX5_enter_64 : decode cX5_enter 64 = .ok (.istore 11, 2) := by decide +kernel
theorem dX5_enter_66 : decode cX5_enter 66 = .ok (.iconst 0, 1) := by decide +kernel
theorem dX5_enter_67 : decode cX5_enter 67 = .ok (.istore 12, 2) := by decide +kernel
theorem dX5_enter_69 : decode cX5_enter 69 = .ok (.iload 12, 2) := by decide +kernel
theorem dX5_enter_71 : decode cX5_enter 71 = .ok (.aload_n 0, 1) := by decide +kernel
theorem dX5_enter_72 : decode cX5_enter 72 = .ok (.getfield 43, 3) := by decide +kernel
theorem dX5_enter_75 : decode cX5_enter 75 = .ok (.if_icmp .ge 99, 3) := by decide +kernel
theorem dX5_enter_78 : decode cX5_enter 78 = .ok (.lload 9, 2) := by decide +kernel
theorem dX5_enter_80 : decode cX5_enter 80 = .ok (.lconst 0, 1) := by decide +kernel
theorem dX5_enter_81 : decode cX5_enter 81 = .ok (.lcmp, 1) := by decide +kernel
theorem dX5_enter_82 : decode cX5_enter 82 = .ok (.ifCond .eq 92, 3) := by decide +kernel
theorem dX5_enter_85 : decode cX5_enter 85 = .ok (.iload 11, 2) := by decide +kernel
theorem dX5_enter_87 : decode cX5_enter 87 = .ok (.iload 12, 2) := by decide +kernel
theorem dX5_enter_89 : decode cX5_enter 89 = .ok (.ishr, 1) := by decide +kernel
theorem dX5_enter_90 : decode cX5_enter 90 = .ok (.iconst 1, 1) := by decide +kernel
theorem dX5_enter_91 : decode cX5_enter 91 = .ok (.iand, 1) := by decide +kernel
theorem dX5_enter_92 : decode cX5_enter 92 = .ok (.ifCond .eq 6, 3) := by decide +kernel
theorem dX5_enter_95 : decode cX5_enter 95 = .ok (.goto 73, 3) := by decide +kernel
theorem dX5_enter_98 : decode cX5_enter 98 = .ok (.iload 12, 2) := by decide +kernel
theorem dX5_enter_100 : decode cX5_enter 100 = .ok (.bipush 11, 2) := by decide +kernel
theorem dX5_enter_102 : decode cX5_enter 102 = .ok (.imul, 1) := by decide +kernel
theorem dX5_enter_103 : decode cX5_enter 103 = .ok (.istore 13, 2) := by decide +kernel
theorem dX5_enter_105 : decode cX5_enter 105 = .ok (.aload 4, 2) := by decide +kernel
theorem dX5_enter_107 : decode cX5_enter 107 = .ok (.iload 13, 2) := by decide +kernel
theorem dX5_enter_109 : decode cX5_enter 109 = .ok (.iload_n 2, 1) := by decide +kernel
theorem dX5_enter_110 : decode cX5_enter 110 = .ok (.iadd, 1) := by decide +kernel
theorem dX5_enter_111 : decode cX5_enter 111 = .ok (.laload, 1) := by decide +kernel
theorem dX5_enter_112 : decode cX5_enter 112 = .ok (.lstore 14, 2) := by decide +kernel
theorem dX5_enter_114 : decode cX5_enter 114 = .ok (.iload_n 2, 1) := by decide +kernel
theorem dX5_enter_115 : decode cX5_enter 115 = .ok (.iconst 1, 1) := by decide +kernel
theorem dX5_enter_116 : decode cX5_enter 116 = .ok (.iadd, 1) := by decide +kernel
theorem dX5_enter_117 : decode cX5_enter 117 = .ok (.istore 16, 2) := by decide +kernel
theorem dX5_enter_119 : decode cX5_enter 119 = .ok (.iload 16, 2) := by decide +kernel
theorem dX5_enter_121 : decode cX5_enter 121 = .ok (.aload_n 0, 1) := by decide +kernel
theorem dX5_enter_122 : decode cX5_enter 122 = .ok (.getfield 39, 3) := by decide +kernel
theorem dX5_enter_125 : decode cX5_enter 125 = .ok (.if_icmp .gt 43, 3) := by decide +kernel
theorem dX5_enter_128 : decode cX5_enter 128 = .ok (.aload 5, 2) := by decide +kernel
theorem dX5_enter_130 : decode cX5_enter 130 = .ok (.iload 13, 2) := by decide +kernel
theorem dX5_enter_132 : decode cX5_enter 132 = .ok (.iload 16, 2) := by decide +kernel
theorem dX5_enter_134 : decode cX5_enter 134 = .ok (.iadd, 1) := by decide +kernel
theorem dX5_enter_135 : decode cX5_enter 135 = .ok (.lload 7, 2) := by decide +kernel
theorem dX5_enter_137 : decode cX5_enter 137 = .ok (.aload 4, 2) := by decide +kernel
theorem dX5_enter_139 : decode cX5_enter 139 = .ok (.iload 13, 2) := by decide +kernel
theorem dX5_enter_141 : decode cX5_enter 141 = .ok (.iload 16, 2) := by decide +kernel
theorem dX5_enter_143 : decode cX5_enter 143 = .ok (.iadd, 1) := by decide +kernel
theorem dX5_enter_144 : decode cX5_enter 144 = .ok (.laload, 1) := by decide +kernel
theorem dX5_enter_145 : decode cX5_enter 145 = .ok (.lmul, 1) := by decide +kernel
theorem dX5_enter_146 : decode cX5_enter 146 = .ok (.lload 14, 2) := by decide +kernel
theorem dX5_enter_148 : decode cX5_enter 148 = .ok (.aload 4, 2) := by decide +kernel
theorem dX5_enter_150 : decode cX5_enter 150 = .ok (.iload 6, 2) := by decide +kernel
theorem dX5_enter_152 : decode cX5_enter 152 = .ok (.iload 16, 2) := by decide +kernel
theorem dX5_enter_154 : decode cX5_enter 154 = .ok (.iadd, 1) := by decide +kernel
theorem dX5_enter_155 : decode cX5_enter 155 = .ok (.laload, 1) := by decide +kernel
theorem dX5_enter_156 : decode cX5_enter 156 = .ok (.lmul, 1) := by decide +kernel
theorem dX5_enter_157 : decode cX5_enter 157 = .ok (.lsub, 1) := by decide +kernel
theorem dX5_enter_158 : decode cX5_enter 158 = .ok (.lload 9, 2) := by decide +kernel
theorem dX5_enter_160 : decode cX5_enter 160 = .ok (.ldiv, 1) := by decide +kernel
theorem dX5_enter_161 : decode cX5_enter 161 = .ok (.lastore, 1) := by decide +kernel
theorem dX5_enter_162 : decode cX5_enter 162 = .ok (.iinc 16 1, 3) := by decide +kernel
theorem dX5_enter_165 : decode cX5_enter 165 = .ok (.goto (-46), 3) := by decide +kernel
theorem dX5_enter_168 : decode cX5_enter 168 = .ok (.iinc 12 1, 3) := by decide +kernel
theorem dX5_enter_171 : decode cX5_enter 171 = .ok (.goto (-102), 3) := by decide +kernel
theorem dX5_enter_174 : decode cX5_enter 174 = .ok (.aload_n 0, 1) := by decide +kernel
theorem dX5_enter_175 : decode cX5_enter 175 = .ok (.getfield 16, 3) := by decide +kernel
theorem dX5_enter_178 : decode cX5_enter 178 = .ok (.iload_n 1, 1) := by decide +kernel
theorem dX5_enter_179 : decode cX5_enter 179 = .ok (.iload_n 2, 1) := by decide +kernel
theorem dX5_enter_180 : decode cX5_enter 180 = .ok (.iastore, 1) := by decide +kernel
theorem dX5_enter_181 : decode cX5_enter 181 = .ok (.aload_n 0, 1) := by decide +kernel
theorem dX5_enter_182 : decode cX5_enter 182 = .ok (.getfield 20, 3) := by decide +kernel
theorem dX5_enter_185 : decode cX5_enter 185 = .ok (.iload_n 1, 1) := by decide +kernel
theorem dX5_enter_186 : decode cX5_enter 186 = .ok (.iload_n 3, 1) := by decide +kernel
theorem dX5_enter_187 : decode cX5_enter 187 = .ok (.iastore, 1) := by decide +kernel
theorem dX5_enter_188 : decode cX5_enter 188 = .ok (.aload_n 0, 1) := by decide +kernel
theorem dX5_enter_189 : decode cX5_enter 189 = .ok (.getfield 23, 3) := by decide +kernel
theorem dX5_enter_192 : decode cX5_enter 192 = .ok (.iload_n 1, 1) := by decide +kernel
theorem dX5_enter_193 : decode cX5_enter 193 = .ok (.iconst 1, 1) := by decide +kernel
theorem dX5_enter_194 : decode cX5_enter 194 = .ok (.iadd, 1) := by decide +kernel
theorem dX5_enter_195 : decode cX5_enter 195 = .ok (.iload 11, 2) := by decide +kernel
theorem dX5_enter_197 : decode cX5_enter 197 = .ok (.iastore, 1) := by decide +kernel
theorem dX5_enter_198 : decode cX5_enter 198 = .ok (.aload_n 0, 1) := by decide +kernel
theorem dX5_enter_199 : decode cX5_enter 199 = .ok (.getfield 26, 3) := by decide +kernel
theorem dX5_enter_202 : decode cX5_enter 202 = .ok (.iload_n 1, 1) := by decide +kernel
theorem dX5_enter_203 : decode cX5_enter 203 = .ok (.iconst 1, 1) := by decide +kernel
theorem dX5_enter_204 : decode cX5_enter 204 = .ok (.iadd, 1) := by decide +kernel
theorem dX5_enter_205 : decode cX5_enter 205 = .ok (.lload 7, 2) := by decide +kernel
theorem dX5_enter_207 : decode cX5_enter 207 = .ok (.lastore, 1) := by decide +kernel
theorem dX5_enter_208 : decode cX5_enter 208 = .ok (.iconst 1, 1) := by decide +kernel
theorem dX5_enter_209 : decode cX5_enter 209 = .ok (.ireturn, 1) := by decide +kernel
theorem dX5_pivotRow_0 : decode cX5_pivotRow 0 = .ok (.iload_n 1, 1) := by decide +kernel
theorem dX5_pivotRow_1 : decode cX5_pivotRow 1 = .ok (.iconst 1, 1) := by decide +kernel
theorem dX5_pivotRow_2 : decode cX5_pivotRow 2 = .ok (.iadd, 1) := by decide +kernel
theorem dX5_pivotRow_3 : decode cX5_pivotRow 3 = .ok (.bipush 8, 2) := by decide +kernel
theorem dX5_pivotRow_5 : decode cX5_pivotRow 5 = .ok (.if_icmp .lt 5, 3) := by decide +kernel
theorem dX5_pivotRow_8 : decode cX5_pivotRow 8 = .ok (.iconst (-1), 1) := by decide +kernel
theorem dX5_pivotRow_9 : decode cX5_pivotRow 9 = .ok (.ireturn, 1) := by decide +kernel
theorem dX5_pivotRow_10 : decode cX5_pivotRow 10 = .ok (.iconst 0, 1) := by decide +kernel
theorem dX5_pivotRow_11 : decode cX5_pivotRow 11 = .ok (.istore_n 3, 1) := by decide +kernel
theorem dX5_pivotRow_12 : decode cX5_pivotRow 12 = .ok (.iload_n 3, 1) := by decide +kernel
theorem dX5_pivotRow_13 : decode cX5_pivotRow 13 = .ok (.aload_n 0, 1) := by decide +kernel
theorem dX5_pivotRow_14 : decode cX5_pivotRow 14 = .ok (.getfield 43, 3) := by decide +kernel
theorem dX5_pivotRow_17 : decode cX5_pivotRow 17 = .ok (.if_icmp .ge 42, 3) := by decide +kernel
theorem dX5_pivotRow_20 : decode cX5_pivotRow 20 = .ok (.aload_n 0, 1) := by decide +kernel
theorem dX5_pivotRow_21 : decode cX5_pivotRow 21 = .ok (.getfield 23, 3) := by decide +kernel
theorem dX5_pivotRow_24 : decode cX5_pivotRow 24 = .ok (.iload_n 1, 1) := by decide +kernel
theorem dX5_pivotRow_25 : decode cX5_pivotRow 25 = .ok (.iaload, 1) := by decide +kernel
theorem dX5_pivotRow_26 : decode cX5_pivotRow 26 = .ok (.iload_n 3, 1) := by decide +kernel
theorem dX5_pivotRow_27 : decode cX5_pivotRow 27 = .ok (.ishr, 1) := by decide +kernel
theorem dX5_pivotRow_28 : decode cX5_pivotRow 28 = .ok (.iconst 1, 1) := by decide +kernel
theorem dX5_pivotRow_29 : decode cX5_pivotRow 29 = .ok (.iand, 1) := by decide +kernel
theorem dX5_pivotRow_30 : decode cX5_pivotRow 30 = .ok (.ifCond .ne 23, 3) := by decide +kernel
theorem dX5_pivotRow_33 : decode cX5_pivotRow 33 = .ok (.aload_n 0, 1) := by decide +kernel
theorem dX5_pivotRow_34 : decode cX5_pivotRow 34 = .ok (.getfield 13, 3) := by decide +kernel
theorem dX5_pivotRow_37 : decode cX5_pivotRow 37 = .ok (.iload_n 1, 1) := by decide +kernel
theorem dX5_pivotRow_38 : decode cX5_pivotRow 38 = .ok (.aaload, 1) := by decide +kernel
theorem dX5_pivotRow_39 : decode cX5_pivotRow 39 = .ok (.iload_n 3, 1) := by decide +kernel
theorem dX5_pivotRow_40 : decode cX5_pivotRow 40 = .ok (.bipush 11, 2) := by decide +kernel
theorem dX5_pivotRow_42 : decode cX5_pivotRow 42 = .ok (.imul, 1) := by decide +kernel
theorem dX5_pivotRow_43 : decode cX5_pivotRow 43 = .ok (.iload_n 2, 1) := by decide +kernel
theorem dX5_pivotRow_44 : decode cX5_pivotRow 44 = .ok (.iadd, 1) := by decide +kernel
theorem dX5_pivotRow_45 : decode cX5_pivotRow 45 = .ok (.laload, 1) := by decide +kernel
theorem dX5_pivotRow_46 : decode cX5_pivotRow 46 = .ok (.lconst 0, 1) := by decide +kernel
theorem dX5_pivotRow_47 : decode cX5_pivotRow 47 = .ok (.lcmp, 1) := by decide +kernel
theorem dX5_pivotRow_48 : decode cX5_pivotRow 48 = .ok (.ifCond .eq 5, 3) := by decide +kernel
theorem dX5_pivotRow_51 : decode cX5_pivotRow 51 = .ok (.iload_n 3, 1) := by decide +kernel
theorem dX5_pivotRow_52 : decode cX5_pivotRow 52 = .ok (.ireturn, 1) := by decide +kernel
theorem dX5_pivotRow_53 : decode cX5_pivotRow 53 = .ok (.iinc 3 1, 3) := by decide +kernel
theorem dX5_pivotRow_56 : decode cX5_pivotRow 56 = .ok (.goto (-44), 3) := by decide +kernel
theorem dX5_pivotRow_59 : decode cX5_pivotRow 59 = .ok (.iconst (-1), 1) := by decide +kernel
theorem dX5_pivotRow_60 : decode cX5_pivotRow 60 = .ok (.ireturn, 1) := by decide +kernel
theorem dX5_bears_0 : decode cX5_bears 0 = .ok (.iconst 0, 1) := by decide +kernel
theorem dX5_bears_1 : decode cX5_bears 1 = .ok (.istore_n 2, 1) := by decide +kernel
theorem dX5_bears_2 : decode cX5_bears 2 = .ok (.iload_n 2, 1) := by decide +kernel
theorem dX5_bears_3 : decode cX5_bears 3 = .ok (.aload_n 0, 1) := by decide +kernel
theorem dX5_bears_4 : decode cX5_bears 4 = .ok (.getfield 43, 3) := by decide +kernel
theorem dX5_bears_7 : decode cX5_bears 7 = .ok (.if_icmp .ge 45, 3) := by decide +kernel
theorem dX5_bears_10 : decode cX5_bears 10 = .ok (.aload_n 0, 1) := by decide +kernel
theorem dX5_bears_11 : decode cX5_bears 11 = .ok (.getfield 23, 3) := by decide +kernel
theorem dX5_bears_14 : decode cX5_bears 14 = .ok (.iload_n 1, 1) := by decide +kernel
theorem dX5_bears_15 : decode cX5_bears 15 = .ok (.iaload, 1) := by decide +kernel
theorem dX5_bears_16 : decode cX5_bears 16 = .ok (.iload_n 2, 1) := by decide +kernel
theorem dX5_bears_17 : decode cX5_bears 17 = .ok (.ishr, 1) := by decide +kernel
theorem dX5_bears_18 : decode cX5_bears 18 = .ok (.iconst 1, 1) := by decide +kernel
theorem dX5_bears_19 : decode cX5_bears 19 = .ok (.iand, 1) := by decide +kernel
theorem dX5_bears_20 : decode cX5_bears 20 = .ok (.ifCond .ne 26, 3) := by decide +kernel
theorem dX5_bears_23 : decode cX5_bears 23 = .ok (.aload_n 0, 1) := by decide +kernel
theorem dX5_bears_24 : decode cX5_bears 24 = .ok (.getfield 13, 3) := by decide +kernel
theorem dX5_bears_27 : decode cX5_bears 27 = .ok (.iload_n 1, 1) := by decide +kernel
theorem dX5_bears_28 : decode cX5_bears 28 = .ok (.aaload, 1) := by decide +kernel
theorem dX5_bears_29 : decode cX5_bears 29 = .ok (.iload_n 2, 1) := by decide +kernel
theorem dX5_bears_30 : decode cX5_bears 30 = .ok (.bipush 11, 2) := by decide +kernel
theorem dX5_bears_32 : decode cX5_bears 32 = .ok (.imul, 1) := by decide +kernel
theorem dX5_bears_33 : decode cX5_bears 33 = .ok (.aload_n 0, 1) := by decide +kernel
theorem dX5_bears_34 : decode cX5_bears 34 = .ok (.getfield 39, 3) := by decide +kernel
theorem dX5_bears_37 : decode cX5_bears 37 = .ok (.iadd, 1) := by decide +kernel
theorem dX5_bears_38 : decode cX5_bears 38 = .ok (.laload, 1) := by decide +kernel
theorem dX5_bears_39 : decode cX5_bears 39 = .ok (.lconst 0, 1) := by decide +kernel
theorem dX5_bears_40 : decode cX5_bears 40 = .ok (.lcmp, 1) := by decide +kernel
end
section
theorem dX5_bears_41 : decode cX5_bears 41 = .ok (.ifCond .eq 5, 3) := by decide +kernel
theorem dX5_bears_44 : decode cX5_bears 44 = .ok (.iconst 0, 1) := by decide +kernel
theorem dX5_bears_45 : decode cX5_bears 45 = .ok (.ireturn, 1) := by decide +kernel
theorem dX5_bears_46 : decode cX5_bears 46 = .ok (.iinc 2 1, 3) := by decide +kernel
theorem dX5_bears_49 : decode cX5_bears 49 = .ok (.goto (-47), 3) := by decide +kernel
theorem dX5_bears_52 : decode cX5_bears 52 = .ok (.iconst 1, 1) := by decide +kernel
theorem dX5_bears_53 : decode cX5_bears 53 = .ok (.ireturn, 1) := by decide +kernel
theorem dX5_solve_0 : decode cX5_solve 0 = .ok (.iload_n 1, 1) := by decide +kernel
theorem dX5_solve_1 : decode cX5_solve 1 = .ok (.iconst 1, 1) := by decide +kernel
theorem dX5_solve_2 : decode cX5_solve 2 = .ok (.isub, 1) := by decide +kernel
theorem dX5_solve_3 : decode cX5_solve 3 = .ok (.istore_n 2, 1) := by decide +kernel
theorem dX5_solve_4 : decode cX5_solve 4 = .ok (.iload_n 2, 1) := by decide +kernel
theorem dX5_solve_5 : decode cX5_solve 5 = .ok (.ifCond .lt 122, 3) := by decide +kernel
theorem dX5_solve_8 : decode cX5_solve 8 = .ok (.aload_n 0, 1) := by decide +kernel
theorem dX5_solve_9 : decode cX5_solve 9 = .ok (.getfield 13, 3) := by decide +kernel
theorem dX5_solve_12 : decode cX5_solve 12 = .ok (.iload_n 2, 1) := by decide +kernel
theorem dX5_solve_13 : decode cX5_solve 13 = .ok (.aaload, 1) := by decide +kernel
theorem dX5_solve_14 : decode cX5_solve 14 = .ok (.astore_n 3, 1) := by decide +kernel
theorem dX5_solve_15 : decode cX5_solve 15 = .ok (.aload_n 0, 1) := by decide +kernel
theorem dX5_solve_16 : decode cX5_solve 16 = .ok (.getfield 20, 3) := by decide +kernel
theorem dX5_solve_19 : decode cX5_solve 19 = .ok (.iload_n 2, 1) := by decide +kernel
theorem dX5_solve_20 : decode cX5_solve 20 = .ok (.iaload, 1) := by decide +kernel
theorem dX5_solve_21 : decode cX5_solve 21 = .ok (.bipush 11, 2) := by decide +kernel
theorem dX5_solve_23 : decode cX5_solve 23 = .ok (.imul, 1) := by decide +kernel
theorem dX5_solve_24 : decode cX5_solve 24 = .ok (.istore 4, 2) := by decide +kernel
theorem dX5_solve_26 : decode cX5_solve 26 = .ok (.aload_n 0, 1) := by decide +kernel
theorem dX5_solve_27 : decode cX5_solve 27 = .ok (.getfield 26, 3) := by decide +kernel
theorem dX5_solve_30 : decode cX5_solve 30 = .ok (.iload_n 1, 1) := by decide +kernel
theorem dX5_solve_31 : decode cX5_solve 31 = .ok (.laload, 1) := by decide +kernel
theorem dX5_solve_32 : decode cX5_solve 32 = .ok (.aload_n 3, 1) := by decide +kernel
theorem dX5_solve_33 : decode cX5_solve 33 = .ok (.iload 4, 2) := by decide +kernel
theorem dX5_solve_35 : decode cX5_solve 35 = .ok (.aload_n 0, 1) := by decide +kernel
theorem dX5_solve_36 : decode cX5_solve 36 = .ok (.getfield 39, 3) := by decide +kernel
theorem dX5_solve_39 : decode cX5_solve 39 = .ok (.iadd, 1) := by decide +kernel
theorem dX5_solve_40 : decode cX5_solve 40 = .ok (.laload, 1) := by decide +kernel
theorem dX5_solve_41 : decode cX5_solve 41 = .ok (.lmul, 1) := by decide +kernel
theorem dX5_solve_42 : decode cX5_solve 42 = .ok (.lstore 5, 2) := by decide +kernel
theorem dX5_solve_44 : decode cX5_solve 44 = .ok (.iload_n 2, 1) := by decide +kernel
theorem dX5_solve_45 : decode cX5_solve 45 = .ok (.iconst 1, 1) := by decide +kernel
theorem dX5_solve_46 : decode cX5_solve 46 = .ok (.iadd, 1) := by decide +kernel
theorem dX5_solve_47 : decode cX5_solve 47 = .ok (.istore 7, 2) := by decide +kernel
theorem dX5_solve_49 : decode cX5_solve 49 = .ok (.iload 7, 2) := by decide +kernel
theorem dX5_solve_51 : decode cX5_solve 51 = .ok (.iload_n 1, 1) := by decide +kernel
theorem dX5_solve_52 : decode cX5_solve 52 = .ok (.if_icmp .ge 34, 3) := by decide +kernel
theorem dX5_solve_55 : decode cX5_solve 55 = .ok (.lload 5, 2) := by decide +kernel
theorem dX5_solve_57 : decode cX5_solve 57 = .ok (.aload_n 3, 1) := by decide +kernel
theorem dX5_solve_58 : decode cX5_solve 58 = .ok (.iload 4, 2) := by decide +kernel
theorem dX5_solve_60 : decode cX5_solve 60 = .ok (.aload_n 0, 1) := by decide +kernel
theorem dX5_solve_61 : decode cX5_solve 61 = .ok (.getfield 16, 3) := by decide +kernel
theorem dX5_solve_64 : decode cX5_solve 64 = .ok (.iload 7, 2) := by decide +kernel
theorem dX5_solve_66 : decode cX5_solve 66 = .ok (.iaload, 1) := by decide +kernel
theorem dX5_solve_67 : decode cX5_solve 67 = .ok (.iadd, 1) := by decide +kernel
theorem dX5_solve_68 : decode cX5_solve 68 = .ok (.laload, 1) := by decide +kernel
theorem dX5_solve_69 : decode cX5_solve 69 = .ok (.aload_n 0, 1) := by decide +kernel
theorem dX5_solve_70 : decode cX5_solve 70 = .ok (.getfield 30, 3) := by decide +kernel
theorem dX5_solve_73 : decode cX5_solve 73 = .ok (.iload 7, 2) := by decide +kernel
theorem dX5_solve_75 : decode cX5_solve 75 = .ok (.laload, 1) := by decide +kernel
theorem dX5_solve_76 : decode cX5_solve 76 = .ok (.lmul, 1) := by decide +kernel
theorem dX5_solve_77 : decode cX5_solve 77 = .ok (.lsub, 1) := by decide +kernel
theorem dX5_solve_78 : decode cX5_solve 78 = .ok (.lstore 5, 2) := by decide +kernel
theorem dX5_solve_80 : decode cX5_solve 80 = .ok (.iinc 7 1, 3) := by decide +kernel
theorem dX5_solve_83 : decode cX5_solve 83 = .ok (.goto (-34), 3) := by decide +kernel
theorem dX5_solve_86 : decode cX5_solve 86 = .ok (.aload_n 3, 1) := by decide +kernel
theorem dX5_solve_87 : decode cX5_solve 87 = .ok (.iload 4, 2) := by decide +kernel
theorem dX5_solve_89 : decode cX5_solve 89 = .ok (.aload_n 0, 1) := by decide +kernel
theorem dX5_solve_90 : decode cX5_solve 90 = .ok (.getfield 16, 3) := by decide +kernel
theorem dX5_solve_93 : decode cX5_solve 93 = .ok (.iload_n 2, 1) := by decide +kernel
theorem dX5_solve_94 : decode cX5_solve 94 = .ok (.iaload, 1) := by decide +kernel
theorem dX5_solve_95 : decode cX5_solve 95 = .ok (.iadd, 1) := by decide +kernel
theorem dX5_solve_96 : decode cX5_solve 96 = .ok (.laload, 1) := by decide +kernel
theorem dX5_solve_97 : decode cX5_solve 97 = .ok (.lstore 7, 2) := by decide +kernel
theorem dX5_solve_99 : decode cX5_solve 99 = .ok (.aload_n 0, 1) := by decide +kernel
theorem dX5_solve_100 : decode cX5_solve 100 = .ok (.getfield 30, 3) := by decide +kernel
theorem dX5_solve_103 : decode cX5_solve 103 = .ok (.iload_n 2, 1) := by decide +kernel
theorem dX5_solve_104 : decode cX5_solve 104 = .ok (.lload 7, 2) := by decide +kernel
theorem dX5_solve_106 : decode cX5_solve 106 = .ok (.lconst 0, 1) := by decide +kernel
theorem dX5_solve_107 : decode cX5_solve 107 = .ok (.lcmp, 1) := by decide +kernel
theorem dX5_solve_108 : decode cX5_solve 108 = .ok (.ifCond .ne 7, 3) := by decide +kernel
theorem dX5_solve_111 : decode cX5_solve 111 = .ok (.lconst 0, 1) := by decide +kernel
theorem dX5_solve_112 : decode cX5_solve 112 = .ok (.goto 8, 3) := by decide +kernel
theorem dX5_solve_115 : decode cX5_solve 115 = .ok (.lload 5, 2) := by decide +kernel
theorem dX5_solve_117 : decode cX5_solve 117 = .ok (.lload 7, 2) := by decide +kernel
theorem dX5_solve_119 : decode cX5_solve 119 = .ok (.ldiv, 1) := by decide +kernel
theorem dX5_solve_120 : decode cX5_solve 120 = .ok (.lastore, 1) := by decide +kernel
theorem dX5_solve_121 : decode cX5_solve 121 = .ok (.iinc 2 (-1), 3) := by decide +kernel
theorem dX5_solve_124 : decode cX5_solve 124 = .ok (.goto (-120), 3) := by decide +kernel
theorem dX5_solve_127 : decode cX5_solve 127 = .ok (.return_, 1) := by decide +kernel
theorem dX6_init_0 : decode cX6_init 0 = .ok (.aload_n 0, 1) := by decide +kernel
theorem dX6_init_1 : decode cX6_init 1 = .ok (.invokespecial 1, 3) := by decide +kernel
theorem dX6_init_4 : decode cX6_init 4 = .ok (.new 7, 3) := by decide +kernel
theorem dX6_init_7 : decode cX6_init 7 = .ok (.dup, 1) := by decide +kernel
theorem dX6_init_8 : decode cX6_init 8 = .ok (.invokespecial 9, 3) := by decide +kernel
theorem dX6_init_11 : decode cX6_init 11 = .ok (.astore_n 1, 1) := by decide +kernel
theorem dX6_init_12 : decode cX6_init 12 = .ok (.aload_n 0, 1) := by decide +kernel
theorem dX6_init_13 : decode cX6_init 13 = .ok (.new 10, 3) := by decide +kernel
theorem dX6_init_16 : decode cX6_init 16 = .ok (.dup, 1) := by decide +kernel
theorem dX6_init_17 : decode cX6_init 17 = .ok (.invokespecial 12, 3) := by decide +kernel
theorem dX6_init_20 : decode cX6_init 20 = .ok (.putfield 13, 3) := by decide +kernel
theorem dX6_init_23 : decode cX6_init 23 = .ok (.aload_n 0, 1) := by decide +kernel
theorem dX6_init_24 : decode cX6_init 24 = .ok (.new 19, 3) := by decide +kernel
theorem dX6_init_27 : decode cX6_init 27 = .ok (.dup, 1) := by decide +kernel
theorem dX6_init_28 : decode cX6_init 28 = .ok (.aload_n 1, 1) := by decide +kernel
theorem dX6_init_29 : decode cX6_init 29 = .ok (.invokespecial 21, 3) := by decide +kernel
theorem dX6_init_32 : decode cX6_init 32 = .ok (.putfield 24, 3) := by decide +kernel
theorem dX6_init_35 : decode cX6_init 35 = .ok (.aload_n 0, 1) := by decide +kernel
theorem dX6_init_36 : decode cX6_init 36 = .ok (.new 19, 3) := by decide +kernel
theorem dX6_init_39 : decode cX6_init 39 = .ok (.dup, 1) := by decide +kernel
theorem dX6_init_40 : decode cX6_init 40 = .ok (.aload_n 1, 1) := by decide +kernel
theorem dX6_init_41 : decode cX6_init 41 = .ok (.invokespecial 21, 3) := by decide +kernel
theorem dX6_init_44 : decode cX6_init 44 = .ok (.putfield 28, 3) := by decide +kernel
theorem dX6_init_47 : decode cX6_init 47 = .ok (.aload_n 0, 1) := by decide +kernel
theorem dX6_init_48 : decode cX6_init 48 = .ok (.new 31, 3) := by decide +kernel
theorem dX6_init_51 : decode cX6_init 51 = .ok (.dup, 1) := by decide +kernel
theorem dX6_init_52 : decode cX6_init 52 = .ok (.invokespecial 33, 3) := by decide +kernel
theorem dX6_init_55 : decode cX6_init 55 = .ok (.putfield 34, 3) := by decide +kernel
theorem dX6_init_58 : decode cX6_init 58 = .ok (.aload_n 0, 1) := by decide +kernel
theorem dX6_init_59 : decode cX6_init 59 = .ok (.new 38, 3) := by decide +kernel
theorem dX6_init_62 : decode cX6_init 62 = .ok (.dup, 1) := by decide +kernel
theorem dX6_init_63 : decode cX6_init 63 = .ok (.invokespecial 40, 3) := by decide +kernel
theorem dX6_init_66 : decode cX6_init 66 = .ok (.putfield 41, 3) := by decide +kernel
theorem dX6_init_69 : decode cX6_init 69 = .ok (.aload_n 0, 1) := by decide +kernel
theorem dX6_init_70 : decode cX6_init 70 = .ok (.iconst 4, 1) := by decide +kernel
theorem dX6_init_71 : decode cX6_init 71 = .ok (.anewarray 45, 3) := by decide +kernel
theorem dX6_init_74 : decode cX6_init 74 = .ok (.putfield 47, 3) := by decide +kernel
theorem dX6_init_77 : decode cX6_init 77 = .ok (.iconst 0, 1) := by decide +kernel
theorem dX6_init_78 : decode cX6_init 78 = .ok (.istore_n 2, 1) := by decide +kernel
theorem dX6_init_79 : decode cX6_init 79 = .ok (.iload_n 2, 1) := by decide +kernel
theorem dX6_init_80 : decode cX6_init 80 = .ok (.iconst 4, 1) := by decide +kernel
theorem dX6_init_81 : decode cX6_init 81 = .ok (.if_icmp .ge 22, 3) := by decide +kernel
theorem dX6_init_84 : decode cX6_init 84 = .ok (.aload_n 0, 1) := by decide +kernel
theorem dX6_init_85 : decode cX6_init 85 = .ok (.getfield 47, 3) := by decide +kernel
theorem dX6_init_88 : decode cX6_init 88 = .ok (.iload_n 2, 1) := by decide +kernel
theorem dX6_init_89 : decode cX6_init 89 = .ok (.new 45, 3) := by decide +kernel
theorem dX6_init_92 : decode cX6_init 92 = .ok (.dup, 1) := by decide +kernel
theorem dX6_init_93 : decode cX6_init 93 = .ok (.invokespecial 51, 3) := by decide +kernel
theorem dX6_init_96 : decode cX6_init 96 = .ok (.aastore, 1) := by decide +kernel
theorem dX6_init_97 : decode cX6_init 97 = .ok (.iinc 2 1, 3) := by decide +kernel
theorem dX6_init_100 : decode cX6_init 100 = .ok (.goto (-21), 3) := by decide +kernel
theorem dX6_init_103 : decode cX6_init 103 = .ok (.aload_n 0, 1) := by decide +kernel
theorem dX6_init_104 : decode cX6_init 104 = .ok (.iconst 1, 1) := by decide +kernel
theorem dX6_init_105 : decode cX6_init 105 = .ok (.putfield 52, 3) := by decide +kernel
theorem dX6_init_108 : decode cX6_init 108 = .ok (.return_, 1) := by decide +kernel
theorem dX6_point_0 : decode cX6_point 0 = .ok (.iload_n 1, 1) := by decide +kernel
theorem dX6_point_1 : decode cX6_point 1 = .ok (.iconst 0, 1) := by decide +kernel
theorem dX6_point_2 : decode cX6_point 2 = .ok (.iconst 4, 1) := by decide +kernel
theorem dX6_point_3 : decode cX6_point 3 = .ok (.invokestatic 56, 3) := by decide +kernel
theorem dX6_point_6 : decode cX6_point 6 = .ok (.ifCond .eq 12, 3) := by decide +kernel
theorem dX6_point_9 : decode cX6_point 9 = .ok (.iload_n 2, 1) := by decide +kernel
theorem dX6_point_10 : decode cX6_point 10 = .ok (.iconst 0, 1) := by decide +kernel
theorem dX6_point_11 : decode cX6_point 11 = .ok (.iconst 4, 1) := by decide +kernel
theorem dX6_point_12 : decode cX6_point 12 = .ok (.invokestatic 56, 3) := by decide +kernel
theorem dX6_point_15 : decode cX6_point 15 = .ok (.ifCond .ne 6, 3) := by decide +kernel
theorem dX6_point_18 : decode cX6_point 18 = .ok (.bipush (-2), 2) := by decide +kernel
theorem dX6_point_20 : decode cX6_point 20 = .ok (.ireturn, 1) := by decide +kernel
theorem dX6_point_21 : decode cX6_point 21 = .ok (.aload_n 0, 1) := by decide +kernel
theorem dX6_point_22 : decode cX6_point 22 = .ok (.getfield 13, 3) := by decide +kernel
theorem dX6_point_25 : decode cX6_point 25 = .ok (.iload_n 1, 1) := by decide +kernel
theorem dX6_point_26 : decode cX6_point 26 = .ok (.iload_n 2, 1) := by decide +kernel
theorem dX6_point_27 : decode cX6_point 27 = .ok (.invokevirtual 60, 3) := by decide +kernel
theorem dX6_point_30 : decode cX6_point 30 = .ok (.ifCond .eq 6, 3) := by decide +kernel
theorem dX6_point_33 : decode cX6_point 33 = .ok (.bipush (-3), 2) := by decide +kernel
theorem dX6_point_35 : decode cX6_point 35 = .ok (.ireturn, 1) := by decide +kernel
theorem dX6_point_36 : decode cX6_point 36 = .ok (.aload_n 0, 1) := by decide +kernel
theorem dX6_point_37 : decode cX6_point 37 = .ok (.getfield 13, 3) := by decide +kernel
theorem dX6_point_40 : decode cX6_point 40 = .ok (.getfield 64, 3) := by decide +kernel
theorem dX6_point_43 : decode cX6_point 43 = .ok (.iconst 5, 1) := by decide +kernel
theorem dX6_point_44 : decode cX6_point 44 = .ok (.if_icmp .lt 6, 3) := by decide +kernel
theorem dX6_point_47 : decode cX6_point 47 = .ok (.bipush (-4), 2) := by decide +kernel
theorem dX6_point_49 : decode cX6_point 49 = .ok (.ireturn, 1) := by decide +kernel
theorem dX6_point_50 : decode cX6_point 50 = .ok (.aload_n 0, 1) := by decide +kernel
theorem dX6_point_51 : decode cX6_point 51 = .ok (.iconst 1, 1) := by decide +kernel
theorem dX6_point_52 : decode cX6_point 52 = .ok (.putfield 52, 3) := by decide +kernel
theorem dX6_point_55 : decode cX6_point 55 = .ok (.aload_n 0, 1) := by decide +kernel
theorem dX6_point_56 : decode cX6_point 56 = .ok (.getfield 13, 3) := by decide +kernel
theorem dX6_point_59 : decode cX6_point 59 = .ok (.iload_n 1, 1) := by decide +kernel
theorem dX6_point_60 : decode cX6_point 60 = .ok (.iload_n 2, 1) := by decide +kernel
theorem dX6_point_61 : decode cX6_point 61 = .ok (.invokevirtual 68, 3) := by decide +kernel
theorem dX6_point_64 : decode cX6_point 64 = .ok (.ireturn, 1) := by decide +kernel
theorem dX6_back_0 : decode cX6_back 0 = .ok (.aload_n 0, 1) := by decide +kernel
theorem dX6_back_1 : decode cX6_back 1 = .ok (.getfield 13, 3) := by decide +kernel
theorem dX6_back_4 : decode cX6_back 4 = .ok (.getfield 64, 3) := by decide +kernel
theorem dX6_back_7 : decode cX6_back 7 = .ok (.ifCond .gt 6, 3) := by decide +kernel
theorem dX6_back_10 : decode cX6_back 10 = .ok (.bipush (-3), 2) := by decide +kernel
theorem dX6_back_12 : decode cX6_back 12 = .ok (.ireturn, 1) := by decide +kernel
theorem dX6_back_13 : decode cX6_back 13 = .ok (.aload_n 0, 1) := by decide +kernel
theorem dX6_back_14 : decode cX6_back 14 = .ok (.getfield 13, 3) := by decide +kernel
theorem dX6_back_17 : decode cX6_back 17 = .ok (.dup, 1) := by decide +kernel
theorem dX6_back_18 : decode cX6_back 18 = .ok (.getfield 64, 3) := by decide +kernel
theorem dX6_back_21 : decode cX6_back 21 = .ok (.iconst 1, 1) := by decide +kernel
theorem dX6_back_22 : decode cX6_back 22 = .ok (.isub, 1) := by decide +kernel
theorem dX6_back_23 : decode cX6_back 23 = .ok (.putfield 64, 3) := by decide +kernel
theorem dX6_back_26 : decode cX6_back 26 = .ok (.aload_n 0, 1) := by decide +kernel
theorem dX6_back_27 : decode cX6_back 27 = .ok (.dup, 1) := by decide +kernel
theorem dX6_back_28 : decode cX6_back 28 = .ok (.getfield 72, 3) := by decide +kernel
theorem dX6_back_31 : decode cX6_back 31 = .ok (.aload_n 0, 1) := by decide +kernel
theorem dX6_back_32 : decode cX6_back 32 = .ok (.getfield 13, 3) := by decide +kernel
theorem dX6_back_35 : decode cX6_back 35 = .ok (.invokevirtual 75, 3) := by decide +kernel
theorem dX6_back_38 : decode cX6_back 38 = .ok (.iand, 1) := by decide +kernel
theorem dX6_back_39 : decode cX6_back 39 = .ok (.putfield 72, 3) := by decide +kernel
theorem dX6_back_42 : decode cX6_back 42 = .ok (.aload_n 0, 1) := by decide +kernel
theorem dX6_back_43 : decode cX6_back 43 = .ok (.iconst 1, 1) := by decide +kernel
theorem dX6_back_44 : decode cX6_back 44 = .ok (.putfield 52, 3) := by decide +kernel
theorem dX6_back_47 : decode cX6_back 47 = .ok (.aload_n 0, 1) := by decide +kernel
theorem dX6_back_48 : decode cX6_back 48 = .ok (.getfield 13, 3) := by decide +kernel
theorem dX6_back_51 : decode cX6_back 51 = .ok (.getfield 64, 3) := by decide +kernel
theorem dX6_back_54 : decode cX6_back 54 = .ok (.ireturn, 1) := by decide +kernel
theorem dX6_hold_0 : decode cX6_hold 0 = .ok (.aload_n 0, 1) := by decide +kernel
theorem dX6_hold_1 : decode cX6_hold 1 = .ok (.getfield 13, 3) := by decide +kernel
theorem dX6_hold_4 : decode cX6_hold 4 = .ok (.iload_n 1, 1) := by decide +kernel
theorem dX6_hold_5 : decode cX6_hold 5 = .ok (.invokevirtual 79, 3) := by decide +kernel
theorem dX6_hold_8 : decode cX6_hold 8 = .ok (.ifCond .eq 12, 3) := by decide +kernel
theorem dX6_hold_11 : decode cX6_hold 11 = .ok (.iload_n 2, 1) := by decide +kernel
theorem dX6_hold_12 : decode cX6_hold 12 = .ok (.iconst 0, 1) := by decide +kernel
theorem dX6_hold_13 : decode cX6_hold 13 = .ok (.iconst 3, 1) := by decide +kernel
theorem dX6_hold_14 : decode cX6_hold 14 = .ok (.invokestatic 56, 3) := by decide +kernel
theorem dX6_hold_17 : decode cX6_hold 17 = .ok (.ifCond .ne 6, 3) := by decide +kernel
theorem dX6_hold_20 : decode cX6_hold 20 = .ok (.bipush (-2), 2) := by decide +kernel
theorem dX6_hold_22 : decode cX6_hold 22 = .ok (.ireturn, 1) := by decide +kernel
theorem dX6_hold_23 : decode cX6_hold 23 = .ok (.aload_n 0, 1) := by decide +kernel
theorem dX6_hold_24 : decode cX6_hold 24 = .ok (.getfield 13, 3) := by decide +kernel
theorem dX6_hold_27 : decode cX6_hold 27 = .ok (.getfield 83, 3) := by decide +kernel
theorem dX6_hold_30 : decode cX6_hold 30 = .ok (.iload_n 1, 1) := by decide +kernel
theorem dX6_hold_31 : decode cX6_hold 31 = .ok (.iaload, 1) := by decide +kernel
theorem dX6_hold_32 : decode cX6_hold 32 = .ok (.istore_n 3, 1) := by decide +kernel
theorem dX6_hold_33 : decode cX6_hold 33 = .ok (.aload_n 0, 1) := by decide +kernel
theorem dX6_hold_34 : decode cX6_hold 34 = .ok (.getfield 13, 3) := by decide +kernel
theorem dX6_hold_37 : decode cX6_hold 37 = .ok (.getfield 83, 3) := by decide +kernel
theorem dX6_hold_40 : decode cX6_hold 40 = .ok (.iload_n 1, 1) := by decide +kernel
theorem dX6_hold_41 : decode cX6_hold 41 = .ok (.iload_n 2, 1) := by decide +kernel
theorem dX6_hold_42 : decode cX6_hold 42 = .ok (.iastore, 1) := by decide +kernel
theorem dX6_hold_43 : decode cX6_hold 43 = .ok (.aload_n 0, 1) := by decide +kernel
theorem dX6_hold_44 : decode cX6_hold 44 = .ok (.iconst 1, 1) := by decide +kernel
theorem dX6_hold_45 : decode cX6_hold 45 = .ok (.putfield 52, 3) := by decide +kernel
theorem dX6_hold_48 : decode cX6_hold 48 = .ok (.iload_n 3, 1) := by decide +kernel
theorem dX6_hold_49 : decode cX6_hold 49 = .ok (.ireturn, 1) := by decide +kernel
theorem dX6_load_0 : decode cX6_load 0 = .ok (.aload_n 0, 1) := by decide +kernel
theorem dX6_load_1 : decode cX6_load 1 = .ok (.getfield 13, 3) := by decide +kernel
theorem dX6_load_4 : decode cX6_load 4 = .ok (.iload_n 1, 1) := by decide +kernel
theorem dX6_load_5 : decode cX6_load 5 = .ok (.invokevirtual 79, 3) := by decide +kernel
theorem dX6_load_8 : decode cX6_load 8 = .ok (.ifCond .eq 20, 3) := by decide +kernel
theorem dX6_load_11 : decode cX6_load 11 = .ok (.iload_n 2, 1) := by decide +kernel
theorem dX6_load_12 : decode cX6_load 12 = .ok (.iconst 0, 1) := by decide +kernel
theorem dX6_load_13 : decode cX6_load 13 = .ok (.iconst 1, 1) := by decide +kernel
theorem dX6_load_14 : decode cX6_load 14 = .ok (.invokestatic 56, 3) := by decide +kernel
theorem dX6_load_17 : decode cX6_load 17 = .ok (.ifCond .eq 11, 3) := by decide +kernel
theorem dX6_load_20 : decode cX6_load 20 = .ok (.iload_n 3, 1) := by decide +kernel
theorem dX6_load_21 : decode cX6_load 21 = .ok (.i2l, 1) := by decide +kernel
theorem dX6_load_22 : decode cX6_load 22 = .ok (.invokestatic 87, 3) := by decide +kernel
theorem dX6_load_25 : decode cX6_load 25 = .ok (.ifCond .ne 6, 3) := by decide +kernel
theorem dX6_load_28 : decode cX6_load 28 = .ok (.ldc 91, 2) := by decide +kernel
theorem dX6_load_30 : decode cX6_load 30 = .ok (.ireturn, 1) := by decide +kernel
theorem dX6_load_31 : decode cX6_load 31 = .ok (.aload_n 0, 1) := by decide +kernel
theorem dX6_load_32 : decode cX6_load 32 = .ok (.getfield 13, 3) := by decide +kernel
theorem dX6_load_35 : decode cX6_load 35 = .ok (.getfield 92, 3) := by decide +kernel
theorem dX6_load_38 : decode cX6_load 38 = .ok (.iconst 2, 1) := by decide +kernel
theorem dX6_load_39 : decode cX6_load 39 = .ok (.iload_n 1, 1) := by decide +kernel
theorem dX6_load_40 : decode cX6_load 40 = .ok (.imul, 1) := by decide +kernel
theorem dX6_load_41 : decode cX6_load 41 = .ok (.iload_n 2, 1) := by decide +kernel
theorem dX6_load_42 : decode cX6_load 42 = .ok (.iadd, 1) := by decide +kernel
theorem dX6_load_43 : decode cX6_load 43 = .ok (.iaload, 1) := by decide +kernel
theorem dX6_load_44 : decode cX6_load 44 = .ok (.istore 4, 2) := by decide +kernel
theorem dX6_load_46 : decode cX6_load 46 = .ok (.aload_n 0, 1) := by decide +kernel
theorem dX6_load_47 : decode cX6_load 47 = .ok (.getfield 13, 3) := by decide +kernel
theorem dX6_load_50 : decode cX6_load 50 = .ok (.getfield 92, 3) := by decide +kernel
theorem dX6_load_53 : decode cX6_load 53 = .ok (.iconst 2, 1) := by decide +kernel
theorem dX6_load_54 : decode cX6_load 54 = .ok (.iload_n 1, 1) := by decide +kernel
theorem dX6_load_55 : decode cX6_load 55 = .ok (.imul, 1) := by decide +kernel
theorem dX6_load_56 : decode cX6_load 56 = .ok (.iload_n 2, 1) := by decide +kernel
theorem dX6_load_57 : decode cX6_load 57 = .ok (.iadd, 1) := by decide +kernel
theorem dX6_load_58 : decode cX6_load 58 = .ok (.iload_n 3, 1) := by decide +kernel
theorem dX6_load_59 : decode cX6_load 59 = .ok (.iastore, 1) := by decide +kernel
theorem dX6_load_60 : decode cX6_load 60 = .ok (.aload_n 0, 1) := by decide +kernel
theorem dX6_load_61 : decode cX6_load 61 = .ok (.iconst 1, 1) := by decide +kernel
theorem dX6_load_62 : decode cX6_load 62 = .ok (.putfield 52, 3) := by decide +kernel
theorem dX6_load_65 : decode cX6_load 65 = .ok (.iload 4, 2) := by decide +kernel
theorem dX6_load_67 : decode cX6_load 67 = .ok (.ireturn, 1) := by decide +kernel
theorem dX6_bar_0 : decode cX6_bar 0 = .ok (.aload_n 0, 1) := by decide +kernel
theorem dX6_bar_1 : decode cX6_bar 1 = .ok (.getfield 13, 3) := by decide +kernel
theorem dX6_bar_4 : decode cX6_bar 4 = .ok (.iload_n 1, 1) := by decide +kernel
theorem dX6_bar_5 : decode cX6_bar 5 = .ok (.invokevirtual 95, 3) := by decide +kernel
theorem dX6_bar_8 : decode cX6_bar 8 = .ok (.ifCond .ne 6, 3) := by decide +kernel
theorem dX6_bar_11 : decode cX6_bar 11 = .ok (.bipush (-2), 2) := by decide +kernel
theorem dX6_bar_13 : decode cX6_bar 13 = .ok (.ireturn, 1) := by decide +kernel
theorem dX6_bar_14 : decode cX6_bar 14 = .ok (.aload_n 0, 1) := by decide +kernel
theorem dX6_bar_15 : decode cX6_bar 15 = .ok (.dup, 1) := by decide +kernel
theorem dX6_bar_16 : decode cX6_bar 16 = .ok (.getfield 72, 3) := by decide +kernel
theorem dX6_bar_19 : decode cX6_bar 19 = .ok (.iconst 1, 1) := by decide +kernel
theorem dX6_bar_20 : decode cX6_bar 20 = .ok (.iload_n 1, 1) := by decide +kernel
theorem dX6_bar_21 : decode cX6_bar 21 = .ok (.ishl, 1) := by decide +kernel
theorem dX6_bar_22 : decode cX6_bar 22 = .ok (.ixor, 1) := by decide +kernel
theorem dX6_bar_23 : decode cX6_bar 23 = .ok (.putfield 72, 3) := by decide +kernel
theorem dX6_bar_26 : decode cX6_bar 26 = .ok (.aload_n 0, 1) := by decide +kernel
theorem dX6_bar_27 : decode cX6_bar 27 = .ok (.getfield 72, 3) := by decide +kernel
theorem dX6_bar_30 : decode cX6_bar 30 = .ok (.ireturn, 1) := by decide +kernel
theorem dX6_all_0 : decode cX6_all 0 = .ok (.aload_n 0, 1) := by decide +kernel
theorem dX6_all_1 : decode cX6_all 1 = .ok (.aload_n 0, 1) := by decide +kernel
theorem dX6_all_2 : decode cX6_all 2 = .ok (.getfield 13, 3) := by decide +kernel
theorem dX6_all_5 : decode cX6_all 5 = .ok (.invokevirtual 75, 3) := by decide +kernel
theorem dX6_all_8 : decode cX6_all 8 = .ok (.putfield 72, 3) := by decide +kernel
theorem dX6_all_11 : decode cX6_all 11 = .ok (.aload_n 0, 1) := by decide +kernel
theorem dX6_all_12 : decode cX6_all 12 = .ok (.getfield 13, 3) := by decide +kernel
theorem dX6_all_15 : decode cX6_all 15 = .ok (.invokevirtual 98, 3) := by decide +kernel
theorem dX6_all_18 : decode cX6_all 18 = .ok (.ireturn, 1) := by decide +kernel
theorem dX6_read_0 : decode cX6_read 0 = .ok (.iload_n 1, 1) := by decide +kernel
theorem dX6_read_1 : decode cX6_read 1 = .ok (.invokestatic 101, 3) := by decide +kernel
theorem dX6_read_4 : decode cX6_read 4 = .ok (.ifCond .ne 6, 3) := by decide +kernel
theorem dX6_read_7 : decode cX6_read 7 = .ok (.bipush (-2), 2) := by decide +kernel
theorem dX6_read_9 : decode cX6_read 9 = .ok (.ireturn, 1) := by decide +kernel
theorem dX6_read_10 : decode cX6_read 10 = .ok (.aload_n 0, 1) := by decide +kernel
theorem dX6_read_11 : decode cX6_read 11 = .ok (.getfield 47, 3) := by decide +kernel
theorem dX6_read_14 : decode cX6_read 14 = .ok (.iload_n 1, 1) := by decide +kernel
theorem dX6_read_15 : decode cX6_read 15 = .ok (.aaload, 1) := by decide +kernel
theorem dX6_read_16 : decode cX6_read 16 = .ok (.astore_n 2, 1) := by decide +kernel
theorem dX6_read_17 : decode cX6_read 17 = .ok (.aload_n 2, 1) := by decide +kernel
theorem dX6_read_18 : decode cX6_read 18 = .ok (.getfield 104, 3) := by decide +kernel
theorem dX6_read_21 : decode cX6_read 21 = .ok (.ifCond .eq 9, 3) := by decide +kernel
theorem dX6_read_24 : decode cX6_read 24 = .ok (.aload_n 0, 1) := by decide +kernel
theorem dX6_read_25 : decode cX6_read 25 = .ok (.iconst 1, 1) := by decide +kernel
theorem dX6_read_26 : decode cX6_read 26 = .ok (.invokevirtual 107, 3) := by decide +kernel
theorem dX6_read_29 : decode cX6_read 29 = .ok (.ireturn, 1) := by decide +kernel
theorem dX6_read_30 : decode cX6_read 30 = .ok (.aload_n 2, 1) := by decide +kernel
theorem dX6_read_31 : decode cX6_read 31 = .ok (.getfield 111, 3) := by decide +kernel
theorem dX6_read_34 : decode cX6_read 34 = .ok (.iconst 2, 1) := by decide +kernel
theorem dX6_read_35 : decode cX6_read 35 = .ok (.aload_n 0, 1) := by decide +kernel
theorem dX6_read_36 : decode cX6_read 36 = .ok (.getfield 13, 3) := by decide +kernel
theorem dX6_read_39 : decode cX6_read 39 = .ok (.getfield 64, 3) := by decide +kernel
theorem dX6_read_42 : decode cX6_read 42 = .ok (.imul, 1) := by decide +kernel
theorem dX6_read_43 : decode cX6_read 43 = .ok (.invokestatic 112, 3) := by decide +kernel
theorem dX6_read_46 : decode cX6_read 46 = .ok (.istore_n 3, 1) := by decide +kernel
theorem dX6_read_47 : decode cX6_read 47 = .ok (.iconst 0, 1) := by decide +kernel
theorem dX6_read_48 : decode cX6_read 48 = .ok (.istore 4, 2) := by decide +kernel
theorem dX6_read_50 : decode cX6_read 50 = .ok (.iload 4, 2) := by decide +kernel
theorem dX6_read_52 : decode cX6_read 52 = .ok (.iload_n 3, 1) := by decide +kernel
theorem dX6_read_53 : decode cX6_read 53 = .ok (.if_icmp .ge 40, 3) := by decide +kernel
theorem dX6_read_56 : decode cX6_read 56 = .ok (.aload_n 2, 1) := by decide +kernel
theorem dX6_read_57 : decode cX6_read 57 = .ok (.getfield 117, 3) := by decide +kernel
theorem dX6_read_60 : decode cX6_read 60 = .ok (.iload 4, 2) := by decide +kernel
theorem dX6_read_62 : decode cX6_read 62 = .ok (.laload, 1) := by decide +kernel
theorem dX6_read_63 : decode cX6_read 63 = .ok (.invokestatic 87, 3) := by decide +kernel
theorem dX6_read_66 : decode cX6_read 66 = .ok (.ifCond .eq 27, 3) := by decide +kernel
theorem dX6_read_69 : decode cX6_read 69 = .ok (.aload_n 0, 1) := by decide +kernel
theorem dX6_read_70 : decode cX6_read 70 = .ok (.getfield 13, 3) := by decide +kernel
theorem dX6_read_73 : decode cX6_read 73 = .ok (.getfield 92, 3) := by decide +kernel
theorem dX6_read_76 : decode cX6_read 76 = .ok (.iload 4, 2) := by decide +kernel
theorem dX6_read_78 : decode cX6_read 78 = .ok (.aload_n 2, 1) := by decide +kernel
theorem dX6_read_79 : decode cX6_read 79 = .ok (.getfield 117, 3) := by decide +kernel
theorem dX6_read_82 : decode cX6_read 82 = .ok (.iload 4, 2) := by decide +kernel
theorem dX6_read_84 : decode cX6_read 84 = .ok (.laload, 1) := by decide +kernel
theorem dX6_read_85 : decode cX6_read 85 = .ok (.l2i, 1) := by decide +kernel
theorem dX6_read_86 : decode cX6_read 86 = .ok (.iastore, 1) := by decide +kernel
theorem dX6_read_87 : decode cX6_read 87 = .ok (.iinc 4 1, 3) := by decide +kernel
theorem dX6_read_90 : decode cX6_read 90 = .ok (.goto (-40), 3) := by decide +kernel
theorem dX6_read_93 : decode cX6_read 93 = .ok (.aload_n 0, 1) := by decide +kernel
theorem dX6_read_94 : decode cX6_read 94 = .ok (.iconst 1, 1) := by decide +kernel
theorem dX6_read_95 : decode cX6_read 95 = .ok (.putfield 52, 3) := by decide +kernel
theorem dX6_read_98 : decode cX6_read 98 = .ok (.iload 4, 2) := by decide +kernel
theorem dX6_read_100 : decode cX6_read 100 = .ok (.ireturn, 1) := by decide +kernel
theorem dX6_info_0 : decode cX6_info 0 = .ok (.aload_n 0, 1) := by decide +kernel
theorem dX6_info_1 : decode cX6_info 1 = .ok (.getfield 13, 3) := by decide +kernel
theorem dX6_info_4 : decode cX6_info 4 = .ok (.iload_n 1, 1) := by decide +kernel
theorem dX6_info_5 : decode cX6_info 5 = .ok (.invokevirtual 79, 3) := by decide +kernel
theorem dX6_info_8 : decode cX6_info 8 = .ok (.ifCond .ne 6, 3) := by decide +kernel
theorem dX6_info_11 : decode cX6_info 11 = .ok (.ldc 91, 2) := by decide +kernel
theorem dX6_info_13 : decode cX6_info 13 = .ok (.ireturn, 1) := by decide +kernel
theorem dX6_info_14 : decode cX6_info 14 = .ok (.iload_n 2, 1) := by decide +kernel
theorem dX6_info_15 : decode cX6_info 15 = .ok (.tableswitch 129 0 6 #[41, 53, 67, 77, 89, 103, 115], 41) := by decide +kernel
theorem dX6_info_56 : decode cX6_info 56 = .ok (.aload_n 0, 1) := by decide +kernel
theorem dX6_info_57 : decode cX6_info 57 = .ok (.getfield 13, 3) := by decide +kernel
theorem dX6_info_60 : decode cX6_info 60 = .ok (.getfield 121, 3) := by decide +kernel
theorem dX6_info_63 : decode cX6_info 63 = .ok (.iconst 2, 1) := by decide +kernel
theorem dX6_info_64 : decode cX6_info 64 = .ok (.iload_n 1, 1) := by decide +kernel
theorem dX6_info_65 : decode cX6_info 65 = .ok (.imul, 1) := by decide +kernel
theorem dX6_info_66 : decode cX6_info 66 = .ok (.iaload, 1) := by decide +kernel
theorem dX6_info_67 : decode cX6_info 67 = .ok (.ireturn, 1) := by decide +kernel
theorem dX6_info_68 : decode cX6_info 68 = .ok (.aload_n 0, 1) := by decide +kernel
theorem dX6_info_69 : decode cX6_info 69 = .ok (.getfield 13, 3) := by decide +kernel
theorem dX6_info_72 : decode cX6_info 72 = .ok (.getfield 121, 3) := by decide +kernel
theorem dX6_info_75 : decode cX6_info 75 = .ok (.iconst 2, 1) := by decide +kernel
theorem dX6_info_76 : decode cX6_info 76 = .ok (.iload_n 1, 1) := by decide +kernel
theorem dX6_info_77 : decode cX6_info 77 = .ok (.imul, 1) := by decide +kernel
theorem dX6_info_78 : decode cX6_info 78 = .ok (.iconst 1, 1) := by decide +kernel
theorem dX6_info_79 : decode cX6_info 79 = .ok (.iadd, 1) := by decide +kernel
theorem dX6_info_80 : decode cX6_info 80 = .ok (.iaload, 1) := by decide +kernel
theorem dX6_info_81 : decode cX6_info 81 = .ok (.ireturn, 1) := by decide +kernel
theorem dX6_info_82 : decode cX6_info 82 = .ok (.aload_n 0, 1) := by decide +kernel
theorem dX6_info_83 : decode cX6_info 83 = .ok (.getfield 13, 3) := by decide +kernel
theorem dX6_info_86 : decode cX6_info 86 = .ok (.getfield 83, 3) := by decide +kernel
theorem dX6_info_89 : decode cX6_info 89 = .ok (.iload_n 1, 1) := by decide +kernel
theorem dX6_info_90 : decode cX6_info 90 = .ok (.iaload, 1) := by decide +kernel
theorem dX6_info_91 : decode cX6_info 91 = .ok (.ireturn, 1) := by decide +kernel
theorem dX6_info_92 : decode cX6_info 92 = .ok (.aload_n 0, 1) := by decide +kernel
theorem dX6_info_93 : decode cX6_info 93 = .ok (.getfield 13, 3) := by decide +kernel
theorem dX6_info_96 : decode cX6_info 96 = .ok (.getfield 92, 3) := by decide +kernel
theorem dX6_info_99 : decode cX6_info 99 = .ok (.iconst 2, 1) := by decide +kernel
theorem dX6_info_100 : decode cX6_info 100 = .ok (.iload_n 1, 1) := by decide +kernel
theorem dX6_info_101 : decode cX6_info 101 = .ok (.imul, 1) := by decide +kernel
theorem dX6_info_102 : decode cX6_info 102 = .ok (.iaload, 1) := by decide +kernel
theorem dX6_info_103 : decode cX6_info 103 = .ok (.ireturn, 1) := by decide +kernel
theorem dX6_info_104 : decode cX6_info 104 = .ok (.aload_n 0, 1) := by decide +kernel
theorem dX6_info_105 : decode cX6_info 105 = .ok (.getfield 13, 3) := by decide +kernel
theorem dX6_info_108 : decode cX6_info 108 = .ok (.getfield 92, 3) := by decide +kernel
theorem dX6_info_111 : decode cX6_info 111 = .ok (.iconst 2, 1) := by decide +kernel
theorem dX6_info_112 : decode cX6_info 112 = .ok (.iload_n 1, 1) := by decide +kernel
theorem dX6_info_113 : decode cX6_info 113 = .ok (.imul, 1) := by decide +kernel
theorem dX6_info_114 : decode cX6_info 114 = .ok (.iconst 1, 1) := by decide +kernel
theorem dX6_info_115 : decode cX6_info 115 = .ok (.iadd, 1) := by decide +kernel
theorem dX6_info_116 : decode cX6_info 116 = .ok (.iaload, 1) := by decide +kernel
theorem dX6_info_117 : decode cX6_info 117 = .ok (.ireturn, 1) := by decide +kernel
theorem dX6_info_118 : decode cX6_info 118 = .ok (.aload_n 0, 1) := by decide +kernel
theorem dX6_info_119 : decode cX6_info 119 = .ok (.getfield 13, 3) := by decide +kernel
theorem dX6_info_122 : decode cX6_info 122 = .ok (.getfield 124, 3) := by decide +kernel
theorem dX6_info_125 : decode cX6_info 125 = .ok (.iconst 2, 1) := by decide +kernel
theorem dX6_info_126 : decode cX6_info 126 = .ok (.iload_n 1, 1) := by decide +kernel
theorem dX6_info_127 : decode cX6_info 127 = .ok (.imul, 1) := by decide +kernel
theorem dX6_info_128 : decode cX6_info 128 = .ok (.iaload, 1) := by decide +kernel
theorem dX6_info_129 : decode cX6_info 129 = .ok (.ireturn, 1) := by decide +kernel
theorem dX6_info_130 : decode cX6_info 130 = .ok (.aload_n 0, 1) := by decide +kernel
theorem dX6_info_131 : decode cX6_info 131 = .ok (.getfield 13, 3) := by decide +kernel
theorem dX6_info_134 : decode cX6_info 134 = .ok (.getfield 124, 3) := by decide +kernel
theorem dX6_info_137 : decode cX6_info 137 = .ok (.iconst 2, 1) := by decide +kernel
theorem dX6_info_138 : decode cX6_info 138 = .ok (.iload_n 1, 1) := by decide +kernel
theorem dX6_info_139 : decode cX6_info 139 = .ok (.imul, 1) := by decide +kernel
theorem dX6_info_140 : decode cX6_info 140 = .ok (.iconst 1, 1) := by decide +kernel
theorem dX6_info_141 : decode cX6_info 141 = .ok (.iadd, 1) := by decide +kernel
theorem dX6_info_142 : decode cX6_info 142 = .ok (.iaload, 1) := by decide +kernel
theorem dX6_info_143 : decode cX6_info 143 = .ok (.ireturn, 1) := by decide +kernel
theorem dX6_info_144 : decode cX6_info 144 = .ok (.ldc 91, 2) := by decide +kernel
theorem dX6_info_146 : decode cX6_info 146 = .ok (.ireturn, 1) := by decide +kernel
theorem dX6_pair_0 : decode cX6_pair 0 = .ok (.aload_n 0, 1) := by decide +kernel
theorem dX6_pair_1 : decode cX6_pair 1 = .ok (.getfield 13, 3) := by decide +kernel
theorem dX6_pair_4 : decode cX6_pair 4 = .ok (.iload_n 1, 1) := by decide +kernel
theorem dX6_pair_5 : decode cX6_pair 5 = .ok (.invokevirtual 95, 3) := by decide +kernel
theorem dX6_pair_8 : decode cX6_pair 8 = .ok (.ifCond .ne 6, 3) := by decide +kernel
theorem dX6_pair_11 : decode cX6_pair 11 = .ok (.bipush (-2), 2) := by decide +kernel
theorem dX6_pair_13 : decode cX6_pair 13 = .ok (.ireturn, 1) := by decide +kernel
theorem dX6_pair_14 : decode cX6_pair 14 = .ok (.iload_n 2, 1) := by decide +kernel
theorem dX6_pair_15 : decode cX6_pair 15 = .ok (.tableswitch 65 0 3 #[29, 35, 41, 51], 29) := by decide +kernel
theorem dX6_pair_44 : decode cX6_pair 44 = .ok (.getstatic 127, 3) := by decide +kernel
theorem dX6_pair_47 : decode cX6_pair 47 = .ok (.iload_n 1, 1) := by decide +kernel
theorem dX6_pair_48 : decode cX6_pair 48 = .ok (.iaload, 1) := by decide +kernel
theorem dX6_pair_49 : decode cX6_pair 49 = .ok (.ireturn, 1) := by decide +kernel
theorem dX6_pair_50 : decode cX6_pair 50 = .ok (.getstatic 130, 3) := by decide +kernel
theorem dX6_pair_53 : decode cX6_pair 53 = .ok (.iload_n 1, 1) := by decide +kernel
theorem dX6_pair_54 : decode cX6_pair 54 = .ok (.iaload, 1) := by decide +kernel
theorem dX6_pair_55 : decode cX6_pair 55 = .ok (.ireturn, 1) := by decide +kernel
theorem dX6_pair_56 : decode cX6_pair 56 = .ok (.aload_n 0, 1) := by decide +kernel
theorem dX6_pair_57 : decode cX6_pair 57 = .ok (.getfield 13, 3) := by decide +kernel
theorem dX6_pair_60 : decode cX6_pair 60 = .ok (.getfield 133, 3) := by decide +kernel
theorem dX6_pair_63 : decode cX6_pair 63 = .ok (.iload_n 1, 1) := by decide +kernel
theorem dX6_pair_64 : decode cX6_pair 64 = .ok (.iaload, 1) := by decide +kernel
theorem dX6_pair_65 : decode cX6_pair 65 = .ok (.ireturn, 1) := by decide +kernel
theorem dX6_pair_66 : decode cX6_pair 66 = .ok (.aload_n 0, 1) := by decide +kernel
theorem dX6_pair_67 : decode cX6_pair 67 = .ok (.iload_n 1, 1) := by decide +kernel
theorem dX6_pair_68 : decode cX6_pair 68 = .ok (.invokevirtual 136, 3) := by decide +kernel
theorem dX6_pair_71 : decode cX6_pair 71 = .ok (.ifCond .eq 7, 3) := by decide +kernel
theorem dX6_pair_74 : decode cX6_pair 74 = .ok (.iconst 1, 1) := by decide +kernel
theorem dX6_pair_75 : decode cX6_pair 75 = .ok (.goto 4, 3) := by decide +kernel
theorem dX6_pair_78 : decode cX6_pair 78 = .ok (.iconst 0, 1) := by decide +kernel
theorem dX6_pair_79 : decode cX6_pair 79 = .ok (.ireturn, 1) := by decide +kernel
theorem dX6_pair_80 : decode cX6_pair 80 = .ok (.bipush (-2), 2) := by decide +kernel
theorem dX6_pair_82 : decode cX6_pair 82 = .ok (.ireturn, 1) := by decide +kernel
theorem dX6_least_0 : decode cX6_least 0 = .ok (.iload_n 1, 1) := by decide +kernel
theorem dX6_least_1 : decode cX6_least 1 = .ok (.invokestatic 139, 3) := by decide +kernel
theorem dX6_least_4 : decode cX6_least 4 = .ok (.ifCond .ne 9, 3) := by decide +kernel
theorem dX6_least_7 : decode cX6_least 7 = .ok (.bipush (-2), 2) := by decide +kernel
theorem dX6_least_9 : decode cX6_least 9 = .ok (.invokestatic 142, 3) := by decide +kernel
theorem dX6_least_12 : decode cX6_least 12 = .ok (.lreturn, 1) := by decide +kernel
theorem dX6_least_13 : decode cX6_least 13 = .ok (.aload_n 0, 1) := by decide +kernel
theorem dX6_least_14 : decode cX6_least 14 = .ok (.getfield 24, 3) := by decide +kernel
theorem dX6_least_17 : decode cX6_least 17 = .ok (.aload_n 0, 1) := by decide +kernel
theorem dX6_least_18 : decode cX6_least 18 = .ok (.invokevirtual 146, 3) := by decide +kernel
theorem dX6_least_21 : decode cX6_least 21 = .ok (.iload_n 1, 1) := by decide +kernel
theorem dX6_least_22 : decode cX6_least 22 = .ok (.invokevirtual 149, 3) := by decide +kernel
theorem dX6_least_25 : decode cX6_least 25 = .ok (.lreturn, 1) := by decide +kernel
theorem dX6_fault_0 : decode cX6_fault 0 = .ok (.aload_n 0, 1) := by decide +kernel
theorem dX6_fault_1 : decode cX6_fault 1 = .ok (.getfield 34, 3) := by decide +kernel
theorem dX6_fault_4 : decode cX6_fault 4 = .ok (.aload_n 0, 1) := by decide +kernel
theorem dX6_fault_5 : decode cX6_fault 5 = .ok (.getfield 13, 3) := by decide +kernel
theorem dX6_fault_8 : decode cX6_fault 8 = .ok (.aload_n 0, 1) := by decide +kernel
theorem dX6_fault_9 : decode cX6_fault 9 = .ok (.getfield 72, 3) := by decide +kernel
theorem dX6_fault_12 : decode cX6_fault 12 = .ok (.invokevirtual 153, 3) := by decide +kernel
theorem dX6_fault_15 : decode cX6_fault 15 = .ok (.ireturn, 1) := by decide +kernel
theorem dX6_frame_0 : decode cX6_frame 0 = .ok (.aload_n 0, 1) := by decide +kernel
theorem dX6_frame_1 : decode cX6_frame 1 = .ok (.invokevirtual 146, 3) := by decide +kernel
theorem dX6_frame_4 : decode cX6_frame 4 = .ok (.istore_n 1, 1) := by decide +kernel
theorem dX6_frame_5 : decode cX6_frame 5 = .ok (.iload_n 1, 1) := by decide +kernel
theorem dX6_frame_6 : decode cX6_frame 6 = .ok (.ifCond .ge 8, 3) := by decide +kernel
theorem dX6_frame_9 : decode cX6_frame 9 = .ok (.bipush (-3), 2) := by decide +kernel
theorem dX6_frame_11 : decode cX6_frame 11 = .ok (.goto 12, 3) := by decide +kernel
theorem dX6_frame_14 : decode cX6_frame 14 = .ok (.aload_n 0, 1) := by decide +kernel
theorem dX6_frame_15 : decode cX6_frame 15 = .ok (.getfield 24, 3) := by decide +kernel
theorem dX6_frame_18 : decode cX6_frame 18 = .ok (.getfield 157, 3) := by decide +kernel
theorem dX6_frame_21 : decode cX6_frame 21 = .ok (.iload_n 1, 1) := by decide +kernel
theorem dX6_frame_22 : decode cX6_frame 22 = .ok (.iaload, 1) := by decide +kernel
theorem dX6_frame_23 : decode cX6_frame 23 = .ok (.ireturn, 1) := by decide +kernel
theorem dX6_pull_0 : decode cX6_pull 0 = .ok (.aload_n 0, 1) := by decide +kernel
theorem dX6_pull_1 : decode cX6_pull 1 = .ok (.getfield 13, 3) := by decide +kernel
theorem dX6_pull_4 : decode cX6_pull 4 = .ok (.iload_n 1, 1) := by decide +kernel
theorem dX6_pull_5 : decode cX6_pull 5 = .ok (.invokevirtual 95, 3) := by decide +kernel
theorem dX6_pull_8 : decode cX6_pull 8 = .ok (.ifCond .eq 10, 3) := by decide +kernel
theorem dX6_pull_11 : decode cX6_pull 11 = .ok (.iload_n 2, 1) := by decide +kernel
theorem dX6_pull_12 : decode cX6_pull 12 = .ok (.invokestatic 139, 3) := by decide +kernel
theorem dX6_pull_15 : decode cX6_pull 15 = .ok (.ifCond .ne 9, 3) := by decide +kernel
theorem dX6_pull_18 : decode cX6_pull 18 = .ok (.bipush (-2), 2) := by decide +kernel
theorem dX6_pull_20 : decode cX6_pull 20 = .ok (.invokestatic 142, 3) := by decide +kernel
theorem dX6_pull_23 : decode cX6_pull 23 = .ok (.lreturn, 1) := by decide +kernel
theorem dX6_pull_24 : decode cX6_pull 24 = .ok (.aload_n 0, 1) := by decide +kernel
theorem dX6_pull_25 : decode cX6_pull 25 = .ok (.invokevirtual 146, 3) := by decide +kernel
theorem dX6_pull_28 : decode cX6_pull 28 = .ok (.istore_n 3, 1) := by decide +kernel
theorem dX6_pull_29 : decode cX6_pull 29 = .ok (.iload_n 3, 1) := by decide +kernel
theorem dX6_pull_30 : decode cX6_pull 30 = .ok (.ifCond .ge 9, 3) := by decide +kernel
theorem dX6_pull_33 : decode cX6_pull 33 = .ok (.bipush (-3), 2) := by decide +kernel
theorem dX6_pull_35 : decode cX6_pull 35 = .ok (.invokestatic 142, 3) := by decide +kernel
theorem dX6_pull_38 : decode cX6_pull 38 = .ok (.lreturn, 1) := by decide +kernel
theorem dX6_pull_39 : decode cX6_pull 39 = .ok (.aload_n 0, 1) := by decide +kernel
theorem dX6_pull_40 : decode cX6_pull 40 = .ok (.getfield 24, 3) := by decide +kernel
theorem dX6_pull_43 : decode cX6_pull 43 = .ok (.aload_n 0, 1) := by decide +kernel
theorem dX6_pull_44 : decode cX6_pull 44 = .ok (.getfield 13, 3) := by decide +kernel
theorem dX6_pull_47 : decode cX6_pull 47 = .ok (.aload_n 0, 1) := by decide +kernel
theorem dX6_pull_48 : decode cX6_pull 48 = .ok (.getfield 24, 3) := by decide +kernel
theorem dX6_pull_51 : decode cX6_pull 51 = .ok (.getfield 157, 3) := by decide +kernel
theorem dX6_pull_54 : decode cX6_pull 54 = .ok (.iload_n 3, 1) := by decide +kernel
theorem dX6_pull_55 : decode cX6_pull 55 = .ok (.iaload, 1) := by decide +kernel
theorem dX6_pull_56 : decode cX6_pull 56 = .ok (.invokevirtual 160, 3) := by decide +kernel
theorem dX6_pull_59 : decode cX6_pull 59 = .ok (.aload_n 0, 1) := by decide +kernel
theorem dX6_pull_60 : decode cX6_pull 60 = .ok (.getfield 24, 3) := by decide +kernel
theorem dX6_pull_63 : decode cX6_pull 63 = .ok (.getfield 164, 3) := by decide +kernel
theorem dX6_pull_66 : decode cX6_pull 66 = .ok (.iload_n 1, 1) := by decide +kernel
theorem dX6_pull_67 : decode cX6_pull 67 = .ok (.laload, 1) := by decide +kernel
theorem dX6_pull_68 : decode cX6_pull 68 = .ok (.aload_n 0, 1) := by decide +kernel
theorem dX6_pull_69 : decode cX6_pull 69 = .ok (.getfield 24, 3) := by decide +kernel
theorem dX6_pull_72 : decode cX6_pull 72 = .ok (.getfield 167, 3) := by decide +kernel
theorem dX6_pull_75 : decode cX6_pull 75 = .ok (.iload_n 2, 1) := by decide +kernel
theorem dX6_pull_76 : decode cX6_pull 76 = .ok (.invokestatic 171, 3) := by decide +kernel
theorem dX6_pull_79 : decode cX6_pull 79 = .ok (.lreturn, 1) := by decide +kernel
theorem dX6_without_0 : decode cX6_without 0 = .ok (.aload_n 0, 1) := by decide +kernel
theorem dX6_without_1 : decode cX6_without 1 = .ok (.iload_n 1, 1) := by decide +kernel
theorem dX6_without_2 : decode cX6_without 2 = .ok (.invokevirtual 136, 3) := by decide +kernel
theorem dX6_without_5 : decode cX6_without 5 = .ok (.ifCond .eq 10, 3) := by decide +kernel
theorem dX6_without_8 : decode cX6_without 8 = .ok (.iload_n 2, 1) := by decide +kernel
theorem dX6_without_9 : decode cX6_without 9 = .ok (.invokestatic 139, 3) := by decide +kernel
theorem dX6_without_12 : decode cX6_without 12 = .ok (.ifCond .ne 9, 3) := by decide +kernel
theorem dX6_without_15 : decode cX6_without 15 = .ok (.bipush (-2), 2) := by decide +kernel
theorem dX6_without_17 : decode cX6_without 17 = .ok (.invokestatic 142, 3) := by decide +kernel
theorem dX6_without_20 : decode cX6_without 20 = .ok (.lreturn, 1) := by decide +kernel
theorem dX6_without_21 : decode cX6_without 21 = .ok (.aload_n 0, 1) := by decide +kernel
theorem dX6_without_22 : decode cX6_without 22 = .ok (.invokevirtual 146, 3) := by decide +kernel
theorem dX6_without_25 : decode cX6_without 25 = .ok (.ifCond .ge 9, 3) := by decide +kernel
theorem dX6_without_28 : decode cX6_without 28 = .ok (.bipush (-3), 2) := by decide +kernel
theorem dX6_without_30 : decode cX6_without 30 = .ok (.invokestatic 142, 3) := by decide +kernel
theorem dX6_without_33 : decode cX6_without 33 = .ok (.lreturn, 1) := by decide +kernel
theorem dX6_without_34 : decode cX6_without 34 = .ok (.aload_n 0, 1) := by decide +kernel
theorem dX6_without_35 : decode cX6_without 35 = .ok (.getfield 24, 3) := by decide +kernel
theorem dX6_without_38 : decode cX6_without 38 = .ok (.aload_n 0, 1) := by decide +kernel
theorem dX6_without_39 : decode cX6_without 39 = .ok (.getfield 24, 3) := by decide +kernel
theorem dX6_without_42 : decode cX6_without 42 = .ok (.aload_n 0, 1) := by decide +kernel
theorem dX6_without_43 : decode cX6_without 43 = .ok (.getfield 72, 3) := by decide +kernel
theorem dX6_without_46 : decode cX6_without 46 = .ok (.iconst 1, 1) := by decide +kernel
theorem dX6_without_47 : decode cX6_without 47 = .ok (.iload_n 1, 1) := by decide +kernel
theorem dX6_without_48 : decode cX6_without 48 = .ok (.ishl, 1) := by decide +kernel
theorem dX6_without_49 : decode cX6_without 49 = .ok (.iconst (-1), 1) := by decide +kernel
theorem dX6_without_50 : decode cX6_without 50 = .ok (.ixor, 1) := by decide +kernel
theorem dX6_without_51 : decode cX6_without 51 = .ok (.iand, 1) := by decide +kernel
theorem dX6_without_52 : decode cX6_without 52 = .ok (.invokevirtual 175, 3) := by decide +kernel
theorem dX6_without_55 : decode cX6_without 55 = .ok (.iload_n 2, 1) := by decide +kernel
theorem dX6_without_56 : decode cX6_without 56 = .ok (.invokevirtual 149, 3) := by decide +kernel
theorem dX6_without_59 : decode cX6_without 59 = .ok (.lreturn, 1) := by decide +kernel
theorem dX6_why_0 : decode cX6_why 0 = .ok (.aload_n 0, 1) := by decide +kernel
theorem dX6_why_1 : decode cX6_why 1 = .ok (.iload_n 1, 1) := by decide +kernel
theorem dX6_why_2 : decode cX6_why 2 = .ok (.invokevirtual 136, 3) := by decide +kernel
theorem dX6_why_5 : decode cX6_why 5 = .ok (.ifCond .ne 6, 3) := by decide +kernel
theorem dX6_why_8 : decode cX6_why 8 = .ok (.bipush (-2), 2) := by decide +kernel
theorem dX6_why_10 : decode cX6_why 10 = .ok (.ireturn, 1) := by decide +kernel
theorem dX6_why_11 : decode cX6_why 11 = .ok (.aload_n 0, 1) := by decide +kernel
theorem dX6_why_12 : decode cX6_why 12 = .ok (.getfield 34, 3) := by decide +kernel
theorem dX6_why_15 : decode cX6_why 15 = .ok (.aload_n 0, 1) := by decide +kernel
theorem dX6_why_16 : decode cX6_why 16 = .ok (.getfield 13, 3) := by decide +kernel
theorem dX6_why_19 : decode cX6_why 19 = .ok (.aload_n 0, 1) := by decide +kernel
theorem dX6_why_20 : decode cX6_why 20 = .ok (.getfield 72, 3) := by decide +kernel
theorem dX6_why_23 : decode cX6_why 23 = .ok (.iconst 1, 1) := by decide +kernel
theorem dX6_why_24 : decode cX6_why 24 = .ok (.iload_n 1, 1) := by decide +kernel
theorem dX6_why_25 : decode cX6_why 25 = .ok (.ishl, 1) := by decide +kernel
theorem dX6_why_26 : decode cX6_why 26 = .ok (.iconst (-1), 1) := by decide +kernel
theorem dX6_why_27 : decode cX6_why 27 = .ok (.ixor, 1) := by decide +kernel
theorem dX6_why_28 : decode cX6_why 28 = .ok (.iand, 1) := by decide +kernel
theorem dX6_why_29 : decode cX6_why 29 = .ok (.invokevirtual 153, 3) := by decide +kernel
theorem dX6_why_32 : decode cX6_why 32 = .ok (.ireturn, 1) := by decide +kernel
theorem dX6_needed_0 : decode cX6_needed 0 = .ok (.aload_n 0, 1) := by decide +kernel
theorem dX6_needed_1 : decode cX6_needed 1 = .ok (.invokevirtual 146, 3) := by decide +kernel
theorem dX6_needed_4 : decode cX6_needed 4 = .ok (.istore_n 1, 1) := by decide +kernel
theorem dX6_needed_5 : decode cX6_needed 5 = .ok (.iload_n 1, 1) := by decide +kernel
theorem dX6_needed_6 : decode cX6_needed 6 = .ok (.ifCond .ge 6, 3) := by decide +kernel
theorem dX6_needed_9 : decode cX6_needed 9 = .ok (.bipush (-3), 2) := by decide +kernel
theorem dX6_needed_11 : decode cX6_needed 11 = .ok (.ireturn, 1) := by decide +kernel
theorem dX6_needed_12 : decode cX6_needed 12 = .ok (.aload_n 0, 1) := by decide +kernel
theorem dX6_needed_13 : decode cX6_needed 13 = .ok (.getfield 24, 3) := by decide +kernel
theorem dX6_needed_16 : decode cX6_needed 16 = .ok (.getfield 157, 3) := by decide +kernel
theorem dX6_needed_19 : decode cX6_needed 19 = .ok (.iload_n 1, 1) := by decide +kernel
theorem dX6_needed_20 : decode cX6_needed 20 = .ok (.iaload, 1) := by decide +kernel
theorem dX6_needed_21 : decode cX6_needed 21 = .ok (.istore_n 2, 1) := by decide +kernel
theorem dX6_needed_22 : decode cX6_needed 22 = .ok (.iconst 0, 1) := by decide +kernel
theorem dX6_needed_23 : decode cX6_needed 23 = .ok (.istore_n 3, 1) := by decide +kernel
theorem dX6_needed_24 : decode cX6_needed 24 = .ok (.iconst 0, 1) := by decide +kernel
theorem dX6_needed_25 : decode cX6_needed 25 = .ok (.istore 4, 2) := by decide +kernel
theorem dX6_needed_27 : decode cX6_needed 27 = .ok (.iload 4, 2) := by decide +kernel
theorem dX6_needed_29 : decode cX6_needed 29 = .ok (.bipush 10, 2) := by decide +kernel
theorem dX6_needed_31 : decode cX6_needed 31 = .ok (.if_icmp .ge 54, 3) := by decide +kernel
theorem dX6_needed_34 : decode cX6_needed 34 = .ok (.iconst 1, 1) := by decide +kernel
theorem dX6_needed_35 : decode cX6_needed 35 = .ok (.iload 4, 2) := by decide +kernel
theorem dX6_needed_37 : decode cX6_needed 37 = .ok (.ishl, 1) := by decide +kernel
theorem dX6_needed_38 : decode cX6_needed 38 = .ok (.istore 5, 2) := by decide +kernel
theorem dX6_needed_40 : decode cX6_needed 40 = .ok (.iload_n 2, 1) := by decide +kernel
theorem dX6_needed_41 : decode cX6_needed 41 = .ok (.iload 5, 2) := by decide +kernel
theorem dX6_needed_43 : decode cX6_needed 43 = .ok (.iand, 1) := by decide +kernel
theorem dX6_needed_44 : decode cX6_needed 44 = .ok (.ifCond .eq 35, 3) := by decide +kernel
theorem dX6_needed_47 : decode cX6_needed 47 = .ok (.aload_n 0, 1) := by decide +kernel
theorem dX6_needed_48 : decode cX6_needed 48 = .ok (.getfield 24, 3) := by decide +kernel
theorem dX6_needed_51 : decode cX6_needed 51 = .ok (.aload_n 0, 1) := by decide +kernel
theorem dX6_needed_52 : decode cX6_needed 52 = .ok (.getfield 24, 3) := by decide +kernel
theorem dX6_needed_55 : decode cX6_needed 55 = .ok (.aload_n 0, 1) := by decide +kernel
theorem dX6_needed_56 : decode cX6_needed 56 = .ok (.getfield 72, 3) := by decide +kernel
theorem dX6_needed_59 : decode cX6_needed 59 = .ok (.iload 5, 2) := by decide +kernel
theorem dX6_needed_61 : decode cX6_needed 61 = .ok (.iconst (-1), 1) := by decide +kernel
theorem dX6_needed_62 : decode cX6_needed 62 = .ok (.ixor, 1) := by decide +kernel
theorem dX6_needed_63 : decode cX6_needed 63 = .ok (.iand, 1) := by decide +kernel
theorem dX6_needed_64 : decode cX6_needed 64 = .ok (.invokevirtual 175, 3) := by decide +kernel
theorem dX6_needed_67 : decode cX6_needed 67 = .ok (.iload_n 1, 1) := by decide +kernel
theorem dX6_needed_68 : decode cX6_needed 68 = .ok (.invokevirtual 178, 3) := by decide +kernel
theorem dX6_needed_71 : decode cX6_needed 71 = .ok (.ifCond .eq 8, 3) := by decide +kernel
theorem dX6_needed_74 : decode cX6_needed 74 = .ok (.iload_n 3, 1) := by decide +kernel
theorem dX6_needed_75 : decode cX6_needed 75 = .ok (.iload 5, 2) := by decide +kernel
theorem dX6_needed_77 : decode cX6_needed 77 = .ok (.ior, 1) := by decide +kernel
theorem dX6_needed_78 : decode cX6_needed 78 = .ok (.istore_n 3, 1) := by decide +kernel
theorem dX6_needed_79 : decode cX6_needed 79 = .ok (.iinc 4 1, 3) := by decide +kernel
theorem dX6_needed_82 : decode cX6_needed 82 = .ok (.goto (-55), 3) := by decide +kernel
theorem dX6_needed_85 : decode cX6_needed 85 = .ok (.iload_n 3, 1) := by decide +kernel
theorem dX6_needed_86 : decode cX6_needed 86 = .ok (.ireturn, 1) := by decide +kernel
theorem dX6_dearest_0 : decode cX6_dearest 0 = .ok (.aload_n 0, 1) := by decide +kernel
theorem dX6_dearest_1 : decode cX6_dearest 1 = .ok (.invokevirtual 181, 3) := by decide +kernel
theorem dX6_dearest_4 : decode cX6_dearest 4 = .ok (.istore_n 1, 1) := by decide +kernel
theorem dX6_dearest_5 : decode cX6_dearest 5 = .ok (.iload_n 1, 1) := by decide +kernel
theorem dX6_dearest_6 : decode cX6_dearest 6 = .ok (.ifCond .ge 6, 3) := by decide +kernel
theorem dX6_dearest_9 : decode cX6_dearest 9 = .ok (.bipush (-3), 2) := by decide +kernel
theorem dX6_dearest_11 : decode cX6_dearest 11 = .ok (.ireturn, 1) := by decide +kernel
theorem dX6_dearest_12 : decode cX6_dearest 12 = .ok (.iconst (-1), 1) := by decide +kernel
theorem dX6_dearest_13 : decode cX6_dearest 13 = .ok (.istore_n 2, 1) := by decide +kernel
theorem dX6_dearest_14 : decode cX6_dearest 14 = .ok (.iconst (-1), 1) := by decide +kernel
theorem dX6_dearest_15 : decode cX6_dearest 15 = .ok (.istore_n 3, 1) := by decide +kernel
theorem dX6_dearest_16 : decode cX6_dearest 16 = .ok (.iconst 0, 1) := by decide +kernel
theorem dX6_dearest_17 : decode cX6_dearest 17 = .ok (.istore 4, 2) := by decide +kernel
theorem dX6_dearest_19 : decode cX6_dearest 19 = .ok (.iload 4, 2) := by decide +kernel
theorem dX6_dearest_21 : decode cX6_dearest 21 = .ok (.bipush 10, 2) := by decide +kernel
theorem dX6_dearest_23 : decode cX6_dearest 23 = .ok (.if_icmp .ge 72, 3) := by decide +kernel
theorem dX6_dearest_26 : decode cX6_dearest 26 = .ok (.iload_n 1, 1) := by decide +kernel
theorem dX6_dearest_27 : decode cX6_dearest 27 = .ok (.iload 4, 2) := by decide +kernel
theorem dX6_dearest_29 : decode cX6_dearest 29 = .ok (.ishr, 1) := by decide +kernel
theorem dX6_dearest_30 : decode cX6_dearest 30 = .ok (.iconst 1, 1) := by decide +kernel
theorem dX6_dearest_31 : decode cX6_dearest 31 = .ok (.iand, 1) := by decide +kernel
theorem dX6_dearest_32 : decode cX6_dearest 32 = .ok (.ifCond .ne 6, 3) := by decide +kernel
theorem dX6_dearest_35 : decode cX6_dearest 35 = .ok (.goto 54, 3) := by decide +kernel
theorem dX6_dearest_38 : decode cX6_dearest 38 = .ok (.aload_n 0, 1) := by decide +kernel
theorem dX6_dearest_39 : decode cX6_dearest 39 = .ok (.getfield 24, 3) := by decide +kernel
theorem dX6_dearest_42 : decode cX6_dearest 42 = .ok (.aload_n 0, 1) := by decide +kernel
theorem dX6_dearest_43 : decode cX6_dearest 43 = .ok (.getfield 72, 3) := by decide +kernel
theorem dX6_dearest_46 : decode cX6_dearest 46 = .ok (.iconst 1, 1) := by decide +kernel
theorem dX6_dearest_47 : decode cX6_dearest 47 = .ok (.iload 4, 2) := by decide +kernel
theorem dX6_dearest_49 : decode cX6_dearest 49 = .ok (.ishl, 1) := by decide +kernel
theorem dX6_dearest_50 : decode cX6_dearest 50 = .ok (.iconst (-1), 1) := by decide +kernel
theorem dX6_dearest_51 : decode cX6_dearest 51 = .ok (.ixor, 1) := by decide +kernel
theorem dX6_dearest_52 : decode cX6_dearest 52 = .ok (.iand, 1) := by decide +kernel
theorem dX6_dearest_53 : decode cX6_dearest 53 = .ok (.invokevirtual 175, 3) := by decide +kernel
theorem dX6_dearest_56 : decode cX6_dearest 56 = .ok (.istore 5, 2) := by decide +kernel
theorem dX6_dearest_58 : decode cX6_dearest 58 = .ok (.iload 5, 2) := by decide +kernel
theorem dX6_dearest_60 : decode cX6_dearest 60 = .ok (.ifCond .ge 6, 3) := by decide +kernel
theorem dX6_dearest_63 : decode cX6_dearest 63 = .ok (.iload 4, 2) := by decide +kernel
theorem dX6_dearest_65 : decode cX6_dearest 65 = .ok (.ireturn, 1) := by decide +kernel
theorem dX6_dearest_66 : decode cX6_dearest 66 = .ok (.iload_n 2, 1) := by decide +kernel
theorem dX6_dearest_67 : decode cX6_dearest 67 = .ok (.ifCond .lt 16, 3) := by decide +kernel
theorem dX6_dearest_70 : decode cX6_dearest 70 = .ok (.aload_n 0, 1) := by decide +kernel
theorem dX6_dearest_71 : decode cX6_dearest 71 = .ok (.getfield 24, 3) := by decide +kernel
theorem dX6_dearest_74 : decode cX6_dearest 74 = .ok (.iload 5, 2) := by decide +kernel
theorem dX6_dearest_76 : decode cX6_dearest 76 = .ok (.iload_n 3, 1) := by decide +kernel
theorem dX6_dearest_77 : decode cX6_dearest 77 = .ok (.invokevirtual 178, 3) := by decide +kernel
theorem dX6_dearest_80 : decode cX6_dearest 80 = .ok (.ifCond .eq 9, 3) := by decide +kernel
theorem dX6_dearest_83 : decode cX6_dearest 83 = .ok (.iload 4, 2) := by decide +kernel
theorem dX6_dearest_85 : decode cX6_dearest 85 = .ok (.istore_n 2, 1) := by decide +kernel
theorem dX6_dearest_86 : decode cX6_dearest 86 = .ok (.iload 5, 2) := by decide +kernel
theorem dX6_dearest_88 : decode cX6_dearest 88 = .ok (.istore_n 3, 1) := by decide +kernel
theorem dX6_dearest_89 : decode cX6_dearest 89 = .ok (.iinc 4 1, 3) := by decide +kernel
theorem dX6_dearest_92 : decode cX6_dearest 92 = .ok (.goto (-73), 3) := by decide +kernel
theorem dX6_dearest_95 : decode cX6_dearest 95 = .ok (.iload_n 2, 1) := by decide +kernel
theorem dX6_dearest_96 : decode cX6_dearest 96 = .ok (.ireturn, 1) := by decide +kernel
theorem dX6_gain_0 : decode cX6_gain 0 = .ok (.aload_n 0, 1) := by decide +kernel
theorem dX6_gain_1 : decode cX6_gain 1 = .ok (.getfield 13, 3) := by decide +kernel
theorem dX6_gain_4 : decode cX6_gain 4 = .ok (.iload_n 1, 1) := by decide +kernel
theorem dX6_gain_5 : decode cX6_gain 5 = .ok (.invokevirtual 95, 3) := by decide +kernel
theorem dX6_gain_8 : decode cX6_gain 8 = .ok (.ifCond .eq 18, 3) := by decide +kernel
theorem dX6_gain_11 : decode cX6_gain 11 = .ok (.aload_n 0, 1) := by decide +kernel
theorem dX6_gain_12 : decode cX6_gain 12 = .ok (.iload_n 1, 1) := by decide +kernel
theorem dX6_gain_13 : decode cX6_gain 13 = .ok (.invokevirtual 136, 3) := by decide +kernel
theorem dX6_gain_16 : decode cX6_gain 16 = .ok (.ifCond .ne 10, 3) := by decide +kernel
theorem dX6_gain_19 : decode cX6_gain 19 = .ok (.iload_n 2, 1) := by decide +kernel
theorem dX6_gain_20 : decode cX6_gain 20 = .ok (.invokestatic 139, 3) := by decide +kernel
theorem dX6_gain_23 : decode cX6_gain 23 = .ok (.ifCond .ne 9, 3) := by decide +kernel
theorem dX6_gain_26 : decode cX6_gain 26 = .ok (.bipush (-2), 2) := by decide +kernel
theorem dX6_gain_28 : decode cX6_gain 28 = .ok (.invokestatic 142, 3) := by decide +kernel
theorem dX6_gain_31 : decode cX6_gain 31 = .ok (.lreturn, 1) := by decide +kernel
theorem dX6_gain_32 : decode cX6_gain 32 = .ok (.aload_n 0, 1) := by decide +kernel
theorem dX6_gain_33 : decode cX6_gain 33 = .ok (.invokevirtual 146, 3) := by decide +kernel
theorem dX6_gain_36 : decode cX6_gain 36 = .ok (.istore_n 3, 1) := by decide +kernel
theorem dX6_gain_37 : decode cX6_gain 37 = .ok (.iload_n 3, 1) := by decide +kernel
theorem dX6_gain_38 : decode cX6_gain 38 = .ok (.ifCond .ge 9, 3) := by decide +kernel
theorem dX6_gain_41 : decode cX6_gain 41 = .ok (.bipush (-3), 2) := by decide +kernel
theorem dX6_gain_43 : decode cX6_gain 43 = .ok (.invokestatic 142, 3) := by decide +kernel
theorem dX6_gain_46 : decode cX6_gain 46 = .ok (.lreturn, 1) := by decide +kernel
theorem dX6_gain_47 : decode cX6_gain 47 = .ok (.aload_n 0, 1) := by decide +kernel
theorem dX6_gain_48 : decode cX6_gain 48 = .ok (.getfield 24, 3) := by decide +kernel
theorem dX6_gain_51 : decode cX6_gain 51 = .ok (.iload_n 3, 1) := by decide +kernel
theorem dX6_gain_52 : decode cX6_gain 52 = .ok (.aload_n 0, 1) := by decide +kernel
theorem dX6_gain_53 : decode cX6_gain 53 = .ok (.getfield 24, 3) := by decide +kernel
theorem dX6_gain_56 : decode cX6_gain 56 = .ok (.aload_n 0, 1) := by decide +kernel
theorem dX6_gain_57 : decode cX6_gain 57 = .ok (.getfield 72, 3) := by decide +kernel
theorem dX6_gain_60 : decode cX6_gain 60 = .ok (.iconst 1, 1) := by decide +kernel
theorem dX6_gain_61 : decode cX6_gain 61 = .ok (.iload_n 1, 1) := by decide +kernel
theorem dX6_gain_62 : decode cX6_gain 62 = .ok (.ishl, 1) := by decide +kernel
theorem dX6_gain_63 : decode cX6_gain 63 = .ok (.ior, 1) := by decide +kernel
theorem dX6_gain_64 : decode cX6_gain 64 = .ok (.invokevirtual 175, 3) := by decide +kernel
theorem dX6_gain_67 : decode cX6_gain 67 = .ok (.iload_n 2, 1) := by decide +kernel
theorem dX6_gain_68 : decode cX6_gain 68 = .ok (.invokevirtual 184, 3) := by decide +kernel
theorem dX6_gain_71 : decode cX6_gain 71 = .ok (.lreturn, 1) := by decide +kernel
theorem dX6_grow_0 : decode cX6_grow 0 = .ok (.aload_n 0, 1) := by decide +kernel
theorem dX6_grow_1 : decode cX6_grow 1 = .ok (.invokevirtual 146, 3) := by decide +kernel
theorem dX6_grow_4 : decode cX6_grow 4 = .ok (.ifCond .ge 6, 3) := by decide +kernel
theorem dX6_grow_7 : decode cX6_grow 7 = .ok (.bipush (-3), 2) := by decide +kernel
theorem dX6_grow_9 : decode cX6_grow 9 = .ok (.ireturn, 1) := by decide +kernel
theorem dX6_grow_10 : decode cX6_grow 10 = .ok (.iconst 0, 1) := by decide +kernel
theorem dX6_grow_11 : decode cX6_grow 11 = .ok (.istore_n 1, 1) := by decide +kernel
theorem dX6_grow_12 : decode cX6_grow 12 = .ok (.aload_n 0, 1) := by decide +kernel
theorem dX6_grow_13 : decode cX6_grow 13 = .ok (.invokevirtual 188, 3) := by decide +kernel
theorem dX6_grow_16 : decode cX6_grow 16 = .ok (.istore_n 2, 1) := by decide +kernel
theorem dX6_grow_17 : decode cX6_grow 17 = .ok (.iload_n 1, 1) := by decide +kernel
theorem dX6_grow_18 : decode cX6_grow 18 = .ok (.bipush 10, 2) := by decide +kernel
theorem dX6_grow_20 : decode cX6_grow 20 = .ok (.if_icmp .ge 30, 3) := by decide +kernel
theorem dX6_grow_23 : decode cX6_grow 23 = .ok (.iload_n 2, 1) := by decide +kernel
theorem dX6_grow_24 : decode cX6_grow 24 = .ok (.ifCond .lt 26, 3) := by decide +kernel
theorem dX6_grow_27 : decode cX6_grow 27 = .ok (.aload_n 0, 1) := by decide +kernel
theorem dX6_grow_28 : decode cX6_grow 28 = .ok (.dup, 1) := by decide +kernel
theorem dX6_grow_29 : decode cX6_grow 29 = .ok (.getfield 72, 3) := by decide +kernel
theorem dX6_grow_32 : decode cX6_grow 32 = .ok (.iconst 1, 1) := by decide +kernel
theorem dX6_grow_33 : decode cX6_grow 33 = .ok (.iload_n 2, 1) := by decide +kernel
theorem dX6_grow_34 : decode cX6_grow 34 = .ok (.ishl, 1) := by decide +kernel
theorem dX6_grow_35 : decode cX6_grow 35 = .ok (.ior, 1) := by decide +kernel
theorem dX6_grow_36 : decode cX6_grow 36 = .ok (.putfield 72, 3) := by decide +kernel
theorem dX6_grow_39 : decode cX6_grow 39 = .ok (.iinc 1 1, 3) := by decide +kernel
theorem dX6_grow_42 : decode cX6_grow 42 = .ok (.aload_n 0, 1) := by decide +kernel
theorem dX6_grow_43 : decode cX6_grow 43 = .ok (.invokevirtual 188, 3) := by decide +kernel
theorem dX6_grow_46 : decode cX6_grow 46 = .ok (.istore_n 2, 1) := by decide +kernel
theorem dX6_grow_47 : decode cX6_grow 47 = .ok (.goto (-30), 3) := by decide +kernel
theorem dX6_grow_50 : decode cX6_grow 50 = .ok (.iload_n 1, 1) := by decide +kernel
theorem dX6_grow_51 : decode cX6_grow 51 = .ok (.ireturn, 1) := by decide +kernel
theorem dX6_prune_0 : decode cX6_prune 0 = .ok (.aload_n 0, 1) := by decide +kernel
theorem dX6_prune_1 : decode cX6_prune 1 = .ok (.invokevirtual 191, 3) := by decide +kernel
theorem dX6_prune_4 : decode cX6_prune 4 = .ok (.istore_n 1, 1) := by decide +kernel
theorem dX6_prune_5 : decode cX6_prune 5 = .ok (.iload_n 1, 1) := by decide +kernel
theorem dX6_prune_6 : decode cX6_prune 6 = .ok (.ifCond .ge 6, 3) := by decide +kernel
theorem dX6_prune_9 : decode cX6_prune 9 = .ok (.bipush (-3), 2) := by decide +kernel
theorem dX6_prune_11 : decode cX6_prune 11 = .ok (.ireturn, 1) := by decide +kernel
theorem dX6_prune_12 : decode cX6_prune 12 = .ok (.aload_n 0, 1) := by decide +kernel
theorem dX6_prune_13 : decode cX6_prune 13 = .ok (.getfield 72, 3) := by decide +kernel
theorem dX6_prune_16 : decode cX6_prune 16 = .ok (.invokestatic 194, 3) := by decide +kernel
theorem dX6_prune_19 : decode cX6_prune 19 = .ok (.iload_n 1, 1) := by decide +kernel
theorem dX6_prune_20 : decode cX6_prune 20 = .ok (.invokestatic 194, 3) := by decide +kernel
theorem dX6_prune_23 : decode cX6_prune 23 = .ok (.isub, 1) := by decide +kernel
theorem dX6_prune_24 : decode cX6_prune 24 = .ok (.istore_n 2, 1) := by decide +kernel
theorem dX6_prune_25 : decode cX6_prune 25 = .ok (.aload_n 0, 1) := by decide +kernel
theorem dX6_prune_26 : decode cX6_prune 26 = .ok (.iload_n 1, 1) := by decide +kernel
theorem dX6_prune_27 : decode cX6_prune 27 = .ok (.putfield 72, 3) := by decide +kernel
theorem dX6_prune_30 : decode cX6_prune 30 = .ok (.iload_n 2, 1) := by decide +kernel
theorem dX6_prune_31 : decode cX6_prune 31 = .ok (.ireturn, 1) := by decide +kernel
theorem dX6_would_0 : decode cX6_would 0 = .ok (.aload_n 0, 1) := by decide +kernel
theorem dX6_would_1 : decode cX6_would 1 = .ok (.getfield 13, 3) := by decide +kernel
theorem dX6_would_4 : decode cX6_would 4 = .ok (.iload_n 1, 1) := by decide +kernel
theorem dX6_would_5 : decode cX6_would 5 = .ok (.invokevirtual 79, 3) := by decide +kernel
theorem dX6_would_8 : decode cX6_would 8 = .ok (.ifCond .eq 28, 3) := by decide +kernel
theorem dX6_would_11 : decode cX6_would 11 = .ok (.iload_n 2, 1) := by decide +kernel
theorem dX6_would_12 : decode cX6_would 12 = .ok (.iconst 0, 1) := by decide +kernel
theorem dX6_would_13 : decode cX6_would 13 = .ok (.iconst 1, 1) := by decide +kernel
theorem dX6_would_14 : decode cX6_would 14 = .ok (.invokestatic 56, 3) := by decide +kernel
theorem dX6_would_17 : decode cX6_would 17 = .ok (.ifCond .eq 19, 3) := by decide +kernel
theorem dX6_would_20 : decode cX6_would 20 = .ok (.iload_n 3, 1) := by decide +kernel
theorem dX6_would_21 : decode cX6_would 21 = .ok (.i2l, 1) := by decide +kernel
theorem dX6_would_22 : decode cX6_would 22 = .ok (.invokestatic 87, 3) := by decide +kernel
theorem dX6_would_25 : decode cX6_would 25 = .ok (.ifCond .eq 11, 3) := by decide +kernel
theorem dX6_would_28 : decode cX6_would 28 = .ok (.iload 4, 2) := by decide +kernel
theorem dX6_would_30 : decode cX6_would 30 = .ok (.invokestatic 139, 3) := by decide +kernel
theorem dX6_would_33 : decode cX6_would 33 = .ok (.ifCond .ne 9, 3) := by decide +kernel
theorem dX6_would_36 : decode cX6_would 36 = .ok (.bipush (-2), 2) := by decide +kernel
theorem dX6_would_38 : decode cX6_would 38 = .ok (.invokestatic 142, 3) := by decide +kernel
theorem dX6_would_41 : decode cX6_would 41 = .ok (.lreturn, 1) := by decide +kernel
theorem dX6_would_42 : decode cX6_would 42 = .ok (.aload_n 0, 1) := by decide +kernel
theorem dX6_would_43 : decode cX6_would 43 = .ok (.getfield 13, 3) := by decide +kernel
theorem dX6_would_46 : decode cX6_would 46 = .ok (.getfield 92, 3) := by decide +kernel
theorem dX6_would_49 : decode cX6_would 49 = .ok (.iconst 2, 1) := by decide +kernel
theorem dX6_would_50 : decode cX6_would 50 = .ok (.iload_n 1, 1) := by decide +kernel
theorem dX6_would_51 : decode cX6_would 51 = .ok (.imul, 1) := by decide +kernel
theorem dX6_would_52 : decode cX6_would 52 = .ok (.iload_n 2, 1) := by decide +kernel
theorem dX6_would_53 : decode cX6_would 53 = .ok (.iadd, 1) := by decide +kernel
theorem dX6_would_54 : decode cX6_would 54 = .ok (.iaload, 1) := by decide +kernel
theorem dX6_would_55 : decode cX6_would 55 = .ok (.istore 5, 2) := by decide +kernel
theorem dX6_would_57 : decode cX6_would 57 = .ok (.aload_n 0, 1) := by decide +kernel
theorem dX6_would_58 : decode cX6_would 58 = .ok (.getfield 13, 3) := by decide +kernel
theorem dX6_would_61 : decode cX6_would 61 = .ok (.getfield 92, 3) := by decide +kernel
theorem dX6_would_64 : decode cX6_would 64 = .ok (.iconst 2, 1) := by decide +kernel
theorem dX6_would_65 : decode cX6_would 65 = .ok (.iload_n 1, 1) := by decide +kernel
theorem dX6_would_66 : decode cX6_would 66 = .ok (.imul, 1) := by decide +kernel
theorem dX6_would_67 : decode cX6_would 67 = .ok (.iload_n 2, 1) := by decide +kernel
theorem dX6_would_68 : decode cX6_would 68 = .ok (.iadd, 1) := by decide +kernel
theorem dX6_would_69 : decode cX6_would 69 = .ok (.iload_n 3, 1) := by decide +kernel
theorem dX6_would_70 : decode cX6_would 70 = .ok (.iastore, 1) := by decide +kernel
theorem dX6_would_71 : decode cX6_would 71 = .ok (.aload_n 0, 1) := by decide +kernel
theorem dX6_would_72 : decode cX6_would 72 = .ok (.getfield 28, 3) := by decide +kernel
theorem dX6_would_75 : decode cX6_would 75 = .ok (.aload_n 0, 1) := by decide +kernel
theorem dX6_would_76 : decode cX6_would 76 = .ok (.getfield 13, 3) := by decide +kernel
theorem dX6_would_79 : decode cX6_would 79 = .ok (.aload_n 0, 1) := by decide +kernel
theorem dX6_would_80 : decode cX6_would 80 = .ok (.getfield 72, 3) := by decide +kernel
theorem dX6_would_83 : decode cX6_would 83 = .ok (.invokevirtual 199, 3) := by decide +kernel
theorem dX6_would_86 : decode cX6_would 86 = .ok (.aload_n 0, 1) := by decide +kernel
theorem dX6_would_87 : decode cX6_would 87 = .ok (.getfield 13, 3) := by decide +kernel
theorem dX6_would_90 : decode cX6_would 90 = .ok (.getfield 92, 3) := by decide +kernel
theorem dX6_would_93 : decode cX6_would 93 = .ok (.iconst 2, 1) := by decide +kernel
theorem dX6_would_94 : decode cX6_would 94 = .ok (.iload_n 1, 1) := by decide +kernel
theorem dX6_would_95 : decode cX6_would 95 = .ok (.imul, 1) := by decide +kernel
theorem dX6_would_96 : decode cX6_would 96 = .ok (.iload_n 2, 1) := by decide +kernel
theorem dX6_would_97 : decode cX6_would 97 = .ok (.iadd, 1) := by decide +kernel
theorem dX6_would_98 : decode cX6_would 98 = .ok (.iload 5, 2) := by decide +kernel
theorem dX6_would_100 : decode cX6_would 100 = .ok (.iastore, 1) := by decide +kernel
theorem dX6_would_101 : decode cX6_would 101 = .ok (.aload_n 0, 1) := by decide +kernel
theorem dX6_would_102 : decode cX6_would 102 = .ok (.getfield 28, 3) := by decide +kernel
theorem dX6_would_105 : decode cX6_would 105 = .ok (.aload_n 0, 1) := by decide +kernel
theorem dX6_would_106 : decode cX6_would 106 = .ok (.getfield 28, 3) := by decide +kernel
theorem dX6_would_109 : decode cX6_would 109 = .ok (.aload_n 0, 1) := by decide +kernel
theorem dX6_would_110 : decode cX6_would 110 = .ok (.getfield 72, 3) := by decide +kernel
theorem dX6_would_113 : decode cX6_would 113 = .ok (.invokevirtual 175, 3) := by decide +kernel
theorem dX6_would_116 : decode cX6_would 116 = .ok (.iload 4, 2) := by decide +kernel
theorem dX6_would_118 : decode cX6_would 118 = .ok (.invokevirtual 149, 3) := by decide +kernel
theorem dX6_would_121 : decode cX6_would 121 = .ok (.lreturn, 1) := by decide +kernel
theorem dX6_shift_0 : decode cX6_shift 0 = .ok (.aload_n 0, 1) := by decide +kernel
theorem dX6_shift_1 : decode cX6_shift 1 = .ok (.getfield 13, 3) := by decide +kernel
theorem dX6_shift_4 : decode cX6_shift 4 = .ok (.iload_n 1, 1) := by decide +kernel
theorem dX6_shift_5 : decode cX6_shift 5 = .ok (.invokevirtual 79, 3) := by decide +kernel
theorem dX6_shift_8 : decode cX6_shift 8 = .ok (.ifCond .eq 25, 3) := by decide +kernel
theorem dX6_shift_11 : decode cX6_shift 11 = .ok (.iload_n 2, 1) := by decide +kernel
theorem dX6_shift_12 : decode cX6_shift 12 = .ok (.iconst 0, 1) := by decide +kernel
theorem dX6_shift_13 : decode cX6_shift 13 = .ok (.iconst 1, 1) := by decide +kernel
theorem dX6_shift_14 : decode cX6_shift 14 = .ok (.invokestatic 56, 3) := by decide +kernel
theorem dX6_shift_17 : decode cX6_shift 17 = .ok (.ifCond .eq 16, 3) := by decide +kernel
theorem dX6_shift_20 : decode cX6_shift 20 = .ok (.iload_n 3, 1) := by decide +kernel
theorem dX6_shift_21 : decode cX6_shift 21 = .ok (.sipush (-999), 3) := by decide +kernel
theorem dX6_shift_24 : decode cX6_shift 24 = .ok (.sipush 999, 3) := by decide +kernel
theorem dX6_shift_27 : decode cX6_shift 27 = .ok (.invokestatic 56, 3) := by decide +kernel
theorem dX6_shift_30 : decode cX6_shift 30 = .ok (.ifCond .ne 6, 3) := by decide +kernel
theorem dX6_shift_33 : decode cX6_shift 33 = .ok (.ldc 91, 2) := by decide +kernel
theorem dX6_shift_35 : decode cX6_shift 35 = .ok (.ireturn, 1) := by decide +kernel
theorem dX6_shift_36 : decode cX6_shift 36 = .ok (.aload_n 0, 1) := by decide +kernel
theorem dX6_shift_37 : decode cX6_shift 37 = .ok (.getfield 13, 3) := by decide +kernel
theorem dX6_shift_40 : decode cX6_shift 40 = .ok (.getfield 124, 3) := by decide +kernel
theorem dX6_shift_43 : decode cX6_shift 43 = .ok (.iconst 2, 1) := by decide +kernel
theorem dX6_shift_44 : decode cX6_shift 44 = .ok (.iload_n 1, 1) := by decide +kernel
theorem dX6_shift_45 : decode cX6_shift 45 = .ok (.imul, 1) := by decide +kernel
theorem dX6_shift_46 : decode cX6_shift 46 = .ok (.iload_n 2, 1) := by decide +kernel
theorem dX6_shift_47 : decode cX6_shift 47 = .ok (.iadd, 1) := by decide +kernel
theorem dX6_shift_48 : decode cX6_shift 48 = .ok (.iaload, 1) := by decide +kernel
theorem dX6_shift_49 : decode cX6_shift 49 = .ok (.istore 4, 2) := by decide +kernel
theorem dX6_shift_51 : decode cX6_shift 51 = .ok (.aload_n 0, 1) := by decide +kernel
theorem dX6_shift_52 : decode cX6_shift 52 = .ok (.getfield 13, 3) := by decide +kernel
theorem dX6_shift_55 : decode cX6_shift 55 = .ok (.getfield 124, 3) := by decide +kernel
theorem dX6_shift_58 : decode cX6_shift 58 = .ok (.iconst 2, 1) := by decide +kernel
theorem dX6_shift_59 : decode cX6_shift 59 = .ok (.iload_n 1, 1) := by decide +kernel
theorem dX6_shift_60 : decode cX6_shift 60 = .ok (.imul, 1) := by decide +kernel
theorem dX6_shift_61 : decode cX6_shift 61 = .ok (.iload_n 2, 1) := by decide +kernel
theorem dX6_shift_62 : decode cX6_shift 62 = .ok (.iadd, 1) := by decide +kernel
theorem dX6_shift_63 : decode cX6_shift 63 = .ok (.iload_n 3, 1) := by decide +kernel
theorem dX6_shift_64 : decode cX6_shift 64 = .ok (.iastore, 1) := by decide +kernel
theorem dX6_shift_65 : decode cX6_shift 65 = .ok (.iload 4, 2) := by decide +kernel
theorem dX6_shift_67 : decode cX6_shift 67 = .ok (.ireturn, 1) := by decide +kernel
theorem dX6_stretch_0 : decode cX6_stretch 0 = .ok (.aload_n 0, 1) := by decide +kernel
theorem dX6_stretch_1 : decode cX6_stretch 1 = .ok (.getfield 13, 3) := by decide +kernel
theorem dX6_stretch_4 : decode cX6_stretch 4 = .ok (.iload_n 1, 1) := by decide +kernel
theorem dX6_stretch_5 : decode cX6_stretch 5 = .ok (.invokevirtual 95, 3) := by decide +kernel
theorem dX6_stretch_8 : decode cX6_stretch 8 = .ok (.ifCond .eq 10, 3) := by decide +kernel
theorem dX6_stretch_11 : decode cX6_stretch 11 = .ok (.iload_n 2, 1) := by decide +kernel
theorem dX6_stretch_12 : decode cX6_stretch 12 = .ok (.invokestatic 139, 3) := by decide +kernel
theorem dX6_stretch_15 : decode cX6_stretch 15 = .ok (.ifCond .ne 9, 3) := by decide +kernel
theorem dX6_stretch_18 : decode cX6_stretch 18 = .ok (.bipush (-2), 2) := by decide +kernel
theorem dX6_stretch_20 : decode cX6_stretch 20 = .ok (.invokestatic 142, 3) := by decide +kernel
theorem dX6_stretch_23 : decode cX6_stretch 23 = .ok (.lreturn, 1) := by decide +kernel
theorem dX6_stretch_24 : decode cX6_stretch 24 = .ok (.aload_n 0, 1) := by decide +kernel
theorem dX6_stretch_25 : decode cX6_stretch 25 = .ok (.getfield 13, 3) := by decide +kernel
theorem dX6_stretch_28 : decode cX6_stretch 28 = .ok (.iload_n 1, 1) := by decide +kernel
theorem dX6_stretch_29 : decode cX6_stretch 29 = .ok (.invokevirtual 202, 3) := by decide +kernel
theorem dX6_stretch_32 : decode cX6_stretch 32 = .ok (.ldc2_w 205, 3) := by decide +kernel
theorem dX6_stretch_35 : decode cX6_stretch 35 = .ok (.iload_n 2, 1) := by decide +kernel
theorem dX6_stretch_36 : decode cX6_stretch 36 = .ok (.invokestatic 171, 3) := by decide +kernel
theorem dX6_stretch_39 : decode cX6_stretch 39 = .ok (.lreturn, 1) := by decide +kernel
theorem dX6_work_0 : decode cX6_work 0 = .ok (.iload_n 1, 1) := by decide +kernel
theorem dX6_work_1 : decode cX6_work 1 = .ok (.invokestatic 139, 3) := by decide +kernel
theorem dX6_work_4 : decode cX6_work 4 = .ok (.ifCond .ne 9, 3) := by decide +kernel
theorem dX6_work_7 : decode cX6_work 7 = .ok (.bipush (-2), 2) := by decide +kernel
theorem dX6_work_9 : decode cX6_work 9 = .ok (.invokestatic 142, 3) := by decide +kernel
theorem dX6_work_12 : decode cX6_work 12 = .ok (.lreturn, 1) := by decide +kernel
theorem dX6_work_13 : decode cX6_work 13 = .ok (.aload_n 0, 1) := by decide +kernel
theorem dX6_work_14 : decode cX6_work 14 = .ok (.getfield 13, 3) := by decide +kernel
theorem dX6_work_17 : decode cX6_work 17 = .ok (.invokevirtual 207, 3) := by decide +kernel
theorem dX6_work_20 : decode cX6_work 20 = .ok (.ldc2_w 205, 3) := by decide +kernel
theorem dX6_work_23 : decode cX6_work 23 = .ok (.iload_n 1, 1) := by decide +kernel
theorem dX6_work_24 : decode cX6_work 24 = .ok (.invokestatic 171, 3) := by decide +kernel
theorem dX6_work_27 : decode cX6_work 27 = .ok (.lreturn, 1) := by decide +kernel
theorem dX6_proves_0 : decode cX6_proves 0 = .ok (.iconst 0, 1) := by decide +kernel
theorem dX6_proves_1 : decode cX6_proves 1 = .ok (.istore_n 1, 1) := by decide +kernel
theorem dX6_proves_2 : decode cX6_proves 2 = .ok (.iload_n 1, 1) := by decide +kernel
theorem dX6_proves_3 : decode cX6_proves 3 = .ok (.bipush 10, 2) := by decide +kernel
theorem dX6_proves_5 : decode cX6_proves 5 = .ok (.if_icmp .ge 47, 3) := by decide +kernel
theorem dX6_proves_8 : decode cX6_proves 8 = .ok (.aload_n 0, 1) := by decide +kernel
theorem dX6_proves_9 : decode cX6_proves 9 = .ok (.iload_n 1, 1) := by decide +kernel
theorem dX6_proves_10 : decode cX6_proves 10 = .ok (.invokevirtual 136, 3) := by decide +kernel
theorem dX6_proves_13 : decode cX6_proves 13 = .ok (.ifCond .eq 33, 3) := by decide +kernel
theorem dX6_proves_16 : decode cX6_proves 16 = .ok (.aload_n 0, 1) := by decide +kernel
theorem dX6_proves_17 : decode cX6_proves 17 = .ok (.getfield 13, 3) := by decide +kernel
theorem dX6_proves_20 : decode cX6_proves 20 = .ok (.iload_n 1, 1) := by decide +kernel
theorem dX6_proves_21 : decode cX6_proves 21 = .ok (.invokevirtual 202, 3) := by decide +kernel
theorem dX6_proves_24 : decode cX6_proves 24 = .ok (.invokestatic 211, 3) := by decide +kernel
theorem dX6_proves_27 : decode cX6_proves 27 = .ok (.bipush 12, 2) := by decide +kernel
theorem dX6_proves_29 : decode cX6_proves 29 = .ok (.aload_n 0, 1) := by decide +kernel
theorem dX6_proves_30 : decode cX6_proves 30 = .ok (.getfield 13, 3) := by decide +kernel
theorem dX6_proves_33 : decode cX6_proves 33 = .ok (.getfield 133, 3) := by decide +kernel
theorem dX6_proves_36 : decode cX6_proves 36 = .ok (.iload_n 1, 1) := by decide +kernel
theorem dX6_proves_37 : decode cX6_proves 37 = .ok (.iaload, 1) := by decide +kernel
theorem dX6_proves_38 : decode cX6_proves 38 = .ok (.imul, 1) := by decide +kernel
theorem dX6_proves_39 : decode cX6_proves 39 = .ok (.i2l, 1) := by decide +kernel
theorem dX6_proves_40 : decode cX6_proves 40 = .ok (.lcmp, 1) := by decide +kernel
theorem dX6_proves_41 : decode cX6_proves 41 = .ok (.ifCond .le 5, 3) := by decide +kernel
theorem dX6_proves_44 : decode cX6_proves 44 = .ok (.iconst 0, 1) := by decide +kernel
theorem dX6_proves_45 : decode cX6_proves 45 = .ok (.ireturn, 1) := by decide +kernel
theorem dX6_proves_46 : decode cX6_proves 46 = .ok (.iinc 1 1, 3) := by decide +kernel
theorem dX6_proves_49 : decode cX6_proves 49 = .ok (.goto (-47), 3) := by decide +kernel
theorem dX6_proves_52 : decode cX6_proves 52 = .ok (.aload_n 0, 1) := by decide +kernel
theorem dX6_proves_53 : decode cX6_proves 53 = .ok (.invokevirtual 146, 3) := by decide +kernel
theorem dX6_proves_56 : decode cX6_proves 56 = .ok (.istore_n 1, 1) := by decide +kernel
theorem dX6_proves_57 : decode cX6_proves 57 = .ok (.iload_n 1, 1) := by decide +kernel
theorem dX6_proves_58 : decode cX6_proves 58 = .ok (.ifCond .ge 5, 3) := by decide +kernel
theorem dX6_proves_61 : decode cX6_proves 61 = .ok (.iconst 1, 1) := by decide +kernel
theorem dX6_proves_62 : decode cX6_proves 62 = .ok (.ireturn, 1) := by decide +kernel
theorem dX6_proves_63 : decode cX6_proves 63 = .ok (.aload_n 0, 1) := by decide +kernel
theorem dX6_proves_64 : decode cX6_proves 64 = .ok (.getfield 13, 3) := by decide +kernel
theorem dX6_proves_67 : decode cX6_proves 67 = .ok (.invokevirtual 207, 3) := by decide +kernel
theorem dX6_proves_70 : decode cX6_proves 70 = .ok (.aload_n 0, 1) := by decide +kernel
theorem dX6_proves_71 : decode cX6_proves 71 = .ok (.getfield 24, 3) := by decide +kernel
theorem dX6_proves_74 : decode cX6_proves 74 = .ok (.getfield 215, 3) := by decide +kernel
theorem dX6_proves_77 : decode cX6_proves 77 = .ok (.iload_n 1, 1) := by decide +kernel
theorem dX6_proves_78 : decode cX6_proves 78 = .ok (.laload, 1) := by decide +kernel
theorem dX6_proves_79 : decode cX6_proves 79 = .ok (.lmul, 1) := by decide +kernel
theorem dX6_proves_80 : decode cX6_proves 80 = .ok (.ldc2_w 205, 3) := by decide +kernel
theorem dX6_proves_83 : decode cX6_proves 83 = .ok (.aload_n 0, 1) := by decide +kernel
theorem dX6_proves_84 : decode cX6_proves 84 = .ok (.getfield 24, 3) := by decide +kernel
theorem dX6_proves_87 : decode cX6_proves 87 = .ok (.getfield 218, 3) := by decide +kernel
theorem dX6_proves_90 : decode cX6_proves 90 = .ok (.iload_n 1, 1) := by decide +kernel
theorem dX6_proves_91 : decode cX6_proves 91 = .ok (.laload, 1) := by decide +kernel
theorem dX6_proves_92 : decode cX6_proves 92 = .ok (.lmul, 1) := by decide +kernel
theorem dX6_proves_93 : decode cX6_proves 93 = .ok (.lcmp, 1) := by decide +kernel
theorem dX6_proves_94 : decode cX6_proves 94 = .ok (.ifCond .ne 7, 3) := by decide +kernel
theorem dX6_proves_97 : decode cX6_proves 97 = .ok (.iconst 2, 1) := by decide +kernel
theorem dX6_proves_98 : decode cX6_proves 98 = .ok (.goto 4, 3) := by decide +kernel
theorem dX6_proves_101 : decode cX6_proves 101 = .ok (.iconst 1, 1) := by decide +kernel
theorem dX6_proves_102 : decode cX6_proves 102 = .ok (.ireturn, 1) := by decide +kernel
theorem dX6_cross_0 : decode cX6_cross 0 = .ok (.iload_n 1, 1) := by decide +kernel
theorem dX6_cross_1 : decode cX6_cross 1 = .ok (.ifCond .lt 12, 3) := by decide +kernel
theorem dX6_cross_4 : decode cX6_cross 4 = .ok (.iload_n 2, 1) := by decide +kernel
theorem dX6_cross_5 : decode cX6_cross 5 = .ok (.iconst 0, 1) := by decide +kernel
theorem dX6_cross_6 : decode cX6_cross 6 = .ok (.iconst 5, 1) := by decide +kernel
theorem dX6_cross_7 : decode cX6_cross 7 = .ok (.invokestatic 56, 3) := by decide +kernel
theorem dX6_cross_10 : decode cX6_cross 10 = .ok (.ifCond .ne 6, 3) := by decide +kernel
theorem dX6_cross_13 : decode cX6_cross 13 = .ok (.bipush (-2), 2) := by decide +kernel
theorem dX6_cross_15 : decode cX6_cross 15 = .ok (.ireturn, 1) := by decide +kernel
theorem dX6_cross_16 : decode cX6_cross 16 = .ok (.aload_n 0, 1) := by decide +kernel
theorem dX6_cross_17 : decode cX6_cross 17 = .ok (.invokevirtual 191, 3) := by decide +kernel
theorem dX6_cross_20 : decode cX6_cross 20 = .ok (.istore_n 3, 1) := by decide +kernel
theorem dX6_cross_21 : decode cX6_cross 21 = .ok (.iload_n 3, 1) := by decide +kernel
theorem dX6_cross_22 : decode cX6_cross 22 = .ok (.ifCond .ge 6, 3) := by decide +kernel
theorem dX6_cross_25 : decode cX6_cross 25 = .ok (.bipush (-3), 2) := by decide +kernel
theorem dX6_cross_27 : decode cX6_cross 27 = .ok (.ireturn, 1) := by decide +kernel
theorem dX6_cross_28 : decode cX6_cross 28 = .ok (.aload_n 0, 1) := by decide +kernel
theorem dX6_cross_29 : decode cX6_cross 29 = .ok (.getfield 41, 3) := by decide +kernel
theorem dX6_cross_32 : decode cX6_cross 32 = .ok (.aload_n 0, 1) := by decide +kernel
theorem dX6_cross_33 : decode cX6_cross 33 = .ok (.getfield 13, 3) := by decide +kernel
theorem dX6_cross_36 : decode cX6_cross 36 = .ok (.iload_n 3, 1) := by decide +kernel
theorem dX6_cross_37 : decode cX6_cross 37 = .ok (.iload_n 1, 1) := by decide +kernel
theorem dX6_cross_38 : decode cX6_cross 38 = .ok (.invokevirtual 221, 3) := by decide +kernel
theorem dX6_cross_41 : decode cX6_cross 41 = .ok (.iload_n 1, 1) := by decide +kernel
theorem dX6_cross_42 : decode cX6_cross 42 = .ok (.if_icmp .gt 6, 3) := by decide +kernel
theorem dX6_cross_45 : decode cX6_cross 45 = .ok (.bipush (-2), 2) := by decide +kernel
theorem dX6_cross_47 : decode cX6_cross 47 = .ok (.ireturn, 1) := by decide +kernel
theorem dX6_cross_48 : decode cX6_cross 48 = .ok (.iload_n 2, 1) := by decide +kernel
theorem dX6_cross_49 : decode cX6_cross 49 = .ok (.tableswitch 111 0 4 #[35, 43, 51, 71, 91], 35) := by decide +kernel
theorem dX6_cross_84 : decode cX6_cross 84 = .ok (.aload_n 0, 1) := by decide +kernel
theorem dX6_cross_85 : decode cX6_cross 85 = .ok (.getfield 41, 3) := by decide +kernel
theorem dX6_cross_88 : decode cX6_cross 88 = .ok (.getfield 225, 3) := by decide +kernel
theorem dX6_cross_91 : decode cX6_cross 91 = .ok (.ireturn, 1) := by decide +kernel
theorem dX6_cross_92 : decode cX6_cross 92 = .ok (.aload_n 0, 1) := by decide +kernel
theorem dX6_cross_93 : decode cX6_cross 93 = .ok (.getfield 41, 3) := by decide +kernel
theorem dX6_cross_96 : decode cX6_cross 96 = .ok (.getfield 228, 3) := by decide +kernel
theorem dX6_cross_99 : decode cX6_cross 99 = .ok (.ireturn, 1) := by decide +kernel
theorem dX6_cross_100 : decode cX6_cross 100 = .ok (.aload_n 0, 1) := by decide +kernel
theorem dX6_cross_101 : decode cX6_cross 101 = .ok (.getfield 41, 3) := by decide +kernel
theorem dX6_cross_104 : decode cX6_cross 104 = .ok (.getfield 231, 3) := by decide +kernel
theorem dX6_cross_107 : decode cX6_cross 107 = .ok (.aload_n 0, 1) := by decide +kernel
theorem dX6_cross_108 : decode cX6_cross 108 = .ok (.getfield 41, 3) := by decide +kernel
theorem dX6_cross_111 : decode cX6_cross 111 = .ok (.getfield 234, 3) := by decide +kernel
theorem dX6_cross_114 : decode cX6_cross 114 = .ok (.iconst 0, 1) := by decide +kernel
theorem dX6_cross_115 : decode cX6_cross 115 = .ok (.invokestatic 171, 3) := by decide +kernel
theorem dX6_cross_118 : decode cX6_cross 118 = .ok (.l2i, 1) := by decide +kernel
theorem dX6_cross_119 : decode cX6_cross 119 = .ok (.ireturn, 1) := by decide +kernel
theorem dX6_cross_120 : decode cX6_cross 120 = .ok (.aload_n 0, 1) := by decide +kernel
theorem dX6_cross_121 : decode cX6_cross 121 = .ok (.getfield 41, 3) := by decide +kernel
theorem dX6_cross_124 : decode cX6_cross 124 = .ok (.getfield 231, 3) := by decide +kernel
theorem dX6_cross_127 : decode cX6_cross 127 = .ok (.aload_n 0, 1) := by decide +kernel
theorem dX6_cross_128 : decode cX6_cross 128 = .ok (.getfield 41, 3) := by decide +kernel
theorem dX6_cross_131 : decode cX6_cross 131 = .ok (.getfield 234, 3) := by decide +kernel
theorem dX6_cross_134 : decode cX6_cross 134 = .ok (.iconst 1, 1) := by decide +kernel
theorem dX6_cross_135 : decode cX6_cross 135 = .ok (.invokestatic 171, 3) := by decide +kernel
theorem dX6_cross_138 : decode cX6_cross 138 = .ok (.l2i, 1) := by decide +kernel
theorem dX6_cross_139 : decode cX6_cross 139 = .ok (.ireturn, 1) := by decide +kernel
theorem dX6_cross_140 : decode cX6_cross 140 = .ok (.aload_n 0, 1) := by decide +kernel
theorem dX6_cross_141 : decode cX6_cross 141 = .ok (.getfield 41, 3) := by decide +kernel
theorem dX6_cross_144 : decode cX6_cross 144 = .ok (.getfield 236, 3) := by decide +kernel
theorem dX6_cross_147 : decode cX6_cross 147 = .ok (.aload_n 0, 1) := by decide +kernel
theorem dX6_cross_148 : decode cX6_cross 148 = .ok (.getfield 41, 3) := by decide +kernel
theorem dX6_cross_151 : decode cX6_cross 151 = .ok (.getfield 234, 3) := by decide +kernel
theorem dX6_cross_154 : decode cX6_cross 154 = .ok (.iconst 0, 1) := by decide +kernel
theorem dX6_cross_155 : decode cX6_cross 155 = .ok (.invokestatic 171, 3) := by decide +kernel
theorem dX6_cross_158 : decode cX6_cross 158 = .ok (.l2i, 1) := by decide +kernel
theorem dX6_cross_159 : decode cX6_cross 159 = .ok (.ireturn, 1) := by decide +kernel
theorem dX6_cross_160 : decode cX6_cross 160 = .ok (.aload_n 0, 1) := by decide +kernel
theorem dX6_cross_161 : decode cX6_cross 161 = .ok (.getfield 41, 3) := by decide +kernel
theorem dX6_cross_164 : decode cX6_cross 164 = .ok (.getfield 236, 3) := by decide +kernel
theorem dX6_cross_167 : decode cX6_cross 167 = .ok (.aload_n 0, 1) := by decide +kernel
theorem dX6_cross_168 : decode cX6_cross 168 = .ok (.getfield 41, 3) := by decide +kernel
theorem dX6_cross_171 : decode cX6_cross 171 = .ok (.getfield 234, 3) := by decide +kernel
theorem dX6_cross_174 : decode cX6_cross 174 = .ok (.iconst 1, 1) := by decide +kernel
theorem dX6_cross_175 : decode cX6_cross 175 = .ok (.invokestatic 171, 3) := by decide +kernel
theorem dX6_cross_178 : decode cX6_cross 178 = .ok (.l2i, 1) := by decide +kernel
theorem dX6_cross_179 : decode cX6_cross 179 = .ok (.ireturn, 1) := by decide +kernel
theorem dX6_sheet_0 : decode cX6_sheet 0 = .ok (.iload_n 1, 1) := by decide +kernel
theorem dX6_sheet_1 : decode cX6_sheet 1 = .ok (.invokestatic 101, 3) := by decide +kernel
theorem dX6_sheet_4 : decode cX6_sheet 4 = .ok (.ifCond .eq 18, 3) := by decide +kernel
theorem dX6_sheet_7 : decode cX6_sheet 7 = .ok (.iload_n 2, 1) := by decide +kernel
theorem dX6_sheet_8 : decode cX6_sheet 8 = .ok (.iconst 0, 1) := by decide +kernel
theorem dX6_sheet_9 : decode cX6_sheet 9 = .ok (.iconst 1, 1) := by decide +kernel
theorem dX6_sheet_10 : decode cX6_sheet 10 = .ok (.invokestatic 56, 3) := by decide +kernel
theorem dX6_sheet_13 : decode cX6_sheet 13 = .ok (.ifCond .eq 9, 3) := by decide +kernel
theorem dX6_sheet_16 : decode cX6_sheet 16 = .ok (.iload_n 3, 1) := by decide +kernel
theorem dX6_sheet_17 : decode cX6_sheet 17 = .ok (.bipush 40, 2) := by decide +kernel
theorem dX6_sheet_19 : decode cX6_sheet 19 = .ok (.if_icmp .le 6, 3) := by decide +kernel
theorem dX6_sheet_22 : decode cX6_sheet 22 = .ok (.bipush (-2), 2) := by decide +kernel
theorem dX6_sheet_24 : decode cX6_sheet 24 = .ok (.ireturn, 1) := by decide +kernel
theorem dX6_sheet_25 : decode cX6_sheet 25 = .ok (.iload_n 3, 1) := by decide +kernel
theorem dX6_sheet_26 : decode cX6_sheet 26 = .ok (.ifCond .ge 9, 3) := by decide +kernel
theorem dX6_sheet_29 : decode cX6_sheet 29 = .ok (.aload_n 0, 1) := by decide +kernel
theorem dX6_sheet_30 : decode cX6_sheet 30 = .ok (.iconst 5, 1) := by decide +kernel
theorem dX6_sheet_31 : decode cX6_sheet 31 = .ok (.invokevirtual 107, 3) := by decide +kernel
theorem dX6_sheet_34 : decode cX6_sheet 34 = .ok (.ireturn, 1) := by decide +kernel
theorem dX6_sheet_35 : decode cX6_sheet 35 = .ok (.aload_n 0, 1) := by decide +kernel
theorem dX6_sheet_36 : decode cX6_sheet 36 = .ok (.getfield 47, 3) := by decide +kernel
theorem dX6_sheet_39 : decode cX6_sheet 39 = .ok (.iload_n 1, 1) := by decide +kernel
theorem dX6_sheet_40 : decode cX6_sheet 40 = .ok (.aaload, 1) := by decide +kernel
theorem dX6_sheet_41 : decode cX6_sheet 41 = .ok (.iload_n 2, 1) := by decide +kernel
theorem dX6_sheet_42 : decode cX6_sheet 42 = .ok (.iload_n 3, 1) := by decide +kernel
theorem dX6_sheet_43 : decode cX6_sheet 43 = .ok (.invokevirtual 239, 3) := by decide +kernel
theorem dX6_sheet_46 : decode cX6_sheet 46 = .ok (.iload_n 3, 1) := by decide +kernel
theorem dX6_sheet_47 : decode cX6_sheet 47 = .ok (.ireturn, 1) := by decide +kernel
theorem dX6_lose_0 : decode cX6_lose 0 = .ok (.iload_n 1, 1) := by decide +kernel
theorem dX6_lose_1 : decode cX6_lose 1 = .ok (.invokestatic 101, 3) := by decide +kernel
theorem dX6_lose_4 : decode cX6_lose 4 = .ok (.ifCond .ne 6, 3) := by decide +kernel
theorem dX6_lose_7 : decode cX6_lose 7 = .ok (.bipush (-2), 2) := by decide +kernel
theorem dX6_lose_9 : decode cX6_lose 9 = .ok (.ireturn, 1) := by decide +kernel
theorem dX6_lose_10 : decode cX6_lose 10 = .ok (.aload_n 0, 1) := by decide +kernel
theorem dX6_lose_11 : decode cX6_lose 11 = .ok (.getfield 47, 3) := by decide +kernel
theorem dX6_lose_14 : decode cX6_lose 14 = .ok (.iload_n 1, 1) := by decide +kernel
theorem dX6_lose_15 : decode cX6_lose 15 = .ok (.aaload, 1) := by decide +kernel
theorem dX6_lose_16 : decode cX6_lose 16 = .ok (.getfield 104, 3) := by decide +kernel
theorem dX6_lose_19 : decode cX6_lose 19 = .ok (.ifCond .eq 9, 3) := by decide +kernel
theorem dX6_lose_22 : decode cX6_lose 22 = .ok (.aload_n 0, 1) := by decide +kernel
theorem dX6_lose_23 : decode cX6_lose 23 = .ok (.iconst 1, 1) := by decide +kernel
theorem dX6_lose_24 : decode cX6_lose 24 = .ok (.invokevirtual 107, 3) := by decide +kernel
theorem dX6_lose_27 : decode cX6_lose 27 = .ok (.ireturn, 1) := by decide +kernel
theorem dX6_lose_28 : decode cX6_lose 28 = .ok (.aload_n 0, 1) := by decide +kernel
theorem dX6_lose_29 : decode cX6_lose 29 = .ok (.getfield 47, 3) := by decide +kernel
theorem dX6_lose_32 : decode cX6_lose 32 = .ok (.iload_n 1, 1) := by decide +kernel
theorem dX6_lose_33 : decode cX6_lose 33 = .ok (.aaload, 1) := by decide +kernel
theorem dX6_lose_34 : decode cX6_lose 34 = .ok (.iconst 1, 1) := by decide +kernel
theorem dX6_lose_35 : decode cX6_lose 35 = .ok (.putfield 104, 3) := by decide +kernel
theorem dX6_lose_38 : decode cX6_lose 38 = .ok (.aload_n 0, 1) := by decide +kernel
theorem dX6_lose_39 : decode cX6_lose 39 = .ok (.getfield 47, 3) := by decide +kernel
theorem dX6_lose_42 : decode cX6_lose 42 = .ok (.iload_n 1, 1) := by decide +kernel
theorem dX6_lose_43 : decode cX6_lose 43 = .ok (.aaload, 1) := by decide +kernel
theorem dX6_lose_44 : decode cX6_lose 44 = .ok (.getfield 111, 3) := by decide +kernel
theorem dX6_lose_47 : decode cX6_lose 47 = .ok (.ireturn, 1) := by decide +kernel
theorem dX6_put_0 : decode cX6_put 0 = .ok (.iload_n 1, 1) := by decide +kernel
theorem dX6_put_1 : decode cX6_put 1 = .ok (.invokestatic 101, 3) := by decide +kernel
theorem dX6_put_4 : decode cX6_put 4 = .ok (.ifCond .eq 12, 3) := by decide +kernel
theorem dX6_put_7 : decode cX6_put 7 = .ok (.iload_n 2, 1) := by decide +kernel
theorem dX6_put_8 : decode cX6_put 8 = .ok (.iconst 0, 1) := by decide +kernel
theorem dX6_put_9 : decode cX6_put 9 = .ok (.iconst 1, 1) := by decide +kernel
theorem dX6_put_10 : decode cX6_put 10 = .ok (.invokestatic 56, 3) := by decide +kernel
theorem dX6_put_13 : decode cX6_put 13 = .ok (.ifCond .ne 6, 3) := by decide +kernel
theorem dX6_put_16 : decode cX6_put 16 = .ok (.bipush (-2), 2) := by decide +kernel
theorem dX6_put_18 : decode cX6_put 18 = .ok (.ireturn, 1) := by decide +kernel
theorem dX6_put_19 : decode cX6_put 19 = .ok (.aload_n 0, 1) := by decide +kernel
theorem dX6_put_20 : decode cX6_put 20 = .ok (.getfield 47, 3) := by decide +kernel
theorem dX6_put_23 : decode cX6_put 23 = .ok (.iload_n 1, 1) := by decide +kernel
theorem dX6_put_24 : decode cX6_put 24 = .ok (.aaload, 1) := by decide +kernel
theorem dX6_put_25 : decode cX6_put 25 = .ok (.astore 5, 2) := by decide +kernel
theorem dX6_put_27 : decode cX6_put 27 = .ok (.aload 5, 2) := by decide +kernel
theorem dX6_put_29 : decode cX6_put 29 = .ok (.getfield 104, 3) := by decide +kernel
theorem dX6_put_32 : decode cX6_put 32 = .ok (.ifCond .eq 9, 3) := by decide +kernel
theorem dX6_put_35 : decode cX6_put 35 = .ok (.aload_n 0, 1) := by decide +kernel
theorem dX6_put_36 : decode cX6_put 36 = .ok (.iconst 1, 1) := by decide +kernel
theorem dX6_put_37 : decode cX6_put 37 = .ok (.invokevirtual 107, 3) := by decide +kernel
theorem dX6_put_40 : decode cX6_put 40 = .ok (.ireturn, 1) := by decide +kernel
theorem dX6_put_41 : decode cX6_put 41 = .ok (.aload 5, 2) := by decide +kernel
theorem dX6_put_43 : decode cX6_put 43 = .ok (.getfield 243, 3) := by decide +kernel
theorem dX6_put_46 : decode cX6_put 46 = .ok (.iload_n 2, 1) := by decide +kernel
theorem dX6_put_47 : decode cX6_put 47 = .ok (.if_icmp .eq 9, 3) := by decide +kernel
theorem dX6_put_50 : decode cX6_put 50 = .ok (.aload_n 0, 1) := by decide +kernel
theorem dX6_put_51 : decode cX6_put 51 = .ok (.iconst 3, 1) := by decide +kernel
theorem dX6_put_52 : decode cX6_put 52 = .ok (.invokevirtual 107, 3) := by decide +kernel
theorem dX6_put_55 : decode cX6_put 55 = .ok (.ireturn, 1) := by decide +kernel
theorem dX6_put_56 : decode cX6_put 56 = .ok (.iload_n 3, 1) := by decide +kernel
theorem dX6_put_57 : decode cX6_put 57 = .ok (.iconst 0, 1) := by decide +kernel
theorem dX6_put_58 : decode cX6_put 58 = .ok (.aload 5, 2) := by decide +kernel
theorem dX6_put_60 : decode cX6_put 60 = .ok (.getfield 111, 3) := by decide +kernel
theorem dX6_put_63 : decode cX6_put 63 = .ok (.iconst 1, 1) := by decide +kernel
theorem dX6_put_64 : decode cX6_put 64 = .ok (.isub, 1) := by decide +kernel
theorem dX6_put_65 : decode cX6_put 65 = .ok (.invokestatic 56, 3) := by decide +kernel
theorem dX6_put_68 : decode cX6_put 68 = .ok (.ifCond .ne 9, 3) := by decide +kernel
theorem dX6_put_71 : decode cX6_put 71 = .ok (.aload_n 0, 1) := by decide +kernel
theorem dX6_put_72 : decode cX6_put 72 = .ok (.iconst 2, 1) := by decide +kernel
theorem dX6_put_73 : decode cX6_put 73 = .ok (.invokevirtual 107, 3) := by decide +kernel
theorem dX6_put_76 : decode cX6_put 76 = .ok (.ireturn, 1) := by decide +kernel
theorem dX6_put_77 : decode cX6_put 77 = .ok (.iload_n 2, 1) := by decide +kernel
theorem dX6_put_78 : decode cX6_put 78 = .ok (.iconst 1, 1) := by decide +kernel
theorem dX6_put_79 : decode cX6_put 79 = .ok (.if_icmp .ne 22, 3) := by decide +kernel
theorem dX6_put_82 : decode cX6_put 82 = .ok (.iload 4, 2) := by decide +kernel
theorem dX6_put_84 : decode cX6_put 84 = .ok (.ldc 246, 2) := by decide +kernel
theorem dX6_put_86 : decode cX6_put 86 = .ok (.ldc 247, 2) := by decide +kernel
theorem dX6_put_88 : decode cX6_put 88 = .ok (.invokestatic 56, 3) := by decide +kernel
theorem dX6_put_91 : decode cX6_put 91 = .ok (.ifCond .ne 10, 3) := by decide +kernel
theorem dX6_put_94 : decode cX6_put 94 = .ok (.aload_n 0, 1) := by decide +kernel
theorem dX6_put_95 : decode cX6_put 95 = .ok (.bipush 6, 2) := by decide +kernel
theorem dX6_put_97 : decode cX6_put 97 = .ok (.invokevirtual 107, 3) := by decide +kernel
theorem dX6_put_100 : decode cX6_put 100 = .ok (.ireturn, 1) := by decide +kernel
theorem dX6_put_101 : decode cX6_put 101 = .ok (.aload 5, 2) := by decide +kernel
theorem dX6_put_103 : decode cX6_put 103 = .ok (.getfield 117, 3) := by decide +kernel
theorem dX6_put_106 : decode cX6_put 106 = .ok (.iload_n 3, 1) := by decide +kernel
theorem dX6_put_107 : decode cX6_put 107 = .ok (.iload_n 2, 1) := by decide +kernel
theorem dX6_put_108 : decode cX6_put 108 = .ok (.iconst 1, 1) := by decide +kernel
theorem dX6_put_109 : decode cX6_put 109 = .ok (.if_icmp .ne 17, 3) := by decide +kernel
theorem dX6_put_112 : decode cX6_put 112 = .ok (.iload 4, 2) := by decide +kernel
theorem dX6_put_114 : decode cX6_put 114 = .ok (.i2l, 1) := by decide +kernel
theorem dX6_put_115 : decode cX6_put 115 = .ok (.iload 4, 2) := by decide +kernel
theorem dX6_put_117 : decode cX6_put 117 = .ok (.i2l, 1) := by decide +kernel
theorem dX6_put_118 : decode cX6_put 118 = .ok (.lmul, 1) := by decide +kernel
theorem dX6_put_119 : decode cX6_put 119 = .ok (.iload 4, 2) := by decide +kernel
theorem dX6_put_121 : decode cX6_put 121 = .ok (.i2l, 1) := by decide +kernel
theorem dX6_put_122 : decode cX6_put 122 = .ok (.lmul, 1) := by decide +kernel
theorem dX6_put_123 : decode cX6_put 123 = .ok (.goto 6, 3) := by decide +kernel
theorem dX6_put_126 : decode cX6_put 126 = .ok (.iload 4, 2) := by decide +kernel
theorem dX6_put_128 : decode cX6_put 128 = .ok (.i2l, 1) := by decide +kernel
theorem dX6_put_129 : decode cX6_put 129 = .ok (.lastore, 1) := by decide +kernel
theorem dX6_put_130 : decode cX6_put 130 = .ok (.iconst 1, 1) := by decide +kernel
theorem dX6_put_131 : decode cX6_put 131 = .ok (.ireturn, 1) := by decide +kernel
theorem dX6_get_0 : decode cX6_get 0 = .ok (.iload_n 1, 1) := by decide +kernel
theorem dX6_get_1 : decode cX6_get 1 = .ok (.invokestatic 101, 3) := by decide +kernel
theorem dX6_get_4 : decode cX6_get 4 = .ok (.ifCond .ne 9, 3) := by decide +kernel
theorem dX6_get_7 : decode cX6_get 7 = .ok (.bipush (-2), 2) := by decide +kernel
theorem dX6_get_9 : decode cX6_get 9 = .ok (.invokestatic 142, 3) := by decide +kernel
theorem dX6_get_12 : decode cX6_get 12 = .ok (.lreturn, 1) := by decide +kernel
theorem dX6_get_13 : decode cX6_get 13 = .ok (.aload_n 0, 1) := by decide +kernel
theorem dX6_get_14 : decode cX6_get 14 = .ok (.getfield 47, 3) := by decide +kernel
theorem dX6_get_17 : decode cX6_get 17 = .ok (.iload_n 1, 1) := by decide +kernel
theorem dX6_get_18 : decode cX6_get 18 = .ok (.aaload, 1) := by decide +kernel
theorem dX6_get_19 : decode cX6_get 19 = .ok (.astore_n 3, 1) := by decide +kernel
theorem dX6_get_20 : decode cX6_get 20 = .ok (.aload_n 3, 1) := by decide +kernel
theorem dX6_get_21 : decode cX6_get 21 = .ok (.getfield 104, 3) := by decide +kernel
theorem dX6_get_24 : decode cX6_get 24 = .ok (.ifCond .eq 12, 3) := by decide +kernel
theorem dX6_get_27 : decode cX6_get 27 = .ok (.aload_n 0, 1) := by decide +kernel
theorem dX6_get_28 : decode cX6_get 28 = .ok (.iconst 1, 1) := by decide +kernel
theorem dX6_get_29 : decode cX6_get 29 = .ok (.invokevirtual 107, 3) := by decide +kernel
theorem dX6_get_32 : decode cX6_get 32 = .ok (.invokestatic 142, 3) := by decide +kernel
theorem dX6_get_35 : decode cX6_get 35 = .ok (.lreturn, 1) := by decide +kernel
theorem dX6_get_36 : decode cX6_get 36 = .ok (.iload_n 2, 1) := by decide +kernel
theorem dX6_get_37 : decode cX6_get 37 = .ok (.iconst 0, 1) := by decide +kernel
theorem dX6_get_38 : decode cX6_get 38 = .ok (.aload_n 3, 1) := by decide +kernel
theorem dX6_get_39 : decode cX6_get 39 = .ok (.getfield 111, 3) := by decide +kernel
theorem dX6_get_42 : decode cX6_get 42 = .ok (.iconst 1, 1) := by decide +kernel
theorem dX6_get_43 : decode cX6_get 43 = .ok (.isub, 1) := by decide +kernel
theorem dX6_get_44 : decode cX6_get 44 = .ok (.invokestatic 56, 3) := by decide +kernel
theorem dX6_get_47 : decode cX6_get 47 = .ok (.ifCond .ne 12, 3) := by decide +kernel
theorem dX6_get_50 : decode cX6_get 50 = .ok (.aload_n 0, 1) := by decide +kernel
theorem dX6_get_51 : decode cX6_get 51 = .ok (.iconst 2, 1) := by decide +kernel
theorem dX6_get_52 : decode cX6_get 52 = .ok (.invokevirtual 107, 3) := by decide +kernel
theorem dX6_get_55 : decode cX6_get 55 = .ok (.invokestatic 142, 3) := by decide +kernel
theorem dX6_get_58 : decode cX6_get 58 = .ok (.lreturn, 1) := by decide +kernel
theorem dX6_get_59 : decode cX6_get 59 = .ok (.aload_n 3, 1) := by decide +kernel
theorem dX6_get_60 : decode cX6_get 60 = .ok (.getfield 117, 3) := by decide +kernel
theorem dX6_get_63 : decode cX6_get 63 = .ok (.iload_n 2, 1) := by decide +kernel
theorem dX6_get_64 : decode cX6_get 64 = .ok (.laload, 1) := by decide +kernel
theorem dX6_get_65 : decode cX6_get 65 = .ok (.lreturn, 1) := by decide +kernel
theorem dX6_copy_0 : decode cX6_copy 0 = .ok (.iload_n 1, 1) := by decide +kernel
theorem dX6_copy_1 : decode cX6_copy 1 = .ok (.invokestatic 101, 3) := by decide +kernel
theorem dX6_copy_4 : decode cX6_copy 4 = .ok (.ifCond .eq 10, 3) := by decide +kernel
theorem dX6_copy_7 : decode cX6_copy 7 = .ok (.iload_n 3, 1) := by decide +kernel
theorem dX6_copy_8 : decode cX6_copy 8 = .ok (.invokestatic 101, 3) := by decide +kernel
theorem dX6_copy_11 : decode cX6_copy 11 = .ok (.ifCond .ne 6, 3) := by decide +kernel
theorem dX6_copy_14 : decode cX6_copy 14 = .ok (.bipush (-2), 2) := by decide +kernel
theorem dX6_copy_16 : decode cX6_copy 16 = .ok (.ireturn, 1) := by decide +kernel
theorem dX6_copy_17 : decode cX6_copy 17 = .ok (.aload_n 0, 1) := by decide +kernel
theorem dX6_copy_18 : decode cX6_copy 18 = .ok (.getfield 47, 3) := by decide +kernel
theorem dX6_copy_21 : decode cX6_copy 21 = .ok (.iload_n 1, 1) := by decide +kernel
theorem dX6_copy_22 : decode cX6_copy 22 = .ok (.aaload, 1) := by decide +kernel
theorem dX6_copy_23 : decode cX6_copy 23 = .ok (.astore 6, 2) := by decide +kernel
theorem dX6_copy_25 : decode cX6_copy 25 = .ok (.aload_n 0, 1) := by decide +kernel
theorem dX6_copy_26 : decode cX6_copy 26 = .ok (.getfield 47, 3) := by decide +kernel
theorem dX6_copy_29 : decode cX6_copy 29 = .ok (.iload_n 3, 1) := by decide +kernel
theorem dX6_copy_30 : decode cX6_copy 30 = .ok (.aaload, 1) := by decide +kernel
theorem dX6_copy_31 : decode cX6_copy 31 = .ok (.astore 7, 2) := by decide +kernel
theorem dX6_copy_33 : decode cX6_copy 33 = .ok (.aload 6, 2) := by decide +kernel
theorem dX6_copy_35 : decode cX6_copy 35 = .ok (.getfield 104, 3) := by decide +kernel
theorem dX6_copy_38 : decode cX6_copy 38 = .ok (.ifCond .ne 11, 3) := by decide +kernel
theorem dX6_copy_41 : decode cX6_copy 41 = .ok (.aload 7, 2) := by decide +kernel
theorem dX6_copy_43 : decode cX6_copy 43 = .ok (.getfield 104, 3) := by decide +kernel
theorem dX6_copy_46 : decode cX6_copy 46 = .ok (.ifCond .eq 9, 3) := by decide +kernel
theorem dX6_copy_49 : decode cX6_copy 49 = .ok (.aload_n 0, 1) := by decide +kernel
theorem dX6_copy_50 : decode cX6_copy 50 = .ok (.iconst 1, 1) := by decide +kernel
theorem dX6_copy_51 : decode cX6_copy 51 = .ok (.invokevirtual 107, 3) := by decide +kernel
theorem dX6_copy_54 : decode cX6_copy 54 = .ok (.ireturn, 1) := by decide +kernel
theorem dX6_copy_55 : decode cX6_copy 55 = .ok (.aload 6, 2) := by decide +kernel
theorem dX6_copy_57 : decode cX6_copy 57 = .ok (.getfield 243, 3) := by decide +kernel
theorem dX6_copy_60 : decode cX6_copy 60 = .ok (.aload 7, 2) := by decide +kernel
theorem dX6_copy_62 : decode cX6_copy 62 = .ok (.getfield 243, 3) := by decide +kernel
theorem dX6_copy_65 : decode cX6_copy 65 = .ok (.if_icmp .eq 9, 3) := by decide +kernel
theorem dX6_copy_68 : decode cX6_copy 68 = .ok (.aload_n 0, 1) := by decide +kernel
theorem dX6_copy_69 : decode cX6_copy 69 = .ok (.iconst 4, 1) := by decide +kernel
theorem dX6_copy_70 : decode cX6_copy 70 = .ok (.invokevirtual 107, 3) := by decide +kernel
theorem dX6_copy_73 : decode cX6_copy 73 = .ok (.ireturn, 1) := by decide +kernel
theorem dX6_copy_74 : decode cX6_copy 74 = .ok (.aload 6, 2) := by decide +kernel
theorem dX6_copy_76 : decode cX6_copy 76 = .ok (.iload_n 2, 1) := by decide +kernel
theorem dX6_copy_77 : decode cX6_copy 77 = .ok (.iload 5, 2) := by decide +kernel
theorem dX6_copy_79 : decode cX6_copy 79 = .ok (.invokevirtual 248, 3) := by decide +kernel
theorem dX6_copy_82 : decode cX6_copy 82 = .ok (.ifCond .eq 15, 3) := by decide +kernel
theorem dX6_copy_85 : decode cX6_copy 85 = .ok (.aload 7, 2) := by decide +kernel
theorem dX6_copy_87 : decode cX6_copy 87 = .ok (.iload 4, 2) := by decide +kernel
theorem dX6_copy_89 : decode cX6_copy 89 = .ok (.iload 5, 2) := by decide +kernel
theorem dX6_copy_91 : decode cX6_copy 91 = .ok (.invokevirtual 248, 3) := by decide +kernel
theorem dX6_copy_94 : decode cX6_copy 94 = .ok (.ifCond .ne 9, 3) := by decide +kernel
theorem dX6_copy_97 : decode cX6_copy 97 = .ok (.aload_n 0, 1) := by decide +kernel
theorem dX6_copy_98 : decode cX6_copy 98 = .ok (.iconst 2, 1) := by decide +kernel
theorem dX6_copy_99 : decode cX6_copy 99 = .ok (.invokevirtual 107, 3) := by decide +kernel
theorem dX6_copy_102 : decode cX6_copy 102 = .ok (.ireturn, 1) := by decide +kernel
theorem dX6_copy_103 : decode cX6_copy 103 = .ok (.aload 6, 2) := by decide +kernel
theorem dX6_copy_105 : decode cX6_copy 105 = .ok (.getfield 117, 3) := by decide +kernel
theorem dX6_copy_108 : decode cX6_copy 108 = .ok (.iload_n 2, 1) := by decide +kernel
theorem dX6_copy_109 : decode cX6_copy 109 = .ok (.aload 7, 2) := by decide +kernel
theorem dX6_copy_111 : decode cX6_copy 111 = .ok (.getfield 117, 3) := by decide +kernel
theorem dX6_copy_114 : decode cX6_copy 114 = .ok (.iload 4, 2) := by decide +kernel
theorem dX6_copy_116 : decode cX6_copy 116 = .ok (.iload 5, 2) := by decide +kernel
theorem dX6_copy_118 : decode cX6_copy 118 = .ok (.invokestatic 251, 3) := by decide +kernel
theorem dX6_copy_121 : decode cX6_copy 121 = .ok (.iconst 1, 1) := by decide +kernel
theorem dX6_copy_122 : decode cX6_copy 122 = .ok (.ireturn, 1) := by decide +kernel
theorem dX6_write_0 : decode cX6_write 0 = .ok (.iload_n 1, 1) := by decide +kernel
theorem dX6_write_1 : decode cX6_write 1 = .ok (.invokestatic 101, 3) := by decide +kernel
theorem dX6_write_4 : decode cX6_write 4 = .ok (.ifCond .ne 6, 3) := by decide +kernel
theorem dX6_write_7 : decode cX6_write 7 = .ok (.bipush (-2), 2) := by decide +kernel
theorem dX6_write_9 : decode cX6_write 9 = .ok (.ireturn, 1) := by decide +kernel
theorem dX6_write_10 : decode cX6_write 10 = .ok (.aload_n 0, 1) := by decide +kernel
theorem dX6_write_11 : decode cX6_write 11 = .ok (.getfield 47, 3) := by decide +kernel
theorem dX6_write_14 : decode cX6_write 14 = .ok (.iload_n 1, 1) := by decide +kernel
theorem dX6_write_15 : decode cX6_write 15 = .ok (.aaload, 1) := by decide +kernel
theorem dX6_write_16 : decode cX6_write 16 = .ok (.astore_n 2, 1) := by decide +kernel
theorem dX6_write_17 : decode cX6_write 17 = .ok (.aload_n 2, 1) := by decide +kernel
theorem dX6_write_18 : decode cX6_write 18 = .ok (.getfield 104, 3) := by decide +kernel
theorem dX6_write_21 : decode cX6_write 21 = .ok (.ifCond .eq 9, 3) := by decide +kernel
theorem dX6_write_24 : decode cX6_write 24 = .ok (.aload_n 0, 1) := by decide +kernel
theorem dX6_write_25 : decode cX6_write 25 = .ok (.iconst 1, 1) := by decide +kernel
theorem dX6_write_26 : decode cX6_write 26 = .ok (.invokevirtual 107, 3) := by decide +kernel
theorem dX6_write_29 : decode cX6_write 29 = .ok (.ireturn, 1) := by decide +kernel
theorem dX6_write_30 : decode cX6_write 30 = .ok (.aload_n 0, 1) := by decide +kernel
theorem dX6_write_31 : decode cX6_write 31 = .ok (.invokevirtual 191, 3) := by decide +kernel
theorem dX6_write_34 : decode cX6_write 34 = .ok (.istore_n 3, 1) := by decide +kernel
theorem dX6_write_35 : decode cX6_write 35 = .ok (.iload_n 3, 1) := by decide +kernel
theorem dX6_write_36 : decode cX6_write 36 = .ok (.ifCond .ge 6, 3) := by decide +kernel
theorem dX6_write_39 : decode cX6_write 39 = .ok (.bipush (-3), 2) := by decide +kernel
theorem dX6_write_41 : decode cX6_write 41 = .ok (.ireturn, 1) := by decide +kernel
theorem dX6_write_42 : decode cX6_write 42 = .ok (.aload_n 0, 1) := by decide +kernel
theorem dX6_write_43 : decode cX6_write 43 = .ok (.getfield 24, 3) := by decide +kernel
theorem dX6_write_46 : decode cX6_write 46 = .ok (.aload_n 0, 1) := by decide +kernel
theorem dX6_write_47 : decode cX6_write 47 = .ok (.getfield 13, 3) := by decide +kernel
theorem dX6_write_50 : decode cX6_write 50 = .ok (.iload_n 3, 1) := by decide +kernel
theorem dX6_write_51 : decode cX6_write 51 = .ok (.invokevirtual 160, 3) := by decide +kernel
theorem dX6_write_54 : decode cX6_write 54 = .ok (.aload_n 2, 1) := by decide +kernel
theorem dX6_write_55 : decode cX6_write 55 = .ok (.getfield 111, 3) := by decide +kernel
theorem dX6_write_58 : decode cX6_write 58 = .ok (.iconst 2, 1) := by decide +kernel
theorem dX6_write_59 : decode cX6_write 59 = .ok (.aload_n 0, 1) := by decide +kernel
theorem dX6_write_60 : decode cX6_write 60 = .ok (.getfield 13, 3) := by decide +kernel
theorem dX6_write_63 : decode cX6_write 63 = .ok (.invokevirtual 98, 3) := by decide +kernel
theorem dX6_write_66 : decode cX6_write 66 = .ok (.imul, 1) := by decide +kernel
theorem dX6_write_67 : decode cX6_write 67 = .ok (.invokestatic 112, 3) := by decide +kernel
theorem dX6_write_70 : decode cX6_write 70 = .ok (.istore 4, 2) := by decide +kernel
theorem dX6_write_72 : decode cX6_write 72 = .ok (.iconst 0, 1) := by decide +kernel
theorem dX6_write_73 : decode cX6_write 73 = .ok (.istore 5, 2) := by decide +kernel
theorem dX6_write_75 : decode cX6_write 75 = .ok (.iload 5, 2) := by decide +kernel
theorem dX6_write_77 : decode cX6_write 77 = .ok (.iload 4, 2) := by decide +kernel
theorem dX6_write_79 : decode cX6_write 79 = .ok (.if_icmp .ge 60, 3) := by decide +kernel
theorem dX6_write_82 : decode cX6_write 82 = .ok (.aload_n 0, 1) := by decide +kernel
theorem dX6_write_83 : decode cX6_write 83 = .ok (.getfield 24, 3) := by decide +kernel
theorem dX6_write_86 : decode cX6_write 86 = .ok (.getfield 164, 3) := by decide +kernel
theorem dX6_write_89 : decode cX6_write 89 = .ok (.iload 5, 2) := by decide +kernel
theorem dX6_write_91 : decode cX6_write 91 = .ok (.iconst 2, 1) := by decide +kernel
theorem dX6_write_92 : decode cX6_write 92 = .ok (.idiv, 1) := by decide +kernel
theorem dX6_write_93 : decode cX6_write 93 = .ok (.laload, 1) := by decide +kernel
theorem dX6_write_94 : decode cX6_write 94 = .ok (.aload_n 0, 1) := by decide +kernel
theorem dX6_write_95 : decode cX6_write 95 = .ok (.getfield 24, 3) := by decide +kernel
theorem dX6_write_98 : decode cX6_write 98 = .ok (.getfield 167, 3) := by decide +kernel
theorem dX6_write_101 : decode cX6_write 101 = .ok (.iload 5, 2) := by decide +kernel
theorem dX6_write_103 : decode cX6_write 103 = .ok (.iconst 2, 1) := by decide +kernel
theorem dX6_write_104 : decode cX6_write 104 = .ok (.irem, 1) := by decide +kernel
theorem dX6_write_105 : decode cX6_write 105 = .ok (.invokestatic 171, 3) := by decide +kernel
theorem dX6_write_108 : decode cX6_write 108 = .ok (.lstore 6, 2) := by decide +kernel
theorem dX6_write_110 : decode cX6_write 110 = .ok (.aload_n 2, 1) := by decide +kernel
theorem dX6_write_111 : decode cX6_write 111 = .ok (.getfield 117, 3) := by decide +kernel
theorem dX6_write_114 : decode cX6_write 114 = .ok (.iload 5, 2) := by decide +kernel
theorem dX6_write_116 : decode cX6_write 116 = .ok (.aload_n 2, 1) := by decide +kernel
theorem dX6_write_117 : decode cX6_write 117 = .ok (.getfield 243, 3) := by decide +kernel
theorem dX6_write_120 : decode cX6_write 120 = .ok (.ifCond .ne 10, 3) := by decide +kernel
theorem dX6_write_123 : decode cX6_write 123 = .ok (.lload 6, 2) := by decide +kernel
theorem dX6_write_125 : decode cX6_write 125 = .ok (.l2i, 1) := by decide +kernel
theorem dX6_write_126 : decode cX6_write 126 = .ok (.i2l, 1) := by decide +kernel
theorem dX6_write_127 : decode cX6_write 127 = .ok (.goto 5, 3) := by decide +kernel
theorem dX6_write_130 : decode cX6_write 130 = .ok (.lload 6, 2) := by decide +kernel
theorem dX6_write_132 : decode cX6_write 132 = .ok (.lastore, 1) := by decide +kernel
theorem dX6_write_133 : decode cX6_write 133 = .ok (.iinc 5 1, 3) := by decide +kernel
theorem dX6_write_136 : decode cX6_write 136 = .ok (.goto (-61), 3) := by decide +kernel
theorem dX6_write_139 : decode cX6_write 139 = .ok (.iload 4, 2) := by decide +kernel
theorem dX6_write_141 : decode cX6_write 141 = .ok (.ireturn, 1) := by decide +kernel
theorem dX6_count_0 : decode cX6_count 0 = .ok (.iload_n 1, 1) := by decide +kernel
theorem dX6_count_1 : decode cX6_count 1 = .ok (.tableswitch 119 0 8 #[51, 59, 67, 75, 83, 91, 104, 109, 114], 51) := by decide +kernel
theorem dX6_count_52 : decode cX6_count 52 = .ok (.aload_n 0, 1) := by decide +kernel
theorem dX6_count_53 : decode cX6_count 53 = .ok (.getfield 13, 3) := by decide +kernel
theorem dX6_count_56 : decode cX6_count 56 = .ok (.getfield 64, 3) := by decide +kernel
theorem dX6_count_59 : decode cX6_count 59 = .ok (.ireturn, 1) := by decide +kernel
theorem dX6_count_60 : decode cX6_count 60 = .ok (.aload_n 0, 1) := by decide +kernel
theorem dX6_count_61 : decode cX6_count 61 = .ok (.getfield 72, 3) := by decide +kernel
theorem dX6_count_64 : decode cX6_count 64 = .ok (.invokestatic 194, 3) := by decide +kernel
theorem dX6_count_67 : decode cX6_count 67 = .ok (.ireturn, 1) := by decide +kernel
theorem dX6_count_68 : decode cX6_count 68 = .ok (.aload_n 0, 1) := by decide +kernel
theorem dX6_count_69 : decode cX6_count 69 = .ok (.getfield 13, 3) := by decide +kernel
theorem dX6_count_72 : decode cX6_count 72 = .ok (.invokevirtual 257, 3) := by decide +kernel
theorem dX6_count_75 : decode cX6_count 75 = .ok (.ireturn, 1) := by decide +kernel
theorem dX6_count_76 : decode cX6_count 76 = .ok (.aload_n 0, 1) := by decide +kernel
theorem dX6_count_77 : decode cX6_count 77 = .ok (.invokevirtual 191, 3) := by decide +kernel
theorem dX6_count_80 : decode cX6_count 80 = .ok (.invokestatic 260, 3) := by decide +kernel
theorem dX6_count_83 : decode cX6_count 83 = .ok (.ireturn, 1) := by decide +kernel
theorem dX6_count_84 : decode cX6_count 84 = .ok (.aload_n 0, 1) := by decide +kernel
theorem dX6_count_85 : decode cX6_count 85 = .ok (.invokevirtual 181, 3) := by decide +kernel
theorem dX6_count_88 : decode cX6_count 88 = .ok (.invokestatic 260, 3) := by decide +kernel
theorem dX6_count_91 : decode cX6_count 91 = .ok (.ireturn, 1) := by decide +kernel
theorem dX6_count_92 : decode cX6_count 92 = .ok (.aload_n 0, 1) := by decide +kernel
theorem dX6_count_93 : decode cX6_count 93 = .ok (.invokevirtual 191, 3) := by decide +kernel
theorem dX6_count_96 : decode cX6_count 96 = .ok (.ifCond .ge 7, 3) := by decide +kernel
theorem dX6_count_99 : decode cX6_count 99 = .ok (.iconst 0, 1) := by decide +kernel
theorem dX6_count_100 : decode cX6_count 100 = .ok (.goto 4, 3) := by decide +kernel
theorem dX6_count_103 : decode cX6_count 103 = .ok (.iconst 1, 1) := by decide +kernel
theorem dX6_count_104 : decode cX6_count 104 = .ok (.ireturn, 1) := by decide +kernel
theorem dX6_count_105 : decode cX6_count 105 = .ok (.aload_n 0, 1) := by decide +kernel
theorem dX6_count_106 : decode cX6_count 106 = .ok (.invokevirtual 263, 3) := by decide +kernel
theorem dX6_count_109 : decode cX6_count 109 = .ok (.ireturn, 1) := by decide +kernel
theorem dX6_count_110 : decode cX6_count 110 = .ok (.aload_n 0, 1) := by decide +kernel
theorem dX6_count_111 : decode cX6_count 111 = .ok (.invokevirtual 266, 3) := by decide +kernel
theorem dX6_count_114 : decode cX6_count 114 = .ok (.ireturn, 1) := by decide +kernel
theorem dX6_count_115 : decode cX6_count 115 = .ok (.aload_n 0, 1) := by decide +kernel
theorem dX6_count_116 : decode cX6_count 116 = .ok (.getfield 269, 3) := by decide +kernel
theorem dX6_count_119 : decode cX6_count 119 = .ok (.ireturn, 1) := by decide +kernel
theorem dX6_count_120 : decode cX6_count 120 = .ok (.bipush (-2), 2) := by decide +kernel
theorem dX6_count_122 : decode cX6_count 122 = .ok (.ireturn, 1) := by decide +kernel
theorem dX6_digest_0 : decode cX6_digest 0 = .ok (.ldc2_w 272, 3) := by decide +kernel
theorem dX6_digest_3 : decode cX6_digest 3 = .ok (.lstore_n 1, 1) := by decide +kernel
theorem dX6_digest_4 : decode cX6_digest 4 = .ok (.iconst 0, 1) := by decide +kernel
theorem dX6_digest_5 : decode cX6_digest 5 = .ok (.istore_n 3, 1) := by decide +kernel
theorem dX6_digest_6 : decode cX6_digest 6 = .ok (.iload_n 3, 1) := by decide +kernel
theorem dX6_digest_7 : decode cX6_digest 7 = .ok (.bipush 7, 2) := by decide +kernel
theorem dX6_digest_9 : decode cX6_digest 9 = .ok (.if_icmp .gt 22, 3) := by decide +kernel
theorem dX6_digest_12 : decode cX6_digest 12 = .ok (.ldc2_w 274, 3) := by decide +kernel
theorem dX6_digest_15 : decode cX6_digest 15 = .ok (.lload_n 1, 1) := by decide +kernel
theorem dX6_digest_16 : decode cX6_digest 16 = .ok (.lmul, 1) := by decide +kernel
theorem dX6_digest_17 : decode cX6_digest 17 = .ok (.aload_n 0, 1) := by decide +kernel
theorem dX6_digest_18 : decode cX6_digest 18 = .ok (.iload_n 3, 1) := by decide +kernel
theorem dX6_digest_19 : decode cX6_digest 19 = .ok (.invokevirtual 276, 3) := by decide +kernel
theorem dX6_digest_22 : decode cX6_digest 22 = .ok (.i2l, 1) := by decide +kernel
theorem dX6_digest_23 : decode cX6_digest 23 = .ok (.ladd, 1) := by decide +kernel
theorem dX6_digest_24 : decode cX6_digest 24 = .ok (.lstore_n 1, 1) := by decide +kernel
theorem dX6_digest_25 : decode cX6_digest 25 = .ok (.iinc 3 1, 3) := by decide +kernel
theorem dX6_digest_28 : decode cX6_digest 28 = .ok (.goto (-22), 3) := by decide +kernel
theorem dX6_digest_31 : decode cX6_digest 31 = .ok (.ldc2_w 274, 3) := by decide +kernel
theorem dX6_digest_34 : decode cX6_digest 34 = .ok (.lload_n 1, 1) := by decide +kernel
theorem dX6_digest_35 : decode cX6_digest 35 = .ok (.lmul, 1) := by decide +kernel
theorem dX6_digest_36 : decode cX6_digest 36 = .ok (.aload_n 0, 1) := by decide +kernel
theorem dX6_digest_37 : decode cX6_digest 37 = .ok (.iconst 0, 1) := by decide +kernel
theorem dX6_digest_38 : decode cX6_digest 38 = .ok (.invokevirtual 279, 3) := by decide +kernel
theorem dX6_digest_41 : decode cX6_digest 41 = .ok (.ladd, 1) := by decide +kernel
theorem dX6_digest_42 : decode cX6_digest 42 = .ok (.lstore_n 1, 1) := by decide +kernel
theorem dX6_digest_43 : decode cX6_digest 43 = .ok (.ldc2_w 274, 3) := by decide +kernel
theorem dX6_digest_46 : decode cX6_digest 46 = .ok (.lload_n 1, 1) := by decide +kernel
theorem dX6_digest_47 : decode cX6_digest 47 = .ok (.lmul, 1) := by decide +kernel
theorem dX6_digest_48 : decode cX6_digest 48 = .ok (.aload_n 0, 1) := by decide +kernel
theorem dX6_digest_49 : decode cX6_digest 49 = .ok (.iconst 1, 1) := by decide +kernel
theorem dX6_digest_50 : decode cX6_digest 50 = .ok (.invokevirtual 279, 3) := by decide +kernel
theorem dX6_digest_53 : decode cX6_digest 53 = .ok (.ladd, 1) := by decide +kernel
theorem dX6_digest_54 : decode cX6_digest 54 = .ok (.lstore_n 1, 1) := by decide +kernel
theorem dX6_digest_55 : decode cX6_digest 55 = .ok (.ldc2_w 274, 3) := by decide +kernel
theorem dX6_digest_58 : decode cX6_digest 58 = .ok (.lload_n 1, 1) := by decide +kernel
theorem dX6_digest_59 : decode cX6_digest 59 = .ok (.lmul, 1) := by decide +kernel
theorem dX6_digest_60 : decode cX6_digest 60 = .ok (.aload_n 0, 1) := by decide +kernel
theorem dX6_digest_61 : decode cX6_digest 61 = .ok (.invokevirtual 282, 3) := by decide +kernel
theorem dX6_digest_64 : decode cX6_digest 64 = .ok (.i2l, 1) := by decide +kernel
theorem dX6_digest_65 : decode cX6_digest 65 = .ok (.ladd, 1) := by decide +kernel
theorem dX6_digest_66 : decode cX6_digest 66 = .ok (.lstore_n 1, 1) := by decide +kernel
theorem dX6_digest_67 : decode cX6_digest 67 = .ok (.ldc2_w 274, 3) := by decide +kernel
theorem dX6_digest_70 : decode cX6_digest 70 = .ok (.lload_n 1, 1) := by decide +kernel
theorem dX6_digest_71 : decode cX6_digest 71 = .ok (.lmul, 1) := by decide +kernel
theorem dX6_digest_72 : decode cX6_digest 72 = .ok (.aload_n 0, 1) := by decide +kernel
theorem dX6_digest_73 : decode cX6_digest 73 = .ok (.invokevirtual 191, 3) := by decide +kernel
theorem dX6_digest_76 : decode cX6_digest 76 = .ok (.i2l, 1) := by decide +kernel
theorem dX6_digest_77 : decode cX6_digest 77 = .ok (.ladd, 1) := by decide +kernel
theorem dX6_digest_78 : decode cX6_digest 78 = .ok (.lstore_n 1, 1) := by decide +kernel
theorem dX6_digest_79 : decode cX6_digest 79 = .ok (.ldc2_w 274, 3) := by decide +kernel
theorem dX6_digest_82 : decode cX6_digest 82 = .ok (.lload_n 1, 1) := by decide +kernel
theorem dX6_digest_83 : decode cX6_digest 83 = .ok (.lmul, 1) := by decide +kernel
theorem dX6_digest_84 : decode cX6_digest 84 = .ok (.aload_n 0, 1) := by decide +kernel
theorem dX6_digest_85 : decode cX6_digest 85 = .ok (.invokevirtual 181, 3) := by decide +kernel
theorem dX6_digest_88 : decode cX6_digest 88 = .ok (.i2l, 1) := by decide +kernel
theorem dX6_digest_89 : decode cX6_digest 89 = .ok (.ladd, 1) := by decide +kernel
theorem dX6_digest_90 : decode cX6_digest 90 = .ok (.lstore_n 1, 1) := by decide +kernel
theorem dX6_digest_91 : decode cX6_digest 91 = .ok (.ldc2_w 274, 3) := by decide +kernel
theorem dX6_digest_94 : decode cX6_digest 94 = .ok (.lload_n 1, 1) := by decide +kernel
theorem dX6_digest_95 : decode cX6_digest 95 = .ok (.lmul, 1) := by decide +kernel
theorem dX6_digest_96 : decode cX6_digest 96 = .ok (.aload_n 0, 1) := by decide +kernel
theorem dX6_digest_97 : decode cX6_digest 97 = .ok (.invokevirtual 285, 3) := by decide +kernel
theorem dX6_digest_100 : decode cX6_digest 100 = .ok (.i2l, 1) := by decide +kernel
theorem dX6_digest_101 : decode cX6_digest 101 = .ok (.ladd, 1) := by decide +kernel
theorem dX6_digest_102 : decode cX6_digest 102 = .ok (.lstore_n 1, 1) := by decide +kernel
theorem dX6_digest_103 : decode cX6_digest 103 = .ok (.iconst 0, 1) := by decide +kernel
theorem dX6_digest_104 : decode cX6_digest 104 = .ok (.istore_n 3, 1) := by decide +kernel
theorem dX6_digest_105 : decode cX6_digest 105 = .ok (.iload_n 3, 1) := by decide +kernel
theorem dX6_digest_106 : decode cX6_digest 106 = .ok (.aload_n 0, 1) := by decide +kernel
theorem dX6_digest_107 : decode cX6_digest 107 = .ok (.getfield 13, 3) := by decide +kernel
theorem dX6_digest_110 : decode cX6_digest 110 = .ok (.getfield 64, 3) := by decide +kernel
theorem dX6_digest_113 : decode cX6_digest 113 = .ok (.if_icmp .ge 40, 3) := by decide +kernel
theorem dX6_digest_116 : decode cX6_digest 116 = .ok (.iconst 0, 1) := by decide +kernel
theorem dX6_digest_117 : decode cX6_digest 117 = .ok (.istore 4, 2) := by decide +kernel
theorem dX6_digest_119 : decode cX6_digest 119 = .ok (.iload 4, 2) := by decide +kernel
theorem dX6_digest_121 : decode cX6_digest 121 = .ok (.bipush 6, 2) := by decide +kernel
theorem dX6_digest_123 : decode cX6_digest 123 = .ok (.if_icmp .gt 24, 3) := by decide +kernel
theorem dX6_digest_126 : decode cX6_digest 126 = .ok (.ldc2_w 274, 3) := by decide +kernel
theorem dX6_digest_129 : decode cX6_digest 129 = .ok (.lload_n 1, 1) := by decide +kernel
theorem dX6_digest_130 : decode cX6_digest 130 = .ok (.lmul, 1) := by decide +kernel
theorem dX6_digest_131 : decode cX6_digest 131 = .ok (.aload_n 0, 1) := by decide +kernel
theorem dX6_digest_132 : decode cX6_digest 132 = .ok (.iload_n 3, 1) := by decide +kernel
theorem dX6_digest_133 : decode cX6_digest 133 = .ok (.iload 4, 2) := by decide +kernel
theorem dX6_digest_135 : decode cX6_digest 135 = .ok (.invokevirtual 288, 3) := by decide +kernel
theorem dX6_digest_138 : decode cX6_digest 138 = .ok (.i2l, 1) := by decide +kernel
theorem dX6_digest_139 : decode cX6_digest 139 = .ok (.ladd, 1) := by decide +kernel
theorem dX6_digest_140 : decode cX6_digest 140 = .ok (.lstore_n 1, 1) := by decide +kernel
theorem dX6_digest_141 : decode cX6_digest 141 = .ok (.iinc 4 1, 3) := by decide +kernel
theorem dX6_digest_144 : decode cX6_digest 144 = .ok (.goto (-25), 3) := by decide +kernel
theorem dX6_digest_147 : decode cX6_digest 147 = .ok (.iinc 3 1, 3) := by decide +kernel
theorem dX6_digest_150 : decode cX6_digest 150 = .ok (.goto (-45), 3) := by decide +kernel
theorem dX6_digest_153 : decode cX6_digest 153 = .ok (.iconst 0, 1) := by decide +kernel
theorem dX6_digest_154 : decode cX6_digest 154 = .ok (.istore_n 3, 1) := by decide +kernel
theorem dX6_digest_155 : decode cX6_digest 155 = .ok (.iload_n 3, 1) := by decide +kernel
theorem dX6_digest_156 : decode cX6_digest 156 = .ok (.aload_n 0, 1) := by decide +kernel
theorem dX6_digest_157 : decode cX6_digest 157 = .ok (.getfield 13, 3) := by decide +kernel
theorem dX6_digest_160 : decode cX6_digest 160 = .ok (.invokevirtual 98, 3) := by decide +kernel
theorem dX6_digest_163 : decode cX6_digest 163 = .ok (.if_icmp .ge 16, 3) := by decide +kernel
theorem dX6_digest_166 : decode cX6_digest 166 = .ok (.aload_n 0, 1) := by decide +kernel
theorem dX6_digest_167 : decode cX6_digest 167 = .ok (.lload_n 1, 1) := by decide +kernel
theorem dX6_digest_168 : decode cX6_digest 168 = .ok (.iload_n 3, 1) := by decide +kernel
theorem dX6_digest_169 : decode cX6_digest 169 = .ok (.invokevirtual 291, 3) := by decide +kernel
theorem dX6_digest_172 : decode cX6_digest 172 = .ok (.lstore_n 1, 1) := by decide +kernel
theorem dX6_digest_173 : decode cX6_digest 173 = .ok (.iinc 3 1, 3) := by decide +kernel
theorem dX6_digest_176 : decode cX6_digest 176 = .ok (.goto (-21), 3) := by decide +kernel
theorem dX6_digest_179 : decode cX6_digest 179 = .ok (.ldc2_w 274, 3) := by decide +kernel
theorem dX6_digest_182 : decode cX6_digest 182 = .ok (.lload_n 1, 1) := by decide +kernel
theorem dX6_digest_183 : decode cX6_digest 183 = .ok (.lmul, 1) := by decide +kernel
theorem dX6_digest_184 : decode cX6_digest 184 = .ok (.aload_n 0, 1) := by decide +kernel
theorem dX6_digest_185 : decode cX6_digest 185 = .ok (.iconst 0, 1) := by decide +kernel
theorem dX6_digest_186 : decode cX6_digest 186 = .ok (.invokevirtual 295, 3) := by decide +kernel
theorem dX6_digest_189 : decode cX6_digest 189 = .ok (.ladd, 1) := by decide +kernel
theorem dX6_digest_190 : decode cX6_digest 190 = .ok (.lstore_n 1, 1) := by decide +kernel
theorem dX6_digest_191 : decode cX6_digest 191 = .ok (.ldc2_w 274, 3) := by decide +kernel
theorem dX6_digest_194 : decode cX6_digest 194 = .ok (.lload_n 1, 1) := by decide +kernel
theorem dX6_digest_195 : decode cX6_digest 195 = .ok (.lmul, 1) := by decide +kernel
theorem dX6_digest_196 : decode cX6_digest 196 = .ok (.aload_n 0, 1) := by decide +kernel
theorem dX6_digest_197 : decode cX6_digest 197 = .ok (.iconst 1, 1) := by decide +kernel
theorem dX6_digest_198 : decode cX6_digest 198 = .ok (.invokevirtual 295, 3) := by decide +kernel
theorem dX6_digest_201 : decode cX6_digest 201 = .ok (.ladd, 1) := by decide +kernel
theorem dX6_digest_202 : decode cX6_digest 202 = .ok (.lstore_n 1, 1) := by decide +kernel
theorem dX6_digest_203 : decode cX6_digest 203 = .ok (.aload_n 0, 1) := by decide +kernel
theorem dX6_digest_204 : decode cX6_digest 204 = .ok (.invokevirtual 263, 3) := by decide +kernel
theorem dX6_digest_207 : decode cX6_digest 207 = .ok (.istore_n 3, 1) := by decide +kernel
theorem dX6_digest_208 : decode cX6_digest 208 = .ok (.iconst 0, 1) := by decide +kernel
theorem dX6_digest_209 : decode cX6_digest 209 = .ok (.istore 4, 2) := by decide +kernel
theorem dX6_digest_211 : decode cX6_digest 211 = .ok (.iload 4, 2) := by decide +kernel
theorem dX6_digest_213 : decode cX6_digest 213 = .ok (.iload_n 3, 1) := by decide +kernel
theorem dX6_digest_214 : decode cX6_digest 214 = .ok (.if_icmp .ge 40, 3) := by decide +kernel
theorem dX6_digest_217 : decode cX6_digest 217 = .ok (.iconst 0, 1) := by decide +kernel
theorem dX6_digest_218 : decode cX6_digest 218 = .ok (.istore 5, 2) := by decide +kernel
theorem dX6_digest_220 : decode cX6_digest 220 = .ok (.iload 5, 2) := by decide +kernel
theorem dX6_digest_222 : decode cX6_digest 222 = .ok (.iconst 5, 1) := by decide +kernel
theorem dX6_digest_223 : decode cX6_digest 223 = .ok (.if_icmp .gt 25, 3) := by decide +kernel
theorem dX6_digest_226 : decode cX6_digest 226 = .ok (.ldc2_w 274, 3) := by decide +kernel
theorem dX6_digest_229 : decode cX6_digest 229 = .ok (.lload_n 1, 1) := by decide +kernel
theorem dX6_digest_230 : decode cX6_digest 230 = .ok (.lmul, 1) := by decide +kernel
theorem dX6_digest_231 : decode cX6_digest 231 = .ok (.aload_n 0, 1) := by decide +kernel
theorem dX6_digest_232 : decode cX6_digest 232 = .ok (.iload 4, 2) := by decide +kernel
theorem dX6_digest_234 : decode cX6_digest 234 = .ok (.iload 5, 2) := by decide +kernel
theorem dX6_digest_236 : decode cX6_digest 236 = .ok (.invokevirtual 298, 3) := by decide +kernel
theorem dX6_digest_239 : decode cX6_digest 239 = .ok (.i2l, 1) := by decide +kernel
theorem dX6_digest_240 : decode cX6_digest 240 = .ok (.ladd, 1) := by decide +kernel
theorem dX6_digest_241 : decode cX6_digest 241 = .ok (.lstore_n 1, 1) := by decide +kernel
theorem dX6_digest_242 : decode cX6_digest 242 = .ok (.iinc 5 1, 3) := by decide +kernel
theorem dX6_digest_245 : decode cX6_digest 245 = .ok (.goto (-25), 3) := by decide +kernel
theorem dX6_digest_248 : decode cX6_digest 248 = .ok (.iinc 4 1, 3) := by decide +kernel
theorem dX6_digest_251 : decode cX6_digest 251 = .ok (.goto (-40), 3) := by decide +kernel
theorem dX6_digest_254 : decode cX6_digest 254 = .ok (.lload_n 1, 1) := by decide +kernel
theorem dX6_digest_255 : decode cX6_digest 255 = .ok (.lreturn, 1) := by decide +kernel
theorem dX6_digestPair_0 : decode cX6_digestPair 0 = .ok (.lload_n 1, 1) := by decide +kernel
theorem dX6_digestPair_1 : decode cX6_digestPair 1 = .ok (.lstore 4, 2) := by decide +kernel
theorem dX6_digestPair_3 : decode cX6_digestPair 3 = .ok (.iconst 0, 1) := by decide +kernel
theorem dX6_digestPair_4 : decode cX6_digestPair 4 = .ok (.istore 6, 2) := by decide +kernel
theorem dX6_digestPair_6 : decode cX6_digestPair 6 = .ok (.iload 6, 2) := by decide +kernel
theorem dX6_digestPair_8 : decode cX6_digestPair 8 = .ok (.iconst 3, 1) := by decide +kernel
theorem dX6_digestPair_9 : decode cX6_digestPair 9 = .ok (.if_icmp .gt 26, 3) := by decide +kernel
theorem dX6_digestPair_12 : decode cX6_digestPair 12 = .ok (.ldc2_w 274, 3) := by decide +kernel
theorem dX6_digestPair_15 : decode cX6_digestPair 15 = .ok (.lload 4, 2) := by decide +kernel
theorem dX6_digestPair_17 : decode cX6_digestPair 17 = .ok (.lmul, 1) := by decide +kernel
theorem dX6_digestPair_18 : decode cX6_digestPair 18 = .ok (.aload_n 0, 1) := by decide +kernel
theorem dX6_digestPair_19 : decode cX6_digestPair 19 = .ok (.iload_n 3, 1) := by decide +kernel
theorem dX6_digestPair_20 : decode cX6_digestPair 20 = .ok (.iload 6, 2) := by decide +kernel
theorem dX6_digestPair_22 : decode cX6_digestPair 22 = .ok (.invokevirtual 301, 3) := by decide +kernel
theorem dX6_digestPair_25 : decode cX6_digestPair 25 = .ok (.i2l, 1) := by decide +kernel
theorem dX6_digestPair_26 : decode cX6_digestPair 26 = .ok (.ladd, 1) := by decide +kernel
theorem dX6_digestPair_27 : decode cX6_digestPair 27 = .ok (.lstore 4, 2) := by decide +kernel
theorem dX6_digestPair_29 : decode cX6_digestPair 29 = .ok (.iinc 6 1, 3) := by decide +kernel
theorem dX6_digestPair_32 : decode cX6_digestPair 32 = .ok (.goto (-26), 3) := by decide +kernel
theorem dX6_digestPair_35 : decode cX6_digestPair 35 = .ok (.ldc2_w 274, 3) := by decide +kernel
theorem dX6_digestPair_38 : decode cX6_digestPair 38 = .ok (.lload 4, 2) := by decide +kernel
theorem dX6_digestPair_40 : decode cX6_digestPair 40 = .ok (.lmul, 1) := by decide +kernel
theorem dX6_digestPair_41 : decode cX6_digestPair 41 = .ok (.aload_n 0, 1) := by decide +kernel
theorem dX6_digestPair_42 : decode cX6_digestPair 42 = .ok (.iload_n 3, 1) := by decide +kernel
theorem dX6_digestPair_43 : decode cX6_digestPair 43 = .ok (.iconst 0, 1) := by decide +kernel
theorem dX6_digestPair_44 : decode cX6_digestPair 44 = .ok (.invokevirtual 304, 3) := by decide +kernel
theorem dX6_digestPair_47 : decode cX6_digestPair 47 = .ok (.ladd, 1) := by decide +kernel
theorem dX6_digestPair_48 : decode cX6_digestPair 48 = .ok (.lstore 4, 2) := by decide +kernel
theorem dX6_digestPair_50 : decode cX6_digestPair 50 = .ok (.ldc2_w 274, 3) := by decide +kernel
theorem dX6_digestPair_53 : decode cX6_digestPair 53 = .ok (.lload 4, 2) := by decide +kernel
theorem dX6_digestPair_55 : decode cX6_digestPair 55 = .ok (.lmul, 1) := by decide +kernel
theorem dX6_digestPair_56 : decode cX6_digestPair 56 = .ok (.aload_n 0, 1) := by decide +kernel
theorem dX6_digestPair_57 : decode cX6_digestPair 57 = .ok (.iload_n 3, 1) := by decide +kernel
theorem dX6_digestPair_58 : decode cX6_digestPair 58 = .ok (.iconst 1, 1) := by decide +kernel
theorem dX6_digestPair_59 : decode cX6_digestPair 59 = .ok (.invokevirtual 304, 3) := by decide +kernel
theorem dX6_digestPair_62 : decode cX6_digestPair 62 = .ok (.ladd, 1) := by decide +kernel
theorem dX6_digestPair_63 : decode cX6_digestPair 63 = .ok (.lstore 4, 2) := by decide +kernel
theorem dX6_digestPair_65 : decode cX6_digestPair 65 = .ok (.ldc2_w 274, 3) := by decide +kernel
theorem dX6_digestPair_68 : decode cX6_digestPair 68 = .ok (.lload 4, 2) := by decide +kernel
theorem dX6_digestPair_70 : decode cX6_digestPair 70 = .ok (.lmul, 1) := by decide +kernel
theorem dX6_digestPair_71 : decode cX6_digestPair 71 = .ok (.aload_n 0, 1) := by decide +kernel
theorem dX6_digestPair_72 : decode cX6_digestPair 72 = .ok (.iload_n 3, 1) := by decide +kernel
theorem dX6_digestPair_73 : decode cX6_digestPair 73 = .ok (.iconst 0, 1) := by decide +kernel
theorem dX6_digestPair_74 : decode cX6_digestPair 74 = .ok (.invokevirtual 307, 3) := by decide +kernel
theorem dX6_digestPair_77 : decode cX6_digestPair 77 = .ok (.ladd, 1) := by decide +kernel
theorem dX6_digestPair_78 : decode cX6_digestPair 78 = .ok (.lstore 4, 2) := by decide +kernel
theorem dX6_digestPair_80 : decode cX6_digestPair 80 = .ok (.ldc2_w 274, 3) := by decide +kernel
theorem dX6_digestPair_83 : decode cX6_digestPair 83 = .ok (.lload 4, 2) := by decide +kernel
theorem dX6_digestPair_85 : decode cX6_digestPair 85 = .ok (.lmul, 1) := by decide +kernel
theorem dX6_digestPair_86 : decode cX6_digestPair 86 = .ok (.aload_n 0, 1) := by decide +kernel
theorem dX6_digestPair_87 : decode cX6_digestPair 87 = .ok (.iload_n 3, 1) := by decide +kernel
theorem dX6_digestPair_88 : decode cX6_digestPair 88 = .ok (.iconst 1, 1) := by decide +kernel
theorem dX6_digestPair_89 : decode cX6_digestPair 89 = .ok (.invokevirtual 307, 3) := by decide +kernel
theorem dX6_digestPair_92 : decode cX6_digestPair 92 = .ok (.ladd, 1) := by decide +kernel
theorem dX6_digestPair_93 : decode cX6_digestPair 93 = .ok (.lstore 4, 2) := by decide +kernel
theorem dX6_digestPair_95 : decode cX6_digestPair 95 = .ok (.aload_n 0, 1) := by decide +kernel
end
section
theorem dX6_digestPair_96 : decode cX6_digestPair 96 = .ok (.iload_n 3, 1) := by decide +kernel
theorem dX6_digestPair_97 : decode cX6_digestPair 97 = .ok (.invokevirtual 136, 3) := by decide +kernel
theorem dX6_digestPair_100 : decode cX6_digestPair 100 = .ok (.ifCond .eq 47, 3) := by decide +kernel
theorem dX6_digestPair_103 : decode cX6_digestPair 103 = .ok (.ldc2_w 274, 3) := by decide +kernel
theorem dX6_digestPair_106 : decode cX6_digestPair 106 = .ok (.lload 4, 2) := by decide +kernel
theorem dX6_digestPair_108 : decode cX6_digestPair 108 = .ok (.lmul, 1) := by decide +kernel
theorem dX6_digestPair_109 : decode cX6_digestPair 109 = .ok (.aload_n 0, 1) := by decide +kernel
theorem dX6_digestPair_110 : decode cX6_digestPair 110 = .ok (.iload_n 3, 1) := by decide +kernel
theorem dX6_digestPair_111 : decode cX6_digestPair 111 = .ok (.iconst 0, 1) := by decide +kernel
theorem dX6_digestPair_112 : decode cX6_digestPair 112 = .ok (.invokevirtual 310, 3) := by decide +kernel
theorem dX6_digestPair_115 : decode cX6_digestPair 115 = .ok (.ladd, 1) := by decide +kernel
theorem dX6_digestPair_116 : decode cX6_digestPair 116 = .ok (.lstore 4, 2) := by decide +kernel
theorem dX6_digestPair_118 : decode cX6_digestPair 118 = .ok (.ldc2_w 274, 3) := by decide +kernel
theorem dX6_digestPair_121 : decode cX6_digestPair 121 = .ok (.lload 4, 2) := by decide +kernel
theorem dX6_digestPair_123 : decode cX6_digestPair 123 = .ok (.lmul, 1) := by decide +kernel
theorem dX6_digestPair_124 : decode cX6_digestPair 124 = .ok (.aload_n 0, 1) := by decide +kernel
theorem dX6_digestPair_125 : decode cX6_digestPair 125 = .ok (.iload_n 3, 1) := by decide +kernel
theorem dX6_digestPair_126 : decode cX6_digestPair 126 = .ok (.iconst 1, 1) := by decide +kernel
theorem dX6_digestPair_127 : decode cX6_digestPair 127 = .ok (.invokevirtual 310, 3) := by decide +kernel
theorem dX6_digestPair_130 : decode cX6_digestPair 130 = .ok (.ladd, 1) := by decide +kernel
theorem dX6_digestPair_131 : decode cX6_digestPair 131 = .ok (.lstore 4, 2) := by decide +kernel
theorem dX6_digestPair_133 : decode cX6_digestPair 133 = .ok (.ldc2_w 274, 3) := by decide +kernel
theorem dX6_digestPair_136 : decode cX6_digestPair 136 = .ok (.lload 4, 2) := by decide +kernel
theorem dX6_digestPair_138 : decode cX6_digestPair 138 = .ok (.lmul, 1) := by decide +kernel
theorem dX6_digestPair_139 : decode cX6_digestPair 139 = .ok (.aload_n 0, 1) := by decide +kernel
theorem dX6_digestPair_140 : decode cX6_digestPair 140 = .ok (.iload_n 3, 1) := by decide +kernel
theorem dX6_digestPair_141 : decode cX6_digestPair 141 = .ok (.invokevirtual 313, 3) := by decide +kernel
theorem dX6_digestPair_144 : decode cX6_digestPair 144 = .ok (.i2l, 1) := by decide +kernel
theorem dX6_digestPair_145 : decode cX6_digestPair 145 = .ok (.ladd, 1) := by decide +kernel
theorem dX6_digestPair_146 : decode cX6_digestPair 146 = .ok (.lreturn, 1) := by decide +kernel
theorem dX6_digestPair_147 : decode cX6_digestPair 147 = .ok (.ldc2_w 274, 3) := by decide +kernel
theorem dX6_digestPair_150 : decode cX6_digestPair 150 = .ok (.lload 4, 2) := by decide +kernel
theorem dX6_digestPair_152 : decode cX6_digestPair 152 = .ok (.lmul, 1) := by decide +kernel
theorem dX6_digestPair_153 : decode cX6_digestPair 153 = .ok (.aload_n 0, 1) := by decide +kernel
theorem dX6_digestPair_154 : decode cX6_digestPair 154 = .ok (.iload_n 3, 1) := by decide +kernel
theorem dX6_digestPair_155 : decode cX6_digestPair 155 = .ok (.iconst 0, 1) := by decide +kernel
theorem dX6_digestPair_156 : decode cX6_digestPair 156 = .ok (.invokevirtual 316, 3) := by decide +kernel
theorem dX6_digestPair_159 : decode cX6_digestPair 159 = .ok (.ladd, 1) := by decide +kernel
theorem dX6_digestPair_160 : decode cX6_digestPair 160 = .ok (.lstore 4, 2) := by decide +kernel
theorem dX6_digestPair_162 : decode cX6_digestPair 162 = .ok (.ldc2_w 274, 3) := by decide +kernel
theorem dX6_digestPair_165 : decode cX6_digestPair 165 = .ok (.lload 4, 2) := by decide +kernel
theorem dX6_digestPair_167 : decode cX6_digestPair 167 = .ok (.lmul, 1) := by decide +kernel
theorem dX6_digestPair_168 : decode cX6_digestPair 168 = .ok (.aload_n 0, 1) := by decide +kernel
theorem dX6_digestPair_169 : decode cX6_digestPair 169 = .ok (.iload_n 3, 1) := by decide +kernel
theorem dX6_digestPair_170 : decode cX6_digestPair 170 = .ok (.iconst 1, 1) := by decide +kernel
theorem dX6_digestPair_171 : decode cX6_digestPair 171 = .ok (.invokevirtual 316, 3) := by decide +kernel
theorem dX6_digestPair_174 : decode cX6_digestPair 174 = .ok (.ladd, 1) := by decide +kernel
theorem dX6_digestPair_175 : decode cX6_digestPair 175 = .ok (.lreturn, 1) := by decide +kernel
theorem dX6_bestNow_0 : decode cX6_bestNow 0 = .ok (.aload_n 0, 1) := by decide +kernel
theorem dX6_bestNow_1 : decode cX6_bestNow 1 = .ok (.getfield 52, 3) := by decide +kernel
theorem dX6_bestNow_4 : decode cX6_bestNow 4 = .ok (.ifCond .eq 26, 3) := by decide +kernel
theorem dX6_bestNow_7 : decode cX6_bestNow 7 = .ok (.aload_n 0, 1) := by decide +kernel
theorem dX6_bestNow_8 : decode cX6_bestNow 8 = .ok (.getfield 24, 3) := by decide +kernel
theorem dX6_bestNow_11 : decode cX6_bestNow 11 = .ok (.aload_n 0, 1) := by decide +kernel
theorem dX6_bestNow_12 : decode cX6_bestNow 12 = .ok (.getfield 13, 3) := by decide +kernel
theorem dX6_bestNow_15 : decode cX6_bestNow 15 = .ok (.aload_n 0, 1) := by decide +kernel
theorem dX6_bestNow_16 : decode cX6_bestNow 16 = .ok (.getfield 13, 3) := by decide +kernel
theorem dX6_bestNow_19 : decode cX6_bestNow 19 = .ok (.invokevirtual 75, 3) := by decide +kernel
theorem dX6_bestNow_22 : decode cX6_bestNow 22 = .ok (.invokevirtual 199, 3) := by decide +kernel
theorem dX6_bestNow_25 : decode cX6_bestNow 25 = .ok (.aload_n 0, 1) := by decide +kernel
theorem dX6_bestNow_26 : decode cX6_bestNow 26 = .ok (.iconst 0, 1) := by decide +kernel
theorem dX6_bestNow_27 : decode cX6_bestNow 27 = .ok (.putfield 52, 3) := by decide +kernel
theorem dX6_bestNow_30 : decode cX6_bestNow 30 = .ok (.aload_n 0, 1) := by decide +kernel
theorem dX6_bestNow_31 : decode cX6_bestNow 31 = .ok (.getfield 24, 3) := by decide +kernel
theorem dX6_bestNow_34 : decode cX6_bestNow 34 = .ok (.aload_n 0, 1) := by decide +kernel
theorem dX6_bestNow_35 : decode cX6_bestNow 35 = .ok (.getfield 72, 3) := by decide +kernel
theorem dX6_bestNow_38 : decode cX6_bestNow 38 = .ok (.invokevirtual 175, 3) := by decide +kernel
theorem dX6_bestNow_41 : decode cX6_bestNow 41 = .ok (.ireturn, 1) := by decide +kernel
theorem dX6_mostSaving_0 : decode cX6_mostSaving 0 = .ok (.iconst (-1), 1) := by decide +kernel
theorem dX6_mostSaving_1 : decode cX6_mostSaving 1 = .ok (.istore_n 1, 1) := by decide +kernel
theorem dX6_mostSaving_2 : decode cX6_mostSaving 2 = .ok (.aload_n 0, 1) := by decide +kernel
theorem dX6_mostSaving_3 : decode cX6_mostSaving 3 = .ok (.getfield 24, 3) := by decide +kernel
theorem dX6_mostSaving_6 : decode cX6_mostSaving 6 = .ok (.aload_n 0, 1) := by decide +kernel
theorem dX6_mostSaving_7 : decode cX6_mostSaving 7 = .ok (.getfield 72, 3) := by decide +kernel
theorem dX6_mostSaving_10 : decode cX6_mostSaving 10 = .ok (.invokevirtual 175, 3) := by decide +kernel
theorem dX6_mostSaving_13 : decode cX6_mostSaving 13 = .ok (.istore_n 2, 1) := by decide +kernel
theorem dX6_mostSaving_14 : decode cX6_mostSaving 14 = .ok (.iconst 0, 1) := by decide +kernel
theorem dX6_mostSaving_15 : decode cX6_mostSaving 15 = .ok (.istore_n 3, 1) := by decide +kernel
theorem dX6_mostSaving_16 : decode cX6_mostSaving 16 = .ok (.iload_n 3, 1) := by decide +kernel
theorem dX6_mostSaving_17 : decode cX6_mostSaving 17 = .ok (.aload_n 0, 1) := by decide +kernel
theorem dX6_mostSaving_18 : decode cX6_mostSaving 18 = .ok (.getfield 13, 3) := by decide +kernel
theorem dX6_mostSaving_21 : decode cX6_mostSaving 21 = .ok (.invokevirtual 98, 3) := by decide +kernel
theorem dX6_mostSaving_24 : decode cX6_mostSaving 24 = .ok (.if_icmp .ge 44, 3) := by decide +kernel
theorem dX6_mostSaving_27 : decode cX6_mostSaving 27 = .ok (.aload_n 0, 1) := by decide +kernel
theorem dX6_mostSaving_28 : decode cX6_mostSaving 28 = .ok (.getfield 24, 3) := by decide +kernel
theorem dX6_mostSaving_31 : decode cX6_mostSaving 31 = .ok (.aload_n 0, 1) := by decide +kernel
theorem dX6_mostSaving_32 : decode cX6_mostSaving 32 = .ok (.getfield 72, 3) := by decide +kernel
theorem dX6_mostSaving_35 : decode cX6_mostSaving 35 = .ok (.iconst 1, 1) := by decide +kernel
theorem dX6_mostSaving_36 : decode cX6_mostSaving 36 = .ok (.iload_n 3, 1) := by decide +kernel
theorem dX6_mostSaving_37 : decode cX6_mostSaving 37 = .ok (.ishl, 1) := by decide +kernel
theorem dX6_mostSaving_38 : decode cX6_mostSaving 38 = .ok (.ior, 1) := by decide +kernel
theorem dX6_mostSaving_39 : decode cX6_mostSaving 39 = .ok (.invokevirtual 175, 3) := by decide +kernel
theorem dX6_mostSaving_42 : decode cX6_mostSaving 42 = .ok (.istore 4, 2) := by decide +kernel
theorem dX6_mostSaving_44 : decode cX6_mostSaving 44 = .ok (.aload_n 0, 1) := by decide +kernel
theorem dX6_mostSaving_45 : decode cX6_mostSaving 45 = .ok (.getfield 24, 3) := by decide +kernel
theorem dX6_mostSaving_48 : decode cX6_mostSaving 48 = .ok (.iload_n 2, 1) := by decide +kernel
theorem dX6_mostSaving_49 : decode cX6_mostSaving 49 = .ok (.iload 4, 2) := by decide +kernel
theorem dX6_mostSaving_51 : decode cX6_mostSaving 51 = .ok (.invokevirtual 178, 3) := by decide +kernel
theorem dX6_mostSaving_54 : decode cX6_mostSaving 54 = .ok (.ifCond .eq 8, 3) := by decide +kernel
theorem dX6_mostSaving_57 : decode cX6_mostSaving 57 = .ok (.iload_n 3, 1) := by decide +kernel
theorem dX6_mostSaving_58 : decode cX6_mostSaving 58 = .ok (.istore_n 1, 1) := by decide +kernel
theorem dX6_mostSaving_59 : decode cX6_mostSaving 59 = .ok (.iload 4, 2) := by decide +kernel
theorem dX6_mostSaving_61 : decode cX6_mostSaving 61 = .ok (.istore_n 2, 1) := by decide +kernel
theorem dX6_mostSaving_62 : decode cX6_mostSaving 62 = .ok (.iinc 3 1, 3) := by decide +kernel
theorem dX6_mostSaving_65 : decode cX6_mostSaving 65 = .ok (.goto (-49), 3) := by decide +kernel
theorem dX6_mostSaving_68 : decode cX6_mostSaving 68 = .ok (.iload_n 1, 1) := by decide +kernel
theorem dX6_mostSaving_69 : decode cX6_mostSaving 69 = .ok (.ireturn, 1) := by decide +kernel
theorem dX6_crossings_0 : decode cX6_crossings 0 = .ok (.aload_n 0, 1) := by decide +kernel
theorem dX6_crossings_1 : decode cX6_crossings 1 = .ok (.invokevirtual 146, 3) := by decide +kernel
theorem dX6_crossings_4 : decode cX6_crossings 4 = .ok (.istore_n 1, 1) := by decide +kernel
theorem dX6_crossings_5 : decode cX6_crossings 5 = .ok (.iload_n 1, 1) := by decide +kernel
theorem dX6_crossings_6 : decode cX6_crossings 6 = .ok (.ifCond .ge 7, 3) := by decide +kernel
theorem dX6_crossings_9 : decode cX6_crossings 9 = .ok (.iconst (-1), 1) := by decide +kernel
theorem dX6_crossings_10 : decode cX6_crossings 10 = .ok (.goto 24, 3) := by decide +kernel
theorem dX6_crossings_13 : decode cX6_crossings 13 = .ok (.aload_n 0, 1) := by decide +kernel
theorem dX6_crossings_14 : decode cX6_crossings 14 = .ok (.getfield 41, 3) := by decide +kernel
theorem dX6_crossings_17 : decode cX6_crossings 17 = .ok (.aload_n 0, 1) := by decide +kernel
theorem dX6_crossings_18 : decode cX6_crossings 18 = .ok (.getfield 13, 3) := by decide +kernel
theorem dX6_crossings_21 : decode cX6_crossings 21 = .ok (.aload_n 0, 1) := by decide +kernel
theorem dX6_crossings_22 : decode cX6_crossings 22 = .ok (.getfield 24, 3) := by decide +kernel
theorem dX6_crossings_25 : decode cX6_crossings 25 = .ok (.getfield 157, 3) := by decide +kernel
theorem dX6_crossings_28 : decode cX6_crossings 28 = .ok (.iload_n 1, 1) := by decide +kernel
theorem dX6_crossings_29 : decode cX6_crossings 29 = .ok (.iaload, 1) := by decide +kernel
theorem dX6_crossings_30 : decode cX6_crossings 30 = .ok (.iconst (-1), 1) := by decide +kernel
theorem dX6_crossings_31 : decode cX6_crossings 31 = .ok (.invokevirtual 221, 3) := by decide +kernel
theorem dX6_crossings_34 : decode cX6_crossings 34 = .ok (.ireturn, 1) := by decide +kernel
theorem dX6_found_0 : decode cX6_found 0 = .ok (.aload_n 0, 1) := by decide +kernel
theorem dX6_found_1 : decode cX6_found 1 = .ok (.iload_n 1, 1) := by decide +kernel
theorem dX6_found_2 : decode cX6_found 2 = .ok (.putfield 269, 3) := by decide +kernel
theorem dX6_found_5 : decode cX6_found 5 = .ok (.bipush (-10), 2) := by decide +kernel
theorem dX6_found_7 : decode cX6_found 7 = .ok (.iload_n 1, 1) := by decide +kernel
theorem dX6_found_8 : decode cX6_found 8 = .ok (.isub, 1) := by decide +kernel
theorem dX6_found_9 : decode cX6_found 9 = .ok (.ireturn, 1) := by decide +kernel
theorem dX6_isBar_0 : decode cX6_isBar 0 = .ok (.aload_n 0, 1) := by decide +kernel
theorem dX6_isBar_1 : decode cX6_isBar 1 = .ok (.getfield 13, 3) := by decide +kernel
theorem dX6_isBar_4 : decode cX6_isBar 4 = .ok (.iload_n 1, 1) := by decide +kernel
theorem dX6_isBar_5 : decode cX6_isBar 5 = .ok (.invokevirtual 95, 3) := by decide +kernel
theorem dX6_isBar_8 : decode cX6_isBar 8 = .ok (.ifCond .eq 18, 3) := by decide +kernel
theorem dX6_isBar_11 : decode cX6_isBar 11 = .ok (.aload_n 0, 1) := by decide +kernel
theorem dX6_isBar_12 : decode cX6_isBar 12 = .ok (.getfield 72, 3) := by decide +kernel
theorem dX6_isBar_15 : decode cX6_isBar 15 = .ok (.iload_n 1, 1) := by decide +kernel
theorem dX6_isBar_16 : decode cX6_isBar 16 = .ok (.ishr, 1) := by decide +kernel
theorem dX6_isBar_17 : decode cX6_isBar 17 = .ok (.iconst 1, 1) := by decide +kernel
theorem dX6_isBar_18 : decode cX6_isBar 18 = .ok (.iand, 1) := by decide +kernel
theorem dX6_isBar_19 : decode cX6_isBar 19 = .ok (.ifCond .eq 7, 3) := by decide +kernel
theorem dX6_isBar_22 : decode cX6_isBar 22 = .ok (.iconst 1, 1) := by decide +kernel
theorem dX6_isBar_23 : decode cX6_isBar 23 = .ok (.goto 4, 3) := by decide +kernel
theorem dX6_isBar_26 : decode cX6_isBar 26 = .ok (.iconst 0, 1) := by decide +kernel
theorem dX6_isBar_27 : decode cX6_isBar 27 = .ok (.ireturn, 1) := by decide +kernel
theorem dX6_bitsOrNone_0 : decode cX6_bitsOrNone 0 = .ok (.iload_n 0, 1) := by decide +kernel
theorem dX6_bitsOrNone_1 : decode cX6_bitsOrNone 1 = .ok (.ifCond .ge 7, 3) := by decide +kernel
theorem dX6_bitsOrNone_4 : decode cX6_bitsOrNone 4 = .ok (.iconst (-1), 1) := by decide +kernel
theorem dX6_bitsOrNone_5 : decode cX6_bitsOrNone 5 = .ok (.goto 7, 3) := by decide +kernel
theorem dX6_bitsOrNone_8 : decode cX6_bitsOrNone 8 = .ok (.iload_n 0, 1) := by decide +kernel
theorem dX6_bitsOrNone_9 : decode cX6_bitsOrNone 9 = .ok (.invokestatic 194, 3) := by decide +kernel
theorem dX6_bitsOrNone_12 : decode cX6_bitsOrNone 12 = .ok (.ireturn, 1) := by decide +kernel
theorem dX6_asLong_0 : decode cX6_asLong 0 = .ok (.ldc2_w 319, 3) := by decide +kernel
theorem dX6_asLong_3 : decode cX6_asLong 3 = .ok (.iload_n 0, 1) := by decide +kernel
theorem dX6_asLong_4 : decode cX6_asLong 4 = .ok (.i2l, 1) := by decide +kernel
theorem dX6_asLong_5 : decode cX6_asLong 5 = .ok (.lsub, 1) := by decide +kernel
theorem dX6_asLong_6 : decode cX6_asLong 6 = .ok (.lreturn, 1) := by decide +kernel
theorem dX6_isWithin_0 : decode cX6_isWithin 0 = .ok (.iload_n 0, 1) := by decide +kernel
theorem dX6_isWithin_1 : decode cX6_isWithin 1 = .ok (.iload_n 1, 1) := by decide +kernel
theorem dX6_isWithin_2 : decode cX6_isWithin 2 = .ok (.if_icmp .lt 12, 3) := by decide +kernel
theorem dX6_isWithin_5 : decode cX6_isWithin 5 = .ok (.iload_n 0, 1) := by decide +kernel
theorem dX6_isWithin_6 : decode cX6_isWithin 6 = .ok (.iload_n 2, 1) := by decide +kernel
theorem dX6_isWithin_7 : decode cX6_isWithin 7 = .ok (.if_icmp .gt 7, 3) := by decide +kernel
theorem dX6_isWithin_10 : decode cX6_isWithin 10 = .ok (.iconst 1, 1) := by decide +kernel
theorem dX6_isWithin_11 : decode cX6_isWithin 11 = .ok (.goto 4, 3) := by decide +kernel
theorem dX6_isWithin_14 : decode cX6_isWithin 14 = .ok (.iconst 0, 1) := by decide +kernel
theorem dX6_isWithin_15 : decode cX6_isWithin 15 = .ok (.ireturn, 1) := by decide +kernel
theorem dX6_isLoad_0 : decode cX6_isLoad 0 = .ok (.lload_n 0, 1) := by decide +kernel
theorem dX6_isLoad_1 : decode cX6_isLoad 1 = .ok (.ldc2_w 321, 3) := by decide +kernel
theorem dX6_isLoad_4 : decode cX6_isLoad 4 = .ok (.lcmp, 1) := by decide +kernel
theorem dX6_isLoad_5 : decode cX6_isLoad 5 = .ok (.ifCond .lt 15, 3) := by decide +kernel
theorem dX6_isLoad_8 : decode cX6_isLoad 8 = .ok (.lload_n 0, 1) := by decide +kernel
theorem dX6_isLoad_9 : decode cX6_isLoad 9 = .ok (.ldc2_w 323, 3) := by decide +kernel
theorem dX6_isLoad_12 : decode cX6_isLoad 12 = .ok (.lcmp, 1) := by decide +kernel
theorem dX6_isLoad_13 : decode cX6_isLoad 13 = .ok (.ifCond .gt 7, 3) := by decide +kernel
theorem dX6_isLoad_16 : decode cX6_isLoad 16 = .ok (.iconst 1, 1) := by decide +kernel
theorem dX6_isLoad_17 : decode cX6_isLoad 17 = .ok (.goto 4, 3) := by decide +kernel
theorem dX6_isLoad_20 : decode cX6_isLoad 20 = .ok (.iconst 0, 1) := by decide +kernel
theorem dX6_isLoad_21 : decode cX6_isLoad 21 = .ok (.ireturn, 1) := by decide +kernel
theorem dX6_isPart_0 : decode cX6_isPart 0 = .ok (.iload_n 0, 1) := by decide +kernel
theorem dX6_isPart_1 : decode cX6_isPart 1 = .ok (.ifCond .eq 8, 3) := by decide +kernel
theorem dX6_isPart_4 : decode cX6_isPart 4 = .ok (.iload_n 0, 1) := by decide +kernel
theorem dX6_isPart_5 : decode cX6_isPart 5 = .ok (.iconst 1, 1) := by decide +kernel
theorem dX6_isPart_6 : decode cX6_isPart 6 = .ok (.if_icmp .ne 7, 3) := by decide +kernel
theorem dX6_isPart_9 : decode cX6_isPart 9 = .ok (.iconst 1, 1) := by decide +kernel
theorem dX6_isPart_10 : decode cX6_isPart 10 = .ok (.goto 4, 3) := by decide +kernel
theorem dX6_isPart_13 : decode cX6_isPart 13 = .ok (.iconst 0, 1) := by decide +kernel
theorem dX6_isPart_14 : decode cX6_isPart 14 = .ok (.ireturn, 1) := by decide +kernel
theorem dX6_isSheet_0 : decode cX6_isSheet 0 = .ok (.iload_n 0, 1) := by decide +kernel
theorem dX6_isSheet_1 : decode cX6_isSheet 1 = .ok (.ifCond .lt 12, 3) := by decide +kernel
theorem dX6_isSheet_4 : decode cX6_isSheet 4 = .ok (.iload_n 0, 1) := by decide +kernel
theorem dX6_isSheet_5 : decode cX6_isSheet 5 = .ok (.iconst 4, 1) := by decide +kernel
theorem dX6_isSheet_6 : decode cX6_isSheet 6 = .ok (.if_icmp .ge 7, 3) := by decide +kernel
theorem dX6_isSheet_9 : decode cX6_isSheet 9 = .ok (.iconst 1, 1) := by decide +kernel
theorem dX6_isSheet_10 : decode cX6_isSheet 10 = .ok (.goto 4, 3) := by decide +kernel
theorem dX6_isSheet_13 : decode cX6_isSheet 13 = .ok (.iconst 0, 1) := by decide +kernel
theorem dX6_isSheet_14 : decode cX6_isSheet 14 = .ok (.ireturn, 1) := by decide +kernel
theorem dX6_lowest_0 : decode cX6_lowest 0 = .ok (.lload_n 0, 1) := by decide +kernel
theorem dX6_lowest_1 : decode cX6_lowest 1 = .ok (.invokestatic 211, 3) := by decide +kernel
theorem dX6_lowest_4 : decode cX6_lowest 4 = .ok (.lstore 5, 2) := by decide +kernel
theorem dX6_lowest_6 : decode cX6_lowest 6 = .ok (.lload_n 2, 1) := by decide +kernel
theorem dX6_lowest_7 : decode cX6_lowest 7 = .ok (.invokestatic 211, 3) := by decide +kernel
theorem dX6_lowest_10 : decode cX6_lowest 10 = .ok (.lstore 7, 2) := by decide +kernel
theorem dX6_lowest_12 : decode cX6_lowest 12 = .ok (.iconst 0, 1) := by decide +kernel
theorem dX6_lowest_13 : decode cX6_lowest 13 = .ok (.istore 9, 2) := by decide +kernel
theorem dX6_lowest_15 : decode cX6_lowest 15 = .ok (.iload 9, 2) := by decide +kernel
theorem dX6_lowest_17 : decode cX6_lowest 17 = .ok (.sipush 128, 3) := by decide +kernel
theorem dX6_lowest_20 : decode cX6_lowest 20 = .ok (.if_icmp .ge 31, 3) := by decide +kernel
theorem dX6_lowest_23 : decode cX6_lowest 23 = .ok (.lload 7, 2) := by decide +kernel
theorem dX6_lowest_25 : decode cX6_lowest 25 = .ok (.lconst 0, 1) := by decide +kernel
theorem dX6_lowest_26 : decode cX6_lowest 26 = .ok (.lcmp, 1) := by decide +kernel
theorem dX6_lowest_27 : decode cX6_lowest 27 = .ok (.ifCond .eq 24, 3) := by decide +kernel
theorem dX6_lowest_30 : decode cX6_lowest 30 = .ok (.lload 5, 2) := by decide +kernel
theorem dX6_lowest_32 : decode cX6_lowest 32 = .ok (.lload 7, 2) := by decide +kernel
theorem dX6_lowest_34 : decode cX6_lowest 34 = .ok (.lrem, 1) := by decide +kernel
theorem dX6_lowest_35 : decode cX6_lowest 35 = .ok (.lstore 10, 2) := by decide +kernel
theorem dX6_lowest_37 : decode cX6_lowest 37 = .ok (.lload 7, 2) := by decide +kernel
theorem dX6_lowest_39 : decode cX6_lowest 39 = .ok (.lstore 5, 2) := by decide +kernel
theorem dX6_lowest_41 : decode cX6_lowest 41 = .ok (.lload 10, 2) := by decide +kernel
theorem dX6_lowest_43 : decode cX6_lowest 43 = .ok (.lstore 7, 2) := by decide +kernel
theorem dX6_lowest_45 : decode cX6_lowest 45 = .ok (.iinc 9 1, 3) := by decide +kernel
theorem dX6_lowest_48 : decode cX6_lowest 48 = .ok (.goto (-33), 3) := by decide +kernel
theorem dX6_lowest_51 : decode cX6_lowest 51 = .ok (.lload_n 2, 1) := by decide +kernel
theorem dX6_lowest_52 : decode cX6_lowest 52 = .ok (.lconst 0, 1) := by decide +kernel
theorem dX6_lowest_53 : decode cX6_lowest 53 = .ok (.lcmp, 1) := by decide +kernel
theorem dX6_lowest_54 : decode cX6_lowest 54 = .ok (.ifCond .ge 9, 3) := by decide +kernel
theorem dX6_lowest_57 : decode cX6_lowest 57 = .ok (.lload 5, 2) := by decide +kernel
theorem dX6_lowest_59 : decode cX6_lowest 59 = .ok (.lneg, 1) := by decide +kernel
theorem dX6_lowest_60 : decode cX6_lowest 60 = .ok (.goto 5, 3) := by decide +kernel
theorem dX6_lowest_63 : decode cX6_lowest 63 = .ok (.lload 5, 2) := by decide +kernel
theorem dX6_lowest_65 : decode cX6_lowest 65 = .ok (.lstore 9, 2) := by decide +kernel
theorem dX6_lowest_67 : decode cX6_lowest 67 = .ok (.lload 9, 2) := by decide +kernel
theorem dX6_lowest_69 : decode cX6_lowest 69 = .ok (.lconst 0, 1) := by decide +kernel
theorem dX6_lowest_70 : decode cX6_lowest 70 = .ok (.lcmp, 1) := by decide +kernel
theorem dX6_lowest_71 : decode cX6_lowest 71 = .ok (.ifCond .ne 7, 3) := by decide +kernel
theorem dX6_lowest_74 : decode cX6_lowest 74 = .ok (.iload 4, 2) := by decide +kernel
theorem dX6_lowest_76 : decode cX6_lowest 76 = .ok (.i2l, 1) := by decide +kernel
theorem dX6_lowest_77 : decode cX6_lowest 77 = .ok (.lreturn, 1) := by decide +kernel
theorem dX6_lowest_78 : decode cX6_lowest 78 = .ok (.iload 4, 2) := by decide +kernel
theorem dX6_lowest_80 : decode cX6_lowest 80 = .ok (.ifCond .ne 7, 3) := by decide +kernel
theorem dX6_lowest_83 : decode cX6_lowest 83 = .ok (.lload_n 0, 1) := by decide +kernel
theorem dX6_lowest_84 : decode cX6_lowest 84 = .ok (.goto 4, 3) := by decide +kernel
theorem dX6_lowest_87 : decode cX6_lowest 87 = .ok (.lload_n 2, 1) := by decide +kernel
theorem dX6_lowest_88 : decode cX6_lowest 88 = .ok (.lload 9, 2) := by decide +kernel
theorem dX6_lowest_90 : decode cX6_lowest 90 = .ok (.ldiv, 1) := by decide +kernel
theorem dX6_lowest_91 : decode cX6_lowest 91 = .ok (.lreturn, 1) := by decide +kernel
theorem dX7_init_0 : decode cX7_init 0 = .ok (.aload_n 0, 1) := by decide +kernel
theorem dX7_init_1 : decode cX7_init 1 = .ok (.invokespecial 1, 3) := by decide +kernel
theorem dX7_init_4 : decode cX7_init 4 = .ok (.aload_n 0, 1) := by decide +kernel
theorem dX7_init_5 : decode cX7_init 5 = .ok (.iconst 5, 1) := by decide +kernel
theorem dX7_init_6 : decode cX7_init 6 = .ok (.newarray .int, 2) := by decide +kernel
theorem dX7_init_8 : decode cX7_init 8 = .ok (.putfield 7, 3) := by decide +kernel
theorem dX7_init_11 : decode cX7_init 11 = .ok (.aload_n 0, 1) := by decide +kernel
theorem dX7_init_12 : decode cX7_init 12 = .ok (.iconst 5, 1) := by decide +kernel
theorem dX7_init_13 : decode cX7_init 13 = .ok (.newarray .int, 2) := by decide +kernel
theorem dX7_init_15 : decode cX7_init 15 = .ok (.putfield 13, 3) := by decide +kernel
theorem dX7_init_18 : decode cX7_init 18 = .ok (.aload_n 0, 1) := by decide +kernel
theorem dX7_init_19 : decode cX7_init 19 = .ok (.iconst 5, 1) := by decide +kernel
theorem dX7_init_20 : decode cX7_init 20 = .ok (.newarray .int, 2) := by decide +kernel
theorem dX7_init_22 : decode cX7_init 22 = .ok (.putfield 16, 3) := by decide +kernel
theorem dX7_init_25 : decode cX7_init 25 = .ok (.aload_n 0, 1) := by decide +kernel
theorem dX7_init_26 : decode cX7_init 26 = .ok (.bipush 10, 2) := by decide +kernel
theorem dX7_init_28 : decode cX7_init 28 = .ok (.newarray .int, 2) := by decide +kernel
theorem dX7_init_30 : decode cX7_init 30 = .ok (.putfield 19, 3) := by decide +kernel
theorem dX7_init_33 : decode cX7_init 33 = .ok (.aload_n 0, 1) := by decide +kernel
theorem dX7_init_34 : decode cX7_init 34 = .ok (.bipush 10, 2) := by decide +kernel
theorem dX7_init_36 : decode cX7_init 36 = .ok (.newarray .int, 2) := by decide +kernel
theorem dX7_init_38 : decode cX7_init 38 = .ok (.putfield 22, 3) := by decide +kernel
theorem dX7_init_41 : decode cX7_init 41 = .ok (.aload_n 0, 1) := by decide +kernel
theorem dX7_init_42 : decode cX7_init 42 = .ok (.bipush 110, 2) := by decide +kernel
theorem dX7_init_44 : decode cX7_init 44 = .ok (.newarray .long, 2) := by decide +kernel
theorem dX7_init_46 : decode cX7_init 46 = .ok (.putfield 25, 3) := by decide +kernel
theorem dX7_init_49 : decode cX7_init 49 = .ok (.aload_n 0, 1) := by decide +kernel
theorem dX7_init_50 : decode cX7_init 50 = .ok (.bipush 10, 2) := by decide +kernel
theorem dX7_init_52 : decode cX7_init 52 = .ok (.newarray .int, 2) := by decide +kernel
theorem dX7_init_54 : decode cX7_init 54 = .ok (.putfield 29, 3) := by decide +kernel
theorem dX7_init_57 : decode cX7_init 57 = .ok (.aload_n 0, 1) := by decide +kernel
theorem dX7_init_58 : decode cX7_init 58 = .ok (.sipush 1024, 3) := by decide +kernel
theorem dX7_init_61 : decode cX7_init 61 = .ok (.newarray .boolean, 2) := by decide +kernel
theorem dX7_init_63 : decode cX7_init 63 = .ok (.putfield 32, 3) := by decide +kernel
theorem dX7_init_66 : decode cX7_init 66 = .ok (.aload_n 0, 1) := by decide +kernel
theorem dX7_init_67 : decode cX7_init 67 = .ok (.sipush 1024, 3) := by decide +kernel
theorem dX7_init_70 : decode cX7_init 70 = .ok (.newarray .long, 2) := by decide +kernel
theorem dX7_init_72 : decode cX7_init 72 = .ok (.putfield 36, 3) := by decide +kernel
theorem dX7_init_75 : decode cX7_init 75 = .ok (.aload_n 0, 1) := by decide +kernel
theorem dX7_init_76 : decode cX7_init 76 = .ok (.sipush 1024, 3) := by decide +kernel
theorem dX7_init_79 : decode cX7_init 79 = .ok (.newarray .long, 2) := by decide +kernel
theorem dX7_init_81 : decode cX7_init 81 = .ok (.putfield 39, 3) := by decide +kernel
theorem dX7_init_84 : decode cX7_init 84 = .ok (.aload_n 0, 1) := by decide +kernel
theorem dX7_init_85 : decode cX7_init 85 = .ok (.iconst 4, 1) := by decide +kernel
theorem dX7_init_86 : decode cX7_init 86 = .ok (.newarray .int, 2) := by decide +kernel
theorem dX7_init_88 : decode cX7_init 88 = .ok (.putfield 42, 3) := by decide +kernel
theorem dX7_init_91 : decode cX7_init 91 = .ok (.aload_n 0, 1) := by decide +kernel
theorem dX7_init_92 : decode cX7_init 92 = .ok (.iconst 4, 1) := by decide +kernel
theorem dX7_init_93 : decode cX7_init 93 = .ok (.newarray .int, 2) := by decide +kernel
theorem dX7_init_95 : decode cX7_init 95 = .ok (.putfield 45, 3) := by decide +kernel
theorem dX7_init_98 : decode cX7_init 98 = .ok (.aload_n 0, 1) := by decide +kernel
theorem dX7_init_99 : decode cX7_init 99 = .ok (.sipush 160, 3) := by decide +kernel
theorem dX7_init_102 : decode cX7_init 102 = .ok (.newarray .long, 2) := by decide +kernel
theorem dX7_init_104 : decode cX7_init 104 = .ok (.putfield 48, 3) := by decide +kernel
theorem dX7_init_107 : decode cX7_init 107 = .ok (.aload_n 0, 1) := by decide +kernel
theorem dX7_init_108 : decode cX7_init 108 = .ok (.bipush 40, 2) := by decide +kernel
theorem dX7_init_110 : decode cX7_init 110 = .ok (.newarray .long, 2) := by decide +kernel
theorem dX7_init_112 : decode cX7_init 112 = .ok (.putfield 51, 3) := by decide +kernel
theorem dX7_init_115 : decode cX7_init 115 = .ok (.iconst 0, 1) := by decide +kernel
theorem dX7_init_116 : decode cX7_init 116 = .ok (.istore_n 1, 1) := by decide +kernel
theorem dX7_init_117 : decode cX7_init 117 = .ok (.iload_n 1, 1) := by decide +kernel
theorem dX7_init_118 : decode cX7_init 118 = .ok (.iconst 4, 1) := by decide +kernel
theorem dX7_init_119 : decode cX7_init 119 = .ok (.if_icmp .ge 16, 3) := by decide +kernel
theorem dX7_init_122 : decode cX7_init 122 = .ok (.aload_n 0, 1) := by decide +kernel
theorem dX7_init_123 : decode cX7_init 123 = .ok (.getfield 42, 3) := by decide +kernel
theorem dX7_init_126 : decode cX7_init 126 = .ok (.iload_n 1, 1) := by decide +kernel
theorem dX7_init_127 : decode cX7_init 127 = .ok (.iconst (-1), 1) := by decide +kernel
theorem dX7_init_128 : decode cX7_init 128 = .ok (.iastore, 1) := by decide +kernel
theorem dX7_init_129 : decode cX7_init 129 = .ok (.iinc 1 1, 3) := by decide +kernel
theorem dX7_init_132 : decode cX7_init 132 = .ok (.goto (-15), 3) := by decide +kernel
theorem dX7_init_135 : decode cX7_init 135 = .ok (.return_, 1) := by decide +kernel
theorem dX7_in_0 : decode cX7_in 0 = .ok (.iload_n 0, 1) := by decide +kernel
theorem dX7_in_1 : decode cX7_in 1 = .ok (.iload_n 1, 1) := by decide +kernel
theorem dX7_in_2 : decode cX7_in 2 = .ok (.if_icmp .lt 12, 3) := by decide +kernel
theorem dX7_in_5 : decode cX7_in 5 = .ok (.iload_n 0, 1) := by decide +kernel
theorem dX7_in_6 : decode cX7_in 6 = .ok (.iload_n 2, 1) := by decide +kernel
theorem dX7_in_7 : decode cX7_in 7 = .ok (.if_icmp .gt 7, 3) := by decide +kernel
theorem dX7_in_10 : decode cX7_in 10 = .ok (.iconst 1, 1) := by decide +kernel
theorem dX7_in_11 : decode cX7_in 11 = .ok (.goto 4, 3) := by decide +kernel
theorem dX7_in_14 : decode cX7_in 14 = .ok (.iconst 0, 1) := by decide +kernel
theorem dX7_in_15 : decode cX7_in 15 = .ok (.ireturn, 1) := by decide +kernel
theorem dX7_no_0 : decode cX7_no 0 = .ok (.ldc2_w 54, 3) := by decide +kernel
theorem dX7_no_3 : decode cX7_no 3 = .ok (.iload_n 0, 1) := by decide +kernel
theorem dX7_no_4 : decode cX7_no 4 = .ok (.i2l, 1) := by decide +kernel
theorem dX7_no_5 : decode cX7_no 5 = .ok (.lsub, 1) := by decide +kernel
theorem dX7_no_6 : decode cX7_no 6 = .ok (.lreturn, 1) := by decide +kernel
theorem dX7_divisor_0 : decode cX7_divisor 0 = .ok (.lload_n 0, 1) := by decide +kernel
theorem dX7_divisor_1 : decode cX7_divisor 1 = .ok (.lconst 0, 1) := by decide +kernel
theorem dX7_divisor_2 : decode cX7_divisor 2 = .ok (.lcmp, 1) := by decide +kernel
theorem dX7_divisor_3 : decode cX7_divisor 3 = .ok (.ifCond .ge 8, 3) := by decide +kernel
theorem dX7_divisor_6 : decode cX7_divisor 6 = .ok (.lload_n 0, 1) := by decide +kernel
theorem dX7_divisor_7 : decode cX7_divisor 7 = .ok (.lneg, 1) := by decide +kernel
theorem dX7_divisor_8 : decode cX7_divisor 8 = .ok (.goto 4, 3) := by decide +kernel
theorem dX7_divisor_11 : decode cX7_divisor 11 = .ok (.lload_n 0, 1) := by decide +kernel
theorem dX7_divisor_12 : decode cX7_divisor 12 = .ok (.lstore 4, 2) := by decide +kernel
theorem dX7_divisor_14 : decode cX7_divisor 14 = .ok (.lload_n 2, 1) := by decide +kernel
theorem dX7_divisor_15 : decode cX7_divisor 15 = .ok (.lconst 0, 1) := by decide +kernel
theorem dX7_divisor_16 : decode cX7_divisor 16 = .ok (.lcmp, 1) := by decide +kernel
theorem dX7_divisor_17 : decode cX7_divisor 17 = .ok (.ifCond .ge 8, 3) := by decide +kernel
theorem dX7_divisor_20 : decode cX7_divisor 20 = .ok (.lload_n 2, 1) := by decide +kernel
theorem dX7_divisor_21 : decode cX7_divisor 21 = .ok (.lneg, 1) := by decide +kernel
theorem dX7_divisor_22 : decode cX7_divisor 22 = .ok (.goto 4, 3) := by decide +kernel
theorem dX7_divisor_25 : decode cX7_divisor 25 = .ok (.lload_n 2, 1) := by decide +kernel
theorem dX7_divisor_26 : decode cX7_divisor 26 = .ok (.lstore 6, 2) := by decide +kernel
theorem dX7_divisor_28 : decode cX7_divisor 28 = .ok (.lload 6, 2) := by decide +kernel
theorem dX7_divisor_30 : decode cX7_divisor 30 = .ok (.lconst 0, 1) := by decide +kernel
theorem dX7_divisor_31 : decode cX7_divisor 31 = .ok (.lcmp, 1) := by decide +kernel
theorem dX7_divisor_32 : decode cX7_divisor 32 = .ok (.ifCond .eq 21, 3) := by decide +kernel
theorem dX7_divisor_35 : decode cX7_divisor 35 = .ok (.lload 4, 2) := by decide +kernel
theorem dX7_divisor_37 : decode cX7_divisor 37 = .ok (.lload 6, 2) := by decide +kernel
theorem dX7_divisor_39 : decode cX7_divisor 39 = .ok (.lrem, 1) := by decide +kernel
theorem dX7_divisor_40 : decode cX7_divisor 40 = .ok (.lstore 8, 2) := by decide +kernel
theorem dX7_divisor_42 : decode cX7_divisor 42 = .ok (.lload 6, 2) := by decide +kernel
theorem dX7_divisor_44 : decode cX7_divisor 44 = .ok (.lstore 4, 2) := by decide +kernel
theorem dX7_divisor_46 : decode cX7_divisor 46 = .ok (.lload 8, 2) := by decide +kernel
theorem dX7_divisor_48 : decode cX7_divisor 48 = .ok (.lstore 6, 2) := by decide +kernel
theorem dX7_divisor_50 : decode cX7_divisor 50 = .ok (.goto (-22), 3) := by decide +kernel
theorem dX7_divisor_53 : decode cX7_divisor 53 = .ok (.lload 4, 2) := by decide +kernel
theorem dX7_divisor_55 : decode cX7_divisor 55 = .ok (.lreturn, 1) := by decide +kernel
theorem dX7_partOf_0 : decode cX7_partOf 0 = .ok (.lload_n 0, 1) := by decide +kernel
theorem dX7_partOf_1 : decode cX7_partOf 1 = .ok (.lload_n 2, 1) := by decide +kernel
theorem dX7_partOf_2 : decode cX7_partOf 2 = .ok (.invokestatic 56, 3) := by decide +kernel
theorem dX7_partOf_5 : decode cX7_partOf 5 = .ok (.lstore 5, 2) := by decide +kernel
theorem dX7_partOf_7 : decode cX7_partOf 7 = .ok (.lload_n 2, 1) := by decide +kernel
theorem dX7_partOf_8 : decode cX7_partOf 8 = .ok (.lconst 0, 1) := by decide +kernel
theorem dX7_partOf_9 : decode cX7_partOf 9 = .ok (.lcmp, 1) := by decide +kernel
theorem dX7_partOf_10 : decode cX7_partOf 10 = .ok (.ifCond .ge 9, 3) := by decide +kernel
theorem dX7_partOf_13 : decode cX7_partOf 13 = .ok (.lload 5, 2) := by decide +kernel
theorem dX7_partOf_15 : decode cX7_partOf 15 = .ok (.lneg, 1) := by decide +kernel
theorem dX7_partOf_16 : decode cX7_partOf 16 = .ok (.goto 5, 3) := by decide +kernel
theorem dX7_partOf_19 : decode cX7_partOf 19 = .ok (.lload 5, 2) := by decide +kernel
theorem dX7_partOf_21 : decode cX7_partOf 21 = .ok (.lstore 5, 2) := by decide +kernel
theorem dX7_partOf_23 : decode cX7_partOf 23 = .ok (.iload 4, 2) := by decide +kernel
theorem dX7_partOf_25 : decode cX7_partOf 25 = .ok (.ifCond .ne 10, 3) := by decide +kernel
theorem dX7_partOf_28 : decode cX7_partOf 28 = .ok (.lload_n 0, 1) := by decide +kernel
theorem dX7_partOf_29 : decode cX7_partOf 29 = .ok (.lload 5, 2) := by decide +kernel
theorem dX7_partOf_31 : decode cX7_partOf 31 = .ok (.ldiv, 1) := by decide +kernel
theorem dX7_partOf_32 : decode cX7_partOf 32 = .ok (.goto 7, 3) := by decide +kernel
theorem dX7_partOf_35 : decode cX7_partOf 35 = .ok (.lload_n 2, 1) := by decide +kernel
theorem dX7_partOf_36 : decode cX7_partOf 36 = .ok (.lload 5, 2) := by decide +kernel
theorem dX7_partOf_38 : decode cX7_partOf 38 = .ok (.ldiv, 1) := by decide +kernel
theorem dX7_partOf_39 : decode cX7_partOf 39 = .ok (.lreturn, 1) := by decide +kernel
theorem dX7_isPoint_0 : decode cX7_isPoint 0 = .ok (.iload_n 1, 1) := by decide +kernel
theorem dX7_isPoint_1 : decode cX7_isPoint 1 = .ok (.iconst 0, 1) := by decide +kernel
theorem dX7_isPoint_2 : decode cX7_isPoint 2 = .ok (.aload_n 0, 1) := by decide +kernel
theorem dX7_isPoint_3 : decode cX7_isPoint 3 = .ok (.getfield 60, 3) := by decide +kernel
theorem dX7_isPoint_6 : decode cX7_isPoint 6 = .ok (.iconst 1, 1) := by decide +kernel
theorem dX7_isPoint_7 : decode cX7_isPoint 7 = .ok (.isub, 1) := by decide +kernel
theorem dX7_isPoint_8 : decode cX7_isPoint 8 = .ok (.invokestatic 64, 3) := by decide +kernel
theorem dX7_isPoint_11 : decode cX7_isPoint 11 = .ok (.ireturn, 1) := by decide +kernel
theorem dX7_pairs_0 : decode cX7_pairs 0 = .ok (.aload_n 0, 1) := by decide +kernel
theorem dX7_pairs_1 : decode cX7_pairs 1 = .ok (.getfield 60, 3) := by decide +kernel
theorem dX7_pairs_4 : decode cX7_pairs 4 = .ok (.aload_n 0, 1) := by decide +kernel
theorem dX7_pairs_5 : decode cX7_pairs 5 = .ok (.getfield 60, 3) := by decide +kernel
theorem dX7_pairs_8 : decode cX7_pairs 8 = .ok (.iconst 1, 1) := by decide +kernel
theorem dX7_pairs_9 : decode cX7_pairs 9 = .ok (.isub, 1) := by decide +kernel
theorem dX7_pairs_10 : decode cX7_pairs 10 = .ok (.imul, 1) := by decide +kernel
theorem dX7_pairs_11 : decode cX7_pairs 11 = .ok (.iconst 2, 1) := by decide +kernel
theorem dX7_pairs_12 : decode cX7_pairs 12 = .ok (.idiv, 1) := by decide +kernel
theorem dX7_pairs_13 : decode cX7_pairs 13 = .ok (.ireturn, 1) := by decide +kernel
theorem dX7_isPair_0 : decode cX7_isPair 0 = .ok (.iload_n 1, 1) := by decide +kernel
theorem dX7_isPair_1 : decode cX7_isPair 1 = .ok (.iconst 0, 1) := by decide +kernel
theorem dX7_isPair_2 : decode cX7_isPair 2 = .ok (.aload_n 0, 1) := by decide +kernel
theorem dX7_isPair_3 : decode cX7_isPair 3 = .ok (.invokevirtual 68, 3) := by decide +kernel
theorem dX7_isPair_6 : decode cX7_isPair 6 = .ok (.iconst 1, 1) := by decide +kernel
theorem dX7_isPair_7 : decode cX7_isPair 7 = .ok (.isub, 1) := by decide +kernel
theorem dX7_isPair_8 : decode cX7_isPair 8 = .ok (.invokestatic 64, 3) := by decide +kernel
theorem dX7_isPair_11 : decode cX7_isPair 11 = .ok (.ireturn, 1) := by decide +kernel
theorem dX7_isBar_0 : decode cX7_isBar 0 = .ok (.aload_n 0, 1) := by decide +kernel
theorem dX7_isBar_1 : decode cX7_isBar 1 = .ok (.iload_n 1, 1) := by decide +kernel
theorem dX7_isBar_2 : decode cX7_isBar 2 = .ok (.invokevirtual 72, 3) := by decide +kernel
theorem dX7_isBar_5 : decode cX7_isBar 5 = .ok (.ifCond .eq 19, 3) := by decide +kernel
theorem dX7_isBar_8 : decode cX7_isBar 8 = .ok (.aload_n 0, 1) := by decide +kernel
theorem dX7_isBar_9 : decode cX7_isBar 9 = .ok (.getfield 76, 3) := by decide +kernel
theorem dX7_isBar_12 : decode cX7_isBar 12 = .ok (.iload_n 1, 1) := by decide +kernel
theorem dX7_isBar_13 : decode cX7_isBar 13 = .ok (.ishr, 1) := by decide +kernel
theorem dX7_isBar_14 : decode cX7_isBar 14 = .ok (.iconst 1, 1) := by decide +kernel
theorem dX7_isBar_15 : decode cX7_isBar 15 = .ok (.iand, 1) := by decide +kernel
theorem dX7_isBar_16 : decode cX7_isBar 16 = .ok (.iconst 1, 1) := by decide +kernel
theorem dX7_isBar_17 : decode cX7_isBar 17 = .ok (.if_icmp .ne 7, 3) := by decide +kernel
theorem dX7_isBar_20 : decode cX7_isBar 20 = .ok (.iconst 1, 1) := by decide +kernel
theorem dX7_isBar_21 : decode cX7_isBar 21 = .ok (.goto 4, 3) := by decide +kernel
theorem dX7_isBar_24 : decode cX7_isBar 24 = .ok (.iconst 0, 1) := by decide +kernel
theorem dX7_isBar_25 : decode cX7_isBar 25 = .ok (.ireturn, 1) := by decide +kernel
theorem dX7_greater_0 : decode cX7_greater 0 = .ok (.iconst 1, 1) := by decide +kernel
theorem dX7_greater_1 : decode cX7_greater 1 = .ok (.istore_n 1, 1) := by decide +kernel
theorem dX7_greater_2 : decode cX7_greater 2 = .ok (.iload_n 1, 1) := by decide +kernel
theorem dX7_greater_3 : decode cX7_greater 3 = .ok (.iconst 1, 1) := by decide +kernel
theorem dX7_greater_4 : decode cX7_greater 4 = .ok (.iadd, 1) := by decide +kernel
theorem dX7_greater_5 : decode cX7_greater 5 = .ok (.iload_n 1, 1) := by decide +kernel
theorem dX7_greater_6 : decode cX7_greater 6 = .ok (.imul, 1) := by decide +kernel
theorem dX7_greater_7 : decode cX7_greater 7 = .ok (.iconst 2, 1) := by decide +kernel
theorem dX7_greater_8 : decode cX7_greater 8 = .ok (.idiv, 1) := by decide +kernel
theorem dX7_greater_9 : decode cX7_greater 9 = .ok (.iload_n 0, 1) := by decide +kernel
theorem dX7_greater_10 : decode cX7_greater 10 = .ok (.if_icmp .gt 9, 3) := by decide +kernel
theorem dX7_greater_13 : decode cX7_greater 13 = .ok (.iinc 1 1, 3) := by decide +kernel
theorem dX7_greater_16 : decode cX7_greater 16 = .ok (.goto (-14), 3) := by decide +kernel
theorem dX7_greater_19 : decode cX7_greater 19 = .ok (.iload_n 1, 1) := by decide +kernel
theorem dX7_greater_20 : decode cX7_greater 20 = .ok (.ireturn, 1) := by decide +kernel
theorem dX7_lesser_0 : decode cX7_lesser 0 = .ok (.iload_n 0, 1) := by decide +kernel
theorem dX7_lesser_1 : decode cX7_lesser 1 = .ok (.invokestatic 79, 3) := by decide +kernel
theorem dX7_lesser_4 : decode cX7_lesser 4 = .ok (.istore_n 1, 1) := by decide +kernel
theorem dX7_lesser_5 : decode cX7_lesser 5 = .ok (.iload_n 0, 1) := by decide +kernel
theorem dX7_lesser_6 : decode cX7_lesser 6 = .ok (.iload_n 1, 1) := by decide +kernel
theorem dX7_lesser_7 : decode cX7_lesser 7 = .ok (.iload_n 1, 1) := by decide +kernel
theorem dX7_lesser_8 : decode cX7_lesser 8 = .ok (.iconst 1, 1) := by decide +kernel
theorem dX7_lesser_9 : decode cX7_lesser 9 = .ok (.isub, 1) := by decide +kernel
theorem dX7_lesser_10 : decode cX7_lesser 10 = .ok (.imul, 1) := by decide +kernel
theorem dX7_lesser_11 : decode cX7_lesser 11 = .ok (.iconst 2, 1) := by decide +kernel
theorem dX7_lesser_12 : decode cX7_lesser 12 = .ok (.idiv, 1) := by decide +kernel
theorem dX7_lesser_13 : decode cX7_lesser 13 = .ok (.isub, 1) := by decide +kernel
theorem dX7_lesser_14 : decode cX7_lesser 14 = .ok (.ireturn, 1) := by decide +kernel
theorem dX7_far_0 : decode cX7_far 0 = .ok (.iload_n 1, 1) := by decide +kernel
theorem dX7_far_1 : decode cX7_far 1 = .ok (.invokestatic 83, 3) := by decide +kernel
theorem dX7_far_4 : decode cX7_far 4 = .ok (.istore_n 3, 1) := by decide +kernel
theorem dX7_far_5 : decode cX7_far 5 = .ok (.iload_n 1, 1) := by decide +kernel
theorem dX7_far_6 : decode cX7_far 6 = .ok (.invokestatic 79, 3) := by decide +kernel
theorem dX7_far_9 : decode cX7_far 9 = .ok (.istore 4, 2) := by decide +kernel
theorem dX7_far_11 : decode cX7_far 11 = .ok (.iload_n 2, 1) := by decide +kernel
theorem dX7_far_12 : decode cX7_far 12 = .ok (.ifCond .ne 20, 3) := by decide +kernel
theorem dX7_far_15 : decode cX7_far 15 = .ok (.aload_n 0, 1) := by decide +kernel
theorem dX7_far_16 : decode cX7_far 16 = .ok (.getfield 7, 3) := by decide +kernel
theorem dX7_far_19 : decode cX7_far 19 = .ok (.iload 4, 2) := by decide +kernel
theorem dX7_far_21 : decode cX7_far 21 = .ok (.iaload, 1) := by decide +kernel
theorem dX7_far_22 : decode cX7_far 22 = .ok (.aload_n 0, 1) := by decide +kernel
theorem dX7_far_23 : decode cX7_far 23 = .ok (.getfield 7, 3) := by decide +kernel
theorem dX7_far_26 : decode cX7_far 26 = .ok (.iload_n 3, 1) := by decide +kernel
theorem dX7_far_27 : decode cX7_far 27 = .ok (.iaload, 1) := by decide +kernel
theorem dX7_far_28 : decode cX7_far 28 = .ok (.isub, 1) := by decide +kernel
theorem dX7_far_29 : decode cX7_far 29 = .ok (.goto 17, 3) := by decide +kernel
theorem dX7_far_32 : decode cX7_far 32 = .ok (.aload_n 0, 1) := by decide +kernel
theorem dX7_far_33 : decode cX7_far 33 = .ok (.getfield 13, 3) := by decide +kernel
theorem dX7_far_36 : decode cX7_far 36 = .ok (.iload 4, 2) := by decide +kernel
theorem dX7_far_38 : decode cX7_far 38 = .ok (.iaload, 1) := by decide +kernel
theorem dX7_far_39 : decode cX7_far 39 = .ok (.aload_n 0, 1) := by decide +kernel
theorem dX7_far_40 : decode cX7_far 40 = .ok (.getfield 13, 3) := by decide +kernel
theorem dX7_far_43 : decode cX7_far 43 = .ok (.iload_n 3, 1) := by decide +kernel
theorem dX7_far_44 : decode cX7_far 44 = .ok (.iaload, 1) := by decide +kernel
theorem dX7_far_45 : decode cX7_far 45 = .ok (.isub, 1) := by decide +kernel
theorem dX7_far_46 : decode cX7_far 46 = .ok (.ireturn, 1) := by decide +kernel
theorem dX7_quad_0 : decode cX7_quad 0 = .ok (.aload_n 0, 1) := by decide +kernel
theorem dX7_quad_1 : decode cX7_quad 1 = .ok (.iload_n 1, 1) := by decide +kernel
theorem dX7_quad_2 : decode cX7_quad 2 = .ok (.iconst 0, 1) := by decide +kernel
theorem dX7_quad_3 : decode cX7_quad 3 = .ok (.invokevirtual 86, 3) := by decide +kernel
theorem dX7_quad_6 : decode cX7_quad 6 = .ok (.aload_n 0, 1) := by decide +kernel
theorem dX7_quad_7 : decode cX7_quad 7 = .ok (.iload_n 1, 1) := by decide +kernel
theorem dX7_quad_8 : decode cX7_quad 8 = .ok (.iconst 0, 1) := by decide +kernel
theorem dX7_quad_9 : decode cX7_quad 9 = .ok (.invokevirtual 86, 3) := by decide +kernel
theorem dX7_quad_12 : decode cX7_quad 12 = .ok (.imul, 1) := by decide +kernel
theorem dX7_quad_13 : decode cX7_quad 13 = .ok (.aload_n 0, 1) := by decide +kernel
theorem dX7_quad_14 : decode cX7_quad 14 = .ok (.iload_n 1, 1) := by decide +kernel
theorem dX7_quad_15 : decode cX7_quad 15 = .ok (.iconst 1, 1) := by decide +kernel
theorem dX7_quad_16 : decode cX7_quad 16 = .ok (.invokevirtual 86, 3) := by decide +kernel
theorem dX7_quad_19 : decode cX7_quad 19 = .ok (.aload_n 0, 1) := by decide +kernel
theorem dX7_quad_20 : decode cX7_quad 20 = .ok (.iload_n 1, 1) := by decide +kernel
theorem dX7_quad_21 : decode cX7_quad 21 = .ok (.iconst 1, 1) := by decide +kernel
theorem dX7_quad_22 : decode cX7_quad 22 = .ok (.invokevirtual 86, 3) := by decide +kernel
theorem dX7_quad_25 : decode cX7_quad 25 = .ok (.imul, 1) := by decide +kernel
theorem dX7_quad_26 : decode cX7_quad 26 = .ok (.iadd, 1) := by decide +kernel
theorem dX7_quad_27 : decode cX7_quad 27 = .ok (.ireturn, 1) := by decide +kernel
theorem dX7_point_0 : decode cX7_point 0 = .ok (.iload_n 1, 1) := by decide +kernel
theorem dX7_point_1 : decode cX7_point 1 = .ok (.iconst 0, 1) := by decide +kernel
theorem dX7_point_2 : decode cX7_point 2 = .ok (.iconst 4, 1) := by decide +kernel
theorem dX7_point_3 : decode cX7_point 3 = .ok (.invokestatic 64, 3) := by decide +kernel
theorem dX7_point_6 : decode cX7_point 6 = .ok (.ifCond .eq 12, 3) := by decide +kernel
theorem dX7_point_9 : decode cX7_point 9 = .ok (.iload_n 2, 1) := by decide +kernel
theorem dX7_point_10 : decode cX7_point 10 = .ok (.iconst 0, 1) := by decide +kernel
theorem dX7_point_11 : decode cX7_point 11 = .ok (.iconst 4, 1) := by decide +kernel
theorem dX7_point_12 : decode cX7_point 12 = .ok (.invokestatic 64, 3) := by decide +kernel
theorem dX7_point_15 : decode cX7_point 15 = .ok (.ifCond .ne 6, 3) := by decide +kernel
theorem dX7_point_18 : decode cX7_point 18 = .ok (.bipush (-2), 2) := by decide +kernel
theorem dX7_point_20 : decode cX7_point 20 = .ok (.ireturn, 1) := by decide +kernel
theorem dX7_point_21 : decode cX7_point 21 = .ok (.iconst 0, 1) := by decide +kernel
theorem dX7_point_22 : decode cX7_point 22 = .ok (.istore_n 3, 1) := by decide +kernel
theorem dX7_point_23 : decode cX7_point 23 = .ok (.iload_n 3, 1) := by decide +kernel
theorem dX7_point_24 : decode cX7_point 24 = .ok (.aload_n 0, 1) := by decide +kernel
theorem dX7_point_25 : decode cX7_point 25 = .ok (.getfield 60, 3) := by decide +kernel
theorem dX7_point_28 : decode cX7_point 28 = .ok (.if_icmp .ge 32, 3) := by decide +kernel
theorem dX7_point_31 : decode cX7_point 31 = .ok (.aload_n 0, 1) := by decide +kernel
theorem dX7_point_32 : decode cX7_point 32 = .ok (.getfield 7, 3) := by decide +kernel
theorem dX7_point_35 : decode cX7_point 35 = .ok (.iload_n 3, 1) := by decide +kernel
theorem dX7_point_36 : decode cX7_point 36 = .ok (.iaload, 1) := by decide +kernel
theorem dX7_point_37 : decode cX7_point 37 = .ok (.iload_n 1, 1) := by decide +kernel
theorem dX7_point_38 : decode cX7_point 38 = .ok (.if_icmp .ne 16, 3) := by decide +kernel
theorem dX7_point_41 : decode cX7_point 41 = .ok (.aload_n 0, 1) := by decide +kernel
theorem dX7_point_42 : decode cX7_point 42 = .ok (.getfield 13, 3) := by decide +kernel
theorem dX7_point_45 : decode cX7_point 45 = .ok (.iload_n 3, 1) := by decide +kernel
theorem dX7_point_46 : decode cX7_point 46 = .ok (.iaload, 1) := by decide +kernel
theorem dX7_point_47 : decode cX7_point 47 = .ok (.iload_n 2, 1) := by decide +kernel
theorem dX7_point_48 : decode cX7_point 48 = .ok (.if_icmp .ne 6, 3) := by decide +kernel
theorem dX7_point_51 : decode cX7_point 51 = .ok (.bipush (-3), 2) := by decide +kernel
theorem dX7_point_53 : decode cX7_point 53 = .ok (.ireturn, 1) := by decide +kernel
theorem dX7_point_54 : decode cX7_point 54 = .ok (.iinc 3 1, 3) := by decide +kernel
theorem dX7_point_57 : decode cX7_point 57 = .ok (.goto (-34), 3) := by decide +kernel
theorem dX7_point_60 : decode cX7_point 60 = .ok (.aload_n 0, 1) := by decide +kernel
theorem dX7_point_61 : decode cX7_point 61 = .ok (.getfield 60, 3) := by decide +kernel
theorem dX7_point_64 : decode cX7_point 64 = .ok (.iconst 5, 1) := by decide +kernel
theorem dX7_point_65 : decode cX7_point 65 = .ok (.if_icmp .ne 6, 3) := by decide +kernel
theorem dX7_point_68 : decode cX7_point 68 = .ok (.bipush (-4), 2) := by decide +kernel
theorem dX7_point_70 : decode cX7_point 70 = .ok (.ireturn, 1) := by decide +kernel
theorem dX7_point_71 : decode cX7_point 71 = .ok (.aload_n 0, 1) := by decide +kernel
theorem dX7_point_72 : decode cX7_point 72 = .ok (.getfield 7, 3) := by decide +kernel
theorem dX7_point_75 : decode cX7_point 75 = .ok (.aload_n 0, 1) := by decide +kernel
theorem dX7_point_76 : decode cX7_point 76 = .ok (.getfield 60, 3) := by decide +kernel
theorem dX7_point_79 : decode cX7_point 79 = .ok (.iload_n 1, 1) := by decide +kernel
theorem dX7_point_80 : decode cX7_point 80 = .ok (.iastore, 1) := by decide +kernel
theorem dX7_point_81 : decode cX7_point 81 = .ok (.aload_n 0, 1) := by decide +kernel
theorem dX7_point_82 : decode cX7_point 82 = .ok (.getfield 13, 3) := by decide +kernel
theorem dX7_point_85 : decode cX7_point 85 = .ok (.aload_n 0, 1) := by decide +kernel
theorem dX7_point_86 : decode cX7_point 86 = .ok (.getfield 60, 3) := by decide +kernel
theorem dX7_point_89 : decode cX7_point 89 = .ok (.iload_n 2, 1) := by decide +kernel
theorem dX7_point_90 : decode cX7_point 90 = .ok (.iastore, 1) := by decide +kernel
theorem dX7_point_91 : decode cX7_point 91 = .ok (.aload_n 0, 1) := by decide +kernel
theorem dX7_point_92 : decode cX7_point 92 = .ok (.getfield 16, 3) := by decide +kernel
theorem dX7_point_95 : decode cX7_point 95 = .ok (.aload_n 0, 1) := by decide +kernel
theorem dX7_point_96 : decode cX7_point 96 = .ok (.getfield 60, 3) := by decide +kernel
theorem dX7_point_99 : decode cX7_point 99 = .ok (.iconst 0, 1) := by decide +kernel
theorem dX7_point_100 : decode cX7_point 100 = .ok (.iastore, 1) := by decide +kernel
theorem dX7_point_101 : decode cX7_point 101 = .ok (.iconst 2, 1) := by decide +kernel
theorem dX7_point_102 : decode cX7_point 102 = .ok (.aload_n 0, 1) := by decide +kernel
theorem dX7_point_103 : decode cX7_point 103 = .ok (.getfield 60, 3) := by decide +kernel
theorem dX7_point_106 : decode cX7_point 106 = .ok (.imul, 1) := by decide +kernel
theorem dX7_point_107 : decode cX7_point 107 = .ok (.istore_n 3, 1) := by decide +kernel
theorem dX7_point_108 : decode cX7_point 108 = .ok (.iload_n 3, 1) := by decide +kernel
theorem dX7_point_109 : decode cX7_point 109 = .ok (.iconst 2, 1) := by decide +kernel
theorem dX7_point_110 : decode cX7_point 110 = .ok (.aload_n 0, 1) := by decide +kernel
theorem dX7_point_111 : decode cX7_point 111 = .ok (.getfield 60, 3) := by decide +kernel
theorem dX7_point_114 : decode cX7_point 114 = .ok (.imul, 1) := by decide +kernel
theorem dX7_point_115 : decode cX7_point 115 = .ok (.iconst 2, 1) := by decide +kernel
theorem dX7_point_116 : decode cX7_point 116 = .ok (.iadd, 1) := by decide +kernel
theorem dX7_point_117 : decode cX7_point 117 = .ok (.if_icmp .ge 23, 3) := by decide +kernel
theorem dX7_point_120 : decode cX7_point 120 = .ok (.aload_n 0, 1) := by decide +kernel
theorem dX7_point_121 : decode cX7_point 121 = .ok (.getfield 19, 3) := by decide +kernel
theorem dX7_point_124 : decode cX7_point 124 = .ok (.iload_n 3, 1) := by decide +kernel
theorem dX7_point_125 : decode cX7_point 125 = .ok (.iconst 0, 1) := by decide +kernel
theorem dX7_point_126 : decode cX7_point 126 = .ok (.iastore, 1) := by decide +kernel
theorem dX7_point_127 : decode cX7_point 127 = .ok (.aload_n 0, 1) := by decide +kernel
theorem dX7_point_128 : decode cX7_point 128 = .ok (.getfield 22, 3) := by decide +kernel
theorem dX7_point_131 : decode cX7_point 131 = .ok (.iload_n 3, 1) := by decide +kernel
theorem dX7_point_132 : decode cX7_point 132 = .ok (.iconst 0, 1) := by decide +kernel
theorem dX7_point_133 : decode cX7_point 133 = .ok (.iastore, 1) := by decide +kernel
theorem dX7_point_134 : decode cX7_point 134 = .ok (.iinc 3 1, 3) := by decide +kernel
theorem dX7_point_137 : decode cX7_point 137 = .ok (.goto (-29), 3) := by decide +kernel
theorem dX7_point_140 : decode cX7_point 140 = .ok (.aload_n 0, 1) := by decide +kernel
theorem dX7_point_141 : decode cX7_point 141 = .ok (.dup, 1) := by decide +kernel
theorem dX7_point_142 : decode cX7_point 142 = .ok (.getfield 60, 3) := by decide +kernel
theorem dX7_point_145 : decode cX7_point 145 = .ok (.iconst 1, 1) := by decide +kernel
theorem dX7_point_146 : decode cX7_point 146 = .ok (.iadd, 1) := by decide +kernel
theorem dX7_point_147 : decode cX7_point 147 = .ok (.putfield 60, 3) := by decide +kernel
theorem dX7_point_150 : decode cX7_point 150 = .ok (.aload_n 0, 1) := by decide +kernel
theorem dX7_point_151 : decode cX7_point 151 = .ok (.iconst 0, 1) := by decide +kernel
theorem dX7_point_152 : decode cX7_point 152 = .ok (.putfield 90, 3) := by decide +kernel
theorem dX7_point_155 : decode cX7_point 155 = .ok (.aload_n 0, 1) := by decide +kernel
theorem dX7_point_156 : decode cX7_point 156 = .ok (.getfield 60, 3) := by decide +kernel
theorem dX7_point_159 : decode cX7_point 159 = .ok (.iconst 1, 1) := by decide +kernel
theorem dX7_point_160 : decode cX7_point 160 = .ok (.isub, 1) := by decide +kernel
theorem dX7_point_161 : decode cX7_point 161 = .ok (.ireturn, 1) := by decide +kernel
theorem dX7_back_0 : decode cX7_back 0 = .ok (.aload_n 0, 1) := by decide +kernel
theorem dX7_back_1 : decode cX7_back 1 = .ok (.getfield 60, 3) := by decide +kernel
theorem dX7_back_4 : decode cX7_back 4 = .ok (.ifCond .ne 6, 3) := by decide +kernel
theorem dX7_back_7 : decode cX7_back 7 = .ok (.bipush (-3), 2) := by decide +kernel
theorem dX7_back_9 : decode cX7_back 9 = .ok (.ireturn, 1) := by decide +kernel
theorem dX7_back_10 : decode cX7_back 10 = .ok (.aload_n 0, 1) := by decide +kernel
theorem dX7_back_11 : decode cX7_back 11 = .ok (.dup, 1) := by decide +kernel
theorem dX7_back_12 : decode cX7_back 12 = .ok (.getfield 60, 3) := by decide +kernel
theorem dX7_back_15 : decode cX7_back 15 = .ok (.iconst 1, 1) := by decide +kernel
theorem dX7_back_16 : decode cX7_back 16 = .ok (.isub, 1) := by decide +kernel
theorem dX7_back_17 : decode cX7_back 17 = .ok (.putfield 60, 3) := by decide +kernel
theorem dX7_back_20 : decode cX7_back 20 = .ok (.aload_n 0, 1) := by decide +kernel
theorem dX7_back_21 : decode cX7_back 21 = .ok (.dup, 1) := by decide +kernel
theorem dX7_back_22 : decode cX7_back 22 = .ok (.getfield 76, 3) := by decide +kernel
theorem dX7_back_25 : decode cX7_back 25 = .ok (.iconst 1, 1) := by decide +kernel
theorem dX7_back_26 : decode cX7_back 26 = .ok (.aload_n 0, 1) := by decide +kernel
theorem dX7_back_27 : decode cX7_back 27 = .ok (.invokevirtual 68, 3) := by decide +kernel
theorem dX7_back_30 : decode cX7_back 30 = .ok (.ishl, 1) := by decide +kernel
theorem dX7_back_31 : decode cX7_back 31 = .ok (.iconst 1, 1) := by decide +kernel
theorem dX7_back_32 : decode cX7_back 32 = .ok (.isub, 1) := by decide +kernel
theorem dX7_back_33 : decode cX7_back 33 = .ok (.iand, 1) := by decide +kernel
theorem dX7_back_34 : decode cX7_back 34 = .ok (.putfield 76, 3) := by decide +kernel
theorem dX7_back_37 : decode cX7_back 37 = .ok (.aload_n 0, 1) := by decide +kernel
theorem dX7_back_38 : decode cX7_back 38 = .ok (.iconst 0, 1) := by decide +kernel
theorem dX7_back_39 : decode cX7_back 39 = .ok (.putfield 90, 3) := by decide +kernel
theorem dX7_back_42 : decode cX7_back 42 = .ok (.aload_n 0, 1) := by decide +kernel
theorem dX7_back_43 : decode cX7_back 43 = .ok (.getfield 60, 3) := by decide +kernel
theorem dX7_back_46 : decode cX7_back 46 = .ok (.ireturn, 1) := by decide +kernel
theorem dX7_hold_0 : decode cX7_hold 0 = .ok (.aload_n 0, 1) := by decide +kernel
theorem dX7_hold_1 : decode cX7_hold 1 = .ok (.iload_n 1, 1) := by decide +kernel
theorem dX7_hold_2 : decode cX7_hold 2 = .ok (.invokevirtual 94, 3) := by decide +kernel
theorem dX7_hold_5 : decode cX7_hold 5 = .ok (.ifCond .eq 12, 3) := by decide +kernel
theorem dX7_hold_8 : decode cX7_hold 8 = .ok (.iload_n 2, 1) := by decide +kernel
theorem dX7_hold_9 : decode cX7_hold 9 = .ok (.iconst 0, 1) := by decide +kernel
theorem dX7_hold_10 : decode cX7_hold 10 = .ok (.iconst 3, 1) := by decide +kernel
theorem dX7_hold_11 : decode cX7_hold 11 = .ok (.invokestatic 64, 3) := by decide +kernel
theorem dX7_hold_14 : decode cX7_hold 14 = .ok (.ifCond .ne 6, 3) := by decide +kernel
theorem dX7_hold_17 : decode cX7_hold 17 = .ok (.bipush (-2), 2) := by decide +kernel
theorem dX7_hold_19 : decode cX7_hold 19 = .ok (.ireturn, 1) := by decide +kernel
theorem dX7_hold_20 : decode cX7_hold 20 = .ok (.aload_n 0, 1) := by decide +kernel
theorem dX7_hold_21 : decode cX7_hold 21 = .ok (.getfield 16, 3) := by decide +kernel
theorem dX7_hold_24 : decode cX7_hold 24 = .ok (.iload_n 1, 1) := by decide +kernel
theorem dX7_hold_25 : decode cX7_hold 25 = .ok (.iaload, 1) := by decide +kernel
theorem dX7_hold_26 : decode cX7_hold 26 = .ok (.istore_n 3, 1) := by decide +kernel
theorem dX7_hold_27 : decode cX7_hold 27 = .ok (.aload_n 0, 1) := by decide +kernel
theorem dX7_hold_28 : decode cX7_hold 28 = .ok (.getfield 16, 3) := by decide +kernel
theorem dX7_hold_31 : decode cX7_hold 31 = .ok (.iload_n 1, 1) := by decide +kernel
theorem dX7_hold_32 : decode cX7_hold 32 = .ok (.iload_n 2, 1) := by decide +kernel
theorem dX7_hold_33 : decode cX7_hold 33 = .ok (.iastore, 1) := by decide +kernel
theorem dX7_hold_34 : decode cX7_hold 34 = .ok (.aload_n 0, 1) := by decide +kernel
theorem dX7_hold_35 : decode cX7_hold 35 = .ok (.iconst 0, 1) := by decide +kernel
theorem dX7_hold_36 : decode cX7_hold 36 = .ok (.putfield 90, 3) := by decide +kernel
theorem dX7_hold_39 : decode cX7_hold 39 = .ok (.iload_n 3, 1) := by decide +kernel
theorem dX7_hold_40 : decode cX7_hold 40 = .ok (.ireturn, 1) := by decide +kernel
theorem dX7_load_0 : decode cX7_load 0 = .ok (.aload_n 0, 1) := by decide +kernel
theorem dX7_load_1 : decode cX7_load 1 = .ok (.iload_n 1, 1) := by decide +kernel
theorem dX7_load_2 : decode cX7_load 2 = .ok (.invokevirtual 94, 3) := by decide +kernel
theorem dX7_load_5 : decode cX7_load 5 = .ok (.ifCond .eq 23, 3) := by decide +kernel
theorem dX7_load_8 : decode cX7_load 8 = .ok (.iload_n 2, 1) := by decide +kernel
theorem dX7_load_9 : decode cX7_load 9 = .ok (.iconst 0, 1) := by decide +kernel
theorem dX7_load_10 : decode cX7_load 10 = .ok (.iconst 1, 1) := by decide +kernel
theorem dX7_load_11 : decode cX7_load 11 = .ok (.invokestatic 64, 3) := by decide +kernel
theorem dX7_load_14 : decode cX7_load 14 = .ok (.ifCond .eq 14, 3) := by decide +kernel
theorem dX7_load_17 : decode cX7_load 17 = .ok (.iload_n 3, 1) := by decide +kernel
theorem dX7_load_18 : decode cX7_load 18 = .ok (.bipush (-9), 2) := by decide +kernel
theorem dX7_load_20 : decode cX7_load 20 = .ok (.bipush 9, 2) := by decide +kernel
theorem dX7_load_22 : decode cX7_load 22 = .ok (.invokestatic 64, 3) := by decide +kernel
theorem dX7_load_25 : decode cX7_load 25 = .ok (.ifCond .ne 6, 3) := by decide +kernel
theorem dX7_load_28 : decode cX7_load 28 = .ok (.ldc 97, 2) := by decide +kernel
theorem dX7_load_30 : decode cX7_load 30 = .ok (.ireturn, 1) := by decide +kernel
theorem dX7_load_31 : decode cX7_load 31 = .ok (.aload_n 0, 1) := by decide +kernel
theorem dX7_load_32 : decode cX7_load 32 = .ok (.getfield 19, 3) := by decide +kernel
theorem dX7_load_35 : decode cX7_load 35 = .ok (.iconst 2, 1) := by decide +kernel
theorem dX7_load_36 : decode cX7_load 36 = .ok (.iload_n 1, 1) := by decide +kernel
theorem dX7_load_37 : decode cX7_load 37 = .ok (.imul, 1) := by decide +kernel
theorem dX7_load_38 : decode cX7_load 38 = .ok (.iload_n 2, 1) := by decide +kernel
theorem dX7_load_39 : decode cX7_load 39 = .ok (.iadd, 1) := by decide +kernel
theorem dX7_load_40 : decode cX7_load 40 = .ok (.iaload, 1) := by decide +kernel
theorem dX7_load_41 : decode cX7_load 41 = .ok (.istore 4, 2) := by decide +kernel
theorem dX7_load_43 : decode cX7_load 43 = .ok (.aload_n 0, 1) := by decide +kernel
theorem dX7_load_44 : decode cX7_load 44 = .ok (.getfield 19, 3) := by decide +kernel
theorem dX7_load_47 : decode cX7_load 47 = .ok (.iconst 2, 1) := by decide +kernel
theorem dX7_load_48 : decode cX7_load 48 = .ok (.iload_n 1, 1) := by decide +kernel
theorem dX7_load_49 : decode cX7_load 49 = .ok (.imul, 1) := by decide +kernel
theorem dX7_load_50 : decode cX7_load 50 = .ok (.iload_n 2, 1) := by decide +kernel
theorem dX7_load_51 : decode cX7_load 51 = .ok (.iadd, 1) := by decide +kernel
theorem dX7_load_52 : decode cX7_load 52 = .ok (.iload_n 3, 1) := by decide +kernel
theorem dX7_load_53 : decode cX7_load 53 = .ok (.iastore, 1) := by decide +kernel
theorem dX7_load_54 : decode cX7_load 54 = .ok (.aload_n 0, 1) := by decide +kernel
theorem dX7_load_55 : decode cX7_load 55 = .ok (.iconst 0, 1) := by decide +kernel
theorem dX7_load_56 : decode cX7_load 56 = .ok (.putfield 90, 3) := by decide +kernel
theorem dX7_load_59 : decode cX7_load 59 = .ok (.iload 4, 2) := by decide +kernel
theorem dX7_load_61 : decode cX7_load 61 = .ok (.ireturn, 1) := by decide +kernel
theorem dX7_bar_0 : decode cX7_bar 0 = .ok (.aload_n 0, 1) := by decide +kernel
theorem dX7_bar_1 : decode cX7_bar 1 = .ok (.iload_n 1, 1) := by decide +kernel
theorem dX7_bar_2 : decode cX7_bar 2 = .ok (.invokevirtual 72, 3) := by decide +kernel
theorem dX7_bar_5 : decode cX7_bar 5 = .ok (.ifCond .ne 6, 3) := by decide +kernel
theorem dX7_bar_8 : decode cX7_bar 8 = .ok (.bipush (-2), 2) := by decide +kernel
theorem dX7_bar_10 : decode cX7_bar 10 = .ok (.ireturn, 1) := by decide +kernel
theorem dX7_bar_11 : decode cX7_bar 11 = .ok (.aload_n 0, 1) := by decide +kernel
theorem dX7_bar_12 : decode cX7_bar 12 = .ok (.dup, 1) := by decide +kernel
theorem dX7_bar_13 : decode cX7_bar 13 = .ok (.getfield 76, 3) := by decide +kernel
theorem dX7_bar_16 : decode cX7_bar 16 = .ok (.iconst 1, 1) := by decide +kernel
theorem dX7_bar_17 : decode cX7_bar 17 = .ok (.iload_n 1, 1) := by decide +kernel
theorem dX7_bar_18 : decode cX7_bar 18 = .ok (.ishl, 1) := by decide +kernel
theorem dX7_bar_19 : decode cX7_bar 19 = .ok (.ixor, 1) := by decide +kernel
theorem dX7_bar_20 : decode cX7_bar 20 = .ok (.putfield 76, 3) := by decide +kernel
theorem dX7_bar_23 : decode cX7_bar 23 = .ok (.aload_n 0, 1) := by decide +kernel
theorem dX7_bar_24 : decode cX7_bar 24 = .ok (.getfield 76, 3) := by decide +kernel
theorem dX7_bar_27 : decode cX7_bar 27 = .ok (.ireturn, 1) := by decide +kernel
theorem dX7_all_0 : decode cX7_all 0 = .ok (.aload_n 0, 1) := by decide +kernel
theorem dX7_all_1 : decode cX7_all 1 = .ok (.iconst 1, 1) := by decide +kernel
theorem dX7_all_2 : decode cX7_all 2 = .ok (.aload_n 0, 1) := by decide +kernel
theorem dX7_all_3 : decode cX7_all 3 = .ok (.invokevirtual 68, 3) := by decide +kernel
theorem dX7_all_6 : decode cX7_all 6 = .ok (.ishl, 1) := by decide +kernel
theorem dX7_all_7 : decode cX7_all 7 = .ok (.iconst 1, 1) := by decide +kernel
theorem dX7_all_8 : decode cX7_all 8 = .ok (.isub, 1) := by decide +kernel
theorem dX7_all_9 : decode cX7_all 9 = .ok (.putfield 76, 3) := by decide +kernel
theorem dX7_all_12 : decode cX7_all 12 = .ok (.aload_n 0, 1) := by decide +kernel
theorem dX7_all_13 : decode cX7_all 13 = .ok (.invokevirtual 68, 3) := by decide +kernel
theorem dX7_all_16 : decode cX7_all 16 = .ok (.ireturn, 1) := by decide +kernel
theorem dX7_read_0 : decode cX7_read 0 = .ok (.iload_n 1, 1) := by decide +kernel
theorem dX7_read_1 : decode cX7_read 1 = .ok (.invokestatic 98, 3) := by decide +kernel
theorem dX7_read_4 : decode cX7_read 4 = .ok (.ifCond .ne 6, 3) := by decide +kernel
theorem dX7_read_7 : decode cX7_read 7 = .ok (.bipush (-2), 2) := by decide +kernel
theorem dX7_read_9 : decode cX7_read 9 = .ok (.ireturn, 1) := by decide +kernel
theorem dX7_read_10 : decode cX7_read 10 = .ok (.aload_n 0, 1) := by decide +kernel
theorem dX7_read_11 : decode cX7_read 11 = .ok (.getfield 42, 3) := by decide +kernel
theorem dX7_read_14 : decode cX7_read 14 = .ok (.iload_n 1, 1) := by decide +kernel
theorem dX7_read_15 : decode cX7_read 15 = .ok (.iaload, 1) := by decide +kernel
theorem dX7_read_16 : decode cX7_read 16 = .ok (.iconst (-1), 1) := by decide +kernel
theorem dX7_read_17 : decode cX7_read 17 = .ok (.if_icmp .ne 9, 3) := by decide +kernel
theorem dX7_read_20 : decode cX7_read 20 = .ok (.aload_n 0, 1) := by decide +kernel
theorem dX7_read_21 : decode cX7_read 21 = .ok (.iconst 1, 1) := by decide +kernel
theorem dX7_read_22 : decode cX7_read 22 = .ok (.invokevirtual 101, 3) := by decide +kernel
theorem dX7_read_25 : decode cX7_read 25 = .ok (.ireturn, 1) := by decide +kernel
theorem dX7_read_26 : decode cX7_read 26 = .ok (.iconst 0, 1) := by decide +kernel
theorem dX7_read_27 : decode cX7_read 27 = .ok (.istore_n 2, 1) := by decide +kernel
theorem dX7_read_28 : decode cX7_read 28 = .ok (.iload_n 2, 1) := by decide +kernel
theorem dX7_read_29 : decode cX7_read 29 = .ok (.aload_n 0, 1) := by decide +kernel
theorem dX7_read_30 : decode cX7_read 30 = .ok (.getfield 45, 3) := by decide +kernel
theorem dX7_read_33 : decode cX7_read 33 = .ok (.iload_n 1, 1) := by decide +kernel
theorem dX7_read_34 : decode cX7_read 34 = .ok (.iaload, 1) := by decide +kernel
theorem dX7_read_35 : decode cX7_read 35 = .ok (.if_icmp .ge 73, 3) := by decide +kernel
theorem dX7_read_38 : decode cX7_read 38 = .ok (.iload_n 2, 1) := by decide +kernel
theorem dX7_read_39 : decode cX7_read 39 = .ok (.iconst 2, 1) := by decide +kernel
theorem dX7_read_40 : decode cX7_read 40 = .ok (.aload_n 0, 1) := by decide +kernel
theorem dX7_read_41 : decode cX7_read 41 = .ok (.getfield 60, 3) := by decide +kernel
theorem dX7_read_44 : decode cX7_read 44 = .ok (.imul, 1) := by decide +kernel
theorem dX7_read_45 : decode cX7_read 45 = .ok (.if_icmp .ge 63, 3) := by decide +kernel
theorem dX7_read_48 : decode cX7_read 48 = .ok (.aload_n 0, 1) := by decide +kernel
theorem dX7_read_49 : decode cX7_read 49 = .ok (.getfield 48, 3) := by decide +kernel
theorem dX7_read_52 : decode cX7_read 52 = .ok (.bipush 40, 2) := by decide +kernel
theorem dX7_read_54 : decode cX7_read 54 = .ok (.iload_n 1, 1) := by decide +kernel
theorem dX7_read_55 : decode cX7_read 55 = .ok (.imul, 1) := by decide +kernel
theorem dX7_read_56 : decode cX7_read 56 = .ok (.iload_n 2, 1) := by decide +kernel
theorem dX7_read_57 : decode cX7_read 57 = .ok (.iadd, 1) := by decide +kernel
theorem dX7_read_58 : decode cX7_read 58 = .ok (.laload, 1) := by decide +kernel
theorem dX7_read_59 : decode cX7_read 59 = .ok (.ldc2_w 104, 3) := by decide +kernel
theorem dX7_read_62 : decode cX7_read 62 = .ok (.lcmp, 1) := by decide +kernel
theorem dX7_read_63 : decode cX7_read 63 = .ok (.ifCond .lt 45, 3) := by decide +kernel
theorem dX7_read_66 : decode cX7_read 66 = .ok (.aload_n 0, 1) := by decide +kernel
theorem dX7_read_67 : decode cX7_read 67 = .ok (.getfield 48, 3) := by decide +kernel
theorem dX7_read_70 : decode cX7_read 70 = .ok (.bipush 40, 2) := by decide +kernel
theorem dX7_read_72 : decode cX7_read 72 = .ok (.iload_n 1, 1) := by decide +kernel
theorem dX7_read_73 : decode cX7_read 73 = .ok (.imul, 1) := by decide +kernel
theorem dX7_read_74 : decode cX7_read 74 = .ok (.iload_n 2, 1) := by decide +kernel
theorem dX7_read_75 : decode cX7_read 75 = .ok (.iadd, 1) := by decide +kernel
theorem dX7_read_76 : decode cX7_read 76 = .ok (.laload, 1) := by decide +kernel
theorem dX7_read_77 : decode cX7_read 77 = .ok (.ldc2_w 106, 3) := by decide +kernel
theorem dX7_read_80 : decode cX7_read 80 = .ok (.lcmp, 1) := by decide +kernel
theorem dX7_read_81 : decode cX7_read 81 = .ok (.ifCond .gt 27, 3) := by decide +kernel
theorem dX7_read_84 : decode cX7_read 84 = .ok (.aload_n 0, 1) := by decide +kernel
theorem dX7_read_85 : decode cX7_read 85 = .ok (.getfield 19, 3) := by decide +kernel
theorem dX7_read_88 : decode cX7_read 88 = .ok (.iload_n 2, 1) := by decide +kernel
theorem dX7_read_89 : decode cX7_read 89 = .ok (.aload_n 0, 1) := by decide +kernel
theorem dX7_read_90 : decode cX7_read 90 = .ok (.getfield 48, 3) := by decide +kernel
theorem dX7_read_93 : decode cX7_read 93 = .ok (.bipush 40, 2) := by decide +kernel
theorem dX7_read_95 : decode cX7_read 95 = .ok (.iload_n 1, 1) := by decide +kernel
theorem dX7_read_96 : decode cX7_read 96 = .ok (.imul, 1) := by decide +kernel
theorem dX7_read_97 : decode cX7_read 97 = .ok (.iload_n 2, 1) := by decide +kernel
theorem dX7_read_98 : decode cX7_read 98 = .ok (.iadd, 1) := by decide +kernel
theorem dX7_read_99 : decode cX7_read 99 = .ok (.laload, 1) := by decide +kernel
theorem dX7_read_100 : decode cX7_read 100 = .ok (.l2i, 1) := by decide +kernel
theorem dX7_read_101 : decode cX7_read 101 = .ok (.iastore, 1) := by decide +kernel
theorem dX7_read_102 : decode cX7_read 102 = .ok (.iinc 2 1, 3) := by decide +kernel
theorem dX7_read_105 : decode cX7_read 105 = .ok (.goto (-77), 3) := by decide +kernel
theorem dX7_read_108 : decode cX7_read 108 = .ok (.aload_n 0, 1) := by decide +kernel
theorem dX7_read_109 : decode cX7_read 109 = .ok (.iconst 0, 1) := by decide +kernel
theorem dX7_read_110 : decode cX7_read 110 = .ok (.putfield 90, 3) := by decide +kernel
theorem dX7_read_113 : decode cX7_read 113 = .ok (.iload_n 2, 1) := by decide +kernel
theorem dX7_read_114 : decode cX7_read 114 = .ok (.ireturn, 1) := by decide +kernel
theorem dX7_infoOf_0 : decode cX7_infoOf 0 = .ok (.iload_n 2, 1) := by decide +kernel
theorem dX7_infoOf_1 : decode cX7_infoOf 1 = .ok (.tableswitch 69 0 4 #[35, 42, 49, 56, 56], 35) := by decide +kernel
theorem dX7_infoOf_36 : decode cX7_infoOf 36 = .ok (.aload_n 0, 1) := by decide +kernel
theorem dX7_infoOf_37 : decode cX7_infoOf 37 = .ok (.getfield 7, 3) := by decide +kernel
theorem dX7_infoOf_40 : decode cX7_infoOf 40 = .ok (.iload_n 1, 1) := by decide +kernel
theorem dX7_infoOf_41 : decode cX7_infoOf 41 = .ok (.iaload, 1) := by decide +kernel
theorem dX7_infoOf_42 : decode cX7_infoOf 42 = .ok (.ireturn, 1) := by decide +kernel
theorem dX7_infoOf_43 : decode cX7_infoOf 43 = .ok (.aload_n 0, 1) := by decide +kernel
theorem dX7_infoOf_44 : decode cX7_infoOf 44 = .ok (.getfield 13, 3) := by decide +kernel
theorem dX7_infoOf_47 : decode cX7_infoOf 47 = .ok (.iload_n 1, 1) := by decide +kernel
theorem dX7_infoOf_48 : decode cX7_infoOf 48 = .ok (.iaload, 1) := by decide +kernel
theorem dX7_infoOf_49 : decode cX7_infoOf 49 = .ok (.ireturn, 1) := by decide +kernel
theorem dX7_infoOf_50 : decode cX7_infoOf 50 = .ok (.aload_n 0, 1) := by decide +kernel
theorem dX7_infoOf_51 : decode cX7_infoOf 51 = .ok (.getfield 16, 3) := by decide +kernel
theorem dX7_infoOf_54 : decode cX7_infoOf 54 = .ok (.iload_n 1, 1) := by decide +kernel
theorem dX7_infoOf_55 : decode cX7_infoOf 55 = .ok (.iaload, 1) := by decide +kernel
theorem dX7_infoOf_56 : decode cX7_infoOf 56 = .ok (.ireturn, 1) := by decide +kernel
theorem dX7_infoOf_57 : decode cX7_infoOf 57 = .ok (.aload_n 0, 1) := by decide +kernel
theorem dX7_infoOf_58 : decode cX7_infoOf 58 = .ok (.getfield 19, 3) := by decide +kernel
theorem dX7_infoOf_61 : decode cX7_infoOf 61 = .ok (.iconst 2, 1) := by decide +kernel
theorem dX7_infoOf_62 : decode cX7_infoOf 62 = .ok (.iload_n 1, 1) := by decide +kernel
theorem dX7_infoOf_63 : decode cX7_infoOf 63 = .ok (.imul, 1) := by decide +kernel
theorem dX7_infoOf_64 : decode cX7_infoOf 64 = .ok (.iload_n 2, 1) := by decide +kernel
theorem dX7_infoOf_65 : decode cX7_infoOf 65 = .ok (.iadd, 1) := by decide +kernel
theorem dX7_infoOf_66 : decode cX7_infoOf 66 = .ok (.iconst 3, 1) := by decide +kernel
theorem dX7_infoOf_67 : decode cX7_infoOf 67 = .ok (.isub, 1) := by decide +kernel
theorem dX7_infoOf_68 : decode cX7_infoOf 68 = .ok (.iaload, 1) := by decide +kernel
theorem dX7_infoOf_69 : decode cX7_infoOf 69 = .ok (.ireturn, 1) := by decide +kernel
theorem dX7_infoOf_70 : decode cX7_infoOf 70 = .ok (.aload_n 0, 1) := by decide +kernel
theorem dX7_infoOf_71 : decode cX7_infoOf 71 = .ok (.getfield 22, 3) := by decide +kernel
theorem dX7_infoOf_74 : decode cX7_infoOf 74 = .ok (.iconst 2, 1) := by decide +kernel
theorem dX7_infoOf_75 : decode cX7_infoOf 75 = .ok (.iload_n 1, 1) := by decide +kernel
theorem dX7_infoOf_76 : decode cX7_infoOf 76 = .ok (.imul, 1) := by decide +kernel
theorem dX7_infoOf_77 : decode cX7_infoOf 77 = .ok (.iload_n 2, 1) := by decide +kernel
theorem dX7_infoOf_78 : decode cX7_infoOf 78 = .ok (.iadd, 1) := by decide +kernel
theorem dX7_infoOf_79 : decode cX7_infoOf 79 = .ok (.iconst 5, 1) := by decide +kernel
theorem dX7_infoOf_80 : decode cX7_infoOf 80 = .ok (.isub, 1) := by decide +kernel
theorem dX7_infoOf_81 : decode cX7_infoOf 81 = .ok (.iaload, 1) := by decide +kernel
theorem dX7_infoOf_82 : decode cX7_infoOf 82 = .ok (.ireturn, 1) := by decide +kernel
theorem dX7_info_0 : decode cX7_info 0 = .ok (.aload_n 0, 1) := by decide +kernel
theorem dX7_info_1 : decode cX7_info 1 = .ok (.iload_n 1, 1) := by decide +kernel
theorem dX7_info_2 : decode cX7_info 2 = .ok (.invokevirtual 94, 3) := by decide +kernel
theorem dX7_info_5 : decode cX7_info 5 = .ok (.ifCond .eq 22, 3) := by decide +kernel
theorem dX7_info_8 : decode cX7_info 8 = .ok (.iload_n 2, 1) := by decide +kernel
theorem dX7_info_9 : decode cX7_info 9 = .ok (.iconst 0, 1) := by decide +kernel
theorem dX7_info_10 : decode cX7_info 10 = .ok (.bipush 6, 2) := by decide +kernel
theorem dX7_info_12 : decode cX7_info 12 = .ok (.invokestatic 64, 3) := by decide +kernel
theorem dX7_info_15 : decode cX7_info 15 = .ok (.ifCond .eq 12, 3) := by decide +kernel
theorem dX7_info_18 : decode cX7_info 18 = .ok (.aload_n 0, 1) := by decide +kernel
theorem dX7_info_19 : decode cX7_info 19 = .ok (.iload_n 1, 1) := by decide +kernel
theorem dX7_info_20 : decode cX7_info 20 = .ok (.iload_n 2, 1) := by decide +kernel
theorem dX7_info_21 : decode cX7_info 21 = .ok (.invokevirtual 108, 3) := by decide +kernel
theorem dX7_info_24 : decode cX7_info 24 = .ok (.goto 5, 3) := by decide +kernel
theorem dX7_info_27 : decode cX7_info 27 = .ok (.ldc 97, 2) := by decide +kernel
theorem dX7_info_29 : decode cX7_info 29 = .ok (.ireturn, 1) := by decide +kernel
theorem dX7_pairOf_0 : decode cX7_pairOf 0 = .ok (.iload_n 2, 1) := by decide +kernel
theorem dX7_pairOf_1 : decode cX7_pairOf 1 = .ok (.ifCond .ne 10, 3) := by decide +kernel
theorem dX7_pairOf_4 : decode cX7_pairOf 4 = .ok (.iload_n 1, 1) := by decide +kernel
theorem dX7_pairOf_5 : decode cX7_pairOf 5 = .ok (.invokestatic 83, 3) := by decide +kernel
theorem dX7_pairOf_8 : decode cX7_pairOf 8 = .ok (.goto 36, 3) := by decide +kernel
theorem dX7_pairOf_11 : decode cX7_pairOf 11 = .ok (.iload_n 2, 1) := by decide +kernel
theorem dX7_pairOf_12 : decode cX7_pairOf 12 = .ok (.iconst 1, 1) := by decide +kernel
theorem dX7_pairOf_13 : decode cX7_pairOf 13 = .ok (.if_icmp .ne 10, 3) := by decide +kernel
theorem dX7_pairOf_16 : decode cX7_pairOf 16 = .ok (.iload_n 1, 1) := by decide +kernel
theorem dX7_pairOf_17 : decode cX7_pairOf 17 = .ok (.invokestatic 79, 3) := by decide +kernel
theorem dX7_pairOf_20 : decode cX7_pairOf 20 = .ok (.goto 24, 3) := by decide +kernel
theorem dX7_pairOf_23 : decode cX7_pairOf 23 = .ok (.iload_n 2, 1) := by decide +kernel
theorem dX7_pairOf_24 : decode cX7_pairOf 24 = .ok (.iconst 2, 1) := by decide +kernel
theorem dX7_pairOf_25 : decode cX7_pairOf 25 = .ok (.if_icmp .ne 11, 3) := by decide +kernel
theorem dX7_pairOf_28 : decode cX7_pairOf 28 = .ok (.aload_n 0, 1) := by decide +kernel
theorem dX7_pairOf_29 : decode cX7_pairOf 29 = .ok (.iload_n 1, 1) := by decide +kernel
theorem dX7_pairOf_30 : decode cX7_pairOf 30 = .ok (.invokevirtual 111, 3) := by decide +kernel
theorem dX7_pairOf_33 : decode cX7_pairOf 33 = .ok (.goto 11, 3) := by decide +kernel
theorem dX7_pairOf_36 : decode cX7_pairOf 36 = .ok (.aload_n 0, 1) := by decide +kernel
theorem dX7_pairOf_37 : decode cX7_pairOf 37 = .ok (.getfield 76, 3) := by decide +kernel
theorem dX7_pairOf_40 : decode cX7_pairOf 40 = .ok (.iload_n 1, 1) := by decide +kernel
theorem dX7_pairOf_41 : decode cX7_pairOf 41 = .ok (.ishr, 1) := by decide +kernel
theorem dX7_pairOf_42 : decode cX7_pairOf 42 = .ok (.iconst 1, 1) := by decide +kernel
theorem dX7_pairOf_43 : decode cX7_pairOf 43 = .ok (.iand, 1) := by decide +kernel
theorem dX7_pairOf_44 : decode cX7_pairOf 44 = .ok (.ireturn, 1) := by decide +kernel
theorem dX7_pair_0 : decode cX7_pair 0 = .ok (.aload_n 0, 1) := by decide +kernel
theorem dX7_pair_1 : decode cX7_pair 1 = .ok (.iload_n 1, 1) := by decide +kernel
theorem dX7_pair_2 : decode cX7_pair 2 = .ok (.invokevirtual 72, 3) := by decide +kernel
theorem dX7_pair_5 : decode cX7_pair 5 = .ok (.ifCond .eq 21, 3) := by decide +kernel
theorem dX7_pair_8 : decode cX7_pair 8 = .ok (.iload_n 2, 1) := by decide +kernel
theorem dX7_pair_9 : decode cX7_pair 9 = .ok (.iconst 0, 1) := by decide +kernel
theorem dX7_pair_10 : decode cX7_pair 10 = .ok (.iconst 3, 1) := by decide +kernel
theorem dX7_pair_11 : decode cX7_pair 11 = .ok (.invokestatic 64, 3) := by decide +kernel
theorem dX7_pair_14 : decode cX7_pair 14 = .ok (.ifCond .eq 12, 3) := by decide +kernel
theorem dX7_pair_17 : decode cX7_pair 17 = .ok (.aload_n 0, 1) := by decide +kernel
theorem dX7_pair_18 : decode cX7_pair 18 = .ok (.iload_n 1, 1) := by decide +kernel
theorem dX7_pair_19 : decode cX7_pair 19 = .ok (.iload_n 2, 1) := by decide +kernel
theorem dX7_pair_20 : decode cX7_pair 20 = .ok (.invokevirtual 114, 3) := by decide +kernel
theorem dX7_pair_23 : decode cX7_pair 23 = .ok (.goto 5, 3) := by decide +kernel
theorem dX7_pair_26 : decode cX7_pair 26 = .ok (.bipush (-2), 2) := by decide +kernel
theorem dX7_pair_28 : decode cX7_pair 28 = .ok (.ireturn, 1) := by decide +kernel
theorem dX7_isWay_0 : decode cX7_isWay 0 = .ok (.iload_n 1, 1) := by decide +kernel
theorem dX7_isWay_1 : decode cX7_isWay 1 = .ok (.iconst 2, 1) := by decide +kernel
theorem dX7_isWay_2 : decode cX7_isWay 2 = .ok (.idiv, 1) := by decide +kernel
theorem dX7_isWay_3 : decode cX7_isWay 3 = .ok (.aload_n 0, 1) := by decide +kernel
theorem dX7_isWay_4 : decode cX7_isWay 4 = .ok (.getfield 60, 3) := by decide +kernel
theorem dX7_isWay_7 : decode cX7_isWay 7 = .ok (.if_icmp .ge 24, 3) := by decide +kernel
theorem dX7_isWay_10 : decode cX7_isWay 10 = .ok (.aload_n 0, 1) := by decide +kernel
theorem dX7_isWay_11 : decode cX7_isWay 11 = .ok (.getfield 16, 3) := by decide +kernel
theorem dX7_isWay_14 : decode cX7_isWay 14 = .ok (.iload_n 1, 1) := by decide +kernel
theorem dX7_isWay_15 : decode cX7_isWay 15 = .ok (.iconst 2, 1) := by decide +kernel
theorem dX7_isWay_16 : decode cX7_isWay 16 = .ok (.idiv, 1) := by decide +kernel
theorem dX7_isWay_17 : decode cX7_isWay 17 = .ok (.iaload, 1) := by decide +kernel
theorem dX7_isWay_18 : decode cX7_isWay 18 = .ok (.iload_n 1, 1) := by decide +kernel
theorem dX7_isWay_19 : decode cX7_isWay 19 = .ok (.iconst 2, 1) := by decide +kernel
theorem dX7_isWay_20 : decode cX7_isWay 20 = .ok (.irem, 1) := by decide +kernel
theorem dX7_isWay_21 : decode cX7_isWay 21 = .ok (.ishr, 1) := by decide +kernel
theorem dX7_isWay_22 : decode cX7_isWay 22 = .ok (.iconst 1, 1) := by decide +kernel
theorem dX7_isWay_23 : decode cX7_isWay 23 = .ok (.iand, 1) := by decide +kernel
theorem dX7_isWay_24 : decode cX7_isWay 24 = .ok (.ifCond .ne 7, 3) := by decide +kernel
theorem dX7_isWay_27 : decode cX7_isWay 27 = .ok (.iconst 1, 1) := by decide +kernel
theorem dX7_isWay_28 : decode cX7_isWay 28 = .ok (.goto 4, 3) := by decide +kernel
theorem dX7_isWay_31 : decode cX7_isWay 31 = .ok (.iconst 0, 1) := by decide +kernel
theorem dX7_isWay_32 : decode cX7_isWay 32 = .ok (.ireturn, 1) := by decide +kernel
theorem dX7_brought_0 : decode cX7_brought 0 = .ok (.iload_n 2, 1) := by decide +kernel
theorem dX7_brought_1 : decode cX7_brought 1 = .ok (.iconst 2, 1) := by decide +kernel
theorem dX7_brought_2 : decode cX7_brought 2 = .ok (.idiv, 1) := by decide +kernel
theorem dX7_brought_3 : decode cX7_brought 3 = .ok (.istore_n 3, 1) := by decide +kernel
theorem dX7_brought_4 : decode cX7_brought 4 = .ok (.iload_n 3, 1) := by decide +kernel
theorem dX7_brought_5 : decode cX7_brought 5 = .ok (.iload_n 1, 1) := by decide +kernel
theorem dX7_brought_6 : decode cX7_brought 6 = .ok (.invokestatic 83, 3) := by decide +kernel
theorem dX7_brought_9 : decode cX7_brought 9 = .ok (.if_icmp .ne 14, 3) := by decide +kernel
theorem dX7_brought_12 : decode cX7_brought 12 = .ok (.aload_n 0, 1) := by decide +kernel
theorem dX7_brought_13 : decode cX7_brought 13 = .ok (.iload_n 1, 1) := by decide +kernel
theorem dX7_brought_14 : decode cX7_brought 14 = .ok (.iload_n 2, 1) := by decide +kernel
theorem dX7_brought_15 : decode cX7_brought 15 = .ok (.iconst 2, 1) := by decide +kernel
theorem dX7_brought_16 : decode cX7_brought 16 = .ok (.irem, 1) := by decide +kernel
theorem dX7_brought_17 : decode cX7_brought 17 = .ok (.invokevirtual 86, 3) := by decide +kernel
theorem dX7_brought_20 : decode cX7_brought 20 = .ok (.goto 24, 3) := by decide +kernel
theorem dX7_brought_23 : decode cX7_brought 23 = .ok (.iload_n 3, 1) := by decide +kernel
theorem dX7_brought_24 : decode cX7_brought 24 = .ok (.iload_n 1, 1) := by decide +kernel
theorem dX7_brought_25 : decode cX7_brought 25 = .ok (.invokestatic 79, 3) := by decide +kernel
theorem dX7_brought_28 : decode cX7_brought 28 = .ok (.if_icmp .ne 15, 3) := by decide +kernel
theorem dX7_brought_31 : decode cX7_brought 31 = .ok (.aload_n 0, 1) := by decide +kernel
theorem dX7_brought_32 : decode cX7_brought 32 = .ok (.iload_n 1, 1) := by decide +kernel
theorem dX7_brought_33 : decode cX7_brought 33 = .ok (.iload_n 2, 1) := by decide +kernel
theorem dX7_brought_34 : decode cX7_brought 34 = .ok (.iconst 2, 1) := by decide +kernel
theorem dX7_brought_35 : decode cX7_brought 35 = .ok (.irem, 1) := by decide +kernel
theorem dX7_brought_36 : decode cX7_brought 36 = .ok (.invokevirtual 86, 3) := by decide +kernel
theorem dX7_brought_39 : decode cX7_brought 39 = .ok (.ineg, 1) := by decide +kernel
theorem dX7_brought_40 : decode cX7_brought 40 = .ok (.goto 4, 3) := by decide +kernel
theorem dX7_brought_43 : decode cX7_brought 43 = .ok (.iconst 0, 1) := by decide +kernel
theorem dX7_brought_44 : decode cX7_brought 44 = .ok (.ireturn, 1) := by decide +kernel
theorem dX7_lowers_0 : decode cX7_lowers 0 = .ok (.lconst 0, 1) := by decide +kernel
theorem dX7_lowers_1 : decode cX7_lowers 1 = .ok (.lstore_n 2, 1) := by decide +kernel
theorem dX7_lowers_2 : decode cX7_lowers 2 = .ok (.iconst 0, 1) := by decide +kernel
theorem dX7_lowers_3 : decode cX7_lowers 3 = .ok (.istore 4, 2) := by decide +kernel
theorem dX7_lowers_5 : decode cX7_lowers 5 = .ok (.iload 4, 2) := by decide +kernel
theorem dX7_lowers_7 : decode cX7_lowers 7 = .ok (.bipush 11, 2) := by decide +kernel
theorem dX7_lowers_9 : decode cX7_lowers 9 = .ok (.if_icmp .ge 23, 3) := by decide +kernel
theorem dX7_lowers_12 : decode cX7_lowers 12 = .ok (.lload_n 2, 1) := by decide +kernel
theorem dX7_lowers_13 : decode cX7_lowers 13 = .ok (.aload_n 0, 1) := by decide +kernel
theorem dX7_lowers_14 : decode cX7_lowers 14 = .ok (.getfield 25, 3) := by decide +kernel
theorem dX7_lowers_17 : decode cX7_lowers 17 = .ok (.iload_n 1, 1) := by decide +kernel
theorem dX7_lowers_18 : decode cX7_lowers 18 = .ok (.iload 4, 2) := by decide +kernel
theorem dX7_lowers_20 : decode cX7_lowers 20 = .ok (.iadd, 1) := by decide +kernel
theorem dX7_lowers_21 : decode cX7_lowers 21 = .ok (.laload, 1) := by decide +kernel
theorem dX7_lowers_22 : decode cX7_lowers 22 = .ok (.invokestatic 56, 3) := by decide +kernel
theorem dX7_lowers_25 : decode cX7_lowers 25 = .ok (.lstore_n 2, 1) := by decide +kernel
theorem dX7_lowers_26 : decode cX7_lowers 26 = .ok (.iinc 4 1, 3) := by decide +kernel
theorem dX7_lowers_29 : decode cX7_lowers 29 = .ok (.goto (-24), 3) := by decide +kernel
theorem dX7_lowers_32 : decode cX7_lowers 32 = .ok (.iconst 0, 1) := by decide +kernel
theorem dX7_lowers_33 : decode cX7_lowers 33 = .ok (.istore 4, 2) := by decide +kernel
theorem dX7_lowers_35 : decode cX7_lowers 35 = .ok (.iload 4, 2) := by decide +kernel
theorem dX7_lowers_37 : decode cX7_lowers 37 = .ok (.bipush 11, 2) := by decide +kernel
theorem dX7_lowers_39 : decode cX7_lowers 39 = .ok (.if_icmp .ge 28, 3) := by decide +kernel
theorem dX7_lowers_42 : decode cX7_lowers 42 = .ok (.lload_n 2, 1) := by decide +kernel
theorem dX7_lowers_43 : decode cX7_lowers 43 = .ok (.lconst 1, 1) := by decide +kernel
theorem dX7_lowers_44 : decode cX7_lowers 44 = .ok (.lcmp, 1) := by decide +kernel
theorem dX7_lowers_45 : decode cX7_lowers 45 = .ok (.ifCond .le 22, 3) := by decide +kernel
theorem dX7_lowers_48 : decode cX7_lowers 48 = .ok (.aload_n 0, 1) := by decide +kernel
theorem dX7_lowers_49 : decode cX7_lowers 49 = .ok (.getfield 25, 3) := by decide +kernel
theorem dX7_lowers_52 : decode cX7_lowers 52 = .ok (.iload_n 1, 1) := by decide +kernel
theorem dX7_lowers_53 : decode cX7_lowers 53 = .ok (.iload 4, 2) := by decide +kernel
theorem dX7_lowers_55 : decode cX7_lowers 55 = .ok (.iadd, 1) := by decide +kernel
theorem dX7_lowers_56 : decode cX7_lowers 56 = .ok (.dup2, 1) := by decide +kernel
theorem dX7_lowers_57 : decode cX7_lowers 57 = .ok (.laload, 1) := by decide +kernel
theorem dX7_lowers_58 : decode cX7_lowers 58 = .ok (.lload_n 2, 1) := by decide +kernel
theorem dX7_lowers_59 : decode cX7_lowers 59 = .ok (.ldiv, 1) := by decide +kernel
theorem dX7_lowers_60 : decode cX7_lowers 60 = .ok (.lastore, 1) := by decide +kernel
theorem dX7_lowers_61 : decode cX7_lowers 61 = .ok (.iinc 4 1, 3) := by decide +kernel
theorem dX7_lowers_64 : decode cX7_lowers 64 = .ok (.goto (-29), 3) := by decide +kernel
theorem dX7_lowers_67 : decode cX7_lowers 67 = .ok (.return_, 1) := by decide +kernel
theorem dX7_clears_0 : decode cX7_clears 0 = .ok (.aload_n 0, 1) := by decide +kernel
theorem dX7_clears_1 : decode cX7_clears 1 = .ok (.getfield 25, 3) := by decide +kernel
theorem dX7_clears_4 : decode cX7_clears 4 = .ok (.iload_n 1, 1) := by decide +kernel
theorem dX7_clears_5 : decode cX7_clears 5 = .ok (.iload_n 3, 1) := by decide +kernel
theorem dX7_clears_6 : decode cX7_clears 6 = .ok (.iadd, 1) := by decide +kernel
theorem dX7_clears_7 : decode cX7_clears 7 = .ok (.laload, 1) := by decide +kernel
theorem dX7_clears_8 : decode cX7_clears 8 = .ok (.lstore 4, 2) := by decide +kernel
theorem dX7_clears_10 : decode cX7_clears 10 = .ok (.aload_n 0, 1) := by decide +kernel
theorem dX7_clears_11 : decode cX7_clears 11 = .ok (.getfield 25, 3) := by decide +kernel
theorem dX7_clears_14 : decode cX7_clears 14 = .ok (.iload_n 2, 1) := by decide +kernel
theorem dX7_clears_15 : decode cX7_clears 15 = .ok (.iload_n 3, 1) := by decide +kernel
theorem dX7_clears_16 : decode cX7_clears 16 = .ok (.iadd, 1) := by decide +kernel
theorem dX7_clears_17 : decode cX7_clears 17 = .ok (.laload, 1) := by decide +kernel
theorem dX7_clears_18 : decode cX7_clears 18 = .ok (.lstore 6, 2) := by decide +kernel
theorem dX7_clears_20 : decode cX7_clears 20 = .ok (.lload 4, 2) := by decide +kernel
theorem dX7_clears_22 : decode cX7_clears 22 = .ok (.lconst 0, 1) := by decide +kernel
theorem dX7_clears_23 : decode cX7_clears 23 = .ok (.lcmp, 1) := by decide +kernel
theorem dX7_clears_24 : decode cX7_clears 24 = .ok (.ifCond .eq 58, 3) := by decide +kernel
theorem dX7_clears_27 : decode cX7_clears 27 = .ok (.iconst 0, 1) := by decide +kernel
theorem dX7_clears_28 : decode cX7_clears 28 = .ok (.istore 8, 2) := by decide +kernel
theorem dX7_clears_30 : decode cX7_clears 30 = .ok (.iload 8, 2) := by decide +kernel
theorem dX7_clears_32 : decode cX7_clears 32 = .ok (.bipush 11, 2) := by decide +kernel
theorem dX7_clears_34 : decode cX7_clears 34 = .ok (.if_icmp .ge 43, 3) := by decide +kernel
theorem dX7_clears_37 : decode cX7_clears 37 = .ok (.aload_n 0, 1) := by decide +kernel
theorem dX7_clears_38 : decode cX7_clears 38 = .ok (.getfield 25, 3) := by decide +kernel
theorem dX7_clears_41 : decode cX7_clears 41 = .ok (.iload_n 1, 1) := by decide +kernel
theorem dX7_clears_42 : decode cX7_clears 42 = .ok (.iload 8, 2) := by decide +kernel
theorem dX7_clears_44 : decode cX7_clears 44 = .ok (.iadd, 1) := by decide +kernel
theorem dX7_clears_45 : decode cX7_clears 45 = .ok (.aload_n 0, 1) := by decide +kernel
theorem dX7_clears_46 : decode cX7_clears 46 = .ok (.getfield 25, 3) := by decide +kernel
theorem dX7_clears_49 : decode cX7_clears 49 = .ok (.iload_n 1, 1) := by decide +kernel
theorem dX7_clears_50 : decode cX7_clears 50 = .ok (.iload 8, 2) := by decide +kernel
theorem dX7_clears_52 : decode cX7_clears 52 = .ok (.iadd, 1) := by decide +kernel
theorem dX7_clears_53 : decode cX7_clears 53 = .ok (.laload, 1) := by decide +kernel
theorem dX7_clears_54 : decode cX7_clears 54 = .ok (.lload 6, 2) := by decide +kernel
theorem dX7_clears_56 : decode cX7_clears 56 = .ok (.lmul, 1) := by decide +kernel
theorem dX7_clears_57 : decode cX7_clears 57 = .ok (.aload_n 0, 1) := by decide +kernel
theorem dX7_clears_58 : decode cX7_clears 58 = .ok (.getfield 25, 3) := by decide +kernel
theorem dX7_clears_61 : decode cX7_clears 61 = .ok (.iload_n 2, 1) := by decide +kernel
theorem dX7_clears_62 : decode cX7_clears 62 = .ok (.iload 8, 2) := by decide +kernel
theorem dX7_clears_64 : decode cX7_clears 64 = .ok (.iadd, 1) := by decide +kernel
theorem dX7_clears_65 : decode cX7_clears 65 = .ok (.laload, 1) := by decide +kernel
theorem dX7_clears_66 : decode cX7_clears 66 = .ok (.lload 4, 2) := by decide +kernel
theorem dX7_clears_68 : decode cX7_clears 68 = .ok (.lmul, 1) := by decide +kernel
theorem dX7_clears_69 : decode cX7_clears 69 = .ok (.lsub, 1) := by decide +kernel
theorem dX7_clears_70 : decode cX7_clears 70 = .ok (.lastore, 1) := by decide +kernel
theorem dX7_clears_71 : decode cX7_clears 71 = .ok (.iinc 8 1, 3) := by decide +kernel
theorem dX7_clears_74 : decode cX7_clears 74 = .ok (.goto (-44), 3) := by decide +kernel
theorem dX7_clears_77 : decode cX7_clears 77 = .ok (.aload_n 0, 1) := by decide +kernel
theorem dX7_clears_78 : decode cX7_clears 78 = .ok (.iload_n 1, 1) := by decide +kernel
theorem dX7_clears_79 : decode cX7_clears 79 = .ok (.invokevirtual 117, 3) := by decide +kernel
theorem dX7_clears_82 : decode cX7_clears 82 = .ok (.return_, 1) := by decide +kernel
theorem dX7_adds_0 : decode cX7_adds 0 = .ok (.bipush 11, 2) := by decide +kernel
theorem dX7_adds_2 : decode cX7_adds 2 = .ok (.aload_n 0, 1) := by decide +kernel
theorem dX7_adds_3 : decode cX7_adds 3 = .ok (.getfield 121, 3) := by decide +kernel
theorem dX7_adds_6 : decode cX7_adds 6 = .ok (.imul, 1) := by decide +kernel
theorem dX7_adds_7 : decode cX7_adds 7 = .ok (.istore_n 3, 1) := by decide +kernel
theorem dX7_adds_8 : decode cX7_adds 8 = .ok (.iconst 0, 1) := by decide +kernel
theorem dX7_adds_9 : decode cX7_adds 9 = .ok (.istore 4, 2) := by decide +kernel
theorem dX7_adds_11 : decode cX7_adds 11 = .ok (.iload 4, 2) := by decide +kernel
theorem dX7_adds_13 : decode cX7_adds 13 = .ok (.bipush 10, 2) := by decide +kernel
theorem dX7_adds_15 : decode cX7_adds 15 = .ok (.if_icmp .ge 40, 3) := by decide +kernel
theorem dX7_adds_18 : decode cX7_adds 18 = .ok (.aload_n 0, 1) := by decide +kernel
theorem dX7_adds_19 : decode cX7_adds 19 = .ok (.getfield 25, 3) := by decide +kernel
theorem dX7_adds_22 : decode cX7_adds 22 = .ok (.iload_n 3, 1) := by decide +kernel
theorem dX7_adds_23 : decode cX7_adds 23 = .ok (.iload 4, 2) := by decide +kernel
theorem dX7_adds_25 : decode cX7_adds 25 = .ok (.iadd, 1) := by decide +kernel
theorem dX7_adds_26 : decode cX7_adds 26 = .ok (.iload_n 1, 1) := by decide +kernel
theorem dX7_adds_27 : decode cX7_adds 27 = .ok (.iload 4, 2) := by decide +kernel
theorem dX7_adds_29 : decode cX7_adds 29 = .ok (.ishr, 1) := by decide +kernel
theorem dX7_adds_30 : decode cX7_adds 30 = .ok (.iconst 1, 1) := by decide +kernel
theorem dX7_adds_31 : decode cX7_adds 31 = .ok (.iand, 1) := by decide +kernel
theorem dX7_adds_32 : decode cX7_adds 32 = .ok (.iconst 1, 1) := by decide +kernel
theorem dX7_adds_33 : decode cX7_adds 33 = .ok (.if_icmp .ne 14, 3) := by decide +kernel
theorem dX7_adds_36 : decode cX7_adds 36 = .ok (.aload_n 0, 1) := by decide +kernel
theorem dX7_adds_37 : decode cX7_adds 37 = .ok (.iload 4, 2) := by decide +kernel
theorem dX7_adds_39 : decode cX7_adds 39 = .ok (.iload_n 2, 1) := by decide +kernel
theorem dX7_adds_40 : decode cX7_adds 40 = .ok (.invokevirtual 124, 3) := by decide +kernel
theorem dX7_adds_43 : decode cX7_adds 43 = .ok (.i2l, 1) := by decide +kernel
theorem dX7_adds_44 : decode cX7_adds 44 = .ok (.goto 4, 3) := by decide +kernel
theorem dX7_adds_47 : decode cX7_adds 47 = .ok (.lconst 0, 1) := by decide +kernel
theorem dX7_adds_48 : decode cX7_adds 48 = .ok (.lastore, 1) := by decide +kernel
theorem dX7_adds_49 : decode cX7_adds 49 = .ok (.iinc 4 1, 3) := by decide +kernel
theorem dX7_adds_52 : decode cX7_adds 52 = .ok (.goto (-41), 3) := by decide +kernel
theorem dX7_adds_55 : decode cX7_adds 55 = .ok (.aload_n 0, 1) := by decide +kernel
theorem dX7_adds_56 : decode cX7_adds 56 = .ok (.getfield 25, 3) := by decide +kernel
theorem dX7_adds_59 : decode cX7_adds 59 = .ok (.iload_n 3, 1) := by decide +kernel
theorem dX7_adds_60 : decode cX7_adds 60 = .ok (.bipush 10, 2) := by decide +kernel
theorem dX7_adds_62 : decode cX7_adds 62 = .ok (.iadd, 1) := by decide +kernel
theorem dX7_adds_63 : decode cX7_adds 63 = .ok (.aload_n 0, 1) := by decide +kernel
theorem dX7_adds_64 : decode cX7_adds 64 = .ok (.getfield 19, 3) := by decide +kernel
theorem dX7_adds_67 : decode cX7_adds 67 = .ok (.iload_n 2, 1) := by decide +kernel
theorem dX7_adds_68 : decode cX7_adds 68 = .ok (.iaload, 1) := by decide +kernel
theorem dX7_adds_69 : decode cX7_adds 69 = .ok (.ineg, 1) := by decide +kernel
theorem dX7_adds_70 : decode cX7_adds 70 = .ok (.i2l, 1) := by decide +kernel
theorem dX7_adds_71 : decode cX7_adds 71 = .ok (.lastore, 1) := by decide +kernel
theorem dX7_adds_72 : decode cX7_adds 72 = .ok (.iconst 0, 1) := by decide +kernel
theorem dX7_adds_73 : decode cX7_adds 73 = .ok (.istore 4, 2) := by decide +kernel
theorem dX7_adds_75 : decode cX7_adds 75 = .ok (.iload 4, 2) := by decide +kernel
theorem dX7_adds_77 : decode cX7_adds 77 = .ok (.aload_n 0, 1) := by decide +kernel
theorem dX7_adds_78 : decode cX7_adds 78 = .ok (.getfield 121, 3) := by decide +kernel
theorem dX7_adds_81 : decode cX7_adds 81 = .ok (.if_icmp .ge 26, 3) := by decide +kernel
theorem dX7_adds_84 : decode cX7_adds 84 = .ok (.aload_n 0, 1) := by decide +kernel
theorem dX7_adds_85 : decode cX7_adds 85 = .ok (.iload_n 3, 1) := by decide +kernel
theorem dX7_adds_86 : decode cX7_adds 86 = .ok (.bipush 11, 2) := by decide +kernel
theorem dX7_adds_88 : decode cX7_adds 88 = .ok (.iload 4, 2) := by decide +kernel
theorem dX7_adds_90 : decode cX7_adds 90 = .ok (.imul, 1) := by decide +kernel
theorem dX7_adds_91 : decode cX7_adds 91 = .ok (.aload_n 0, 1) := by decide +kernel
theorem dX7_adds_92 : decode cX7_adds 92 = .ok (.getfield 29, 3) := by decide +kernel
theorem dX7_adds_95 : decode cX7_adds 95 = .ok (.iload 4, 2) := by decide +kernel
theorem dX7_adds_97 : decode cX7_adds 97 = .ok (.iaload, 1) := by decide +kernel
theorem dX7_adds_98 : decode cX7_adds 98 = .ok (.invokevirtual 127, 3) := by decide +kernel
theorem dX7_adds_101 : decode cX7_adds 101 = .ok (.iinc 4 1, 3) := by decide +kernel
theorem dX7_adds_104 : decode cX7_adds 104 = .ok (.goto (-29), 3) := by decide +kernel
theorem dX7_adds_107 : decode cX7_adds 107 = .ok (.iconst (-1), 1) := by decide +kernel
theorem dX7_adds_108 : decode cX7_adds 108 = .ok (.istore 4, 2) := by decide +kernel
theorem dX7_adds_110 : decode cX7_adds 110 = .ok (.bipush 9, 2) := by decide +kernel
theorem dX7_adds_112 : decode cX7_adds 112 = .ok (.istore 5, 2) := by decide +kernel
theorem dX7_adds_114 : decode cX7_adds 114 = .ok (.iload 5, 2) := by decide +kernel
theorem dX7_adds_116 : decode cX7_adds 116 = .ok (.ifCond .lt 32, 3) := by decide +kernel
theorem dX7_adds_119 : decode cX7_adds 119 = .ok (.aload_n 0, 1) := by decide +kernel
theorem dX7_adds_120 : decode cX7_adds 120 = .ok (.getfield 25, 3) := by decide +kernel
theorem dX7_adds_123 : decode cX7_adds 123 = .ok (.iload_n 3, 1) := by decide +kernel
theorem dX7_adds_124 : decode cX7_adds 124 = .ok (.iload 5, 2) := by decide +kernel
theorem dX7_adds_126 : decode cX7_adds 126 = .ok (.iadd, 1) := by decide +kernel
theorem dX7_adds_127 : decode cX7_adds 127 = .ok (.laload, 1) := by decide +kernel
theorem dX7_adds_128 : decode cX7_adds 128 = .ok (.lconst 0, 1) := by decide +kernel
theorem dX7_adds_129 : decode cX7_adds 129 = .ok (.lcmp, 1) := by decide +kernel
theorem dX7_adds_130 : decode cX7_adds 130 = .ok (.ifCond .eq 8, 3) := by decide +kernel
theorem dX7_adds_133 : decode cX7_adds 133 = .ok (.iload 5, 2) := by decide +kernel
theorem dX7_adds_135 : decode cX7_adds 135 = .ok (.goto 5, 3) := by decide +kernel
theorem dX7_adds_138 : decode cX7_adds 138 = .ok (.iload 4, 2) := by decide +kernel
theorem dX7_adds_140 : decode cX7_adds 140 = .ok (.istore 4, 2) := by decide +kernel
theorem dX7_adds_142 : decode cX7_adds 142 = .ok (.iinc 5 (-1), 3) := by decide +kernel
theorem dX7_adds_145 : decode cX7_adds 145 = .ok (.goto (-31), 3) := by decide +kernel
theorem dX7_adds_148 : decode cX7_adds 148 = .ok (.iload 4, 2) := by decide +kernel
theorem dX7_adds_150 : decode cX7_adds 150 = .ok (.iconst (-1), 1) := by decide +kernel
theorem dX7_adds_151 : decode cX7_adds 151 = .ok (.if_icmp .ne 23, 3) := by decide +kernel
theorem dX7_adds_154 : decode cX7_adds 154 = .ok (.aload_n 0, 1) := by decide +kernel
theorem dX7_adds_155 : decode cX7_adds 155 = .ok (.getfield 25, 3) := by decide +kernel
theorem dX7_adds_158 : decode cX7_adds 158 = .ok (.iload_n 3, 1) := by decide +kernel
theorem dX7_adds_159 : decode cX7_adds 159 = .ok (.bipush 10, 2) := by decide +kernel
theorem dX7_adds_161 : decode cX7_adds 161 = .ok (.iadd, 1) := by decide +kernel
theorem dX7_adds_162 : decode cX7_adds 162 = .ok (.laload, 1) := by decide +kernel
theorem dX7_adds_163 : decode cX7_adds 163 = .ok (.lconst 0, 1) := by decide +kernel
theorem dX7_adds_164 : decode cX7_adds 164 = .ok (.lcmp, 1) := by decide +kernel
theorem dX7_adds_165 : decode cX7_adds 165 = .ok (.ifCond .ne 7, 3) := by decide +kernel
theorem dX7_adds_168 : decode cX7_adds 168 = .ok (.iconst 1, 1) := by decide +kernel
theorem dX7_adds_169 : decode cX7_adds 169 = .ok (.goto 4, 3) := by decide +kernel
theorem dX7_adds_172 : decode cX7_adds 172 = .ok (.iconst 0, 1) := by decide +kernel
theorem dX7_adds_173 : decode cX7_adds 173 = .ok (.ireturn, 1) := by decide +kernel
theorem dX7_adds_174 : decode cX7_adds 174 = .ok (.aload_n 0, 1) := by decide +kernel
theorem dX7_adds_175 : decode cX7_adds 175 = .ok (.iload_n 3, 1) := by decide +kernel
theorem dX7_adds_176 : decode cX7_adds 176 = .ok (.invokevirtual 117, 3) := by decide +kernel
theorem dX7_adds_179 : decode cX7_adds 179 = .ok (.iconst 0, 1) := by decide +kernel
theorem dX7_adds_180 : decode cX7_adds 180 = .ok (.istore 5, 2) := by decide +kernel
theorem dX7_adds_182 : decode cX7_adds 182 = .ok (.iload 5, 2) := by decide +kernel
theorem dX7_adds_184 : decode cX7_adds 184 = .ok (.aload_n 0, 1) := by decide +kernel
theorem dX7_adds_185 : decode cX7_adds 185 = .ok (.getfield 121, 3) := by decide +kernel
theorem dX7_adds_188 : decode cX7_adds 188 = .ok (.if_icmp .ge 21, 3) := by decide +kernel
theorem dX7_adds_191 : decode cX7_adds 191 = .ok (.aload_n 0, 1) := by decide +kernel
theorem dX7_adds_192 : decode cX7_adds 192 = .ok (.bipush 11, 2) := by decide +kernel
theorem dX7_adds_194 : decode cX7_adds 194 = .ok (.iload 5, 2) := by decide +kernel
theorem dX7_adds_196 : decode cX7_adds 196 = .ok (.imul, 1) := by decide +kernel
theorem dX7_adds_197 : decode cX7_adds 197 = .ok (.iload_n 3, 1) := by decide +kernel
theorem dX7_adds_198 : decode cX7_adds 198 = .ok (.iload 4, 2) := by decide +kernel
theorem dX7_adds_200 : decode cX7_adds 200 = .ok (.invokevirtual 127, 3) := by decide +kernel
theorem dX7_adds_203 : decode cX7_adds 203 = .ok (.iinc 5 1, 3) := by decide +kernel
theorem dX7_adds_206 : decode cX7_adds 206 = .ok (.goto (-24), 3) := by decide +kernel
theorem dX7_adds_209 : decode cX7_adds 209 = .ok (.aload_n 0, 1) := by decide +kernel
theorem dX7_adds_210 : decode cX7_adds 210 = .ok (.getfield 29, 3) := by decide +kernel
theorem dX7_adds_213 : decode cX7_adds 213 = .ok (.aload_n 0, 1) := by decide +kernel
theorem dX7_adds_214 : decode cX7_adds 214 = .ok (.getfield 121, 3) := by decide +kernel
theorem dX7_adds_217 : decode cX7_adds 217 = .ok (.iload 4, 2) := by decide +kernel
theorem dX7_adds_219 : decode cX7_adds 219 = .ok (.iastore, 1) := by decide +kernel
theorem dX7_adds_220 : decode cX7_adds 220 = .ok (.aload_n 0, 1) := by decide +kernel
theorem dX7_adds_221 : decode cX7_adds 221 = .ok (.dup, 1) := by decide +kernel
theorem dX7_adds_222 : decode cX7_adds 222 = .ok (.getfield 121, 3) := by decide +kernel
theorem dX7_adds_225 : decode cX7_adds 225 = .ok (.iconst 1, 1) := by decide +kernel
theorem dX7_adds_226 : decode cX7_adds 226 = .ok (.iadd, 1) := by decide +kernel
theorem dX7_adds_227 : decode cX7_adds 227 = .ok (.putfield 121, 3) := by decide +kernel
theorem dX7_adds_230 : decode cX7_adds 230 = .ok (.iconst 1, 1) := by decide +kernel
theorem dX7_adds_231 : decode cX7_adds 231 = .ok (.ireturn, 1) := by decide +kernel
theorem dX7_faultOf_0 : decode cX7_faultOf 0 = .ok (.aload_n 0, 1) := by decide +kernel
theorem dX7_faultOf_1 : decode cX7_faultOf 1 = .ok (.iconst 0, 1) := by decide +kernel
theorem dX7_faultOf_2 : decode cX7_faultOf 2 = .ok (.putfield 121, 3) := by decide +kernel
theorem dX7_faultOf_5 : decode cX7_faultOf 5 = .ok (.iconst 0, 1) := by decide +kernel
theorem dX7_faultOf_6 : decode cX7_faultOf 6 = .ok (.istore_n 2, 1) := by decide +kernel
theorem dX7_faultOf_7 : decode cX7_faultOf 7 = .ok (.iload_n 2, 1) := by decide +kernel
theorem dX7_faultOf_8 : decode cX7_faultOf 8 = .ok (.bipush 10, 2) := by decide +kernel
theorem dX7_faultOf_10 : decode cX7_faultOf 10 = .ok (.if_icmp .ge 28, 3) := by decide +kernel
theorem dX7_faultOf_13 : decode cX7_faultOf 13 = .ok (.aload_n 0, 1) := by decide +kernel
theorem dX7_faultOf_14 : decode cX7_faultOf 14 = .ok (.iload_n 2, 1) := by decide +kernel
theorem dX7_faultOf_15 : decode cX7_faultOf 15 = .ok (.invokevirtual 131, 3) := by decide +kernel
theorem dX7_faultOf_18 : decode cX7_faultOf 18 = .ok (.ifCond .eq 14, 3) := by decide +kernel
theorem dX7_faultOf_21 : decode cX7_faultOf 21 = .ok (.aload_n 0, 1) := by decide +kernel
theorem dX7_faultOf_22 : decode cX7_faultOf 22 = .ok (.iload_n 1, 1) := by decide +kernel
theorem dX7_faultOf_23 : decode cX7_faultOf 23 = .ok (.iload_n 2, 1) := by decide +kernel
theorem dX7_faultOf_24 : decode cX7_faultOf 24 = .ok (.invokevirtual 134, 3) := by decide +kernel
theorem dX7_faultOf_27 : decode cX7_faultOf 27 = .ok (.ifCond .ne 5, 3) := by decide +kernel
theorem dX7_faultOf_30 : decode cX7_faultOf 30 = .ok (.iload_n 2, 1) := by decide +kernel
theorem dX7_faultOf_31 : decode cX7_faultOf 31 = .ok (.ireturn, 1) := by decide +kernel
theorem dX7_faultOf_32 : decode cX7_faultOf 32 = .ok (.iinc 2 1, 3) := by decide +kernel
theorem dX7_faultOf_35 : decode cX7_faultOf 35 = .ok (.goto (-28), 3) := by decide +kernel
theorem dX7_faultOf_38 : decode cX7_faultOf 38 = .ok (.iconst (-1), 1) := by decide +kernel
theorem dX7_faultOf_39 : decode cX7_faultOf 39 = .ok (.ireturn, 1) := by decide +kernel
theorem dX7_size_0 : decode cX7_size 0 = .ok (.iconst 0, 1) := by decide +kernel
theorem dX7_size_1 : decode cX7_size 1 = .ok (.istore_n 1, 1) := by decide +kernel
theorem dX7_size_2 : decode cX7_size 2 = .ok (.iconst 0, 1) := by decide +kernel
theorem dX7_size_3 : decode cX7_size 3 = .ok (.istore_n 2, 1) := by decide +kernel
theorem dX7_size_4 : decode cX7_size 4 = .ok (.iload_n 2, 1) := by decide +kernel
theorem dX7_size_5 : decode cX7_size 5 = .ok (.bipush 10, 2) := by decide +kernel
theorem dX7_size_7 : decode cX7_size 7 = .ok (.if_icmp .ge 17, 3) := by decide +kernel
theorem dX7_size_10 : decode cX7_size 10 = .ok (.iload_n 1, 1) := by decide +kernel
theorem dX7_size_11 : decode cX7_size 11 = .ok (.iload_n 0, 1) := by decide +kernel
theorem dX7_size_12 : decode cX7_size 12 = .ok (.iload_n 2, 1) := by decide +kernel
theorem dX7_size_13 : decode cX7_size 13 = .ok (.ishr, 1) := by decide +kernel
theorem dX7_size_14 : decode cX7_size 14 = .ok (.iconst 1, 1) := by decide +kernel
theorem dX7_size_15 : decode cX7_size 15 = .ok (.iand, 1) := by decide +kernel
theorem dX7_size_16 : decode cX7_size 16 = .ok (.iadd, 1) := by decide +kernel
theorem dX7_size_17 : decode cX7_size 17 = .ok (.istore_n 1, 1) := by decide +kernel
theorem dX7_size_18 : decode cX7_size 18 = .ok (.iinc 2 1, 3) := by decide +kernel
theorem dX7_size_21 : decode cX7_size 21 = .ok (.goto (-17), 3) := by decide +kernel
theorem dX7_size_24 : decode cX7_size 24 = .ok (.iload_n 1, 1) := by decide +kernel
theorem dX7_size_25 : decode cX7_size 25 = .ok (.ireturn, 1) := by decide +kernel
theorem dX7_volumes_0 : decode cX7_volumes 0 = .ok (.lconst 0, 1) := by decide +kernel
theorem dX7_volumes_1 : decode cX7_volumes 1 = .ok (.lstore_n 2, 1) := by decide +kernel
theorem dX7_volumes_2 : decode cX7_volumes 2 = .ok (.lconst 1, 1) := by decide +kernel
theorem dX7_volumes_3 : decode cX7_volumes 3 = .ok (.lstore 4, 2) := by decide +kernel
theorem dX7_volumes_5 : decode cX7_volumes 5 = .ok (.iconst 0, 1) := by decide +kernel
theorem dX7_volumes_6 : decode cX7_volumes 6 = .ok (.istore 6, 2) := by decide +kernel
theorem dX7_volumes_8 : decode cX7_volumes 8 = .ok (.iload 6, 2) := by decide +kernel
theorem dX7_volumes_10 : decode cX7_volumes 10 = .ok (.aload_n 0, 1) := by decide +kernel
theorem dX7_volumes_11 : decode cX7_volumes 11 = .ok (.getfield 121, 3) := by decide +kernel
theorem dX7_volumes_14 : decode cX7_volumes 14 = .ok (.if_icmp .ge 129, 3) := by decide +kernel
theorem dX7_volumes_17 : decode cX7_volumes 17 = .ok (.aload_n 0, 1) := by decide +kernel
theorem dX7_volumes_18 : decode cX7_volumes 18 = .ok (.getfield 25, 3) := by decide +kernel
theorem dX7_volumes_21 : decode cX7_volumes 21 = .ok (.bipush 11, 2) := by decide +kernel
theorem dX7_volumes_23 : decode cX7_volumes 23 = .ok (.iload 6, 2) := by decide +kernel
theorem dX7_volumes_25 : decode cX7_volumes 25 = .ok (.imul, 1) := by decide +kernel
theorem dX7_volumes_26 : decode cX7_volumes 26 = .ok (.bipush 10, 2) := by decide +kernel
theorem dX7_volumes_28 : decode cX7_volumes 28 = .ok (.iadd, 1) := by decide +kernel
theorem dX7_volumes_29 : decode cX7_volumes 29 = .ok (.laload, 1) := by decide +kernel
theorem dX7_volumes_30 : decode cX7_volumes 30 = .ok (.lstore 7, 2) := by decide +kernel
theorem dX7_volumes_32 : decode cX7_volumes 32 = .ok (.aload_n 0, 1) := by decide +kernel
theorem dX7_volumes_33 : decode cX7_volumes 33 = .ok (.getfield 25, 3) := by decide +kernel
theorem dX7_volumes_36 : decode cX7_volumes 36 = .ok (.bipush 11, 2) := by decide +kernel
theorem dX7_volumes_38 : decode cX7_volumes 38 = .ok (.iload 6, 2) := by decide +kernel
theorem dX7_volumes_40 : decode cX7_volumes 40 = .ok (.imul, 1) := by decide +kernel
theorem dX7_volumes_41 : decode cX7_volumes 41 = .ok (.aload_n 0, 1) := by decide +kernel
theorem dX7_volumes_42 : decode cX7_volumes 42 = .ok (.getfield 29, 3) := by decide +kernel
theorem dX7_volumes_45 : decode cX7_volumes 45 = .ok (.iload 6, 2) := by decide +kernel
theorem dX7_volumes_47 : decode cX7_volumes 47 = .ok (.iaload, 1) := by decide +kernel
theorem dX7_volumes_48 : decode cX7_volumes 48 = .ok (.iadd, 1) := by decide +kernel
theorem dX7_volumes_49 : decode cX7_volumes 49 = .ok (.laload, 1) := by decide +kernel
theorem dX7_volumes_50 : decode cX7_volumes 50 = .ok (.lstore 9, 2) := by decide +kernel
theorem dX7_volumes_52 : decode cX7_volumes 52 = .ok (.lload 7, 2) := by decide +kernel
theorem dX7_volumes_54 : decode cX7_volumes 54 = .ok (.lconst 0, 1) := by decide +kernel
theorem dX7_volumes_55 : decode cX7_volumes 55 = .ok (.lcmp, 1) := by decide +kernel
theorem dX7_volumes_56 : decode cX7_volumes 56 = .ok (.ifCond .ge 9, 3) := by decide +kernel
theorem dX7_volumes_59 : decode cX7_volumes 59 = .ok (.lload 7, 2) := by decide +kernel
theorem dX7_volumes_61 : decode cX7_volumes 61 = .ok (.lneg, 1) := by decide +kernel
theorem dX7_volumes_62 : decode cX7_volumes 62 = .ok (.goto 5, 3) := by decide +kernel
theorem dX7_volumes_65 : decode cX7_volumes 65 = .ok (.lload 7, 2) := by decide +kernel
theorem dX7_volumes_67 : decode cX7_volumes 67 = .ok (.lstore 7, 2) := by decide +kernel
theorem dX7_volumes_69 : decode cX7_volumes 69 = .ok (.lload 9, 2) := by decide +kernel
theorem dX7_volumes_71 : decode cX7_volumes 71 = .ok (.lconst 0, 1) := by decide +kernel
theorem dX7_volumes_72 : decode cX7_volumes 72 = .ok (.lcmp, 1) := by decide +kernel
theorem dX7_volumes_73 : decode cX7_volumes 73 = .ok (.ifCond .ge 9, 3) := by decide +kernel
theorem dX7_volumes_76 : decode cX7_volumes 76 = .ok (.lload 9, 2) := by decide +kernel
theorem dX7_volumes_78 : decode cX7_volumes 78 = .ok (.lneg, 1) := by decide +kernel
theorem dX7_volumes_79 : decode cX7_volumes 79 = .ok (.goto 5, 3) := by decide +kernel
theorem dX7_volumes_82 : decode cX7_volumes 82 = .ok (.lload 9, 2) := by decide +kernel
theorem dX7_volumes_84 : decode cX7_volumes 84 = .ok (.lstore 9, 2) := by decide +kernel
theorem dX7_volumes_86 : decode cX7_volumes 86 = .ok (.lload_n 2, 1) := by decide +kernel
theorem dX7_volumes_87 : decode cX7_volumes 87 = .ok (.lload 9, 2) := by decide +kernel
theorem dX7_volumes_89 : decode cX7_volumes 89 = .ok (.lmul, 1) := by decide +kernel
theorem dX7_volumes_90 : decode cX7_volumes 90 = .ok (.lload 4, 2) := by decide +kernel
theorem dX7_volumes_92 : decode cX7_volumes 92 = .ok (.lload 7, 2) := by decide +kernel
theorem dX7_volumes_94 : decode cX7_volumes 94 = .ok (.lmul, 1) := by decide +kernel
theorem dX7_volumes_95 : decode cX7_volumes 95 = .ok (.aload_n 0, 1) := by decide +kernel
theorem dX7_volumes_96 : decode cX7_volumes 96 = .ok (.aload_n 0, 1) := by decide +kernel
theorem dX7_volumes_97 : decode cX7_volumes 97 = .ok (.getfield 29, 3) := by decide +kernel
theorem dX7_volumes_100 : decode cX7_volumes 100 = .ok (.iload 6, 2) := by decide +kernel
theorem dX7_volumes_102 : decode cX7_volumes 102 = .ok (.iaload, 1) := by decide +kernel
theorem dX7_volumes_103 : decode cX7_volumes 103 = .ok (.invokevirtual 111, 3) := by decide +kernel
theorem dX7_volumes_106 : decode cX7_volumes 106 = .ok (.i2l, 1) := by decide +kernel
theorem dX7_volumes_107 : decode cX7_volumes 107 = .ok (.lmul, 1) := by decide +kernel
theorem dX7_volumes_108 : decode cX7_volumes 108 = .ok (.ladd, 1) := by decide +kernel
theorem dX7_volumes_109 : decode cX7_volumes 109 = .ok (.lstore 11, 2) := by decide +kernel
theorem dX7_volumes_111 : decode cX7_volumes 111 = .ok (.lload 4, 2) := by decide +kernel
theorem dX7_volumes_113 : decode cX7_volumes 113 = .ok (.lload 9, 2) := by decide +kernel
theorem dX7_volumes_115 : decode cX7_volumes 115 = .ok (.lmul, 1) := by decide +kernel
theorem dX7_volumes_116 : decode cX7_volumes 116 = .ok (.lstore 13, 2) := by decide +kernel
theorem dX7_volumes_118 : decode cX7_volumes 118 = .ok (.lload 11, 2) := by decide +kernel
theorem dX7_volumes_120 : decode cX7_volumes 120 = .ok (.lload 13, 2) := by decide +kernel
theorem dX7_volumes_122 : decode cX7_volumes 122 = .ok (.iconst 0, 1) := by decide +kernel
theorem dX7_volumes_123 : decode cX7_volumes 123 = .ok (.invokestatic 138, 3) := by decide +kernel
theorem dX7_volumes_126 : decode cX7_volumes 126 = .ok (.lstore_n 2, 1) := by decide +kernel
theorem dX7_volumes_127 : decode cX7_volumes 127 = .ok (.lload 11, 2) := by decide +kernel
theorem dX7_volumes_129 : decode cX7_volumes 129 = .ok (.lload 13, 2) := by decide +kernel
theorem dX7_volumes_131 : decode cX7_volumes 131 = .ok (.iconst 1, 1) := by decide +kernel
theorem dX7_volumes_132 : decode cX7_volumes 132 = .ok (.invokestatic 138, 3) := by decide +kernel
theorem dX7_volumes_135 : decode cX7_volumes 135 = .ok (.lstore 4, 2) := by decide +kernel
theorem dX7_volumes_137 : decode cX7_volumes 137 = .ok (.iinc 6 1, 3) := by decide +kernel
theorem dX7_volumes_140 : decode cX7_volumes 140 = .ok (.goto (-132), 3) := by decide +kernel
theorem dX7_volumes_143 : decode cX7_volumes 143 = .ok (.aload_n 0, 1) := by decide +kernel
theorem dX7_volumes_144 : decode cX7_volumes 144 = .ok (.getfield 36, 3) := by decide +kernel
theorem dX7_volumes_147 : decode cX7_volumes 147 = .ok (.iload_n 1, 1) := by decide +kernel
theorem dX7_volumes_148 : decode cX7_volumes 148 = .ok (.lload_n 2, 1) := by decide +kernel
theorem dX7_volumes_149 : decode cX7_volumes 149 = .ok (.lastore, 1) := by decide +kernel
theorem dX7_volumes_150 : decode cX7_volumes 150 = .ok (.aload_n 0, 1) := by decide +kernel
theorem dX7_volumes_151 : decode cX7_volumes 151 = .ok (.getfield 39, 3) := by decide +kernel
theorem dX7_volumes_154 : decode cX7_volumes 154 = .ok (.iload_n 1, 1) := by decide +kernel
theorem dX7_volumes_155 : decode cX7_volumes 155 = .ok (.lload 4, 2) := by decide +kernel
theorem dX7_volumes_157 : decode cX7_volumes 157 = .ok (.lastore, 1) := by decide +kernel
theorem dX7_volumes_158 : decode cX7_volumes 158 = .ok (.return_, 1) := by decide +kernel
theorem dX7_finds_0 : decode cX7_finds 0 = .ok (.iconst 0, 1) := by decide +kernel
theorem dX7_finds_1 : decode cX7_finds 1 = .ok (.istore_n 1, 1) := by decide +kernel
theorem dX7_finds_2 : decode cX7_finds 2 = .ok (.iload_n 1, 1) := by decide +kernel
theorem dX7_finds_3 : decode cX7_finds 3 = .ok (.iconst 1, 1) := by decide +kernel
theorem dX7_finds_4 : decode cX7_finds 4 = .ok (.aload_n 0, 1) := by decide +kernel
theorem dX7_finds_5 : decode cX7_finds 5 = .ok (.invokevirtual 68, 3) := by decide +kernel
theorem dX7_finds_8 : decode cX7_finds 8 = .ok (.ishl, 1) := by decide +kernel
theorem dX7_finds_9 : decode cX7_finds 9 = .ok (.if_icmp .ge 61, 3) := by decide +kernel
theorem dX7_finds_12 : decode cX7_finds 12 = .ok (.aload_n 0, 1) := by decide +kernel
theorem dX7_finds_13 : decode cX7_finds 13 = .ok (.getfield 90, 3) := by decide +kernel
theorem dX7_finds_16 : decode cX7_finds 16 = .ok (.ifCond .ne 54, 3) := by decide +kernel
theorem dX7_finds_19 : decode cX7_finds 19 = .ok (.aload_n 0, 1) := by decide +kernel
theorem dX7_finds_20 : decode cX7_finds 20 = .ok (.getfield 32, 3) := by decide +kernel
theorem dX7_finds_23 : decode cX7_finds 23 = .ok (.iload_n 1, 1) := by decide +kernel
theorem dX7_finds_24 : decode cX7_finds 24 = .ok (.aload_n 0, 1) := by decide +kernel
theorem dX7_finds_25 : decode cX7_finds 25 = .ok (.iload_n 1, 1) := by decide +kernel
theorem dX7_finds_26 : decode cX7_finds 26 = .ok (.invokevirtual 142, 3) := by decide +kernel
theorem dX7_finds_29 : decode cX7_finds 29 = .ok (.iconst (-1), 1) := by decide +kernel
theorem dX7_finds_30 : decode cX7_finds 30 = .ok (.if_icmp .ne 18, 3) := by decide +kernel
theorem dX7_finds_33 : decode cX7_finds 33 = .ok (.aload_n 0, 1) := by decide +kernel
theorem dX7_finds_34 : decode cX7_finds 34 = .ok (.getfield 121, 3) := by decide +kernel
theorem dX7_finds_37 : decode cX7_finds 37 = .ok (.iload_n 1, 1) := by decide +kernel
theorem dX7_finds_38 : decode cX7_finds 38 = .ok (.invokestatic 145, 3) := by decide +kernel
theorem dX7_finds_41 : decode cX7_finds 41 = .ok (.if_icmp .ne 7, 3) := by decide +kernel
theorem dX7_finds_44 : decode cX7_finds 44 = .ok (.iconst 1, 1) := by decide +kernel
theorem dX7_finds_45 : decode cX7_finds 45 = .ok (.goto 4, 3) := by decide +kernel
theorem dX7_finds_48 : decode cX7_finds 48 = .ok (.iconst 0, 1) := by decide +kernel
theorem dX7_finds_49 : decode cX7_finds 49 = .ok (.bastore, 1) := by decide +kernel
theorem dX7_finds_50 : decode cX7_finds 50 = .ok (.aload_n 0, 1) := by decide +kernel
theorem dX7_finds_51 : decode cX7_finds 51 = .ok (.getfield 32, 3) := by decide +kernel
theorem dX7_finds_54 : decode cX7_finds 54 = .ok (.iload_n 1, 1) := by decide +kernel
theorem dX7_finds_55 : decode cX7_finds 55 = .ok (.baload, 1) := by decide +kernel
theorem dX7_finds_56 : decode cX7_finds 56 = .ok (.ifCond .eq 8, 3) := by decide +kernel
theorem dX7_finds_59 : decode cX7_finds 59 = .ok (.aload_n 0, 1) := by decide +kernel
theorem dX7_finds_60 : decode cX7_finds 60 = .ok (.iload_n 1, 1) := by decide +kernel
theorem dX7_finds_61 : decode cX7_finds 61 = .ok (.invokevirtual 148, 3) := by decide +kernel
theorem dX7_finds_64 : decode cX7_finds 64 = .ok (.iinc 1 1, 3) := by decide +kernel
theorem dX7_finds_67 : decode cX7_finds 67 = .ok (.goto (-65), 3) := by decide +kernel
theorem dX7_finds_70 : decode cX7_finds 70 = .ok (.aload_n 0, 1) := by decide +kernel
theorem dX7_finds_71 : decode cX7_finds 71 = .ok (.iconst 1, 1) := by decide +kernel
theorem dX7_finds_72 : decode cX7_finds 72 = .ok (.putfield 90, 3) := by decide +kernel
theorem dX7_finds_75 : decode cX7_finds 75 = .ok (.return_, 1) := by decide +kernel
theorem dX7_isLess_0 : decode cX7_isLess 0 = .ok (.aload_n 0, 1) := by decide +kernel
theorem dX7_isLess_1 : decode cX7_isLess 1 = .ok (.getfield 36, 3) := by decide +kernel
theorem dX7_isLess_4 : decode cX7_isLess 4 = .ok (.iload_n 1, 1) := by decide +kernel
theorem dX7_isLess_5 : decode cX7_isLess 5 = .ok (.laload, 1) := by decide +kernel
theorem dX7_isLess_6 : decode cX7_isLess 6 = .ok (.aload_n 0, 1) := by decide +kernel
theorem dX7_isLess_7 : decode cX7_isLess 7 = .ok (.getfield 39, 3) := by decide +kernel
theorem dX7_isLess_10 : decode cX7_isLess 10 = .ok (.iload_n 2, 1) := by decide +kernel
theorem dX7_isLess_11 : decode cX7_isLess 11 = .ok (.laload, 1) := by decide +kernel
theorem dX7_isLess_12 : decode cX7_isLess 12 = .ok (.lmul, 1) := by decide +kernel
theorem dX7_isLess_13 : decode cX7_isLess 13 = .ok (.aload_n 0, 1) := by decide +kernel
theorem dX7_isLess_14 : decode cX7_isLess 14 = .ok (.getfield 36, 3) := by decide +kernel
theorem dX7_isLess_17 : decode cX7_isLess 17 = .ok (.iload_n 2, 1) := by decide +kernel
theorem dX7_isLess_18 : decode cX7_isLess 18 = .ok (.laload, 1) := by decide +kernel
theorem dX7_isLess_19 : decode cX7_isLess 19 = .ok (.aload_n 0, 1) := by decide +kernel
theorem dX7_isLess_20 : decode cX7_isLess 20 = .ok (.getfield 39, 3) := by decide +kernel
theorem dX7_isLess_23 : decode cX7_isLess 23 = .ok (.iload_n 1, 1) := by decide +kernel
theorem dX7_isLess_24 : decode cX7_isLess 24 = .ok (.laload, 1) := by decide +kernel
theorem dX7_isLess_25 : decode cX7_isLess 25 = .ok (.lmul, 1) := by decide +kernel
theorem dX7_isLess_26 : decode cX7_isLess 26 = .ok (.lcmp, 1) := by decide +kernel
theorem dX7_isLess_27 : decode cX7_isLess 27 = .ok (.ifCond .ge 7, 3) := by decide +kernel
theorem dX7_isLess_30 : decode cX7_isLess 30 = .ok (.iconst 1, 1) := by decide +kernel
theorem dX7_isLess_31 : decode cX7_isLess 31 = .ok (.goto 4, 3) := by decide +kernel
theorem dX7_isLess_34 : decode cX7_isLess 34 = .ok (.iconst 0, 1) := by decide +kernel
theorem dX7_isLess_35 : decode cX7_isLess 35 = .ok (.ireturn, 1) := by decide +kernel
theorem dX7_bestOf_0 : decode cX7_bestOf 0 = .ok (.aload_n 0, 1) := by decide +kernel
theorem dX7_bestOf_1 : decode cX7_bestOf 1 = .ok (.invokevirtual 151, 3) := by decide +kernel
theorem dX7_bestOf_4 : decode cX7_bestOf 4 = .ok (.iconst (-1), 1) := by decide +kernel
theorem dX7_bestOf_5 : decode cX7_bestOf 5 = .ok (.istore_n 2, 1) := by decide +kernel
theorem dX7_bestOf_6 : decode cX7_bestOf 6 = .ok (.iconst 0, 1) := by decide +kernel
theorem dX7_bestOf_7 : decode cX7_bestOf 7 = .ok (.istore_n 3, 1) := by decide +kernel
theorem dX7_bestOf_8 : decode cX7_bestOf 8 = .ok (.iload_n 3, 1) := by decide +kernel
theorem dX7_bestOf_9 : decode cX7_bestOf 9 = .ok (.iconst 1, 1) := by decide +kernel
theorem dX7_bestOf_10 : decode cX7_bestOf 10 = .ok (.aload_n 0, 1) := by decide +kernel
theorem dX7_bestOf_11 : decode cX7_bestOf 11 = .ok (.invokevirtual 68, 3) := by decide +kernel
theorem dX7_bestOf_14 : decode cX7_bestOf 14 = .ok (.ishl, 1) := by decide +kernel
theorem dX7_bestOf_15 : decode cX7_bestOf 15 = .ok (.if_icmp .ge 58, 3) := by decide +kernel
theorem dX7_bestOf_18 : decode cX7_bestOf 18 = .ok (.iload_n 3, 1) := by decide +kernel
theorem dX7_bestOf_19 : decode cX7_bestOf 19 = .ok (.iload_n 1, 1) := by decide +kernel
theorem dX7_bestOf_20 : decode cX7_bestOf 20 = .ok (.iconst (-1), 1) := by decide +kernel
theorem dX7_bestOf_21 : decode cX7_bestOf 21 = .ok (.ixor, 1) := by decide +kernel
theorem dX7_bestOf_22 : decode cX7_bestOf 22 = .ok (.iand, 1) := by decide +kernel
theorem dX7_bestOf_23 : decode cX7_bestOf 23 = .ok (.ifCond .ne 16, 3) := by decide +kernel
theorem dX7_bestOf_26 : decode cX7_bestOf 26 = .ok (.aload_n 0, 1) := by decide +kernel
theorem dX7_bestOf_27 : decode cX7_bestOf 27 = .ok (.getfield 32, 3) := by decide +kernel
theorem dX7_bestOf_30 : decode cX7_bestOf 30 = .ok (.iload_n 3, 1) := by decide +kernel
theorem dX7_bestOf_31 : decode cX7_bestOf 31 = .ok (.baload, 1) := by decide +kernel
theorem dX7_bestOf_32 : decode cX7_bestOf 32 = .ok (.ifCond .eq 7, 3) := by decide +kernel
theorem dX7_bestOf_35 : decode cX7_bestOf 35 = .ok (.iconst 1, 1) := by decide +kernel
theorem dX7_bestOf_36 : decode cX7_bestOf 36 = .ok (.goto 4, 3) := by decide +kernel
theorem dX7_bestOf_39 : decode cX7_bestOf 39 = .ok (.iconst 0, 1) := by decide +kernel
theorem dX7_bestOf_40 : decode cX7_bestOf 40 = .ok (.istore 4, 2) := by decide +kernel
theorem dX7_bestOf_42 : decode cX7_bestOf 42 = .ok (.iload 4, 2) := by decide +kernel
theorem dX7_bestOf_44 : decode cX7_bestOf 44 = .ok (.ifCond .eq 21, 3) := by decide +kernel
theorem dX7_bestOf_47 : decode cX7_bestOf 47 = .ok (.iload_n 2, 1) := by decide +kernel
theorem dX7_bestOf_48 : decode cX7_bestOf 48 = .ok (.iconst (-1), 1) := by decide +kernel
theorem dX7_bestOf_49 : decode cX7_bestOf 49 = .ok (.if_icmp .eq 12, 3) := by decide +kernel
theorem dX7_bestOf_52 : decode cX7_bestOf 52 = .ok (.aload_n 0, 1) := by decide +kernel
theorem dX7_bestOf_53 : decode cX7_bestOf 53 = .ok (.iload_n 3, 1) := by decide +kernel
theorem dX7_bestOf_54 : decode cX7_bestOf 54 = .ok (.iload_n 2, 1) := by decide +kernel
theorem dX7_bestOf_55 : decode cX7_bestOf 55 = .ok (.invokevirtual 154, 3) := by decide +kernel
theorem dX7_bestOf_58 : decode cX7_bestOf 58 = .ok (.ifCond .eq 7, 3) := by decide +kernel
theorem dX7_bestOf_61 : decode cX7_bestOf 61 = .ok (.iload_n 3, 1) := by decide +kernel
theorem dX7_bestOf_62 : decode cX7_bestOf 62 = .ok (.goto 4, 3) := by decide +kernel
theorem dX7_bestOf_65 : decode cX7_bestOf 65 = .ok (.iload_n 2, 1) := by decide +kernel
theorem dX7_bestOf_66 : decode cX7_bestOf 66 = .ok (.istore_n 2, 1) := by decide +kernel
theorem dX7_bestOf_67 : decode cX7_bestOf 67 = .ok (.iinc 3 1, 3) := by decide +kernel
theorem dX7_bestOf_70 : decode cX7_bestOf 70 = .ok (.goto (-62), 3) := by decide +kernel
theorem dX7_bestOf_73 : decode cX7_bestOf 73 = .ok (.iload_n 2, 1) := by decide +kernel
theorem dX7_bestOf_74 : decode cX7_bestOf 74 = .ok (.ireturn, 1) := by decide +kernel
theorem dX7_volumeOf_0 : decode cX7_volumeOf 0 = .ok (.aload_n 0, 1) := by decide +kernel
theorem dX7_volumeOf_1 : decode cX7_volumeOf 1 = .ok (.iload_n 1, 1) := by decide +kernel
theorem dX7_volumeOf_2 : decode cX7_volumeOf 2 = .ok (.invokevirtual 157, 3) := by decide +kernel
theorem dX7_volumeOf_5 : decode cX7_volumeOf 5 = .ok (.istore_n 3, 1) := by decide +kernel
theorem dX7_volumeOf_6 : decode cX7_volumeOf 6 = .ok (.iload_n 3, 1) := by decide +kernel
theorem dX7_volumeOf_7 : decode cX7_volumeOf 7 = .ok (.iconst (-1), 1) := by decide +kernel
theorem dX7_volumeOf_8 : decode cX7_volumeOf 8 = .ok (.if_icmp .ne 11, 3) := by decide +kernel
theorem dX7_volumeOf_11 : decode cX7_volumeOf 11 = .ok (.bipush (-3), 2) := by decide +kernel
theorem dX7_volumeOf_13 : decode cX7_volumeOf 13 = .ok (.invokestatic 160, 3) := by decide +kernel
theorem dX7_volumeOf_16 : decode cX7_volumeOf 16 = .ok (.goto 22, 3) := by decide +kernel
theorem dX7_volumeOf_19 : decode cX7_volumeOf 19 = .ok (.iload_n 2, 1) := by decide +kernel
theorem dX7_volumeOf_20 : decode cX7_volumeOf 20 = .ok (.ifCond .ne 12, 3) := by decide +kernel
theorem dX7_volumeOf_23 : decode cX7_volumeOf 23 = .ok (.aload_n 0, 1) := by decide +kernel
theorem dX7_volumeOf_24 : decode cX7_volumeOf 24 = .ok (.getfield 36, 3) := by decide +kernel
theorem dX7_volumeOf_27 : decode cX7_volumeOf 27 = .ok (.iload_n 3, 1) := by decide +kernel
theorem dX7_volumeOf_28 : decode cX7_volumeOf 28 = .ok (.laload, 1) := by decide +kernel
theorem dX7_volumeOf_29 : decode cX7_volumeOf 29 = .ok (.goto 9, 3) := by decide +kernel
theorem dX7_volumeOf_32 : decode cX7_volumeOf 32 = .ok (.aload_n 0, 1) := by decide +kernel
theorem dX7_volumeOf_33 : decode cX7_volumeOf 33 = .ok (.getfield 39, 3) := by decide +kernel
theorem dX7_volumeOf_36 : decode cX7_volumeOf 36 = .ok (.iload_n 3, 1) := by decide +kernel
theorem dX7_volumeOf_37 : decode cX7_volumeOf 37 = .ok (.laload, 1) := by decide +kernel
theorem dX7_volumeOf_38 : decode cX7_volumeOf 38 = .ok (.lreturn, 1) := by decide +kernel
theorem dX7_least_0 : decode cX7_least 0 = .ok (.iload_n 1, 1) := by decide +kernel
theorem dX7_least_1 : decode cX7_least 1 = .ok (.iconst 0, 1) := by decide +kernel
theorem dX7_least_2 : decode cX7_least 2 = .ok (.iconst 1, 1) := by decide +kernel
theorem dX7_least_3 : decode cX7_least 3 = .ok (.invokestatic 64, 3) := by decide +kernel
theorem dX7_least_6 : decode cX7_least 6 = .ok (.ifCond .eq 15, 3) := by decide +kernel
theorem dX7_least_9 : decode cX7_least 9 = .ok (.aload_n 0, 1) := by decide +kernel
theorem dX7_least_10 : decode cX7_least 10 = .ok (.aload_n 0, 1) := by decide +kernel
theorem dX7_least_11 : decode cX7_least 11 = .ok (.getfield 76, 3) := by decide +kernel
theorem dX7_least_14 : decode cX7_least 14 = .ok (.iload_n 1, 1) := by decide +kernel
theorem dX7_least_15 : decode cX7_least 15 = .ok (.invokevirtual 164, 3) := by decide +kernel
theorem dX7_least_18 : decode cX7_least 18 = .ok (.goto 8, 3) := by decide +kernel
theorem dX7_least_21 : decode cX7_least 21 = .ok (.bipush (-2), 2) := by decide +kernel
theorem dX7_least_23 : decode cX7_least 23 = .ok (.invokestatic 160, 3) := by decide +kernel
theorem dX7_least_26 : decode cX7_least 26 = .ok (.lreturn, 1) := by decide +kernel
theorem dX7_fault_0 : decode cX7_fault 0 = .ok (.aload_n 0, 1) := by decide +kernel
theorem dX7_fault_1 : decode cX7_fault 1 = .ok (.aload_n 0, 1) := by decide +kernel
theorem dX7_fault_2 : decode cX7_fault 2 = .ok (.getfield 76, 3) := by decide +kernel
theorem dX7_fault_5 : decode cX7_fault 5 = .ok (.invokevirtual 142, 3) := by decide +kernel
theorem dX7_fault_8 : decode cX7_fault 8 = .ok (.ireturn, 1) := by decide +kernel
theorem dX7_frameNow_0 : decode cX7_frameNow 0 = .ok (.aload_n 0, 1) := by decide +kernel
theorem dX7_frameNow_1 : decode cX7_frameNow 1 = .ok (.aload_n 0, 1) := by decide +kernel
theorem dX7_frameNow_2 : decode cX7_frameNow 2 = .ok (.getfield 76, 3) := by decide +kernel
theorem dX7_frameNow_5 : decode cX7_frameNow 5 = .ok (.invokevirtual 157, 3) := by decide +kernel
theorem dX7_frameNow_8 : decode cX7_frameNow 8 = .ok (.istore_n 1, 1) := by decide +kernel
theorem dX7_frameNow_9 : decode cX7_frameNow 9 = .ok (.iload_n 1, 1) := by decide +kernel
theorem dX7_frameNow_10 : decode cX7_frameNow 10 = .ok (.iconst (-1), 1) := by decide +kernel
theorem dX7_frameNow_11 : decode cX7_frameNow 11 = .ok (.if_icmp .ne 8, 3) := by decide +kernel
theorem dX7_frameNow_14 : decode cX7_frameNow 14 = .ok (.bipush (-3), 2) := by decide +kernel
theorem dX7_frameNow_16 : decode cX7_frameNow 16 = .ok (.goto 4, 3) := by decide +kernel
theorem dX7_frameNow_19 : decode cX7_frameNow 19 = .ok (.iload_n 1, 1) := by decide +kernel
theorem dX7_frameNow_20 : decode cX7_frameNow 20 = .ok (.ireturn, 1) := by decide +kernel
theorem dX7_frame_0 : decode cX7_frame 0 = .ok (.aload_n 0, 1) := by decide +kernel
theorem dX7_frame_1 : decode cX7_frame 1 = .ok (.invokevirtual 168, 3) := by decide +kernel
theorem dX7_frame_4 : decode cX7_frame 4 = .ok (.ireturn, 1) := by decide +kernel
theorem dX7_pullOf_0 : decode cX7_pullOf 0 = .ok (.aload_n 0, 1) := by decide +kernel
theorem dX7_pullOf_1 : decode cX7_pullOf 1 = .ok (.aload_n 0, 1) := by decide +kernel
theorem dX7_pullOf_2 : decode cX7_pullOf 2 = .ok (.getfield 76, 3) := by decide +kernel
theorem dX7_pullOf_5 : decode cX7_pullOf 5 = .ok (.invokevirtual 157, 3) := by decide +kernel
theorem dX7_pullOf_8 : decode cX7_pullOf 8 = .ok (.istore_n 3, 1) := by decide +kernel
theorem dX7_pullOf_9 : decode cX7_pullOf 9 = .ok (.iload_n 3, 1) := by decide +kernel
theorem dX7_pullOf_10 : decode cX7_pullOf 10 = .ok (.iconst (-1), 1) := by decide +kernel
theorem dX7_pullOf_11 : decode cX7_pullOf 11 = .ok (.if_icmp .ne 9, 3) := by decide +kernel
theorem dX7_pullOf_14 : decode cX7_pullOf 14 = .ok (.bipush (-3), 2) := by decide +kernel
theorem dX7_pullOf_16 : decode cX7_pullOf 16 = .ok (.invokestatic 160, 3) := by decide +kernel
theorem dX7_pullOf_19 : decode cX7_pullOf 19 = .ok (.lreturn, 1) := by decide +kernel
theorem dX7_pullOf_20 : decode cX7_pullOf 20 = .ok (.iload_n 3, 1) := by decide +kernel
theorem dX7_pullOf_21 : decode cX7_pullOf 21 = .ok (.iload_n 1, 1) := by decide +kernel
theorem dX7_pullOf_22 : decode cX7_pullOf 22 = .ok (.ishr, 1) := by decide +kernel
theorem dX7_pullOf_23 : decode cX7_pullOf 23 = .ok (.iconst 1, 1) := by decide +kernel
theorem dX7_pullOf_24 : decode cX7_pullOf 24 = .ok (.iand, 1) := by decide +kernel
theorem dX7_pullOf_25 : decode cX7_pullOf 25 = .ok (.ifCond .ne 6, 3) := by decide +kernel
theorem dX7_pullOf_28 : decode cX7_pullOf 28 = .ok (.iload_n 2, 1) := by decide +kernel
theorem dX7_pullOf_29 : decode cX7_pullOf 29 = .ok (.i2l, 1) := by decide +kernel
theorem dX7_pullOf_30 : decode cX7_pullOf 30 = .ok (.lreturn, 1) := by decide +kernel
theorem dX7_pullOf_31 : decode cX7_pullOf 31 = .ok (.aload_n 0, 1) := by decide +kernel
theorem dX7_pullOf_32 : decode cX7_pullOf 32 = .ok (.iload_n 3, 1) := by decide +kernel
theorem dX7_pullOf_33 : decode cX7_pullOf 33 = .ok (.invokevirtual 142, 3) := by decide +kernel
theorem dX7_pullOf_36 : decode cX7_pullOf 36 = .ok (.pop, 1) := by decide +kernel
theorem dX7_pullOf_37 : decode cX7_pullOf 37 = .ok (.lconst 0, 1) := by decide +kernel
theorem dX7_pullOf_38 : decode cX7_pullOf 38 = .ok (.lstore 4, 2) := by decide +kernel
theorem dX7_pullOf_40 : decode cX7_pullOf 40 = .ok (.iconst 0, 1) := by decide +kernel
theorem dX7_pullOf_41 : decode cX7_pullOf 41 = .ok (.istore 6, 2) := by decide +kernel
theorem dX7_pullOf_43 : decode cX7_pullOf 43 = .ok (.iload 6, 2) := by decide +kernel
theorem dX7_pullOf_45 : decode cX7_pullOf 45 = .ok (.aload_n 0, 1) := by decide +kernel
theorem dX7_pullOf_46 : decode cX7_pullOf 46 = .ok (.getfield 121, 3) := by decide +kernel
theorem dX7_pullOf_49 : decode cX7_pullOf 49 = .ok (.if_icmp .ge 56, 3) := by decide +kernel
theorem dX7_pullOf_52 : decode cX7_pullOf 52 = .ok (.aload_n 0, 1) := by decide +kernel
theorem dX7_pullOf_53 : decode cX7_pullOf 53 = .ok (.getfield 29, 3) := by decide +kernel
theorem dX7_pullOf_56 : decode cX7_pullOf 56 = .ok (.iload 6, 2) := by decide +kernel
theorem dX7_pullOf_58 : decode cX7_pullOf 58 = .ok (.iaload, 1) := by decide +kernel
theorem dX7_pullOf_59 : decode cX7_pullOf 59 = .ok (.iload_n 1, 1) := by decide +kernel
theorem dX7_pullOf_60 : decode cX7_pullOf 60 = .ok (.if_icmp .ne 35, 3) := by decide +kernel
theorem dX7_pullOf_63 : decode cX7_pullOf 63 = .ok (.aload_n 0, 1) := by decide +kernel
theorem dX7_pullOf_64 : decode cX7_pullOf 64 = .ok (.getfield 25, 3) := by decide +kernel
theorem dX7_pullOf_67 : decode cX7_pullOf 67 = .ok (.bipush 11, 2) := by decide +kernel
theorem dX7_pullOf_69 : decode cX7_pullOf 69 = .ok (.iload 6, 2) := by decide +kernel
theorem dX7_pullOf_71 : decode cX7_pullOf 71 = .ok (.imul, 1) := by decide +kernel
theorem dX7_pullOf_72 : decode cX7_pullOf 72 = .ok (.bipush 10, 2) := by decide +kernel
theorem dX7_pullOf_74 : decode cX7_pullOf 74 = .ok (.iadd, 1) := by decide +kernel
theorem dX7_pullOf_75 : decode cX7_pullOf 75 = .ok (.laload, 1) := by decide +kernel
theorem dX7_pullOf_76 : decode cX7_pullOf 76 = .ok (.aload_n 0, 1) := by decide +kernel
theorem dX7_pullOf_77 : decode cX7_pullOf 77 = .ok (.getfield 25, 3) := by decide +kernel
theorem dX7_pullOf_80 : decode cX7_pullOf 80 = .ok (.bipush 11, 2) := by decide +kernel
theorem dX7_pullOf_82 : decode cX7_pullOf 82 = .ok (.iload 6, 2) := by decide +kernel
theorem dX7_pullOf_84 : decode cX7_pullOf 84 = .ok (.imul, 1) := by decide +kernel
theorem dX7_pullOf_85 : decode cX7_pullOf 85 = .ok (.iload_n 1, 1) := by decide +kernel
theorem dX7_pullOf_86 : decode cX7_pullOf 86 = .ok (.iadd, 1) := by decide +kernel
theorem dX7_pullOf_87 : decode cX7_pullOf 87 = .ok (.laload, 1) := by decide +kernel
theorem dX7_pullOf_88 : decode cX7_pullOf 88 = .ok (.iload_n 2, 1) := by decide +kernel
theorem dX7_pullOf_89 : decode cX7_pullOf 89 = .ok (.invokestatic 138, 3) := by decide +kernel
theorem dX7_pullOf_92 : decode cX7_pullOf 92 = .ok (.goto 5, 3) := by decide +kernel
theorem dX7_pullOf_95 : decode cX7_pullOf 95 = .ok (.lload 4, 2) := by decide +kernel
theorem dX7_pullOf_97 : decode cX7_pullOf 97 = .ok (.lstore 4, 2) := by decide +kernel
theorem dX7_pullOf_99 : decode cX7_pullOf 99 = .ok (.iinc 6 1, 3) := by decide +kernel
theorem dX7_pullOf_102 : decode cX7_pullOf 102 = .ok (.goto (-59), 3) := by decide +kernel
theorem dX7_pullOf_105 : decode cX7_pullOf 105 = .ok (.lload 4, 2) := by decide +kernel
theorem dX7_pullOf_107 : decode cX7_pullOf 107 = .ok (.lreturn, 1) := by decide +kernel
theorem dX7_pull_0 : decode cX7_pull 0 = .ok (.aload_n 0, 1) := by decide +kernel
theorem dX7_pull_1 : decode cX7_pull 1 = .ok (.iload_n 1, 1) := by decide +kernel
theorem dX7_pull_2 : decode cX7_pull 2 = .ok (.invokevirtual 72, 3) := by decide +kernel
theorem dX7_pull_5 : decode cX7_pull 5 = .ok (.ifCond .eq 21, 3) := by decide +kernel
theorem dX7_pull_8 : decode cX7_pull 8 = .ok (.iload_n 2, 1) := by decide +kernel
theorem dX7_pull_9 : decode cX7_pull 9 = .ok (.iconst 0, 1) := by decide +kernel
theorem dX7_pull_10 : decode cX7_pull 10 = .ok (.iconst 1, 1) := by decide +kernel
theorem dX7_pull_11 : decode cX7_pull 11 = .ok (.invokestatic 64, 3) := by decide +kernel
theorem dX7_pull_14 : decode cX7_pull 14 = .ok (.ifCond .eq 12, 3) := by decide +kernel
theorem dX7_pull_17 : decode cX7_pull 17 = .ok (.aload_n 0, 1) := by decide +kernel
theorem dX7_pull_18 : decode cX7_pull 18 = .ok (.iload_n 1, 1) := by decide +kernel
theorem dX7_pull_19 : decode cX7_pull 19 = .ok (.iload_n 2, 1) := by decide +kernel
theorem dX7_pull_20 : decode cX7_pull 20 = .ok (.invokevirtual 171, 3) := by decide +kernel
theorem dX7_pull_23 : decode cX7_pull 23 = .ok (.goto 8, 3) := by decide +kernel
theorem dX7_pull_26 : decode cX7_pull 26 = .ok (.bipush (-2), 2) := by decide +kernel
theorem dX7_pull_28 : decode cX7_pull 28 = .ok (.invokestatic 160, 3) := by decide +kernel
theorem dX7_pull_31 : decode cX7_pull 31 = .ok (.lreturn, 1) := by decide +kernel
theorem dX7_without_0 : decode cX7_without 0 = .ok (.aload_n 0, 1) := by decide +kernel
theorem dX7_without_1 : decode cX7_without 1 = .ok (.iload_n 1, 1) := by decide +kernel
theorem dX7_without_2 : decode cX7_without 2 = .ok (.invokevirtual 174, 3) := by decide +kernel
theorem dX7_without_5 : decode cX7_without 5 = .ok (.ifCond .eq 30, 3) := by decide +kernel
theorem dX7_without_8 : decode cX7_without 8 = .ok (.iload_n 2, 1) := by decide +kernel
theorem dX7_without_9 : decode cX7_without 9 = .ok (.iconst 0, 1) := by decide +kernel
theorem dX7_without_10 : decode cX7_without 10 = .ok (.iconst 1, 1) := by decide +kernel
theorem dX7_without_11 : decode cX7_without 11 = .ok (.invokestatic 64, 3) := by decide +kernel
theorem dX7_without_14 : decode cX7_without 14 = .ok (.ifCond .eq 21, 3) := by decide +kernel
theorem dX7_without_17 : decode cX7_without 17 = .ok (.aload_n 0, 1) := by decide +kernel
theorem dX7_without_18 : decode cX7_without 18 = .ok (.aload_n 0, 1) := by decide +kernel
theorem dX7_without_19 : decode cX7_without 19 = .ok (.getfield 76, 3) := by decide +kernel
theorem dX7_without_22 : decode cX7_without 22 = .ok (.iconst 1, 1) := by decide +kernel
theorem dX7_without_23 : decode cX7_without 23 = .ok (.iload_n 1, 1) := by decide +kernel
theorem dX7_without_24 : decode cX7_without 24 = .ok (.ishl, 1) := by decide +kernel
theorem dX7_without_25 : decode cX7_without 25 = .ok (.iconst (-1), 1) := by decide +kernel
theorem dX7_without_26 : decode cX7_without 26 = .ok (.ixor, 1) := by decide +kernel
theorem dX7_without_27 : decode cX7_without 27 = .ok (.iand, 1) := by decide +kernel
theorem dX7_without_28 : decode cX7_without 28 = .ok (.iload_n 2, 1) := by decide +kernel
theorem dX7_without_29 : decode cX7_without 29 = .ok (.invokevirtual 164, 3) := by decide +kernel
theorem dX7_without_32 : decode cX7_without 32 = .ok (.goto 8, 3) := by decide +kernel
theorem dX7_without_35 : decode cX7_without 35 = .ok (.bipush (-2), 2) := by decide +kernel
theorem dX7_without_37 : decode cX7_without 37 = .ok (.invokestatic 160, 3) := by decide +kernel
theorem dX7_without_40 : decode cX7_without 40 = .ok (.lreturn, 1) := by decide +kernel
theorem dX7_why_0 : decode cX7_why 0 = .ok (.aload_n 0, 1) := by decide +kernel
theorem dX7_why_1 : decode cX7_why 1 = .ok (.iload_n 1, 1) := by decide +kernel
theorem dX7_why_2 : decode cX7_why 2 = .ok (.invokevirtual 174, 3) := by decide +kernel
theorem dX7_why_5 : decode cX7_why 5 = .ok (.ifCond .eq 20, 3) := by decide +kernel
theorem dX7_why_8 : decode cX7_why 8 = .ok (.aload_n 0, 1) := by decide +kernel
theorem dX7_why_9 : decode cX7_why 9 = .ok (.aload_n 0, 1) := by decide +kernel
theorem dX7_why_10 : decode cX7_why 10 = .ok (.getfield 76, 3) := by decide +kernel
theorem dX7_why_13 : decode cX7_why 13 = .ok (.iconst 1, 1) := by decide +kernel
theorem dX7_why_14 : decode cX7_why 14 = .ok (.iload_n 1, 1) := by decide +kernel
theorem dX7_why_15 : decode cX7_why 15 = .ok (.ishl, 1) := by decide +kernel
theorem dX7_why_16 : decode cX7_why 16 = .ok (.iconst (-1), 1) := by decide +kernel
theorem dX7_why_17 : decode cX7_why 17 = .ok (.ixor, 1) := by decide +kernel
theorem dX7_why_18 : decode cX7_why 18 = .ok (.iand, 1) := by decide +kernel
theorem dX7_why_19 : decode cX7_why 19 = .ok (.invokevirtual 142, 3) := by decide +kernel
theorem dX7_why_22 : decode cX7_why 22 = .ok (.goto 5, 3) := by decide +kernel
theorem dX7_why_25 : decode cX7_why 25 = .ok (.bipush (-2), 2) := by decide +kernel
theorem dX7_why_27 : decode cX7_why 27 = .ok (.ireturn, 1) := by decide +kernel
theorem dX7_isNeeded_0 : decode cX7_isNeeded 0 = .ok (.aload_n 0, 1) := by decide +kernel
theorem dX7_isNeeded_1 : decode cX7_isNeeded 1 = .ok (.aload_n 0, 1) := by decide +kernel
theorem dX7_isNeeded_2 : decode cX7_isNeeded 2 = .ok (.getfield 76, 3) := by decide +kernel
theorem dX7_isNeeded_5 : decode cX7_isNeeded 5 = .ok (.iconst 1, 1) := by decide +kernel
theorem dX7_isNeeded_6 : decode cX7_isNeeded 6 = .ok (.iload_n 1, 1) := by decide +kernel
theorem dX7_isNeeded_7 : decode cX7_isNeeded 7 = .ok (.ishl, 1) := by decide +kernel
theorem dX7_isNeeded_8 : decode cX7_isNeeded 8 = .ok (.iconst (-1), 1) := by decide +kernel
theorem dX7_isNeeded_9 : decode cX7_isNeeded 9 = .ok (.ixor, 1) := by decide +kernel
end
section
theorem dX7_isNeeded_10 : decode cX7_isNeeded 10 = .ok (.iand, 1) := by decide +kernel
theorem dX7_isNeeded_11 : decode cX7_isNeeded 11 = .ok (.invokevirtual 157, 3) := by decide +kernel
theorem dX7_isNeeded_14 : decode cX7_isNeeded 14 = .ok (.istore_n 3, 1) := by decide +kernel
theorem dX7_isNeeded_15 : decode cX7_isNeeded 15 = .ok (.iload_n 3, 1) := by decide +kernel
theorem dX7_isNeeded_16 : decode cX7_isNeeded 16 = .ok (.iconst (-1), 1) := by decide +kernel
theorem dX7_isNeeded_17 : decode cX7_isNeeded 17 = .ok (.if_icmp .eq 12, 3) := by decide +kernel
theorem dX7_isNeeded_20 : decode cX7_isNeeded 20 = .ok (.aload_n 0, 1) := by decide +kernel
theorem dX7_isNeeded_21 : decode cX7_isNeeded 21 = .ok (.iload_n 2, 1) := by decide +kernel
theorem dX7_isNeeded_22 : decode cX7_isNeeded 22 = .ok (.iload_n 3, 1) := by decide +kernel
theorem dX7_isNeeded_23 : decode cX7_isNeeded 23 = .ok (.invokevirtual 154, 3) := by decide +kernel
theorem dX7_isNeeded_26 : decode cX7_isNeeded 26 = .ok (.ifCond .eq 7, 3) := by decide +kernel
theorem dX7_isNeeded_29 : decode cX7_isNeeded 29 = .ok (.iconst 1, 1) := by decide +kernel
theorem dX7_isNeeded_30 : decode cX7_isNeeded 30 = .ok (.goto 4, 3) := by decide +kernel
theorem dX7_isNeeded_33 : decode cX7_isNeeded 33 = .ok (.iconst 0, 1) := by decide +kernel
theorem dX7_isNeeded_34 : decode cX7_isNeeded 34 = .ok (.ireturn, 1) := by decide +kernel
theorem dX7_neededNow_0 : decode cX7_neededNow 0 = .ok (.aload_n 0, 1) := by decide +kernel
theorem dX7_neededNow_1 : decode cX7_neededNow 1 = .ok (.aload_n 0, 1) := by decide +kernel
theorem dX7_neededNow_2 : decode cX7_neededNow 2 = .ok (.getfield 76, 3) := by decide +kernel
theorem dX7_neededNow_5 : decode cX7_neededNow 5 = .ok (.invokevirtual 157, 3) := by decide +kernel
theorem dX7_neededNow_8 : decode cX7_neededNow 8 = .ok (.istore_n 1, 1) := by decide +kernel
theorem dX7_neededNow_9 : decode cX7_neededNow 9 = .ok (.iconst 0, 1) := by decide +kernel
theorem dX7_neededNow_10 : decode cX7_neededNow 10 = .ok (.istore_n 2, 1) := by decide +kernel
theorem dX7_neededNow_11 : decode cX7_neededNow 11 = .ok (.iconst 0, 1) := by decide +kernel
theorem dX7_neededNow_12 : decode cX7_neededNow 12 = .ok (.istore_n 3, 1) := by decide +kernel
theorem dX7_neededNow_13 : decode cX7_neededNow 13 = .ok (.iload_n 3, 1) := by decide +kernel
theorem dX7_neededNow_14 : decode cX7_neededNow 14 = .ok (.aload_n 0, 1) := by decide +kernel
theorem dX7_neededNow_15 : decode cX7_neededNow 15 = .ok (.invokevirtual 68, 3) := by decide +kernel
theorem dX7_neededNow_18 : decode cX7_neededNow 18 = .ok (.if_icmp .ge 41, 3) := by decide +kernel
theorem dX7_neededNow_21 : decode cX7_neededNow 21 = .ok (.iload_n 1, 1) := by decide +kernel
theorem dX7_neededNow_22 : decode cX7_neededNow 22 = .ok (.iconst (-1), 1) := by decide +kernel
theorem dX7_neededNow_23 : decode cX7_neededNow 23 = .ok (.if_icmp .eq 36, 3) := by decide +kernel
theorem dX7_neededNow_26 : decode cX7_neededNow 26 = .ok (.iload_n 2, 1) := by decide +kernel
theorem dX7_neededNow_27 : decode cX7_neededNow 27 = .ok (.aload_n 0, 1) := by decide +kernel
theorem dX7_neededNow_28 : decode cX7_neededNow 28 = .ok (.iload_n 3, 1) := by decide +kernel
theorem dX7_neededNow_29 : decode cX7_neededNow 29 = .ok (.invokevirtual 174, 3) := by decide +kernel
theorem dX7_neededNow_32 : decode cX7_neededNow 32 = .ok (.ifCond .eq 18, 3) := by decide +kernel
theorem dX7_neededNow_35 : decode cX7_neededNow 35 = .ok (.aload_n 0, 1) := by decide +kernel
theorem dX7_neededNow_36 : decode cX7_neededNow 36 = .ok (.iload_n 3, 1) := by decide +kernel
theorem dX7_neededNow_37 : decode cX7_neededNow 37 = .ok (.iload_n 1, 1) := by decide +kernel
theorem dX7_neededNow_38 : decode cX7_neededNow 38 = .ok (.invokevirtual 177, 3) := by decide +kernel
theorem dX7_neededNow_41 : decode cX7_neededNow 41 = .ok (.ifCond .eq 9, 3) := by decide +kernel
theorem dX7_neededNow_44 : decode cX7_neededNow 44 = .ok (.iconst 1, 1) := by decide +kernel
theorem dX7_neededNow_45 : decode cX7_neededNow 45 = .ok (.iload_n 3, 1) := by decide +kernel
theorem dX7_neededNow_46 : decode cX7_neededNow 46 = .ok (.ishl, 1) := by decide +kernel
theorem dX7_neededNow_47 : decode cX7_neededNow 47 = .ok (.goto 4, 3) := by decide +kernel
theorem dX7_neededNow_50 : decode cX7_neededNow 50 = .ok (.iconst 0, 1) := by decide +kernel
theorem dX7_neededNow_51 : decode cX7_neededNow 51 = .ok (.ior, 1) := by decide +kernel
theorem dX7_neededNow_52 : decode cX7_neededNow 52 = .ok (.istore_n 2, 1) := by decide +kernel
theorem dX7_neededNow_53 : decode cX7_neededNow 53 = .ok (.iinc 3 1, 3) := by decide +kernel
theorem dX7_neededNow_56 : decode cX7_neededNow 56 = .ok (.goto (-43), 3) := by decide +kernel
theorem dX7_neededNow_59 : decode cX7_neededNow 59 = .ok (.iload_n 1, 1) := by decide +kernel
theorem dX7_neededNow_60 : decode cX7_neededNow 60 = .ok (.iconst (-1), 1) := by decide +kernel
theorem dX7_neededNow_61 : decode cX7_neededNow 61 = .ok (.if_icmp .ne 8, 3) := by decide +kernel
theorem dX7_neededNow_64 : decode cX7_neededNow 64 = .ok (.bipush (-3), 2) := by decide +kernel
theorem dX7_neededNow_66 : decode cX7_neededNow 66 = .ok (.goto 4, 3) := by decide +kernel
theorem dX7_neededNow_69 : decode cX7_neededNow 69 = .ok (.iload_n 2, 1) := by decide +kernel
theorem dX7_neededNow_70 : decode cX7_neededNow 70 = .ok (.ireturn, 1) := by decide +kernel
theorem dX7_needed_0 : decode cX7_needed 0 = .ok (.aload_n 0, 1) := by decide +kernel
theorem dX7_needed_1 : decode cX7_needed 1 = .ok (.invokevirtual 180, 3) := by decide +kernel
theorem dX7_needed_4 : decode cX7_needed 4 = .ok (.ireturn, 1) := by decide +kernel
theorem dX7_dearestNow_0 : decode cX7_dearestNow 0 = .ok (.aload_n 0, 1) := by decide +kernel
theorem dX7_dearestNow_1 : decode cX7_dearestNow 1 = .ok (.invokevirtual 180, 3) := by decide +kernel
theorem dX7_dearestNow_4 : decode cX7_dearestNow 4 = .ok (.istore_n 1, 1) := by decide +kernel
theorem dX7_dearestNow_5 : decode cX7_dearestNow 5 = .ok (.iconst (-1), 1) := by decide +kernel
theorem dX7_dearestNow_6 : decode cX7_dearestNow 6 = .ok (.istore_n 2, 1) := by decide +kernel
theorem dX7_dearestNow_7 : decode cX7_dearestNow 7 = .ok (.iconst (-1), 1) := by decide +kernel
theorem dX7_dearestNow_8 : decode cX7_dearestNow 8 = .ok (.istore_n 3, 1) := by decide +kernel
theorem dX7_dearestNow_9 : decode cX7_dearestNow 9 = .ok (.iconst 0, 1) := by decide +kernel
theorem dX7_dearestNow_10 : decode cX7_dearestNow 10 = .ok (.istore 4, 2) := by decide +kernel
theorem dX7_dearestNow_12 : decode cX7_dearestNow 12 = .ok (.iconst 0, 1) := by decide +kernel
theorem dX7_dearestNow_13 : decode cX7_dearestNow 13 = .ok (.istore 5, 2) := by decide +kernel
theorem dX7_dearestNow_15 : decode cX7_dearestNow 15 = .ok (.iload 5, 2) := by decide +kernel
theorem dX7_dearestNow_17 : decode cX7_dearestNow 17 = .ok (.aload_n 0, 1) := by decide +kernel
theorem dX7_dearestNow_18 : decode cX7_dearestNow 18 = .ok (.invokevirtual 68, 3) := by decide +kernel
theorem dX7_dearestNow_21 : decode cX7_dearestNow 21 = .ok (.if_icmp .ge 103, 3) := by decide +kernel
theorem dX7_dearestNow_24 : decode cX7_dearestNow 24 = .ok (.iload_n 1, 1) := by decide +kernel
theorem dX7_dearestNow_25 : decode cX7_dearestNow 25 = .ok (.ifCond .le 99, 3) := by decide +kernel
theorem dX7_dearestNow_28 : decode cX7_dearestNow 28 = .ok (.iload_n 1, 1) := by decide +kernel
theorem dX7_dearestNow_29 : decode cX7_dearestNow 29 = .ok (.iload 5, 2) := by decide +kernel
theorem dX7_dearestNow_31 : decode cX7_dearestNow 31 = .ok (.ishr, 1) := by decide +kernel
theorem dX7_dearestNow_32 : decode cX7_dearestNow 32 = .ok (.iconst 1, 1) := by decide +kernel
theorem dX7_dearestNow_33 : decode cX7_dearestNow 33 = .ok (.iand, 1) := by decide +kernel
theorem dX7_dearestNow_34 : decode cX7_dearestNow 34 = .ok (.iconst 1, 1) := by decide +kernel
theorem dX7_dearestNow_35 : decode cX7_dearestNow 35 = .ok (.if_icmp .ne 83, 3) := by decide +kernel
theorem dX7_dearestNow_38 : decode cX7_dearestNow 38 = .ok (.iload 4, 2) := by decide +kernel
theorem dX7_dearestNow_40 : decode cX7_dearestNow 40 = .ok (.ifCond .ne 78, 3) := by decide +kernel
theorem dX7_dearestNow_43 : decode cX7_dearestNow 43 = .ok (.aload_n 0, 1) := by decide +kernel
theorem dX7_dearestNow_44 : decode cX7_dearestNow 44 = .ok (.aload_n 0, 1) := by decide +kernel
theorem dX7_dearestNow_45 : decode cX7_dearestNow 45 = .ok (.getfield 76, 3) := by decide +kernel
theorem dX7_dearestNow_48 : decode cX7_dearestNow 48 = .ok (.iconst 1, 1) := by decide +kernel
theorem dX7_dearestNow_49 : decode cX7_dearestNow 49 = .ok (.iload 5, 2) := by decide +kernel
theorem dX7_dearestNow_51 : decode cX7_dearestNow 51 = .ok (.ishl, 1) := by decide +kernel
theorem dX7_dearestNow_52 : decode cX7_dearestNow 52 = .ok (.iconst (-1), 1) := by decide +kernel
theorem dX7_dearestNow_53 : decode cX7_dearestNow 53 = .ok (.ixor, 1) := by decide +kernel
theorem dX7_dearestNow_54 : decode cX7_dearestNow 54 = .ok (.iand, 1) := by decide +kernel
theorem dX7_dearestNow_55 : decode cX7_dearestNow 55 = .ok (.invokevirtual 157, 3) := by decide +kernel
theorem dX7_dearestNow_58 : decode cX7_dearestNow 58 = .ok (.istore 6, 2) := by decide +kernel
theorem dX7_dearestNow_60 : decode cX7_dearestNow 60 = .ok (.iload 6, 2) := by decide +kernel
theorem dX7_dearestNow_62 : decode cX7_dearestNow 62 = .ok (.iconst (-1), 1) := by decide +kernel
theorem dX7_dearestNow_63 : decode cX7_dearestNow 63 = .ok (.if_icmp .ne 7, 3) := by decide +kernel
theorem dX7_dearestNow_66 : decode cX7_dearestNow 66 = .ok (.iconst 1, 1) := by decide +kernel
theorem dX7_dearestNow_67 : decode cX7_dearestNow 67 = .ok (.goto 4, 3) := by decide +kernel
theorem dX7_dearestNow_70 : decode cX7_dearestNow 70 = .ok (.iconst 0, 1) := by decide +kernel
theorem dX7_dearestNow_71 : decode cX7_dearestNow 71 = .ok (.istore 4, 2) := by decide +kernel
theorem dX7_dearestNow_73 : decode cX7_dearestNow 73 = .ok (.iload 4, 2) := by decide +kernel
theorem dX7_dearestNow_75 : decode cX7_dearestNow 75 = .ok (.ifCond .ne 18, 3) := by decide +kernel
theorem dX7_dearestNow_78 : decode cX7_dearestNow 78 = .ok (.iload_n 2, 1) := by decide +kernel
theorem dX7_dearestNow_79 : decode cX7_dearestNow 79 = .ok (.iconst (-1), 1) := by decide +kernel
theorem dX7_dearestNow_80 : decode cX7_dearestNow 80 = .ok (.if_icmp .eq 13, 3) := by decide +kernel
theorem dX7_dearestNow_83 : decode cX7_dearestNow 83 = .ok (.aload_n 0, 1) := by decide +kernel
theorem dX7_dearestNow_84 : decode cX7_dearestNow 84 = .ok (.iload_n 3, 1) := by decide +kernel
theorem dX7_dearestNow_85 : decode cX7_dearestNow 85 = .ok (.iload 6, 2) := by decide +kernel
theorem dX7_dearestNow_87 : decode cX7_dearestNow 87 = .ok (.invokevirtual 154, 3) := by decide +kernel
theorem dX7_dearestNow_90 : decode cX7_dearestNow 90 = .ok (.ifCond .eq 8, 3) := by decide +kernel
theorem dX7_dearestNow_93 : decode cX7_dearestNow 93 = .ok (.iload 5, 2) := by decide +kernel
theorem dX7_dearestNow_95 : decode cX7_dearestNow 95 = .ok (.goto 4, 3) := by decide +kernel
theorem dX7_dearestNow_98 : decode cX7_dearestNow 98 = .ok (.iload_n 2, 1) := by decide +kernel
theorem dX7_dearestNow_99 : decode cX7_dearestNow 99 = .ok (.istore_n 2, 1) := by decide +kernel
theorem dX7_dearestNow_100 : decode cX7_dearestNow 100 = .ok (.iload 4, 2) := by decide +kernel
theorem dX7_dearestNow_102 : decode cX7_dearestNow 102 = .ok (.ifCond .ne 9, 3) := by decide +kernel
theorem dX7_dearestNow_105 : decode cX7_dearestNow 105 = .ok (.iload_n 2, 1) := by decide +kernel
theorem dX7_dearestNow_106 : decode cX7_dearestNow 106 = .ok (.iload 5, 2) := by decide +kernel
theorem dX7_dearestNow_108 : decode cX7_dearestNow 108 = .ok (.if_icmp .ne 8, 3) := by decide +kernel
theorem dX7_dearestNow_111 : decode cX7_dearestNow 111 = .ok (.iload 6, 2) := by decide +kernel
theorem dX7_dearestNow_113 : decode cX7_dearestNow 113 = .ok (.goto 4, 3) := by decide +kernel
theorem dX7_dearestNow_116 : decode cX7_dearestNow 116 = .ok (.iload_n 3, 1) := by decide +kernel
theorem dX7_dearestNow_117 : decode cX7_dearestNow 117 = .ok (.istore_n 3, 1) := by decide +kernel
theorem dX7_dearestNow_118 : decode cX7_dearestNow 118 = .ok (.iinc 5 1, 3) := by decide +kernel
theorem dX7_dearestNow_121 : decode cX7_dearestNow 121 = .ok (.goto (-106), 3) := by decide +kernel
theorem dX7_dearestNow_124 : decode cX7_dearestNow 124 = .ok (.iload_n 1, 1) := by decide +kernel
theorem dX7_dearestNow_125 : decode cX7_dearestNow 125 = .ok (.bipush (-3), 2) := by decide +kernel
theorem dX7_dearestNow_127 : decode cX7_dearestNow 127 = .ok (.if_icmp .ne 8, 3) := by decide +kernel
theorem dX7_dearestNow_130 : decode cX7_dearestNow 130 = .ok (.bipush (-3), 2) := by decide +kernel
theorem dX7_dearestNow_132 : decode cX7_dearestNow 132 = .ok (.goto 4, 3) := by decide +kernel
theorem dX7_dearestNow_135 : decode cX7_dearestNow 135 = .ok (.iload_n 2, 1) := by decide +kernel
theorem dX7_dearestNow_136 : decode cX7_dearestNow 136 = .ok (.ireturn, 1) := by decide +kernel
theorem dX7_dearest_0 : decode cX7_dearest 0 = .ok (.aload_n 0, 1) := by decide +kernel
theorem dX7_dearest_1 : decode cX7_dearest 1 = .ok (.invokevirtual 183, 3) := by decide +kernel
theorem dX7_dearest_4 : decode cX7_dearest 4 = .ok (.ireturn, 1) := by decide +kernel
theorem dX7_gainOf_0 : decode cX7_gainOf 0 = .ok (.aload_n 0, 1) := by decide +kernel
theorem dX7_gainOf_1 : decode cX7_gainOf 1 = .ok (.aload_n 0, 1) := by decide +kernel
theorem dX7_gainOf_2 : decode cX7_gainOf 2 = .ok (.getfield 76, 3) := by decide +kernel
theorem dX7_gainOf_5 : decode cX7_gainOf 5 = .ok (.invokevirtual 157, 3) := by decide +kernel
theorem dX7_gainOf_8 : decode cX7_gainOf 8 = .ok (.istore_n 3, 1) := by decide +kernel
theorem dX7_gainOf_9 : decode cX7_gainOf 9 = .ok (.iload_n 3, 1) := by decide +kernel
theorem dX7_gainOf_10 : decode cX7_gainOf 10 = .ok (.iconst (-1), 1) := by decide +kernel
theorem dX7_gainOf_11 : decode cX7_gainOf 11 = .ok (.if_icmp .ne 9, 3) := by decide +kernel
theorem dX7_gainOf_14 : decode cX7_gainOf 14 = .ok (.bipush (-3), 2) := by decide +kernel
theorem dX7_gainOf_16 : decode cX7_gainOf 16 = .ok (.invokestatic 160, 3) := by decide +kernel
theorem dX7_gainOf_19 : decode cX7_gainOf 19 = .ok (.lreturn, 1) := by decide +kernel
theorem dX7_gainOf_20 : decode cX7_gainOf 20 = .ok (.aload_n 0, 1) := by decide +kernel
theorem dX7_gainOf_21 : decode cX7_gainOf 21 = .ok (.aload_n 0, 1) := by decide +kernel
theorem dX7_gainOf_22 : decode cX7_gainOf 22 = .ok (.getfield 76, 3) := by decide +kernel
theorem dX7_gainOf_25 : decode cX7_gainOf 25 = .ok (.iconst 1, 1) := by decide +kernel
theorem dX7_gainOf_26 : decode cX7_gainOf 26 = .ok (.iload_n 1, 1) := by decide +kernel
theorem dX7_gainOf_27 : decode cX7_gainOf 27 = .ok (.ishl, 1) := by decide +kernel
theorem dX7_gainOf_28 : decode cX7_gainOf 28 = .ok (.ior, 1) := by decide +kernel
theorem dX7_gainOf_29 : decode cX7_gainOf 29 = .ok (.invokevirtual 157, 3) := by decide +kernel
theorem dX7_gainOf_32 : decode cX7_gainOf 32 = .ok (.istore 4, 2) := by decide +kernel
theorem dX7_gainOf_34 : decode cX7_gainOf 34 = .ok (.aload_n 0, 1) := by decide +kernel
theorem dX7_gainOf_35 : decode cX7_gainOf 35 = .ok (.getfield 36, 3) := by decide +kernel
theorem dX7_gainOf_38 : decode cX7_gainOf 38 = .ok (.iload_n 3, 1) := by decide +kernel
theorem dX7_gainOf_39 : decode cX7_gainOf 39 = .ok (.laload, 1) := by decide +kernel
theorem dX7_gainOf_40 : decode cX7_gainOf 40 = .ok (.aload_n 0, 1) := by decide +kernel
theorem dX7_gainOf_41 : decode cX7_gainOf 41 = .ok (.getfield 39, 3) := by decide +kernel
theorem dX7_gainOf_44 : decode cX7_gainOf 44 = .ok (.iload 4, 2) := by decide +kernel
theorem dX7_gainOf_46 : decode cX7_gainOf 46 = .ok (.laload, 1) := by decide +kernel
theorem dX7_gainOf_47 : decode cX7_gainOf 47 = .ok (.lmul, 1) := by decide +kernel
theorem dX7_gainOf_48 : decode cX7_gainOf 48 = .ok (.aload_n 0, 1) := by decide +kernel
theorem dX7_gainOf_49 : decode cX7_gainOf 49 = .ok (.getfield 36, 3) := by decide +kernel
theorem dX7_gainOf_52 : decode cX7_gainOf 52 = .ok (.iload 4, 2) := by decide +kernel
theorem dX7_gainOf_54 : decode cX7_gainOf 54 = .ok (.laload, 1) := by decide +kernel
theorem dX7_gainOf_55 : decode cX7_gainOf 55 = .ok (.aload_n 0, 1) := by decide +kernel
theorem dX7_gainOf_56 : decode cX7_gainOf 56 = .ok (.getfield 39, 3) := by decide +kernel
theorem dX7_gainOf_59 : decode cX7_gainOf 59 = .ok (.iload_n 3, 1) := by decide +kernel
theorem dX7_gainOf_60 : decode cX7_gainOf 60 = .ok (.laload, 1) := by decide +kernel
theorem dX7_gainOf_61 : decode cX7_gainOf 61 = .ok (.lmul, 1) := by decide +kernel
theorem dX7_gainOf_62 : decode cX7_gainOf 62 = .ok (.lsub, 1) := by decide +kernel
theorem dX7_gainOf_63 : decode cX7_gainOf 63 = .ok (.aload_n 0, 1) := by decide +kernel
theorem dX7_gainOf_64 : decode cX7_gainOf 64 = .ok (.getfield 39, 3) := by decide +kernel
theorem dX7_gainOf_67 : decode cX7_gainOf 67 = .ok (.iload_n 3, 1) := by decide +kernel
theorem dX7_gainOf_68 : decode cX7_gainOf 68 = .ok (.laload, 1) := by decide +kernel
theorem dX7_gainOf_69 : decode cX7_gainOf 69 = .ok (.aload_n 0, 1) := by decide +kernel
theorem dX7_gainOf_70 : decode cX7_gainOf 70 = .ok (.getfield 39, 3) := by decide +kernel
theorem dX7_gainOf_73 : decode cX7_gainOf 73 = .ok (.iload 4, 2) := by decide +kernel
theorem dX7_gainOf_75 : decode cX7_gainOf 75 = .ok (.laload, 1) := by decide +kernel
theorem dX7_gainOf_76 : decode cX7_gainOf 76 = .ok (.lmul, 1) := by decide +kernel
theorem dX7_gainOf_77 : decode cX7_gainOf 77 = .ok (.iload_n 2, 1) := by decide +kernel
theorem dX7_gainOf_78 : decode cX7_gainOf 78 = .ok (.invokestatic 138, 3) := by decide +kernel
theorem dX7_gainOf_81 : decode cX7_gainOf 81 = .ok (.lreturn, 1) := by decide +kernel
theorem dX7_gain_0 : decode cX7_gain 0 = .ok (.aload_n 0, 1) := by decide +kernel
theorem dX7_gain_1 : decode cX7_gain 1 = .ok (.iload_n 1, 1) := by decide +kernel
theorem dX7_gain_2 : decode cX7_gain 2 = .ok (.invokevirtual 72, 3) := by decide +kernel
theorem dX7_gain_5 : decode cX7_gain 5 = .ok (.ifCond .eq 29, 3) := by decide +kernel
theorem dX7_gain_8 : decode cX7_gain 8 = .ok (.aload_n 0, 1) := by decide +kernel
theorem dX7_gain_9 : decode cX7_gain 9 = .ok (.iload_n 1, 1) := by decide +kernel
theorem dX7_gain_10 : decode cX7_gain 10 = .ok (.invokevirtual 174, 3) := by decide +kernel
theorem dX7_gain_13 : decode cX7_gain 13 = .ok (.ifCond .ne 21, 3) := by decide +kernel
theorem dX7_gain_16 : decode cX7_gain 16 = .ok (.iload_n 2, 1) := by decide +kernel
theorem dX7_gain_17 : decode cX7_gain 17 = .ok (.iconst 0, 1) := by decide +kernel
theorem dX7_gain_18 : decode cX7_gain 18 = .ok (.iconst 1, 1) := by decide +kernel
theorem dX7_gain_19 : decode cX7_gain 19 = .ok (.invokestatic 64, 3) := by decide +kernel
theorem dX7_gain_22 : decode cX7_gain 22 = .ok (.ifCond .eq 12, 3) := by decide +kernel
theorem dX7_gain_25 : decode cX7_gain 25 = .ok (.aload_n 0, 1) := by decide +kernel
theorem dX7_gain_26 : decode cX7_gain 26 = .ok (.iload_n 1, 1) := by decide +kernel
theorem dX7_gain_27 : decode cX7_gain 27 = .ok (.iload_n 2, 1) := by decide +kernel
theorem dX7_gain_28 : decode cX7_gain 28 = .ok (.invokevirtual 186, 3) := by decide +kernel
theorem dX7_gain_31 : decode cX7_gain 31 = .ok (.goto 8, 3) := by decide +kernel
theorem dX7_gain_34 : decode cX7_gain 34 = .ok (.bipush (-2), 2) := by decide +kernel
theorem dX7_gain_36 : decode cX7_gain 36 = .ok (.invokestatic 160, 3) := by decide +kernel
theorem dX7_gain_39 : decode cX7_gain 39 = .ok (.lreturn, 1) := by decide +kernel
theorem dX7_growing_0 : decode cX7_growing 0 = .ok (.aload_n 0, 1) := by decide +kernel
theorem dX7_growing_1 : decode cX7_growing 1 = .ok (.aload_n 0, 1) := by decide +kernel
theorem dX7_growing_2 : decode cX7_growing 2 = .ok (.getfield 76, 3) := by decide +kernel
theorem dX7_growing_5 : decode cX7_growing 5 = .ok (.invokevirtual 157, 3) := by decide +kernel
theorem dX7_growing_8 : decode cX7_growing 8 = .ok (.istore_n 1, 1) := by decide +kernel
theorem dX7_growing_9 : decode cX7_growing 9 = .ok (.iconst (-1), 1) := by decide +kernel
theorem dX7_growing_10 : decode cX7_growing 10 = .ok (.istore_n 2, 1) := by decide +kernel
theorem dX7_growing_11 : decode cX7_growing 11 = .ok (.iconst 0, 1) := by decide +kernel
theorem dX7_growing_12 : decode cX7_growing 12 = .ok (.istore_n 3, 1) := by decide +kernel
theorem dX7_growing_13 : decode cX7_growing 13 = .ok (.iload_n 3, 1) := by decide +kernel
theorem dX7_growing_14 : decode cX7_growing 14 = .ok (.aload_n 0, 1) := by decide +kernel
theorem dX7_growing_15 : decode cX7_growing 15 = .ok (.invokevirtual 68, 3) := by decide +kernel
theorem dX7_growing_18 : decode cX7_growing 18 = .ok (.if_icmp .ge 68, 3) := by decide +kernel
theorem dX7_growing_21 : decode cX7_growing 21 = .ok (.aload_n 0, 1) := by decide +kernel
theorem dX7_growing_22 : decode cX7_growing 22 = .ok (.iload_n 3, 1) := by decide +kernel
theorem dX7_growing_23 : decode cX7_growing 23 = .ok (.invokevirtual 174, 3) := by decide +kernel
theorem dX7_growing_26 : decode cX7_growing 26 = .ok (.ifCond .eq 7, 3) := by decide +kernel
theorem dX7_growing_29 : decode cX7_growing 29 = .ok (.iload_n 1, 1) := by decide +kernel
theorem dX7_growing_30 : decode cX7_growing 30 = .ok (.goto 15, 3) := by decide +kernel
theorem dX7_growing_33 : decode cX7_growing 33 = .ok (.aload_n 0, 1) := by decide +kernel
theorem dX7_growing_34 : decode cX7_growing 34 = .ok (.aload_n 0, 1) := by decide +kernel
theorem dX7_growing_35 : decode cX7_growing 35 = .ok (.getfield 76, 3) := by decide +kernel
theorem dX7_growing_38 : decode cX7_growing 38 = .ok (.iconst 1, 1) := by decide +kernel
theorem dX7_growing_39 : decode cX7_growing 39 = .ok (.iload_n 3, 1) := by decide +kernel
theorem dX7_growing_40 : decode cX7_growing 40 = .ok (.ishl, 1) := by decide +kernel
theorem dX7_growing_41 : decode cX7_growing 41 = .ok (.ior, 1) := by decide +kernel
theorem dX7_growing_42 : decode cX7_growing 42 = .ok (.invokevirtual 157, 3) := by decide +kernel
theorem dX7_growing_45 : decode cX7_growing 45 = .ok (.istore 4, 2) := by decide +kernel
theorem dX7_growing_47 : decode cX7_growing 47 = .ok (.aload_n 0, 1) := by decide +kernel
theorem dX7_growing_48 : decode cX7_growing 48 = .ok (.iload 4, 2) := by decide +kernel
theorem dX7_growing_50 : decode cX7_growing 50 = .ok (.iload_n 1, 1) := by decide +kernel
theorem dX7_growing_51 : decode cX7_growing 51 = .ok (.invokevirtual 154, 3) := by decide +kernel
theorem dX7_growing_54 : decode cX7_growing 54 = .ok (.ifCond .eq 7, 3) := by decide +kernel
theorem dX7_growing_57 : decode cX7_growing 57 = .ok (.iload_n 3, 1) := by decide +kernel
theorem dX7_growing_58 : decode cX7_growing 58 = .ok (.goto 4, 3) := by decide +kernel
theorem dX7_growing_61 : decode cX7_growing 61 = .ok (.iload_n 2, 1) := by decide +kernel
theorem dX7_growing_62 : decode cX7_growing 62 = .ok (.istore_n 2, 1) := by decide +kernel
theorem dX7_growing_63 : decode cX7_growing 63 = .ok (.aload_n 0, 1) := by decide +kernel
theorem dX7_growing_64 : decode cX7_growing 64 = .ok (.iload 4, 2) := by decide +kernel
theorem dX7_growing_66 : decode cX7_growing 66 = .ok (.iload_n 1, 1) := by decide +kernel
theorem dX7_growing_67 : decode cX7_growing 67 = .ok (.invokevirtual 154, 3) := by decide +kernel
theorem dX7_growing_70 : decode cX7_growing 70 = .ok (.ifCond .eq 8, 3) := by decide +kernel
theorem dX7_growing_73 : decode cX7_growing 73 = .ok (.iload 4, 2) := by decide +kernel
theorem dX7_growing_75 : decode cX7_growing 75 = .ok (.goto 4, 3) := by decide +kernel
theorem dX7_growing_78 : decode cX7_growing 78 = .ok (.iload_n 1, 1) := by decide +kernel
theorem dX7_growing_79 : decode cX7_growing 79 = .ok (.istore_n 1, 1) := by decide +kernel
theorem dX7_growing_80 : decode cX7_growing 80 = .ok (.iinc 3 1, 3) := by decide +kernel
theorem dX7_growing_83 : decode cX7_growing 83 = .ok (.goto (-70), 3) := by decide +kernel
theorem dX7_growing_86 : decode cX7_growing 86 = .ok (.iload_n 2, 1) := by decide +kernel
theorem dX7_growing_87 : decode cX7_growing 87 = .ok (.ireturn, 1) := by decide +kernel
theorem dX7_grow_0 : decode cX7_grow 0 = .ok (.aload_n 0, 1) := by decide +kernel
theorem dX7_grow_1 : decode cX7_grow 1 = .ok (.aload_n 0, 1) := by decide +kernel
theorem dX7_grow_2 : decode cX7_grow 2 = .ok (.getfield 76, 3) := by decide +kernel
theorem dX7_grow_5 : decode cX7_grow 5 = .ok (.invokevirtual 157, 3) := by decide +kernel
theorem dX7_grow_8 : decode cX7_grow 8 = .ok (.iconst (-1), 1) := by decide +kernel
theorem dX7_grow_9 : decode cX7_grow 9 = .ok (.if_icmp .ne 6, 3) := by decide +kernel
theorem dX7_grow_12 : decode cX7_grow 12 = .ok (.bipush (-3), 2) := by decide +kernel
theorem dX7_grow_14 : decode cX7_grow 14 = .ok (.ireturn, 1) := by decide +kernel
theorem dX7_grow_15 : decode cX7_grow 15 = .ok (.iconst 0, 1) := by decide +kernel
theorem dX7_grow_16 : decode cX7_grow 16 = .ok (.istore_n 1, 1) := by decide +kernel
theorem dX7_grow_17 : decode cX7_grow 17 = .ok (.aload_n 0, 1) := by decide +kernel
theorem dX7_grow_18 : decode cX7_grow 18 = .ok (.invokevirtual 189, 3) := by decide +kernel
theorem dX7_grow_21 : decode cX7_grow 21 = .ok (.istore_n 2, 1) := by decide +kernel
theorem dX7_grow_22 : decode cX7_grow 22 = .ok (.iload_n 2, 1) := by decide +kernel
theorem dX7_grow_23 : decode cX7_grow 23 = .ok (.iconst (-1), 1) := by decide +kernel
theorem dX7_grow_24 : decode cX7_grow 24 = .ok (.if_icmp .eq 26, 3) := by decide +kernel
theorem dX7_grow_27 : decode cX7_grow 27 = .ok (.aload_n 0, 1) := by decide +kernel
theorem dX7_grow_28 : decode cX7_grow 28 = .ok (.dup, 1) := by decide +kernel
theorem dX7_grow_29 : decode cX7_grow 29 = .ok (.getfield 76, 3) := by decide +kernel
theorem dX7_grow_32 : decode cX7_grow 32 = .ok (.iconst 1, 1) := by decide +kernel
theorem dX7_grow_33 : decode cX7_grow 33 = .ok (.iload_n 2, 1) := by decide +kernel
theorem dX7_grow_34 : decode cX7_grow 34 = .ok (.ishl, 1) := by decide +kernel
theorem dX7_grow_35 : decode cX7_grow 35 = .ok (.ior, 1) := by decide +kernel
theorem dX7_grow_36 : decode cX7_grow 36 = .ok (.putfield 76, 3) := by decide +kernel
theorem dX7_grow_39 : decode cX7_grow 39 = .ok (.iinc 1 1, 3) := by decide +kernel
theorem dX7_grow_42 : decode cX7_grow 42 = .ok (.aload_n 0, 1) := by decide +kernel
theorem dX7_grow_43 : decode cX7_grow 43 = .ok (.invokevirtual 189, 3) := by decide +kernel
theorem dX7_grow_46 : decode cX7_grow 46 = .ok (.istore_n 2, 1) := by decide +kernel
theorem dX7_grow_47 : decode cX7_grow 47 = .ok (.goto (-25), 3) := by decide +kernel
theorem dX7_grow_50 : decode cX7_grow 50 = .ok (.iload_n 1, 1) := by decide +kernel
theorem dX7_grow_51 : decode cX7_grow 51 = .ok (.ireturn, 1) := by decide +kernel
theorem dX7_prune_0 : decode cX7_prune 0 = .ok (.aload_n 0, 1) := by decide +kernel
theorem dX7_prune_1 : decode cX7_prune 1 = .ok (.aload_n 0, 1) := by decide +kernel
theorem dX7_prune_2 : decode cX7_prune 2 = .ok (.getfield 76, 3) := by decide +kernel
theorem dX7_prune_5 : decode cX7_prune 5 = .ok (.invokevirtual 157, 3) := by decide +kernel
theorem dX7_prune_8 : decode cX7_prune 8 = .ok (.istore_n 1, 1) := by decide +kernel
theorem dX7_prune_9 : decode cX7_prune 9 = .ok (.iload_n 1, 1) := by decide +kernel
theorem dX7_prune_10 : decode cX7_prune 10 = .ok (.iconst (-1), 1) := by decide +kernel
theorem dX7_prune_11 : decode cX7_prune 11 = .ok (.if_icmp .ne 6, 3) := by decide +kernel
theorem dX7_prune_14 : decode cX7_prune 14 = .ok (.bipush (-3), 2) := by decide +kernel
theorem dX7_prune_16 : decode cX7_prune 16 = .ok (.ireturn, 1) := by decide +kernel
theorem dX7_prune_17 : decode cX7_prune 17 = .ok (.aload_n 0, 1) := by decide +kernel
theorem dX7_prune_18 : decode cX7_prune 18 = .ok (.getfield 76, 3) := by decide +kernel
theorem dX7_prune_21 : decode cX7_prune 21 = .ok (.invokestatic 145, 3) := by decide +kernel
theorem dX7_prune_24 : decode cX7_prune 24 = .ok (.istore_n 2, 1) := by decide +kernel
theorem dX7_prune_25 : decode cX7_prune 25 = .ok (.aload_n 0, 1) := by decide +kernel
theorem dX7_prune_26 : decode cX7_prune 26 = .ok (.iload_n 1, 1) := by decide +kernel
theorem dX7_prune_27 : decode cX7_prune 27 = .ok (.putfield 76, 3) := by decide +kernel
theorem dX7_prune_30 : decode cX7_prune 30 = .ok (.iload_n 2, 1) := by decide +kernel
theorem dX7_prune_31 : decode cX7_prune 31 = .ok (.iload_n 1, 1) := by decide +kernel
theorem dX7_prune_32 : decode cX7_prune 32 = .ok (.invokestatic 145, 3) := by decide +kernel
theorem dX7_prune_35 : decode cX7_prune 35 = .ok (.isub, 1) := by decide +kernel
theorem dX7_prune_36 : decode cX7_prune 36 = .ok (.ireturn, 1) := by decide +kernel
theorem dX7_wouldBe_0 : decode cX7_wouldBe 0 = .ok (.aload_n 0, 1) := by decide +kernel
theorem dX7_wouldBe_1 : decode cX7_wouldBe 1 = .ok (.getfield 19, 3) := by decide +kernel
theorem dX7_wouldBe_4 : decode cX7_wouldBe 4 = .ok (.iload_n 1, 1) := by decide +kernel
theorem dX7_wouldBe_5 : decode cX7_wouldBe 5 = .ok (.iaload, 1) := by decide +kernel
theorem dX7_wouldBe_6 : decode cX7_wouldBe 6 = .ok (.istore 4, 2) := by decide +kernel
theorem dX7_wouldBe_8 : decode cX7_wouldBe 8 = .ok (.aload_n 0, 1) := by decide +kernel
theorem dX7_wouldBe_9 : decode cX7_wouldBe 9 = .ok (.getfield 19, 3) := by decide +kernel
theorem dX7_wouldBe_12 : decode cX7_wouldBe 12 = .ok (.iload_n 1, 1) := by decide +kernel
theorem dX7_wouldBe_13 : decode cX7_wouldBe 13 = .ok (.iload_n 2, 1) := by decide +kernel
theorem dX7_wouldBe_14 : decode cX7_wouldBe 14 = .ok (.iastore, 1) := by decide +kernel
theorem dX7_wouldBe_15 : decode cX7_wouldBe 15 = .ok (.aload_n 0, 1) := by decide +kernel
theorem dX7_wouldBe_16 : decode cX7_wouldBe 16 = .ok (.iconst 0, 1) := by decide +kernel
theorem dX7_wouldBe_17 : decode cX7_wouldBe 17 = .ok (.putfield 90, 3) := by decide +kernel
theorem dX7_wouldBe_20 : decode cX7_wouldBe 20 = .ok (.aload_n 0, 1) := by decide +kernel
theorem dX7_wouldBe_21 : decode cX7_wouldBe 21 = .ok (.aload_n 0, 1) := by decide +kernel
theorem dX7_wouldBe_22 : decode cX7_wouldBe 22 = .ok (.getfield 76, 3) := by decide +kernel
theorem dX7_wouldBe_25 : decode cX7_wouldBe 25 = .ok (.iload_n 3, 1) := by decide +kernel
theorem dX7_wouldBe_26 : decode cX7_wouldBe 26 = .ok (.invokevirtual 164, 3) := by decide +kernel
theorem dX7_wouldBe_29 : decode cX7_wouldBe 29 = .ok (.lstore 5, 2) := by decide +kernel
theorem dX7_wouldBe_31 : decode cX7_wouldBe 31 = .ok (.aload_n 0, 1) := by decide +kernel
theorem dX7_wouldBe_32 : decode cX7_wouldBe 32 = .ok (.getfield 19, 3) := by decide +kernel
theorem dX7_wouldBe_35 : decode cX7_wouldBe 35 = .ok (.iload_n 1, 1) := by decide +kernel
theorem dX7_wouldBe_36 : decode cX7_wouldBe 36 = .ok (.iload 4, 2) := by decide +kernel
theorem dX7_wouldBe_38 : decode cX7_wouldBe 38 = .ok (.iastore, 1) := by decide +kernel
theorem dX7_wouldBe_39 : decode cX7_wouldBe 39 = .ok (.aload_n 0, 1) := by decide +kernel
theorem dX7_wouldBe_40 : decode cX7_wouldBe 40 = .ok (.iconst 0, 1) := by decide +kernel
theorem dX7_wouldBe_41 : decode cX7_wouldBe 41 = .ok (.putfield 90, 3) := by decide +kernel
theorem dX7_wouldBe_44 : decode cX7_wouldBe 44 = .ok (.lload 5, 2) := by decide +kernel
theorem dX7_wouldBe_46 : decode cX7_wouldBe 46 = .ok (.lreturn, 1) := by decide +kernel
theorem dX7_would_0 : decode cX7_would 0 = .ok (.aload_n 0, 1) := by decide +kernel
theorem dX7_would_1 : decode cX7_would 1 = .ok (.iload_n 1, 1) := by decide +kernel
theorem dX7_would_2 : decode cX7_would 2 = .ok (.invokevirtual 94, 3) := by decide +kernel
theorem dX7_would_5 : decode cX7_would 5 = .ok (.ifCond .eq 48, 3) := by decide +kernel
theorem dX7_would_8 : decode cX7_would 8 = .ok (.iload_n 2, 1) := by decide +kernel
theorem dX7_would_9 : decode cX7_would 9 = .ok (.iconst 0, 1) := by decide +kernel
theorem dX7_would_10 : decode cX7_would 10 = .ok (.iconst 1, 1) := by decide +kernel
theorem dX7_would_11 : decode cX7_would 11 = .ok (.invokestatic 64, 3) := by decide +kernel
theorem dX7_would_14 : decode cX7_would 14 = .ok (.ifCond .eq 39, 3) := by decide +kernel
theorem dX7_would_17 : decode cX7_would 17 = .ok (.iload_n 3, 1) := by decide +kernel
theorem dX7_would_18 : decode cX7_would 18 = .ok (.bipush (-9), 2) := by decide +kernel
theorem dX7_would_20 : decode cX7_would 20 = .ok (.bipush 9, 2) := by decide +kernel
theorem dX7_would_22 : decode cX7_would 22 = .ok (.invokestatic 64, 3) := by decide +kernel
theorem dX7_would_25 : decode cX7_would 25 = .ok (.ifCond .eq 28, 3) := by decide +kernel
theorem dX7_would_28 : decode cX7_would 28 = .ok (.iload 4, 2) := by decide +kernel
theorem dX7_would_30 : decode cX7_would 30 = .ok (.iconst 0, 1) := by decide +kernel
theorem dX7_would_31 : decode cX7_would 31 = .ok (.iconst 1, 1) := by decide +kernel
theorem dX7_would_32 : decode cX7_would 32 = .ok (.invokestatic 64, 3) := by decide +kernel
theorem dX7_would_35 : decode cX7_would 35 = .ok (.ifCond .eq 18, 3) := by decide +kernel
theorem dX7_would_38 : decode cX7_would 38 = .ok (.aload_n 0, 1) := by decide +kernel
theorem dX7_would_39 : decode cX7_would 39 = .ok (.iconst 2, 1) := by decide +kernel
theorem dX7_would_40 : decode cX7_would 40 = .ok (.iload_n 1, 1) := by decide +kernel
theorem dX7_would_41 : decode cX7_would 41 = .ok (.imul, 1) := by decide +kernel
theorem dX7_would_42 : decode cX7_would 42 = .ok (.iload_n 2, 1) := by decide +kernel
theorem dX7_would_43 : decode cX7_would 43 = .ok (.iadd, 1) := by decide +kernel
theorem dX7_would_44 : decode cX7_would 44 = .ok (.iload_n 3, 1) := by decide +kernel
theorem dX7_would_45 : decode cX7_would 45 = .ok (.iload 4, 2) := by decide +kernel
theorem dX7_would_47 : decode cX7_would 47 = .ok (.invokevirtual 192, 3) := by decide +kernel
theorem dX7_would_50 : decode cX7_would 50 = .ok (.goto 8, 3) := by decide +kernel
theorem dX7_would_53 : decode cX7_would 53 = .ok (.bipush (-2), 2) := by decide +kernel
theorem dX7_would_55 : decode cX7_would 55 = .ok (.invokestatic 160, 3) := by decide +kernel
theorem dX7_would_58 : decode cX7_would 58 = .ok (.lreturn, 1) := by decide +kernel
theorem dX7_shift_0 : decode cX7_shift 0 = .ok (.aload_n 0, 1) := by decide +kernel
theorem dX7_shift_1 : decode cX7_shift 1 = .ok (.iload_n 1, 1) := by decide +kernel
theorem dX7_shift_2 : decode cX7_shift 2 = .ok (.invokevirtual 94, 3) := by decide +kernel
theorem dX7_shift_5 : decode cX7_shift 5 = .ok (.ifCond .eq 25, 3) := by decide +kernel
theorem dX7_shift_8 : decode cX7_shift 8 = .ok (.iload_n 2, 1) := by decide +kernel
theorem dX7_shift_9 : decode cX7_shift 9 = .ok (.iconst 0, 1) := by decide +kernel
theorem dX7_shift_10 : decode cX7_shift 10 = .ok (.iconst 1, 1) := by decide +kernel
theorem dX7_shift_11 : decode cX7_shift 11 = .ok (.invokestatic 64, 3) := by decide +kernel
theorem dX7_shift_14 : decode cX7_shift 14 = .ok (.ifCond .eq 16, 3) := by decide +kernel
theorem dX7_shift_17 : decode cX7_shift 17 = .ok (.iload_n 3, 1) := by decide +kernel
theorem dX7_shift_18 : decode cX7_shift 18 = .ok (.sipush (-999), 3) := by decide +kernel
theorem dX7_shift_21 : decode cX7_shift 21 = .ok (.sipush 999, 3) := by decide +kernel
theorem dX7_shift_24 : decode cX7_shift 24 = .ok (.invokestatic 64, 3) := by decide +kernel
theorem dX7_shift_27 : decode cX7_shift 27 = .ok (.ifCond .ne 6, 3) := by decide +kernel
theorem dX7_shift_30 : decode cX7_shift 30 = .ok (.ldc 97, 2) := by decide +kernel
theorem dX7_shift_32 : decode cX7_shift 32 = .ok (.ireturn, 1) := by decide +kernel
theorem dX7_shift_33 : decode cX7_shift 33 = .ok (.aload_n 0, 1) := by decide +kernel
theorem dX7_shift_34 : decode cX7_shift 34 = .ok (.getfield 22, 3) := by decide +kernel
theorem dX7_shift_37 : decode cX7_shift 37 = .ok (.iconst 2, 1) := by decide +kernel
theorem dX7_shift_38 : decode cX7_shift 38 = .ok (.iload_n 1, 1) := by decide +kernel
theorem dX7_shift_39 : decode cX7_shift 39 = .ok (.imul, 1) := by decide +kernel
theorem dX7_shift_40 : decode cX7_shift 40 = .ok (.iload_n 2, 1) := by decide +kernel
theorem dX7_shift_41 : decode cX7_shift 41 = .ok (.iadd, 1) := by decide +kernel
theorem dX7_shift_42 : decode cX7_shift 42 = .ok (.iaload, 1) := by decide +kernel
theorem dX7_shift_43 : decode cX7_shift 43 = .ok (.istore 4, 2) := by decide +kernel
theorem dX7_shift_45 : decode cX7_shift 45 = .ok (.aload_n 0, 1) := by decide +kernel
theorem dX7_shift_46 : decode cX7_shift 46 = .ok (.getfield 22, 3) := by decide +kernel
theorem dX7_shift_49 : decode cX7_shift 49 = .ok (.iconst 2, 1) := by decide +kernel
theorem dX7_shift_50 : decode cX7_shift 50 = .ok (.iload_n 1, 1) := by decide +kernel
theorem dX7_shift_51 : decode cX7_shift 51 = .ok (.imul, 1) := by decide +kernel
theorem dX7_shift_52 : decode cX7_shift 52 = .ok (.iload_n 2, 1) := by decide +kernel
theorem dX7_shift_53 : decode cX7_shift 53 = .ok (.iadd, 1) := by decide +kernel
theorem dX7_shift_54 : decode cX7_shift 54 = .ok (.iload_n 3, 1) := by decide +kernel
theorem dX7_shift_55 : decode cX7_shift 55 = .ok (.iastore, 1) := by decide +kernel
theorem dX7_shift_56 : decode cX7_shift 56 = .ok (.iload 4, 2) := by decide +kernel
theorem dX7_shift_58 : decode cX7_shift 58 = .ok (.ireturn, 1) := by decide +kernel
theorem dX7_shiftAt_0 : decode cX7_shiftAt 0 = .ok (.aload_n 0, 1) := by decide +kernel
theorem dX7_shiftAt_1 : decode cX7_shiftAt 1 = .ok (.iload_n 1, 1) := by decide +kernel
theorem dX7_shiftAt_2 : decode cX7_shiftAt 2 = .ok (.invokevirtual 131, 3) := by decide +kernel
theorem dX7_shiftAt_5 : decode cX7_shiftAt 5 = .ok (.ifCond .eq 12, 3) := by decide +kernel
theorem dX7_shiftAt_8 : decode cX7_shiftAt 8 = .ok (.aload_n 0, 1) := by decide +kernel
theorem dX7_shiftAt_9 : decode cX7_shiftAt 9 = .ok (.getfield 22, 3) := by decide +kernel
theorem dX7_shiftAt_12 : decode cX7_shiftAt 12 = .ok (.iload_n 1, 1) := by decide +kernel
theorem dX7_shiftAt_13 : decode cX7_shiftAt 13 = .ok (.iaload, 1) := by decide +kernel
theorem dX7_shiftAt_14 : decode cX7_shiftAt 14 = .ok (.goto 4, 3) := by decide +kernel
theorem dX7_shiftAt_17 : decode cX7_shiftAt 17 = .ok (.iconst 0, 1) := by decide +kernel
theorem dX7_shiftAt_18 : decode cX7_shiftAt 18 = .ok (.ireturn, 1) := by decide +kernel
theorem dX7_stretchOf_0 : decode cX7_stretchOf 0 = .ok (.iconst 0, 1) := by decide +kernel
theorem dX7_stretchOf_1 : decode cX7_stretchOf 1 = .ok (.istore_n 2, 1) := by decide +kernel
theorem dX7_stretchOf_2 : decode cX7_stretchOf 2 = .ok (.iconst 0, 1) := by decide +kernel
theorem dX7_stretchOf_3 : decode cX7_stretchOf 3 = .ok (.istore_n 3, 1) := by decide +kernel
theorem dX7_stretchOf_4 : decode cX7_stretchOf 4 = .ok (.iload_n 3, 1) := by decide +kernel
theorem dX7_stretchOf_5 : decode cX7_stretchOf 5 = .ok (.iconst 2, 1) := by decide +kernel
theorem dX7_stretchOf_6 : decode cX7_stretchOf 6 = .ok (.if_icmp .ge 44, 3) := by decide +kernel
theorem dX7_stretchOf_9 : decode cX7_stretchOf 9 = .ok (.iload_n 2, 1) := by decide +kernel
theorem dX7_stretchOf_10 : decode cX7_stretchOf 10 = .ok (.aload_n 0, 1) := by decide +kernel
theorem dX7_stretchOf_11 : decode cX7_stretchOf 11 = .ok (.iconst 2, 1) := by decide +kernel
theorem dX7_stretchOf_12 : decode cX7_stretchOf 12 = .ok (.iload_n 1, 1) := by decide +kernel
theorem dX7_stretchOf_13 : decode cX7_stretchOf 13 = .ok (.invokestatic 79, 3) := by decide +kernel
theorem dX7_stretchOf_16 : decode cX7_stretchOf 16 = .ok (.imul, 1) := by decide +kernel
theorem dX7_stretchOf_17 : decode cX7_stretchOf 17 = .ok (.iload_n 3, 1) := by decide +kernel
theorem dX7_stretchOf_18 : decode cX7_stretchOf 18 = .ok (.iadd, 1) := by decide +kernel
theorem dX7_stretchOf_19 : decode cX7_stretchOf 19 = .ok (.invokevirtual 196, 3) := by decide +kernel
theorem dX7_stretchOf_22 : decode cX7_stretchOf 22 = .ok (.aload_n 0, 1) := by decide +kernel
theorem dX7_stretchOf_23 : decode cX7_stretchOf 23 = .ok (.iconst 2, 1) := by decide +kernel
theorem dX7_stretchOf_24 : decode cX7_stretchOf 24 = .ok (.iload_n 1, 1) := by decide +kernel
theorem dX7_stretchOf_25 : decode cX7_stretchOf 25 = .ok (.invokestatic 83, 3) := by decide +kernel
theorem dX7_stretchOf_28 : decode cX7_stretchOf 28 = .ok (.imul, 1) := by decide +kernel
theorem dX7_stretchOf_29 : decode cX7_stretchOf 29 = .ok (.iload_n 3, 1) := by decide +kernel
theorem dX7_stretchOf_30 : decode cX7_stretchOf 30 = .ok (.iadd, 1) := by decide +kernel
theorem dX7_stretchOf_31 : decode cX7_stretchOf 31 = .ok (.invokevirtual 196, 3) := by decide +kernel
theorem dX7_stretchOf_34 : decode cX7_stretchOf 34 = .ok (.isub, 1) := by decide +kernel
theorem dX7_stretchOf_35 : decode cX7_stretchOf 35 = .ok (.aload_n 0, 1) := by decide +kernel
theorem dX7_stretchOf_36 : decode cX7_stretchOf 36 = .ok (.iload_n 1, 1) := by decide +kernel
theorem dX7_stretchOf_37 : decode cX7_stretchOf 37 = .ok (.iload_n 3, 1) := by decide +kernel
theorem dX7_stretchOf_38 : decode cX7_stretchOf 38 = .ok (.invokevirtual 86, 3) := by decide +kernel
theorem dX7_stretchOf_41 : decode cX7_stretchOf 41 = .ok (.imul, 1) := by decide +kernel
theorem dX7_stretchOf_42 : decode cX7_stretchOf 42 = .ok (.iadd, 1) := by decide +kernel
theorem dX7_stretchOf_43 : decode cX7_stretchOf 43 = .ok (.istore_n 2, 1) := by decide +kernel
theorem dX7_stretchOf_44 : decode cX7_stretchOf 44 = .ok (.iinc 3 1, 3) := by decide +kernel
theorem dX7_stretchOf_47 : decode cX7_stretchOf 47 = .ok (.goto (-43), 3) := by decide +kernel
theorem dX7_stretchOf_50 : decode cX7_stretchOf 50 = .ok (.iload_n 2, 1) := by decide +kernel
theorem dX7_stretchOf_51 : decode cX7_stretchOf 51 = .ok (.ireturn, 1) := by decide +kernel
theorem dX7_stretch_0 : decode cX7_stretch 0 = .ok (.aload_n 0, 1) := by decide +kernel
theorem dX7_stretch_1 : decode cX7_stretch 1 = .ok (.iload_n 1, 1) := by decide +kernel
theorem dX7_stretch_2 : decode cX7_stretch 2 = .ok (.invokevirtual 72, 3) := by decide +kernel
theorem dX7_stretch_5 : decode cX7_stretch 5 = .ok (.ifCond .eq 28, 3) := by decide +kernel
theorem dX7_stretch_8 : decode cX7_stretch 8 = .ok (.iload_n 2, 1) := by decide +kernel
theorem dX7_stretch_9 : decode cX7_stretch 9 = .ok (.iconst 0, 1) := by decide +kernel
theorem dX7_stretch_10 : decode cX7_stretch 10 = .ok (.iconst 1, 1) := by decide +kernel
theorem dX7_stretch_11 : decode cX7_stretch 11 = .ok (.invokestatic 64, 3) := by decide +kernel
theorem dX7_stretch_14 : decode cX7_stretch 14 = .ok (.ifCond .eq 19, 3) := by decide +kernel
theorem dX7_stretch_17 : decode cX7_stretch 17 = .ok (.aload_n 0, 1) := by decide +kernel
theorem dX7_stretch_18 : decode cX7_stretch 18 = .ok (.iload_n 1, 1) := by decide +kernel
theorem dX7_stretch_19 : decode cX7_stretch 19 = .ok (.invokevirtual 199, 3) := by decide +kernel
theorem dX7_stretch_22 : decode cX7_stretch 22 = .ok (.i2l, 1) := by decide +kernel
theorem dX7_stretch_23 : decode cX7_stretch 23 = .ok (.ldc2_w 202, 3) := by decide +kernel
theorem dX7_stretch_26 : decode cX7_stretch 26 = .ok (.iload_n 2, 1) := by decide +kernel
theorem dX7_stretch_27 : decode cX7_stretch 27 = .ok (.invokestatic 138, 3) := by decide +kernel
theorem dX7_stretch_30 : decode cX7_stretch 30 = .ok (.goto 8, 3) := by decide +kernel
theorem dX7_stretch_33 : decode cX7_stretch 33 = .ok (.bipush (-2), 2) := by decide +kernel
theorem dX7_stretch_35 : decode cX7_stretch 35 = .ok (.invokestatic 160, 3) := by decide +kernel
theorem dX7_stretch_38 : decode cX7_stretch 38 = .ok (.lreturn, 1) := by decide +kernel
theorem dX7_workNow_0 : decode cX7_workNow 0 = .ok (.iconst 0, 1) := by decide +kernel
theorem dX7_workNow_1 : decode cX7_workNow 1 = .ok (.istore_n 1, 1) := by decide +kernel
theorem dX7_workNow_2 : decode cX7_workNow 2 = .ok (.iconst 0, 1) := by decide +kernel
theorem dX7_workNow_3 : decode cX7_workNow 3 = .ok (.istore_n 2, 1) := by decide +kernel
theorem dX7_workNow_4 : decode cX7_workNow 4 = .ok (.iload_n 2, 1) := by decide +kernel
theorem dX7_workNow_5 : decode cX7_workNow 5 = .ok (.bipush 10, 2) := by decide +kernel
theorem dX7_workNow_7 : decode cX7_workNow 7 = .ok (.if_icmp .ge 37, 3) := by decide +kernel
theorem dX7_workNow_10 : decode cX7_workNow 10 = .ok (.iload_n 1, 1) := by decide +kernel
theorem dX7_workNow_11 : decode cX7_workNow 11 = .ok (.aload_n 0, 1) := by decide +kernel
theorem dX7_workNow_12 : decode cX7_workNow 12 = .ok (.iload_n 2, 1) := by decide +kernel
theorem dX7_workNow_13 : decode cX7_workNow 13 = .ok (.invokevirtual 131, 3) := by decide +kernel
theorem dX7_workNow_16 : decode cX7_workNow 16 = .ok (.ifCond .eq 19, 3) := by decide +kernel
theorem dX7_workNow_19 : decode cX7_workNow 19 = .ok (.aload_n 0, 1) := by decide +kernel
theorem dX7_workNow_20 : decode cX7_workNow 20 = .ok (.getfield 19, 3) := by decide +kernel
theorem dX7_workNow_23 : decode cX7_workNow 23 = .ok (.iload_n 2, 1) := by decide +kernel
theorem dX7_workNow_24 : decode cX7_workNow 24 = .ok (.iaload, 1) := by decide +kernel
theorem dX7_workNow_25 : decode cX7_workNow 25 = .ok (.aload_n 0, 1) := by decide +kernel
theorem dX7_workNow_26 : decode cX7_workNow 26 = .ok (.getfield 22, 3) := by decide +kernel
theorem dX7_workNow_29 : decode cX7_workNow 29 = .ok (.iload_n 2, 1) := by decide +kernel
theorem dX7_workNow_30 : decode cX7_workNow 30 = .ok (.iaload, 1) := by decide +kernel
theorem dX7_workNow_31 : decode cX7_workNow 31 = .ok (.imul, 1) := by decide +kernel
theorem dX7_workNow_32 : decode cX7_workNow 32 = .ok (.goto 4, 3) := by decide +kernel
theorem dX7_workNow_35 : decode cX7_workNow 35 = .ok (.iconst 0, 1) := by decide +kernel
theorem dX7_workNow_36 : decode cX7_workNow 36 = .ok (.iadd, 1) := by decide +kernel
theorem dX7_workNow_37 : decode cX7_workNow 37 = .ok (.istore_n 1, 1) := by decide +kernel
theorem dX7_workNow_38 : decode cX7_workNow 38 = .ok (.iinc 2 1, 3) := by decide +kernel
theorem dX7_workNow_41 : decode cX7_workNow 41 = .ok (.goto (-37), 3) := by decide +kernel
theorem dX7_workNow_44 : decode cX7_workNow 44 = .ok (.iload_n 1, 1) := by decide +kernel
theorem dX7_workNow_45 : decode cX7_workNow 45 = .ok (.ireturn, 1) := by decide +kernel
theorem dX7_work_0 : decode cX7_work 0 = .ok (.iload_n 1, 1) := by decide +kernel
theorem dX7_work_1 : decode cX7_work 1 = .ok (.iconst 0, 1) := by decide +kernel
theorem dX7_work_2 : decode cX7_work 2 = .ok (.iconst 1, 1) := by decide +kernel
theorem dX7_work_3 : decode cX7_work 3 = .ok (.invokestatic 64, 3) := by decide +kernel
theorem dX7_work_6 : decode cX7_work 6 = .ok (.ifCond .eq 18, 3) := by decide +kernel
theorem dX7_work_9 : decode cX7_work 9 = .ok (.aload_n 0, 1) := by decide +kernel
theorem dX7_work_10 : decode cX7_work 10 = .ok (.invokevirtual 204, 3) := by decide +kernel
theorem dX7_work_13 : decode cX7_work 13 = .ok (.i2l, 1) := by decide +kernel
theorem dX7_work_14 : decode cX7_work 14 = .ok (.ldc2_w 202, 3) := by decide +kernel
theorem dX7_work_17 : decode cX7_work 17 = .ok (.iload_n 1, 1) := by decide +kernel
theorem dX7_work_18 : decode cX7_work 18 = .ok (.invokestatic 138, 3) := by decide +kernel
theorem dX7_work_21 : decode cX7_work 21 = .ok (.goto 8, 3) := by decide +kernel
theorem dX7_work_24 : decode cX7_work 24 = .ok (.bipush (-2), 2) := by decide +kernel
theorem dX7_work_26 : decode cX7_work 26 = .ok (.invokestatic 160, 3) := by decide +kernel
theorem dX7_work_29 : decode cX7_work 29 = .ok (.lreturn, 1) := by decide +kernel
theorem dX7_provesNow_0 : decode cX7_provesNow 0 = .ok (.iconst 0, 1) := by decide +kernel
theorem dX7_provesNow_1 : decode cX7_provesNow 1 = .ok (.istore_n 1, 1) := by decide +kernel
theorem dX7_provesNow_2 : decode cX7_provesNow 2 = .ok (.iload_n 1, 1) := by decide +kernel
theorem dX7_provesNow_3 : decode cX7_provesNow 3 = .ok (.aload_n 0, 1) := by decide +kernel
theorem dX7_provesNow_4 : decode cX7_provesNow 4 = .ok (.invokevirtual 68, 3) := by decide +kernel
theorem dX7_provesNow_7 : decode cX7_provesNow 7 = .ok (.if_icmp .ge 50, 3) := by decide +kernel
theorem dX7_provesNow_10 : decode cX7_provesNow 10 = .ok (.aload_n 0, 1) := by decide +kernel
theorem dX7_provesNow_11 : decode cX7_provesNow 11 = .ok (.iload_n 1, 1) := by decide +kernel
theorem dX7_provesNow_12 : decode cX7_provesNow 12 = .ok (.invokevirtual 199, 3) := by decide +kernel
theorem dX7_provesNow_15 : decode cX7_provesNow 15 = .ok (.istore_n 2, 1) := by decide +kernel
theorem dX7_provesNow_16 : decode cX7_provesNow 16 = .ok (.aload_n 0, 1) := by decide +kernel
theorem dX7_provesNow_17 : decode cX7_provesNow 17 = .ok (.iload_n 1, 1) := by decide +kernel
theorem dX7_provesNow_18 : decode cX7_provesNow 18 = .ok (.invokevirtual 174, 3) := by decide +kernel
theorem dX7_provesNow_21 : decode cX7_provesNow 21 = .ok (.ifCond .eq 30, 3) := by decide +kernel
theorem dX7_provesNow_24 : decode cX7_provesNow 24 = .ok (.iload_n 2, 1) := by decide +kernel
theorem dX7_provesNow_25 : decode cX7_provesNow 25 = .ok (.bipush 12, 2) := by decide +kernel
theorem dX7_provesNow_27 : decode cX7_provesNow 27 = .ok (.aload_n 0, 1) := by decide +kernel
theorem dX7_provesNow_28 : decode cX7_provesNow 28 = .ok (.iload_n 1, 1) := by decide +kernel
theorem dX7_provesNow_29 : decode cX7_provesNow 29 = .ok (.invokevirtual 111, 3) := by decide +kernel
theorem dX7_provesNow_32 : decode cX7_provesNow 32 = .ok (.imul, 1) := by decide +kernel
theorem dX7_provesNow_33 : decode cX7_provesNow 33 = .ok (.if_icmp .gt 16, 3) := by decide +kernel
theorem dX7_provesNow_36 : decode cX7_provesNow 36 = .ok (.iload_n 2, 1) := by decide +kernel
theorem dX7_provesNow_37 : decode cX7_provesNow 37 = .ok (.ineg, 1) := by decide +kernel
theorem dX7_provesNow_38 : decode cX7_provesNow 38 = .ok (.bipush 12, 2) := by decide +kernel
theorem dX7_provesNow_40 : decode cX7_provesNow 40 = .ok (.aload_n 0, 1) := by decide +kernel
theorem dX7_provesNow_41 : decode cX7_provesNow 41 = .ok (.iload_n 1, 1) := by decide +kernel
theorem dX7_provesNow_42 : decode cX7_provesNow 42 = .ok (.invokevirtual 111, 3) := by decide +kernel
theorem dX7_provesNow_45 : decode cX7_provesNow 45 = .ok (.imul, 1) := by decide +kernel
theorem dX7_provesNow_46 : decode cX7_provesNow 46 = .ok (.if_icmp .le 5, 3) := by decide +kernel
theorem dX7_provesNow_49 : decode cX7_provesNow 49 = .ok (.iconst 0, 1) := by decide +kernel
theorem dX7_provesNow_50 : decode cX7_provesNow 50 = .ok (.ireturn, 1) := by decide +kernel
theorem dX7_provesNow_51 : decode cX7_provesNow 51 = .ok (.iinc 1 1, 3) := by decide +kernel
theorem dX7_provesNow_54 : decode cX7_provesNow 54 = .ok (.goto (-52), 3) := by decide +kernel
theorem dX7_provesNow_57 : decode cX7_provesNow 57 = .ok (.aload_n 0, 1) := by decide +kernel
theorem dX7_provesNow_58 : decode cX7_provesNow 58 = .ok (.aload_n 0, 1) := by decide +kernel
theorem dX7_provesNow_59 : decode cX7_provesNow 59 = .ok (.getfield 76, 3) := by decide +kernel
theorem dX7_provesNow_62 : decode cX7_provesNow 62 = .ok (.invokevirtual 157, 3) := by decide +kernel
theorem dX7_provesNow_65 : decode cX7_provesNow 65 = .ok (.istore_n 1, 1) := by decide +kernel
theorem dX7_provesNow_66 : decode cX7_provesNow 66 = .ok (.iload_n 1, 1) := by decide +kernel
theorem dX7_provesNow_67 : decode cX7_provesNow 67 = .ok (.iconst (-1), 1) := by decide +kernel
theorem dX7_provesNow_68 : decode cX7_provesNow 68 = .ok (.if_icmp .eq 33, 3) := by decide +kernel
theorem dX7_provesNow_71 : decode cX7_provesNow 71 = .ok (.aload_n 0, 1) := by decide +kernel
theorem dX7_provesNow_72 : decode cX7_provesNow 72 = .ok (.invokevirtual 204, 3) := by decide +kernel
theorem dX7_provesNow_75 : decode cX7_provesNow 75 = .ok (.i2l, 1) := by decide +kernel
theorem dX7_provesNow_76 : decode cX7_provesNow 76 = .ok (.aload_n 0, 1) := by decide +kernel
theorem dX7_provesNow_77 : decode cX7_provesNow 77 = .ok (.getfield 39, 3) := by decide +kernel
theorem dX7_provesNow_80 : decode cX7_provesNow 80 = .ok (.iload_n 1, 1) := by decide +kernel
theorem dX7_provesNow_81 : decode cX7_provesNow 81 = .ok (.laload, 1) := by decide +kernel
theorem dX7_provesNow_82 : decode cX7_provesNow 82 = .ok (.lmul, 1) := by decide +kernel
theorem dX7_provesNow_83 : decode cX7_provesNow 83 = .ok (.ldc2_w 202, 3) := by decide +kernel
theorem dX7_provesNow_86 : decode cX7_provesNow 86 = .ok (.aload_n 0, 1) := by decide +kernel
theorem dX7_provesNow_87 : decode cX7_provesNow 87 = .ok (.getfield 36, 3) := by decide +kernel
theorem dX7_provesNow_90 : decode cX7_provesNow 90 = .ok (.iload_n 1, 1) := by decide +kernel
theorem dX7_provesNow_91 : decode cX7_provesNow 91 = .ok (.laload, 1) := by decide +kernel
theorem dX7_provesNow_92 : decode cX7_provesNow 92 = .ok (.lmul, 1) := by decide +kernel
theorem dX7_provesNow_93 : decode cX7_provesNow 93 = .ok (.lcmp, 1) := by decide +kernel
theorem dX7_provesNow_94 : decode cX7_provesNow 94 = .ok (.ifCond .ne 7, 3) := by decide +kernel
theorem dX7_provesNow_97 : decode cX7_provesNow 97 = .ok (.iconst 2, 1) := by decide +kernel
theorem dX7_provesNow_98 : decode cX7_provesNow 98 = .ok (.goto 4, 3) := by decide +kernel
theorem dX7_provesNow_101 : decode cX7_provesNow 101 = .ok (.iconst 1, 1) := by decide +kernel
theorem dX7_provesNow_102 : decode cX7_provesNow 102 = .ok (.ireturn, 1) := by decide +kernel
theorem dX7_proves_0 : decode cX7_proves 0 = .ok (.aload_n 0, 1) := by decide +kernel
theorem dX7_proves_1 : decode cX7_proves 1 = .ok (.invokevirtual 207, 3) := by decide +kernel
theorem dX7_proves_4 : decode cX7_proves 4 = .ok (.ireturn, 1) := by decide +kernel
theorem dX7_isCross_0 : decode cX7_isCross 0 = .ok (.iload_n 1, 1) := by decide +kernel
theorem dX7_isCross_1 : decode cX7_isCross 1 = .ok (.invokestatic 83, 3) := by decide +kernel
theorem dX7_isCross_4 : decode cX7_isCross 4 = .ok (.iload_n 2, 1) := by decide +kernel
theorem dX7_isCross_5 : decode cX7_isCross 5 = .ok (.invokestatic 83, 3) := by decide +kernel
theorem dX7_isCross_8 : decode cX7_isCross 8 = .ok (.if_icmp .eq 40, 3) := by decide +kernel
theorem dX7_isCross_11 : decode cX7_isCross 11 = .ok (.iload_n 1, 1) := by decide +kernel
theorem dX7_isCross_12 : decode cX7_isCross 12 = .ok (.invokestatic 83, 3) := by decide +kernel
theorem dX7_isCross_15 : decode cX7_isCross 15 = .ok (.iload_n 2, 1) := by decide +kernel
theorem dX7_isCross_16 : decode cX7_isCross 16 = .ok (.invokestatic 79, 3) := by decide +kernel
theorem dX7_isCross_19 : decode cX7_isCross 19 = .ok (.if_icmp .eq 29, 3) := by decide +kernel
theorem dX7_isCross_22 : decode cX7_isCross 22 = .ok (.iload_n 1, 1) := by decide +kernel
theorem dX7_isCross_23 : decode cX7_isCross 23 = .ok (.invokestatic 79, 3) := by decide +kernel
theorem dX7_isCross_26 : decode cX7_isCross 26 = .ok (.iload_n 2, 1) := by decide +kernel
theorem dX7_isCross_27 : decode cX7_isCross 27 = .ok (.invokestatic 83, 3) := by decide +kernel
theorem dX7_isCross_30 : decode cX7_isCross 30 = .ok (.if_icmp .eq 18, 3) := by decide +kernel
theorem dX7_isCross_33 : decode cX7_isCross 33 = .ok (.iload_n 1, 1) := by decide +kernel
theorem dX7_isCross_34 : decode cX7_isCross 34 = .ok (.invokestatic 79, 3) := by decide +kernel
theorem dX7_isCross_37 : decode cX7_isCross 37 = .ok (.iload_n 2, 1) := by decide +kernel
theorem dX7_isCross_38 : decode cX7_isCross 38 = .ok (.invokestatic 79, 3) := by decide +kernel
theorem dX7_isCross_41 : decode cX7_isCross 41 = .ok (.if_icmp .eq 7, 3) := by decide +kernel
theorem dX7_isCross_44 : decode cX7_isCross 44 = .ok (.iconst 1, 1) := by decide +kernel
theorem dX7_isCross_45 : decode cX7_isCross 45 = .ok (.goto 4, 3) := by decide +kernel
theorem dX7_isCross_48 : decode cX7_isCross 48 = .ok (.iconst 0, 1) := by decide +kernel
theorem dX7_isCross_49 : decode cX7_isCross 49 = .ok (.istore_n 3, 1) := by decide +kernel
theorem dX7_isCross_50 : decode cX7_isCross 50 = .ok (.aload_n 0, 1) := by decide +kernel
theorem dX7_isCross_51 : decode cX7_isCross 51 = .ok (.getfield 7, 3) := by decide +kernel
theorem dX7_isCross_54 : decode cX7_isCross 54 = .ok (.iload_n 2, 1) := by decide +kernel
theorem dX7_isCross_55 : decode cX7_isCross 55 = .ok (.invokestatic 83, 3) := by decide +kernel
theorem dX7_isCross_58 : decode cX7_isCross 58 = .ok (.iaload, 1) := by decide +kernel
theorem dX7_isCross_59 : decode cX7_isCross 59 = .ok (.aload_n 0, 1) := by decide +kernel
theorem dX7_isCross_60 : decode cX7_isCross 60 = .ok (.getfield 7, 3) := by decide +kernel
theorem dX7_isCross_63 : decode cX7_isCross 63 = .ok (.iload_n 1, 1) := by decide +kernel
theorem dX7_isCross_64 : decode cX7_isCross 64 = .ok (.invokestatic 83, 3) := by decide +kernel
theorem dX7_isCross_67 : decode cX7_isCross 67 = .ok (.iaload, 1) := by decide +kernel
theorem dX7_isCross_68 : decode cX7_isCross 68 = .ok (.isub, 1) := by decide +kernel
theorem dX7_isCross_69 : decode cX7_isCross 69 = .ok (.istore 4, 2) := by decide +kernel
theorem dX7_isCross_71 : decode cX7_isCross 71 = .ok (.aload_n 0, 1) := by decide +kernel
theorem dX7_isCross_72 : decode cX7_isCross 72 = .ok (.getfield 13, 3) := by decide +kernel
theorem dX7_isCross_75 : decode cX7_isCross 75 = .ok (.iload_n 2, 1) := by decide +kernel
theorem dX7_isCross_76 : decode cX7_isCross 76 = .ok (.invokestatic 83, 3) := by decide +kernel
theorem dX7_isCross_79 : decode cX7_isCross 79 = .ok (.iaload, 1) := by decide +kernel
theorem dX7_isCross_80 : decode cX7_isCross 80 = .ok (.aload_n 0, 1) := by decide +kernel
theorem dX7_isCross_81 : decode cX7_isCross 81 = .ok (.getfield 13, 3) := by decide +kernel
theorem dX7_isCross_84 : decode cX7_isCross 84 = .ok (.iload_n 1, 1) := by decide +kernel
theorem dX7_isCross_85 : decode cX7_isCross 85 = .ok (.invokestatic 83, 3) := by decide +kernel
theorem dX7_isCross_88 : decode cX7_isCross 88 = .ok (.iaload, 1) := by decide +kernel
theorem dX7_isCross_89 : decode cX7_isCross 89 = .ok (.isub, 1) := by decide +kernel
theorem dX7_isCross_90 : decode cX7_isCross 90 = .ok (.istore 5, 2) := by decide +kernel
theorem dX7_isCross_92 : decode cX7_isCross 92 = .ok (.aload_n 0, 1) := by decide +kernel
theorem dX7_isCross_93 : decode cX7_isCross 93 = .ok (.aload_n 0, 1) := by decide +kernel
theorem dX7_isCross_94 : decode cX7_isCross 94 = .ok (.iload_n 1, 1) := by decide +kernel
theorem dX7_isCross_95 : decode cX7_isCross 95 = .ok (.iconst 0, 1) := by decide +kernel
theorem dX7_isCross_96 : decode cX7_isCross 96 = .ok (.invokevirtual 86, 3) := by decide +kernel
theorem dX7_isCross_99 : decode cX7_isCross 99 = .ok (.aload_n 0, 1) := by decide +kernel
theorem dX7_isCross_100 : decode cX7_isCross 100 = .ok (.iload_n 2, 1) := by decide +kernel
theorem dX7_isCross_101 : decode cX7_isCross 101 = .ok (.iconst 1, 1) := by decide +kernel
theorem dX7_isCross_102 : decode cX7_isCross 102 = .ok (.invokevirtual 86, 3) := by decide +kernel
theorem dX7_isCross_105 : decode cX7_isCross 105 = .ok (.imul, 1) := by decide +kernel
theorem dX7_isCross_106 : decode cX7_isCross 106 = .ok (.aload_n 0, 1) := by decide +kernel
theorem dX7_isCross_107 : decode cX7_isCross 107 = .ok (.iload_n 1, 1) := by decide +kernel
theorem dX7_isCross_108 : decode cX7_isCross 108 = .ok (.iconst 1, 1) := by decide +kernel
theorem dX7_isCross_109 : decode cX7_isCross 109 = .ok (.invokevirtual 86, 3) := by decide +kernel
theorem dX7_isCross_112 : decode cX7_isCross 112 = .ok (.aload_n 0, 1) := by decide +kernel
theorem dX7_isCross_113 : decode cX7_isCross 113 = .ok (.iload_n 2, 1) := by decide +kernel
theorem dX7_isCross_114 : decode cX7_isCross 114 = .ok (.iconst 0, 1) := by decide +kernel
theorem dX7_isCross_115 : decode cX7_isCross 115 = .ok (.invokevirtual 86, 3) := by decide +kernel
theorem dX7_isCross_118 : decode cX7_isCross 118 = .ok (.imul, 1) := by decide +kernel
theorem dX7_isCross_119 : decode cX7_isCross 119 = .ok (.isub, 1) := by decide +kernel
theorem dX7_isCross_120 : decode cX7_isCross 120 = .ok (.putfield 210, 3) := by decide +kernel
theorem dX7_isCross_123 : decode cX7_isCross 123 = .ok (.aload_n 0, 1) := by decide +kernel
theorem dX7_isCross_124 : decode cX7_isCross 124 = .ok (.getfield 210, 3) := by decide +kernel
theorem dX7_isCross_127 : decode cX7_isCross 127 = .ok (.ifCond .ge 7, 3) := by decide +kernel
theorem dX7_isCross_130 : decode cX7_isCross 130 = .ok (.iconst (-1), 1) := by decide +kernel
theorem dX7_isCross_131 : decode cX7_isCross 131 = .ok (.goto 4, 3) := by decide +kernel
theorem dX7_isCross_134 : decode cX7_isCross 134 = .ok (.iconst 1, 1) := by decide +kernel
theorem dX7_isCross_135 : decode cX7_isCross 135 = .ok (.istore 6, 2) := by decide +kernel
theorem dX7_isCross_137 : decode cX7_isCross 137 = .ok (.aload_n 0, 1) := by decide +kernel
theorem dX7_isCross_138 : decode cX7_isCross 138 = .ok (.dup, 1) := by decide +kernel
theorem dX7_isCross_139 : decode cX7_isCross 139 = .ok (.getfield 210, 3) := by decide +kernel
theorem dX7_isCross_142 : decode cX7_isCross 142 = .ok (.iload 6, 2) := by decide +kernel
theorem dX7_isCross_144 : decode cX7_isCross 144 = .ok (.imul, 1) := by decide +kernel
theorem dX7_isCross_145 : decode cX7_isCross 145 = .ok (.putfield 210, 3) := by decide +kernel
theorem dX7_isCross_148 : decode cX7_isCross 148 = .ok (.aload_n 0, 1) := by decide +kernel
theorem dX7_isCross_149 : decode cX7_isCross 149 = .ok (.iload 6, 2) := by decide +kernel
theorem dX7_isCross_151 : decode cX7_isCross 151 = .ok (.iload 4, 2) := by decide +kernel
theorem dX7_isCross_153 : decode cX7_isCross 153 = .ok (.aload_n 0, 1) := by decide +kernel
theorem dX7_isCross_154 : decode cX7_isCross 154 = .ok (.iload_n 2, 1) := by decide +kernel
theorem dX7_isCross_155 : decode cX7_isCross 155 = .ok (.iconst 1, 1) := by decide +kernel
theorem dX7_isCross_156 : decode cX7_isCross 156 = .ok (.invokevirtual 86, 3) := by decide +kernel
theorem dX7_isCross_159 : decode cX7_isCross 159 = .ok (.imul, 1) := by decide +kernel
theorem dX7_isCross_160 : decode cX7_isCross 160 = .ok (.iload 5, 2) := by decide +kernel
theorem dX7_isCross_162 : decode cX7_isCross 162 = .ok (.aload_n 0, 1) := by decide +kernel
theorem dX7_isCross_163 : decode cX7_isCross 163 = .ok (.iload_n 2, 1) := by decide +kernel
theorem dX7_isCross_164 : decode cX7_isCross 164 = .ok (.iconst 0, 1) := by decide +kernel
theorem dX7_isCross_165 : decode cX7_isCross 165 = .ok (.invokevirtual 86, 3) := by decide +kernel
theorem dX7_isCross_168 : decode cX7_isCross 168 = .ok (.imul, 1) := by decide +kernel
theorem dX7_isCross_169 : decode cX7_isCross 169 = .ok (.isub, 1) := by decide +kernel
theorem dX7_isCross_170 : decode cX7_isCross 170 = .ok (.imul, 1) := by decide +kernel
theorem dX7_isCross_171 : decode cX7_isCross 171 = .ok (.putfield 213, 3) := by decide +kernel
theorem dX7_isCross_174 : decode cX7_isCross 174 = .ok (.aload_n 0, 1) := by decide +kernel
theorem dX7_isCross_175 : decode cX7_isCross 175 = .ok (.iload 6, 2) := by decide +kernel
theorem dX7_isCross_177 : decode cX7_isCross 177 = .ok (.iload 4, 2) := by decide +kernel
theorem dX7_isCross_179 : decode cX7_isCross 179 = .ok (.aload_n 0, 1) := by decide +kernel
theorem dX7_isCross_180 : decode cX7_isCross 180 = .ok (.iload_n 1, 1) := by decide +kernel
theorem dX7_isCross_181 : decode cX7_isCross 181 = .ok (.iconst 1, 1) := by decide +kernel
theorem dX7_isCross_182 : decode cX7_isCross 182 = .ok (.invokevirtual 86, 3) := by decide +kernel
theorem dX7_isCross_185 : decode cX7_isCross 185 = .ok (.imul, 1) := by decide +kernel
theorem dX7_isCross_186 : decode cX7_isCross 186 = .ok (.iload 5, 2) := by decide +kernel
theorem dX7_isCross_188 : decode cX7_isCross 188 = .ok (.aload_n 0, 1) := by decide +kernel
theorem dX7_isCross_189 : decode cX7_isCross 189 = .ok (.iload_n 1, 1) := by decide +kernel
theorem dX7_isCross_190 : decode cX7_isCross 190 = .ok (.iconst 0, 1) := by decide +kernel
theorem dX7_isCross_191 : decode cX7_isCross 191 = .ok (.invokevirtual 86, 3) := by decide +kernel
theorem dX7_isCross_194 : decode cX7_isCross 194 = .ok (.imul, 1) := by decide +kernel
theorem dX7_isCross_195 : decode cX7_isCross 195 = .ok (.isub, 1) := by decide +kernel
theorem dX7_isCross_196 : decode cX7_isCross 196 = .ok (.imul, 1) := by decide +kernel
theorem dX7_isCross_197 : decode cX7_isCross 197 = .ok (.putfield 216, 3) := by decide +kernel
theorem dX7_isCross_200 : decode cX7_isCross 200 = .ok (.iload_n 3, 1) := by decide +kernel
theorem dX7_isCross_201 : decode cX7_isCross 201 = .ok (.ifCond .eq 48, 3) := by decide +kernel
theorem dX7_isCross_204 : decode cX7_isCross 204 = .ok (.aload_n 0, 1) := by decide +kernel
theorem dX7_isCross_205 : decode cX7_isCross 205 = .ok (.getfield 210, 3) := by decide +kernel
theorem dX7_isCross_208 : decode cX7_isCross 208 = .ok (.ifCond .eq 41, 3) := by decide +kernel
theorem dX7_isCross_211 : decode cX7_isCross 211 = .ok (.aload_n 0, 1) := by decide +kernel
theorem dX7_isCross_212 : decode cX7_isCross 212 = .ok (.getfield 213, 3) := by decide +kernel
theorem dX7_isCross_215 : decode cX7_isCross 215 = .ok (.iconst 1, 1) := by decide +kernel
theorem dX7_isCross_216 : decode cX7_isCross 216 = .ok (.aload_n 0, 1) := by decide +kernel
theorem dX7_isCross_217 : decode cX7_isCross 217 = .ok (.getfield 210, 3) := by decide +kernel
theorem dX7_isCross_220 : decode cX7_isCross 220 = .ok (.iconst 1, 1) := by decide +kernel
theorem dX7_isCross_221 : decode cX7_isCross 221 = .ok (.isub, 1) := by decide +kernel
theorem dX7_isCross_222 : decode cX7_isCross 222 = .ok (.invokestatic 64, 3) := by decide +kernel
theorem dX7_isCross_225 : decode cX7_isCross 225 = .ok (.ifCond .eq 24, 3) := by decide +kernel
theorem dX7_isCross_228 : decode cX7_isCross 228 = .ok (.aload_n 0, 1) := by decide +kernel
theorem dX7_isCross_229 : decode cX7_isCross 229 = .ok (.getfield 216, 3) := by decide +kernel
theorem dX7_isCross_232 : decode cX7_isCross 232 = .ok (.iconst 1, 1) := by decide +kernel
theorem dX7_isCross_233 : decode cX7_isCross 233 = .ok (.aload_n 0, 1) := by decide +kernel
theorem dX7_isCross_234 : decode cX7_isCross 234 = .ok (.getfield 210, 3) := by decide +kernel
theorem dX7_isCross_237 : decode cX7_isCross 237 = .ok (.iconst 1, 1) := by decide +kernel
theorem dX7_isCross_238 : decode cX7_isCross 238 = .ok (.isub, 1) := by decide +kernel
theorem dX7_isCross_239 : decode cX7_isCross 239 = .ok (.invokestatic 64, 3) := by decide +kernel
theorem dX7_isCross_242 : decode cX7_isCross 242 = .ok (.ifCond .eq 7, 3) := by decide +kernel
theorem dX7_isCross_245 : decode cX7_isCross 245 = .ok (.iconst 1, 1) := by decide +kernel
theorem dX7_isCross_246 : decode cX7_isCross 246 = .ok (.goto 4, 3) := by decide +kernel
theorem dX7_isCross_249 : decode cX7_isCross 249 = .ok (.iconst 0, 1) := by decide +kernel
theorem dX7_isCross_250 : decode cX7_isCross 250 = .ok (.ireturn, 1) := by decide +kernel
theorem dX7_crossing_0 : decode cX7_crossing 0 = .ok (.iload_n 1, 1) := by decide +kernel
theorem dX7_crossing_1 : decode cX7_crossing 1 = .ok (.istore_n 3, 1) := by decide +kernel
theorem dX7_crossing_2 : decode cX7_crossing 2 = .ok (.iconst (-1), 1) := by decide +kernel
theorem dX7_crossing_3 : decode cX7_crossing 3 = .ok (.istore 4, 2) := by decide +kernel
theorem dX7_crossing_5 : decode cX7_crossing 5 = .ok (.iconst 0, 1) := by decide +kernel
theorem dX7_crossing_6 : decode cX7_crossing 6 = .ok (.istore 5, 2) := by decide +kernel
theorem dX7_crossing_8 : decode cX7_crossing 8 = .ok (.iload 5, 2) := by decide +kernel
theorem dX7_crossing_10 : decode cX7_crossing 10 = .ok (.aload_n 0, 1) := by decide +kernel
theorem dX7_crossing_11 : decode cX7_crossing 11 = .ok (.invokevirtual 68, 3) := by decide +kernel
theorem dX7_crossing_14 : decode cX7_crossing 14 = .ok (.if_icmp .ge 105, 3) := by decide +kernel
theorem dX7_crossing_17 : decode cX7_crossing 17 = .ok (.iload 5, 2) := by decide +kernel
theorem dX7_crossing_19 : decode cX7_crossing 19 = .ok (.iconst 1, 1) := by decide +kernel
theorem dX7_crossing_20 : decode cX7_crossing 20 = .ok (.iadd, 1) := by decide +kernel
theorem dX7_crossing_21 : decode cX7_crossing 21 = .ok (.istore 6, 2) := by decide +kernel
theorem dX7_crossing_23 : decode cX7_crossing 23 = .ok (.iload 6, 2) := by decide +kernel
theorem dX7_crossing_25 : decode cX7_crossing 25 = .ok (.aload_n 0, 1) := by decide +kernel
theorem dX7_crossing_26 : decode cX7_crossing 26 = .ok (.invokevirtual 68, 3) := by decide +kernel
theorem dX7_crossing_29 : decode cX7_crossing 29 = .ok (.if_icmp .ge 84, 3) := by decide +kernel
theorem dX7_crossing_32 : decode cX7_crossing 32 = .ok (.iload_n 2, 1) := by decide +kernel
theorem dX7_crossing_33 : decode cX7_crossing 33 = .ok (.iload 5, 2) := by decide +kernel
theorem dX7_crossing_35 : decode cX7_crossing 35 = .ok (.ishr, 1) := by decide +kernel
theorem dX7_crossing_36 : decode cX7_crossing 36 = .ok (.iconst 1, 1) := by decide +kernel
theorem dX7_crossing_37 : decode cX7_crossing 37 = .ok (.iand, 1) := by decide +kernel
theorem dX7_crossing_38 : decode cX7_crossing 38 = .ok (.iconst 1, 1) := by decide +kernel
theorem dX7_crossing_39 : decode cX7_crossing 39 = .ok (.if_icmp .ne 28, 3) := by decide +kernel
theorem dX7_crossing_42 : decode cX7_crossing 42 = .ok (.iload_n 2, 1) := by decide +kernel
theorem dX7_crossing_43 : decode cX7_crossing 43 = .ok (.iload 6, 2) := by decide +kernel
theorem dX7_crossing_45 : decode cX7_crossing 45 = .ok (.ishr, 1) := by decide +kernel
theorem dX7_crossing_46 : decode cX7_crossing 46 = .ok (.iconst 1, 1) := by decide +kernel
theorem dX7_crossing_47 : decode cX7_crossing 47 = .ok (.iand, 1) := by decide +kernel
theorem dX7_crossing_48 : decode cX7_crossing 48 = .ok (.iconst 1, 1) := by decide +kernel
theorem dX7_crossing_49 : decode cX7_crossing 49 = .ok (.if_icmp .ne 18, 3) := by decide +kernel
theorem dX7_crossing_52 : decode cX7_crossing 52 = .ok (.aload_n 0, 1) := by decide +kernel
theorem dX7_crossing_53 : decode cX7_crossing 53 = .ok (.iload 5, 2) := by decide +kernel
theorem dX7_crossing_55 : decode cX7_crossing 55 = .ok (.iload 6, 2) := by decide +kernel
theorem dX7_crossing_57 : decode cX7_crossing 57 = .ok (.invokevirtual 219, 3) := by decide +kernel
theorem dX7_crossing_60 : decode cX7_crossing 60 = .ok (.ifCond .eq 7, 3) := by decide +kernel
theorem dX7_crossing_63 : decode cX7_crossing 63 = .ok (.iconst 1, 1) := by decide +kernel
theorem dX7_crossing_64 : decode cX7_crossing 64 = .ok (.goto 4, 3) := by decide +kernel
theorem dX7_crossing_67 : decode cX7_crossing 67 = .ok (.iconst 0, 1) := by decide +kernel
theorem dX7_crossing_68 : decode cX7_crossing 68 = .ok (.istore 7, 2) := by decide +kernel
theorem dX7_crossing_70 : decode cX7_crossing 70 = .ok (.iload 7, 2) := by decide +kernel
theorem dX7_crossing_72 : decode cX7_crossing 72 = .ok (.ifCond .eq 18, 3) := by decide +kernel
theorem dX7_crossing_75 : decode cX7_crossing 75 = .ok (.iload_n 3, 1) := by decide +kernel
theorem dX7_crossing_76 : decode cX7_crossing 76 = .ok (.ifCond .ne 14, 3) := by decide +kernel
theorem dX7_crossing_79 : decode cX7_crossing 79 = .ok (.bipush 16, 2) := by decide +kernel
theorem dX7_crossing_81 : decode cX7_crossing 81 = .ok (.iload 5, 2) := by decide +kernel
theorem dX7_crossing_83 : decode cX7_crossing 83 = .ok (.imul, 1) := by decide +kernel
theorem dX7_crossing_84 : decode cX7_crossing 84 = .ok (.iload 6, 2) := by decide +kernel
theorem dX7_crossing_86 : decode cX7_crossing 86 = .ok (.iadd, 1) := by decide +kernel
theorem dX7_crossing_87 : decode cX7_crossing 87 = .ok (.goto 5, 3) := by decide +kernel
theorem dX7_crossing_90 : decode cX7_crossing 90 = .ok (.iload 4, 2) := by decide +kernel
theorem dX7_crossing_92 : decode cX7_crossing 92 = .ok (.istore 4, 2) := by decide +kernel
theorem dX7_crossing_94 : decode cX7_crossing 94 = .ok (.iload_n 3, 1) := by decide +kernel
theorem dX7_crossing_95 : decode cX7_crossing 95 = .ok (.iload 7, 2) := by decide +kernel
theorem dX7_crossing_97 : decode cX7_crossing 97 = .ok (.ifCond .eq 7, 3) := by decide +kernel
theorem dX7_crossing_100 : decode cX7_crossing 100 = .ok (.iconst 1, 1) := by decide +kernel
theorem dX7_crossing_101 : decode cX7_crossing 101 = .ok (.goto 4, 3) := by decide +kernel
theorem dX7_crossing_104 : decode cX7_crossing 104 = .ok (.iconst 0, 1) := by decide +kernel
theorem dX7_crossing_105 : decode cX7_crossing 105 = .ok (.isub, 1) := by decide +kernel
theorem dX7_crossing_106 : decode cX7_crossing 106 = .ok (.istore_n 3, 1) := by decide +kernel
theorem dX7_crossing_107 : decode cX7_crossing 107 = .ok (.iinc 6 1, 3) := by decide +kernel
theorem dX7_crossing_110 : decode cX7_crossing 110 = .ok (.goto (-87), 3) := by decide +kernel
theorem dX7_crossing_113 : decode cX7_crossing 113 = .ok (.iinc 5 1, 3) := by decide +kernel
theorem dX7_crossing_116 : decode cX7_crossing 116 = .ok (.goto (-108), 3) := by decide +kernel
theorem dX7_crossing_119 : decode cX7_crossing 119 = .ok (.iload 4, 2) := by decide +kernel
theorem dX7_crossing_121 : decode cX7_crossing 121 = .ok (.ireturn, 1) := by decide +kernel
theorem dX7_crossings_0 : decode cX7_crossings 0 = .ok (.aload_n 0, 1) := by decide +kernel
theorem dX7_crossings_1 : decode cX7_crossings 1 = .ok (.aload_n 0, 1) := by decide +kernel
theorem dX7_crossings_2 : decode cX7_crossings 2 = .ok (.getfield 76, 3) := by decide +kernel
theorem dX7_crossings_5 : decode cX7_crossings 5 = .ok (.invokevirtual 157, 3) := by decide +kernel
theorem dX7_crossings_8 : decode cX7_crossings 8 = .ok (.istore_n 1, 1) := by decide +kernel
theorem dX7_crossings_9 : decode cX7_crossings 9 = .ok (.iconst 0, 1) := by decide +kernel
theorem dX7_crossings_10 : decode cX7_crossings 10 = .ok (.istore_n 2, 1) := by decide +kernel
theorem dX7_crossings_11 : decode cX7_crossings 11 = .ok (.iload_n 1, 1) := by decide +kernel
theorem dX7_crossings_12 : decode cX7_crossings 12 = .ok (.iconst (-1), 1) := by decide +kernel
theorem dX7_crossings_13 : decode cX7_crossings 13 = .ok (.if_icmp .eq 19, 3) := by decide +kernel
theorem dX7_crossings_16 : decode cX7_crossings 16 = .ok (.aload_n 0, 1) := by decide +kernel
theorem dX7_crossings_17 : decode cX7_crossings 17 = .ok (.iload_n 2, 1) := by decide +kernel
theorem dX7_crossings_18 : decode cX7_crossings 18 = .ok (.iload_n 1, 1) := by decide +kernel
theorem dX7_crossings_19 : decode cX7_crossings 19 = .ok (.invokevirtual 222, 3) := by decide +kernel
theorem dX7_crossings_22 : decode cX7_crossings 22 = .ok (.iconst (-1), 1) := by decide +kernel
theorem dX7_crossings_23 : decode cX7_crossings 23 = .ok (.if_icmp .eq 9, 3) := by decide +kernel
theorem dX7_crossings_26 : decode cX7_crossings 26 = .ok (.iinc 2 1, 3) := by decide +kernel
theorem dX7_crossings_29 : decode cX7_crossings 29 = .ok (.goto (-18), 3) := by decide +kernel
theorem dX7_crossings_32 : decode cX7_crossings 32 = .ok (.iload_n 1, 1) := by decide +kernel
theorem dX7_crossings_33 : decode cX7_crossings 33 = .ok (.iconst (-1), 1) := by decide +kernel
theorem dX7_crossings_34 : decode cX7_crossings 34 = .ok (.if_icmp .ne 7, 3) := by decide +kernel
theorem dX7_crossings_37 : decode cX7_crossings 37 = .ok (.iconst (-1), 1) := by decide +kernel
theorem dX7_crossings_38 : decode cX7_crossings 38 = .ok (.goto 4, 3) := by decide +kernel
theorem dX7_crossings_41 : decode cX7_crossings 41 = .ok (.iload_n 2, 1) := by decide +kernel
theorem dX7_crossings_42 : decode cX7_crossings 42 = .ok (.ireturn, 1) := by decide +kernel
theorem dX7_crossOf_0 : decode cX7_crossOf 0 = .ok (.aload_n 0, 1) := by decide +kernel
theorem dX7_crossOf_1 : decode cX7_crossOf 1 = .ok (.iload_n 1, 1) := by decide +kernel
theorem dX7_crossOf_2 : decode cX7_crossOf 2 = .ok (.aload_n 0, 1) := by decide +kernel
theorem dX7_crossOf_3 : decode cX7_crossOf 3 = .ok (.aload_n 0, 1) := by decide +kernel
theorem dX7_crossOf_4 : decode cX7_crossOf 4 = .ok (.getfield 76, 3) := by decide +kernel
theorem dX7_crossOf_7 : decode cX7_crossOf 7 = .ok (.invokevirtual 157, 3) := by decide +kernel
theorem dX7_crossOf_10 : decode cX7_crossOf 10 = .ok (.invokevirtual 222, 3) := by decide +kernel
theorem dX7_crossOf_13 : decode cX7_crossOf 13 = .ok (.istore_n 3, 1) := by decide +kernel
theorem dX7_crossOf_14 : decode cX7_crossOf 14 = .ok (.iload_n 3, 1) := by decide +kernel
theorem dX7_crossOf_15 : decode cX7_crossOf 15 = .ok (.iconst (-1), 1) := by decide +kernel
theorem dX7_crossOf_16 : decode cX7_crossOf 16 = .ok (.if_icmp .ne 6, 3) := by decide +kernel
theorem dX7_crossOf_19 : decode cX7_crossOf 19 = .ok (.bipush (-2), 2) := by decide +kernel
theorem dX7_crossOf_21 : decode cX7_crossOf 21 = .ok (.ireturn, 1) := by decide +kernel
theorem dX7_crossOf_22 : decode cX7_crossOf 22 = .ok (.iload_n 3, 1) := by decide +kernel
theorem dX7_crossOf_23 : decode cX7_crossOf 23 = .ok (.bipush 16, 2) := by decide +kernel
theorem dX7_crossOf_25 : decode cX7_crossOf 25 = .ok (.idiv, 1) := by decide +kernel
theorem dX7_crossOf_26 : decode cX7_crossOf 26 = .ok (.istore 4, 2) := by decide +kernel
theorem dX7_crossOf_28 : decode cX7_crossOf 28 = .ok (.iload_n 3, 1) := by decide +kernel
theorem dX7_crossOf_29 : decode cX7_crossOf 29 = .ok (.bipush 16, 2) := by decide +kernel
theorem dX7_crossOf_31 : decode cX7_crossOf 31 = .ok (.irem, 1) := by decide +kernel
theorem dX7_crossOf_32 : decode cX7_crossOf 32 = .ok (.istore 5, 2) := by decide +kernel
theorem dX7_crossOf_34 : decode cX7_crossOf 34 = .ok (.aload_n 0, 1) := by decide +kernel
theorem dX7_crossOf_35 : decode cX7_crossOf 35 = .ok (.iload 4, 2) := by decide +kernel
theorem dX7_crossOf_37 : decode cX7_crossOf 37 = .ok (.iload 5, 2) := by decide +kernel
theorem dX7_crossOf_39 : decode cX7_crossOf 39 = .ok (.invokevirtual 219, 3) := by decide +kernel
theorem dX7_crossOf_42 : decode cX7_crossOf 42 = .ok (.pop, 1) := by decide +kernel
theorem dX7_crossOf_43 : decode cX7_crossOf 43 = .ok (.iload_n 2, 1) := by decide +kernel
theorem dX7_crossOf_44 : decode cX7_crossOf 44 = .ok (.iconst 2, 1) := by decide +kernel
theorem dX7_crossOf_45 : decode cX7_crossOf 45 = .ok (.if_icmp .ge 15, 3) := by decide +kernel
theorem dX7_crossOf_48 : decode cX7_crossOf 48 = .ok (.iload_n 2, 1) := by decide +kernel
theorem dX7_crossOf_49 : decode cX7_crossOf 49 = .ok (.ifCond .ne 8, 3) := by decide +kernel
theorem dX7_crossOf_52 : decode cX7_crossOf 52 = .ok (.iload 4, 2) := by decide +kernel
theorem dX7_crossOf_54 : decode cX7_crossOf 54 = .ok (.goto 5, 3) := by decide +kernel
theorem dX7_crossOf_57 : decode cX7_crossOf 57 = .ok (.iload 5, 2) := by decide +kernel
theorem dX7_crossOf_59 : decode cX7_crossOf 59 = .ok (.ireturn, 1) := by decide +kernel
theorem dX7_crossOf_60 : decode cX7_crossOf 60 = .ok (.iload_n 2, 1) := by decide +kernel
theorem dX7_crossOf_61 : decode cX7_crossOf 61 = .ok (.iconst 4, 1) := by decide +kernel
theorem dX7_crossOf_62 : decode cX7_crossOf 62 = .ok (.if_icmp .ge 16, 3) := by decide +kernel
theorem dX7_crossOf_65 : decode cX7_crossOf 65 = .ok (.aload_n 0, 1) := by decide +kernel
theorem dX7_crossOf_66 : decode cX7_crossOf 66 = .ok (.getfield 7, 3) := by decide +kernel
theorem dX7_crossOf_69 : decode cX7_crossOf 69 = .ok (.iload 4, 2) := by decide +kernel
theorem dX7_crossOf_71 : decode cX7_crossOf 71 = .ok (.invokestatic 83, 3) := by decide +kernel
theorem dX7_crossOf_74 : decode cX7_crossOf 74 = .ok (.iaload, 1) := by decide +kernel
theorem dX7_crossOf_75 : decode cX7_crossOf 75 = .ok (.goto 13, 3) := by decide +kernel
theorem dX7_crossOf_78 : decode cX7_crossOf 78 = .ok (.aload_n 0, 1) := by decide +kernel
theorem dX7_crossOf_79 : decode cX7_crossOf 79 = .ok (.getfield 13, 3) := by decide +kernel
theorem dX7_crossOf_82 : decode cX7_crossOf 82 = .ok (.iload 4, 2) := by decide +kernel
theorem dX7_crossOf_84 : decode cX7_crossOf 84 = .ok (.invokestatic 83, 3) := by decide +kernel
theorem dX7_crossOf_87 : decode cX7_crossOf 87 = .ok (.iaload, 1) := by decide +kernel
theorem dX7_crossOf_88 : decode cX7_crossOf 88 = .ok (.istore 6, 2) := by decide +kernel
theorem dX7_crossOf_90 : decode cX7_crossOf 90 = .ok (.iload 6, 2) := by decide +kernel
theorem dX7_crossOf_92 : decode cX7_crossOf 92 = .ok (.aload_n 0, 1) := by decide +kernel
theorem dX7_crossOf_93 : decode cX7_crossOf 93 = .ok (.getfield 210, 3) := by decide +kernel
theorem dX7_crossOf_96 : decode cX7_crossOf 96 = .ok (.imul, 1) := by decide +kernel
theorem dX7_crossOf_97 : decode cX7_crossOf 97 = .ok (.aload_n 0, 1) := by decide +kernel
theorem dX7_crossOf_98 : decode cX7_crossOf 98 = .ok (.getfield 213, 3) := by decide +kernel
theorem dX7_crossOf_101 : decode cX7_crossOf 101 = .ok (.aload_n 0, 1) := by decide +kernel
theorem dX7_crossOf_102 : decode cX7_crossOf 102 = .ok (.iload 4, 2) := by decide +kernel
theorem dX7_crossOf_104 : decode cX7_crossOf 104 = .ok (.iload_n 2, 1) := by decide +kernel
theorem dX7_crossOf_105 : decode cX7_crossOf 105 = .ok (.iconst 4, 1) := by decide +kernel
theorem dX7_crossOf_106 : decode cX7_crossOf 106 = .ok (.if_icmp .ge 7, 3) := by decide +kernel
theorem dX7_crossOf_109 : decode cX7_crossOf 109 = .ok (.iconst 0, 1) := by decide +kernel
theorem dX7_crossOf_110 : decode cX7_crossOf 110 = .ok (.goto 4, 3) := by decide +kernel
theorem dX7_crossOf_113 : decode cX7_crossOf 113 = .ok (.iconst 1, 1) := by decide +kernel
theorem dX7_crossOf_114 : decode cX7_crossOf 114 = .ok (.invokevirtual 86, 3) := by decide +kernel
theorem dX7_crossOf_117 : decode cX7_crossOf 117 = .ok (.imul, 1) := by decide +kernel
theorem dX7_crossOf_118 : decode cX7_crossOf 118 = .ok (.iadd, 1) := by decide +kernel
theorem dX7_crossOf_119 : decode cX7_crossOf 119 = .ok (.i2l, 1) := by decide +kernel
theorem dX7_crossOf_120 : decode cX7_crossOf 120 = .ok (.aload_n 0, 1) := by decide +kernel
theorem dX7_crossOf_121 : decode cX7_crossOf 121 = .ok (.getfield 210, 3) := by decide +kernel
theorem dX7_crossOf_124 : decode cX7_crossOf 124 = .ok (.i2l, 1) := by decide +kernel
theorem dX7_crossOf_125 : decode cX7_crossOf 125 = .ok (.iload_n 2, 1) := by decide +kernel
theorem dX7_crossOf_126 : decode cX7_crossOf 126 = .ok (.iconst 2, 1) := by decide +kernel
theorem dX7_crossOf_127 : decode cX7_crossOf 127 = .ok (.irem, 1) := by decide +kernel
theorem dX7_crossOf_128 : decode cX7_crossOf 128 = .ok (.invokestatic 138, 3) := by decide +kernel
theorem dX7_crossOf_131 : decode cX7_crossOf 131 = .ok (.l2i, 1) := by decide +kernel
theorem dX7_crossOf_132 : decode cX7_crossOf 132 = .ok (.ireturn, 1) := by decide +kernel
theorem dX7_cross_0 : decode cX7_cross 0 = .ok (.iload_n 1, 1) := by decide +kernel
theorem dX7_cross_1 : decode cX7_cross 1 = .ok (.ifCond .lt 12, 3) := by decide +kernel
theorem dX7_cross_4 : decode cX7_cross 4 = .ok (.iload_n 2, 1) := by decide +kernel
theorem dX7_cross_5 : decode cX7_cross 5 = .ok (.iconst 0, 1) := by decide +kernel
theorem dX7_cross_6 : decode cX7_cross 6 = .ok (.iconst 5, 1) := by decide +kernel
theorem dX7_cross_7 : decode cX7_cross 7 = .ok (.invokestatic 64, 3) := by decide +kernel
theorem dX7_cross_10 : decode cX7_cross 10 = .ok (.ifCond .ne 6, 3) := by decide +kernel
theorem dX7_cross_13 : decode cX7_cross 13 = .ok (.bipush (-2), 2) := by decide +kernel
theorem dX7_cross_15 : decode cX7_cross 15 = .ok (.ireturn, 1) := by decide +kernel
theorem dX7_cross_16 : decode cX7_cross 16 = .ok (.aload_n 0, 1) := by decide +kernel
theorem dX7_cross_17 : decode cX7_cross 17 = .ok (.aload_n 0, 1) := by decide +kernel
theorem dX7_cross_18 : decode cX7_cross 18 = .ok (.getfield 76, 3) := by decide +kernel
theorem dX7_cross_21 : decode cX7_cross 21 = .ok (.invokevirtual 157, 3) := by decide +kernel
theorem dX7_cross_24 : decode cX7_cross 24 = .ok (.iconst (-1), 1) := by decide +kernel
theorem dX7_cross_25 : decode cX7_cross 25 = .ok (.if_icmp .ne 8, 3) := by decide +kernel
theorem dX7_cross_28 : decode cX7_cross 28 = .ok (.bipush (-3), 2) := by decide +kernel
theorem dX7_cross_30 : decode cX7_cross 30 = .ok (.goto 9, 3) := by decide +kernel
theorem dX7_cross_33 : decode cX7_cross 33 = .ok (.aload_n 0, 1) := by decide +kernel
theorem dX7_cross_34 : decode cX7_cross 34 = .ok (.iload_n 1, 1) := by decide +kernel
theorem dX7_cross_35 : decode cX7_cross 35 = .ok (.iload_n 2, 1) := by decide +kernel
theorem dX7_cross_36 : decode cX7_cross 36 = .ok (.invokevirtual 225, 3) := by decide +kernel
theorem dX7_cross_39 : decode cX7_cross 39 = .ok (.ireturn, 1) := by decide +kernel
theorem dX7_meets_0 : decode cX7_meets 0 = .ok (.aload_n 0, 1) := by decide +kernel
theorem dX7_meets_1 : decode cX7_meets 1 = .ok (.iload_n 1, 1) := by decide +kernel
theorem dX7_meets_2 : decode cX7_meets 2 = .ok (.putfield 228, 3) := by decide +kernel
theorem dX7_meets_5 : decode cX7_meets 5 = .ok (.bipush (-10), 2) := by decide +kernel
theorem dX7_meets_7 : decode cX7_meets 7 = .ok (.iload_n 1, 1) := by decide +kernel
theorem dX7_meets_8 : decode cX7_meets 8 = .ok (.isub, 1) := by decide +kernel
theorem dX7_meets_9 : decode cX7_meets 9 = .ok (.ireturn, 1) := by decide +kernel
theorem dX7_isSheet_0 : decode cX7_isSheet 0 = .ok (.iload_n 0, 1) := by decide +kernel
theorem dX7_isSheet_1 : decode cX7_isSheet 1 = .ok (.iconst 0, 1) := by decide +kernel
theorem dX7_isSheet_2 : decode cX7_isSheet 2 = .ok (.iconst 3, 1) := by decide +kernel
theorem dX7_isSheet_3 : decode cX7_isSheet 3 = .ok (.invokestatic 64, 3) := by decide +kernel
theorem dX7_isSheet_6 : decode cX7_isSheet 6 = .ok (.ireturn, 1) := by decide +kernel
theorem dX7_sheet_0 : decode cX7_sheet 0 = .ok (.iload_n 1, 1) := by decide +kernel
theorem dX7_sheet_1 : decode cX7_sheet 1 = .ok (.invokestatic 98, 3) := by decide +kernel
theorem dX7_sheet_4 : decode cX7_sheet 4 = .ok (.ifCond .eq 18, 3) := by decide +kernel
theorem dX7_sheet_7 : decode cX7_sheet 7 = .ok (.iload_n 2, 1) := by decide +kernel
theorem dX7_sheet_8 : decode cX7_sheet 8 = .ok (.iconst 0, 1) := by decide +kernel
theorem dX7_sheet_9 : decode cX7_sheet 9 = .ok (.iconst 1, 1) := by decide +kernel
theorem dX7_sheet_10 : decode cX7_sheet 10 = .ok (.invokestatic 64, 3) := by decide +kernel
theorem dX7_sheet_13 : decode cX7_sheet 13 = .ok (.ifCond .eq 9, 3) := by decide +kernel
theorem dX7_sheet_16 : decode cX7_sheet 16 = .ok (.iload_n 3, 1) := by decide +kernel
theorem dX7_sheet_17 : decode cX7_sheet 17 = .ok (.bipush 40, 2) := by decide +kernel
theorem dX7_sheet_19 : decode cX7_sheet 19 = .ok (.if_icmp .le 6, 3) := by decide +kernel
theorem dX7_sheet_22 : decode cX7_sheet 22 = .ok (.bipush (-2), 2) := by decide +kernel
theorem dX7_sheet_24 : decode cX7_sheet 24 = .ok (.ireturn, 1) := by decide +kernel
theorem dX7_sheet_25 : decode cX7_sheet 25 = .ok (.iload_n 3, 1) := by decide +kernel
theorem dX7_sheet_26 : decode cX7_sheet 26 = .ok (.ifCond .ge 9, 3) := by decide +kernel
theorem dX7_sheet_29 : decode cX7_sheet 29 = .ok (.aload_n 0, 1) := by decide +kernel
theorem dX7_sheet_30 : decode cX7_sheet 30 = .ok (.iconst 5, 1) := by decide +kernel
theorem dX7_sheet_31 : decode cX7_sheet 31 = .ok (.invokevirtual 101, 3) := by decide +kernel
theorem dX7_sheet_34 : decode cX7_sheet 34 = .ok (.ireturn, 1) := by decide +kernel
theorem dX7_sheet_35 : decode cX7_sheet 35 = .ok (.aload_n 0, 1) := by decide +kernel
theorem dX7_sheet_36 : decode cX7_sheet 36 = .ok (.getfield 42, 3) := by decide +kernel
theorem dX7_sheet_39 : decode cX7_sheet 39 = .ok (.iload_n 1, 1) := by decide +kernel
theorem dX7_sheet_40 : decode cX7_sheet 40 = .ok (.iload_n 2, 1) := by decide +kernel
theorem dX7_sheet_41 : decode cX7_sheet 41 = .ok (.iastore, 1) := by decide +kernel
theorem dX7_sheet_42 : decode cX7_sheet 42 = .ok (.aload_n 0, 1) := by decide +kernel
theorem dX7_sheet_43 : decode cX7_sheet 43 = .ok (.getfield 45, 3) := by decide +kernel
theorem dX7_sheet_46 : decode cX7_sheet 46 = .ok (.iload_n 1, 1) := by decide +kernel
theorem dX7_sheet_47 : decode cX7_sheet 47 = .ok (.iload_n 3, 1) := by decide +kernel
theorem dX7_sheet_48 : decode cX7_sheet 48 = .ok (.iastore, 1) := by decide +kernel
theorem dX7_sheet_49 : decode cX7_sheet 49 = .ok (.bipush 40, 2) := by decide +kernel
theorem dX7_sheet_51 : decode cX7_sheet 51 = .ok (.iload_n 1, 1) := by decide +kernel
theorem dX7_sheet_52 : decode cX7_sheet 52 = .ok (.imul, 1) := by decide +kernel
theorem dX7_sheet_53 : decode cX7_sheet 53 = .ok (.istore 4, 2) := by decide +kernel
theorem dX7_sheet_55 : decode cX7_sheet 55 = .ok (.iload 4, 2) := by decide +kernel
theorem dX7_sheet_57 : decode cX7_sheet 57 = .ok (.bipush 40, 2) := by decide +kernel
theorem dX7_sheet_59 : decode cX7_sheet 59 = .ok (.iload_n 1, 1) := by decide +kernel
theorem dX7_sheet_60 : decode cX7_sheet 60 = .ok (.imul, 1) := by decide +kernel
theorem dX7_sheet_61 : decode cX7_sheet 61 = .ok (.bipush 40, 2) := by decide +kernel
theorem dX7_sheet_63 : decode cX7_sheet 63 = .ok (.iadd, 1) := by decide +kernel
theorem dX7_sheet_64 : decode cX7_sheet 64 = .ok (.if_icmp .ge 17, 3) := by decide +kernel
theorem dX7_sheet_67 : decode cX7_sheet 67 = .ok (.aload_n 0, 1) := by decide +kernel
theorem dX7_sheet_68 : decode cX7_sheet 68 = .ok (.getfield 48, 3) := by decide +kernel
theorem dX7_sheet_71 : decode cX7_sheet 71 = .ok (.iload 4, 2) := by decide +kernel
theorem dX7_sheet_73 : decode cX7_sheet 73 = .ok (.lconst 0, 1) := by decide +kernel
theorem dX7_sheet_74 : decode cX7_sheet 74 = .ok (.lastore, 1) := by decide +kernel
theorem dX7_sheet_75 : decode cX7_sheet 75 = .ok (.iinc 4 1, 3) := by decide +kernel
theorem dX7_sheet_78 : decode cX7_sheet 78 = .ok (.goto (-23), 3) := by decide +kernel
theorem dX7_sheet_81 : decode cX7_sheet 81 = .ok (.iload_n 3, 1) := by decide +kernel
theorem dX7_sheet_82 : decode cX7_sheet 82 = .ok (.ireturn, 1) := by decide +kernel
theorem dX7_lose_0 : decode cX7_lose 0 = .ok (.iload_n 1, 1) := by decide +kernel
theorem dX7_lose_1 : decode cX7_lose 1 = .ok (.invokestatic 98, 3) := by decide +kernel
theorem dX7_lose_4 : decode cX7_lose 4 = .ok (.ifCond .ne 6, 3) := by decide +kernel
theorem dX7_lose_7 : decode cX7_lose 7 = .ok (.bipush (-2), 2) := by decide +kernel
theorem dX7_lose_9 : decode cX7_lose 9 = .ok (.ireturn, 1) := by decide +kernel
theorem dX7_lose_10 : decode cX7_lose 10 = .ok (.aload_n 0, 1) := by decide +kernel
theorem dX7_lose_11 : decode cX7_lose 11 = .ok (.getfield 42, 3) := by decide +kernel
theorem dX7_lose_14 : decode cX7_lose 14 = .ok (.iload_n 1, 1) := by decide +kernel
theorem dX7_lose_15 : decode cX7_lose 15 = .ok (.iaload, 1) := by decide +kernel
theorem dX7_lose_16 : decode cX7_lose 16 = .ok (.iconst (-1), 1) := by decide +kernel
theorem dX7_lose_17 : decode cX7_lose 17 = .ok (.if_icmp .ne 9, 3) := by decide +kernel
theorem dX7_lose_20 : decode cX7_lose 20 = .ok (.aload_n 0, 1) := by decide +kernel
theorem dX7_lose_21 : decode cX7_lose 21 = .ok (.iconst 1, 1) := by decide +kernel
theorem dX7_lose_22 : decode cX7_lose 22 = .ok (.invokevirtual 101, 3) := by decide +kernel
theorem dX7_lose_25 : decode cX7_lose 25 = .ok (.ireturn, 1) := by decide +kernel
theorem dX7_lose_26 : decode cX7_lose 26 = .ok (.aload_n 0, 1) := by decide +kernel
theorem dX7_lose_27 : decode cX7_lose 27 = .ok (.getfield 42, 3) := by decide +kernel
theorem dX7_lose_30 : decode cX7_lose 30 = .ok (.iload_n 1, 1) := by decide +kernel
theorem dX7_lose_31 : decode cX7_lose 31 = .ok (.iconst (-1), 1) := by decide +kernel
theorem dX7_lose_32 : decode cX7_lose 32 = .ok (.iastore, 1) := by decide +kernel
theorem dX7_lose_33 : decode cX7_lose 33 = .ok (.aload_n 0, 1) := by decide +kernel
theorem dX7_lose_34 : decode cX7_lose 34 = .ok (.getfield 45, 3) := by decide +kernel
theorem dX7_lose_37 : decode cX7_lose 37 = .ok (.iload_n 1, 1) := by decide +kernel
theorem dX7_lose_38 : decode cX7_lose 38 = .ok (.iaload, 1) := by decide +kernel
theorem dX7_lose_39 : decode cX7_lose 39 = .ok (.ireturn, 1) := by decide +kernel
theorem dX7_put_0 : decode cX7_put 0 = .ok (.iload_n 1, 1) := by decide +kernel
theorem dX7_put_1 : decode cX7_put 1 = .ok (.invokestatic 98, 3) := by decide +kernel
theorem dX7_put_4 : decode cX7_put 4 = .ok (.ifCond .eq 12, 3) := by decide +kernel
theorem dX7_put_7 : decode cX7_put 7 = .ok (.iload_n 2, 1) := by decide +kernel
theorem dX7_put_8 : decode cX7_put 8 = .ok (.iconst 0, 1) := by decide +kernel
theorem dX7_put_9 : decode cX7_put 9 = .ok (.iconst 1, 1) := by decide +kernel
theorem dX7_put_10 : decode cX7_put 10 = .ok (.invokestatic 64, 3) := by decide +kernel
theorem dX7_put_13 : decode cX7_put 13 = .ok (.ifCond .ne 6, 3) := by decide +kernel
theorem dX7_put_16 : decode cX7_put 16 = .ok (.bipush (-2), 2) := by decide +kernel
theorem dX7_put_18 : decode cX7_put 18 = .ok (.ireturn, 1) := by decide +kernel
theorem dX7_put_19 : decode cX7_put 19 = .ok (.iload_n 2, 1) := by decide +kernel
theorem dX7_put_20 : decode cX7_put 20 = .ok (.iconst 1, 1) := by decide +kernel
theorem dX7_put_21 : decode cX7_put 21 = .ok (.if_icmp .ne 19, 3) := by decide +kernel
theorem dX7_put_24 : decode cX7_put 24 = .ok (.iload 4, 2) := by decide +kernel
theorem dX7_put_26 : decode cX7_put 26 = .ok (.ldc 231, 2) := by decide +kernel
theorem dX7_put_28 : decode cX7_put 28 = .ok (.ldc 232, 2) := by decide +kernel
theorem dX7_put_30 : decode cX7_put 30 = .ok (.invokestatic 64, 3) := by decide +kernel
theorem dX7_put_33 : decode cX7_put 33 = .ok (.ifCond .ne 7, 3) := by decide +kernel
theorem dX7_put_36 : decode cX7_put 36 = .ok (.iconst 1, 1) := by decide +kernel
theorem dX7_put_37 : decode cX7_put 37 = .ok (.goto 4, 3) := by decide +kernel
theorem dX7_put_40 : decode cX7_put 40 = .ok (.iconst 0, 1) := by decide +kernel
theorem dX7_put_41 : decode cX7_put 41 = .ok (.istore 5, 2) := by decide +kernel
theorem dX7_put_43 : decode cX7_put 43 = .ok (.aload_n 0, 1) := by decide +kernel
theorem dX7_put_44 : decode cX7_put 44 = .ok (.getfield 42, 3) := by decide +kernel
theorem dX7_put_47 : decode cX7_put 47 = .ok (.iload_n 1, 1) := by decide +kernel
theorem dX7_put_48 : decode cX7_put 48 = .ok (.iaload, 1) := by decide +kernel
theorem dX7_put_49 : decode cX7_put 49 = .ok (.iconst (-1), 1) := by decide +kernel
theorem dX7_put_50 : decode cX7_put 50 = .ok (.if_icmp .ne 7, 3) := by decide +kernel
theorem dX7_put_53 : decode cX7_put 53 = .ok (.iconst 1, 1) := by decide +kernel
theorem dX7_put_54 : decode cX7_put 54 = .ok (.goto 48, 3) := by decide +kernel
theorem dX7_put_57 : decode cX7_put 57 = .ok (.aload_n 0, 1) := by decide +kernel
theorem dX7_put_58 : decode cX7_put 58 = .ok (.getfield 42, 3) := by decide +kernel
theorem dX7_put_61 : decode cX7_put 61 = .ok (.iload_n 1, 1) := by decide +kernel
theorem dX7_put_62 : decode cX7_put 62 = .ok (.iaload, 1) := by decide +kernel
theorem dX7_put_63 : decode cX7_put 63 = .ok (.iload_n 2, 1) := by decide +kernel
theorem dX7_put_64 : decode cX7_put 64 = .ok (.if_icmp .eq 7, 3) := by decide +kernel
theorem dX7_put_67 : decode cX7_put 67 = .ok (.iconst 3, 1) := by decide +kernel
theorem dX7_put_68 : decode cX7_put 68 = .ok (.goto 34, 3) := by decide +kernel
theorem dX7_put_71 : decode cX7_put 71 = .ok (.iload_n 3, 1) := by decide +kernel
theorem dX7_put_72 : decode cX7_put 72 = .ok (.iconst 0, 1) := by decide +kernel
theorem dX7_put_73 : decode cX7_put 73 = .ok (.aload_n 0, 1) := by decide +kernel
theorem dX7_put_74 : decode cX7_put 74 = .ok (.getfield 45, 3) := by decide +kernel
theorem dX7_put_77 : decode cX7_put 77 = .ok (.iload_n 1, 1) := by decide +kernel
theorem dX7_put_78 : decode cX7_put 78 = .ok (.iaload, 1) := by decide +kernel
theorem dX7_put_79 : decode cX7_put 79 = .ok (.iconst 1, 1) := by decide +kernel
theorem dX7_put_80 : decode cX7_put 80 = .ok (.isub, 1) := by decide +kernel
theorem dX7_put_81 : decode cX7_put 81 = .ok (.invokestatic 64, 3) := by decide +kernel
theorem dX7_put_84 : decode cX7_put 84 = .ok (.ifCond .ne 7, 3) := by decide +kernel
theorem dX7_put_87 : decode cX7_put 87 = .ok (.iconst 2, 1) := by decide +kernel
theorem dX7_put_88 : decode cX7_put 88 = .ok (.goto 14, 3) := by decide +kernel
theorem dX7_put_91 : decode cX7_put 91 = .ok (.iload 5, 2) := by decide +kernel
theorem dX7_put_93 : decode cX7_put 93 = .ok (.ifCond .eq 8, 3) := by decide +kernel
theorem dX7_put_96 : decode cX7_put 96 = .ok (.bipush 6, 2) := by decide +kernel
theorem dX7_put_98 : decode cX7_put 98 = .ok (.goto 4, 3) := by decide +kernel
theorem dX7_put_101 : decode cX7_put 101 = .ok (.iconst 0, 1) := by decide +kernel
theorem dX7_put_102 : decode cX7_put 102 = .ok (.istore 6, 2) := by decide +kernel
theorem dX7_put_104 : decode cX7_put 104 = .ok (.iload 6, 2) := by decide +kernel
theorem dX7_put_106 : decode cX7_put 106 = .ok (.ifCond .le 10, 3) := by decide +kernel
theorem dX7_put_109 : decode cX7_put 109 = .ok (.aload_n 0, 1) := by decide +kernel
theorem dX7_put_110 : decode cX7_put 110 = .ok (.iload 6, 2) := by decide +kernel
theorem dX7_put_112 : decode cX7_put 112 = .ok (.invokevirtual 101, 3) := by decide +kernel
theorem dX7_put_115 : decode cX7_put 115 = .ok (.ireturn, 1) := by decide +kernel
theorem dX7_put_116 : decode cX7_put 116 = .ok (.aload_n 0, 1) := by decide +kernel
theorem dX7_put_117 : decode cX7_put 117 = .ok (.getfield 48, 3) := by decide +kernel
theorem dX7_put_120 : decode cX7_put 120 = .ok (.bipush 40, 2) := by decide +kernel
theorem dX7_put_122 : decode cX7_put 122 = .ok (.iload_n 1, 1) := by decide +kernel
theorem dX7_put_123 : decode cX7_put 123 = .ok (.imul, 1) := by decide +kernel
theorem dX7_put_124 : decode cX7_put 124 = .ok (.iload_n 3, 1) := by decide +kernel
theorem dX7_put_125 : decode cX7_put 125 = .ok (.iadd, 1) := by decide +kernel
theorem dX7_put_126 : decode cX7_put 126 = .ok (.iload_n 2, 1) := by decide +kernel
theorem dX7_put_127 : decode cX7_put 127 = .ok (.iconst 1, 1) := by decide +kernel
theorem dX7_put_128 : decode cX7_put 128 = .ok (.if_icmp .ne 17, 3) := by decide +kernel
theorem dX7_put_131 : decode cX7_put 131 = .ok (.iload 4, 2) := by decide +kernel
theorem dX7_put_133 : decode cX7_put 133 = .ok (.i2l, 1) := by decide +kernel
theorem dX7_put_134 : decode cX7_put 134 = .ok (.iload 4, 2) := by decide +kernel
theorem dX7_put_136 : decode cX7_put 136 = .ok (.i2l, 1) := by decide +kernel
theorem dX7_put_137 : decode cX7_put 137 = .ok (.lmul, 1) := by decide +kernel
theorem dX7_put_138 : decode cX7_put 138 = .ok (.iload 4, 2) := by decide +kernel
theorem dX7_put_140 : decode cX7_put 140 = .ok (.i2l, 1) := by decide +kernel
theorem dX7_put_141 : decode cX7_put 141 = .ok (.lmul, 1) := by decide +kernel
theorem dX7_put_142 : decode cX7_put 142 = .ok (.goto 6, 3) := by decide +kernel
theorem dX7_put_145 : decode cX7_put 145 = .ok (.iload 4, 2) := by decide +kernel
theorem dX7_put_147 : decode cX7_put 147 = .ok (.i2l, 1) := by decide +kernel
theorem dX7_put_148 : decode cX7_put 148 = .ok (.lastore, 1) := by decide +kernel
theorem dX7_put_149 : decode cX7_put 149 = .ok (.iconst 1, 1) := by decide +kernel
theorem dX7_put_150 : decode cX7_put 150 = .ok (.ireturn, 1) := by decide +kernel
theorem dX7_get_0 : decode cX7_get 0 = .ok (.iload_n 1, 1) := by decide +kernel
theorem dX7_get_1 : decode cX7_get 1 = .ok (.invokestatic 98, 3) := by decide +kernel
theorem dX7_get_4 : decode cX7_get 4 = .ok (.ifCond .ne 9, 3) := by decide +kernel
theorem dX7_get_7 : decode cX7_get 7 = .ok (.bipush (-2), 2) := by decide +kernel
theorem dX7_get_9 : decode cX7_get 9 = .ok (.invokestatic 160, 3) := by decide +kernel
theorem dX7_get_12 : decode cX7_get 12 = .ok (.lreturn, 1) := by decide +kernel
theorem dX7_get_13 : decode cX7_get 13 = .ok (.aload_n 0, 1) := by decide +kernel
theorem dX7_get_14 : decode cX7_get 14 = .ok (.getfield 42, 3) := by decide +kernel
theorem dX7_get_17 : decode cX7_get 17 = .ok (.iload_n 1, 1) := by decide +kernel
theorem dX7_get_18 : decode cX7_get 18 = .ok (.iaload, 1) := by decide +kernel
theorem dX7_get_19 : decode cX7_get 19 = .ok (.iconst (-1), 1) := by decide +kernel
theorem dX7_get_20 : decode cX7_get 20 = .ok (.if_icmp .ne 7, 3) := by decide +kernel
theorem dX7_get_23 : decode cX7_get 23 = .ok (.iconst 1, 1) := by decide +kernel
theorem dX7_get_24 : decode cX7_get 24 = .ok (.goto 24, 3) := by decide +kernel
theorem dX7_get_27 : decode cX7_get 27 = .ok (.iload_n 2, 1) := by decide +kernel
theorem dX7_get_28 : decode cX7_get 28 = .ok (.iconst 0, 1) := by decide +kernel
theorem dX7_get_29 : decode cX7_get 29 = .ok (.aload_n 0, 1) := by decide +kernel
theorem dX7_get_30 : decode cX7_get 30 = .ok (.getfield 45, 3) := by decide +kernel
theorem dX7_get_33 : decode cX7_get 33 = .ok (.iload_n 1, 1) := by decide +kernel
theorem dX7_get_34 : decode cX7_get 34 = .ok (.iaload, 1) := by decide +kernel
theorem dX7_get_35 : decode cX7_get 35 = .ok (.iconst 1, 1) := by decide +kernel
theorem dX7_get_36 : decode cX7_get 36 = .ok (.isub, 1) := by decide +kernel
theorem dX7_get_37 : decode cX7_get 37 = .ok (.invokestatic 64, 3) := by decide +kernel
theorem dX7_get_40 : decode cX7_get 40 = .ok (.ifCond .eq 7, 3) := by decide +kernel
theorem dX7_get_43 : decode cX7_get 43 = .ok (.iconst 0, 1) := by decide +kernel
theorem dX7_get_44 : decode cX7_get 44 = .ok (.goto 4, 3) := by decide +kernel
theorem dX7_get_47 : decode cX7_get 47 = .ok (.iconst 2, 1) := by decide +kernel
theorem dX7_get_48 : decode cX7_get 48 = .ok (.istore_n 3, 1) := by decide +kernel
theorem dX7_get_49 : decode cX7_get 49 = .ok (.iload_n 3, 1) := by decide +kernel
theorem dX7_get_50 : decode cX7_get 50 = .ok (.ifCond .le 14, 3) := by decide +kernel
theorem dX7_get_53 : decode cX7_get 53 = .ok (.aload_n 0, 1) := by decide +kernel
theorem dX7_get_54 : decode cX7_get 54 = .ok (.iload_n 3, 1) := by decide +kernel
theorem dX7_get_55 : decode cX7_get 55 = .ok (.invokevirtual 101, 3) := by decide +kernel
theorem dX7_get_58 : decode cX7_get 58 = .ok (.invokestatic 160, 3) := by decide +kernel
theorem dX7_get_61 : decode cX7_get 61 = .ok (.goto 14, 3) := by decide +kernel
theorem dX7_get_64 : decode cX7_get 64 = .ok (.aload_n 0, 1) := by decide +kernel
theorem dX7_get_65 : decode cX7_get 65 = .ok (.getfield 48, 3) := by decide +kernel
theorem dX7_get_68 : decode cX7_get 68 = .ok (.bipush 40, 2) := by decide +kernel
theorem dX7_get_70 : decode cX7_get 70 = .ok (.iload_n 1, 1) := by decide +kernel
theorem dX7_get_71 : decode cX7_get 71 = .ok (.imul, 1) := by decide +kernel
theorem dX7_get_72 : decode cX7_get 72 = .ok (.iload_n 2, 1) := by decide +kernel
theorem dX7_get_73 : decode cX7_get 73 = .ok (.iadd, 1) := by decide +kernel
theorem dX7_get_74 : decode cX7_get 74 = .ok (.laload, 1) := by decide +kernel
theorem dX7_get_75 : decode cX7_get 75 = .ok (.lreturn, 1) := by decide +kernel
theorem dX7_copy_0 : decode cX7_copy 0 = .ok (.iload_n 1, 1) := by decide +kernel
theorem dX7_copy_1 : decode cX7_copy 1 = .ok (.invokestatic 98, 3) := by decide +kernel
theorem dX7_copy_4 : decode cX7_copy 4 = .ok (.ifCond .eq 10, 3) := by decide +kernel
theorem dX7_copy_7 : decode cX7_copy 7 = .ok (.iload_n 3, 1) := by decide +kernel
theorem dX7_copy_8 : decode cX7_copy 8 = .ok (.invokestatic 98, 3) := by decide +kernel
theorem dX7_copy_11 : decode cX7_copy 11 = .ok (.ifCond .ne 6, 3) := by decide +kernel
theorem dX7_copy_14 : decode cX7_copy 14 = .ok (.bipush (-2), 2) := by decide +kernel
theorem dX7_copy_16 : decode cX7_copy 16 = .ok (.ireturn, 1) := by decide +kernel
theorem dX7_copy_17 : decode cX7_copy 17 = .ok (.aload_n 0, 1) := by decide +kernel
theorem dX7_copy_18 : decode cX7_copy 18 = .ok (.getfield 42, 3) := by decide +kernel
theorem dX7_copy_21 : decode cX7_copy 21 = .ok (.iload_n 1, 1) := by decide +kernel
theorem dX7_copy_22 : decode cX7_copy 22 = .ok (.iaload, 1) := by decide +kernel
theorem dX7_copy_23 : decode cX7_copy 23 = .ok (.iconst (-1), 1) := by decide +kernel
theorem dX7_copy_24 : decode cX7_copy 24 = .ok (.if_icmp .eq 13, 3) := by decide +kernel
theorem dX7_copy_27 : decode cX7_copy 27 = .ok (.aload_n 0, 1) := by decide +kernel
theorem dX7_copy_28 : decode cX7_copy 28 = .ok (.getfield 42, 3) := by decide +kernel
theorem dX7_copy_31 : decode cX7_copy 31 = .ok (.iload_n 3, 1) := by decide +kernel
theorem dX7_copy_32 : decode cX7_copy 32 = .ok (.iaload, 1) := by decide +kernel
theorem dX7_copy_33 : decode cX7_copy 33 = .ok (.iconst (-1), 1) := by decide +kernel
theorem dX7_copy_34 : decode cX7_copy 34 = .ok (.if_icmp .ne 9, 3) := by decide +kernel
theorem dX7_copy_37 : decode cX7_copy 37 = .ok (.aload_n 0, 1) := by decide +kernel
theorem dX7_copy_38 : decode cX7_copy 38 = .ok (.iconst 1, 1) := by decide +kernel
theorem dX7_copy_39 : decode cX7_copy 39 = .ok (.invokevirtual 101, 3) := by decide +kernel
theorem dX7_copy_42 : decode cX7_copy 42 = .ok (.ireturn, 1) := by decide +kernel
theorem dX7_copy_43 : decode cX7_copy 43 = .ok (.aload_n 0, 1) := by decide +kernel
theorem dX7_copy_44 : decode cX7_copy 44 = .ok (.getfield 42, 3) := by decide +kernel
theorem dX7_copy_47 : decode cX7_copy 47 = .ok (.iload_n 1, 1) := by decide +kernel
theorem dX7_copy_48 : decode cX7_copy 48 = .ok (.iaload, 1) := by decide +kernel
theorem dX7_copy_49 : decode cX7_copy 49 = .ok (.aload_n 0, 1) := by decide +kernel
theorem dX7_copy_50 : decode cX7_copy 50 = .ok (.getfield 42, 3) := by decide +kernel
theorem dX7_copy_53 : decode cX7_copy 53 = .ok (.iload_n 3, 1) := by decide +kernel
theorem dX7_copy_54 : decode cX7_copy 54 = .ok (.iaload, 1) := by decide +kernel
theorem dX7_copy_55 : decode cX7_copy 55 = .ok (.if_icmp .eq 9, 3) := by decide +kernel
theorem dX7_copy_58 : decode cX7_copy 58 = .ok (.aload_n 0, 1) := by decide +kernel
theorem dX7_copy_59 : decode cX7_copy 59 = .ok (.iconst 4, 1) := by decide +kernel
theorem dX7_copy_60 : decode cX7_copy 60 = .ok (.invokevirtual 101, 3) := by decide +kernel
theorem dX7_copy_63 : decode cX7_copy 63 = .ok (.ireturn, 1) := by decide +kernel
theorem dX7_copy_64 : decode cX7_copy 64 = .ok (.iload_n 2, 1) := by decide +kernel
theorem dX7_copy_65 : decode cX7_copy 65 = .ok (.ifCond .lt 48, 3) := by decide +kernel
theorem dX7_copy_68 : decode cX7_copy 68 = .ok (.iload 4, 2) := by decide +kernel
theorem dX7_copy_70 : decode cX7_copy 70 = .ok (.ifCond .lt 43, 3) := by decide +kernel
theorem dX7_copy_73 : decode cX7_copy 73 = .ok (.iload 5, 2) := by decide +kernel
theorem dX7_copy_75 : decode cX7_copy 75 = .ok (.ifCond .lt 38, 3) := by decide +kernel
theorem dX7_copy_78 : decode cX7_copy 78 = .ok (.iload_n 2, 1) := by decide +kernel
theorem dX7_copy_79 : decode cX7_copy 79 = .ok (.i2l, 1) := by decide +kernel
theorem dX7_copy_80 : decode cX7_copy 80 = .ok (.iload 5, 2) := by decide +kernel
theorem dX7_copy_82 : decode cX7_copy 82 = .ok (.i2l, 1) := by decide +kernel
theorem dX7_copy_83 : decode cX7_copy 83 = .ok (.ladd, 1) := by decide +kernel
theorem dX7_copy_84 : decode cX7_copy 84 = .ok (.aload_n 0, 1) := by decide +kernel
theorem dX7_copy_85 : decode cX7_copy 85 = .ok (.getfield 45, 3) := by decide +kernel
theorem dX7_copy_88 : decode cX7_copy 88 = .ok (.iload_n 1, 1) := by decide +kernel
theorem dX7_copy_89 : decode cX7_copy 89 = .ok (.iaload, 1) := by decide +kernel
theorem dX7_copy_90 : decode cX7_copy 90 = .ok (.i2l, 1) := by decide +kernel
theorem dX7_copy_91 : decode cX7_copy 91 = .ok (.lcmp, 1) := by decide +kernel
theorem dX7_copy_92 : decode cX7_copy 92 = .ok (.ifCond .gt 21, 3) := by decide +kernel
theorem dX7_copy_95 : decode cX7_copy 95 = .ok (.iload 4, 2) := by decide +kernel
theorem dX7_copy_97 : decode cX7_copy 97 = .ok (.i2l, 1) := by decide +kernel
theorem dX7_copy_98 : decode cX7_copy 98 = .ok (.iload 5, 2) := by decide +kernel
theorem dX7_copy_100 : decode cX7_copy 100 = .ok (.i2l, 1) := by decide +kernel
theorem dX7_copy_101 : decode cX7_copy 101 = .ok (.ladd, 1) := by decide +kernel
theorem dX7_copy_102 : decode cX7_copy 102 = .ok (.aload_n 0, 1) := by decide +kernel
theorem dX7_copy_103 : decode cX7_copy 103 = .ok (.getfield 45, 3) := by decide +kernel
theorem dX7_copy_106 : decode cX7_copy 106 = .ok (.iload_n 3, 1) := by decide +kernel
theorem dX7_copy_107 : decode cX7_copy 107 = .ok (.iaload, 1) := by decide +kernel
theorem dX7_copy_108 : decode cX7_copy 108 = .ok (.i2l, 1) := by decide +kernel
theorem dX7_copy_109 : decode cX7_copy 109 = .ok (.lcmp, 1) := by decide +kernel
theorem dX7_copy_110 : decode cX7_copy 110 = .ok (.ifCond .le 9, 3) := by decide +kernel
theorem dX7_copy_113 : decode cX7_copy 113 = .ok (.aload_n 0, 1) := by decide +kernel
theorem dX7_copy_114 : decode cX7_copy 114 = .ok (.iconst 2, 1) := by decide +kernel
theorem dX7_copy_115 : decode cX7_copy 115 = .ok (.invokevirtual 101, 3) := by decide +kernel
theorem dX7_copy_118 : decode cX7_copy 118 = .ok (.ireturn, 1) := by decide +kernel
theorem dX7_copy_119 : decode cX7_copy 119 = .ok (.iconst 0, 1) := by decide +kernel
theorem dX7_copy_120 : decode cX7_copy 120 = .ok (.istore 6, 2) := by decide +kernel
theorem dX7_copy_122 : decode cX7_copy 122 = .ok (.iload 6, 2) := by decide +kernel
theorem dX7_copy_124 : decode cX7_copy 124 = .ok (.iload 5, 2) := by decide +kernel
theorem dX7_copy_126 : decode cX7_copy 126 = .ok (.if_icmp .ge 30, 3) := by decide +kernel
theorem dX7_copy_129 : decode cX7_copy 129 = .ok (.aload_n 0, 1) := by decide +kernel
theorem dX7_copy_130 : decode cX7_copy 130 = .ok (.getfield 51, 3) := by decide +kernel
theorem dX7_copy_133 : decode cX7_copy 133 = .ok (.iload 6, 2) := by decide +kernel
theorem dX7_copy_135 : decode cX7_copy 135 = .ok (.aload_n 0, 1) := by decide +kernel
theorem dX7_copy_136 : decode cX7_copy 136 = .ok (.getfield 48, 3) := by decide +kernel
theorem dX7_copy_139 : decode cX7_copy 139 = .ok (.bipush 40, 2) := by decide +kernel
theorem dX7_copy_141 : decode cX7_copy 141 = .ok (.iload_n 1, 1) := by decide +kernel
theorem dX7_copy_142 : decode cX7_copy 142 = .ok (.imul, 1) := by decide +kernel
theorem dX7_copy_143 : decode cX7_copy 143 = .ok (.iload_n 2, 1) := by decide +kernel
theorem dX7_copy_144 : decode cX7_copy 144 = .ok (.iadd, 1) := by decide +kernel
theorem dX7_copy_145 : decode cX7_copy 145 = .ok (.iload 6, 2) := by decide +kernel
theorem dX7_copy_147 : decode cX7_copy 147 = .ok (.iadd, 1) := by decide +kernel
theorem dX7_copy_148 : decode cX7_copy 148 = .ok (.laload, 1) := by decide +kernel
theorem dX7_copy_149 : decode cX7_copy 149 = .ok (.lastore, 1) := by decide +kernel
theorem dX7_copy_150 : decode cX7_copy 150 = .ok (.iinc 6 1, 3) := by decide +kernel
theorem dX7_copy_153 : decode cX7_copy 153 = .ok (.goto (-31), 3) := by decide +kernel
theorem dX7_copy_156 : decode cX7_copy 156 = .ok (.iconst 0, 1) := by decide +kernel
theorem dX7_copy_157 : decode cX7_copy 157 = .ok (.istore 6, 2) := by decide +kernel
theorem dX7_copy_159 : decode cX7_copy 159 = .ok (.iload 6, 2) := by decide +kernel
theorem dX7_copy_161 : decode cX7_copy 161 = .ok (.iload 5, 2) := by decide +kernel
theorem dX7_copy_163 : decode cX7_copy 163 = .ok (.if_icmp .ge 31, 3) := by decide +kernel
theorem dX7_copy_166 : decode cX7_copy 166 = .ok (.aload_n 0, 1) := by decide +kernel
theorem dX7_copy_167 : decode cX7_copy 167 = .ok (.getfield 48, 3) := by decide +kernel
theorem dX7_copy_170 : decode cX7_copy 170 = .ok (.bipush 40, 2) := by decide +kernel
theorem dX7_copy_172 : decode cX7_copy 172 = .ok (.iload_n 3, 1) := by decide +kernel
theorem dX7_copy_173 : decode cX7_copy 173 = .ok (.imul, 1) := by decide +kernel
theorem dX7_copy_174 : decode cX7_copy 174 = .ok (.iload 4, 2) := by decide +kernel
theorem dX7_copy_176 : decode cX7_copy 176 = .ok (.iadd, 1) := by decide +kernel
theorem dX7_copy_177 : decode cX7_copy 177 = .ok (.iload 6, 2) := by decide +kernel
theorem dX7_copy_179 : decode cX7_copy 179 = .ok (.iadd, 1) := by decide +kernel
theorem dX7_copy_180 : decode cX7_copy 180 = .ok (.aload_n 0, 1) := by decide +kernel
theorem dX7_copy_181 : decode cX7_copy 181 = .ok (.getfield 51, 3) := by decide +kernel
theorem dX7_copy_184 : decode cX7_copy 184 = .ok (.iload 6, 2) := by decide +kernel
theorem dX7_copy_186 : decode cX7_copy 186 = .ok (.laload, 1) := by decide +kernel
theorem dX7_copy_187 : decode cX7_copy 187 = .ok (.lastore, 1) := by decide +kernel
theorem dX7_copy_188 : decode cX7_copy 188 = .ok (.iinc 6 1, 3) := by decide +kernel
theorem dX7_copy_191 : decode cX7_copy 191 = .ok (.goto (-32), 3) := by decide +kernel
theorem dX7_copy_194 : decode cX7_copy 194 = .ok (.iconst 1, 1) := by decide +kernel
theorem dX7_copy_195 : decode cX7_copy 195 = .ok (.ireturn, 1) := by decide +kernel
theorem dX7_write_0 : decode cX7_write 0 = .ok (.iload_n 1, 1) := by decide +kernel
theorem dX7_write_1 : decode cX7_write 1 = .ok (.invokestatic 98, 3) := by decide +kernel
theorem dX7_write_4 : decode cX7_write 4 = .ok (.ifCond .ne 6, 3) := by decide +kernel
theorem dX7_write_7 : decode cX7_write 7 = .ok (.bipush (-2), 2) := by decide +kernel
theorem dX7_write_9 : decode cX7_write 9 = .ok (.ireturn, 1) := by decide +kernel
theorem dX7_write_10 : decode cX7_write 10 = .ok (.aload_n 0, 1) := by decide +kernel
theorem dX7_write_11 : decode cX7_write 11 = .ok (.getfield 42, 3) := by decide +kernel
theorem dX7_write_14 : decode cX7_write 14 = .ok (.iload_n 1, 1) := by decide +kernel
theorem dX7_write_15 : decode cX7_write 15 = .ok (.iaload, 1) := by decide +kernel
theorem dX7_write_16 : decode cX7_write 16 = .ok (.iconst (-1), 1) := by decide +kernel
theorem dX7_write_17 : decode cX7_write 17 = .ok (.if_icmp .ne 9, 3) := by decide +kernel
theorem dX7_write_20 : decode cX7_write 20 = .ok (.aload_n 0, 1) := by decide +kernel
theorem dX7_write_21 : decode cX7_write 21 = .ok (.iconst 1, 1) := by decide +kernel
theorem dX7_write_22 : decode cX7_write 22 = .ok (.invokevirtual 101, 3) := by decide +kernel
theorem dX7_write_25 : decode cX7_write 25 = .ok (.ireturn, 1) := by decide +kernel
theorem dX7_write_26 : decode cX7_write 26 = .ok (.aload_n 0, 1) := by decide +kernel
theorem dX7_write_27 : decode cX7_write 27 = .ok (.aload_n 0, 1) := by decide +kernel
theorem dX7_write_28 : decode cX7_write 28 = .ok (.getfield 76, 3) := by decide +kernel
theorem dX7_write_31 : decode cX7_write 31 = .ok (.invokevirtual 157, 3) := by decide +kernel
theorem dX7_write_34 : decode cX7_write 34 = .ok (.iconst (-1), 1) := by decide +kernel
theorem dX7_write_35 : decode cX7_write 35 = .ok (.if_icmp .ne 6, 3) := by decide +kernel
theorem dX7_write_38 : decode cX7_write 38 = .ok (.bipush (-3), 2) := by decide +kernel
theorem dX7_write_40 : decode cX7_write 40 = .ok (.ireturn, 1) := by decide +kernel
theorem dX7_write_41 : decode cX7_write 41 = .ok (.iconst 0, 1) := by decide +kernel
theorem dX7_write_42 : decode cX7_write 42 = .ok (.istore_n 2, 1) := by decide +kernel
theorem dX7_write_43 : decode cX7_write 43 = .ok (.iload_n 2, 1) := by decide +kernel
theorem dX7_write_44 : decode cX7_write 44 = .ok (.aload_n 0, 1) := by decide +kernel
theorem dX7_write_45 : decode cX7_write 45 = .ok (.getfield 45, 3) := by decide +kernel
theorem dX7_write_48 : decode cX7_write 48 = .ok (.iload_n 1, 1) := by decide +kernel
theorem dX7_write_49 : decode cX7_write 49 = .ok (.iaload, 1) := by decide +kernel
theorem dX7_write_50 : decode cX7_write 50 = .ok (.if_icmp .ge 57, 3) := by decide +kernel
theorem dX7_write_53 : decode cX7_write 53 = .ok (.iload_n 2, 1) := by decide +kernel
theorem dX7_write_54 : decode cX7_write 54 = .ok (.iconst 2, 1) := by decide +kernel
theorem dX7_write_55 : decode cX7_write 55 = .ok (.aload_n 0, 1) := by decide +kernel
theorem dX7_write_56 : decode cX7_write 56 = .ok (.invokevirtual 68, 3) := by decide +kernel
theorem dX7_write_59 : decode cX7_write 59 = .ok (.imul, 1) := by decide +kernel
theorem dX7_write_60 : decode cX7_write 60 = .ok (.if_icmp .ge 47, 3) := by decide +kernel
theorem dX7_write_63 : decode cX7_write 63 = .ok (.aload_n 0, 1) := by decide +kernel
theorem dX7_write_64 : decode cX7_write 64 = .ok (.iload_n 2, 1) := by decide +kernel
theorem dX7_write_65 : decode cX7_write 65 = .ok (.iconst 2, 1) := by decide +kernel
theorem dX7_write_66 : decode cX7_write 66 = .ok (.idiv, 1) := by decide +kernel
theorem dX7_write_67 : decode cX7_write 67 = .ok (.iload_n 2, 1) := by decide +kernel
theorem dX7_write_68 : decode cX7_write 68 = .ok (.iconst 2, 1) := by decide +kernel
theorem dX7_write_69 : decode cX7_write 69 = .ok (.irem, 1) := by decide +kernel
theorem dX7_write_70 : decode cX7_write 70 = .ok (.invokevirtual 171, 3) := by decide +kernel
theorem dX7_write_73 : decode cX7_write 73 = .ok (.lstore_n 3, 1) := by decide +kernel
theorem dX7_write_74 : decode cX7_write 74 = .ok (.aload_n 0, 1) := by decide +kernel
theorem dX7_write_75 : decode cX7_write 75 = .ok (.getfield 48, 3) := by decide +kernel
theorem dX7_write_78 : decode cX7_write 78 = .ok (.bipush 40, 2) := by decide +kernel
theorem dX7_write_80 : decode cX7_write 80 = .ok (.iload_n 1, 1) := by decide +kernel
theorem dX7_write_81 : decode cX7_write 81 = .ok (.imul, 1) := by decide +kernel
theorem dX7_write_82 : decode cX7_write 82 = .ok (.iload_n 2, 1) := by decide +kernel
theorem dX7_write_83 : decode cX7_write 83 = .ok (.iadd, 1) := by decide +kernel
theorem dX7_write_84 : decode cX7_write 84 = .ok (.aload_n 0, 1) := by decide +kernel
theorem dX7_write_85 : decode cX7_write 85 = .ok (.getfield 42, 3) := by decide +kernel
theorem dX7_write_88 : decode cX7_write 88 = .ok (.iload_n 1, 1) := by decide +kernel
theorem dX7_write_89 : decode cX7_write 89 = .ok (.iaload, 1) := by decide +kernel
theorem dX7_write_90 : decode cX7_write 90 = .ok (.ifCond .ne 9, 3) := by decide +kernel
theorem dX7_write_93 : decode cX7_write 93 = .ok (.lload_n 3, 1) := by decide +kernel
theorem dX7_write_94 : decode cX7_write 94 = .ok (.l2i, 1) := by decide +kernel
theorem dX7_write_95 : decode cX7_write 95 = .ok (.i2l, 1) := by decide +kernel
theorem dX7_write_96 : decode cX7_write 96 = .ok (.goto 4, 3) := by decide +kernel
theorem dX7_write_99 : decode cX7_write 99 = .ok (.lload_n 3, 1) := by decide +kernel
theorem dX7_write_100 : decode cX7_write 100 = .ok (.lastore, 1) := by decide +kernel
theorem dX7_write_101 : decode cX7_write 101 = .ok (.iinc 2 1, 3) := by decide +kernel
theorem dX7_write_104 : decode cX7_write 104 = .ok (.goto (-61), 3) := by decide +kernel
theorem dX7_write_107 : decode cX7_write 107 = .ok (.iload_n 2, 1) := by decide +kernel
theorem dX7_write_108 : decode cX7_write 108 = .ok (.ireturn, 1) := by decide +kernel
theorem dX7_ways_0 : decode cX7_ways 0 = .ok (.iconst 0, 1) := by decide +kernel
theorem dX7_ways_1 : decode cX7_ways 1 = .ok (.istore_n 1, 1) := by decide +kernel
theorem dX7_ways_2 : decode cX7_ways 2 = .ok (.iconst 0, 1) := by decide +kernel
theorem dX7_ways_3 : decode cX7_ways 3 = .ok (.istore_n 2, 1) := by decide +kernel
theorem dX7_ways_4 : decode cX7_ways 4 = .ok (.iload_n 2, 1) := by decide +kernel
theorem dX7_ways_5 : decode cX7_ways 5 = .ok (.bipush 10, 2) := by decide +kernel
theorem dX7_ways_7 : decode cX7_ways 7 = .ok (.if_icmp .ge 25, 3) := by decide +kernel
theorem dX7_ways_10 : decode cX7_ways 10 = .ok (.iload_n 1, 1) := by decide +kernel
theorem dX7_ways_11 : decode cX7_ways 11 = .ok (.aload_n 0, 1) := by decide +kernel
theorem dX7_ways_12 : decode cX7_ways 12 = .ok (.iload_n 2, 1) := by decide +kernel
theorem dX7_ways_13 : decode cX7_ways 13 = .ok (.invokevirtual 131, 3) := by decide +kernel
theorem dX7_ways_16 : decode cX7_ways 16 = .ok (.ifCond .eq 7, 3) := by decide +kernel
theorem dX7_ways_19 : decode cX7_ways 19 = .ok (.iconst 1, 1) := by decide +kernel
theorem dX7_ways_20 : decode cX7_ways 20 = .ok (.goto 4, 3) := by decide +kernel
theorem dX7_ways_23 : decode cX7_ways 23 = .ok (.iconst 0, 1) := by decide +kernel
theorem dX7_ways_24 : decode cX7_ways 24 = .ok (.iadd, 1) := by decide +kernel
theorem dX7_ways_25 : decode cX7_ways 25 = .ok (.istore_n 1, 1) := by decide +kernel
theorem dX7_ways_26 : decode cX7_ways 26 = .ok (.iinc 2 1, 3) := by decide +kernel
theorem dX7_ways_29 : decode cX7_ways 29 = .ok (.goto (-25), 3) := by decide +kernel
theorem dX7_ways_32 : decode cX7_ways 32 = .ok (.iload_n 1, 1) := by decide +kernel
theorem dX7_ways_33 : decode cX7_ways 33 = .ok (.ireturn, 1) := by decide +kernel
theorem dX7_count_0 : decode cX7_count 0 = .ok (.aload_n 0, 1) := by decide +kernel
theorem dX7_count_1 : decode cX7_count 1 = .ok (.aload_n 0, 1) := by decide +kernel
theorem dX7_count_2 : decode cX7_count 2 = .ok (.getfield 76, 3) := by decide +kernel
theorem dX7_count_5 : decode cX7_count 5 = .ok (.invokevirtual 157, 3) := by decide +kernel
theorem dX7_count_8 : decode cX7_count 8 = .ok (.istore_n 2, 1) := by decide +kernel
theorem dX7_count_9 : decode cX7_count 9 = .ok (.iload_n 1, 1) := by decide +kernel
theorem dX7_count_10 : decode cX7_count 10 = .ok (.tableswitch 125 0 8 #[50, 55, 63, 68, 82, 99, 110, 115, 120], 50) := by decide +kernel
theorem dX7_count_60 : decode cX7_count 60 = .ok (.aload_n 0, 1) := by decide +kernel
theorem dX7_count_61 : decode cX7_count 61 = .ok (.getfield 60, 3) := by decide +kernel
theorem dX7_count_64 : decode cX7_count 64 = .ok (.ireturn, 1) := by decide +kernel
theorem dX7_count_65 : decode cX7_count 65 = .ok (.aload_n 0, 1) := by decide +kernel
theorem dX7_count_66 : decode cX7_count 66 = .ok (.getfield 76, 3) := by decide +kernel
theorem dX7_count_69 : decode cX7_count 69 = .ok (.invokestatic 145, 3) := by decide +kernel
theorem dX7_count_72 : decode cX7_count 72 = .ok (.ireturn, 1) := by decide +kernel
theorem dX7_count_73 : decode cX7_count 73 = .ok (.aload_n 0, 1) := by decide +kernel
theorem dX7_count_74 : decode cX7_count 74 = .ok (.invokevirtual 233, 3) := by decide +kernel
theorem dX7_count_77 : decode cX7_count 77 = .ok (.ireturn, 1) := by decide +kernel
theorem dX7_count_78 : decode cX7_count 78 = .ok (.iload_n 2, 1) := by decide +kernel
theorem dX7_count_79 : decode cX7_count 79 = .ok (.iconst (-1), 1) := by decide +kernel
theorem dX7_count_80 : decode cX7_count 80 = .ok (.if_icmp .ne 7, 3) := by decide +kernel
theorem dX7_count_83 : decode cX7_count 83 = .ok (.iconst (-1), 1) := by decide +kernel
theorem dX7_count_84 : decode cX7_count 84 = .ok (.goto 7, 3) := by decide +kernel
theorem dX7_count_87 : decode cX7_count 87 = .ok (.iload_n 2, 1) := by decide +kernel
theorem dX7_count_88 : decode cX7_count 88 = .ok (.invokestatic 145, 3) := by decide +kernel
theorem dX7_count_91 : decode cX7_count 91 = .ok (.ireturn, 1) := by decide +kernel
theorem dX7_count_92 : decode cX7_count 92 = .ok (.iload_n 2, 1) := by decide +kernel
theorem dX7_count_93 : decode cX7_count 93 = .ok (.iconst (-1), 1) := by decide +kernel
theorem dX7_count_94 : decode cX7_count 94 = .ok (.if_icmp .ne 7, 3) := by decide +kernel
theorem dX7_count_97 : decode cX7_count 97 = .ok (.iconst (-1), 1) := by decide +kernel
theorem dX7_count_98 : decode cX7_count 98 = .ok (.goto 10, 3) := by decide +kernel
theorem dX7_count_101 : decode cX7_count 101 = .ok (.aload_n 0, 1) := by decide +kernel
theorem dX7_count_102 : decode cX7_count 102 = .ok (.invokevirtual 180, 3) := by decide +kernel
theorem dX7_count_105 : decode cX7_count 105 = .ok (.invokestatic 145, 3) := by decide +kernel
theorem dX7_count_108 : decode cX7_count 108 = .ok (.ireturn, 1) := by decide +kernel
theorem dX7_count_109 : decode cX7_count 109 = .ok (.iload_n 2, 1) := by decide +kernel
theorem dX7_count_110 : decode cX7_count 110 = .ok (.iconst (-1), 1) := by decide +kernel
theorem dX7_count_111 : decode cX7_count 111 = .ok (.if_icmp .ne 7, 3) := by decide +kernel
theorem dX7_count_114 : decode cX7_count 114 = .ok (.iconst 0, 1) := by decide +kernel
theorem dX7_count_115 : decode cX7_count 115 = .ok (.goto 4, 3) := by decide +kernel
theorem dX7_count_118 : decode cX7_count 118 = .ok (.iconst 1, 1) := by decide +kernel
theorem dX7_count_119 : decode cX7_count 119 = .ok (.ireturn, 1) := by decide +kernel
theorem dX7_count_120 : decode cX7_count 120 = .ok (.aload_n 0, 1) := by decide +kernel
theorem dX7_count_121 : decode cX7_count 121 = .ok (.invokevirtual 236, 3) := by decide +kernel
theorem dX7_count_124 : decode cX7_count 124 = .ok (.ireturn, 1) := by decide +kernel
theorem dX7_count_125 : decode cX7_count 125 = .ok (.aload_n 0, 1) := by decide +kernel
theorem dX7_count_126 : decode cX7_count 126 = .ok (.invokevirtual 207, 3) := by decide +kernel
theorem dX7_count_129 : decode cX7_count 129 = .ok (.ireturn, 1) := by decide +kernel
theorem dX7_count_130 : decode cX7_count 130 = .ok (.aload_n 0, 1) := by decide +kernel
theorem dX7_count_131 : decode cX7_count 131 = .ok (.getfield 228, 3) := by decide +kernel
theorem dX7_count_134 : decode cX7_count 134 = .ok (.ireturn, 1) := by decide +kernel
theorem dX7_count_135 : decode cX7_count 135 = .ok (.bipush (-2), 2) := by decide +kernel
theorem dX7_count_137 : decode cX7_count 137 = .ok (.ireturn, 1) := by decide +kernel
theorem dX7_pairDigest_0 : decode cX7_pairDigest 0 = .ok (.lload_n 1, 1) := by decide +kernel
theorem dX7_pairDigest_1 : decode cX7_pairDigest 1 = .ok (.lstore 4, 2) := by decide +kernel
theorem dX7_pairDigest_3 : decode cX7_pairDigest 3 = .ok (.iconst 0, 1) := by decide +kernel
theorem dX7_pairDigest_4 : decode cX7_pairDigest 4 = .ok (.istore 6, 2) := by decide +kernel
theorem dX7_pairDigest_6 : decode cX7_pairDigest 6 = .ok (.iload 6, 2) := by decide +kernel
theorem dX7_pairDigest_8 : decode cX7_pairDigest 8 = .ok (.iconst 4, 1) := by decide +kernel
theorem dX7_pairDigest_9 : decode cX7_pairDigest 9 = .ok (.if_icmp .ge 26, 3) := by decide +kernel
theorem dX7_pairDigest_12 : decode cX7_pairDigest 12 = .ok (.ldc2_w 239, 3) := by decide +kernel
theorem dX7_pairDigest_15 : decode cX7_pairDigest 15 = .ok (.lload 4, 2) := by decide +kernel
theorem dX7_pairDigest_17 : decode cX7_pairDigest 17 = .ok (.lmul, 1) := by decide +kernel
theorem dX7_pairDigest_18 : decode cX7_pairDigest 18 = .ok (.aload_n 0, 1) := by decide +kernel
theorem dX7_pairDigest_19 : decode cX7_pairDigest 19 = .ok (.iload_n 3, 1) := by decide +kernel
theorem dX7_pairDigest_20 : decode cX7_pairDigest 20 = .ok (.iload 6, 2) := by decide +kernel
theorem dX7_pairDigest_22 : decode cX7_pairDigest 22 = .ok (.invokevirtual 114, 3) := by decide +kernel
theorem dX7_pairDigest_25 : decode cX7_pairDigest 25 = .ok (.i2l, 1) := by decide +kernel
theorem dX7_pairDigest_26 : decode cX7_pairDigest 26 = .ok (.ladd, 1) := by decide +kernel
theorem dX7_pairDigest_27 : decode cX7_pairDigest 27 = .ok (.lstore 4, 2) := by decide +kernel
theorem dX7_pairDigest_29 : decode cX7_pairDigest 29 = .ok (.iinc 6 1, 3) := by decide +kernel
theorem dX7_pairDigest_32 : decode cX7_pairDigest 32 = .ok (.goto (-26), 3) := by decide +kernel
theorem dX7_pairDigest_35 : decode cX7_pairDigest 35 = .ok (.ldc2_w 239, 3) := by decide +kernel
theorem dX7_pairDigest_38 : decode cX7_pairDigest 38 = .ok (.lload 4, 2) := by decide +kernel
theorem dX7_pairDigest_40 : decode cX7_pairDigest 40 = .ok (.lmul, 1) := by decide +kernel
theorem dX7_pairDigest_41 : decode cX7_pairDigest 41 = .ok (.aload_n 0, 1) := by decide +kernel
theorem dX7_pairDigest_42 : decode cX7_pairDigest 42 = .ok (.iload_n 3, 1) := by decide +kernel
theorem dX7_pairDigest_43 : decode cX7_pairDigest 43 = .ok (.iconst 0, 1) := by decide +kernel
theorem dX7_pairDigest_44 : decode cX7_pairDigest 44 = .ok (.invokevirtual 171, 3) := by decide +kernel
theorem dX7_pairDigest_47 : decode cX7_pairDigest 47 = .ok (.ladd, 1) := by decide +kernel
theorem dX7_pairDigest_48 : decode cX7_pairDigest 48 = .ok (.lstore 4, 2) := by decide +kernel
theorem dX7_pairDigest_50 : decode cX7_pairDigest 50 = .ok (.ldc2_w 239, 3) := by decide +kernel
theorem dX7_pairDigest_53 : decode cX7_pairDigest 53 = .ok (.lload 4, 2) := by decide +kernel
theorem dX7_pairDigest_55 : decode cX7_pairDigest 55 = .ok (.lmul, 1) := by decide +kernel
theorem dX7_pairDigest_56 : decode cX7_pairDigest 56 = .ok (.aload_n 0, 1) := by decide +kernel
theorem dX7_pairDigest_57 : decode cX7_pairDigest 57 = .ok (.iload_n 3, 1) := by decide +kernel
theorem dX7_pairDigest_58 : decode cX7_pairDigest 58 = .ok (.iconst 1, 1) := by decide +kernel
theorem dX7_pairDigest_59 : decode cX7_pairDigest 59 = .ok (.invokevirtual 171, 3) := by decide +kernel
theorem dX7_pairDigest_62 : decode cX7_pairDigest 62 = .ok (.ladd, 1) := by decide +kernel
theorem dX7_pairDigest_63 : decode cX7_pairDigest 63 = .ok (.lstore 4, 2) := by decide +kernel
theorem dX7_pairDigest_65 : decode cX7_pairDigest 65 = .ok (.ldc2_w 239, 3) := by decide +kernel
theorem dX7_pairDigest_68 : decode cX7_pairDigest 68 = .ok (.lload 4, 2) := by decide +kernel
theorem dX7_pairDigest_70 : decode cX7_pairDigest 70 = .ok (.lmul, 1) := by decide +kernel
theorem dX7_pairDigest_71 : decode cX7_pairDigest 71 = .ok (.aload_n 0, 1) := by decide +kernel
theorem dX7_pairDigest_72 : decode cX7_pairDigest 72 = .ok (.iload_n 3, 1) := by decide +kernel
theorem dX7_pairDigest_73 : decode cX7_pairDigest 73 = .ok (.iconst 0, 1) := by decide +kernel
theorem dX7_pairDigest_74 : decode cX7_pairDigest 74 = .ok (.invokevirtual 241, 3) := by decide +kernel
theorem dX7_pairDigest_77 : decode cX7_pairDigest 77 = .ok (.ladd, 1) := by decide +kernel
theorem dX7_pairDigest_78 : decode cX7_pairDigest 78 = .ok (.lstore 4, 2) := by decide +kernel
theorem dX7_pairDigest_80 : decode cX7_pairDigest 80 = .ok (.ldc2_w 239, 3) := by decide +kernel
theorem dX7_pairDigest_83 : decode cX7_pairDigest 83 = .ok (.lload 4, 2) := by decide +kernel
theorem dX7_pairDigest_85 : decode cX7_pairDigest 85 = .ok (.lmul, 1) := by decide +kernel
theorem dX7_pairDigest_86 : decode cX7_pairDigest 86 = .ok (.aload_n 0, 1) := by decide +kernel
theorem dX7_pairDigest_87 : decode cX7_pairDigest 87 = .ok (.iload_n 3, 1) := by decide +kernel
theorem dX7_pairDigest_88 : decode cX7_pairDigest 88 = .ok (.iconst 1, 1) := by decide +kernel
theorem dX7_pairDigest_89 : decode cX7_pairDigest 89 = .ok (.invokevirtual 241, 3) := by decide +kernel
theorem dX7_pairDigest_92 : decode cX7_pairDigest 92 = .ok (.ladd, 1) := by decide +kernel
theorem dX7_pairDigest_93 : decode cX7_pairDigest 93 = .ok (.lstore 4, 2) := by decide +kernel
theorem dX7_pairDigest_95 : decode cX7_pairDigest 95 = .ok (.aload_n 0, 1) := by decide +kernel
theorem dX7_pairDigest_96 : decode cX7_pairDigest 96 = .ok (.iload_n 3, 1) := by decide +kernel
theorem dX7_pairDigest_97 : decode cX7_pairDigest 97 = .ok (.invokevirtual 174, 3) := by decide +kernel
theorem dX7_pairDigest_100 : decode cX7_pairDigest 100 = .ok (.ifCond .eq 47, 3) := by decide +kernel
theorem dX7_pairDigest_103 : decode cX7_pairDigest 103 = .ok (.ldc2_w 239, 3) := by decide +kernel
theorem dX7_pairDigest_106 : decode cX7_pairDigest 106 = .ok (.lload 4, 2) := by decide +kernel
theorem dX7_pairDigest_108 : decode cX7_pairDigest 108 = .ok (.lmul, 1) := by decide +kernel
theorem dX7_pairDigest_109 : decode cX7_pairDigest 109 = .ok (.aload_n 0, 1) := by decide +kernel
theorem dX7_pairDigest_110 : decode cX7_pairDigest 110 = .ok (.iload_n 3, 1) := by decide +kernel
theorem dX7_pairDigest_111 : decode cX7_pairDigest 111 = .ok (.iconst 0, 1) := by decide +kernel
theorem dX7_pairDigest_112 : decode cX7_pairDigest 112 = .ok (.invokevirtual 244, 3) := by decide +kernel
theorem dX7_pairDigest_115 : decode cX7_pairDigest 115 = .ok (.ladd, 1) := by decide +kernel
theorem dX7_pairDigest_116 : decode cX7_pairDigest 116 = .ok (.lstore 4, 2) := by decide +kernel
theorem dX7_pairDigest_118 : decode cX7_pairDigest 118 = .ok (.ldc2_w 239, 3) := by decide +kernel
theorem dX7_pairDigest_121 : decode cX7_pairDigest 121 = .ok (.lload 4, 2) := by decide +kernel
theorem dX7_pairDigest_123 : decode cX7_pairDigest 123 = .ok (.lmul, 1) := by decide +kernel
theorem dX7_pairDigest_124 : decode cX7_pairDigest 124 = .ok (.aload_n 0, 1) := by decide +kernel
theorem dX7_pairDigest_125 : decode cX7_pairDigest 125 = .ok (.iload_n 3, 1) := by decide +kernel
theorem dX7_pairDigest_126 : decode cX7_pairDigest 126 = .ok (.iconst 1, 1) := by decide +kernel
theorem dX7_pairDigest_127 : decode cX7_pairDigest 127 = .ok (.invokevirtual 244, 3) := by decide +kernel
theorem dX7_pairDigest_130 : decode cX7_pairDigest 130 = .ok (.ladd, 1) := by decide +kernel
theorem dX7_pairDigest_131 : decode cX7_pairDigest 131 = .ok (.lstore 4, 2) := by decide +kernel
theorem dX7_pairDigest_133 : decode cX7_pairDigest 133 = .ok (.ldc2_w 239, 3) := by decide +kernel
theorem dX7_pairDigest_136 : decode cX7_pairDigest 136 = .ok (.lload 4, 2) := by decide +kernel
theorem dX7_pairDigest_138 : decode cX7_pairDigest 138 = .ok (.lmul, 1) := by decide +kernel
theorem dX7_pairDigest_139 : decode cX7_pairDigest 139 = .ok (.aload_n 0, 1) := by decide +kernel
theorem dX7_pairDigest_140 : decode cX7_pairDigest 140 = .ok (.iload_n 3, 1) := by decide +kernel
theorem dX7_pairDigest_141 : decode cX7_pairDigest 141 = .ok (.invokevirtual 247, 3) := by decide +kernel
theorem dX7_pairDigest_144 : decode cX7_pairDigest 144 = .ok (.i2l, 1) := by decide +kernel
theorem dX7_pairDigest_145 : decode cX7_pairDigest 145 = .ok (.ladd, 1) := by decide +kernel
theorem dX7_pairDigest_146 : decode cX7_pairDigest 146 = .ok (.lreturn, 1) := by decide +kernel
theorem dX7_pairDigest_147 : decode cX7_pairDigest 147 = .ok (.ldc2_w 239, 3) := by decide +kernel
theorem dX7_pairDigest_150 : decode cX7_pairDigest 150 = .ok (.lload 4, 2) := by decide +kernel
theorem dX7_pairDigest_152 : decode cX7_pairDigest 152 = .ok (.lmul, 1) := by decide +kernel
theorem dX7_pairDigest_153 : decode cX7_pairDigest 153 = .ok (.aload_n 0, 1) := by decide +kernel
theorem dX7_pairDigest_154 : decode cX7_pairDigest 154 = .ok (.iload_n 3, 1) := by decide +kernel
theorem dX7_pairDigest_155 : decode cX7_pairDigest 155 = .ok (.iconst 0, 1) := by decide +kernel
theorem dX7_pairDigest_156 : decode cX7_pairDigest 156 = .ok (.invokevirtual 186, 3) := by decide +kernel
theorem dX7_pairDigest_159 : decode cX7_pairDigest 159 = .ok (.ladd, 1) := by decide +kernel
theorem dX7_pairDigest_160 : decode cX7_pairDigest 160 = .ok (.lstore 4, 2) := by decide +kernel
theorem dX7_pairDigest_162 : decode cX7_pairDigest 162 = .ok (.ldc2_w 239, 3) := by decide +kernel
theorem dX7_pairDigest_165 : decode cX7_pairDigest 165 = .ok (.lload 4, 2) := by decide +kernel
theorem dX7_pairDigest_167 : decode cX7_pairDigest 167 = .ok (.lmul, 1) := by decide +kernel
theorem dX7_pairDigest_168 : decode cX7_pairDigest 168 = .ok (.aload_n 0, 1) := by decide +kernel
theorem dX7_pairDigest_169 : decode cX7_pairDigest 169 = .ok (.iload_n 3, 1) := by decide +kernel
theorem dX7_pairDigest_170 : decode cX7_pairDigest 170 = .ok (.iconst 1, 1) := by decide +kernel
theorem dX7_pairDigest_171 : decode cX7_pairDigest 171 = .ok (.invokevirtual 186, 3) := by decide +kernel
theorem dX7_pairDigest_174 : decode cX7_pairDigest 174 = .ok (.ladd, 1) := by decide +kernel
theorem dX7_pairDigest_175 : decode cX7_pairDigest 175 = .ok (.lreturn, 1) := by decide +kernel
theorem dX7_digest_0 : decode cX7_digest 0 = .ok (.ldc2_w 250, 3) := by decide +kernel
theorem dX7_digest_3 : decode cX7_digest 3 = .ok (.lstore_n 1, 1) := by decide +kernel
theorem dX7_digest_4 : decode cX7_digest 4 = .ok (.iconst 0, 1) := by decide +kernel
theorem dX7_digest_5 : decode cX7_digest 5 = .ok (.istore_n 3, 1) := by decide +kernel
theorem dX7_digest_6 : decode cX7_digest 6 = .ok (.iload_n 3, 1) := by decide +kernel
theorem dX7_digest_7 : decode cX7_digest 7 = .ok (.bipush 8, 2) := by decide +kernel
theorem dX7_digest_9 : decode cX7_digest 9 = .ok (.if_icmp .ge 22, 3) := by decide +kernel
theorem dX7_digest_12 : decode cX7_digest 12 = .ok (.ldc2_w 239, 3) := by decide +kernel
theorem dX7_digest_15 : decode cX7_digest 15 = .ok (.lload_n 1, 1) := by decide +kernel
theorem dX7_digest_16 : decode cX7_digest 16 = .ok (.lmul, 1) := by decide +kernel
theorem dX7_digest_17 : decode cX7_digest 17 = .ok (.aload_n 0, 1) := by decide +kernel
theorem dX7_digest_18 : decode cX7_digest 18 = .ok (.iload_n 3, 1) := by decide +kernel
theorem dX7_digest_19 : decode cX7_digest 19 = .ok (.invokevirtual 252, 3) := by decide +kernel
theorem dX7_digest_22 : decode cX7_digest 22 = .ok (.i2l, 1) := by decide +kernel
theorem dX7_digest_23 : decode cX7_digest 23 = .ok (.ladd, 1) := by decide +kernel
theorem dX7_digest_24 : decode cX7_digest 24 = .ok (.lstore_n 1, 1) := by decide +kernel
theorem dX7_digest_25 : decode cX7_digest 25 = .ok (.iinc 3 1, 3) := by decide +kernel
theorem dX7_digest_28 : decode cX7_digest 28 = .ok (.goto (-22), 3) := by decide +kernel
theorem dX7_digest_31 : decode cX7_digest 31 = .ok (.ldc2_w 239, 3) := by decide +kernel
theorem dX7_digest_34 : decode cX7_digest 34 = .ok (.lload_n 1, 1) := by decide +kernel
theorem dX7_digest_35 : decode cX7_digest 35 = .ok (.lmul, 1) := by decide +kernel
theorem dX7_digest_36 : decode cX7_digest 36 = .ok (.aload_n 0, 1) := by decide +kernel
theorem dX7_digest_37 : decode cX7_digest 37 = .ok (.aload_n 0, 1) := by decide +kernel
theorem dX7_digest_38 : decode cX7_digest 38 = .ok (.getfield 76, 3) := by decide +kernel
theorem dX7_digest_41 : decode cX7_digest 41 = .ok (.iconst 0, 1) := by decide +kernel
theorem dX7_digest_42 : decode cX7_digest 42 = .ok (.invokevirtual 164, 3) := by decide +kernel
theorem dX7_digest_45 : decode cX7_digest 45 = .ok (.ladd, 1) := by decide +kernel
theorem dX7_digest_46 : decode cX7_digest 46 = .ok (.lstore_n 1, 1) := by decide +kernel
theorem dX7_digest_47 : decode cX7_digest 47 = .ok (.ldc2_w 239, 3) := by decide +kernel
theorem dX7_digest_50 : decode cX7_digest 50 = .ok (.lload_n 1, 1) := by decide +kernel
theorem dX7_digest_51 : decode cX7_digest 51 = .ok (.lmul, 1) := by decide +kernel
theorem dX7_digest_52 : decode cX7_digest 52 = .ok (.aload_n 0, 1) := by decide +kernel
theorem dX7_digest_53 : decode cX7_digest 53 = .ok (.aload_n 0, 1) := by decide +kernel
theorem dX7_digest_54 : decode cX7_digest 54 = .ok (.getfield 76, 3) := by decide +kernel
theorem dX7_digest_57 : decode cX7_digest 57 = .ok (.iconst 1, 1) := by decide +kernel
theorem dX7_digest_58 : decode cX7_digest 58 = .ok (.invokevirtual 164, 3) := by decide +kernel
theorem dX7_digest_61 : decode cX7_digest 61 = .ok (.ladd, 1) := by decide +kernel
theorem dX7_digest_62 : decode cX7_digest 62 = .ok (.lstore_n 1, 1) := by decide +kernel
theorem dX7_digest_63 : decode cX7_digest 63 = .ok (.ldc2_w 239, 3) := by decide +kernel
theorem dX7_digest_66 : decode cX7_digest 66 = .ok (.lload_n 1, 1) := by decide +kernel
theorem dX7_digest_67 : decode cX7_digest 67 = .ok (.lmul, 1) := by decide +kernel
theorem dX7_digest_68 : decode cX7_digest 68 = .ok (.aload_n 0, 1) := by decide +kernel
theorem dX7_digest_69 : decode cX7_digest 69 = .ok (.invokevirtual 255, 3) := by decide +kernel
theorem dX7_digest_72 : decode cX7_digest 72 = .ok (.i2l, 1) := by decide +kernel
theorem dX7_digest_73 : decode cX7_digest 73 = .ok (.ladd, 1) := by decide +kernel
theorem dX7_digest_74 : decode cX7_digest 74 = .ok (.lstore_n 1, 1) := by decide +kernel
theorem dX7_digest_75 : decode cX7_digest 75 = .ok (.ldc2_w 239, 3) := by decide +kernel
theorem dX7_digest_78 : decode cX7_digest 78 = .ok (.lload_n 1, 1) := by decide +kernel
theorem dX7_digest_79 : decode cX7_digest 79 = .ok (.lmul, 1) := by decide +kernel
theorem dX7_digest_80 : decode cX7_digest 80 = .ok (.aload_n 0, 1) := by decide +kernel
theorem dX7_digest_81 : decode cX7_digest 81 = .ok (.invokevirtual 168, 3) := by decide +kernel
theorem dX7_digest_84 : decode cX7_digest 84 = .ok (.i2l, 1) := by decide +kernel
theorem dX7_digest_85 : decode cX7_digest 85 = .ok (.ladd, 1) := by decide +kernel
theorem dX7_digest_86 : decode cX7_digest 86 = .ok (.lstore_n 1, 1) := by decide +kernel
theorem dX7_digest_87 : decode cX7_digest 87 = .ok (.ldc2_w 239, 3) := by decide +kernel
theorem dX7_digest_90 : decode cX7_digest 90 = .ok (.lload_n 1, 1) := by decide +kernel
theorem dX7_digest_91 : decode cX7_digest 91 = .ok (.lmul, 1) := by decide +kernel
theorem dX7_digest_92 : decode cX7_digest 92 = .ok (.aload_n 0, 1) := by decide +kernel
theorem dX7_digest_93 : decode cX7_digest 93 = .ok (.invokevirtual 180, 3) := by decide +kernel
theorem dX7_digest_96 : decode cX7_digest 96 = .ok (.i2l, 1) := by decide +kernel
theorem dX7_digest_97 : decode cX7_digest 97 = .ok (.ladd, 1) := by decide +kernel
theorem dX7_digest_98 : decode cX7_digest 98 = .ok (.lstore_n 1, 1) := by decide +kernel
theorem dX7_digest_99 : decode cX7_digest 99 = .ok (.ldc2_w 239, 3) := by decide +kernel
theorem dX7_digest_102 : decode cX7_digest 102 = .ok (.lload_n 1, 1) := by decide +kernel
theorem dX7_digest_103 : decode cX7_digest 103 = .ok (.lmul, 1) := by decide +kernel
theorem dX7_digest_104 : decode cX7_digest 104 = .ok (.aload_n 0, 1) := by decide +kernel
theorem dX7_digest_105 : decode cX7_digest 105 = .ok (.invokevirtual 183, 3) := by decide +kernel
theorem dX7_digest_108 : decode cX7_digest 108 = .ok (.i2l, 1) := by decide +kernel
theorem dX7_digest_109 : decode cX7_digest 109 = .ok (.ladd, 1) := by decide +kernel
theorem dX7_digest_110 : decode cX7_digest 110 = .ok (.lstore_n 1, 1) := by decide +kernel
theorem dX7_digest_111 : decode cX7_digest 111 = .ok (.iconst 0, 1) := by decide +kernel
theorem dX7_digest_112 : decode cX7_digest 112 = .ok (.istore_n 3, 1) := by decide +kernel
theorem dX7_digest_113 : decode cX7_digest 113 = .ok (.iload_n 3, 1) := by decide +kernel
theorem dX7_digest_114 : decode cX7_digest 114 = .ok (.aload_n 0, 1) := by decide +kernel
theorem dX7_digest_115 : decode cX7_digest 115 = .ok (.getfield 60, 3) := by decide +kernel
theorem dX7_digest_118 : decode cX7_digest 118 = .ok (.if_icmp .ge 40, 3) := by decide +kernel
theorem dX7_digest_121 : decode cX7_digest 121 = .ok (.iconst 0, 1) := by decide +kernel
theorem dX7_digest_122 : decode cX7_digest 122 = .ok (.istore 4, 2) := by decide +kernel
theorem dX7_digest_124 : decode cX7_digest 124 = .ok (.iload 4, 2) := by decide +kernel
theorem dX7_digest_126 : decode cX7_digest 126 = .ok (.bipush 7, 2) := by decide +kernel
theorem dX7_digest_128 : decode cX7_digest 128 = .ok (.if_icmp .ge 24, 3) := by decide +kernel
theorem dX7_digest_131 : decode cX7_digest 131 = .ok (.ldc2_w 239, 3) := by decide +kernel
theorem dX7_digest_134 : decode cX7_digest 134 = .ok (.lload_n 1, 1) := by decide +kernel
theorem dX7_digest_135 : decode cX7_digest 135 = .ok (.lmul, 1) := by decide +kernel
theorem dX7_digest_136 : decode cX7_digest 136 = .ok (.aload_n 0, 1) := by decide +kernel
theorem dX7_digest_137 : decode cX7_digest 137 = .ok (.iload_n 3, 1) := by decide +kernel
theorem dX7_digest_138 : decode cX7_digest 138 = .ok (.iload 4, 2) := by decide +kernel
theorem dX7_digest_140 : decode cX7_digest 140 = .ok (.invokevirtual 108, 3) := by decide +kernel
theorem dX7_digest_143 : decode cX7_digest 143 = .ok (.i2l, 1) := by decide +kernel
theorem dX7_digest_144 : decode cX7_digest 144 = .ok (.ladd, 1) := by decide +kernel
theorem dX7_digest_145 : decode cX7_digest 145 = .ok (.lstore_n 1, 1) := by decide +kernel
theorem dX7_digest_146 : decode cX7_digest 146 = .ok (.iinc 4 1, 3) := by decide +kernel
theorem dX7_digest_149 : decode cX7_digest 149 = .ok (.goto (-25), 3) := by decide +kernel
theorem dX7_digest_152 : decode cX7_digest 152 = .ok (.iinc 3 1, 3) := by decide +kernel
theorem dX7_digest_155 : decode cX7_digest 155 = .ok (.goto (-42), 3) := by decide +kernel
theorem dX7_digest_158 : decode cX7_digest 158 = .ok (.iconst 0, 1) := by decide +kernel
theorem dX7_digest_159 : decode cX7_digest 159 = .ok (.istore_n 3, 1) := by decide +kernel
theorem dX7_digest_160 : decode cX7_digest 160 = .ok (.iload_n 3, 1) := by decide +kernel
theorem dX7_digest_161 : decode cX7_digest 161 = .ok (.aload_n 0, 1) := by decide +kernel
theorem dX7_digest_162 : decode cX7_digest 162 = .ok (.invokevirtual 68, 3) := by decide +kernel
theorem dX7_digest_165 : decode cX7_digest 165 = .ok (.if_icmp .ge 16, 3) := by decide +kernel
theorem dX7_digest_168 : decode cX7_digest 168 = .ok (.aload_n 0, 1) := by decide +kernel
theorem dX7_digest_169 : decode cX7_digest 169 = .ok (.lload_n 1, 1) := by decide +kernel
theorem dX7_digest_170 : decode cX7_digest 170 = .ok (.iload_n 3, 1) := by decide +kernel
end
section
theorem dX7_digest_171 : decode cX7_digest 171 = .ok (.invokevirtual 258, 3) := by decide +kernel
theorem dX7_digest_174 : decode cX7_digest 174 = .ok (.lstore_n 1, 1) := by decide +kernel
theorem dX7_digest_175 : decode cX7_digest 175 = .ok (.iinc 3 1, 3) := by decide +kernel
theorem dX7_digest_178 : decode cX7_digest 178 = .ok (.goto (-18), 3) := by decide +kernel
theorem dX7_digest_181 : decode cX7_digest 181 = .ok (.ldc2_w 239, 3) := by decide +kernel
theorem dX7_digest_184 : decode cX7_digest 184 = .ok (.lload_n 1, 1) := by decide +kernel
theorem dX7_digest_185 : decode cX7_digest 185 = .ok (.lmul, 1) := by decide +kernel
theorem dX7_digest_186 : decode cX7_digest 186 = .ok (.aload_n 0, 1) := by decide +kernel
theorem dX7_digest_187 : decode cX7_digest 187 = .ok (.iconst 0, 1) := by decide +kernel
theorem dX7_digest_188 : decode cX7_digest 188 = .ok (.invokevirtual 262, 3) := by decide +kernel
theorem dX7_digest_191 : decode cX7_digest 191 = .ok (.ladd, 1) := by decide +kernel
theorem dX7_digest_192 : decode cX7_digest 192 = .ok (.lstore_n 1, 1) := by decide +kernel
theorem dX7_digest_193 : decode cX7_digest 193 = .ok (.ldc2_w 239, 3) := by decide +kernel
theorem dX7_digest_196 : decode cX7_digest 196 = .ok (.lload_n 1, 1) := by decide +kernel
theorem dX7_digest_197 : decode cX7_digest 197 = .ok (.lmul, 1) := by decide +kernel
theorem dX7_digest_198 : decode cX7_digest 198 = .ok (.aload_n 0, 1) := by decide +kernel
theorem dX7_digest_199 : decode cX7_digest 199 = .ok (.iconst 1, 1) := by decide +kernel
theorem dX7_digest_200 : decode cX7_digest 200 = .ok (.invokevirtual 262, 3) := by decide +kernel
theorem dX7_digest_203 : decode cX7_digest 203 = .ok (.ladd, 1) := by decide +kernel
theorem dX7_digest_204 : decode cX7_digest 204 = .ok (.lstore_n 1, 1) := by decide +kernel
theorem dX7_digest_205 : decode cX7_digest 205 = .ok (.aload_n 0, 1) := by decide +kernel
theorem dX7_digest_206 : decode cX7_digest 206 = .ok (.invokevirtual 236, 3) := by decide +kernel
theorem dX7_digest_209 : decode cX7_digest 209 = .ok (.istore_n 3, 1) := by decide +kernel
theorem dX7_digest_210 : decode cX7_digest 210 = .ok (.iconst 0, 1) := by decide +kernel
theorem dX7_digest_211 : decode cX7_digest 211 = .ok (.istore 4, 2) := by decide +kernel
theorem dX7_digest_213 : decode cX7_digest 213 = .ok (.iload 4, 2) := by decide +kernel
theorem dX7_digest_215 : decode cX7_digest 215 = .ok (.iload_n 3, 1) := by decide +kernel
theorem dX7_digest_216 : decode cX7_digest 216 = .ok (.if_icmp .ge 41, 3) := by decide +kernel
theorem dX7_digest_219 : decode cX7_digest 219 = .ok (.iconst 0, 1) := by decide +kernel
theorem dX7_digest_220 : decode cX7_digest 220 = .ok (.istore 5, 2) := by decide +kernel
theorem dX7_digest_222 : decode cX7_digest 222 = .ok (.iload 5, 2) := by decide +kernel
theorem dX7_digest_224 : decode cX7_digest 224 = .ok (.bipush 6, 2) := by decide +kernel
theorem dX7_digest_226 : decode cX7_digest 226 = .ok (.if_icmp .ge 25, 3) := by decide +kernel
theorem dX7_digest_229 : decode cX7_digest 229 = .ok (.ldc2_w 239, 3) := by decide +kernel
theorem dX7_digest_232 : decode cX7_digest 232 = .ok (.lload_n 1, 1) := by decide +kernel
theorem dX7_digest_233 : decode cX7_digest 233 = .ok (.lmul, 1) := by decide +kernel
theorem dX7_digest_234 : decode cX7_digest 234 = .ok (.aload_n 0, 1) := by decide +kernel
theorem dX7_digest_235 : decode cX7_digest 235 = .ok (.iload 4, 2) := by decide +kernel
theorem dX7_digest_237 : decode cX7_digest 237 = .ok (.iload 5, 2) := by decide +kernel
theorem dX7_digest_239 : decode cX7_digest 239 = .ok (.invokevirtual 225, 3) := by decide +kernel
theorem dX7_digest_242 : decode cX7_digest 242 = .ok (.i2l, 1) := by decide +kernel
theorem dX7_digest_243 : decode cX7_digest 243 = .ok (.ladd, 1) := by decide +kernel
theorem dX7_digest_244 : decode cX7_digest 244 = .ok (.lstore_n 1, 1) := by decide +kernel
theorem dX7_digest_245 : decode cX7_digest 245 = .ok (.iinc 5 1, 3) := by decide +kernel
theorem dX7_digest_248 : decode cX7_digest 248 = .ok (.goto (-26), 3) := by decide +kernel
theorem dX7_digest_251 : decode cX7_digest 251 = .ok (.iinc 4 1, 3) := by decide +kernel
theorem dX7_digest_254 : decode cX7_digest 254 = .ok (.goto (-41), 3) := by decide +kernel
theorem dX7_digest_257 : decode cX7_digest 257 = .ok (.lload_n 1, 1) := by decide +kernel
theorem dX7_digest_258 : decode cX7_digest 258 = .ok (.lreturn, 1) := by decide +kernel
theorem dJ6_bitCount_0f7a4_0 : decode cJ6_bitCount_0f7a4 0 = .ok (.iload_n 0, 1) := by decide +kernel
theorem dJ6_bitCount_0f7a4_1 : decode cJ6_bitCount_0f7a4 1 = .ok (.iload_n 0, 1) := by decide +kernel
theorem dJ6_bitCount_0f7a4_2 : decode cJ6_bitCount_0f7a4 2 = .ok (.iconst 1, 1) := by decide +kernel
theorem dJ6_bitCount_0f7a4_3 : decode cJ6_bitCount_0f7a4 3 = .ok (.iushr, 1) := by decide +kernel
theorem dJ6_bitCount_0f7a4_4 : decode cJ6_bitCount_0f7a4 4 = .ok (.ldc_w 265, 3) := by decide +kernel
theorem dJ6_bitCount_0f7a4_7 : decode cJ6_bitCount_0f7a4 7 = .ok (.iand, 1) := by decide +kernel
theorem dJ6_bitCount_0f7a4_8 : decode cJ6_bitCount_0f7a4 8 = .ok (.isub, 1) := by decide +kernel
theorem dJ6_bitCount_0f7a4_9 : decode cJ6_bitCount_0f7a4 9 = .ok (.istore_n 0, 1) := by decide +kernel
theorem dJ6_bitCount_0f7a4_10 : decode cJ6_bitCount_0f7a4 10 = .ok (.iload_n 0, 1) := by decide +kernel
theorem dJ6_bitCount_0f7a4_11 : decode cJ6_bitCount_0f7a4 11 = .ok (.ldc_w 266, 3) := by decide +kernel
theorem dJ6_bitCount_0f7a4_14 : decode cJ6_bitCount_0f7a4 14 = .ok (.iand, 1) := by decide +kernel
theorem dJ6_bitCount_0f7a4_15 : decode cJ6_bitCount_0f7a4 15 = .ok (.iload_n 0, 1) := by decide +kernel
theorem dJ6_bitCount_0f7a4_16 : decode cJ6_bitCount_0f7a4 16 = .ok (.iconst 2, 1) := by decide +kernel
theorem dJ6_bitCount_0f7a4_17 : decode cJ6_bitCount_0f7a4 17 = .ok (.iushr, 1) := by decide +kernel
theorem dJ6_bitCount_0f7a4_18 : decode cJ6_bitCount_0f7a4 18 = .ok (.ldc_w 266, 3) := by decide +kernel
theorem dJ6_bitCount_0f7a4_21 : decode cJ6_bitCount_0f7a4 21 = .ok (.iand, 1) := by decide +kernel
theorem dJ6_bitCount_0f7a4_22 : decode cJ6_bitCount_0f7a4 22 = .ok (.iadd, 1) := by decide +kernel
theorem dJ6_bitCount_0f7a4_23 : decode cJ6_bitCount_0f7a4 23 = .ok (.istore_n 0, 1) := by decide +kernel
theorem dJ6_bitCount_0f7a4_24 : decode cJ6_bitCount_0f7a4 24 = .ok (.iload_n 0, 1) := by decide +kernel
theorem dJ6_bitCount_0f7a4_25 : decode cJ6_bitCount_0f7a4 25 = .ok (.iload_n 0, 1) := by decide +kernel
theorem dJ6_bitCount_0f7a4_26 : decode cJ6_bitCount_0f7a4 26 = .ok (.iconst 4, 1) := by decide +kernel
theorem dJ6_bitCount_0f7a4_27 : decode cJ6_bitCount_0f7a4 27 = .ok (.iushr, 1) := by decide +kernel
theorem dJ6_bitCount_0f7a4_28 : decode cJ6_bitCount_0f7a4 28 = .ok (.iadd, 1) := by decide +kernel
theorem dJ6_bitCount_0f7a4_29 : decode cJ6_bitCount_0f7a4 29 = .ok (.ldc_w 267, 3) := by decide +kernel
theorem dJ6_bitCount_0f7a4_32 : decode cJ6_bitCount_0f7a4 32 = .ok (.iand, 1) := by decide +kernel
theorem dJ6_bitCount_0f7a4_33 : decode cJ6_bitCount_0f7a4 33 = .ok (.istore_n 0, 1) := by decide +kernel
theorem dJ6_bitCount_0f7a4_34 : decode cJ6_bitCount_0f7a4 34 = .ok (.iload_n 0, 1) := by decide +kernel
theorem dJ6_bitCount_0f7a4_35 : decode cJ6_bitCount_0f7a4 35 = .ok (.iload_n 0, 1) := by decide +kernel
theorem dJ6_bitCount_0f7a4_36 : decode cJ6_bitCount_0f7a4 36 = .ok (.bipush 8, 2) := by decide +kernel
theorem dJ6_bitCount_0f7a4_38 : decode cJ6_bitCount_0f7a4 38 = .ok (.iushr, 1) := by decide +kernel
theorem dJ6_bitCount_0f7a4_39 : decode cJ6_bitCount_0f7a4 39 = .ok (.iadd, 1) := by decide +kernel
theorem dJ6_bitCount_0f7a4_40 : decode cJ6_bitCount_0f7a4 40 = .ok (.istore_n 0, 1) := by decide +kernel
theorem dJ6_bitCount_0f7a4_41 : decode cJ6_bitCount_0f7a4 41 = .ok (.iload_n 0, 1) := by decide +kernel
theorem dJ6_bitCount_0f7a4_42 : decode cJ6_bitCount_0f7a4 42 = .ok (.iload_n 0, 1) := by decide +kernel
theorem dJ6_bitCount_0f7a4_43 : decode cJ6_bitCount_0f7a4 43 = .ok (.bipush 16, 2) := by decide +kernel
theorem dJ6_bitCount_0f7a4_45 : decode cJ6_bitCount_0f7a4 45 = .ok (.iushr, 1) := by decide +kernel
theorem dJ6_bitCount_0f7a4_46 : decode cJ6_bitCount_0f7a4 46 = .ok (.iadd, 1) := by decide +kernel
theorem dJ6_bitCount_0f7a4_47 : decode cJ6_bitCount_0f7a4 47 = .ok (.istore_n 0, 1) := by decide +kernel
theorem dJ6_bitCount_0f7a4_48 : decode cJ6_bitCount_0f7a4 48 = .ok (.iload_n 0, 1) := by decide +kernel
theorem dJ6_bitCount_0f7a4_49 : decode cJ6_bitCount_0f7a4 49 = .ok (.bipush 63, 2) := by decide +kernel
theorem dJ6_bitCount_0f7a4_51 : decode cJ6_bitCount_0f7a4 51 = .ok (.iand, 1) := by decide +kernel
theorem dJ6_bitCount_0f7a4_52 : decode cJ6_bitCount_0f7a4 52 = .ok (.ireturn, 1) := by decide +kernel
theorem dJ9_abs_067f4_0 : decode cJ9_abs_067f4 0 = .ok (.lload_n 0, 1) := by decide +kernel
theorem dJ9_abs_067f4_1 : decode cJ9_abs_067f4 1 = .ok (.lconst 0, 1) := by decide +kernel
theorem dJ9_abs_067f4_2 : decode cJ9_abs_067f4 2 = .ok (.lcmp, 1) := by decide +kernel
theorem dJ9_abs_067f4_3 : decode cJ9_abs_067f4 3 = .ok (.ifCond .ge 8, 3) := by decide +kernel
theorem dJ9_abs_067f4_6 : decode cJ9_abs_067f4 6 = .ok (.lload_n 0, 1) := by decide +kernel
theorem dJ9_abs_067f4_7 : decode cJ9_abs_067f4 7 = .ok (.lneg, 1) := by decide +kernel
theorem dJ9_abs_067f4_8 : decode cJ9_abs_067f4 8 = .ok (.goto 4, 3) := by decide +kernel
theorem dJ9_abs_067f4_11 : decode cJ9_abs_067f4 11 = .ok (.lload_n 0, 1) := by decide +kernel
theorem dJ9_abs_067f4_12 : decode cJ9_abs_067f4 12 = .ok (.lreturn, 1) := by decide +kernel
theorem dJ9_min_7cf53_0 : decode cJ9_min_7cf53 0 = .ok (.iload_n 0, 1) := by decide +kernel
theorem dJ9_min_7cf53_1 : decode cJ9_min_7cf53 1 = .ok (.iload_n 1, 1) := by decide +kernel
theorem dJ9_min_7cf53_2 : decode cJ9_min_7cf53 2 = .ok (.if_icmp .gt 7, 3) := by decide +kernel
theorem dJ9_min_7cf53_5 : decode cJ9_min_7cf53 5 = .ok (.iload_n 0, 1) := by decide +kernel
theorem dJ9_min_7cf53_6 : decode cJ9_min_7cf53 6 = .ok (.goto 4, 3) := by decide +kernel
theorem dJ9_min_7cf53_9 : decode cJ9_min_7cf53 9 = .ok (.iload_n 1, 1) := by decide +kernel
theorem dJ9_min_7cf53_10 : decode cJ9_min_7cf53 10 = .ok (.ireturn, 1) := by decide +kernel
theorem dL_law_0 : decode cL_law 0 = .ok (.new 7, 3) := by decide +kernel
theorem dL_law_3 : decode cL_law 3 = .ok (.dup, 1) := by decide +kernel
theorem dL_law_4 : decode cL_law 4 = .ok (.invokespecial 9, 3) := by decide +kernel
theorem dL_law_7 : decode cL_law 7 = .ok (.astore_n 1, 1) := by decide +kernel
theorem dL_law_8 : decode cL_law 8 = .ok (.new 10, 3) := by decide +kernel
theorem dL_law_11 : decode cL_law 11 = .ok (.dup, 1) := by decide +kernel
theorem dL_law_12 : decode cL_law 12 = .ok (.invokespecial 12, 3) := by decide +kernel
theorem dL_law_15 : decode cL_law 15 = .ok (.astore_n 2, 1) := by decide +kernel
theorem dL_law_16 : decode cL_law 16 = .ok (.iconst 0, 1) := by decide +kernel
theorem dL_law_17 : decode cL_law 17 = .ok (.istore_n 3, 1) := by decide +kernel
theorem dL_law_18 : decode cL_law 18 = .ok (.iload_n 3, 1) := by decide +kernel
theorem dL_law_19 : decode cL_law 19 = .ok (.aload_n 0, 1) := by decide +kernel
theorem dL_law_20 : decode cL_law 20 = .ok (.arraylength, 1) := by decide +kernel
theorem dL_law_21 : decode cL_law 21 = .ok (.bipush 6, 2) := by decide +kernel
theorem dL_law_23 : decode cL_law 23 = .ok (.isub, 1) := by decide +kernel
theorem dL_law_24 : decode cL_law 24 = .ok (.if_icmp .gt 1117, 3) := by decide +kernel
theorem dL_law_27 : decode cL_law 27 = .ok (.aload_n 0, 1) := by decide +kernel
theorem dL_law_28 : decode cL_law 28 = .ok (.iload_n 3, 1) := by decide +kernel
theorem dL_law_29 : decode cL_law 29 = .ok (.iaload, 1) := by decide +kernel
theorem dL_law_30 : decode cL_law 30 = .ok (.bipush 63, 2) := by decide +kernel
theorem dL_law_32 : decode cL_law 32 = .ok (.iand, 1) := by decide +kernel
theorem dL_law_33 : decode cL_law 33 = .ok (.tableswitch 1102 0 33 #[151, 184, 197, 230, 273, 296, 309, 332, 365, 398, 422, 435, 448, 482, 516, 539, 552, 565, 599, 612, 625, 679, 722, 756, 780, 793, 826, 869, 892, 945, 979, 1042, 1065, 1088], 151) := by decide +kernel
theorem dL_law_184 : decode cL_law 184 = .ok (.aload_n 1, 1) := by decide +kernel
theorem dL_law_185 : decode cL_law 185 = .ok (.aload_n 0, 1) := by decide +kernel
theorem dL_law_186 : decode cL_law 186 = .ok (.iload_n 3, 1) := by decide +kernel
theorem dL_law_187 : decode cL_law 187 = .ok (.iconst 1, 1) := by decide +kernel
theorem dL_law_188 : decode cL_law 188 = .ok (.iadd, 1) := by decide +kernel
theorem dL_law_189 : decode cL_law 189 = .ok (.iaload, 1) := by decide +kernel
theorem dL_law_190 : decode cL_law 190 = .ok (.aload_n 0, 1) := by decide +kernel
theorem dL_law_191 : decode cL_law 191 = .ok (.iload_n 3, 1) := by decide +kernel
theorem dL_law_192 : decode cL_law 192 = .ok (.iconst 2, 1) := by decide +kernel
theorem dL_law_193 : decode cL_law 193 = .ok (.iadd, 1) := by decide +kernel
theorem dL_law_194 : decode cL_law 194 = .ok (.iaload, 1) := by decide +kernel
theorem dL_law_195 : decode cL_law 195 = .ok (.invokevirtual 13, 3) := by decide +kernel
theorem dL_law_198 : decode cL_law 198 = .ok (.aload_n 2, 1) := by decide +kernel
theorem dL_law_199 : decode cL_law 199 = .ok (.aload_n 0, 1) := by decide +kernel
theorem dL_law_200 : decode cL_law 200 = .ok (.iload_n 3, 1) := by decide +kernel
theorem dL_law_201 : decode cL_law 201 = .ok (.iconst 1, 1) := by decide +kernel
theorem dL_law_202 : decode cL_law 202 = .ok (.iadd, 1) := by decide +kernel
theorem dL_law_203 : decode cL_law 203 = .ok (.iaload, 1) := by decide +kernel
theorem dL_law_204 : decode cL_law 204 = .ok (.aload_n 0, 1) := by decide +kernel
theorem dL_law_205 : decode cL_law 205 = .ok (.iload_n 3, 1) := by decide +kernel
theorem dL_law_206 : decode cL_law 206 = .ok (.iconst 2, 1) := by decide +kernel
theorem dL_law_207 : decode cL_law 207 = .ok (.iadd, 1) := by decide +kernel
theorem dL_law_208 : decode cL_law 208 = .ok (.iaload, 1) := by decide +kernel
theorem dL_law_209 : decode cL_law 209 = .ok (.invokevirtual 17, 3) := by decide +kernel
theorem dL_law_212 : decode cL_law 212 = .ok (.if_icmp .eq 923, 3) := by decide +kernel
theorem dL_law_215 : decode cL_law 215 = .ok (.iconst 0, 1) := by decide +kernel
theorem dL_law_216 : decode cL_law 216 = .ok (.ireturn, 1) := by decide +kernel
theorem dL_law_217 : decode cL_law 217 = .ok (.aload_n 1, 1) := by decide +kernel
theorem dL_law_218 : decode cL_law 218 = .ok (.invokevirtual 18, 3) := by decide +kernel
theorem dL_law_221 : decode cL_law 221 = .ok (.aload_n 2, 1) := by decide +kernel
theorem dL_law_222 : decode cL_law 222 = .ok (.invokevirtual 22, 3) := by decide +kernel
theorem dL_law_225 : decode cL_law 225 = .ok (.if_icmp .eq 910, 3) := by decide +kernel
theorem dL_law_228 : decode cL_law 228 = .ok (.iconst 0, 1) := by decide +kernel
theorem dL_law_229 : decode cL_law 229 = .ok (.ireturn, 1) := by decide +kernel
theorem dL_law_230 : decode cL_law 230 = .ok (.aload_n 1, 1) := by decide +kernel
theorem dL_law_231 : decode cL_law 231 = .ok (.aload_n 0, 1) := by decide +kernel
theorem dL_law_232 : decode cL_law 232 = .ok (.iload_n 3, 1) := by decide +kernel
theorem dL_law_233 : decode cL_law 233 = .ok (.iconst 1, 1) := by decide +kernel
theorem dL_law_234 : decode cL_law 234 = .ok (.iadd, 1) := by decide +kernel
theorem dL_law_235 : decode cL_law 235 = .ok (.iaload, 1) := by decide +kernel
theorem dL_law_236 : decode cL_law 236 = .ok (.aload_n 0, 1) := by decide +kernel
theorem dL_law_237 : decode cL_law 237 = .ok (.iload_n 3, 1) := by decide +kernel
theorem dL_law_238 : decode cL_law 238 = .ok (.iconst 2, 1) := by decide +kernel
theorem dL_law_239 : decode cL_law 239 = .ok (.iadd, 1) := by decide +kernel
theorem dL_law_240 : decode cL_law 240 = .ok (.iaload, 1) := by decide +kernel
theorem dL_law_241 : decode cL_law 241 = .ok (.invokevirtual 23, 3) := by decide +kernel
theorem dL_law_244 : decode cL_law 244 = .ok (.aload_n 2, 1) := by decide +kernel
theorem dL_law_245 : decode cL_law 245 = .ok (.aload_n 0, 1) := by decide +kernel
theorem dL_law_246 : decode cL_law 246 = .ok (.iload_n 3, 1) := by decide +kernel
theorem dL_law_247 : decode cL_law 247 = .ok (.iconst 1, 1) := by decide +kernel
theorem dL_law_248 : decode cL_law 248 = .ok (.iadd, 1) := by decide +kernel
theorem dL_law_249 : decode cL_law 249 = .ok (.iaload, 1) := by decide +kernel
theorem dL_law_250 : decode cL_law 250 = .ok (.aload_n 0, 1) := by decide +kernel
theorem dL_law_251 : decode cL_law 251 = .ok (.iload_n 3, 1) := by decide +kernel
theorem dL_law_252 : decode cL_law 252 = .ok (.iconst 2, 1) := by decide +kernel
theorem dL_law_253 : decode cL_law 253 = .ok (.iadd, 1) := by decide +kernel
theorem dL_law_254 : decode cL_law 254 = .ok (.iaload, 1) := by decide +kernel
theorem dL_law_255 : decode cL_law 255 = .ok (.invokevirtual 26, 3) := by decide +kernel
theorem dL_law_258 : decode cL_law 258 = .ok (.if_icmp .eq 877, 3) := by decide +kernel
theorem dL_law_261 : decode cL_law 261 = .ok (.iconst 0, 1) := by decide +kernel
theorem dL_law_262 : decode cL_law 262 = .ok (.ireturn, 1) := by decide +kernel
theorem dL_law_263 : decode cL_law 263 = .ok (.aload_n 1, 1) := by decide +kernel
theorem dL_law_264 : decode cL_law 264 = .ok (.aload_n 0, 1) := by decide +kernel
theorem dL_law_265 : decode cL_law 265 = .ok (.iload_n 3, 1) := by decide +kernel
theorem dL_law_266 : decode cL_law 266 = .ok (.iconst 1, 1) := by decide +kernel
theorem dL_law_267 : decode cL_law 267 = .ok (.iadd, 1) := by decide +kernel
theorem dL_law_268 : decode cL_law 268 = .ok (.iaload, 1) := by decide +kernel
theorem dL_law_269 : decode cL_law 269 = .ok (.aload_n 0, 1) := by decide +kernel
theorem dL_law_270 : decode cL_law 270 = .ok (.iload_n 3, 1) := by decide +kernel
theorem dL_law_271 : decode cL_law 271 = .ok (.iconst 2, 1) := by decide +kernel
theorem dL_law_272 : decode cL_law 272 = .ok (.iadd, 1) := by decide +kernel
theorem dL_law_273 : decode cL_law 273 = .ok (.iaload, 1) := by decide +kernel
theorem dL_law_274 : decode cL_law 274 = .ok (.aload_n 0, 1) := by decide +kernel
theorem dL_law_275 : decode cL_law 275 = .ok (.iload_n 3, 1) := by decide +kernel
theorem dL_law_276 : decode cL_law 276 = .ok (.iconst 3, 1) := by decide +kernel
theorem dL_law_277 : decode cL_law 277 = .ok (.iadd, 1) := by decide +kernel
theorem dL_law_278 : decode cL_law 278 = .ok (.iaload, 1) := by decide +kernel
theorem dL_law_279 : decode cL_law 279 = .ok (.invokevirtual 27, 3) := by decide +kernel
theorem dL_law_282 : decode cL_law 282 = .ok (.aload_n 2, 1) := by decide +kernel
theorem dL_law_283 : decode cL_law 283 = .ok (.aload_n 0, 1) := by decide +kernel
theorem dL_law_284 : decode cL_law 284 = .ok (.iload_n 3, 1) := by decide +kernel
theorem dL_law_285 : decode cL_law 285 = .ok (.iconst 1, 1) := by decide +kernel
theorem dL_law_286 : decode cL_law 286 = .ok (.iadd, 1) := by decide +kernel
theorem dL_law_287 : decode cL_law 287 = .ok (.iaload, 1) := by decide +kernel
theorem dL_law_288 : decode cL_law 288 = .ok (.aload_n 0, 1) := by decide +kernel
theorem dL_law_289 : decode cL_law 289 = .ok (.iload_n 3, 1) := by decide +kernel
theorem dL_law_290 : decode cL_law 290 = .ok (.iconst 2, 1) := by decide +kernel
theorem dL_law_291 : decode cL_law 291 = .ok (.iadd, 1) := by decide +kernel
theorem dL_law_292 : decode cL_law 292 = .ok (.iaload, 1) := by decide +kernel
theorem dL_law_293 : decode cL_law 293 = .ok (.aload_n 0, 1) := by decide +kernel
theorem dL_law_294 : decode cL_law 294 = .ok (.iload_n 3, 1) := by decide +kernel
theorem dL_law_295 : decode cL_law 295 = .ok (.iconst 3, 1) := by decide +kernel
theorem dL_law_296 : decode cL_law 296 = .ok (.iadd, 1) := by decide +kernel
theorem dL_law_297 : decode cL_law 297 = .ok (.iaload, 1) := by decide +kernel
theorem dL_law_298 : decode cL_law 298 = .ok (.invokevirtual 31, 3) := by decide +kernel
theorem dL_law_301 : decode cL_law 301 = .ok (.if_icmp .eq 834, 3) := by decide +kernel
theorem dL_law_304 : decode cL_law 304 = .ok (.iconst 0, 1) := by decide +kernel
theorem dL_law_305 : decode cL_law 305 = .ok (.ireturn, 1) := by decide +kernel
theorem dL_law_306 : decode cL_law 306 = .ok (.aload_n 1, 1) := by decide +kernel
theorem dL_law_307 : decode cL_law 307 = .ok (.aload_n 0, 1) := by decide +kernel
theorem dL_law_308 : decode cL_law 308 = .ok (.iload_n 3, 1) := by decide +kernel
theorem dL_law_309 : decode cL_law 309 = .ok (.iconst 1, 1) := by decide +kernel
theorem dL_law_310 : decode cL_law 310 = .ok (.iadd, 1) := by decide +kernel
theorem dL_law_311 : decode cL_law 311 = .ok (.iaload, 1) := by decide +kernel
theorem dL_law_312 : decode cL_law 312 = .ok (.invokevirtual 32, 3) := by decide +kernel
theorem dL_law_315 : decode cL_law 315 = .ok (.aload_n 2, 1) := by decide +kernel
theorem dL_law_316 : decode cL_law 316 = .ok (.aload_n 0, 1) := by decide +kernel
theorem dL_law_317 : decode cL_law 317 = .ok (.iload_n 3, 1) := by decide +kernel
theorem dL_law_318 : decode cL_law 318 = .ok (.iconst 1, 1) := by decide +kernel
theorem dL_law_319 : decode cL_law 319 = .ok (.iadd, 1) := by decide +kernel
theorem dL_law_320 : decode cL_law 320 = .ok (.iaload, 1) := by decide +kernel
theorem dL_law_321 : decode cL_law 321 = .ok (.invokevirtual 36, 3) := by decide +kernel
theorem dL_law_324 : decode cL_law 324 = .ok (.if_icmp .eq 811, 3) := by decide +kernel
theorem dL_law_327 : decode cL_law 327 = .ok (.iconst 0, 1) := by decide +kernel
theorem dL_law_328 : decode cL_law 328 = .ok (.ireturn, 1) := by decide +kernel
theorem dL_law_329 : decode cL_law 329 = .ok (.aload_n 1, 1) := by decide +kernel
theorem dL_law_330 : decode cL_law 330 = .ok (.invokevirtual 37, 3) := by decide +kernel
theorem dL_law_333 : decode cL_law 333 = .ok (.aload_n 2, 1) := by decide +kernel
theorem dL_law_334 : decode cL_law 334 = .ok (.invokevirtual 40, 3) := by decide +kernel
theorem dL_law_337 : decode cL_law 337 = .ok (.if_icmp .eq 798, 3) := by decide +kernel
theorem dL_law_340 : decode cL_law 340 = .ok (.iconst 0, 1) := by decide +kernel
theorem dL_law_341 : decode cL_law 341 = .ok (.ireturn, 1) := by decide +kernel
theorem dL_law_342 : decode cL_law 342 = .ok (.aload_n 1, 1) := by decide +kernel
theorem dL_law_343 : decode cL_law 343 = .ok (.aload_n 0, 1) := by decide +kernel
theorem dL_law_344 : decode cL_law 344 = .ok (.iload_n 3, 1) := by decide +kernel
theorem dL_law_345 : decode cL_law 345 = .ok (.iconst 1, 1) := by decide +kernel
theorem dL_law_346 : decode cL_law 346 = .ok (.iadd, 1) := by decide +kernel
theorem dL_law_347 : decode cL_law 347 = .ok (.iaload, 1) := by decide +kernel
theorem dL_law_348 : decode cL_law 348 = .ok (.invokevirtual 41, 3) := by decide +kernel
theorem dL_law_351 : decode cL_law 351 = .ok (.aload_n 2, 1) := by decide +kernel
theorem dL_law_352 : decode cL_law 352 = .ok (.aload_n 0, 1) := by decide +kernel
theorem dL_law_353 : decode cL_law 353 = .ok (.iload_n 3, 1) := by decide +kernel
theorem dL_law_354 : decode cL_law 354 = .ok (.iconst 1, 1) := by decide +kernel
theorem dL_law_355 : decode cL_law 355 = .ok (.iadd, 1) := by decide +kernel
theorem dL_law_356 : decode cL_law 356 = .ok (.iaload, 1) := by decide +kernel
theorem dL_law_357 : decode cL_law 357 = .ok (.invokevirtual 44, 3) := by decide +kernel
theorem dL_law_360 : decode cL_law 360 = .ok (.if_icmp .eq 775, 3) := by decide +kernel
theorem dL_law_363 : decode cL_law 363 = .ok (.iconst 0, 1) := by decide +kernel
theorem dL_law_364 : decode cL_law 364 = .ok (.ireturn, 1) := by decide +kernel
theorem dL_law_365 : decode cL_law 365 = .ok (.aload_n 1, 1) := by decide +kernel
theorem dL_law_366 : decode cL_law 366 = .ok (.aload_n 0, 1) := by decide +kernel
theorem dL_law_367 : decode cL_law 367 = .ok (.iload_n 3, 1) := by decide +kernel
theorem dL_law_368 : decode cL_law 368 = .ok (.iconst 1, 1) := by decide +kernel
theorem dL_law_369 : decode cL_law 369 = .ok (.iadd, 1) := by decide +kernel
theorem dL_law_370 : decode cL_law 370 = .ok (.iaload, 1) := by decide +kernel
theorem dL_law_371 : decode cL_law 371 = .ok (.aload_n 0, 1) := by decide +kernel
theorem dL_law_372 : decode cL_law 372 = .ok (.iload_n 3, 1) := by decide +kernel
theorem dL_law_373 : decode cL_law 373 = .ok (.iconst 2, 1) := by decide +kernel
theorem dL_law_374 : decode cL_law 374 = .ok (.iadd, 1) := by decide +kernel
theorem dL_law_375 : decode cL_law 375 = .ok (.iaload, 1) := by decide +kernel
theorem dL_law_376 : decode cL_law 376 = .ok (.invokevirtual 45, 3) := by decide +kernel
theorem dL_law_379 : decode cL_law 379 = .ok (.aload_n 2, 1) := by decide +kernel
theorem dL_law_380 : decode cL_law 380 = .ok (.aload_n 0, 1) := by decide +kernel
theorem dL_law_381 : decode cL_law 381 = .ok (.iload_n 3, 1) := by decide +kernel
theorem dL_law_382 : decode cL_law 382 = .ok (.iconst 1, 1) := by decide +kernel
theorem dL_law_383 : decode cL_law 383 = .ok (.iadd, 1) := by decide +kernel
theorem dL_law_384 : decode cL_law 384 = .ok (.iaload, 1) := by decide +kernel
theorem dL_law_385 : decode cL_law 385 = .ok (.aload_n 0, 1) := by decide +kernel
theorem dL_law_386 : decode cL_law 386 = .ok (.iload_n 3, 1) := by decide +kernel
theorem dL_law_387 : decode cL_law 387 = .ok (.iconst 2, 1) := by decide +kernel
theorem dL_law_388 : decode cL_law 388 = .ok (.iadd, 1) := by decide +kernel
theorem dL_law_389 : decode cL_law 389 = .ok (.iaload, 1) := by decide +kernel
theorem dL_law_390 : decode cL_law 390 = .ok (.invokevirtual 48, 3) := by decide +kernel
theorem dL_law_393 : decode cL_law 393 = .ok (.if_icmp .eq 742, 3) := by decide +kernel
theorem dL_law_396 : decode cL_law 396 = .ok (.iconst 0, 1) := by decide +kernel
theorem dL_law_397 : decode cL_law 397 = .ok (.ireturn, 1) := by decide +kernel
theorem dL_law_398 : decode cL_law 398 = .ok (.aload_n 1, 1) := by decide +kernel
theorem dL_law_399 : decode cL_law 399 = .ok (.aload_n 0, 1) := by decide +kernel
theorem dL_law_400 : decode cL_law 400 = .ok (.iload_n 3, 1) := by decide +kernel
theorem dL_law_401 : decode cL_law 401 = .ok (.iconst 1, 1) := by decide +kernel
theorem dL_law_402 : decode cL_law 402 = .ok (.iadd, 1) := by decide +kernel
theorem dL_law_403 : decode cL_law 403 = .ok (.iaload, 1) := by decide +kernel
theorem dL_law_404 : decode cL_law 404 = .ok (.aload_n 0, 1) := by decide +kernel
theorem dL_law_405 : decode cL_law 405 = .ok (.iload_n 3, 1) := by decide +kernel
theorem dL_law_406 : decode cL_law 406 = .ok (.iconst 2, 1) := by decide +kernel
theorem dL_law_407 : decode cL_law 407 = .ok (.iadd, 1) := by decide +kernel
theorem dL_law_408 : decode cL_law 408 = .ok (.iaload, 1) := by decide +kernel
theorem dL_law_409 : decode cL_law 409 = .ok (.invokevirtual 49, 3) := by decide +kernel
theorem dL_law_412 : decode cL_law 412 = .ok (.aload_n 2, 1) := by decide +kernel
theorem dL_law_413 : decode cL_law 413 = .ok (.aload_n 0, 1) := by decide +kernel
theorem dL_law_414 : decode cL_law 414 = .ok (.iload_n 3, 1) := by decide +kernel
theorem dL_law_415 : decode cL_law 415 = .ok (.iconst 1, 1) := by decide +kernel
theorem dL_law_416 : decode cL_law 416 = .ok (.iadd, 1) := by decide +kernel
theorem dL_law_417 : decode cL_law 417 = .ok (.iaload, 1) := by decide +kernel
theorem dL_law_418 : decode cL_law 418 = .ok (.aload_n 0, 1) := by decide +kernel
theorem dL_law_419 : decode cL_law 419 = .ok (.iload_n 3, 1) := by decide +kernel
theorem dL_law_420 : decode cL_law 420 = .ok (.iconst 2, 1) := by decide +kernel
theorem dL_law_421 : decode cL_law 421 = .ok (.iadd, 1) := by decide +kernel
theorem dL_law_422 : decode cL_law 422 = .ok (.iaload, 1) := by decide +kernel
theorem dL_law_423 : decode cL_law 423 = .ok (.invokevirtual 52, 3) := by decide +kernel
theorem dL_law_426 : decode cL_law 426 = .ok (.if_icmp .eq 709, 3) := by decide +kernel
theorem dL_law_429 : decode cL_law 429 = .ok (.iconst 0, 1) := by decide +kernel
theorem dL_law_430 : decode cL_law 430 = .ok (.ireturn, 1) := by decide +kernel
theorem dL_law_431 : decode cL_law 431 = .ok (.aload_n 1, 1) := by decide +kernel
theorem dL_law_432 : decode cL_law 432 = .ok (.aload_n 0, 1) := by decide +kernel
theorem dL_law_433 : decode cL_law 433 = .ok (.iload_n 3, 1) := by decide +kernel
theorem dL_law_434 : decode cL_law 434 = .ok (.iconst 1, 1) := by decide +kernel
theorem dL_law_435 : decode cL_law 435 = .ok (.iadd, 1) := by decide +kernel
theorem dL_law_436 : decode cL_law 436 = .ok (.iaload, 1) := by decide +kernel
theorem dL_law_437 : decode cL_law 437 = .ok (.invokevirtual 53, 3) := by decide +kernel
theorem dL_law_440 : decode cL_law 440 = .ok (.aload_n 2, 1) := by decide +kernel
theorem dL_law_441 : decode cL_law 441 = .ok (.aload_n 0, 1) := by decide +kernel
theorem dL_law_442 : decode cL_law 442 = .ok (.iload_n 3, 1) := by decide +kernel
theorem dL_law_443 : decode cL_law 443 = .ok (.iconst 1, 1) := by decide +kernel
theorem dL_law_444 : decode cL_law 444 = .ok (.iadd, 1) := by decide +kernel
theorem dL_law_445 : decode cL_law 445 = .ok (.iaload, 1) := by decide +kernel
theorem dL_law_446 : decode cL_law 446 = .ok (.invokevirtual 57, 3) := by decide +kernel
theorem dL_law_449 : decode cL_law 449 = .ok (.lcmp, 1) := by decide +kernel
theorem dL_law_450 : decode cL_law 450 = .ok (.ifCond .eq 685, 3) := by decide +kernel
theorem dL_law_453 : decode cL_law 453 = .ok (.iconst 0, 1) := by decide +kernel
theorem dL_law_454 : decode cL_law 454 = .ok (.ireturn, 1) := by decide +kernel
theorem dL_law_455 : decode cL_law 455 = .ok (.aload_n 1, 1) := by decide +kernel
theorem dL_law_456 : decode cL_law 456 = .ok (.invokevirtual 58, 3) := by decide +kernel
theorem dL_law_459 : decode cL_law 459 = .ok (.aload_n 2, 1) := by decide +kernel
theorem dL_law_460 : decode cL_law 460 = .ok (.invokevirtual 61, 3) := by decide +kernel
theorem dL_law_463 : decode cL_law 463 = .ok (.if_icmp .eq 672, 3) := by decide +kernel
theorem dL_law_466 : decode cL_law 466 = .ok (.iconst 0, 1) := by decide +kernel
theorem dL_law_467 : decode cL_law 467 = .ok (.ireturn, 1) := by decide +kernel
theorem dL_law_468 : decode cL_law 468 = .ok (.aload_n 1, 1) := by decide +kernel
theorem dL_law_469 : decode cL_law 469 = .ok (.invokevirtual 62, 3) := by decide +kernel
theorem dL_law_472 : decode cL_law 472 = .ok (.aload_n 2, 1) := by decide +kernel
theorem dL_law_473 : decode cL_law 473 = .ok (.invokevirtual 65, 3) := by decide +kernel
theorem dL_law_476 : decode cL_law 476 = .ok (.if_icmp .eq 659, 3) := by decide +kernel
theorem dL_law_479 : decode cL_law 479 = .ok (.iconst 0, 1) := by decide +kernel
theorem dL_law_480 : decode cL_law 480 = .ok (.ireturn, 1) := by decide +kernel
theorem dL_law_481 : decode cL_law 481 = .ok (.aload_n 1, 1) := by decide +kernel
theorem dL_law_482 : decode cL_law 482 = .ok (.aload_n 0, 1) := by decide +kernel
theorem dL_law_483 : decode cL_law 483 = .ok (.iload_n 3, 1) := by decide +kernel
theorem dL_law_484 : decode cL_law 484 = .ok (.iconst 1, 1) := by decide +kernel
theorem dL_law_485 : decode cL_law 485 = .ok (.iadd, 1) := by decide +kernel
theorem dL_law_486 : decode cL_law 486 = .ok (.iaload, 1) := by decide +kernel
theorem dL_law_487 : decode cL_law 487 = .ok (.aload_n 0, 1) := by decide +kernel
theorem dL_law_488 : decode cL_law 488 = .ok (.iload_n 3, 1) := by decide +kernel
theorem dL_law_489 : decode cL_law 489 = .ok (.iconst 2, 1) := by decide +kernel
theorem dL_law_490 : decode cL_law 490 = .ok (.iadd, 1) := by decide +kernel
theorem dL_law_491 : decode cL_law 491 = .ok (.iaload, 1) := by decide +kernel
theorem dL_law_492 : decode cL_law 492 = .ok (.invokevirtual 66, 3) := by decide +kernel
theorem dL_law_495 : decode cL_law 495 = .ok (.aload_n 2, 1) := by decide +kernel
theorem dL_law_496 : decode cL_law 496 = .ok (.aload_n 0, 1) := by decide +kernel
theorem dL_law_497 : decode cL_law 497 = .ok (.iload_n 3, 1) := by decide +kernel
theorem dL_law_498 : decode cL_law 498 = .ok (.iconst 1, 1) := by decide +kernel
theorem dL_law_499 : decode cL_law 499 = .ok (.iadd, 1) := by decide +kernel
theorem dL_law_500 : decode cL_law 500 = .ok (.iaload, 1) := by decide +kernel
theorem dL_law_501 : decode cL_law 501 = .ok (.aload_n 0, 1) := by decide +kernel
theorem dL_law_502 : decode cL_law 502 = .ok (.iload_n 3, 1) := by decide +kernel
theorem dL_law_503 : decode cL_law 503 = .ok (.iconst 2, 1) := by decide +kernel
theorem dL_law_504 : decode cL_law 504 = .ok (.iadd, 1) := by decide +kernel
theorem dL_law_505 : decode cL_law 505 = .ok (.iaload, 1) := by decide +kernel
theorem dL_law_506 : decode cL_law 506 = .ok (.invokevirtual 70, 3) := by decide +kernel
theorem dL_law_509 : decode cL_law 509 = .ok (.lcmp, 1) := by decide +kernel
theorem dL_law_510 : decode cL_law 510 = .ok (.ifCond .eq 625, 3) := by decide +kernel
theorem dL_law_513 : decode cL_law 513 = .ok (.iconst 0, 1) := by decide +kernel
theorem dL_law_514 : decode cL_law 514 = .ok (.ireturn, 1) := by decide +kernel
theorem dL_law_515 : decode cL_law 515 = .ok (.aload_n 1, 1) := by decide +kernel
theorem dL_law_516 : decode cL_law 516 = .ok (.aload_n 0, 1) := by decide +kernel
theorem dL_law_517 : decode cL_law 517 = .ok (.iload_n 3, 1) := by decide +kernel
theorem dL_law_518 : decode cL_law 518 = .ok (.iconst 1, 1) := by decide +kernel
theorem dL_law_519 : decode cL_law 519 = .ok (.iadd, 1) := by decide +kernel
theorem dL_law_520 : decode cL_law 520 = .ok (.iaload, 1) := by decide +kernel
theorem dL_law_521 : decode cL_law 521 = .ok (.aload_n 0, 1) := by decide +kernel
theorem dL_law_522 : decode cL_law 522 = .ok (.iload_n 3, 1) := by decide +kernel
theorem dL_law_523 : decode cL_law 523 = .ok (.iconst 2, 1) := by decide +kernel
theorem dL_law_524 : decode cL_law 524 = .ok (.iadd, 1) := by decide +kernel
theorem dL_law_525 : decode cL_law 525 = .ok (.iaload, 1) := by decide +kernel
theorem dL_law_526 : decode cL_law 526 = .ok (.invokevirtual 71, 3) := by decide +kernel
theorem dL_law_529 : decode cL_law 529 = .ok (.aload_n 2, 1) := by decide +kernel
theorem dL_law_530 : decode cL_law 530 = .ok (.aload_n 0, 1) := by decide +kernel
theorem dL_law_531 : decode cL_law 531 = .ok (.iload_n 3, 1) := by decide +kernel
theorem dL_law_532 : decode cL_law 532 = .ok (.iconst 1, 1) := by decide +kernel
theorem dL_law_533 : decode cL_law 533 = .ok (.iadd, 1) := by decide +kernel
theorem dL_law_534 : decode cL_law 534 = .ok (.iaload, 1) := by decide +kernel
theorem dL_law_535 : decode cL_law 535 = .ok (.aload_n 0, 1) := by decide +kernel
theorem dL_law_536 : decode cL_law 536 = .ok (.iload_n 3, 1) := by decide +kernel
theorem dL_law_537 : decode cL_law 537 = .ok (.iconst 2, 1) := by decide +kernel
theorem dL_law_538 : decode cL_law 538 = .ok (.iadd, 1) := by decide +kernel
theorem dL_law_539 : decode cL_law 539 = .ok (.iaload, 1) := by decide +kernel
theorem dL_law_540 : decode cL_law 540 = .ok (.invokevirtual 74, 3) := by decide +kernel
theorem dL_law_543 : decode cL_law 543 = .ok (.lcmp, 1) := by decide +kernel
theorem dL_law_544 : decode cL_law 544 = .ok (.ifCond .eq 591, 3) := by decide +kernel
theorem dL_law_547 : decode cL_law 547 = .ok (.iconst 0, 1) := by decide +kernel
theorem dL_law_548 : decode cL_law 548 = .ok (.ireturn, 1) := by decide +kernel
theorem dL_law_549 : decode cL_law 549 = .ok (.aload_n 1, 1) := by decide +kernel
theorem dL_law_550 : decode cL_law 550 = .ok (.aload_n 0, 1) := by decide +kernel
theorem dL_law_551 : decode cL_law 551 = .ok (.iload_n 3, 1) := by decide +kernel
theorem dL_law_552 : decode cL_law 552 = .ok (.iconst 1, 1) := by decide +kernel
theorem dL_law_553 : decode cL_law 553 = .ok (.iadd, 1) := by decide +kernel
theorem dL_law_554 : decode cL_law 554 = .ok (.iaload, 1) := by decide +kernel
theorem dL_law_555 : decode cL_law 555 = .ok (.invokevirtual 75, 3) := by decide +kernel
theorem dL_law_558 : decode cL_law 558 = .ok (.aload_n 2, 1) := by decide +kernel
theorem dL_law_559 : decode cL_law 559 = .ok (.aload_n 0, 1) := by decide +kernel
theorem dL_law_560 : decode cL_law 560 = .ok (.iload_n 3, 1) := by decide +kernel
theorem dL_law_561 : decode cL_law 561 = .ok (.iconst 1, 1) := by decide +kernel
theorem dL_law_562 : decode cL_law 562 = .ok (.iadd, 1) := by decide +kernel
theorem dL_law_563 : decode cL_law 563 = .ok (.iaload, 1) := by decide +kernel
theorem dL_law_564 : decode cL_law 564 = .ok (.invokevirtual 78, 3) := by decide +kernel
theorem dL_law_567 : decode cL_law 567 = .ok (.if_icmp .eq 568, 3) := by decide +kernel
theorem dL_law_570 : decode cL_law 570 = .ok (.iconst 0, 1) := by decide +kernel
theorem dL_law_571 : decode cL_law 571 = .ok (.ireturn, 1) := by decide +kernel
theorem dL_law_572 : decode cL_law 572 = .ok (.aload_n 1, 1) := by decide +kernel
theorem dL_law_573 : decode cL_law 573 = .ok (.invokevirtual 79, 3) := by decide +kernel
theorem dL_law_576 : decode cL_law 576 = .ok (.aload_n 2, 1) := by decide +kernel
theorem dL_law_577 : decode cL_law 577 = .ok (.invokevirtual 82, 3) := by decide +kernel
theorem dL_law_580 : decode cL_law 580 = .ok (.if_icmp .eq 555, 3) := by decide +kernel
theorem dL_law_583 : decode cL_law 583 = .ok (.iconst 0, 1) := by decide +kernel
theorem dL_law_584 : decode cL_law 584 = .ok (.ireturn, 1) := by decide +kernel
theorem dL_law_585 : decode cL_law 585 = .ok (.aload_n 1, 1) := by decide +kernel
theorem dL_law_586 : decode cL_law 586 = .ok (.invokevirtual 83, 3) := by decide +kernel
theorem dL_law_589 : decode cL_law 589 = .ok (.aload_n 2, 1) := by decide +kernel
theorem dL_law_590 : decode cL_law 590 = .ok (.invokevirtual 86, 3) := by decide +kernel
theorem dL_law_593 : decode cL_law 593 = .ok (.if_icmp .eq 542, 3) := by decide +kernel
theorem dL_law_596 : decode cL_law 596 = .ok (.iconst 0, 1) := by decide +kernel
theorem dL_law_597 : decode cL_law 597 = .ok (.ireturn, 1) := by decide +kernel
theorem dL_law_598 : decode cL_law 598 = .ok (.aload_n 1, 1) := by decide +kernel
theorem dL_law_599 : decode cL_law 599 = .ok (.aload_n 0, 1) := by decide +kernel
theorem dL_law_600 : decode cL_law 600 = .ok (.iload_n 3, 1) := by decide +kernel
theorem dL_law_601 : decode cL_law 601 = .ok (.iconst 1, 1) := by decide +kernel
theorem dL_law_602 : decode cL_law 602 = .ok (.iadd, 1) := by decide +kernel
theorem dL_law_603 : decode cL_law 603 = .ok (.iaload, 1) := by decide +kernel
theorem dL_law_604 : decode cL_law 604 = .ok (.aload_n 0, 1) := by decide +kernel
theorem dL_law_605 : decode cL_law 605 = .ok (.iload_n 3, 1) := by decide +kernel
theorem dL_law_606 : decode cL_law 606 = .ok (.iconst 2, 1) := by decide +kernel
theorem dL_law_607 : decode cL_law 607 = .ok (.iadd, 1) := by decide +kernel
theorem dL_law_608 : decode cL_law 608 = .ok (.iaload, 1) := by decide +kernel
theorem dL_law_609 : decode cL_law 609 = .ok (.invokevirtual 87, 3) := by decide +kernel
theorem dL_law_612 : decode cL_law 612 = .ok (.aload_n 2, 1) := by decide +kernel
theorem dL_law_613 : decode cL_law 613 = .ok (.aload_n 0, 1) := by decide +kernel
theorem dL_law_614 : decode cL_law 614 = .ok (.iload_n 3, 1) := by decide +kernel
theorem dL_law_615 : decode cL_law 615 = .ok (.iconst 1, 1) := by decide +kernel
theorem dL_law_616 : decode cL_law 616 = .ok (.iadd, 1) := by decide +kernel
theorem dL_law_617 : decode cL_law 617 = .ok (.iaload, 1) := by decide +kernel
theorem dL_law_618 : decode cL_law 618 = .ok (.aload_n 0, 1) := by decide +kernel
theorem dL_law_619 : decode cL_law 619 = .ok (.iload_n 3, 1) := by decide +kernel
theorem dL_law_620 : decode cL_law 620 = .ok (.iconst 2, 1) := by decide +kernel
theorem dL_law_621 : decode cL_law 621 = .ok (.iadd, 1) := by decide +kernel
theorem dL_law_622 : decode cL_law 622 = .ok (.iaload, 1) := by decide +kernel
theorem dL_law_623 : decode cL_law 623 = .ok (.invokevirtual 90, 3) := by decide +kernel
theorem dL_law_626 : decode cL_law 626 = .ok (.lcmp, 1) := by decide +kernel
theorem dL_law_627 : decode cL_law 627 = .ok (.ifCond .eq 508, 3) := by decide +kernel
theorem dL_law_630 : decode cL_law 630 = .ok (.iconst 0, 1) := by decide +kernel
theorem dL_law_631 : decode cL_law 631 = .ok (.ireturn, 1) := by decide +kernel
theorem dL_law_632 : decode cL_law 632 = .ok (.aload_n 1, 1) := by decide +kernel
theorem dL_law_633 : decode cL_law 633 = .ok (.invokevirtual 91, 3) := by decide +kernel
theorem dL_law_636 : decode cL_law 636 = .ok (.aload_n 2, 1) := by decide +kernel
theorem dL_law_637 : decode cL_law 637 = .ok (.invokevirtual 94, 3) := by decide +kernel
theorem dL_law_640 : decode cL_law 640 = .ok (.if_icmp .eq 495, 3) := by decide +kernel
theorem dL_law_643 : decode cL_law 643 = .ok (.iconst 0, 1) := by decide +kernel
theorem dL_law_644 : decode cL_law 644 = .ok (.ireturn, 1) := by decide +kernel
theorem dL_law_645 : decode cL_law 645 = .ok (.aload_n 1, 1) := by decide +kernel
theorem dL_law_646 : decode cL_law 646 = .ok (.invokevirtual 95, 3) := by decide +kernel
theorem dL_law_649 : decode cL_law 649 = .ok (.aload_n 2, 1) := by decide +kernel
theorem dL_law_650 : decode cL_law 650 = .ok (.invokevirtual 98, 3) := by decide +kernel
theorem dL_law_653 : decode cL_law 653 = .ok (.if_icmp .eq 482, 3) := by decide +kernel
theorem dL_law_656 : decode cL_law 656 = .ok (.iconst 0, 1) := by decide +kernel
theorem dL_law_657 : decode cL_law 657 = .ok (.ireturn, 1) := by decide +kernel
theorem dL_law_658 : decode cL_law 658 = .ok (.aload_n 1, 1) := by decide +kernel
theorem dL_law_659 : decode cL_law 659 = .ok (.aload_n 0, 1) := by decide +kernel
theorem dL_law_660 : decode cL_law 660 = .ok (.iload_n 3, 1) := by decide +kernel
theorem dL_law_661 : decode cL_law 661 = .ok (.iconst 1, 1) := by decide +kernel
theorem dL_law_662 : decode cL_law 662 = .ok (.iadd, 1) := by decide +kernel
theorem dL_law_663 : decode cL_law 663 = .ok (.iaload, 1) := by decide +kernel
theorem dL_law_664 : decode cL_law 664 = .ok (.aload_n 0, 1) := by decide +kernel
theorem dL_law_665 : decode cL_law 665 = .ok (.iload_n 3, 1) := by decide +kernel
theorem dL_law_666 : decode cL_law 666 = .ok (.iconst 2, 1) := by decide +kernel
theorem dL_law_667 : decode cL_law 667 = .ok (.iadd, 1) := by decide +kernel
theorem dL_law_668 : decode cL_law 668 = .ok (.iaload, 1) := by decide +kernel
theorem dL_law_669 : decode cL_law 669 = .ok (.aload_n 0, 1) := by decide +kernel
theorem dL_law_670 : decode cL_law 670 = .ok (.iload_n 3, 1) := by decide +kernel
theorem dL_law_671 : decode cL_law 671 = .ok (.iconst 3, 1) := by decide +kernel
theorem dL_law_672 : decode cL_law 672 = .ok (.iadd, 1) := by decide +kernel
theorem dL_law_673 : decode cL_law 673 = .ok (.iaload, 1) := by decide +kernel
theorem dL_law_674 : decode cL_law 674 = .ok (.aload_n 0, 1) := by decide +kernel
theorem dL_law_675 : decode cL_law 675 = .ok (.iload_n 3, 1) := by decide +kernel
theorem dL_law_676 : decode cL_law 676 = .ok (.iconst 4, 1) := by decide +kernel
theorem dL_law_677 : decode cL_law 677 = .ok (.iadd, 1) := by decide +kernel
theorem dL_law_678 : decode cL_law 678 = .ok (.iaload, 1) := by decide +kernel
theorem dL_law_679 : decode cL_law 679 = .ok (.invokevirtual 99, 3) := by decide +kernel
theorem dL_law_682 : decode cL_law 682 = .ok (.aload_n 2, 1) := by decide +kernel
theorem dL_law_683 : decode cL_law 683 = .ok (.aload_n 0, 1) := by decide +kernel
theorem dL_law_684 : decode cL_law 684 = .ok (.iload_n 3, 1) := by decide +kernel
theorem dL_law_685 : decode cL_law 685 = .ok (.iconst 1, 1) := by decide +kernel
theorem dL_law_686 : decode cL_law 686 = .ok (.iadd, 1) := by decide +kernel
theorem dL_law_687 : decode cL_law 687 = .ok (.iaload, 1) := by decide +kernel
theorem dL_law_688 : decode cL_law 688 = .ok (.aload_n 0, 1) := by decide +kernel
theorem dL_law_689 : decode cL_law 689 = .ok (.iload_n 3, 1) := by decide +kernel
theorem dL_law_690 : decode cL_law 690 = .ok (.iconst 2, 1) := by decide +kernel
theorem dL_law_691 : decode cL_law 691 = .ok (.iadd, 1) := by decide +kernel
theorem dL_law_692 : decode cL_law 692 = .ok (.iaload, 1) := by decide +kernel
theorem dL_law_693 : decode cL_law 693 = .ok (.aload_n 0, 1) := by decide +kernel
theorem dL_law_694 : decode cL_law 694 = .ok (.iload_n 3, 1) := by decide +kernel
theorem dL_law_695 : decode cL_law 695 = .ok (.iconst 3, 1) := by decide +kernel
theorem dL_law_696 : decode cL_law 696 = .ok (.iadd, 1) := by decide +kernel
theorem dL_law_697 : decode cL_law 697 = .ok (.iaload, 1) := by decide +kernel
theorem dL_law_698 : decode cL_law 698 = .ok (.aload_n 0, 1) := by decide +kernel
theorem dL_law_699 : decode cL_law 699 = .ok (.iload_n 3, 1) := by decide +kernel
theorem dL_law_700 : decode cL_law 700 = .ok (.iconst 4, 1) := by decide +kernel
theorem dL_law_701 : decode cL_law 701 = .ok (.iadd, 1) := by decide +kernel
theorem dL_law_702 : decode cL_law 702 = .ok (.iaload, 1) := by decide +kernel
theorem dL_law_703 : decode cL_law 703 = .ok (.invokevirtual 103, 3) := by decide +kernel
theorem dL_law_706 : decode cL_law 706 = .ok (.lcmp, 1) := by decide +kernel
theorem dL_law_707 : decode cL_law 707 = .ok (.ifCond .eq 428, 3) := by decide +kernel
theorem dL_law_710 : decode cL_law 710 = .ok (.iconst 0, 1) := by decide +kernel
theorem dL_law_711 : decode cL_law 711 = .ok (.ireturn, 1) := by decide +kernel
theorem dL_law_712 : decode cL_law 712 = .ok (.aload_n 1, 1) := by decide +kernel
theorem dL_law_713 : decode cL_law 713 = .ok (.aload_n 0, 1) := by decide +kernel
theorem dL_law_714 : decode cL_law 714 = .ok (.iload_n 3, 1) := by decide +kernel
theorem dL_law_715 : decode cL_law 715 = .ok (.iconst 1, 1) := by decide +kernel
theorem dL_law_716 : decode cL_law 716 = .ok (.iadd, 1) := by decide +kernel
theorem dL_law_717 : decode cL_law 717 = .ok (.iaload, 1) := by decide +kernel
theorem dL_law_718 : decode cL_law 718 = .ok (.aload_n 0, 1) := by decide +kernel
theorem dL_law_719 : decode cL_law 719 = .ok (.iload_n 3, 1) := by decide +kernel
theorem dL_law_720 : decode cL_law 720 = .ok (.iconst 2, 1) := by decide +kernel
theorem dL_law_721 : decode cL_law 721 = .ok (.iadd, 1) := by decide +kernel
theorem dL_law_722 : decode cL_law 722 = .ok (.iaload, 1) := by decide +kernel
theorem dL_law_723 : decode cL_law 723 = .ok (.aload_n 0, 1) := by decide +kernel
theorem dL_law_724 : decode cL_law 724 = .ok (.iload_n 3, 1) := by decide +kernel
theorem dL_law_725 : decode cL_law 725 = .ok (.iconst 3, 1) := by decide +kernel
theorem dL_law_726 : decode cL_law 726 = .ok (.iadd, 1) := by decide +kernel
theorem dL_law_727 : decode cL_law 727 = .ok (.iaload, 1) := by decide +kernel
theorem dL_law_728 : decode cL_law 728 = .ok (.invokevirtual 104, 3) := by decide +kernel
theorem dL_law_731 : decode cL_law 731 = .ok (.aload_n 2, 1) := by decide +kernel
theorem dL_law_732 : decode cL_law 732 = .ok (.aload_n 0, 1) := by decide +kernel
theorem dL_law_733 : decode cL_law 733 = .ok (.iload_n 3, 1) := by decide +kernel
theorem dL_law_734 : decode cL_law 734 = .ok (.iconst 1, 1) := by decide +kernel
theorem dL_law_735 : decode cL_law 735 = .ok (.iadd, 1) := by decide +kernel
theorem dL_law_736 : decode cL_law 736 = .ok (.iaload, 1) := by decide +kernel
theorem dL_law_737 : decode cL_law 737 = .ok (.aload_n 0, 1) := by decide +kernel
theorem dL_law_738 : decode cL_law 738 = .ok (.iload_n 3, 1) := by decide +kernel
theorem dL_law_739 : decode cL_law 739 = .ok (.iconst 2, 1) := by decide +kernel
theorem dL_law_740 : decode cL_law 740 = .ok (.iadd, 1) := by decide +kernel
theorem dL_law_741 : decode cL_law 741 = .ok (.iaload, 1) := by decide +kernel
theorem dL_law_742 : decode cL_law 742 = .ok (.aload_n 0, 1) := by decide +kernel
theorem dL_law_743 : decode cL_law 743 = .ok (.iload_n 3, 1) := by decide +kernel
theorem dL_law_744 : decode cL_law 744 = .ok (.iconst 3, 1) := by decide +kernel
theorem dL_law_745 : decode cL_law 745 = .ok (.iadd, 1) := by decide +kernel
theorem dL_law_746 : decode cL_law 746 = .ok (.iaload, 1) := by decide +kernel
theorem dL_law_747 : decode cL_law 747 = .ok (.invokevirtual 107, 3) := by decide +kernel
theorem dL_law_750 : decode cL_law 750 = .ok (.if_icmp .eq 385, 3) := by decide +kernel
theorem dL_law_753 : decode cL_law 753 = .ok (.iconst 0, 1) := by decide +kernel
theorem dL_law_754 : decode cL_law 754 = .ok (.ireturn, 1) := by decide +kernel
theorem dL_law_755 : decode cL_law 755 = .ok (.aload_n 1, 1) := by decide +kernel
theorem dL_law_756 : decode cL_law 756 = .ok (.aload_n 0, 1) := by decide +kernel
theorem dL_law_757 : decode cL_law 757 = .ok (.iload_n 3, 1) := by decide +kernel
theorem dL_law_758 : decode cL_law 758 = .ok (.iconst 1, 1) := by decide +kernel
theorem dL_law_759 : decode cL_law 759 = .ok (.iadd, 1) := by decide +kernel
theorem dL_law_760 : decode cL_law 760 = .ok (.iaload, 1) := by decide +kernel
theorem dL_law_761 : decode cL_law 761 = .ok (.aload_n 0, 1) := by decide +kernel
theorem dL_law_762 : decode cL_law 762 = .ok (.iload_n 3, 1) := by decide +kernel
theorem dL_law_763 : decode cL_law 763 = .ok (.iconst 2, 1) := by decide +kernel
theorem dL_law_764 : decode cL_law 764 = .ok (.iadd, 1) := by decide +kernel
theorem dL_law_765 : decode cL_law 765 = .ok (.iaload, 1) := by decide +kernel
theorem dL_law_766 : decode cL_law 766 = .ok (.invokevirtual 108, 3) := by decide +kernel
theorem dL_law_769 : decode cL_law 769 = .ok (.aload_n 2, 1) := by decide +kernel
theorem dL_law_770 : decode cL_law 770 = .ok (.aload_n 0, 1) := by decide +kernel
theorem dL_law_771 : decode cL_law 771 = .ok (.iload_n 3, 1) := by decide +kernel
theorem dL_law_772 : decode cL_law 772 = .ok (.iconst 1, 1) := by decide +kernel
theorem dL_law_773 : decode cL_law 773 = .ok (.iadd, 1) := by decide +kernel
theorem dL_law_774 : decode cL_law 774 = .ok (.iaload, 1) := by decide +kernel
theorem dL_law_775 : decode cL_law 775 = .ok (.aload_n 0, 1) := by decide +kernel
theorem dL_law_776 : decode cL_law 776 = .ok (.iload_n 3, 1) := by decide +kernel
theorem dL_law_777 : decode cL_law 777 = .ok (.iconst 2, 1) := by decide +kernel
theorem dL_law_778 : decode cL_law 778 = .ok (.iadd, 1) := by decide +kernel
theorem dL_law_779 : decode cL_law 779 = .ok (.iaload, 1) := by decide +kernel
theorem dL_law_780 : decode cL_law 780 = .ok (.invokevirtual 111, 3) := by decide +kernel
theorem dL_law_783 : decode cL_law 783 = .ok (.lcmp, 1) := by decide +kernel
theorem dL_law_784 : decode cL_law 784 = .ok (.ifCond .eq 351, 3) := by decide +kernel
theorem dL_law_787 : decode cL_law 787 = .ok (.iconst 0, 1) := by decide +kernel
theorem dL_law_788 : decode cL_law 788 = .ok (.ireturn, 1) := by decide +kernel
theorem dL_law_789 : decode cL_law 789 = .ok (.aload_n 1, 1) := by decide +kernel
theorem dL_law_790 : decode cL_law 790 = .ok (.aload_n 0, 1) := by decide +kernel
theorem dL_law_791 : decode cL_law 791 = .ok (.iload_n 3, 1) := by decide +kernel
theorem dL_law_792 : decode cL_law 792 = .ok (.iconst 1, 1) := by decide +kernel
theorem dL_law_793 : decode cL_law 793 = .ok (.iadd, 1) := by decide +kernel
theorem dL_law_794 : decode cL_law 794 = .ok (.iaload, 1) := by decide +kernel
theorem dL_law_795 : decode cL_law 795 = .ok (.invokevirtual 112, 3) := by decide +kernel
theorem dL_law_798 : decode cL_law 798 = .ok (.aload_n 2, 1) := by decide +kernel
theorem dL_law_799 : decode cL_law 799 = .ok (.aload_n 0, 1) := by decide +kernel
theorem dL_law_800 : decode cL_law 800 = .ok (.iload_n 3, 1) := by decide +kernel
theorem dL_law_801 : decode cL_law 801 = .ok (.iconst 1, 1) := by decide +kernel
theorem dL_law_802 : decode cL_law 802 = .ok (.iadd, 1) := by decide +kernel
theorem dL_law_803 : decode cL_law 803 = .ok (.iaload, 1) := by decide +kernel
theorem dL_law_804 : decode cL_law 804 = .ok (.invokevirtual 115, 3) := by decide +kernel
theorem dL_law_807 : decode cL_law 807 = .ok (.lcmp, 1) := by decide +kernel
theorem dL_law_808 : decode cL_law 808 = .ok (.ifCond .eq 327, 3) := by decide +kernel
theorem dL_law_811 : decode cL_law 811 = .ok (.iconst 0, 1) := by decide +kernel
theorem dL_law_812 : decode cL_law 812 = .ok (.ireturn, 1) := by decide +kernel
theorem dL_law_813 : decode cL_law 813 = .ok (.aload_n 1, 1) := by decide +kernel
theorem dL_law_814 : decode cL_law 814 = .ok (.invokevirtual 116, 3) := by decide +kernel
theorem dL_law_817 : decode cL_law 817 = .ok (.aload_n 2, 1) := by decide +kernel
theorem dL_law_818 : decode cL_law 818 = .ok (.invokevirtual 119, 3) := by decide +kernel
theorem dL_law_821 : decode cL_law 821 = .ok (.if_icmp .eq 314, 3) := by decide +kernel
theorem dL_law_824 : decode cL_law 824 = .ok (.iconst 0, 1) := by decide +kernel
theorem dL_law_825 : decode cL_law 825 = .ok (.ireturn, 1) := by decide +kernel
theorem dL_law_826 : decode cL_law 826 = .ok (.aload_n 1, 1) := by decide +kernel
theorem dL_law_827 : decode cL_law 827 = .ok (.aload_n 0, 1) := by decide +kernel
theorem dL_law_828 : decode cL_law 828 = .ok (.iload_n 3, 1) := by decide +kernel
theorem dL_law_829 : decode cL_law 829 = .ok (.iconst 1, 1) := by decide +kernel
theorem dL_law_830 : decode cL_law 830 = .ok (.iadd, 1) := by decide +kernel
theorem dL_law_831 : decode cL_law 831 = .ok (.iaload, 1) := by decide +kernel
theorem dL_law_832 : decode cL_law 832 = .ok (.aload_n 0, 1) := by decide +kernel
theorem dL_law_833 : decode cL_law 833 = .ok (.iload_n 3, 1) := by decide +kernel
theorem dL_law_834 : decode cL_law 834 = .ok (.iconst 2, 1) := by decide +kernel
theorem dL_law_835 : decode cL_law 835 = .ok (.iadd, 1) := by decide +kernel
theorem dL_law_836 : decode cL_law 836 = .ok (.iaload, 1) := by decide +kernel
theorem dL_law_837 : decode cL_law 837 = .ok (.invokevirtual 120, 3) := by decide +kernel
theorem dL_law_840 : decode cL_law 840 = .ok (.aload_n 2, 1) := by decide +kernel
theorem dL_law_841 : decode cL_law 841 = .ok (.aload_n 0, 1) := by decide +kernel
theorem dL_law_842 : decode cL_law 842 = .ok (.iload_n 3, 1) := by decide +kernel
theorem dL_law_843 : decode cL_law 843 = .ok (.iconst 1, 1) := by decide +kernel
theorem dL_law_844 : decode cL_law 844 = .ok (.iadd, 1) := by decide +kernel
theorem dL_law_845 : decode cL_law 845 = .ok (.iaload, 1) := by decide +kernel
theorem dL_law_846 : decode cL_law 846 = .ok (.aload_n 0, 1) := by decide +kernel
theorem dL_law_847 : decode cL_law 847 = .ok (.iload_n 3, 1) := by decide +kernel
theorem dL_law_848 : decode cL_law 848 = .ok (.iconst 2, 1) := by decide +kernel
theorem dL_law_849 : decode cL_law 849 = .ok (.iadd, 1) := by decide +kernel
theorem dL_law_850 : decode cL_law 850 = .ok (.iaload, 1) := by decide +kernel
theorem dL_law_851 : decode cL_law 851 = .ok (.invokevirtual 123, 3) := by decide +kernel
theorem dL_law_854 : decode cL_law 854 = .ok (.if_icmp .eq 281, 3) := by decide +kernel
theorem dL_law_857 : decode cL_law 857 = .ok (.iconst 0, 1) := by decide +kernel
theorem dL_law_858 : decode cL_law 858 = .ok (.ireturn, 1) := by decide +kernel
theorem dL_law_859 : decode cL_law 859 = .ok (.aload_n 1, 1) := by decide +kernel
theorem dL_law_860 : decode cL_law 860 = .ok (.aload_n 0, 1) := by decide +kernel
theorem dL_law_861 : decode cL_law 861 = .ok (.iload_n 3, 1) := by decide +kernel
theorem dL_law_862 : decode cL_law 862 = .ok (.iconst 1, 1) := by decide +kernel
theorem dL_law_863 : decode cL_law 863 = .ok (.iadd, 1) := by decide +kernel
theorem dL_law_864 : decode cL_law 864 = .ok (.iaload, 1) := by decide +kernel
theorem dL_law_865 : decode cL_law 865 = .ok (.aload_n 0, 1) := by decide +kernel
theorem dL_law_866 : decode cL_law 866 = .ok (.iload_n 3, 1) := by decide +kernel
theorem dL_law_867 : decode cL_law 867 = .ok (.iconst 2, 1) := by decide +kernel
theorem dL_law_868 : decode cL_law 868 = .ok (.iadd, 1) := by decide +kernel
theorem dL_law_869 : decode cL_law 869 = .ok (.iaload, 1) := by decide +kernel
theorem dL_law_870 : decode cL_law 870 = .ok (.aload_n 0, 1) := by decide +kernel
theorem dL_law_871 : decode cL_law 871 = .ok (.iload_n 3, 1) := by decide +kernel
theorem dL_law_872 : decode cL_law 872 = .ok (.iconst 3, 1) := by decide +kernel
theorem dL_law_873 : decode cL_law 873 = .ok (.iadd, 1) := by decide +kernel
theorem dL_law_874 : decode cL_law 874 = .ok (.iaload, 1) := by decide +kernel
theorem dL_law_875 : decode cL_law 875 = .ok (.invokevirtual 124, 3) := by decide +kernel
theorem dL_law_878 : decode cL_law 878 = .ok (.aload_n 2, 1) := by decide +kernel
theorem dL_law_879 : decode cL_law 879 = .ok (.aload_n 0, 1) := by decide +kernel
theorem dL_law_880 : decode cL_law 880 = .ok (.iload_n 3, 1) := by decide +kernel
theorem dL_law_881 : decode cL_law 881 = .ok (.iconst 1, 1) := by decide +kernel
theorem dL_law_882 : decode cL_law 882 = .ok (.iadd, 1) := by decide +kernel
theorem dL_law_883 : decode cL_law 883 = .ok (.iaload, 1) := by decide +kernel
theorem dL_law_884 : decode cL_law 884 = .ok (.aload_n 0, 1) := by decide +kernel
theorem dL_law_885 : decode cL_law 885 = .ok (.iload_n 3, 1) := by decide +kernel
theorem dL_law_886 : decode cL_law 886 = .ok (.iconst 2, 1) := by decide +kernel
theorem dL_law_887 : decode cL_law 887 = .ok (.iadd, 1) := by decide +kernel
theorem dL_law_888 : decode cL_law 888 = .ok (.iaload, 1) := by decide +kernel
theorem dL_law_889 : decode cL_law 889 = .ok (.aload_n 0, 1) := by decide +kernel
theorem dL_law_890 : decode cL_law 890 = .ok (.iload_n 3, 1) := by decide +kernel
theorem dL_law_891 : decode cL_law 891 = .ok (.iconst 3, 1) := by decide +kernel
theorem dL_law_892 : decode cL_law 892 = .ok (.iadd, 1) := by decide +kernel
theorem dL_law_893 : decode cL_law 893 = .ok (.iaload, 1) := by decide +kernel
theorem dL_law_894 : decode cL_law 894 = .ok (.invokevirtual 127, 3) := by decide +kernel
theorem dL_law_897 : decode cL_law 897 = .ok (.if_icmp .eq 238, 3) := by decide +kernel
theorem dL_law_900 : decode cL_law 900 = .ok (.iconst 0, 1) := by decide +kernel
theorem dL_law_901 : decode cL_law 901 = .ok (.ireturn, 1) := by decide +kernel
theorem dL_law_902 : decode cL_law 902 = .ok (.aload_n 1, 1) := by decide +kernel
theorem dL_law_903 : decode cL_law 903 = .ok (.aload_n 0, 1) := by decide +kernel
theorem dL_law_904 : decode cL_law 904 = .ok (.iload_n 3, 1) := by decide +kernel
theorem dL_law_905 : decode cL_law 905 = .ok (.iconst 1, 1) := by decide +kernel
theorem dL_law_906 : decode cL_law 906 = .ok (.iadd, 1) := by decide +kernel
theorem dL_law_907 : decode cL_law 907 = .ok (.iaload, 1) := by decide +kernel
theorem dL_law_908 : decode cL_law 908 = .ok (.invokevirtual 128, 3) := by decide +kernel
theorem dL_law_911 : decode cL_law 911 = .ok (.aload_n 2, 1) := by decide +kernel
theorem dL_law_912 : decode cL_law 912 = .ok (.aload_n 0, 1) := by decide +kernel
theorem dL_law_913 : decode cL_law 913 = .ok (.iload_n 3, 1) := by decide +kernel
theorem dL_law_914 : decode cL_law 914 = .ok (.iconst 1, 1) := by decide +kernel
theorem dL_law_915 : decode cL_law 915 = .ok (.iadd, 1) := by decide +kernel
theorem dL_law_916 : decode cL_law 916 = .ok (.iaload, 1) := by decide +kernel
theorem dL_law_917 : decode cL_law 917 = .ok (.invokevirtual 131, 3) := by decide +kernel
theorem dL_law_920 : decode cL_law 920 = .ok (.if_icmp .eq 215, 3) := by decide +kernel
theorem dL_law_923 : decode cL_law 923 = .ok (.iconst 0, 1) := by decide +kernel
theorem dL_law_924 : decode cL_law 924 = .ok (.ireturn, 1) := by decide +kernel
theorem dL_law_925 : decode cL_law 925 = .ok (.aload_n 1, 1) := by decide +kernel
theorem dL_law_926 : decode cL_law 926 = .ok (.aload_n 0, 1) := by decide +kernel
theorem dL_law_927 : decode cL_law 927 = .ok (.iload_n 3, 1) := by decide +kernel
theorem dL_law_928 : decode cL_law 928 = .ok (.iconst 1, 1) := by decide +kernel
theorem dL_law_929 : decode cL_law 929 = .ok (.iadd, 1) := by decide +kernel
theorem dL_law_930 : decode cL_law 930 = .ok (.iaload, 1) := by decide +kernel
theorem dL_law_931 : decode cL_law 931 = .ok (.aload_n 0, 1) := by decide +kernel
theorem dL_law_932 : decode cL_law 932 = .ok (.iload_n 3, 1) := by decide +kernel
theorem dL_law_933 : decode cL_law 933 = .ok (.iconst 2, 1) := by decide +kernel
theorem dL_law_934 : decode cL_law 934 = .ok (.iadd, 1) := by decide +kernel
theorem dL_law_935 : decode cL_law 935 = .ok (.iaload, 1) := by decide +kernel
theorem dL_law_936 : decode cL_law 936 = .ok (.aload_n 0, 1) := by decide +kernel
theorem dL_law_937 : decode cL_law 937 = .ok (.iload_n 3, 1) := by decide +kernel
theorem dL_law_938 : decode cL_law 938 = .ok (.iconst 3, 1) := by decide +kernel
theorem dL_law_939 : decode cL_law 939 = .ok (.iadd, 1) := by decide +kernel
theorem dL_law_940 : decode cL_law 940 = .ok (.iaload, 1) := by decide +kernel
theorem dL_law_941 : decode cL_law 941 = .ok (.aload_n 0, 1) := by decide +kernel
theorem dL_law_942 : decode cL_law 942 = .ok (.iload_n 3, 1) := by decide +kernel
theorem dL_law_943 : decode cL_law 943 = .ok (.iconst 4, 1) := by decide +kernel
theorem dL_law_944 : decode cL_law 944 = .ok (.iadd, 1) := by decide +kernel
theorem dL_law_945 : decode cL_law 945 = .ok (.iaload, 1) := by decide +kernel
theorem dL_law_946 : decode cL_law 946 = .ok (.invokevirtual 132, 3) := by decide +kernel
theorem dL_law_949 : decode cL_law 949 = .ok (.aload_n 2, 1) := by decide +kernel
theorem dL_law_950 : decode cL_law 950 = .ok (.aload_n 0, 1) := by decide +kernel
theorem dL_law_951 : decode cL_law 951 = .ok (.iload_n 3, 1) := by decide +kernel
theorem dL_law_952 : decode cL_law 952 = .ok (.iconst 1, 1) := by decide +kernel
theorem dL_law_953 : decode cL_law 953 = .ok (.iadd, 1) := by decide +kernel
theorem dL_law_954 : decode cL_law 954 = .ok (.iaload, 1) := by decide +kernel
theorem dL_law_955 : decode cL_law 955 = .ok (.aload_n 0, 1) := by decide +kernel
theorem dL_law_956 : decode cL_law 956 = .ok (.iload_n 3, 1) := by decide +kernel
theorem dL_law_957 : decode cL_law 957 = .ok (.iconst 2, 1) := by decide +kernel
theorem dL_law_958 : decode cL_law 958 = .ok (.iadd, 1) := by decide +kernel
theorem dL_law_959 : decode cL_law 959 = .ok (.iaload, 1) := by decide +kernel
theorem dL_law_960 : decode cL_law 960 = .ok (.aload_n 0, 1) := by decide +kernel
theorem dL_law_961 : decode cL_law 961 = .ok (.iload_n 3, 1) := by decide +kernel
theorem dL_law_962 : decode cL_law 962 = .ok (.iconst 3, 1) := by decide +kernel
theorem dL_law_963 : decode cL_law 963 = .ok (.iadd, 1) := by decide +kernel
theorem dL_law_964 : decode cL_law 964 = .ok (.iaload, 1) := by decide +kernel
theorem dL_law_965 : decode cL_law 965 = .ok (.aload_n 0, 1) := by decide +kernel
theorem dL_law_966 : decode cL_law 966 = .ok (.iload_n 3, 1) := by decide +kernel
theorem dL_law_967 : decode cL_law 967 = .ok (.iconst 4, 1) := by decide +kernel
theorem dL_law_968 : decode cL_law 968 = .ok (.iadd, 1) := by decide +kernel
theorem dL_law_969 : decode cL_law 969 = .ok (.iaload, 1) := by decide +kernel
theorem dL_law_970 : decode cL_law 970 = .ok (.invokevirtual 136, 3) := by decide +kernel
theorem dL_law_973 : decode cL_law 973 = .ok (.if_icmp .eq 162, 3) := by decide +kernel
theorem dL_law_976 : decode cL_law 976 = .ok (.iconst 0, 1) := by decide +kernel
theorem dL_law_977 : decode cL_law 977 = .ok (.ireturn, 1) := by decide +kernel
theorem dL_law_978 : decode cL_law 978 = .ok (.aload_n 1, 1) := by decide +kernel
theorem dL_law_979 : decode cL_law 979 = .ok (.aload_n 0, 1) := by decide +kernel
theorem dL_law_980 : decode cL_law 980 = .ok (.iload_n 3, 1) := by decide +kernel
theorem dL_law_981 : decode cL_law 981 = .ok (.iconst 1, 1) := by decide +kernel
theorem dL_law_982 : decode cL_law 982 = .ok (.iadd, 1) := by decide +kernel
theorem dL_law_983 : decode cL_law 983 = .ok (.iaload, 1) := by decide +kernel
theorem dL_law_984 : decode cL_law 984 = .ok (.aload_n 0, 1) := by decide +kernel
theorem dL_law_985 : decode cL_law 985 = .ok (.iload_n 3, 1) := by decide +kernel
theorem dL_law_986 : decode cL_law 986 = .ok (.iconst 2, 1) := by decide +kernel
theorem dL_law_987 : decode cL_law 987 = .ok (.iadd, 1) := by decide +kernel
theorem dL_law_988 : decode cL_law 988 = .ok (.iaload, 1) := by decide +kernel
theorem dL_law_989 : decode cL_law 989 = .ok (.invokevirtual 137, 3) := by decide +kernel
theorem dL_law_992 : decode cL_law 992 = .ok (.aload_n 2, 1) := by decide +kernel
theorem dL_law_993 : decode cL_law 993 = .ok (.aload_n 0, 1) := by decide +kernel
theorem dL_law_994 : decode cL_law 994 = .ok (.iload_n 3, 1) := by decide +kernel
theorem dL_law_995 : decode cL_law 995 = .ok (.iconst 1, 1) := by decide +kernel
theorem dL_law_996 : decode cL_law 996 = .ok (.iadd, 1) := by decide +kernel
theorem dL_law_997 : decode cL_law 997 = .ok (.iaload, 1) := by decide +kernel
theorem dL_law_998 : decode cL_law 998 = .ok (.aload_n 0, 1) := by decide +kernel
theorem dL_law_999 : decode cL_law 999 = .ok (.iload_n 3, 1) := by decide +kernel
theorem dL_law_1000 : decode cL_law 1000 = .ok (.iconst 2, 1) := by decide +kernel
theorem dL_law_1001 : decode cL_law 1001 = .ok (.iadd, 1) := by decide +kernel
theorem dL_law_1002 : decode cL_law 1002 = .ok (.iaload, 1) := by decide +kernel
theorem dL_law_1003 : decode cL_law 1003 = .ok (.invokevirtual 140, 3) := by decide +kernel
theorem dL_law_1006 : decode cL_law 1006 = .ok (.lcmp, 1) := by decide +kernel
theorem dL_law_1007 : decode cL_law 1007 = .ok (.ifCond .eq 128, 3) := by decide +kernel
theorem dL_law_1010 : decode cL_law 1010 = .ok (.iconst 0, 1) := by decide +kernel
theorem dL_law_1011 : decode cL_law 1011 = .ok (.ireturn, 1) := by decide +kernel
theorem dL_law_1012 : decode cL_law 1012 = .ok (.aload_n 1, 1) := by decide +kernel
theorem dL_law_1013 : decode cL_law 1013 = .ok (.aload_n 0, 1) := by decide +kernel
theorem dL_law_1014 : decode cL_law 1014 = .ok (.iload_n 3, 1) := by decide +kernel
theorem dL_law_1015 : decode cL_law 1015 = .ok (.iconst 1, 1) := by decide +kernel
theorem dL_law_1016 : decode cL_law 1016 = .ok (.iadd, 1) := by decide +kernel
theorem dL_law_1017 : decode cL_law 1017 = .ok (.iaload, 1) := by decide +kernel
theorem dL_law_1018 : decode cL_law 1018 = .ok (.aload_n 0, 1) := by decide +kernel
theorem dL_law_1019 : decode cL_law 1019 = .ok (.iload_n 3, 1) := by decide +kernel
theorem dL_law_1020 : decode cL_law 1020 = .ok (.iconst 2, 1) := by decide +kernel
theorem dL_law_1021 : decode cL_law 1021 = .ok (.iadd, 1) := by decide +kernel
theorem dL_law_1022 : decode cL_law 1022 = .ok (.iaload, 1) := by decide +kernel
theorem dL_law_1023 : decode cL_law 1023 = .ok (.aload_n 0, 1) := by decide +kernel
theorem dL_law_1024 : decode cL_law 1024 = .ok (.iload_n 3, 1) := by decide +kernel
theorem dL_law_1025 : decode cL_law 1025 = .ok (.iconst 3, 1) := by decide +kernel
theorem dL_law_1026 : decode cL_law 1026 = .ok (.iadd, 1) := by decide +kernel
theorem dL_law_1027 : decode cL_law 1027 = .ok (.iaload, 1) := by decide +kernel
theorem dL_law_1028 : decode cL_law 1028 = .ok (.aload_n 0, 1) := by decide +kernel
theorem dL_law_1029 : decode cL_law 1029 = .ok (.iload_n 3, 1) := by decide +kernel
theorem dL_law_1030 : decode cL_law 1030 = .ok (.iconst 4, 1) := by decide +kernel
theorem dL_law_1031 : decode cL_law 1031 = .ok (.iadd, 1) := by decide +kernel
theorem dL_law_1032 : decode cL_law 1032 = .ok (.iaload, 1) := by decide +kernel
theorem dL_law_1033 : decode cL_law 1033 = .ok (.aload_n 0, 1) := by decide +kernel
theorem dL_law_1034 : decode cL_law 1034 = .ok (.iload_n 3, 1) := by decide +kernel
theorem dL_law_1035 : decode cL_law 1035 = .ok (.iconst 5, 1) := by decide +kernel
theorem dL_law_1036 : decode cL_law 1036 = .ok (.iadd, 1) := by decide +kernel
theorem dL_law_1037 : decode cL_law 1037 = .ok (.iaload, 1) := by decide +kernel
theorem dL_law_1038 : decode cL_law 1038 = .ok (.invokevirtual 141, 3) := by decide +kernel
theorem dL_law_1041 : decode cL_law 1041 = .ok (.aload_n 2, 1) := by decide +kernel
theorem dL_law_1042 : decode cL_law 1042 = .ok (.aload_n 0, 1) := by decide +kernel
theorem dL_law_1043 : decode cL_law 1043 = .ok (.iload_n 3, 1) := by decide +kernel
theorem dL_law_1044 : decode cL_law 1044 = .ok (.iconst 1, 1) := by decide +kernel
theorem dL_law_1045 : decode cL_law 1045 = .ok (.iadd, 1) := by decide +kernel
theorem dL_law_1046 : decode cL_law 1046 = .ok (.iaload, 1) := by decide +kernel
theorem dL_law_1047 : decode cL_law 1047 = .ok (.aload_n 0, 1) := by decide +kernel
theorem dL_law_1048 : decode cL_law 1048 = .ok (.iload_n 3, 1) := by decide +kernel
theorem dL_law_1049 : decode cL_law 1049 = .ok (.iconst 2, 1) := by decide +kernel
theorem dL_law_1050 : decode cL_law 1050 = .ok (.iadd, 1) := by decide +kernel
theorem dL_law_1051 : decode cL_law 1051 = .ok (.iaload, 1) := by decide +kernel
theorem dL_law_1052 : decode cL_law 1052 = .ok (.aload_n 0, 1) := by decide +kernel
theorem dL_law_1053 : decode cL_law 1053 = .ok (.iload_n 3, 1) := by decide +kernel
theorem dL_law_1054 : decode cL_law 1054 = .ok (.iconst 3, 1) := by decide +kernel
theorem dL_law_1055 : decode cL_law 1055 = .ok (.iadd, 1) := by decide +kernel
theorem dL_law_1056 : decode cL_law 1056 = .ok (.iaload, 1) := by decide +kernel
theorem dL_law_1057 : decode cL_law 1057 = .ok (.aload_n 0, 1) := by decide +kernel
theorem dL_law_1058 : decode cL_law 1058 = .ok (.iload_n 3, 1) := by decide +kernel
theorem dL_law_1059 : decode cL_law 1059 = .ok (.iconst 4, 1) := by decide +kernel
theorem dL_law_1060 : decode cL_law 1060 = .ok (.iadd, 1) := by decide +kernel
theorem dL_law_1061 : decode cL_law 1061 = .ok (.iaload, 1) := by decide +kernel
theorem dL_law_1062 : decode cL_law 1062 = .ok (.aload_n 0, 1) := by decide +kernel
theorem dL_law_1063 : decode cL_law 1063 = .ok (.iload_n 3, 1) := by decide +kernel
theorem dL_law_1064 : decode cL_law 1064 = .ok (.iconst 5, 1) := by decide +kernel
theorem dL_law_1065 : decode cL_law 1065 = .ok (.iadd, 1) := by decide +kernel
theorem dL_law_1066 : decode cL_law 1066 = .ok (.iaload, 1) := by decide +kernel
theorem dL_law_1067 : decode cL_law 1067 = .ok (.invokevirtual 145, 3) := by decide +kernel
theorem dL_law_1070 : decode cL_law 1070 = .ok (.if_icmp .eq 65, 3) := by decide +kernel
theorem dL_law_1073 : decode cL_law 1073 = .ok (.iconst 0, 1) := by decide +kernel
theorem dL_law_1074 : decode cL_law 1074 = .ok (.ireturn, 1) := by decide +kernel
theorem dL_law_1075 : decode cL_law 1075 = .ok (.aload_n 1, 1) := by decide +kernel
theorem dL_law_1076 : decode cL_law 1076 = .ok (.aload_n 0, 1) := by decide +kernel
theorem dL_law_1077 : decode cL_law 1077 = .ok (.iload_n 3, 1) := by decide +kernel
theorem dL_law_1078 : decode cL_law 1078 = .ok (.iconst 1, 1) := by decide +kernel
theorem dL_law_1079 : decode cL_law 1079 = .ok (.iadd, 1) := by decide +kernel
theorem dL_law_1080 : decode cL_law 1080 = .ok (.iaload, 1) := by decide +kernel
theorem dL_law_1081 : decode cL_law 1081 = .ok (.invokevirtual 146, 3) := by decide +kernel
theorem dL_law_1084 : decode cL_law 1084 = .ok (.aload_n 2, 1) := by decide +kernel
theorem dL_law_1085 : decode cL_law 1085 = .ok (.aload_n 0, 1) := by decide +kernel
theorem dL_law_1086 : decode cL_law 1086 = .ok (.iload_n 3, 1) := by decide +kernel
theorem dL_law_1087 : decode cL_law 1087 = .ok (.iconst 1, 1) := by decide +kernel
theorem dL_law_1088 : decode cL_law 1088 = .ok (.iadd, 1) := by decide +kernel
theorem dL_law_1089 : decode cL_law 1089 = .ok (.iaload, 1) := by decide +kernel
theorem dL_law_1090 : decode cL_law 1090 = .ok (.invokevirtual 149, 3) := by decide +kernel
theorem dL_law_1093 : decode cL_law 1093 = .ok (.if_icmp .eq 42, 3) := by decide +kernel
theorem dL_law_1096 : decode cL_law 1096 = .ok (.iconst 0, 1) := by decide +kernel
theorem dL_law_1097 : decode cL_law 1097 = .ok (.ireturn, 1) := by decide +kernel
theorem dL_law_1098 : decode cL_law 1098 = .ok (.aload_n 1, 1) := by decide +kernel
theorem dL_law_1099 : decode cL_law 1099 = .ok (.aload_n 0, 1) := by decide +kernel
theorem dL_law_1100 : decode cL_law 1100 = .ok (.iload_n 3, 1) := by decide +kernel
theorem dL_law_1101 : decode cL_law 1101 = .ok (.iconst 1, 1) := by decide +kernel
theorem dL_law_1102 : decode cL_law 1102 = .ok (.iadd, 1) := by decide +kernel
theorem dL_law_1103 : decode cL_law 1103 = .ok (.iaload, 1) := by decide +kernel
theorem dL_law_1104 : decode cL_law 1104 = .ok (.invokevirtual 150, 3) := by decide +kernel
theorem dL_law_1107 : decode cL_law 1107 = .ok (.aload_n 2, 1) := by decide +kernel
theorem dL_law_1108 : decode cL_law 1108 = .ok (.aload_n 0, 1) := by decide +kernel
theorem dL_law_1109 : decode cL_law 1109 = .ok (.iload_n 3, 1) := by decide +kernel
theorem dL_law_1110 : decode cL_law 1110 = .ok (.iconst 1, 1) := by decide +kernel
theorem dL_law_1111 : decode cL_law 1111 = .ok (.iadd, 1) := by decide +kernel
theorem dL_law_1112 : decode cL_law 1112 = .ok (.iaload, 1) := by decide +kernel
theorem dL_law_1113 : decode cL_law 1113 = .ok (.invokevirtual 153, 3) := by decide +kernel
theorem dL_law_1116 : decode cL_law 1116 = .ok (.if_icmp .eq 19, 3) := by decide +kernel
theorem dL_law_1119 : decode cL_law 1119 = .ok (.iconst 0, 1) := by decide +kernel
theorem dL_law_1120 : decode cL_law 1120 = .ok (.ireturn, 1) := by decide +kernel
theorem dL_law_1121 : decode cL_law 1121 = .ok (.aload_n 1, 1) := by decide +kernel
theorem dL_law_1122 : decode cL_law 1122 = .ok (.invokevirtual 154, 3) := by decide +kernel
theorem dL_law_1125 : decode cL_law 1125 = .ok (.aload_n 2, 1) := by decide +kernel
theorem dL_law_1126 : decode cL_law 1126 = .ok (.invokevirtual 158, 3) := by decide +kernel
theorem dL_law_1129 : decode cL_law 1129 = .ok (.lcmp, 1) := by decide +kernel
theorem dL_law_1130 : decode cL_law 1130 = .ok (.ifCond .eq 5, 3) := by decide +kernel
theorem dL_law_1133 : decode cL_law 1133 = .ok (.iconst 0, 1) := by decide +kernel
theorem dL_law_1134 : decode cL_law 1134 = .ok (.ireturn, 1) := by decide +kernel
theorem dL_law_1135 : decode cL_law 1135 = .ok (.iinc 3 6, 3) := by decide +kernel
theorem dL_law_1138 : decode cL_law 1138 = .ok (.goto (-1120), 3) := by decide +kernel
theorem dL_law_1141 : decode cL_law 1141 = .ok (.iconst 1, 1) := by decide +kernel
theorem dL_law_1142 : decode cL_law 1142 = .ok (.ireturn, 1) := by decide +kernel
end
section
/-! ===== the world: one table of ints, one of longs; the shape of the cells never changes behind the constructors ===== -/
abbrev wo_T : Type := (Nat → Nat → Int32) × (Nat → Nat → Int64)
def wo_i (w : wo_T) (a k : Nat) (v : Int32) : wo_T := (fun b j => if b = a ∧ j = k then v else w.1 b j, w.2)
def wo_l (w : wo_T) (a k : Nat) (v : Int64) : wo_T := (w.1, fun b j => if b = a ∧ j = k then v else w.2 b j)
/-- a cell's kind: an object (number of its class; its fields: 0 an int, 1 a long, r + 2 the cell r), or an array (0 ints, 1 longs, 2 booleans, 3 sheets, 4 rows of longs; its length; of references the first cell and the step) -/
abbrev wo_K : Type := (Nat × List Nat) ⊕ (Nat × Nat × Nat × Nat)
def wo_lay : List wo_K := [
  .inl (6, [3, 25, 31, 37, 50, 51, 0, 0, 0]),
  .inl (3, [4, 5, 6, 7, 8, 9, 0]), .inr (0, 10, 0, 0), .inr (0, 5, 0, 0), .inr (0, 10, 0, 0), .inr (0, 10, 0, 0), .inr (0, 20, 0, 0), .inr (0, 10, 0, 0),
  .inl (5, [11, 20, 21, 22, 23, 24, 0, 0]), .inr (4, 8, 10, 1),
  .inr (1, 110, 0, 0), .inr (1, 110, 0, 0), .inr (1, 110, 0, 0), .inr (1, 110, 0, 0), .inr (1, 110, 0, 0), .inr (1, 110, 0, 0), .inr (1, 110, 0, 0), .inr (1, 110, 0, 0),
  .inr (0, 8, 0, 0), .inr (0, 8, 0, 0), .inr (0, 8, 0, 0), .inr (1, 8, 0, 0), .inr (1, 8, 0, 0),
  .inl (0, [26, 27, 28, 29, 1, 10, 30, 0, 0, 0, 0]), .inr (0, 252, 0, 0), .inr (1, 252, 0, 0), .inr (1, 252, 0, 0), .inr (1, 10, 0, 0), .inr (0, 8, 0, 0),
  .inl (0, [32, 33, 34, 35, 1, 10, 36, 0, 0, 0, 0]), .inr (0, 252, 0, 0), .inr (1, 252, 0, 0), .inr (1, 252, 0, 0), .inr (1, 10, 0, 0), .inr (0, 8, 0, 0),
  .inl (2, [38, 49, 0]), .inr (4, 10, 37, 1),
  .inr (1, 11, 0, 0), .inr (1, 11, 0, 0), .inr (1, 11, 0, 0), .inr (1, 11, 0, 0), .inr (1, 11, 0, 0), .inr (1, 11, 0, 0), .inr (1, 11, 0, 0), .inr (1, 11, 0, 0), .inr (1, 11, 0, 0), .inr (1, 11, 0, 0),
  .inr (0, 10, 0, 0),
  .inl (1, [0, 0, 1, 1, 1]),
  .inr (3, 4, 50, 2),
  .inl (4, [53, 0, 0, 0]), .inr (1, 40, 0, 0), .inl (4, [55, 0, 0, 0]), .inr (1, 40, 0, 0), .inl (4, [57, 0, 0, 0]), .inr (1, 40, 0, 0), .inl (4, [59, 0, 0, 0]), .inr (1, 40, 0, 0),
  .inl (7, [61, 62, 63, 64, 65, 0, 0, 66, 67, 0, 68, 69, 70, 0, 0, 0, 0, 71, 72, 73, 74, 0]),
  .inr (0, 5, 0, 0), .inr (0, 5, 0, 0), .inr (0, 5, 0, 0), .inr (0, 10, 0, 0), .inr (0, 10, 0, 0), .inr (1, 110, 0, 0), .inr (0, 10, 0, 0), .inr (2, 1024, 0, 0), .inr (1, 1024, 0, 0), .inr (1, 1024, 0, 0), .inr (0, 4, 0, 0), .inr (0, 4, 0, 0), .inr (1, 160, 0, 0), .inr (1, 40, 0, 0)]
/-- where the cells lie, the classes, the array classes -/
abbrev wo_G : Type := (Nat → Nat) × va_G × (Nat → ClassId)
def wo_mv (ad : Nat → Nat) (v : Value) : Value := match v with
  | .ref a => .ref (ad a)
  | v => v
def wo_fv (ad : Nat → Nat) (w : wo_T) (o k f : Nat) : Value := match f with
  | 0 => .int (w.1 o k)
  | 1 => .long (w.2 o k)
  | r + 2 => .ref (ad r)
def wo_cell (g : wo_G) (w : wo_T) (o : Nat) (q : wo_K) : va_E := match q with
  | .inl (ci, fs) => .inr (ci, fs.mapIdx (fun k f => wo_fv g.1 w o k f))
  | .inr (0, n, _, _) => .inl (g.2.2 0, n, .inl (w.1 o))
  | .inr (1, n, _, _) => .inl (g.2.2 1, n, .inr (.inl (w.2 o)))
  | .inr (2, n, _, _) => .inl (g.2.2 2, n, .inl (w.1 o))
  | .inr (t + 3, n, b, d) => .inl (g.2.2 (t + 3), n, .inr (.inr (.inr (.inr (fun j => if j < n then some (g.1 (b + d * j)) else none)))))
def wo_rz (g : wo_G) (w : wo_T) : va_W := wo_lay.mapIdx (fun o q => (g.1 o, wo_cell g w o q))
def wo_A (g : wo_G) : Nat → Prop := fun q => ∃ o, o < 73 ∧ q = g.1 o
def wo_tys (g : wo_G) : List (ClassId × FieldType) := [(g.2.2 0, .int), (g.2.2 1, .long), (g.2.2 2, .boolean), (g.2.2 3, .object "LeastFrames$Sheet"), (g.2.2 4, .array .long)]
def wo_dis (g : wo_G) : Prop := ∀ i j, i < 73 → j < 73 → g.1 i = g.1 j → i = j
def wo_les (j : Nat) : Int32 := match j with
  | 0 => 0 | 1 => 0 | 2 => 1 | 3 => 0 | 4 => 1 | 5 => 2 | 6 => 0 | 7 => 1 | 8 => 2 | _ => 3
def wo_gre (j : Nat) : Int32 := match j with
  | 0 => 1 | 1 => 2 | 2 => 2 | 3 => 3 | 4 => 3 | 5 => 3 | _ => 4
def wo_st (g : wo_G) (U : State) (H : Heap) : Prop :=
  va_Z "LeastFrames" "LESSER" "[I" (.ref (g.1 100)) (wo_A g) U H ∧ va_T .int (g.1 100) 10 (fun j => .int (wo_les j)) (wo_A g) U H ∧
  va_Z "LeastFrames" "GREATER" "[I" (.ref (g.1 101)) (wo_A g) U H ∧ va_T .int (g.1 101) 10 (fun j => .int (wo_gre j)) (wo_A g) U H
def wo_nF : List (String × Nat × String × String × String × String) := [("LeastFrames$Ground", 42, "LeastFrames", "GREATER", "[I", "LeastFrames"), ("LeastFrames$Ground", 45, "LeastFrames", "LESSER", "[I", "LeastFrames"), ("LeastFrames$Crossing", 24, "LeastFrames", "LESSER", "[I", "LeastFrames")]
def wo_nM : List (String × Nat × MethodName × String) := [("LeastFrames$Bearers", 96, yX6_asLong, "LeastFrames"), ("LeastFrames$Bearers", 100, yX6_lowest, "LeastFrames")]
def wo_nest (U : State) : Prop := (∀ q ∈ wo_nF, va_Nw (.fieldLinkNest q.1 q.2.1 q.2.2.1 q.2.2.2.1 q.2.2.2.2.1 q.2.2.2.2.2) U) ∧ ∀ q ∈ wo_nM, va_Nw (.methodLinkNest q.1 q.2.1 q.2.2.1 q.2.2.2) U
/-- what of a world doesn't move -/
def wo_S (g : wo_G) (U : State) : Prop := va_K g.2.1 vwCl (wo_tys g) U ∧ wo_dis g ∧ wo_st g U U.heap ∧ wo_nest U
def wo_at (g : wo_G) (w : wo_T) (U : State) : Prop := va_P g.2.1 vwCl (wo_rz g w) U.heap ∧ wo_S g U
theorem wo_len : wo_lay.length = 73 := by decide +kernel
theorem wo_get {g : wo_G} {w : wo_T} {o : Nat} {q : wo_K} (h : wo_lay[o]? = some q) : (wo_rz g w)[o]? = some (g.1 o, wo_cell g w o q) := by
  simp [wo_rz, List.getElem?_mapIdx, h]
theorem wo_cell_congr {g : wo_G} {w w' : wo_T} {o : Nat} (h1 : w'.1 o = w.1 o) (h2 : w'.2 o = w.2 o) (q : wo_K) : wo_cell g w' o q = wo_cell g w o q := by
  have hf : (fun k f => wo_fv g.1 w' o k f) = (fun k f => wo_fv g.1 w o k f) := by
    funext k f
    match f with
    | 0 => simp [wo_fv, h1]
    | 1 => simp [wo_fv, h2]
    | r + 2 => simp [wo_fv]
  match q with
  | .inl (ci, fs) => simp [wo_cell, hf]
  | .inr (0, n, _, _) => simp [wo_cell, h1]
  | .inr (1, n, _, _) => simp [wo_cell, h2]
  | .inr (2, n, _, _) => simp [wo_cell, h1]
  | .inr (t + 3, n, b, d) => simp [wo_cell]
theorem wo_set {g : wo_G} {w w' : wo_T} {o : Nat} {q : wo_K} {e : va_E} (hk : wo_lay[o]? = some q) (he : e = wo_cell g w' o q) (h1 : ∀ b, b ≠ o → w'.1 b = w.1 b) (h2 : ∀ b, b ≠ o → w'.2 b = w.2 b) : (wo_rz g w).set o (g.1 o, e) = wo_rz g w' := by
  apply List.ext_getElem?
  intro i
  have hlt := (List.getElem?_eq_some_iff.mp hk).1
  rw [List.getElem?_set]
  by_cases h : o = i
  · subst h
    rw [if_pos rfl, if_pos (by simpa [wo_rz] using hlt), wo_get hk, he]
  · rw [if_neg h]
    simp only [wo_rz, List.getElem?_mapIdx]
    cases wo_lay[i]? with
    | none => rfl
    | some r => simp [wo_cell_congr (h1 i (Ne.symm h)) (h2 i (Ne.symm h)) r]
theorem wo_i_ne {w : wo_T} {o k : Nat} {v : Int32} (b : Nat) (h : b ≠ o) : (wo_i w o k v).1 b = w.1 b := by
  funext j; simp [wo_i, h]
theorem wo_l_ne {w : wo_T} {o k : Nat} {v : Int64} (b : Nat) (h : b ≠ o) : (wo_l w o k v).2 b = w.2 b := by
  funext j; simp [wo_l, h]
theorem wo_i_at {w : wo_T} {o k : Nat} {v : Int32} : (wo_i w o k v).1 o = upd (w.1 o) k v := by
  funext j; simp [wo_i, upd]
theorem wo_l_at {w : wo_T} {o k : Nat} {v : Int64} : (wo_l w o k v).2 o = vp_updL (w.2 o) k v := by
  funext j; simp [wo_l, vp_updL]
theorem wo_D {g : wo_G} {w : wo_T} (h : wo_dis g) : va_D (wo_A g) (wo_rz g w) := by
  refine ⟨fun i j p q hp hq e => ?_, fun k q hq => ?_⟩
  · have hi := (List.getElem?_eq_some_iff.mp hp).1
    have hj := (List.getElem?_eq_some_iff.mp hq).1
    simp only [wo_rz, List.length_mapIdx, wo_len] at hi hj
    simp only [wo_rz, List.getElem?_mapIdx] at hp hq
    obtain ⟨a, -, rfl⟩ := Option.map_eq_some_iff.mp hp
    obtain ⟨b, -, rfl⟩ := Option.map_eq_some_iff.mp hq
    exact h i j hi hj e
  · have hi := (List.getElem?_eq_some_iff.mp hq).1
    simp only [wo_rz, List.length_mapIdx, wo_len] at hi
    simp only [wo_rz, List.getElem?_mapIdx] at hq
    obtain ⟨a, -, rfl⟩ := Option.map_eq_some_iff.mp hq
    exact ⟨k, hi, rfl⟩
theorem wo_st_moved {g : wo_G} {u U : State} {H : Heap} (hvm : u.vm.Alike U.vm) (h : wo_st g u H) : wo_st g U H := ⟨h.1.moved hvm, h.2.1.moved hvm, h.2.2.1.moved hvm, h.2.2.2.moved hvm⟩
theorem wo_st_kept {g : wo_G} {U : State} {H H1 : Heap} (h : wo_st g U H) (hq : ∀ a : Nat, a < H.size → ¬ wo_A g a → H1[a]? = H[a]?) : wo_st g U H1 := ⟨h.1.kept hq, h.2.1.kept hq, h.2.2.1.kept hq, h.2.2.2.kept hq⟩
theorem wo_nest_warm {s U : State} (hW : s.WarmedH U.vm) (h : wo_nest s) : wo_nest U := ⟨fun q hq => va_Nw.warmF hW (h.1 q hq), fun q hq => va_Nw.warmM hW (h.2 q hq)⟩
theorem wo_nest_same {s U : State} (hv : s.vm = U.vm) (h : wo_nest s) : wo_nest U := ⟨fun q hq => va_Nw.same rfl hv (h.1 q hq), fun q hq => va_Nw.same rfl hv (h.2 q hq)⟩
/-! ===== the words that every method has ===== -/
def jj_tb : List Cond := lw_tbl.filter goodWord
theorem jj_mem {w : Cond} (h : w ∈ lw_tbl) (hg : goodWord w = true) : w ∈ jj_tb := List.mem_filter.mpr ⟨h, hg⟩
theorem jj_good : ∀ w ∈ jj_tb, goodWord w = true := fun w h => (List.mem_filter.mp h).2
/-- a method: its name, code, locals, type of its answer, frames and locals below it -/
abbrev jj_M : Type := MethodName × ByteArray × Nat × Option FieldType × Nat × Nat
def jj_ws (M : jj_M) : List Cond := Cond.code M.1 M.2.1 M.2.2.1 M.2.2.2.1 :: jj_tb
def jj_rm (M : jj_M) : Room := { frames := M.2.2.2.2.1, cells := 0, slots := 0, locals := M.2.2.2.2.2 }
abbrev jj_K : Type := wo_G × Launch
def jj_Q (g : wo_G) (P : Option Value → wo_T → Prop) : Array Value → State → Outcome → State → Prop := fun _ st oc t => (∃ (r : Option Value) (w : wo_T), oc = .returned (r.map (wo_mv g.1)) ∧ P r w ∧ va_P g.2.1 vwCl (wo_rz g w) t.heap) ∧ va_F (wo_A g) st t
def jj_P (g : wo_G) (as : List Value) (w : wo_T) : Array Value → State → Prop := fun v U => v = (as.map (wo_mv g.1)).toArray ∧ wo_at g w U
/-- a call of M with these arguments in this world ends, with P -/
def jj_C (K : jj_K) (M : jj_M) (as : List Value) (w : wo_T) (P : Option Value → wo_T → Prop) : Prop := Met K.2 M.1 (jj_ws M) (jj_rm M) (jj_P K.1 as w) (jj_Q K.1 P) 0 0 (wo_A K.1)
def jj_Ci (K : jj_K) (M : jj_M) (as : List Value) (w : wo_T) (P : Int32 → wo_T → Prop) : Prop := jj_C K M as w (fun r w => ∃ v, r = some (.int v) ∧ P v w)
def jj_Cl (K : jj_K) (M : jj_M) (as : List Value) (w : wo_T) (P : Int64 → wo_T → Prop) : Prop := jj_C K M as w (fun r w => ∃ v, r = some (.long v) ∧ P v w)
def jj_Cv (K : jj_K) (M : jj_M) (as : List Value) (w : wo_T) (P : wo_T → Prop) : Prop := jj_C K M as w (fun r w => r = none ∧ P w)
def jj_X (K : jj_K) (M : jj_M) (p : Program) (s : State) (m : MethodId) (args : Array Value) (meth : Method) (c : Code) : Prop :=
  p.tables.exec = Jvm.exec ∧ c.code = M.2.1 ∧ c.maxLocals = M.2.2.1 ∧ s.vm.findClass M.1.cls = some m.cls ∧ (∀ w ∈ jj_tb, w.before args s = true) ∧ meth.sig.returnType = M.2.2.2.1 ∧ meth.locks = false ∧ wo_S K.1 s
def jj_lm (K : jj_K) (l : List (Nat × Value)) : List (Nat × Value) := l.map (fun q => (q.1, wo_mv K.1.1 q.2))
/-- from here on M comes to its end, with P -/
def jj_J (K : jj_K) (M : jj_M) (P : Option Value → wo_T → Prop) (pc : Nat) (l : List (Nat × Value)) (st : List Value) (w : wo_T) : Prop :=
  ∀ (p : Program) (e : Env) (s : State) (m : MethodId) (args : Array Value) (below : List Frame) (meth : Method) (c : Code), jj_X K M p s m args meth c →
    ∀ (H : Heap) (locs : List Loc) (ls : Array Slot), va_P K.1.2.1 vwCl (wo_rz K.1 w) H → va_S (wo_A K.1) s.heap H locs → lv_has ls M.2.2.1 (jj_lm K l) →
      W p K.2 e (jj_rm M) s m args below meth c H locs 0 0 (MQ below (jj_Q K.1 P) args s 0 0 (wo_A K.1)) (F0 m pc ls (st.map (wo_mv K.1.1)))
theorem wo_mv_cat (ad : Nat → Nat) (v : Value) : (wo_mv ad v).category = v.category := by cases v <;> rfl
theorem jj_lm_args (K : jj_K) (as : List Value) : ∀ i, lv_args i (as.map (wo_mv K.1.1)) = jj_lm K (lv_args i as) := by
  induction as with
  | nil => intro i; rfl
  | cons v vs ih =>
    intro i
    simp only [List.map_cons, lv_args, jj_lm, wo_mv_cat]
    rw [ih]
    rfl
theorem jj_sl_len (ad : Nat → Nat) (as : List Value) : (lg_sl (as.map (wo_mv ad))).length = (lg_sl as).length := by
  induction as with
  | nil => rfl
  | cons v vs ih =>
    simp only [lg_sl, List.map_cons, List.flatMap_cons, List.length_append, wo_mv_cat] at ih ⊢
    rw [ih]
    split <;> rfl
theorem jj_blind (g : wo_G) (as : List Value) (w : wo_T) : FrameBlind (jj_P g as w) := by
  intro a U fr mk h
  obtain ⟨h1, h2, h3, h4, h5, h6⟩ := h
  exact ⟨h1, h2, va_K.moved (u := U) (U := U.calling fr mk a) (Vm.Alike.refl U.vm) h3, h4, wo_st_moved (u := U) (U := U.calling fr mk a) (Vm.Alike.refl U.vm) h5, wo_nest_same (U := U.calling fr mk a) rfl h6⟩
theorem jj_at {K : jj_K} {M : jj_M} {p : Program} {s : State} {m : MethodId} {args : Array Value} {meth : Method} {c : Code} {H : Heap} {locs : List Loc} {w : wo_T} (X : jj_X K M p s m args meth c) (hP : va_P K.1.2.1 vwCl (wo_rz K.1 w) H) (hS : va_S (wo_A K.1) s.heap H locs) (as : List Value) : ∀ U : State, U.heap = H → s.WarmedH U.vm → jj_P K.1 as w (as.map (wo_mv K.1.1)).toArray U := by
  intro U hU hW
  obtain ⟨-, -, -, -, -, -, -, hK, hd, hst, hn⟩ := X
  refine ⟨rfl, by rw [hU]; exact hP, hK.moved hW.alike, hd, ?_, wo_nest_warm hW hn⟩
  rw [hU]
  exact wo_st_kept (wo_st_moved hW.alike hst) hS.2.1
theorem jj_C_intro {K : jj_K} {M : jj_M} {as : List Value} {w : wo_T} {P : Option Value → wo_T → Prop} (hy : plainName M.1.cls = true) (hlen : (lg_sl as).length ≤ M.2.2.1) (k : jj_J K M P 0 (lv_args 0 as) [] w) : jj_C K M as w P := by
  refine Met.ofW (cc := M.2.1) (maxL := M.2.2.1) (ret := M.2.2.2.1) (ws' := jj_tb) hy rfl ?_
  intro p e s m args below meth c s₁ B hml hv
  obtain ⟨rfl, hP, hS⟩ := hv
  have hts := atoms_spec (ws := jj_ws M) B.pre
  have hl := lv_entry (as.map (wo_mv K.1.1)) (n := M.2.2.1) (by rw [jj_sl_len]; exact hlen)
  rw [jj_lm_args] at hl
  rw [lg_entry_eq]
  exact k p e s m _ below meth c ⟨B.exec, B.bytes, hml, findClass_of_methodNamed B.named, fun w h => hts w (List.mem_cons_of_mem _ h), B.returns, B.notSynchronized, hS⟩ s.heap [] _ hP va_S.rf hl
theorem jj_Ci_intro {K : jj_K} {M : jj_M} {as : List Value} {w : wo_T} {P : Int32 → wo_T → Prop} (hy : plainName M.1.cls = true) (hlen : (lg_sl as).length ≤ M.2.2.1) (k : jj_J K M (fun r w => ∃ v, r = some (.int v) ∧ P v w) 0 (lv_args 0 as) [] w) : jj_Ci K M as w P := jj_C_intro hy hlen k
theorem jj_Cl_intro {K : jj_K} {M : jj_M} {as : List Value} {w : wo_T} {P : Int64 → wo_T → Prop} (hy : plainName M.1.cls = true) (hlen : (lg_sl as).length ≤ M.2.2.1) (k : jj_J K M (fun r w => ∃ v, r = some (.long v) ∧ P v w) 0 (lv_args 0 as) [] w) : jj_Cl K M as w P := jj_C_intro hy hlen k
theorem jj_Cv_intro {K : jj_K} {M : jj_M} {as : List Value} {w : wo_T} {P : wo_T → Prop} (hy : plainName M.1.cls = true) (hlen : (lg_sl as).length ≤ M.2.2.1) (k : jj_J K M (fun r w => r = none ∧ P w) 0 (lv_args 0 as) [] w) : jj_Cv K M as w P := jj_C_intro hy hlen k
end
section
/-! ===== a row an instruction ===== -/
section
variable {K : jj_K} {M : jj_M} {P : Option Value → wo_T → Prop} {pc : Nat} {l : List (Nat × Value)} {st : List Value} {w : wo_T}
theorem jj_loc {ls : Array Slot} {nL i n : Nat} {v : Value} (hl : lv_has ls nL (jj_lm K l)) (h : l[i]? = some (n, v)) : ls[n]? = some (.val (wo_mv K.1.1 v)) := lv_at hl i (by simp [jj_lm, h])
theorem jj_fil (K : jj_K) (l : List (Nat × Value)) (p : Nat → Nat → Bool) : (jj_lm K l).filter (fun q => p q.1 q.2.category) = jj_lm K (l.filter (fun q => p q.1 q.2.category)) := by
  induction l with
  | nil => rfl
  | cons a l ih =>
    simp only [jj_lm, List.map_cons, List.filter_cons, wo_mv_cat] at ih ⊢
    rw [ih]
    split <;> rfl
theorem jj_sub (ks : List Nat) {l' : List (Nat × Value)} (h : lv_pick l ks = l') (k : jj_J K M P pc l' st w) : jj_J K M P pc l st w := by
  intro p e s m args below meth c X H locs ls hP hS hl
  refine k p e s m args below meth c X H locs ls hP hS (lv_sub hl ks ?_)
  rw [← h]
  simp only [lv_pick, jj_lm, List.map_filterMap, List.getElem?_map]
theorem jj_iconst {n : Int} {v : Int32} (hd : decode M.2.1 pc = .ok (.iconst n, 1)) (hv : Int32.ofInt n = v) (k : jj_J K M P (pc + 1) l (.int v :: st) w) : jj_J K M P pc l (st) w := by
  intro p e s m args below meth c X H locs ls hP hS hl
  exact lv_iconst X.1 X.2.1 hd hv (k p e s m args below meth c X H locs ls hP hS hl)
theorem jj_bipush {n : Int} {v : Int32} (hd : decode M.2.1 pc = .ok (.bipush n, 2)) (hv : (Int8.ofInt n).toInt32 = v) (k : jj_J K M P (pc + 2) l (.int v :: st) w) : jj_J K M P pc l (st) w := by
  intro p e s m args below meth c X H locs ls hP hS hl
  exact lv_bipush X.1 X.2.1 hd hv (k p e s m args below meth c X H locs ls hP hS hl)
theorem jj_sipush {n : Int} {v : Int32} (hd : decode M.2.1 pc = .ok (.sipush n, 3)) (hv : (Int16.ofInt n).toInt32 = v) (k : jj_J K M P (pc + 3) l (.int v :: st) w) : jj_J K M P pc l (st) w := by
  intro p e s m args below meth c X H locs ls hP hS hl
  exact lv_sipush X.1 X.2.1 hd hv (k p e s m args below meth c X H locs ls hP hS hl)
theorem jj_lconst {n : Fin 2} {v : Int64} (hd : decode M.2.1 pc = .ok (.lconst n, 1)) (hv : Int64.ofNat (n : Nat) = v) (k : jj_J K M P (pc + 1) l (.long v :: st) w) : jj_J K M P pc l (st) w := by
  intro p e s m args below meth c X H locs ls hP hS hl
  exact lv_lconst X.1 X.2.1 hd hv (k p e s m args below meth c X H locs ls hP hS hl)
theorem jj_iload_n {n : Fin 4} {x : Int32} (hd : decode M.2.1 pc = .ok (.iload_n n, 1)) (i : Nat) (h : l[i]? = some ((n : Nat), .int x)) (k : jj_J K M P (pc + 1) l (.int x :: st) w) : jj_J K M P pc l st w := by
  intro p e s m args below meth c X H locs ls hP hS hl
  exact lv_iload_n X.1 X.2.1 hd rfl (jj_loc hl h) (k p e s m args below meth c X H locs ls hP hS hl)
theorem jj_iload {n : Nat} {x : Int32} (hd : decode M.2.1 pc = .ok (.iload n, 2)) (i : Nat) (h : l[i]? = some (n, .int x)) (k : jj_J K M P (pc + 2) l (.int x :: st) w) : jj_J K M P pc l st w := by
  intro p e s m args below meth c X H locs ls hP hS hl
  exact lv_iload X.1 X.2.1 hd (jj_loc hl h) (k p e s m args below meth c X H locs ls hP hS hl)
theorem jj_istore_n {n : Fin 4} {x : Int32} {l2 : List (Nat × Value)} (hd : decode M.2.1 pc = .ok (.istore_n n, 1)) (hn : (n : Nat) < M.2.2.1) (h : ((n : Nat), Value.int x) :: l.filter (fun q => !(q.1 == (n : Nat)) && !(q.1 + 1 == (n : Nat) && q.2.category == 2)) = l2) (k : jj_J K M P (pc + 1) l2 st w) : jj_J K M P pc l (.int x :: st) w := by
  intro p e s m args below meth c X H locs ls hP hS hl
  exact lv_istore_n (lv := jj_lm K l) (lv' := jj_lm K l2) X.1 X.2.1 hd rfl hl hn (by subst h; exact congrArg (List.cons ((n : Nat), wo_mv K.1.1 (.int x))) (jj_fil K l (fun a b => !(a == (n : Nat)) && !(a + 1 == (n : Nat) && b == 2)))) (fun ls hl => (k p e s m args below meth c X H locs ls hP hS hl))
theorem jj_istore {n : Nat} {x : Int32} {l2 : List (Nat × Value)} (hd : decode M.2.1 pc = .ok (.istore n, 2)) (hn : n < M.2.2.1) (h : (n, Value.int x) :: l.filter (fun q => !(q.1 == n) && !(q.1 + 1 == n && q.2.category == 2)) = l2) (k : jj_J K M P (pc + 2) l2 st w) : jj_J K M P pc l (.int x :: st) w := by
  intro p e s m args below meth c X H locs ls hP hS hl
  exact lv_istore (lv := jj_lm K l) (lv' := jj_lm K l2) X.1 X.2.1 hd hl hn (by subst h; exact congrArg (List.cons (n, wo_mv K.1.1 (.int x))) (jj_fil K l (fun a b => !(a == n) && !(a + 1 == n && b == 2)))) (fun ls hl => (k p e s m args below meth c X H locs ls hP hS hl))
theorem jj_lload_n {n : Fin 4} {x : Int64} (hd : decode M.2.1 pc = .ok (.lload_n n, 1)) (i : Nat) (h : l[i]? = some ((n : Nat), .long x)) (k : jj_J K M P (pc + 1) l (.long x :: st) w) : jj_J K M P pc l st w := by
  intro p e s m args below meth c X H locs ls hP hS hl
  exact lv_lload_n X.1 X.2.1 hd rfl (jj_loc hl h) (k p e s m args below meth c X H locs ls hP hS hl)
theorem jj_lload {n : Nat} {x : Int64} (hd : decode M.2.1 pc = .ok (.lload n, 2)) (i : Nat) (h : l[i]? = some (n, .long x)) (k : jj_J K M P (pc + 2) l (.long x :: st) w) : jj_J K M P pc l st w := by
  intro p e s m args below meth c X H locs ls hP hS hl
  exact lv_lload X.1 X.2.1 hd (jj_loc hl h) (k p e s m args below meth c X H locs ls hP hS hl)
theorem jj_lstore_n {n : Fin 4} {x : Int64} {l2 : List (Nat × Value)} (hd : decode M.2.1 pc = .ok (.lstore_n n, 1)) (hn : (n : Nat) + 1 < M.2.2.1) (h : ((n : Nat), Value.long x) :: l.filter (fun q => !(q.1 == (n : Nat)) && (!(q.1 == (n : Nat) + 1) && !(q.1 + 1 == (n : Nat) && q.2.category == 2))) = l2) (k : jj_J K M P (pc + 1) l2 st w) : jj_J K M P pc l (.long x :: st) w := by
  intro p e s m args below meth c X H locs ls hP hS hl
  exact lv_lstore_n (lv := jj_lm K l) (lv' := jj_lm K l2) X.1 X.2.1 hd rfl hl hn (by subst h; exact congrArg (List.cons ((n : Nat), wo_mv K.1.1 (.long x))) (jj_fil K l (fun a b => !(a == (n : Nat)) && (!(a == (n : Nat) + 1) && !(a + 1 == (n : Nat) && b == 2))))) (fun ls hl => (k p e s m args below meth c X H locs ls hP hS hl))
theorem jj_lstore {n : Nat} {x : Int64} {l2 : List (Nat × Value)} (hd : decode M.2.1 pc = .ok (.lstore n, 2)) (hn : n + 1 < M.2.2.1) (h : (n, Value.long x) :: l.filter (fun q => !(q.1 == n) && (!(q.1 == n + 1) && !(q.1 + 1 == n && q.2.category == 2))) = l2) (k : jj_J K M P (pc + 2) l2 st w) : jj_J K M P pc l (.long x :: st) w := by
  intro p e s m args below meth c X H locs ls hP hS hl
  exact lv_lstore (lv := jj_lm K l) (lv' := jj_lm K l2) X.1 X.2.1 hd hl hn (by subst h; exact congrArg (List.cons (n, wo_mv K.1.1 (.long x))) (jj_fil K l (fun a b => !(a == n) && (!(a == n + 1) && !(a + 1 == n && b == 2))))) (fun ls hl => (k p e s m args below meth c X H locs ls hP hS hl))
theorem jj_aload_n {n : Fin 4} {x : Nat} (hd : decode M.2.1 pc = .ok (.aload_n n, 1)) (i : Nat) (h : l[i]? = some ((n : Nat), .ref x)) (k : jj_J K M P (pc + 1) l (.ref x :: st) w) : jj_J K M P pc l st w := by
  intro p e s m args below meth c X H locs ls hP hS hl
  exact lv_aload_n X.1 X.2.1 hd rfl (jj_loc hl h) (k p e s m args below meth c X H locs ls hP hS hl)
theorem jj_aload {n : Nat} {x : Nat} (hd : decode M.2.1 pc = .ok (.aload n, 2)) (i : Nat) (h : l[i]? = some (n, .ref x)) (k : jj_J K M P (pc + 2) l (.ref x :: st) w) : jj_J K M P pc l st w := by
  intro p e s m args below meth c X H locs ls hP hS hl
  exact lv_aload X.1 X.2.1 hd (jj_loc hl h) (k p e s m args below meth c X H locs ls hP hS hl)
theorem jj_astore_n {n : Fin 4} {x : Nat} {l2 : List (Nat × Value)} (hd : decode M.2.1 pc = .ok (.astore_n n, 1)) (hn : (n : Nat) < M.2.2.1) (h : ((n : Nat), Value.ref x) :: l.filter (fun q => !(q.1 == (n : Nat)) && !(q.1 + 1 == (n : Nat) && q.2.category == 2)) = l2) (k : jj_J K M P (pc + 1) l2 st w) : jj_J K M P pc l (.ref x :: st) w := by
  intro p e s m args below meth c X H locs ls hP hS hl
  exact lv_astore_n (lv := jj_lm K l) (lv' := jj_lm K l2) X.1 X.2.1 hd rfl hl hn (by subst h; exact congrArg (List.cons ((n : Nat), wo_mv K.1.1 (.ref x))) (jj_fil K l (fun a b => !(a == (n : Nat)) && !(a + 1 == (n : Nat) && b == 2)))) (fun ls hl => (k p e s m args below meth c X H locs ls hP hS hl))
theorem jj_astore {n : Nat} {x : Nat} {l2 : List (Nat × Value)} (hd : decode M.2.1 pc = .ok (.astore n, 2)) (hn : n < M.2.2.1) (h : (n, Value.ref x) :: l.filter (fun q => !(q.1 == n) && !(q.1 + 1 == n && q.2.category == 2)) = l2) (k : jj_J K M P (pc + 2) l2 st w) : jj_J K M P pc l (.ref x :: st) w := by
  intro p e s m args below meth c X H locs ls hP hS hl
  exact lv_astore (lv := jj_lm K l) (lv' := jj_lm K l2) X.1 X.2.1 hd hl hn (by subst h; exact congrArg (List.cons (n, wo_mv K.1.1 (.ref x))) (jj_fil K l (fun a b => !(a == n) && !(a + 1 == n && b == 2)))) (fun ls hl => (k p e s m args below meth c X H locs ls hP hS hl))
theorem jj_iinc {i n : Nat} {z : Int} {x v : Int32} {l2 : List (Nat × Value)} (hd : decode M.2.1 pc = .ok (.iinc n z, 3)) (i : Nat) (hi : l[i]? = some (n, .int x)) (hv : x + Int32.ofInt z = v) (hn : n < M.2.2.1) (h : (n, Value.int v) :: l.filter (fun q => !(q.1 == n) && !(q.1 + 1 == n && q.2.category == 2)) = l2) (k : jj_J K M P (pc + 3) l2 st w) : jj_J K M P pc l st w := by
  intro p e s m args below meth c X H locs ls hP hS hl
  exact lv_iinc (lv := jj_lm K l) (lv' := jj_lm K l2) (k := i) (x := x) X.1 X.2.1 hd hl (by simp [jj_lm, hi, wo_mv]) hv hn (by subst h; exact congrArg (List.cons (n, wo_mv K.1.1 (.int v))) (jj_fil K l (fun a b => !(a == n) && !(a + 1 == n && b == 2)))) (fun ls hl => (k p e s m args below meth c X H locs ls hP hS hl))
theorem jj_iadd {x y : Int32} (hd : decode M.2.1 pc = .ok (.iadd, 1)) (k : jj_J K M P (pc + 1) l (.int (x + y) :: st) w) : jj_J K M P pc l (.int y :: .int x :: st) w := by
  intro p e s m args below meth c X H locs ls hP hS hl
  exact lv_iadd X.1 X.2.1 hd (k p e s m args below meth c X H locs ls hP hS hl)
theorem jj_isub {x y : Int32} (hd : decode M.2.1 pc = .ok (.isub, 1)) (k : jj_J K M P (pc + 1) l (.int (x - y) :: st) w) : jj_J K M P pc l (.int y :: .int x :: st) w := by
  intro p e s m args below meth c X H locs ls hP hS hl
  exact lv_isub X.1 X.2.1 hd (k p e s m args below meth c X H locs ls hP hS hl)
theorem jj_imul {x y : Int32} (hd : decode M.2.1 pc = .ok (.imul, 1)) (k : jj_J K M P (pc + 1) l (.int (x * y) :: st) w) : jj_J K M P pc l (.int y :: .int x :: st) w := by
  intro p e s m args below meth c X H locs ls hP hS hl
  exact lv_imul X.1 X.2.1 hd (k p e s m args below meth c X H locs ls hP hS hl)
theorem jj_iand {x y : Int32} (hd : decode M.2.1 pc = .ok (.iand, 1)) (k : jj_J K M P (pc + 1) l (.int (x &&& y) :: st) w) : jj_J K M P pc l (.int y :: .int x :: st) w := by
  intro p e s m args below meth c X H locs ls hP hS hl
  exact lv_iand X.1 X.2.1 hd (k p e s m args below meth c X H locs ls hP hS hl)
theorem jj_ior {x y : Int32} (hd : decode M.2.1 pc = .ok (.ior, 1)) (k : jj_J K M P (pc + 1) l (.int (x ||| y) :: st) w) : jj_J K M P pc l (.int y :: .int x :: st) w := by
  intro p e s m args below meth c X H locs ls hP hS hl
  exact lv_ior X.1 X.2.1 hd (k p e s m args below meth c X H locs ls hP hS hl)
theorem jj_ixor {x y : Int32} (hd : decode M.2.1 pc = .ok (.ixor, 1)) (k : jj_J K M P (pc + 1) l (.int (x ^^^ y) :: st) w) : jj_J K M P pc l (.int y :: .int x :: st) w := by
  intro p e s m args below meth c X H locs ls hP hS hl
  exact lv_ixor X.1 X.2.1 hd (k p e s m args below meth c X H locs ls hP hS hl)
theorem jj_ishl {x y : Int32} (hd : decode M.2.1 pc = .ok (.ishl, 1)) (k : jj_J K M P (pc + 1) l (.int (x <<< (y &&& 31)) :: st) w) : jj_J K M P pc l (.int y :: .int x :: st) w := by
  intro p e s m args below meth c X H locs ls hP hS hl
  exact lv_ishl X.1 X.2.1 hd (k p e s m args below meth c X H locs ls hP hS hl)
theorem jj_ishr {x y : Int32} (hd : decode M.2.1 pc = .ok (.ishr, 1)) (k : jj_J K M P (pc + 1) l (.int (x >>> (y &&& 31)) :: st) w) : jj_J K M P pc l (.int y :: .int x :: st) w := by
  intro p e s m args below meth c X H locs ls hP hS hl
  exact lv_ishr X.1 X.2.1 hd (k p e s m args below meth c X H locs ls hP hS hl)
theorem jj_idiv {x y : Int32} (hd : decode M.2.1 pc = .ok (.idiv, 1)) (hne : ¬ y = 0) (k : jj_J K M P (pc + 1) l (.int (x / y) :: st) w) : jj_J K M P pc l (.int y :: .int x :: st) w := by
  intro p e s m args below meth c X H locs ls hP hS hl
  exact lv_idiv X.1 X.2.1 hd hne (k p e s m args below meth c X H locs ls hP hS hl)
theorem jj_irem {x y : Int32} (hd : decode M.2.1 pc = .ok (.irem, 1)) (hne : ¬ y = 0) (k : jj_J K M P (pc + 1) l (.int (x - x / y * y) :: st) w) : jj_J K M P pc l (.int y :: .int x :: st) w := by
  intro p e s m args below meth c X H locs ls hP hS hl
  exact lv_irem X.1 X.2.1 hd hne (k p e s m args below meth c X H locs ls hP hS hl)
theorem jj_iushr {x y : Int32} (hd : decode M.2.1 pc = .ok (.iushr, 1)) (k : jj_J K M P (pc + 1) l (.int ((x.toUInt32 >>> (y.toUInt32 &&& Int32.toUInt32 31)).toInt32) :: st) w) : jj_J K M P pc l (.int y :: .int x :: st) w := by
  intro p e s m args below meth c X H locs ls hP hS hl
  exact lv_iushr X.1 X.2.1 hd rfl (k p e s m args below meth c X H locs ls hP hS hl)
theorem jj_ineg {x : Int32} (hd : decode M.2.1 pc = .ok (.ineg, 1)) (k : jj_J K M P (pc + 1) l (.int (-x) :: st) w) : jj_J K M P pc l (.int x :: st) w := by
  intro p e s m args below meth c X H locs ls hP hS hl
  exact lv_ineg X.1 X.2.1 hd (k p e s m args below meth c X H locs ls hP hS hl)
theorem jj_ladd {x y : Int64} (hd : decode M.2.1 pc = .ok (.ladd, 1)) (k : jj_J K M P (pc + 1) l (.long (x + y) :: st) w) : jj_J K M P pc l (.long y :: .long x :: st) w := by
  intro p e s m args below meth c X H locs ls hP hS hl
  exact lv_ladd X.1 X.2.1 hd (k p e s m args below meth c X H locs ls hP hS hl)
theorem jj_lsub {x y : Int64} (hd : decode M.2.1 pc = .ok (.lsub, 1)) (k : jj_J K M P (pc + 1) l (.long (x - y) :: st) w) : jj_J K M P pc l (.long y :: .long x :: st) w := by
  intro p e s m args below meth c X H locs ls hP hS hl
  exact lv_lsub X.1 X.2.1 hd (k p e s m args below meth c X H locs ls hP hS hl)
theorem jj_lmul {x y : Int64} (hd : decode M.2.1 pc = .ok (.lmul, 1)) (k : jj_J K M P (pc + 1) l (.long (x * y) :: st) w) : jj_J K M P pc l (.long y :: .long x :: st) w := by
  intro p e s m args below meth c X H locs ls hP hS hl
  exact lv_lmul X.1 X.2.1 hd (k p e s m args below meth c X H locs ls hP hS hl)
theorem jj_ldiv {x y : Int64} (hd : decode M.2.1 pc = .ok (.ldiv, 1)) (hne : ¬ y = 0) (k : jj_J K M P (pc + 1) l (.long (x / y) :: st) w) : jj_J K M P pc l (.long y :: .long x :: st) w := by
  intro p e s m args below meth c X H locs ls hP hS hl
  exact lv_ldiv X.1 X.2.1 hd hne (k p e s m args below meth c X H locs ls hP hS hl)
theorem jj_lrem {x y : Int64} (hd : decode M.2.1 pc = .ok (.lrem, 1)) (hne : ¬ y = 0) (k : jj_J K M P (pc + 1) l (.long (x - x / y * y) :: st) w) : jj_J K M P pc l (.long y :: .long x :: st) w := by
  intro p e s m args below meth c X H locs ls hP hS hl
  exact lv_lrem X.1 X.2.1 hd hne (k p e s m args below meth c X H locs ls hP hS hl)
theorem jj_lneg {x : Int64} (hd : decode M.2.1 pc = .ok (.lneg, 1)) (k : jj_J K M P (pc + 1) l (.long (-x) :: st) w) : jj_J K M P pc l (.long x :: st) w := by
  intro p e s m args below meth c X H locs ls hP hS hl
  exact lv_lneg X.1 X.2.1 hd (k p e s m args below meth c X H locs ls hP hS hl)
theorem jj_i2l {x : Int32} (hd : decode M.2.1 pc = .ok (.i2l, 1)) (k : jj_J K M P (pc + 1) l (.long x.toInt64 :: st) w) : jj_J K M P pc l (.int x :: st) w := by
  intro p e s m args below meth c X H locs ls hP hS hl
  exact lv_i2l X.1 X.2.1 hd rfl (k p e s m args below meth c X H locs ls hP hS hl)
theorem jj_l2i {x : Int64} (hd : decode M.2.1 pc = .ok (.l2i, 1)) (k : jj_J K M P (pc + 1) l (.int x.toInt32 :: st) w) : jj_J K M P pc l (.long x :: st) w := by
  intro p e s m args below meth c X H locs ls hP hS hl
  exact lv_l2i X.1 X.2.1 hd rfl (k p e s m args below meth c X H locs ls hP hS hl)
theorem jj_lcmp {x y : Int64} (hd : decode M.2.1 pc = .ok (.lcmp, 1)) (k : jj_J K M P (pc + 1) l (.int (lg_cmp x y) :: st) w) : jj_J K M P pc l (.long y :: .long x :: st) w := by
  intro p e s m args below meth c X H locs ls hP hS hl
  exact W.lcmp X.1 X.2.1 hd (k p e s m args below meth c X H locs ls hP hS hl)
theorem jj_dup {v : Value} (hd : decode M.2.1 pc = .ok (.dup, 1)) (hv : v.category = 1) (k : jj_J K M P (pc + 1) l (v :: v :: st) w) : jj_J K M P pc l (v :: st) w := by
  intro p e s m args below meth c X H locs ls hP hS hl
  exact lv_dup X.1 X.2.1 hd (by rw [wo_mv_cat]; exact hv) (k p e s m args below meth c X H locs ls hP hS hl)
theorem jj_pop {v : Value} (hd : decode M.2.1 pc = .ok (.pop, 1)) (hv : v.category = 1) (k : jj_J K M P (pc + 1) l st w) : jj_J K M P pc l (v :: st) w := by
  intro p e s m args below meth c X H locs ls hP hS hl
  exact lv_pop X.1 X.2.1 hd (by rw [wo_mv_cat]; exact hv) (k p e s m args below meth c X H locs ls hP hS hl)
theorem jj_dup2 {u v : Value} (hd : decode M.2.1 pc = .ok (.dup2, 1)) (hu : u.category = 1) (hv : v.category = 1) (k : jj_J K M P (pc + 1) l (u :: v :: u :: v :: st) w) : jj_J K M P pc l (u :: v :: st) w := by
  intro p e s m args below meth c X H locs ls hP hS hl
  exact lv_dup2_11 X.1 X.2.1 hd (by rw [wo_mv_cat]; exact hu) (by rw [wo_mv_cat]; exact hv) (k p e s m args below meth c X H locs ls hP hS hl)
theorem jj_if_eq {x : Int32} {off : Int} {tgt : Nat} (hd : decode M.2.1 pc = .ok (.ifCond .eq off, 3)) (ht : (pc : Int) + off = (tgt : Int)) (kt : x = 0 → jj_J K M P tgt l st w) (kf : ¬ x = 0 → jj_J K M P (pc + 3) l st w) : jj_J K M P pc l (.int x :: st) w := by
  intro p e s m args below meth c X H locs ls hP hS hl
  exact lv_if_eq X.1 X.2.1 hd ht (fun z => kt z p e s m args below meth c X H locs ls hP hS hl) (fun z => kf z p e s m args below meth c X H locs ls hP hS hl)
theorem jj_icmp_eq {x y : Int32} {off : Int} {tgt : Nat} (hd : decode M.2.1 pc = .ok (.if_icmp .eq off, 3)) (ht : (pc : Int) + off = (tgt : Int)) (kt : x = y → jj_J K M P tgt l st w) (kf : ¬ x = y → jj_J K M P (pc + 3) l st w) : jj_J K M P pc l (.int y :: .int x :: st) w := by
  intro p e s m args below meth c X H locs ls hP hS hl
  exact lv_icmp_eq X.1 X.2.1 hd ht (fun z => kt z p e s m args below meth c X H locs ls hP hS hl) (fun z => kf z p e s m args below meth c X H locs ls hP hS hl)
theorem jj_lcmp_eq {x y : Int64} {off : Int} {tgt : Nat} (hd0 : decode M.2.1 pc = .ok (.lcmp, 1)) (hd : decode M.2.1 (pc + 1) = .ok (.ifCond .eq off, 3)) (ht : ((pc + 1 : Nat) : Int) + off = (tgt : Int)) (kt : x = y → jj_J K M P tgt l st w) (kf : ¬ x = y → jj_J K M P (pc + 1 + 3) l st w) : jj_J K M P pc l (.long y :: .long x :: st) w := jj_lcmp hd0 (jj_if_eq hd ht (fun z => kt ((lg_cmp_eq x y).mp z)) (fun z => kf (fun q => z ((lg_cmp_eq x y).mpr q))))
theorem jj_if_ne {x : Int32} {off : Int} {tgt : Nat} (hd : decode M.2.1 pc = .ok (.ifCond .ne off, 3)) (ht : (pc : Int) + off = (tgt : Int)) (kt : ¬ x = 0 → jj_J K M P tgt l st w) (kf : x = 0 → jj_J K M P (pc + 3) l st w) : jj_J K M P pc l (.int x :: st) w := by
  intro p e s m args below meth c X H locs ls hP hS hl
  exact lv_if_ne X.1 X.2.1 hd ht (fun z => kt z p e s m args below meth c X H locs ls hP hS hl) (fun z => kf z p e s m args below meth c X H locs ls hP hS hl)
theorem jj_icmp_ne {x y : Int32} {off : Int} {tgt : Nat} (hd : decode M.2.1 pc = .ok (.if_icmp .ne off, 3)) (ht : (pc : Int) + off = (tgt : Int)) (kt : ¬ x = y → jj_J K M P tgt l st w) (kf : x = y → jj_J K M P (pc + 3) l st w) : jj_J K M P pc l (.int y :: .int x :: st) w := by
  intro p e s m args below meth c X H locs ls hP hS hl
  exact lv_icmp_ne X.1 X.2.1 hd ht (fun z => kt z p e s m args below meth c X H locs ls hP hS hl) (fun z => kf z p e s m args below meth c X H locs ls hP hS hl)
theorem jj_lcmp_ne {x y : Int64} {off : Int} {tgt : Nat} (hd0 : decode M.2.1 pc = .ok (.lcmp, 1)) (hd : decode M.2.1 (pc + 1) = .ok (.ifCond .ne off, 3)) (ht : ((pc + 1 : Nat) : Int) + off = (tgt : Int)) (kt : ¬ x = y → jj_J K M P tgt l st w) (kf : x = y → jj_J K M P (pc + 1 + 3) l st w) : jj_J K M P pc l (.long y :: .long x :: st) w := jj_lcmp hd0 (jj_if_ne hd ht (fun z => kt (fun q => z ((lg_cmp_eq x y).mpr q))) (fun z => kf ((lg_cmp_eq x y).mp z)))
theorem jj_if_lt {x : Int32} {off : Int} {tgt : Nat} (hd : decode M.2.1 pc = .ok (.ifCond .lt off, 3)) (ht : (pc : Int) + off = (tgt : Int)) (kt : x < 0 → jj_J K M P tgt l st w) (kf : ¬ x < 0 → jj_J K M P (pc + 3) l st w) : jj_J K M P pc l (.int x :: st) w := by
  intro p e s m args below meth c X H locs ls hP hS hl
  exact lv_if_lt X.1 X.2.1 hd ht (fun z => kt z p e s m args below meth c X H locs ls hP hS hl) (fun z => kf z p e s m args below meth c X H locs ls hP hS hl)
theorem jj_icmp_lt {x y : Int32} {off : Int} {tgt : Nat} (hd : decode M.2.1 pc = .ok (.if_icmp .lt off, 3)) (ht : (pc : Int) + off = (tgt : Int)) (kt : x < y → jj_J K M P tgt l st w) (kf : ¬ x < y → jj_J K M P (pc + 3) l st w) : jj_J K M P pc l (.int y :: .int x :: st) w := by
  intro p e s m args below meth c X H locs ls hP hS hl
  exact lv_icmp_lt X.1 X.2.1 hd ht (fun z => kt z p e s m args below meth c X H locs ls hP hS hl) (fun z => kf z p e s m args below meth c X H locs ls hP hS hl)
theorem jj_lcmp_lt {x y : Int64} {off : Int} {tgt : Nat} (hd0 : decode M.2.1 pc = .ok (.lcmp, 1)) (hd : decode M.2.1 (pc + 1) = .ok (.ifCond .lt off, 3)) (ht : ((pc + 1 : Nat) : Int) + off = (tgt : Int)) (kt : x < y → jj_J K M P tgt l st w) (kf : ¬ x < y → jj_J K M P (pc + 1 + 3) l st w) : jj_J K M P pc l (.long y :: .long x :: st) w := jj_lcmp hd0 (jj_if_lt hd ht (fun z => kt ((lg_cmp_lt x y).mp z)) (fun z => kf (fun q => z ((lg_cmp_lt x y).mpr q))))
theorem jj_if_ge {x : Int32} {off : Int} {tgt : Nat} (hd : decode M.2.1 pc = .ok (.ifCond .ge off, 3)) (ht : (pc : Int) + off = (tgt : Int)) (kt : 0 ≤ x → jj_J K M P tgt l st w) (kf : ¬ 0 ≤ x → jj_J K M P (pc + 3) l st w) : jj_J K M P pc l (.int x :: st) w := by
  intro p e s m args below meth c X H locs ls hP hS hl
  exact lv_if_ge X.1 X.2.1 hd ht (fun z => kt z p e s m args below meth c X H locs ls hP hS hl) (fun z => kf z p e s m args below meth c X H locs ls hP hS hl)
theorem jj_icmp_ge {x y : Int32} {off : Int} {tgt : Nat} (hd : decode M.2.1 pc = .ok (.if_icmp .ge off, 3)) (ht : (pc : Int) + off = (tgt : Int)) (kt : y ≤ x → jj_J K M P tgt l st w) (kf : ¬ y ≤ x → jj_J K M P (pc + 3) l st w) : jj_J K M P pc l (.int y :: .int x :: st) w := by
  intro p e s m args below meth c X H locs ls hP hS hl
  exact lv_icmp_ge X.1 X.2.1 hd ht (fun z => kt z p e s m args below meth c X H locs ls hP hS hl) (fun z => kf z p e s m args below meth c X H locs ls hP hS hl)
theorem jj_lcmp_ge {x y : Int64} {off : Int} {tgt : Nat} (hd0 : decode M.2.1 pc = .ok (.lcmp, 1)) (hd : decode M.2.1 (pc + 1) = .ok (.ifCond .ge off, 3)) (ht : ((pc + 1 : Nat) : Int) + off = (tgt : Int)) (kt : y ≤ x → jj_J K M P tgt l st w) (kf : ¬ y ≤ x → jj_J K M P (pc + 1 + 3) l st w) : jj_J K M P pc l (.long y :: .long x :: st) w := jj_lcmp hd0 (jj_if_ge hd ht (fun z => kt ((lg_cmp_ge x y).mp z)) (fun z => kf (fun q => z ((lg_cmp_ge x y).mpr q))))
theorem jj_if_gt {x : Int32} {off : Int} {tgt : Nat} (hd : decode M.2.1 pc = .ok (.ifCond .gt off, 3)) (ht : (pc : Int) + off = (tgt : Int)) (kt : 0 < x → jj_J K M P tgt l st w) (kf : ¬ 0 < x → jj_J K M P (pc + 3) l st w) : jj_J K M P pc l (.int x :: st) w := by
  intro p e s m args below meth c X H locs ls hP hS hl
  exact lv_if_gt X.1 X.2.1 hd ht (fun z => kt z p e s m args below meth c X H locs ls hP hS hl) (fun z => kf z p e s m args below meth c X H locs ls hP hS hl)
theorem jj_icmp_gt {x y : Int32} {off : Int} {tgt : Nat} (hd : decode M.2.1 pc = .ok (.if_icmp .gt off, 3)) (ht : (pc : Int) + off = (tgt : Int)) (kt : y < x → jj_J K M P tgt l st w) (kf : ¬ y < x → jj_J K M P (pc + 3) l st w) : jj_J K M P pc l (.int y :: .int x :: st) w := by
  intro p e s m args below meth c X H locs ls hP hS hl
  exact lv_icmp_gt X.1 X.2.1 hd ht (fun z => kt z p e s m args below meth c X H locs ls hP hS hl) (fun z => kf z p e s m args below meth c X H locs ls hP hS hl)
theorem jj_lcmp_gt {x y : Int64} {off : Int} {tgt : Nat} (hd0 : decode M.2.1 pc = .ok (.lcmp, 1)) (hd : decode M.2.1 (pc + 1) = .ok (.ifCond .gt off, 3)) (ht : ((pc + 1 : Nat) : Int) + off = (tgt : Int)) (kt : y < x → jj_J K M P tgt l st w) (kf : ¬ y < x → jj_J K M P (pc + 1 + 3) l st w) : jj_J K M P pc l (.long y :: .long x :: st) w := jj_lcmp hd0 (jj_if_gt hd ht (fun z => kt ((lg_cmp_gt x y).mp z)) (fun z => kf (fun q => z ((lg_cmp_gt x y).mpr q))))
theorem jj_if_le {x : Int32} {off : Int} {tgt : Nat} (hd : decode M.2.1 pc = .ok (.ifCond .le off, 3)) (ht : (pc : Int) + off = (tgt : Int)) (kt : x ≤ 0 → jj_J K M P tgt l st w) (kf : ¬ x ≤ 0 → jj_J K M P (pc + 3) l st w) : jj_J K M P pc l (.int x :: st) w := by
  intro p e s m args below meth c X H locs ls hP hS hl
  exact lv_if_le X.1 X.2.1 hd ht (fun z => kt z p e s m args below meth c X H locs ls hP hS hl) (fun z => kf z p e s m args below meth c X H locs ls hP hS hl)
theorem jj_icmp_le {x y : Int32} {off : Int} {tgt : Nat} (hd : decode M.2.1 pc = .ok (.if_icmp .le off, 3)) (ht : (pc : Int) + off = (tgt : Int)) (kt : x ≤ y → jj_J K M P tgt l st w) (kf : ¬ x ≤ y → jj_J K M P (pc + 3) l st w) : jj_J K M P pc l (.int y :: .int x :: st) w := by
  intro p e s m args below meth c X H locs ls hP hS hl
  exact lv_icmp_le X.1 X.2.1 hd ht (fun z => kt z p e s m args below meth c X H locs ls hP hS hl) (fun z => kf z p e s m args below meth c X H locs ls hP hS hl)
theorem jj_lcmp_le {x y : Int64} {off : Int} {tgt : Nat} (hd0 : decode M.2.1 pc = .ok (.lcmp, 1)) (hd : decode M.2.1 (pc + 1) = .ok (.ifCond .le off, 3)) (ht : ((pc + 1 : Nat) : Int) + off = (tgt : Int)) (kt : x ≤ y → jj_J K M P tgt l st w) (kf : ¬ x ≤ y → jj_J K M P (pc + 1 + 3) l st w) : jj_J K M P pc l (.long y :: .long x :: st) w := jj_lcmp hd0 (jj_if_le hd ht (fun z => kt ((lg_cmp_le x y).mp z)) (fun z => kf (fun q => z ((lg_cmp_le x y).mpr q))))
theorem jj_goto {off : Int} {tgt : Nat} (hd : decode M.2.1 pc = .ok (.goto off, 3)) (ht : (pc : Int) + off = (tgt : Int)) (k : jj_J K M P tgt l st w) : jj_J K M P pc l st w := by
  intro p e s m args below meth c X H locs ls hP hS hl
  exact lv_goto X.1 X.2.1 hd ht (k p e s m args below meth c X H locs ls hP hS hl)
theorem jj_swOut {dflt lo hi : Int} {offs : Array Int} {len : Nat} {x : Int32} {tgt : Nat} (hd : decode M.2.1 pc = .ok (.tableswitch dflt lo hi offs, len)) (h : x.toInt < lo ∨ hi < x.toInt) (ht : (pc : Int) + dflt = (tgt : Int)) (k : jj_J K M P tgt l st w) : jj_J K M P pc l (.int x :: st) w := by
  intro p e s m args below meth c X H locs ls hP hS hl
  exact lv_tableOut X.1 X.2.1 hd h ht (k p e s m args below meth c X H locs ls hP hS hl)
theorem jj_swIn {dflt lo hi : Int} {offs : Array Int} {len : Nat} {x : Int32} {off : Int} {tgt : Nat} (hd : decode M.2.1 pc = .ok (.tableswitch dflt lo hi offs, len)) (h1 : ¬ x.toInt < lo) (h2 : ¬ hi < x.toInt) (ho : offs[(x.toInt - lo).toNat]? = some off) (ht : (pc : Int) + off = (tgt : Int)) (k : jj_J K M P tgt l st w) : jj_J K M P pc l (.int x :: st) w := by
  intro p e s m args below meth c X H locs ls hP hS hl
  exact lv_tableIn X.1 X.2.1 hd h1 h2 ho ht (k p e s m args below meth c X H locs ls hP hS hl)
theorem jj_ldc {idx : Nat} {v : Int32} (hd : decode M.2.1 pc = .ok (.ldc idx, 2)) (hc : Cond.constant M.1.cls idx v ∈ jj_tb) (k : jj_J K M P (pc + 2) l (.int v :: st) w) : jj_J K M P pc l st w := by
  intro p e s m args below meth c X H locs ls hP hS hl
  exact lv_ldc X.1 X.2.1 X.2.2.2.1 (X.2.2.2.2.1 _ hc) hd (k p e s m args below meth c X H locs ls hP hS hl)
theorem jj_ldcw {idx : Nat} {v : Int32} (hd : decode M.2.1 pc = .ok (.ldc_w idx, 3)) (hc : Cond.constant M.1.cls idx v ∈ jj_tb) (k : jj_J K M P (pc + 3) l (.int v :: st) w) : jj_J K M P pc l st w := by
  intro p e s m args below meth c X H locs ls hP hS hl
  exact lv_ldcw X.1 X.2.1 X.2.2.2.1 (X.2.2.2.2.1 _ hc) hd (k p e s m args below meth c X H locs ls hP hS hl)
theorem jj_ldc2 {idx : Nat} {v : Int64} (hd : decode M.2.1 pc = .ok (.ldc2_w idx, 3)) (hc : Cond.constantLong M.1.cls idx v ∈ jj_tb) (k : jj_J K M P (pc + 3) l (.long v :: st) w) : jj_J K M P pc l st w := by
  intro p e s m args below meth c X H locs ls hP hS hl
  exact lv_ldc2 X.1 X.2.1 X.2.2.2.1 (X.2.2.2.2.1 _ hc) hd (k p e s m args below meth c X H locs ls hP hS hl)
/-- the tables' words of the classes' fields are among jj_tb -/
def jj_inC : Prop := ∀ (ci : Nat) (q : vw_C), vwCl[ci]? = some q → ∀ w ∈ u_ws q.1 q.2.1 q.2.2, w ∈ jj_tb
def jj_tyC (ci : Nat) : Nat → FieldType := match ci with
  | 0 => tyX0 | 1 => tyX1 | 2 => tyX2 | 3 => tyX3 | 4 => tyX4 | 5 => tyX5 | 6 => tyX6 | _ => tyX7
theorem jj_tyOk : ∀ (ci : Nat) (q : vw_C), vwCl[ci]? = some q → ∀ k, k < q.2.2 → parseFieldDescriptor (q.2.1 k).2.2.1 = some (jj_tyC ci k) := by
  intro ci q h
  match ci, h with
  | 0, h => cases h; exact tyX0_ok
  | 1, h => cases h; exact tyX1_ok
  | 2, h => cases h; exact tyX2_ok
  | 3, h => cases h; exact tyX3_ok
  | 4, h => cases h; exact tyX4_ok
  | 5, h => cases h; exact tyX5_ok
  | 6, h => cases h; exact tyX6_ok
  | 7, h => cases h; exact tyX7_ok
  | n + 8, h => simp [vwCl] at h
theorem jj_nmOk : ∀ (ci : Nat) (q : vw_C), vwCl[ci]? = some q → ∀ a, a < q.2.2 → ∀ b, b < q.2.2 → a ≠ b → (q.2.1 a).2.1 ≠ (q.2.1 b).2.1 := by
  intro ci q h
  match ci, h with
  | 0, h => cases h; exact nmX0
  | 1, h => cases h; exact nmX1
  | 2, h => cases h; exact nmX2
  | 3, h => cases h; exact nmX3
  | 4, h => cases h; exact nmX4
  | 5, h => cases h; exact nmX5
  | 6, h => cases h; exact nmX6
  | 7, h => cases h; exact nmX7
  | n + 8, h => simp [vwCl] at h
theorem jj_inX0 : ∀ w ∈ wsX00, w ∈ jj_tb := fun w h => jj_mem ((by decide +kernel : ∀ w ∈ wsX00, w ∈ lw_tbl) w h) ((by decide +kernel : ∀ w ∈ wsX00, goodWord w = true) w h)
theorem jj_inX1 : ∀ w ∈ wsX10, w ∈ jj_tb := fun w h => jj_mem ((by decide +kernel : ∀ w ∈ wsX10, w ∈ lw_tbl) w h) ((by decide +kernel : ∀ w ∈ wsX10, goodWord w = true) w h)
theorem jj_inX2 : ∀ w ∈ wsX20, w ∈ jj_tb := fun w h => jj_mem ((by decide +kernel : ∀ w ∈ wsX20, w ∈ lw_tbl) w h) ((by decide +kernel : ∀ w ∈ wsX20, goodWord w = true) w h)
theorem jj_inX3 : ∀ w ∈ wsX30, w ∈ jj_tb := fun w h => jj_mem ((by decide +kernel : ∀ w ∈ wsX30, w ∈ lw_tbl) w h) ((by decide +kernel : ∀ w ∈ wsX30, goodWord w = true) w h)
theorem jj_inX4 : ∀ w ∈ wsX40, w ∈ jj_tb := fun w h => jj_mem ((by decide +kernel : ∀ w ∈ wsX40, w ∈ lw_tbl) w h) ((by decide +kernel : ∀ w ∈ wsX40, goodWord w = true) w h)
theorem jj_inX5 : ∀ w ∈ wsX50, w ∈ jj_tb := fun w h => jj_mem ((by decide +kernel : ∀ w ∈ wsX50, w ∈ lw_tbl) w h) ((by decide +kernel : ∀ w ∈ wsX50, goodWord w = true) w h)
theorem jj_inX6 : ∀ w ∈ wsX60, w ∈ jj_tb := fun w h => jj_mem ((by decide +kernel : ∀ w ∈ wsX60, w ∈ lw_tbl) w h) ((by decide +kernel : ∀ w ∈ wsX60, goodWord w = true) w h)
theorem jj_inX7 : ∀ w ∈ wsX70, w ∈ jj_tb := fun w h => jj_mem ((by decide +kernel : ∀ w ∈ wsX70, w ∈ lw_tbl) w h) ((by decide +kernel : ∀ w ∈ wsX70, goodWord w = true) w h)
theorem jj_inOk : jj_inC := by
  intro ci q h
  match ci, h with
  | 0, h => cases h; exact jj_inX0
  | 1, h => cases h; exact jj_inX1
  | 2, h => cases h; exact jj_inX2
  | 3, h => cases h; exact jj_inX3
  | 4, h => cases h; exact jj_inX4
  | 5, h => cases h; exact jj_inX5
  | 6, h => cases h; exact jj_inX6
  | 7, h => cases h; exact jj_inX7
  | n + 8, h => simp [vwCl] at h
theorem jj_getI {o ci k idx : Nat} {fs : List Nat} {C : String} {T : u_T} {N : Nat} (hd : decode M.2.1 pc = .ok (.getfield idx, 3)) (ho : wo_lay[o]? = some (.inl (ci, fs))) (hc : vwCl[ci]? = some (C, T, N)) (hk : k < N) (hf : fs[k]? = some 0) (hlk : Cond.fieldLink M.1.cls idx (T k).1 (T k).2.1 (T k).2.2.1 ∈ jj_tb) (kk : jj_J K M P (pc + 3) l (.int (w.1 o k) :: st) w) : jj_J K M P pc l (.ref o :: st) w := by
  intro p e s m args below meth c X H locs ls hP hS hl
  exact va_get (Ts := jj_tb) (v := wo_mv K.1.1 (.int (w.1 o k))) X.1 X.2.1 X.2.2.2.2.1 (jj_inOk ci _ hc) X.2.2.2.1 X.2.2.2.2.2.2.2.1 hP o (wo_get ho) hc k hk (X.2.2.2.2.1 _ hlk) (fun _ h => h) (by simp [List.getElem?_mapIdx, hf, wo_fv, wo_mv]) hd (kk p e s m args below meth c X H locs ls hP hS hl)
theorem jj_getL {o ci k idx : Nat} {fs : List Nat} {C : String} {T : u_T} {N : Nat} (hd : decode M.2.1 pc = .ok (.getfield idx, 3)) (ho : wo_lay[o]? = some (.inl (ci, fs))) (hc : vwCl[ci]? = some (C, T, N)) (hk : k < N) (hf : fs[k]? = some 1) (hlk : Cond.fieldLink M.1.cls idx (T k).1 (T k).2.1 (T k).2.2.1 ∈ jj_tb) (kk : jj_J K M P (pc + 3) l (.long (w.2 o k) :: st) w) : jj_J K M P pc l (.ref o :: st) w := by
  intro p e s m args below meth c X H locs ls hP hS hl
  exact va_get (Ts := jj_tb) (v := wo_mv K.1.1 (.long (w.2 o k))) X.1 X.2.1 X.2.2.2.2.1 (jj_inOk ci _ hc) X.2.2.2.1 X.2.2.2.2.2.2.2.1 hP o (wo_get ho) hc k hk (X.2.2.2.2.1 _ hlk) (fun _ h => h) (by simp [List.getElem?_mapIdx, hf, wo_fv, wo_mv]) hd (kk p e s m args below meth c X H locs ls hP hS hl)
theorem jj_getR {o ci k idx r : Nat} {fs : List Nat} {C : String} {T : u_T} {N : Nat} (hd : decode M.2.1 pc = .ok (.getfield idx, 3)) (ho : wo_lay[o]? = some (.inl (ci, fs))) (hc : vwCl[ci]? = some (C, T, N)) (hk : k < N) (hf : fs[k]? = some (r + 2)) (hlk : Cond.fieldLink M.1.cls idx (T k).1 (T k).2.1 (T k).2.2.1 ∈ jj_tb) (kk : jj_J K M P (pc + 3) l (.ref r :: st) w) : jj_J K M P pc l (.ref o :: st) w := by
  intro p e s m args below meth c X H locs ls hP hS hl
  exact va_get (Ts := jj_tb) (v := wo_mv K.1.1 (.ref r)) X.1 X.2.1 X.2.2.2.2.1 (jj_inOk ci _ hc) X.2.2.2.1 X.2.2.2.2.2.2.2.1 hP o (wo_get ho) hc k hk (X.2.2.2.2.1 _ hlk) (fun _ h => h) (by simp [List.getElem?_mapIdx, hf, wo_fv, wo_mv]) hd (kk p e s m args below meth c X H locs ls hP hS hl)
theorem jj_putI {o ci k idx : Nat} {v : Int32} {ty : FieldType} {fs : List Nat} {C : String} {T : u_T} {N : Nat} (hd : decode M.2.1 pc = .ok (.putfield idx, 3)) (ho : wo_lay[o]? = some (.inl (ci, fs))) (hc : vwCl[ci]? = some (C, T, N)) (hk : k < N) (hf : fs[k]? = some 0) (hlk : Cond.fieldLink M.1.cls idx (T k).1 (T k).2.1 (T k).2.2.1 ∈ jj_tb) (hfin : (T k).2.2.2 = false) (hty : parseFieldDescriptor (T k).2.2.1 = some ty) (hn : narrow ty (.int v) = .int v) (hfit : fits ty (.int v) = true) (kk : jj_J K M P (pc + 3) l st (wo_i w o k v)) : jj_J K M P pc l (.int v :: .ref o :: st) w := by
  intro p e s m args below meth c X H locs ls hP hS hl
  refine va_put (Ts := jj_tb) (v := .int v) X.1 X.2.1 X.2.2.2.2.1 (jj_inOk ci _ hc) (jj_tyC ci) (jj_tyOk ci _ hc) (jj_nmOk ci _ hc) X.2.2.2.1 X.2.2.2.2.2.2.2.1 hP (wo_D X.2.2.2.2.2.2.2.2.1) hS o (wo_get ho) hc k hk (X.2.2.2.2.1 _ hlk) (fun _ h => h) hfin hty hn hfit (by simpa using (List.getElem?_eq_some_iff.mp hf).1) hd (fun H1 locs1 hP1 _ hS1 => ?_)
  have e1 : (wo_rz K.1 w).set o (K.1.1 o, .inr (ci, (fs.mapIdx (fun k f => wo_fv K.1.1 w o k f)).set k (.int v))) = wo_rz K.1 (wo_i w o k v) := by
    refine wo_set ho ?_ (fun b h => wo_i_ne b h) (fun b h => rfl)
    show _ = Sum.inr (ci, _)
    congr 2
    apply List.ext_getElem?
    intro i
    rw [List.getElem?_set]
    by_cases h : k = i
    · subst h
      have := (List.getElem?_eq_some_iff.mp hf).1
      rw [if_pos rfl, if_pos (by simpa using this), List.getElem?_mapIdx, hf]
      simp [wo_fv, wo_i]
    · simp only [h, if_false, List.getElem?_mapIdx]
      cases fs[i]? with
      | none => rfl
      | some f =>
        match f with
        | 0 => simp [wo_fv, wo_i, Ne.symm h]
        | 1 => simp [wo_fv, wo_i, Ne.symm h]
        | r + 2 => simp [wo_fv]
  have hP2 : va_P K.1.2.1 vwCl (wo_rz K.1 (wo_i w o k v)) H1 := by rw [← e1]; exact hP1
  exact kk p e s m args below meth c X H1 locs1 ls hP2 hS1 hl
theorem jj_putL {o ci k idx : Nat} {v : Int64} {ty : FieldType} {fs : List Nat} {C : String} {T : u_T} {N : Nat} (hd : decode M.2.1 pc = .ok (.putfield idx, 3)) (ho : wo_lay[o]? = some (.inl (ci, fs))) (hc : vwCl[ci]? = some (C, T, N)) (hk : k < N) (hf : fs[k]? = some 1) (hlk : Cond.fieldLink M.1.cls idx (T k).1 (T k).2.1 (T k).2.2.1 ∈ jj_tb) (hfin : (T k).2.2.2 = false) (hty : parseFieldDescriptor (T k).2.2.1 = some ty) (hn : narrow ty (.long v) = .long v) (hfit : fits ty (.long v) = true) (kk : jj_J K M P (pc + 3) l st (wo_l w o k v)) : jj_J K M P pc l (.long v :: .ref o :: st) w := by
  intro p e s m args below meth c X H locs ls hP hS hl
  refine va_put (Ts := jj_tb) (v := .long v) X.1 X.2.1 X.2.2.2.2.1 (jj_inOk ci _ hc) (jj_tyC ci) (jj_tyOk ci _ hc) (jj_nmOk ci _ hc) X.2.2.2.1 X.2.2.2.2.2.2.2.1 hP (wo_D X.2.2.2.2.2.2.2.2.1) hS o (wo_get ho) hc k hk (X.2.2.2.2.1 _ hlk) (fun _ h => h) hfin hty hn hfit (by simpa using (List.getElem?_eq_some_iff.mp hf).1) hd (fun H1 locs1 hP1 _ hS1 => ?_)
  have e1 : (wo_rz K.1 w).set o (K.1.1 o, .inr (ci, (fs.mapIdx (fun k f => wo_fv K.1.1 w o k f)).set k (.long v))) = wo_rz K.1 (wo_l w o k v) := by
    refine wo_set ho ?_ (fun b h => rfl) (fun b h => wo_l_ne b h)
    show _ = Sum.inr (ci, _)
    congr 2
    apply List.ext_getElem?
    intro i
    rw [List.getElem?_set]
    by_cases h : k = i
    · subst h
      have := (List.getElem?_eq_some_iff.mp hf).1
      rw [if_pos rfl, if_pos (by simpa using this), List.getElem?_mapIdx, hf]
      simp [wo_fv, wo_l]
    · simp only [h, if_false, List.getElem?_mapIdx]
      cases fs[i]? with
      | none => rfl
      | some f =>
        match f with
        | 0 => simp [wo_fv, wo_l, Ne.symm h]
        | 1 => simp [wo_fv, wo_l, Ne.symm h]
        | r + 2 => simp [wo_fv]
  have hP2 : va_P K.1.2.1 vwCl (wo_rz K.1 (wo_l w o k v)) H1 := by rw [← e1]; exact hP1
  exact kk p e s m args below meth c X H1 locs1 ls hP2 hS1 hl
theorem jj_iald {o n b d : Nat} {i : Int32} (hd : decode M.2.1 pc = .ok (.iaload, 1)) (ho : wo_lay[o]? = some (.inr (0, n, b, d))) (hi : vp_in i n) (kk : jj_J K M P (pc + 1) l (.int (w.1 o i.toNatClampNeg) :: st) w) : jj_J K M P pc l (.int i :: .ref o :: st) w := by
  intro p e s m args below meth c X H locs ls hP hS hl
  exact va_iald (f := w.1 o) X.1 X.2.1 X.2.2.2.2.2.2.2.1 hP o 0 (wo_get ho) rfl hi hd (kk p e s m args below meth c X H locs ls hP hS hl)
theorem jj_zald {o n b d : Nat} {i : Int32} (hd : decode M.2.1 pc = .ok (.baload, 1)) (ho : wo_lay[o]? = some (.inr (2, n, b, d))) (hi : vp_in i n) (kk : jj_J K M P (pc + 1) l (.int (w.1 o i.toNatClampNeg) :: st) w) : jj_J K M P pc l (.int i :: .ref o :: st) w := by
  intro p e s m args below meth c X H locs ls hP hS hl
  exact va_zald (f := w.1 o) X.1 X.2.1 X.2.2.2.2.2.2.2.1 hP o 2 (wo_get ho) rfl hi hd (kk p e s m args below meth c X H locs ls hP hS hl)
theorem jj_lald {o n b d : Nat} {i : Int32} (hd : decode M.2.1 pc = .ok (.laload, 1)) (ho : wo_lay[o]? = some (.inr (1, n, b, d))) (hi : vp_in i n) (kk : jj_J K M P (pc + 1) l (.long (w.2 o i.toNatClampNeg) :: st) w) : jj_J K M P pc l (.int i :: .ref o :: st) w := by
  intro p e s m args below meth c X H locs ls hP hS hl
  exact va_lald (f := w.2 o) X.1 X.2.1 X.2.2.2.2.2.2.2.1 hP o 1 (wo_get ho) rfl hi hd (kk p e s m args below meth c X H locs ls hP hS hl)
theorem jj_aald3 {o n b d : Nat} {i : Int32} (hd : decode M.2.1 pc = .ok (.aaload, 1)) (ho : wo_lay[o]? = some (.inr (3, n, b, d))) (hi : vp_in i n) (kk : jj_J K M P (pc + 1) l (.ref (b + d * i.toNatClampNeg) :: st) w) : jj_J K M P pc l (.int i :: .ref o :: st) w := by
  intro p e s m args below meth c X H locs ls hP hS hl
  have hlt : i.toNatClampNeg < n := Nat.not_le.mp fun q => hi (Or.inr q)
  refine va_aldq (C := "LeastFrames$Sheet") X.1 X.2.1 X.2.2.2.2.2.2.2.1 hP o 3 (wo_get ho) rfl hi hd ?_
  rw [if_pos hlt]
  exact kk p e s m args below meth c X H locs ls hP hS hl
theorem jj_aald4 {o n b d : Nat} {i : Int32} (hd : decode M.2.1 pc = .ok (.aaload, 1)) (ho : wo_lay[o]? = some (.inr (4, n, b, d))) (hi : vp_in i n) (kk : jj_J K M P (pc + 1) l (.ref (b + d * i.toNatClampNeg) :: st) w) : jj_J K M P pc l (.int i :: .ref o :: st) w := by
  intro p e s m args below meth c X H locs ls hP hS hl
  have hlt : i.toNatClampNeg < n := Nat.not_le.mp fun q => hi (Or.inr q)
  refine W.aald (v := va_rf (if i.toNatClampNeg < n then some (K.1.1 (b + d * i.toNatClampNeg)) else none)) (ty := .array .long) X.1 X.2.1 (hP o _ (wo_get ho)) ((X.2.2.2.2.2.2.2.1.2 4 _ rfl).1 n (fun j => va_rf (if j < n then some (K.1.1 (b + d * j)) else none))) rfl (fun q => by cases q) (by show ¬ (i < 0 ∨ (arrV _ _ _).slots.size ≤ _); rw [arrV_size]; exact hi) (by show (arrV _ _ _).slots[_]? = _; rw [arrV_read _ _ hlt]) rfl rfl hd ?_
  rw [if_pos hlt]
  exact kk p e s m args below meth c X H locs ls hP hS hl
theorem jj_iast {o n b d : Nat} {i : Int32} {x : Int32} (hd : decode M.2.1 pc = .ok (.iastore, 1)) (ho : wo_lay[o]? = some (.inr (0, n, b, d))) (hi : vp_in i n) (kk : jj_J K M P (pc + 1) l st (wo_i w o i.toNatClampNeg x)) : jj_J K M P pc l (.int x :: .int i :: .ref o :: st) w := by
  intro p e s m args below meth c X H locs ls hP hS hl
  refine va_iast X.1 X.2.1 X.2.2.2.2.2.2.2.1 hP (wo_D X.2.2.2.2.2.2.2.2.1) hS o 0 (wo_get ho) rfl hi hd (fun H1 locs1 hP1 _ hS1 => ?_)
  have hP2 : va_P K.1.2.1 vwCl (wo_rz K.1 (wo_i w o i.toNatClampNeg x)) H1 := by
    rw [← wo_set (w := w) (w' := wo_i w o i.toNatClampNeg x) (e := .inl (K.1.2.2 0, n, .inl (upd (w.1 o) i.toNatClampNeg x))) ho (by simp only [wo_cell, wo_i_at]) (fun b h => wo_i_ne b h) (fun b h => rfl)]
    exact hP1
  exact kk p e s m args below meth c X H1 locs1 ls hP2 hS1 hl
theorem jj_zast {o n b d : Nat} {i : Int32} {x : Int32} (hd : decode M.2.1 pc = .ok (.bastore, 1)) (ho : wo_lay[o]? = some (.inr (2, n, b, d))) (hi : vp_in i n) (kk : jj_J K M P (pc + 1) l st (wo_i w o i.toNatClampNeg (vp_nar .boolean x))) : jj_J K M P pc l (.int x :: .int i :: .ref o :: st) w := by
  intro p e s m args below meth c X H locs ls hP hS hl
  refine va_zast X.1 X.2.1 X.2.2.2.2.2.2.2.1 hP (wo_D X.2.2.2.2.2.2.2.2.1) hS o 2 (wo_get ho) rfl hi hd (fun H1 locs1 hP1 _ hS1 => ?_)
  have hP2 : va_P K.1.2.1 vwCl (wo_rz K.1 (wo_i w o i.toNatClampNeg (vp_nar .boolean x))) H1 := by
    rw [← wo_set (w := w) (w' := wo_i w o i.toNatClampNeg (vp_nar .boolean x)) (e := .inl (K.1.2.2 2, n, .inl (upd (w.1 o) i.toNatClampNeg (vp_nar .boolean x)))) ho (by simp only [wo_cell, wo_i_at]) (fun b h => wo_i_ne b h) (fun b h => rfl)]
    exact hP1
  exact kk p e s m args below meth c X H1 locs1 ls hP2 hS1 hl
theorem jj_last {o n b d : Nat} {i : Int32} {x : Int64} (hd : decode M.2.1 pc = .ok (.lastore, 1)) (ho : wo_lay[o]? = some (.inr (1, n, b, d))) (hi : vp_in i n) (kk : jj_J K M P (pc + 1) l st (wo_l w o i.toNatClampNeg x)) : jj_J K M P pc l (.long x :: .int i :: .ref o :: st) w := by
  intro p e s m args below meth c X H locs ls hP hS hl
  refine va_last X.1 X.2.1 X.2.2.2.2.2.2.2.1 hP (wo_D X.2.2.2.2.2.2.2.2.1) hS o 1 (wo_get ho) rfl hi hd (fun H1 locs1 hP1 _ hS1 => ?_)
  have hP2 : va_P K.1.2.1 vwCl (wo_rz K.1 (wo_l w o i.toNatClampNeg x)) H1 := by
    rw [← wo_set (w := w) (w' := wo_l w o i.toNatClampNeg x) (e := .inl (K.1.2.2 1, n, .inr (.inl (vp_updL (w.2 o) i.toNatClampNeg x)))) ho (by simp only [wo_cell, wo_l_at]) (fun b h => rfl) (fun b h => wo_l_ne b h)]
    exact hP1
  exact kk p e s m args below meth c X H1 locs1 ls hP2 hS1 hl
theorem jj_gsLESSER {idx : Nat} (hd : decode M.2.1 pc = .ok (.getstatic idx, 3)) (hlk : Cond.fieldLink M.1.cls idx "LeastFrames" "LESSER" "[I" ∈ jj_tb) (kk : jj_J K M P (pc + 3) l (.ref 100 :: st) w) : jj_J K M P pc l st w := by
  intro p e s m args below meth c X H locs ls hP hS hl
  exact va_gets X.1 X.2.1 X.2.2.2.2.2.2.2.2.2.1.1 hS X.2.2.2.1 (X.2.2.2.2.1 _ hlk) (fun _ h => h) hd (kk p e s m args below meth c X H locs ls hP hS hl)
theorem jj_gsNLESSER {idx : Nat} (hd : decode M.2.1 pc = .ok (.getstatic idx, 3)) (hlk : (M.1.cls, idx, "LeastFrames", "LESSER", "[I", "LeastFrames") ∈ wo_nF) (kk : jj_J K M P (pc + 3) l (.ref 100 :: st) w) : jj_J K M P pc l st w := by
  intro p e s m args below meth c X H locs ls hP hS hl
  exact va_getsN X.1 X.2.1 X.2.2.2.2.2.2.2.2.2.1.1 hS X.2.2.2.1 (va_Nw.use rfl (X.2.2.2.2.2.2.2.2.2.2.1 _ hlk)) (fun _ h => h) hd (kk p e s m args below meth c X H locs ls hP hS hl)
theorem jj_saldLESSER {i : Int32} (hd : decode M.2.1 pc = .ok (.iaload, 1)) (hi : vp_in i 10) (kk : jj_J K M P (pc + 1) l (.int (wo_les i.toNatClampNeg) :: st) w) : jj_J K M P pc l (.int i :: .ref 100 :: st) w := by
  intro p e s m args below meth c X H locs ls hP hS hl
  have hlt : i.toNatClampNeg < 10 := Nat.not_le.mp fun q => hi (Or.inr q)
  obtain ⟨cell, q1, q2, q3, q4, q5, q6, q7⟩ := X.2.2.2.2.2.2.2.2.2.1.2.1
  have hc : H[K.1.1 100]? = some cell := by rw [hS.2.1 _ (Array.getElem?_eq_some_iff.mp q1).1 q7]; exact q1
  exact W.iald X.1 X.2.1 hc q2 q3 (fun q => hi (q.elim Or.inl (fun q => Or.inr (Nat.le_trans q4 q)))) (q6 _ hlt) rfl rfl hd (kk p e s m args below meth c X H locs ls hP hS hl)
theorem jj_gsGREATER {idx : Nat} (hd : decode M.2.1 pc = .ok (.getstatic idx, 3)) (hlk : Cond.fieldLink M.1.cls idx "LeastFrames" "GREATER" "[I" ∈ jj_tb) (kk : jj_J K M P (pc + 3) l (.ref 101 :: st) w) : jj_J K M P pc l st w := by
  intro p e s m args below meth c X H locs ls hP hS hl
  exact va_gets X.1 X.2.1 X.2.2.2.2.2.2.2.2.2.1.2.2.1 hS X.2.2.2.1 (X.2.2.2.2.1 _ hlk) (fun _ h => h) hd (kk p e s m args below meth c X H locs ls hP hS hl)
theorem jj_gsNGREATER {idx : Nat} (hd : decode M.2.1 pc = .ok (.getstatic idx, 3)) (hlk : (M.1.cls, idx, "LeastFrames", "GREATER", "[I", "LeastFrames") ∈ wo_nF) (kk : jj_J K M P (pc + 3) l (.ref 101 :: st) w) : jj_J K M P pc l st w := by
  intro p e s m args below meth c X H locs ls hP hS hl
  exact va_getsN X.1 X.2.1 X.2.2.2.2.2.2.2.2.2.1.2.2.1 hS X.2.2.2.1 (va_Nw.use rfl (X.2.2.2.2.2.2.2.2.2.2.1 _ hlk)) (fun _ h => h) hd (kk p e s m args below meth c X H locs ls hP hS hl)
theorem jj_saldGREATER {i : Int32} (hd : decode M.2.1 pc = .ok (.iaload, 1)) (hi : vp_in i 10) (kk : jj_J K M P (pc + 1) l (.int (wo_gre i.toNatClampNeg) :: st) w) : jj_J K M P pc l (.int i :: .ref 101 :: st) w := by
  intro p e s m args below meth c X H locs ls hP hS hl
  have hlt : i.toNatClampNeg < 10 := Nat.not_le.mp fun q => hi (Or.inr q)
  obtain ⟨cell, q1, q2, q3, q4, q5, q6, q7⟩ := X.2.2.2.2.2.2.2.2.2.1.2.2.2
  have hc : H[K.1.1 101]? = some cell := by rw [hS.2.1 _ (Array.getElem?_eq_some_iff.mp q1).1 q7]; exact q1
  exact W.iald X.1 X.2.1 hc q2 q3 (fun q => hi (q.elim Or.inl (fun q => Or.inr (Nat.le_trans q4 q)))) (q6 _ hlt) rfl rfl hd (kk p e s m args below meth c X H locs ls hP hS hl)
theorem jj_iret {v : Int32} {R : Int32 → wo_T → Prop} (hd : decode M.2.1 pc = .ok (.ireturn, 1)) (hr : M.2.2.2.1 = some .int) (h : R v w) : jj_J K M (fun r w => ∃ v, r = some (.int v) ∧ R v w) pc l [.int v] w := by
  intro p e s m args below meth c X H locs ls hP hS hl
  have hlocks := X.2.2.2.2.2.2.1
  exact W.iret (v := v) X.1 X.2.1 (X.2.2.2.2.2.1.trans hr) (fun t ht hW => ⟨⟨some (.int v), w, rfl, ⟨v, rfl, h⟩, by rw [ht]; exact hP⟩, hS.F ht⟩) hS.2.2 hd
theorem jj_zret {v : Int32} {R : Int32 → wo_T → Prop} (hd : decode M.2.1 pc = .ok (.ireturn, 1)) (hr : M.2.2.2.1 = some .boolean) (hv : v = 0 ∨ v = 1) (h : R v w) : jj_J K M (fun r w => ∃ v, r = some (.int v) ∧ R v w) pc l [.int v] w := by
  intro p e s m args below meth c X H locs ls hP hS hl
  have hlocks := X.2.2.2.2.2.2.1
  exact W.zret (v := v) X.1 X.2.1 (X.2.2.2.2.2.1.trans hr) (by rcases hv with rfl | rfl <;> rfl) (fun t ht hW => ⟨⟨some (.int v), w, rfl, ⟨v, rfl, h⟩, by rw [ht]; exact hP⟩, hS.F ht⟩) hS.2.2 hd
theorem jj_lret {v : Int64} {R : Int64 → wo_T → Prop} (hd : decode M.2.1 pc = .ok (.lreturn, 1)) (hr : M.2.2.2.1 = some .long) (h : R v w) : jj_J K M (fun r w => ∃ v, r = some (.long v) ∧ R v w) pc l [.long v] w := by
  intro p e s m args below meth c X H locs ls hP hS hl
  have hlocks := X.2.2.2.2.2.2.1
  exact W.lret (v := v) X.1 X.2.1 (X.2.2.2.2.2.1.trans hr) (fun t ht hW => ⟨⟨some (.long v), w, rfl, ⟨v, rfl, h⟩, by rw [ht]; exact hP⟩, hS.F ht⟩) hS.2.2 hd
theorem jj_vret {R : wo_T → Prop} (hd : decode M.2.1 pc = .ok (.return_, 1)) (hr : M.2.2.2.1 = none) (h : R w) : jj_J K M (fun r w => r = none ∧ R w) pc l [] w := by
  intro p e s m args below meth c X H locs ls hP hS hl
  have hlocks := X.2.2.2.2.2.2.1
  exact W.vret X.1 X.2.1 (X.2.2.2.2.2.1.trans hr) (fun t ht hW => ⟨⟨none, w, rfl, ⟨rfl, h⟩, by rw [ht]; exact hP⟩, hS.F ht⟩) hS.2.2 hd
/-- behind a call -/
theorem jj_after {R : Option Value → wo_T → Prop} {p : Program} {e : Env} {s : State} {m : MethodId} {args : Array Value} {below : List Frame} {meth : Method} {c : Code} {H : Heap} {locs : List Loc} {ls : Array Slot} {st0 : List Value} {a : Array Value} (X : jj_X K M p s m args meth c) (hS : va_S (wo_A K.1) s.heap H locs) (hl : lv_has ls M.2.2.1 (jj_lm K l))
    (hr : va_Run p K.2 e (jj_rm M) s m args below meth c H locs 0 0 0 0 (F0 m pc ls st0) (st.map (wo_mv K.1.1)) (jj_Q K.1 R a) (wo_A K.1)) (k : ∀ r w1, R r w1 → jj_J K M P (pc + 3) l (r.toList ++ st) w1) :
    W p K.2 e (jj_rm M) s m args below meth c H locs 0 0 (MQ below (jj_Q K.1 P) args s 0 0 (wo_A K.1)) (F0 m pc ls st0) := by
  intro T hT Y
  obtain ⟨v, st₀, t, T', L, h0, X', hL, e1, e2, ⟨⟨r, w1, hv, hp, hb⟩, hz, hk⟩, st'⟩ := hr T hT Y
  have hv' : v = r.map (wo_mv K.1.1) := by cases hv; rfl
  rw [h0] at hz hk
  have hst : v.toList ++ st.map (wo_mv K.1.1) = (r.toList ++ st).map (wo_mv K.1.1) := by
    rw [hv']
    cases r <;> simp
  obtain ⟨t2, a1, b1⟩ := k r w1 hp p e s m args below meth c X T'.heap (locs ++ L) ls (by rw [e1]; exact hb)
    ⟨Nat.le_trans hS.1 (by rw [e1]; exact hz), fun q h1 h2 => by rw [e1, hk q (Nat.lt_of_lt_of_le h1 hS.1) h2]; exact hS.2.1 q h1 h2, fun q hq => by
      rcases List.mem_append.mp hq with h | h
      · exact hS.2.2 q h
      · exact hL q h⟩ hl T' rfl X'
  refine ⟨t2, st' t2 ?_, b1⟩
  rw [hst]
  exact a1
theorem jj_cats (ad : Nat → Nat) (st : List Value) : ((st.map (wo_mv ad)).map fun v => v.category).sum = (st.map fun v => v.category).sum := by
  induction st with
  | nil => rfl
  | cons v vs ih => simp only [List.map_cons, List.sum_cons, wo_mv_cat] at ih ⊢; rw [ih]
theorem jj_gin (M N : jj_M) (h : Cond.code N.1 N.2.1 N.2.2.1 N.2.2.2.1 ∈ jj_tb) : GoodIn jj_tb (jj_ws N) := by
  intro w hw
  rcases List.mem_cons.mp hw with rfl | hw
  · exact ⟨h, good_of_word (jj_good _ h)⟩
  · exact ⟨hw, good_of_word (jj_good _ hw)⟩
/-- what a call of an instance method asks of the tables -/
def jj_V (N : jj_M) (n : Nat) : Prop := Cond.instanceMethod N.1 ∈ jj_tb ∧ Cond.selects N.1.cls N.1 N.1 ∈ jj_tb ∧ Cond.initialized N.1.cls ∈ jj_tb ∧ Cond.code N.1 N.2.1 N.2.2.1 N.2.2.2.1 ∈ jj_tb ∧ (N.1.cls ≠ "java/lang/invoke/MethodHandle" ∧ N.1.cls ≠ "java/lang/invoke/VarHandle" ∧ (parseMethodDescriptor N.1.desc).map (fun d => d.parameters.length) = some n)
def jj_U (N : jj_M) (n : Nat) : Prop := Cond.static N.1 ∈ jj_tb ∧ Cond.initialized N.1.cls ∈ jj_tb ∧ Cond.code N.1 N.2.1 N.2.2.1 N.2.2.2.1 ∈ jj_tb ∧ (N.1.cls ≠ "java/lang/invoke/MethodHandle" ∧ N.1.cls ≠ "java/lang/invoke/VarHandle" ∧ (parseMethodDescriptor N.1.desc).map (fun d => d.parameters.length) = some n)
/-- its frames and locals fit -/
def jj_fit (M N : jj_M) (st : List Value) : Bool := Nat.ble (N.2.2.2.2.1 + 1) M.2.2.2.2.1 && Nat.ble (8 + (N.2.2.1 + 11) + N.2.2.2.2.2) M.2.2.2.2.2 && Nat.ble (st.map fun v => v.category).sum 8
theorem jj_fit_spec {M N : jj_M} {st : List Value} (h : jj_fit M N st = true) : N.2.2.2.2.1 + 1 ≤ M.2.2.2.2.1 ∧ 8 + (N.2.2.1 + 11) + N.2.2.2.2.2 ≤ M.2.2.2.2.2 ∧ (st.map fun v => v.category).sum ≤ 8 := by
  simp only [jj_fit, Bool.and_eq_true] at h
  exact ⟨Nat.le_of_ble_eq_true h.1.1, Nat.le_of_ble_eq_true h.1.2, Nat.le_of_ble_eq_true h.2⟩
theorem jj_callV {N : jj_M} {as st0 : List Value} {b ci idx : Nat} {fs : List Nat} {q : vw_C} {R : Option Value → wo_T → Prop} (hd : decode M.2.1 pc = .ok (.invokevirtual idx, 3)) (hb : wo_lay[b]? = some (.inl (ci, fs))) (hc : vwCl[ci]? = some q) (hq : q.1 = N.1.cls) (hlk : Cond.methodLink M.1.cls idx N.1 ∈ jj_tb) (hV : jj_V N as.length) (hf : jj_fit M N st = true) (hs : st0 = as.reverse ++ .ref b :: st)
    (hC : jj_C K N (.ref b :: as) w R) (k : ∀ r w1, R r w1 → jj_J K M P (pc + 3) l (r.toList ++ st) w1) : jj_J K M P pc l st0 w := by
  intro p e s m args below meth c X H locs ls hP hS hl
  obtain ⟨v1, v2, v3, v4, v5⟩ := hV
  obtain ⟨f1, f2, f3⟩ := jj_fit_spec hf
  have hts := X.2.2.2.2.1
  have hre := va_recv X.2.2.2.2.2.2.2.1 hP hc (wo_get (g := K.1) (w := w) hb)
  rw [hq] at hre
  refine jj_after X hS hl (va_runV (C := N.1.cls) (b := K.1.1 b) (As := as.map (wo_mv K.1.1)) (n := as.length) (Ts := jj_tb) (index := idx) (mc := 0) (ms := 0) ⟨X.1, X.2.1, X.2.2.1, X.2.2.2.1, hts⟩ hC ⟨callB_of as.length hts (jj_gin M N v4) rfl rfl rfl (hts _ v3) (hts _ hlk) v5 ⟨f1, f2⟩, hts _ v1, hts _ v2⟩ ⟨jj_blind _ _ _, hre, fun U hU hW => jj_at X hP hS (.ref b :: as) U hU hW⟩ rfl (by simp) hl.1 (by rw [hs]; simp [wo_mv]) ?_ hd ⟨Nat.le_refl _, Nat.le_refl _⟩) k
  show 2 * 0 + _ ≤ 8
  rw [jj_cats]
  omega
theorem jj_callS {N : jj_M} {as st0 : List Value} {idx : Nat} {R : Option Value → wo_T → Prop} (hd : decode M.2.1 pc = .ok (.invokestatic idx, 3)) (hlk : Cond.methodLink M.1.cls idx N.1 ∈ jj_tb) (hV : jj_U N as.length) (hf : jj_fit M N st = true) (hs : st0 = as.reverse ++ st)
    (hC : jj_C K N as w R) (k : ∀ r w1, R r w1 → jj_J K M P (pc + 3) l (r.toList ++ st) w1) : jj_J K M P pc l st0 w := by
  intro p e s m args below meth c X H locs ls hP hS hl
  obtain ⟨v1, v3, v4, v5⟩ := hV
  obtain ⟨f1, f2, f3⟩ := jj_fit_spec hf
  have hts := X.2.2.2.2.1
  refine jj_after X hS hl (va_runS (As := as.map (wo_mv K.1.1)) (n := as.length) (Ts := jj_tb) (index := idx) (mc := 0) (ms := 0) ⟨X.1, X.2.1, X.2.2.1, X.2.2.2.1, hts⟩ hC ⟨callB_of as.length hts (jj_gin M N v4) rfl rfl rfl (hts _ v3) (hts _ hlk) v5 ⟨f1, f2⟩, hts _ v1⟩ ⟨jj_blind _ _ _, fun U hU hW => jj_at X hP hS as U hU hW⟩ rfl (by simp) hl.1 (by rw [hs]; simp) ?_ hd ⟨Nat.le_refl _, Nat.le_refl _⟩) k
  show 2 * 0 + _ ≤ 8
  rw [jj_cats]
  omega
end
end
