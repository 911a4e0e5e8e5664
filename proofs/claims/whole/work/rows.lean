section
-- ===== PART A: goes FIRST, ahead of the names: the tables' words, and 'selects' of the private methods out of them =====
/-- a private method of a class that the tables say can be made, by its rows of tables_1 -/
def lw_okq (q : MethodName × Nat) : Prop := (q.1.cls ≠ "java/lang/invoke/MethodHandle" ∧ q.1.cls ≠ "java/lang/invoke/VarHandle") ∧ Cond.instantiable q.1.cls q.2 ∈ tables_1 ∧ Cond.privateMethod q.1 ∈ tables_1 ∧ Cond.instanceMethod q.1 ∈ tables_1
theorem lw_p0 : lw_okq (⟨"TermBench", "fillHole", "(II)Z"⟩, 4) := ⟨⟨by decide +kernel, by decide +kernel⟩, List.mem_of_getElem? (i := 13) (by decide +kernel), List.mem_of_getElem? (i := 175) (by decide +kernel), List.mem_of_getElem? (i := 176) (by decide +kernel)⟩
theorem lw_p1 : lw_okq (⟨"TermBench$Program", "write", "(IIIJ)V"⟩, 6) := ⟨⟨by decide +kernel, by decide +kernel⟩, List.mem_of_getElem? (i := 28) (by decide +kernel), List.mem_of_getElem? (i := 206) (by decide +kernel), List.mem_of_getElem? (i := 207) (by decide +kernel)⟩
theorem lw_p2 : lw_okq (⟨"TermBench", "joinHole", "(IZ)Z"⟩, 4) := ⟨⟨by decide +kernel, by decide +kernel⟩, List.mem_of_getElem? (i := 13) (by decide +kernel), List.mem_of_getElem? (i := 221) (by decide +kernel), List.mem_of_getElem? (i := 222) (by decide +kernel)⟩
theorem lw_p3 : lw_okq (⟨"TermBench$Program", "shiftLevels", "(III)V"⟩, 6) := ⟨⟨by decide +kernel, by decide +kernel⟩, List.mem_of_getElem? (i := 28) (by decide +kernel), List.mem_of_getElem? (i := 244) (by decide +kernel), List.mem_of_getElem? (i := 245) (by decide +kernel)⟩
theorem lw_p4 : lw_okq (⟨"TermBench$Program", "moveTail", "(II)V"⟩, 6) := ⟨⟨by decide +kernel, by decide +kernel⟩, List.mem_of_getElem? (i := 28) (by decide +kernel), List.mem_of_getElem? (i := 248) (by decide +kernel), List.mem_of_getElem? (i := 249) (by decide +kernel)⟩
theorem lw_p5 : lw_okq (⟨"TermBench", "wrapTyped", "(IIJ)Z"⟩, 4) := ⟨⟨by decide +kernel, by decide +kernel⟩, List.mem_of_getElem? (i := 13) (by decide +kernel), List.mem_of_getElem? (i := 260) (by decide +kernel), List.mem_of_getElem? (i := 261) (by decide +kernel)⟩
theorem lw_p6 : lw_okq (⟨"TermBench", "moveTo", "(I)Z"⟩, 4) := ⟨⟨by decide +kernel, by decide +kernel⟩, List.mem_of_getElem? (i := 13) (by decide +kernel), List.mem_of_getElem? (i := 316) (by decide +kernel), List.mem_of_getElem? (i := 317) (by decide +kernel)⟩
theorem lw_p7 : lw_okq (⟨"TermBench", "written", "()LTermBench$Page;"⟩, 4) := ⟨⟨by decide +kernel, by decide +kernel⟩, List.mem_of_getElem? (i := 13) (by decide +kernel), List.mem_of_getElem? (i := 332) (by decide +kernel), List.mem_of_getElem? (i := 333) (by decide +kernel)⟩
theorem lw_p8 : lw_okq (⟨"TermBench$Page", "writeNumber", "(I)V"⟩, 5) := ⟨⟨by decide +kernel, by decide +kernel⟩, List.mem_of_getElem? (i := 107) (by decide +kernel), List.mem_of_getElem? (i := 347) (by decide +kernel), List.mem_of_getElem? (i := 348) (by decide +kernel)⟩
theorem lw_p9 : lw_okq (⟨"TermBench$Page", "writeSign", "(I)V"⟩, 5) := ⟨⟨by decide +kernel, by decide +kernel⟩, List.mem_of_getElem? (i := 107) (by decide +kernel), List.mem_of_getElem? (i := 354) (by decide +kernel), List.mem_of_getElem? (i := 355) (by decide +kernel)⟩
theorem lw_p10 : lw_okq (⟨"TermBench$Page", "writeName", "(I)V"⟩, 5) := ⟨⟨by decide +kernel, by decide +kernel⟩, List.mem_of_getElem? (i := 107) (by decide +kernel), List.mem_of_getElem? (i := 358) (by decide +kernel), List.mem_of_getElem? (i := 359) (by decide +kernel)⟩
theorem lw_p11 : lw_okq (⟨"TermBench$Page", "writeWithParts", "(LTermBench$Program;II)V"⟩, 5) := ⟨⟨by decide +kernel, by decide +kernel⟩, List.mem_of_getElem? (i := 107) (by decide +kernel), List.mem_of_getElem? (i := 362) (by decide +kernel), List.mem_of_getElem? (i := 363) (by decide +kernel)⟩
theorem lw_p12 : lw_okq (⟨"TermBench$Page", "writeType", "(JI)V"⟩, 5) := ⟨⟨by decide +kernel, by decide +kernel⟩, List.mem_of_getElem? (i := 107) (by decide +kernel), List.mem_of_getElem? (i := 368) (by decide +kernel), List.mem_of_getElem? (i := 369) (by decide +kernel)⟩
theorem lw_p13 : lw_okq (⟨"TermBench", "typed", "()LTermBench$Typing;"⟩, 4) := ⟨⟨by decide +kernel, by decide +kernel⟩, List.mem_of_getElem? (i := 13) (by decide +kernel), List.mem_of_getElem? (i := 407) (by decide +kernel), List.mem_of_getElem? (i := 408) (by decide +kernel)⟩
theorem lw_p14 : lw_okq (⟨"TermBench$Typing", "typeByKind", "(LTermBench$Program;IJI)J"⟩, 4) := ⟨⟨by decide +kernel, by decide +kernel⟩, List.mem_of_getElem? (i := 84) (by decide +kernel), List.mem_of_getElem? (i := 415) (by decide +kernel), List.mem_of_getElem? (i := 416) (by decide +kernel)⟩
theorem lw_p15 : lw_okq (⟨"TermBench$Typing", "typeName", "(LTermBench$Program;I)J"⟩, 4) := ⟨⟨by decide +kernel, by decide +kernel⟩, List.mem_of_getElem? (i := 84) (by decide +kernel), List.mem_of_getElem? (i := 420) (by decide +kernel), List.mem_of_getElem? (i := 421) (by decide +kernel)⟩
def lw_privs_1 : List (MethodName × Nat) := [(⟨"TermBench", "fillHole", "(II)Z"⟩, 4), (⟨"TermBench$Program", "write", "(IIIJ)V"⟩, 6), (⟨"TermBench", "joinHole", "(IZ)Z"⟩, 4), (⟨"TermBench$Program", "shiftLevels", "(III)V"⟩, 6), (⟨"TermBench$Program", "moveTail", "(II)V"⟩, 6), (⟨"TermBench", "wrapTyped", "(IIJ)Z"⟩, 4), (⟨"TermBench", "moveTo", "(I)Z"⟩, 4), (⟨"TermBench", "written", "()LTermBench$Page;"⟩, 4), (⟨"TermBench$Page", "writeNumber", "(I)V"⟩, 5), (⟨"TermBench$Page", "writeSign", "(I)V"⟩, 5), (⟨"TermBench$Page", "writeName", "(I)V"⟩, 5), (⟨"TermBench$Page", "writeWithParts", "(LTermBench$Program;II)V"⟩, 5), (⟨"TermBench$Page", "writeType", "(JI)V"⟩, 5), (⟨"TermBench", "typed", "()LTermBench$Typing;"⟩, 4), (⟨"TermBench$Typing", "typeByKind", "(LTermBench$Program;IJI)J"⟩, 4), (⟨"TermBench$Typing", "typeName", "(LTermBench$Program;I)J"⟩, 4)]
theorem lw_r1 : ∀ q ∈ lw_privs_1, lw_okq q := List.forall_mem_cons.mpr ⟨lw_p0, List.forall_mem_cons.mpr ⟨lw_p1, List.forall_mem_cons.mpr ⟨lw_p2, List.forall_mem_cons.mpr ⟨lw_p3, List.forall_mem_cons.mpr ⟨lw_p4, List.forall_mem_cons.mpr ⟨lw_p5, List.forall_mem_cons.mpr ⟨lw_p6, List.forall_mem_cons.mpr ⟨lw_p7, List.forall_mem_cons.mpr ⟨lw_p8, List.forall_mem_cons.mpr ⟨lw_p9, List.forall_mem_cons.mpr ⟨lw_p10, List.forall_mem_cons.mpr ⟨lw_p11, List.forall_mem_cons.mpr ⟨lw_p12, List.forall_mem_cons.mpr ⟨lw_p13, List.forall_mem_cons.mpr ⟨lw_p14, List.forall_mem_cons.mpr ⟨lw_p15, fun _ h => absurd h List.not_mem_nil⟩⟩⟩⟩⟩⟩⟩⟩⟩⟩⟩⟩⟩⟩⟩⟩
theorem lw_p16 : lw_okq (⟨"TermBench$Typing", "typeCall", "(LTermBench$Program;II)J"⟩, 4) := ⟨⟨by decide +kernel, by decide +kernel⟩, List.mem_of_getElem? (i := 84) (by decide +kernel), List.mem_of_getElem? (i := 430) (by decide +kernel), List.mem_of_getElem? (i := 431) (by decide +kernel)⟩
theorem lw_p17 : lw_okq (⟨"TermBench$Typing", "typeFunction", "(LTermBench$Program;IJI)J"⟩, 4) := ⟨⟨by decide +kernel, by decide +kernel⟩, List.mem_of_getElem? (i := 84) (by decide +kernel), List.mem_of_getElem? (i := 437) (by decide +kernel), List.mem_of_getElem? (i := 438) (by decide +kernel)⟩
theorem lw_p18 : lw_okq (⟨"TermBench$Machine", "runTerm", "(LTermBench$Program;[IIII)J"⟩, 6) := ⟨⟨by decide +kernel, by decide +kernel⟩, List.mem_of_getElem? (i := 131) (by decide +kernel), List.mem_of_getElem? (i := 487) (by decide +kernel), List.mem_of_getElem? (i := 488) (by decide +kernel)⟩
theorem lw_p19 : lw_okq (⟨"TermBench$Machine", "standsFor", "(II)J"⟩, 6) := ⟨⟨by decide +kernel, by decide +kernel⟩, List.mem_of_getElem? (i := 131) (by decide +kernel), List.mem_of_getElem? (i := 494) (by decide +kernel), List.mem_of_getElem? (i := 495) (by decide +kernel)⟩
theorem lw_p20 : lw_okq (⟨"TermBench$Machine", "runSum", "(LTermBench$Program;[IIII)J"⟩, 6) := ⟨⟨by decide +kernel, by decide +kernel⟩, List.mem_of_getElem? (i := 131) (by decide +kernel), List.mem_of_getElem? (i := 498) (by decide +kernel), List.mem_of_getElem? (i := 499) (by decide +kernel)⟩
theorem lw_p21 : lw_okq (⟨"TermBench$Machine", "runCall", "(LTermBench$Program;[IIII)J"⟩, 6) := ⟨⟨by decide +kernel, by decide +kernel⟩, List.mem_of_getElem? (i := 131) (by decide +kernel), List.mem_of_getElem? (i := 509) (by decide +kernel), List.mem_of_getElem? (i := 510) (by decide +kernel)⟩
theorem lw_p22 : lw_okq (⟨"TermBench$Machine", "bind", "(IJI)I"⟩, 6) := ⟨⟨by decide +kernel, by decide +kernel⟩, List.mem_of_getElem? (i := 131) (by decide +kernel), List.mem_of_getElem? (i := 513) (by decide +kernel), List.mem_of_getElem? (i := 514) (by decide +kernel)⟩
theorem lw_p23 : lw_okq (⟨"TermBenchModel", "save", "(I)V"⟩, 42) := ⟨⟨by decide +kernel, by decide +kernel⟩, List.mem_of_getElem? (i := 525) (by decide +kernel), List.mem_of_getElem? (i := 662) (by decide +kernel), List.mem_of_getElem? (i := 663) (by decide +kernel)⟩
theorem lw_p24 : lw_okq (⟨"TermBenchModel", "bring", "(I)V"⟩, 42) := ⟨⟨by decide +kernel, by decide +kernel⟩, List.mem_of_getElem? (i := 525) (by decide +kernel), List.mem_of_getElem? (i := 666) (by decide +kernel), List.mem_of_getElem? (i := 667) (by decide +kernel)⟩
theorem lw_p25 : lw_okq (⟨"TermBenchModel", "begin", "()V"⟩, 42) := ⟨⟨by decide +kernel, by decide +kernel⟩, List.mem_of_getElem? (i := 525) (by decide +kernel), List.mem_of_getElem? (i := 678) (by decide +kernel), List.mem_of_getElem? (i := 679) (by decide +kernel)⟩
theorem lw_p26 : lw_okq (⟨"TermBenchModel", "done", "(I)Z"⟩, 42) := ⟨⟨by decide +kernel, by decide +kernel⟩, List.mem_of_getElem? (i := 525) (by decide +kernel), List.mem_of_getElem? (i := 682) (by decide +kernel), List.mem_of_getElem? (i := 683) (by decide +kernel)⟩
theorem lw_p27 : lw_okq (⟨"TermBenchModel", "depth", "(I)I"⟩, 42) := ⟨⟨by decide +kernel, by decide +kernel⟩, List.mem_of_getElem? (i := 525) (by decide +kernel), List.mem_of_getElem? (i := 686) (by decide +kernel), List.mem_of_getElem? (i := 687) (by decide +kernel)⟩
theorem lw_p28 : lw_okq (⟨"TermBenchModel", "end", "(I)I"⟩, 42) := ⟨⟨by decide +kernel, by decide +kernel⟩, List.mem_of_getElem? (i := 525) (by decide +kernel), List.mem_of_getElem? (i := 690) (by decide +kernel), List.mem_of_getElem? (i := 691) (by decide +kernel)⟩
theorem lw_p29 : lw_okq (⟨"TermBenchModel", "move", "(II)V"⟩, 42) := ⟨⟨by decide +kernel, by decide +kernel⟩, List.mem_of_getElem? (i := 525) (by decide +kernel), List.mem_of_getElem? (i := 697) (by decide +kernel), List.mem_of_getElem? (i := 698) (by decide +kernel)⟩
theorem lw_p30 : lw_okq (⟨"TermBenchModel", "pair", "(IZ)Z"⟩, 42) := ⟨⟨by decide +kernel, by decide +kernel⟩, List.mem_of_getElem? (i := 525) (by decide +kernel), List.mem_of_getElem? (i := 709) (by decide +kernel), List.mem_of_getElem? (i := 710) (by decide +kernel)⟩
theorem lw_p31 : lw_okq (⟨"TermBenchModel", "insert", "(IIIJ)V"⟩, 42) := ⟨⟨by decide +kernel, by decide +kernel⟩, List.mem_of_getElem? (i := 525) (by decide +kernel), List.mem_of_getElem? (i := 713) (by decide +kernel), List.mem_of_getElem? (i := 714) (by decide +kernel)⟩
def lw_privs_2 : List (MethodName × Nat) := [(⟨"TermBench$Typing", "typeCall", "(LTermBench$Program;II)J"⟩, 4), (⟨"TermBench$Typing", "typeFunction", "(LTermBench$Program;IJI)J"⟩, 4), (⟨"TermBench$Machine", "runTerm", "(LTermBench$Program;[IIII)J"⟩, 6), (⟨"TermBench$Machine", "standsFor", "(II)J"⟩, 6), (⟨"TermBench$Machine", "runSum", "(LTermBench$Program;[IIII)J"⟩, 6), (⟨"TermBench$Machine", "runCall", "(LTermBench$Program;[IIII)J"⟩, 6), (⟨"TermBench$Machine", "bind", "(IJI)I"⟩, 6), (⟨"TermBenchModel", "save", "(I)V"⟩, 42), (⟨"TermBenchModel", "bring", "(I)V"⟩, 42), (⟨"TermBenchModel", "begin", "()V"⟩, 42), (⟨"TermBenchModel", "done", "(I)Z"⟩, 42), (⟨"TermBenchModel", "depth", "(I)I"⟩, 42), (⟨"TermBenchModel", "end", "(I)I"⟩, 42), (⟨"TermBenchModel", "move", "(II)V"⟩, 42), (⟨"TermBenchModel", "pair", "(IZ)Z"⟩, 42), (⟨"TermBenchModel", "insert", "(IIIJ)V"⟩, 42)]
theorem lw_r2 : ∀ q ∈ lw_privs_2, lw_okq q := List.forall_mem_cons.mpr ⟨lw_p16, List.forall_mem_cons.mpr ⟨lw_p17, List.forall_mem_cons.mpr ⟨lw_p18, List.forall_mem_cons.mpr ⟨lw_p19, List.forall_mem_cons.mpr ⟨lw_p20, List.forall_mem_cons.mpr ⟨lw_p21, List.forall_mem_cons.mpr ⟨lw_p22, List.forall_mem_cons.mpr ⟨lw_p23, List.forall_mem_cons.mpr ⟨lw_p24, List.forall_mem_cons.mpr ⟨lw_p25, List.forall_mem_cons.mpr ⟨lw_p26, List.forall_mem_cons.mpr ⟨lw_p27, List.forall_mem_cons.mpr ⟨lw_p28, List.forall_mem_cons.mpr ⟨lw_p29, List.forall_mem_cons.mpr ⟨lw_p30, List.forall_mem_cons.mpr ⟨lw_p31, fun _ h => absurd h List.not_mem_nil⟩⟩⟩⟩⟩⟩⟩⟩⟩⟩⟩⟩⟩⟩⟩⟩
theorem lw_p32 : lw_okq (⟨"TermBenchModel", "shift", "(II)V"⟩, 42) := ⟨⟨by decide +kernel, by decide +kernel⟩, List.mem_of_getElem? (i := 525) (by decide +kernel), List.mem_of_getElem? (i := 717) (by decide +kernel), List.mem_of_getElem? (i := 718) (by decide +kernel)⟩
theorem lw_p33 : lw_okq (⟨"TermBenchModel", "takeOut", "(II)V"⟩, 42) := ⟨⟨by decide +kernel, by decide +kernel⟩, List.mem_of_getElem? (i := 525) (by decide +kernel), List.mem_of_getElem? (i := 747) (by decide +kernel), List.mem_of_getElem? (i := 748) (by decide +kernel)⟩
theorem lw_p34 : lw_okq (⟨"TermBenchModel", "above", "(I)I"⟩, 42) := ⟨⟨by decide +kernel, by decide +kernel⟩, List.mem_of_getElem? (i := 525) (by decide +kernel), List.mem_of_getElem? (i := 755) (by decide +kernel), List.mem_of_getElem? (i := 756) (by decide +kernel)⟩
theorem lw_p35 : lw_okq (⟨"TermBenchModel", "part", "(II)I"⟩, 42) := ⟨⟨by decide +kernel, by decide +kernel⟩, List.mem_of_getElem? (i := 525) (by decide +kernel), List.mem_of_getElem? (i := 767) (by decide +kernel), List.mem_of_getElem? (i := 768) (by decide +kernel)⟩
theorem lw_p36 : lw_okq (⟨"TermBenchModel", "spell", "()V"⟩, 42) := ⟨⟨by decide +kernel, by decide +kernel⟩, List.mem_of_getElem? (i := 525) (by decide +kernel), List.mem_of_getElem? (i := 775) (by decide +kernel), List.mem_of_getElem? (i := 776) (by decide +kernel)⟩
theorem lw_p37 : lw_okq (⟨"TermBenchModel", "opens", "(I)V"⟩, 42) := ⟨⟨by decide +kernel, by decide +kernel⟩, List.mem_of_getElem? (i := 525) (by decide +kernel), List.mem_of_getElem? (i := 779) (by decide +kernel), List.mem_of_getElem? (i := 780) (by decide +kernel)⟩
theorem lw_p38 : lw_okq (⟨"TermBenchModel", "put", "(II)V"⟩, 42) := ⟨⟨by decide +kernel, by decide +kernel⟩, List.mem_of_getElem? (i := 525) (by decide +kernel), List.mem_of_getElem? (i := 783) (by decide +kernel), List.mem_of_getElem? (i := 784) (by decide +kernel)⟩
theorem lw_p39 : lw_okq (⟨"TermBenchModel", "putNumber", "(II)V"⟩, 42) := ⟨⟨by decide +kernel, by decide +kernel⟩, List.mem_of_getElem? (i := 525) (by decide +kernel), List.mem_of_getElem? (i := 787) (by decide +kernel), List.mem_of_getElem? (i := 788) (by decide +kernel)⟩
theorem lw_p40 : lw_okq (⟨"TermBenchModel", "putType", "(JI)V"⟩, 42) := ⟨⟨by decide +kernel, by decide +kernel⟩, List.mem_of_getElem? (i := 525) (by decide +kernel), List.mem_of_getElem? (i := 791) (by decide +kernel), List.mem_of_getElem? (i := 792) (by decide +kernel)⟩
theorem lw_p41 : lw_okq (⟨"TermBenchModel", "closes", "(I)V"⟩, 42) := ⟨⟨by decide +kernel, by decide +kernel⟩, List.mem_of_getElem? (i := 525) (by decide +kernel), List.mem_of_getElem? (i := 795) (by decide +kernel), List.mem_of_getElem? (i := 796) (by decide +kernel)⟩
theorem lw_p42 : lw_okq (⟨"TermBenchModel", "type", "()V"⟩, 42) := ⟨⟨by decide +kernel, by decide +kernel⟩, List.mem_of_getElem? (i := 525) (by decide +kernel), List.mem_of_getElem? (i := 819) (by decide +kernel), List.mem_of_getElem? (i := 820) (by decide +kernel)⟩
theorem lw_p43 : lw_okq (⟨"TermBenchModel", "wantedOf", "(II)J"⟩, 42) := ⟨⟨by decide +kernel, by decide +kernel⟩, List.mem_of_getElem? (i := 525) (by decide +kernel), List.mem_of_getElem? (i := 823) (by decide +kernel), List.mem_of_getElem? (i := 824) (by decide +kernel)⟩
theorem lw_p44 : lw_okq (⟨"TermBenchModel", "has", "(I)J"⟩, 42) := ⟨⟨by decide +kernel, by decide +kernel⟩, List.mem_of_getElem? (i := 525) (by decide +kernel), List.mem_of_getElem? (i := 837) (by decide +kernel), List.mem_of_getElem? (i := 838) (by decide +kernel)⟩
theorem lw_p45 : lw_okq (⟨"TermBenchModel", "gotOf", "(I)J"⟩, 42) := ⟨⟨by decide +kernel, by decide +kernel⟩, List.mem_of_getElem? (i := 525) (by decide +kernel), List.mem_of_getElem? (i := 844) (by decide +kernel), List.mem_of_getElem? (i := 845) (by decide +kernel)⟩
theorem lw_p46 : lw_okq (⟨"TermBenchModel", "binder", "(I)I"⟩, 42) := ⟨⟨by decide +kernel, by decide +kernel⟩, List.mem_of_getElem? (i := 525) (by decide +kernel), List.mem_of_getElem? (i := 848) (by decide +kernel), List.mem_of_getElem? (i := 849) (by decide +kernel)⟩
theorem lw_p47 : lw_okq (⟨"TermBenchModel", "markOf", "(I)I"⟩, 42) := ⟨⟨by decide +kernel, by decide +kernel⟩, List.mem_of_getElem? (i := 525) (by decide +kernel), List.mem_of_getElem? (i := 855) (by decide +kernel), List.mem_of_getElem? (i := 856) (by decide +kernel)⟩
def lw_privs_3 : List (MethodName × Nat) := [(⟨"TermBenchModel", "shift", "(II)V"⟩, 42), (⟨"TermBenchModel", "takeOut", "(II)V"⟩, 42), (⟨"TermBenchModel", "above", "(I)I"⟩, 42), (⟨"TermBenchModel", "part", "(II)I"⟩, 42), (⟨"TermBenchModel", "spell", "()V"⟩, 42), (⟨"TermBenchModel", "opens", "(I)V"⟩, 42), (⟨"TermBenchModel", "put", "(II)V"⟩, 42), (⟨"TermBenchModel", "putNumber", "(II)V"⟩, 42), (⟨"TermBenchModel", "putType", "(JI)V"⟩, 42), (⟨"TermBenchModel", "closes", "(I)V"⟩, 42), (⟨"TermBenchModel", "type", "()V"⟩, 42), (⟨"TermBenchModel", "wantedOf", "(II)J"⟩, 42), (⟨"TermBenchModel", "has", "(I)J"⟩, 42), (⟨"TermBenchModel", "gotOf", "(I)J"⟩, 42), (⟨"TermBenchModel", "binder", "(I)I"⟩, 42), (⟨"TermBenchModel", "markOf", "(I)I"⟩, 42)]
theorem lw_r3 : ∀ q ∈ lw_privs_3, lw_okq q := List.forall_mem_cons.mpr ⟨lw_p32, List.forall_mem_cons.mpr ⟨lw_p33, List.forall_mem_cons.mpr ⟨lw_p34, List.forall_mem_cons.mpr ⟨lw_p35, List.forall_mem_cons.mpr ⟨lw_p36, List.forall_mem_cons.mpr ⟨lw_p37, List.forall_mem_cons.mpr ⟨lw_p38, List.forall_mem_cons.mpr ⟨lw_p39, List.forall_mem_cons.mpr ⟨lw_p40, List.forall_mem_cons.mpr ⟨lw_p41, List.forall_mem_cons.mpr ⟨lw_p42, List.forall_mem_cons.mpr ⟨lw_p43, List.forall_mem_cons.mpr ⟨lw_p44, List.forall_mem_cons.mpr ⟨lw_p45, List.forall_mem_cons.mpr ⟨lw_p46, List.forall_mem_cons.mpr ⟨lw_p47, fun _ h => absurd h List.not_mem_nil⟩⟩⟩⟩⟩⟩⟩⟩⟩⟩⟩⟩⟩⟩⟩⟩
theorem lw_p48 : lw_okq (⟨"TermBenchModel", "enter", "(II)Z"⟩, 42) := ⟨⟨by decide +kernel, by decide +kernel⟩, List.mem_of_getElem? (i := 525) (by decide +kernel), List.mem_of_getElem? (i := 882) (by decide +kernel), List.mem_of_getElem? (i := 883) (by decide +kernel)⟩
theorem lw_p49 : lw_okq (⟨"TermBenchModel", "isDone", "(I)Z"⟩, 42) := ⟨⟨by decide +kernel, by decide +kernel⟩, List.mem_of_getElem? (i := 525) (by decide +kernel), List.mem_of_getElem? (i := 886) (by decide +kernel), List.mem_of_getElem? (i := 887) (by decide +kernel)⟩
theorem lw_p50 : lw_okq (⟨"TermBenchModel", "value", "(III)V"⟩, 42) := ⟨⟨by decide +kernel, by decide +kernel⟩, List.mem_of_getElem? (i := 525) (by decide +kernel), List.mem_of_getElem? (i := 890) (by decide +kernel), List.mem_of_getElem? (i := 891) (by decide +kernel)⟩
theorem lw_p51 : lw_okq (⟨"TermBenchModel", "lookUp", "(II)V"⟩, 42) := ⟨⟨by decide +kernel, by decide +kernel⟩, List.mem_of_getElem? (i := 525) (by decide +kernel), List.mem_of_getElem? (i := 894) (by decide +kernel), List.mem_of_getElem? (i := 895) (by decide +kernel)⟩
theorem lw_p52 : lw_okq (⟨"TermBenchModel", "second", "(I)Z"⟩, 42) := ⟨⟨by decide +kernel, by decide +kernel⟩, List.mem_of_getElem? (i := 525) (by decide +kernel), List.mem_of_getElem? (i := 898) (by decide +kernel), List.mem_of_getElem? (i := 899) (by decide +kernel)⟩
theorem lw_p53 : lw_okq (⟨"TermBenchModel", "bind", "(I)I"⟩, 42) := ⟨⟨by decide +kernel, by decide +kernel⟩, List.mem_of_getElem? (i := 525) (by decide +kernel), List.mem_of_getElem? (i := 902) (by decide +kernel), List.mem_of_getElem? (i := 903) (by decide +kernel)⟩
theorem lw_p54 : lw_okq (⟨"TermBenchModel", "add", "(I)V"⟩, 42) := ⟨⟨by decide +kernel, by decide +kernel⟩, List.mem_of_getElem? (i := 525) (by decide +kernel), List.mem_of_getElem? (i := 906) (by decide +kernel), List.mem_of_getElem? (i := 907) (by decide +kernel)⟩
def lw_privs_4 : List (MethodName × Nat) := [(⟨"TermBenchModel", "enter", "(II)Z"⟩, 42), (⟨"TermBenchModel", "isDone", "(I)Z"⟩, 42), (⟨"TermBenchModel", "value", "(III)V"⟩, 42), (⟨"TermBenchModel", "lookUp", "(II)V"⟩, 42), (⟨"TermBenchModel", "second", "(I)Z"⟩, 42), (⟨"TermBenchModel", "bind", "(I)I"⟩, 42), (⟨"TermBenchModel", "add", "(I)V"⟩, 42)]
theorem lw_r4 : ∀ q ∈ lw_privs_4, lw_okq q := List.forall_mem_cons.mpr ⟨lw_p48, List.forall_mem_cons.mpr ⟨lw_p49, List.forall_mem_cons.mpr ⟨lw_p50, List.forall_mem_cons.mpr ⟨lw_p51, List.forall_mem_cons.mpr ⟨lw_p52, List.forall_mem_cons.mpr ⟨lw_p53, List.forall_mem_cons.mpr ⟨lw_p54, fun _ h => absurd h List.not_mem_nil⟩⟩⟩⟩⟩⟩⟩
def lw_privs : List (MethodName × Nat) := lw_privs_1 ++ (lw_privs_2 ++ (lw_privs_3 ++ (lw_privs_4)))
def lw_tbl : List Cond := k2_sels lw_privs ++ tables_1
theorem lw_privs_ok : ∀ q ∈ lw_privs, lw_okq q := by
  show ∀ q ∈ lw_privs_1 ++ (lw_privs_2 ++ (lw_privs_3 ++ (lw_privs_4))), lw_okq q
  exact List.forall_mem_append.mpr ⟨lw_r1, List.forall_mem_append.mpr ⟨lw_r2, List.forall_mem_append.mpr ⟨lw_r3, lw_r4⟩⟩⟩
end
section
/-! names, by program out of the Statement's tables: fields in the order of the tables, methods and their code -/
def THi : u_T := fun k => match k with
  | 0 => ("TermBench$History", "ring", "[LTermBench$Program;", true)
  | 1 => ("TermBench$History", "place", "I", false)
  | 2 => ("TermBench$History", "kept", "I", false)
  | 3 => ("TermBench$History", "putBy", "I", false)
  | _ => ("TermBench$History", "change", "I", false)
def tyHi : Nat → FieldType := fun k => match k with
  | 0 => .array (.object "TermBench$Program")
  | 1 => .int
  | 2 => .int
  | 3 => .int
  | _ => .int
theorem nmHi : ∀ a, a < 5 → ∀ b, b < 5 → a ≠ b → (THi a).2.1 ≠ (THi b).2.1 := by decide +kernel
theorem tyHi_ok : ∀ k, k < 5 → parseFieldDescriptor (THi k).2.2.1 = some (tyHi k) := by decide +kernel
def TMa : u_T := fun k => match k with
  | 0 => ("TermBench$Machine", "boundNames", "[I", true)
  | 1 => ("TermBench$Machine", "boundValues", "[J", true)
  | 2 => ("TermBench$Machine", "outerScopes", "[I", true)
  | 3 => ("TermBench$Machine", "bound", "I", false)
  | 4 => ("TermBench$Machine", "units", "I", false)
  | _ => ("TermBench$Machine", "number", "I", false)
def tyMa : Nat → FieldType := fun k => match k with
  | 0 => .array .int
  | 1 => .array .long
  | 2 => .array .int
  | 3 => .int
  | 4 => .int
  | _ => .int
theorem nmMa : ∀ a, a < 6 → ∀ b, b < 6 → a ≠ b → (TMa a).2.1 ≠ (TMa b).2.1 := by decide +kernel
theorem tyMa_ok : ∀ k, k < 6 → parseFieldDescriptor (TMa k).2.2.1 = some (tyMa k) := by decide +kernel
def TPa : u_T := fun k => match k with
  | 0 => ("TermBench$Page", "words", "[J", true)
  | 1 => ("TermBench$Page", "begins", "[I", true)
  | 2 => ("TermBench$Page", "ends", "[I", true)
  | 3 => ("TermBench$Page", "length", "I", false)
  | _ => ("TermBench$Page", "change", "I", false)
def tyPa : Nat → FieldType := fun k => match k with
  | 0 => .array .long
  | 1 => .array .int
  | 2 => .array .int
  | 3 => .int
  | _ => .int
theorem nmPa : ∀ a, a < 5 → ∀ b, b < 5 → a ≠ b → (TPa a).2.1 ≠ (TPa b).2.1 := by decide +kernel
theorem tyPa_ok : ∀ k, k < 5 → parseFieldDescriptor (TPa k).2.2.1 = some (tyPa k) := by decide +kernel
def TPr : u_T := fun k => match k with
  | 0 => ("TermBench$Program", "kinds", "[I", true)
  | 1 => ("TermBench$Program", "figures", "[I", true)
  | 2 => ("TermBench$Program", "types", "[J", true)
  | 3 => ("TermBench$Program", "levels", "[I", true)
  | 4 => ("TermBench$Program", "size", "I", false)
  | _ => ("TermBench$Program", "cursor", "I", false)
def tyPr : Nat → FieldType := fun k => match k with
  | 0 => .array .int
  | 1 => .array .int
  | 2 => .array .long
  | 3 => .array .int
  | 4 => .int
  | _ => .int
theorem nmPr : ∀ a, a < 6 → ∀ b, b < 6 → a ≠ b → (TPr a).2.1 ≠ (TPr b).2.1 := by decide +kernel
theorem tyPr_ok : ∀ k, k < 6 → parseFieldDescriptor (TPr k).2.2.1 = some (tyPr k) := by decide +kernel
def TTg : u_T := fun k => match k with
  | 0 => ("TermBench$Typing", "gotTypes", "[J", true)
  | 1 => ("TermBench$Typing", "expectedTypes", "[J", true)
  | 2 => ("TermBench$Typing", "marks", "[I", true)
  | _ => ("TermBench$Typing", "change", "I", false)
def tyTg : Nat → FieldType := fun k => match k with
  | 0 => .array .long
  | 1 => .array .long
  | 2 => .array .int
  | _ => .int
theorem nmTg : ∀ a, a < 4 → ∀ b, b < 4 → a ≠ b → (TTg a).2.1 ≠ (TTg b).2.1 := by decide +kernel
theorem tyTg_ok : ∀ k, k < 4 → parseFieldDescriptor (TTg k).2.2.1 = some (tyTg k) := by decide +kernel
def TBe : u_T := fun k => match k with
  | 0 => ("TermBench", "history", "LTermBench$History;", true)
  | 1 => ("TermBench", "typing", "LTermBench$Typing;", true)
  | 2 => ("TermBench", "page", "LTermBench$Page;", true)
  | _ => ("TermBench", "machine", "LTermBench$Machine;", true)
def tyBe : Nat → FieldType := fun k => match k with
  | 0 => .object "TermBench$History"
  | 1 => .object "TermBench$Typing"
  | 2 => .object "TermBench$Page"
  | _ => .object "TermBench$Machine"
theorem nmBe : ∀ a, a < 4 → ∀ b, b < 4 → a ≠ b → (TBe a).2.1 ≠ (TBe b).2.1 := by decide +kernel
theorem tyBe_ok : ∀ k, k < 4 → parseFieldDescriptor (TBe k).2.2.1 = some (tyBe k) := by decide +kernel
def TMo : u_T := fun k => match k with
  | 0 => ("TermBenchModel", "count", "I", false)
  | 1 => ("TermBenchModel", "cursor", "I", false)
  | 2 => ("TermBenchModel", "kinds", "[I", true)
  | 3 => ("TermBenchModel", "values", "[I", true)
  | 4 => ("TermBenchModel", "types", "[J", true)
  | 5 => ("TermBenchModel", "kept", "I", false)
  | 6 => ("TermBenchModel", "aside", "I", false)
  | 7 => ("TermBenchModel", "counts", "[I", true)
  | 8 => ("TermBenchModel", "cursors", "[I", true)
  | 9 => ("TermBenchModel", "oldKinds", "[I", true)
  | 10 => ("TermBenchModel", "oldValues", "[I", true)
  | 11 => ("TermBenchModel", "oldTypes", "[J", true)
  | 12 => ("TermBenchModel", "typed", "Z", false)
  | 13 => ("TermBenchModel", "gots", "[J", true)
  | 14 => ("TermBenchModel", "wanted", "[J", true)
  | 15 => ("TermBenchModel", "marked", "[I", true)
  | 16 => ("TermBenchModel", "spelled", "Z", false)
  | 17 => ("TermBenchModel", "length", "I", false)
  | 18 => ("TermBenchModel", "letters", "[I", true)
  | 19 => ("TermBenchModel", "owner", "[I", true)
  | 20 => ("TermBenchModel", "begins", "[I", true)
  | 21 => ("TermBenchModel", "inside", "[I", true)
  | 22 => ("TermBenchModel", "passed", "[I", true)
  | 23 => ("TermBenchModel", "left", "[I", true)
  | 24 => ("TermBenchModel", "units", "I", false)
  | 25 => ("TermBenchModel", "number", "I", false)
  | 26 => ("TermBenchModel", "running", "I", false)
  | 27 => ("TermBenchModel", "term", "[I", true)
  | 28 => ("TermBenchModel", "stage", "[I", true)
  | 29 => ("TermBenchModel", "names", "[I", true)
  | 30 => ("TermBenchModel", "firstSort", "[I", true)
  | 31 => ("TermBenchModel", "firstNumber", "[I", true)
  | 32 => ("TermBenchModel", "firstNames", "[I", true)
  | 33 => ("TermBenchModel", "sort", "I", false)
  | 34 => ("TermBenchModel", "worth", "I", false)
  | 35 => ("TermBenchModel", "around", "I", false)
  | 36 => ("TermBenchModel", "bound", "I", false)
  | 37 => ("TermBenchModel", "boundName", "[I", true)
  | 38 => ("TermBenchModel", "boundSort", "[I", true)
  | 39 => ("TermBenchModel", "boundNumber", "[I", true)
  | 40 => ("TermBenchModel", "boundNames", "[I", true)
  | _ => ("TermBenchModel", "before", "[I", true)
def tyMo : Nat → FieldType := fun k => match k with
  | 0 => .int
  | 1 => .int
  | 2 => .array .int
  | 3 => .array .int
  | 4 => .array .long
  | 5 => .int
  | 6 => .int
  | 7 => .array .int
  | 8 => .array .int
  | 9 => .array .int
  | 10 => .array .int
  | 11 => .array .long
  | 12 => .boolean
  | 13 => .array .long
  | 14 => .array .long
  | 15 => .array .int
  | 16 => .boolean
  | 17 => .int
  | 18 => .array .int
  | 19 => .array .int
  | 20 => .array .int
  | 21 => .array .int
  | 22 => .array .int
  | 23 => .array .int
  | 24 => .int
  | 25 => .int
  | 26 => .int
  | 27 => .array .int
  | 28 => .array .int
  | 29 => .array .int
  | 30 => .array .int
  | 31 => .array .int
  | 32 => .array .int
  | 33 => .int
  | 34 => .int
  | 35 => .int
  | 36 => .int
  | 37 => .array .int
  | 38 => .array .int
  | 39 => .array .int
  | 40 => .array .int
  | _ => .array .int
theorem nmMo : ∀ a, a < 42 → ∀ b, b < 42 → a ≠ b → (TMo a).2.1 ≠ (TMo b).2.1 := by decide +kernel
theorem tyMo_ok : ∀ k, k < 42 → parseFieldDescriptor (TMo k).2.2.1 = some (tyMo k) := by decide +kernel
abbrev vwCl : List vw_C := [("TermBench$History", THi, 5), ("TermBench$Machine", TMa, 6), ("TermBench$Page", TPa, 5), ("TermBench$Program", TPr, 6), ("TermBench$Typing", TTg, 4), ("TermBench", TBe, 4), ("TermBenchModel", TMo, 42)]
abbrev cBe_init : ByteArray := prog_1_method_1_code
def yBe_init : MethodName := ⟨"TermBench", "<init>", "()V"⟩
abbrev cHi_init : ByteArray := prog_2_method_1_code
def yHi_init : MethodName := ⟨"TermBench$History", "<init>", "()V"⟩
abbrev cPr_init : ByteArray := prog_5_method_1_code
def yPr_init : MethodName := ⟨"TermBench$Program", "<init>", "()V"⟩
abbrev cTg_init : ByteArray := prog_7_method_1_code
def yTg_init : MethodName := ⟨"TermBench$Typing", "<init>", "()V"⟩
abbrev cPa_init : ByteArray := prog_4_method_1_code
def yPa_init : MethodName := ⟨"TermBench$Page", "<init>", "()V"⟩
abbrev cMa_init : ByteArray := prog_3_method_1_code
def yMa_init : MethodName := ⟨"TermBench$Machine", "<init>", "()V"⟩
abbrev cBe_number : ByteArray := prog_1_method_2_code
def yBe_number : MethodName := ⟨"TermBench", "number", "(I)Z"⟩
abbrev cBe_fillHole : ByteArray := prog_1_method_28_code
def yBe_fillHole : MethodName := ⟨"TermBench", "fillHole", "(II)Z"⟩
abbrev cHi_present : ByteArray := prog_2_method_2_code
def yHi_present : MethodName := ⟨"TermBench$History", "present", "()LTermBench$Program;"⟩
abbrev cPr_isOnHole : ByteArray := prog_5_method_3_code
def yPr_isOnHole : MethodName := ⟨"TermBench$Program", "isOnHole", "()Z"⟩
abbrev cHi_keep : ByteArray := prog_2_method_3_code
def yHi_keep : MethodName := ⟨"TermBench$History", "keep", "()LTermBench$Program;"⟩
abbrev cPr_copy : ByteArray := prog_5_method_2_code
def yPr_copy : MethodName := ⟨"TermBench$Program", "copy", "(LTermBench$Program;)V"⟩
abbrev cPr_fill : ByteArray := prog_5_method_9_code
def yPr_fill : MethodName := ⟨"TermBench$Program", "fill", "(II)V"⟩
abbrev cPr_write : ByteArray := prog_5_method_14_code
def yPr_write : MethodName := ⟨"TermBench$Program", "write", "(IIIJ)V"⟩
abbrev cBe_name : ByteArray := prog_1_method_3_code
def yBe_name : MethodName := ⟨"TermBench", "name", "(I)Z"⟩
abbrev cBe_isName : ByteArray := prog_1_method_27_code
def yBe_isName : MethodName := ⟨"TermBench", "isName", "(I)Z"⟩
abbrev cBe_sum : ByteArray := prog_1_method_4_code
def yBe_sum : MethodName := ⟨"TermBench", "sum", "(Z)Z"⟩
abbrev cBe_joinHole : ByteArray := prog_1_method_29_code
def yBe_joinHole : MethodName := ⟨"TermBench", "joinHole", "(IZ)Z"⟩
abbrev cPr_hasRoomAround : ByteArray := prog_5_method_8_code
def yPr_hasRoomAround : MethodName := ⟨"TermBench$Program", "hasRoomAround", "(I)Z"⟩
abbrev cPr_end : ByteArray := prog_5_method_4_code
def yPr_end : MethodName := ⟨"TermBench$Program", "end", "(I)I"⟩
abbrev cPr_join : ByteArray := prog_5_method_11_code
def yPr_join : MethodName := ⟨"TermBench$Program", "join", "(IZ)V"⟩
abbrev cPr_wrap : ByteArray := prog_5_method_10_code
def yPr_wrap : MethodName := ⟨"TermBench$Program", "wrap", "(IIJ)V"⟩
abbrev cPr_shiftLevels : ByteArray := prog_5_method_15_code
def yPr_shiftLevels : MethodName := ⟨"TermBench$Program", "shiftLevels", "(III)V"⟩
abbrev cPr_moveTail : ByteArray := prog_5_method_16_code
def yPr_moveTail : MethodName := ⟨"TermBench$Program", "moveTail", "(II)V"⟩
abbrev cBe_call : ByteArray := prog_1_method_5_code
def yBe_call : MethodName := ⟨"TermBench", "call", "(Z)Z"⟩
abbrev cBe_function : ByteArray := prog_1_method_6_code
def yBe_function : MethodName := ⟨"TermBench", "function", "(IJ)Z"⟩
abbrev cBe_wrapTyped : ByteArray := prog_1_method_30_code
def yBe_wrapTyped : MethodName := ⟨"TermBench", "wrapTyped", "(IIJ)Z"⟩
abbrev cTy_isType : ByteArray := prog_6_method_3_code
def yTy_isType : MethodName := ⟨"TermBench$Types", "isType", "(J)Z"⟩
abbrev cTy_symbols : ByteArray := prog_6_method_2_code
def yTy_symbols : MethodName := ⟨"TermBench$Types", "symbols", "(J)I"⟩
abbrev cBe_claim : ByteArray := prog_1_method_7_code
def yBe_claim : MethodName := ⟨"TermBench", "claim", "(J)Z"⟩
abbrev cBe_remove : ByteArray := prog_1_method_8_code
def yBe_remove : MethodName := ⟨"TermBench", "remove", "()Z"⟩
abbrev cPr_empty : ByteArray := prog_5_method_12_code
def yPr_empty : MethodName := ⟨"TermBench$Program", "empty", "()V"⟩
abbrev cBe_lift : ByteArray := prog_1_method_9_code
def yBe_lift : MethodName := ⟨"TermBench", "lift", "()Z"⟩
abbrev cPr_raise : ByteArray := prog_5_method_13_code
def yPr_raise : MethodName := ⟨"TermBench$Program", "raise", "()V"⟩
abbrev cPr_parent : ByteArray := prog_5_method_5_code
def yPr_parent : MethodName := ⟨"TermBench$Program", "parent", "(I)I"⟩
abbrev cBe_undo : ByteArray := prog_1_method_10_code
def yBe_undo : MethodName := ⟨"TermBench", "undo", "()Z"⟩
abbrev cHi_stepBack : ByteArray := prog_2_method_4_code
def yHi_stepBack : MethodName := ⟨"TermBench$History", "stepBack", "()Z"⟩
abbrev cBe_redo : ByteArray := prog_1_method_11_code
def yBe_redo : MethodName := ⟨"TermBench", "redo", "()Z"⟩
abbrev cHi_stepForth : ByteArray := prog_2_method_5_code
def yHi_stepForth : MethodName := ⟨"TermBench$History", "stepForth", "()Z"⟩
abbrev cBe_up : ByteArray := prog_1_method_12_code
def yBe_up : MethodName := ⟨"TermBench", "up", "()Z"⟩
abbrev cBe_moveTo : ByteArray := prog_1_method_31_code
def yBe_moveTo : MethodName := ⟨"TermBench", "moveTo", "(I)Z"⟩
abbrev cBe_down : ByteArray := prog_1_method_13_code
def yBe_down : MethodName := ⟨"TermBench", "down", "(I)Z"⟩
abbrev cPr_part : ByteArray := prog_5_method_6_code
def yPr_part : MethodName := ⟨"TermBench$Program", "part", "(II)I"⟩
abbrev cBe_hole : ByteArray := prog_1_method_14_code
def yBe_hole : MethodName := ⟨"TermBench", "hole", "()Z"⟩
abbrev cBe_written : ByteArray := prog_1_method_33_code
def yBe_written : MethodName := ⟨"TermBench", "written", "()LTermBench$Page;"⟩
abbrev cPa_clear : ByteArray := prog_4_method_2_code
def yPa_clear : MethodName := ⟨"TermBench$Page", "clear", "()V"⟩
abbrev cAr_fill : ByteArray := prog_12_method_101_code
def yAr_fill : MethodName := ⟨"java/util/Arrays", "fill", "([JJ)V"⟩
abbrev cPa_writeTerm : ByteArray := prog_4_method_6_code
def yPa_writeTerm : MethodName := ⟨"TermBench$Page", "writeTerm", "(LTermBench$Program;II)V"⟩
abbrev cPa_writeNumber : ByteArray := prog_4_method_9_code
def yPa_writeNumber : MethodName := ⟨"TermBench$Page", "writeNumber", "(I)V"⟩
abbrev cPa_writeSign : ByteArray := prog_4_method_11_code
def yPa_writeSign : MethodName := ⟨"TermBench$Page", "writeSign", "(I)V"⟩
abbrev cPa_writeName : ByteArray := prog_4_method_10_code
def yPa_writeName : MethodName := ⟨"TermBench$Page", "writeName", "(I)V"⟩
abbrev cPa_writeWithParts : ByteArray := prog_4_method_7_code
def yPa_writeWithParts : MethodName := ⟨"TermBench$Page", "writeWithParts", "(LTermBench$Program;II)V"⟩
abbrev cPa_writeType : ByteArray := prog_4_method_8_code
def yPa_writeType : MethodName := ⟨"TermBench$Page", "writeType", "(JI)V"⟩
abbrev cTy_isFrom : ByteArray := prog_6_method_4_code
def yTy_isFrom : MethodName := ⟨"TermBench$Types", "isFrom", "(J)Z"⟩
abbrev cTy_taken : ByteArray := prog_6_method_5_code
def yTy_taken : MethodName := ⟨"TermBench$Types", "taken", "(J)J"⟩
abbrev cTy_given : ByteArray := prog_6_method_6_code
def yTy_given : MethodName := ⟨"TermBench$Types", "given", "(J)J"⟩
abbrev cPa_nextHole : ByteArray := prog_4_method_4_code
def yPa_nextHole : MethodName := ⟨"TermBench$Page", "nextHole", "(LTermBench$Program;)I"⟩
abbrev cBe_click : ByteArray := prog_1_method_15_code
def yBe_click : MethodName := ⟨"TermBench", "click", "(I)Z"⟩
abbrev cPa_innermost : ByteArray := prog_4_method_5_code
def yPa_innermost : MethodName := ⟨"TermBench$Page", "innermost", "(LTermBench$Program;I)I"⟩
abbrev cBe_column : ByteArray := prog_1_method_16_code
def yBe_column : MethodName := ⟨"TermBench", "column", "()I"⟩
abbrev cBe_kind : ByteArray := prog_1_method_17_code
def yBe_kind : MethodName := ⟨"TermBench", "kind", "()I"⟩
abbrev cBe_mark : ByteArray := prog_1_method_18_code
def yBe_mark : MethodName := ⟨"TermBench", "mark", "()I"⟩
abbrev cBe_typed : ByteArray := prog_1_method_32_code
def yBe_typed : MethodName := ⟨"TermBench", "typed", "()LTermBench$Typing;"⟩
abbrev cTg_typeTerm : ByteArray := prog_7_method_3_code
def yTg_typeTerm : MethodName := ⟨"TermBench$Typing", "typeTerm", "(LTermBench$Program;IJI)J"⟩
abbrev cTg_typeByKind : ByteArray := prog_7_method_4_code
def yTg_typeByKind : MethodName := ⟨"TermBench$Typing", "typeByKind", "(LTermBench$Program;IJI)J"⟩
abbrev cTg_typeName : ByteArray := prog_7_method_5_code
def yTg_typeName : MethodName := ⟨"TermBench$Typing", "typeName", "(LTermBench$Program;I)J"⟩
abbrev cPr_binder : ByteArray := prog_5_method_7_code
def yPr_binder : MethodName := ⟨"TermBench$Program", "binder", "(I)I"⟩
abbrev cTg_typeCall : ByteArray := prog_7_method_6_code
def yTg_typeCall : MethodName := ⟨"TermBench$Typing", "typeCall", "(LTermBench$Program;II)J"⟩
abbrev cTg_typeFunction : ByteArray := prog_7_method_7_code
def yTg_typeFunction : MethodName := ⟨"TermBench$Typing", "typeFunction", "(LTermBench$Program;IJI)J"⟩
abbrev cTy_consistent : ByteArray := prog_6_method_8_code
def yTy_consistent : MethodName := ⟨"TermBench$Types", "consistent", "(JJI)Z"⟩
abbrev cTy_from : ByteArray := prog_6_method_7_code
def yTy_from : MethodName := ⟨"TermBench$Types", "from", "(JJ)J"⟩
abbrev cBe_got : ByteArray := prog_1_method_19_code
def yBe_got : MethodName := ⟨"TermBench", "got", "()J"⟩
abbrev cBe_expected : ByteArray := prog_1_method_20_code
def yBe_expected : MethodName := ⟨"TermBench", "expected", "()J"⟩
abbrev cBe_marks : ByteArray := prog_1_method_21_code
def yBe_marks : MethodName := ⟨"TermBench", "marks", "()I"⟩
abbrev cTg_countMarks : ByteArray := prog_7_method_2_code
def yTg_countMarks : MethodName := ⟨"TermBench$Typing", "countMarks", "(I)I"⟩
abbrev cBe_terms : ByteArray := prog_1_method_22_code
def yBe_terms : MethodName := ⟨"TermBench", "terms", "()I"⟩
abbrev cBe_text : ByteArray := prog_1_method_23_code
def yBe_text : MethodName := ⟨"TermBench", "text", "(I)J"⟩
abbrev cPa_eightOf : ByteArray := prog_4_method_3_code
def yPa_eightOf : MethodName := ⟨"TermBench$Page", "eightOf", "(I)J"⟩
abbrev cBe_run : ByteArray := prog_1_method_24_code
def yBe_run : MethodName := ⟨"TermBench", "run", "()I"⟩
abbrev cMa_start : ByteArray := prog_3_method_2_code
def yMa_start : MethodName := ⟨"TermBench$Machine", "start", "(LTermBench$Program;[I)I"⟩
abbrev cMa_runTerm : ByteArray := prog_3_method_6_code
def yMa_runTerm : MethodName := ⟨"TermBench$Machine", "runTerm", "(LTermBench$Program;[IIII)J"⟩
abbrev cMa_value : ByteArray := prog_3_method_3_code
def yMa_value : MethodName := ⟨"TermBench$Machine", "value", "(II)J"⟩
abbrev cMa_standsFor : ByteArray := prog_3_method_10_code
def yMa_standsFor : MethodName := ⟨"TermBench$Machine", "standsFor", "(II)J"⟩
abbrev cMa_runSum : ByteArray := prog_3_method_7_code
def yMa_runSum : MethodName := ⟨"TermBench$Machine", "runSum", "(LTermBench$Program;[IIII)J"⟩
abbrev cMa_outcome : ByteArray := prog_3_method_4_code
def yMa_outcome : MethodName := ⟨"TermBench$Machine", "outcome", "(J)I"⟩
abbrev cMa_content : ByteArray := prog_3_method_5_code
def yMa_content : MethodName := ⟨"TermBench$Machine", "content", "(J)I"⟩
abbrev cMa_runCall : ByteArray := prog_3_method_8_code
def yMa_runCall : MethodName := ⟨"TermBench$Machine", "runCall", "(LTermBench$Program;[IIII)J"⟩
abbrev cMa_bind : ByteArray := prog_3_method_9_code
def yMa_bind : MethodName := ⟨"TermBench$Machine", "bind", "(IJI)I"⟩
abbrev cBe_result : ByteArray := prog_1_method_25_code
def yBe_result : MethodName := ⟨"TermBench", "result", "()I"⟩
abbrev cBe_units : ByteArray := prog_1_method_26_code
def yBe_units : MethodName := ⟨"TermBench", "units", "()I"⟩
abbrev cMo_init : ByteArray := prog_9_method_1_code
def yMo_init : MethodName := ⟨"TermBenchModel", "<init>", "()V"⟩
abbrev cMo_undo : ByteArray := prog_9_method_24_code
def yMo_undo : MethodName := ⟨"TermBenchModel", "undo", "()Z"⟩
abbrev cMo_save : ByteArray := prog_9_method_19_code
def yMo_save : MethodName := ⟨"TermBenchModel", "save", "(I)V"⟩
abbrev cMo_bring : ByteArray := prog_9_method_20_code
def yMo_bring : MethodName := ⟨"TermBenchModel", "bring", "(I)V"⟩
abbrev cMo_redo : ByteArray := prog_9_method_25_code
def yMo_redo : MethodName := ⟨"TermBenchModel", "redo", "()Z"⟩
abbrev cMo_number : ByteArray := prog_9_method_26_code
def yMo_number : MethodName := ⟨"TermBenchModel", "number", "(I)Z"⟩
abbrev cMo_begin : ByteArray := prog_9_method_22_code
def yMo_begin : MethodName := ⟨"TermBenchModel", "begin", "()V"⟩
abbrev cMo_done : ByteArray := prog_9_method_23_code
def yMo_done : MethodName := ⟨"TermBenchModel", "done", "(I)Z"⟩
abbrev cMo_depth : ByteArray := prog_9_method_15_code
def yMo_depth : MethodName := ⟨"TermBenchModel", "depth", "(I)I"⟩
abbrev cMo_end : ByteArray := prog_9_method_12_code
def yMo_end : MethodName := ⟨"TermBenchModel", "end", "(I)I"⟩
abbrev cMo_parts : ByteArray := prog_9_method_11_code
def yMo_parts : MethodName := ⟨"TermBenchModel", "parts", "(I)I"⟩
abbrev cMo_move : ByteArray := prog_9_method_21_code
def yMo_move : MethodName := ⟨"TermBenchModel", "move", "(II)V"⟩
abbrev cMo_name : ByteArray := prog_9_method_27_code
def yMo_name : MethodName := ⟨"TermBenchModel", "name", "(I)Z"⟩
abbrev cMo_sum : ByteArray := prog_9_method_29_code
def yMo_sum : MethodName := ⟨"TermBenchModel", "sum", "(Z)Z"⟩
abbrev cMo_pair : ByteArray := prog_9_method_28_code
def yMo_pair : MethodName := ⟨"TermBenchModel", "pair", "(IZ)Z"⟩
abbrev cMo_insert : ByteArray := prog_9_method_17_code
def yMo_insert : MethodName := ⟨"TermBenchModel", "insert", "(IIIJ)V"⟩
abbrev cMo_shift : ByteArray := prog_9_method_16_code
def yMo_shift : MethodName := ⟨"TermBenchModel", "shift", "(II)V"⟩
abbrev cMo_call : ByteArray := prog_9_method_30_code
def yMo_call : MethodName := ⟨"TermBenchModel", "call", "(Z)Z"⟩
abbrev cMo_function : ByteArray := prog_9_method_31_code
def yMo_function : MethodName := ⟨"TermBenchModel", "function", "(IJ)Z"⟩
abbrev cMo_isType : ByteArray := prog_9_method_4_code
def yMo_isType : MethodName := ⟨"TermBenchModel", "isType", "(J)Z"⟩
abbrev cMo_behind : ByteArray := prog_9_method_3_code
def yMo_behind : MethodName := ⟨"TermBenchModel", "behind", "(JI)I"⟩
abbrev cMo_symbol : ByteArray := prog_9_method_2_code
def yMo_symbol : MethodName := ⟨"TermBenchModel", "symbol", "(JI)I"⟩
abbrev cMo_claim : ByteArray := prog_9_method_32_code
def yMo_claim : MethodName := ⟨"TermBenchModel", "claim", "(J)Z"⟩
abbrev cMo_remove : ByteArray := prog_9_method_33_code
def yMo_remove : MethodName := ⟨"TermBenchModel", "remove", "()Z"⟩
abbrev cMo_takeOut : ByteArray := prog_9_method_18_code
def yMo_takeOut : MethodName := ⟨"TermBenchModel", "takeOut", "(II)V"⟩
abbrev cMo_lift : ByteArray := prog_9_method_34_code
def yMo_lift : MethodName := ⟨"TermBenchModel", "lift", "()Z"⟩
abbrev cMo_above : ByteArray := prog_9_method_14_code
def yMo_above : MethodName := ⟨"TermBenchModel", "above", "(I)I"⟩
abbrev cMo_up : ByteArray := prog_9_method_35_code
def yMo_up : MethodName := ⟨"TermBenchModel", "up", "()Z"⟩
abbrev cMo_down : ByteArray := prog_9_method_36_code
def yMo_down : MethodName := ⟨"TermBenchModel", "down", "(I)Z"⟩
abbrev cMo_part : ByteArray := prog_9_method_13_code
def yMo_part : MethodName := ⟨"TermBenchModel", "part", "(II)I"⟩
abbrev cMo_hole : ByteArray := prog_9_method_37_code
def yMo_hole : MethodName := ⟨"TermBenchModel", "hole", "()Z"⟩
abbrev cMo_spell : ByteArray := prog_9_method_46_code
def yMo_spell : MethodName := ⟨"TermBenchModel", "spell", "()V"⟩
abbrev cMo_opens : ByteArray := prog_9_method_44_code
def yMo_opens : MethodName := ⟨"TermBenchModel", "opens", "(I)V"⟩
abbrev cMo_put : ByteArray := prog_9_method_41_code
def yMo_put : MethodName := ⟨"TermBenchModel", "put", "(II)V"⟩
abbrev cMo_putNumber : ByteArray := prog_9_method_43_code
def yMo_putNumber : MethodName := ⟨"TermBenchModel", "putNumber", "(II)V"⟩
abbrev cMo_putType : ByteArray := prog_9_method_42_code
def yMo_putType : MethodName := ⟨"TermBenchModel", "putType", "(JI)V"⟩
abbrev cMo_closes : ByteArray := prog_9_method_45_code
def yMo_closes : MethodName := ⟨"TermBenchModel", "closes", "(I)V"⟩
abbrev cMo_click : ByteArray := prog_9_method_38_code
def yMo_click : MethodName := ⟨"TermBenchModel", "click", "(I)Z"⟩
abbrev cMo_column : ByteArray := prog_9_method_39_code
def yMo_column : MethodName := ⟨"TermBenchModel", "column", "()I"⟩
abbrev cMo_kind : ByteArray := prog_9_method_40_code
def yMo_kind : MethodName := ⟨"TermBenchModel", "kind", "()I"⟩
abbrev cMo_text : ByteArray := prog_9_method_47_code
def yMo_text : MethodName := ⟨"TermBenchModel", "text", "(I)J"⟩
abbrev cMo_mark : ByteArray := prog_9_method_54_code
def yMo_mark : MethodName := ⟨"TermBenchModel", "mark", "()I"⟩
abbrev cMo_type : ByteArray := prog_9_method_53_code
def yMo_type : MethodName := ⟨"TermBenchModel", "type", "()V"⟩
abbrev cMo_wantedOf : ByteArray := prog_9_method_52_code
def yMo_wantedOf : MethodName := ⟨"TermBenchModel", "wantedOf", "(II)J"⟩
abbrev cMo_isFrom : ByteArray := prog_9_method_6_code
def yMo_isFrom : MethodName := ⟨"TermBenchModel", "isFrom", "(J)Z"⟩
abbrev cMo_secondOf : ByteArray := prog_9_method_8_code
def yMo_secondOf : MethodName := ⟨"TermBenchModel", "secondOf", "(J)J"⟩
abbrev cMo_cut : ByteArray := prog_9_method_5_code
def yMo_cut : MethodName := ⟨"TermBenchModel", "cut", "(JII)J"⟩
abbrev cMo_has : ByteArray := prog_9_method_48_code
def yMo_has : MethodName := ⟨"TermBenchModel", "has", "(I)J"⟩
abbrev cMo_firstOf : ByteArray := prog_9_method_7_code
def yMo_firstOf : MethodName := ⟨"TermBenchModel", "firstOf", "(J)J"⟩
abbrev cMo_gotOf : ByteArray := prog_9_method_50_code
def yMo_gotOf : MethodName := ⟨"TermBenchModel", "gotOf", "(I)J"⟩
abbrev cMo_binder : ByteArray := prog_9_method_49_code
def yMo_binder : MethodName := ⟨"TermBenchModel", "binder", "(I)I"⟩
abbrev cMo_from : ByteArray := prog_9_method_10_code
def yMo_from : MethodName := ⟨"TermBenchModel", "from", "(JJ)J"⟩
abbrev cMo_markOf : ByteArray := prog_9_method_51_code
def yMo_markOf : MethodName := ⟨"TermBenchModel", "markOf", "(I)I"⟩
abbrev cMo_consistent : ByteArray := prog_9_method_9_code
def yMo_consistent : MethodName := ⟨"TermBenchModel", "consistent", "(JJ)Z"⟩
abbrev cMo_got : ByteArray := prog_9_method_55_code
def yMo_got : MethodName := ⟨"TermBenchModel", "got", "()J"⟩
abbrev cMo_expected : ByteArray := prog_9_method_56_code
def yMo_expected : MethodName := ⟨"TermBenchModel", "expected", "()J"⟩
abbrev cMo_marks : ByteArray := prog_9_method_57_code
def yMo_marks : MethodName := ⟨"TermBenchModel", "marks", "()I"⟩
abbrev cMo_terms : ByteArray := prog_9_method_58_code
def yMo_terms : MethodName := ⟨"TermBenchModel", "terms", "()I"⟩
abbrev cMo_run : ByteArray := prog_9_method_66_code
def yMo_run : MethodName := ⟨"TermBenchModel", "run", "()I"⟩
abbrev cMo_enter : ByteArray := prog_9_method_59_code
def yMo_enter : MethodName := ⟨"TermBenchModel", "enter", "(II)Z"⟩
abbrev cMo_isDone : ByteArray := prog_9_method_63_code
def yMo_isDone : MethodName := ⟨"TermBenchModel", "isDone", "(I)Z"⟩
abbrev cMo_value : ByteArray := prog_9_method_60_code
def yMo_value : MethodName := ⟨"TermBenchModel", "value", "(III)V"⟩
abbrev cMo_lookUp : ByteArray := prog_9_method_61_code
def yMo_lookUp : MethodName := ⟨"TermBenchModel", "lookUp", "(II)V"⟩
abbrev cMo_second : ByteArray := prog_9_method_64_code
def yMo_second : MethodName := ⟨"TermBenchModel", "second", "(I)Z"⟩
abbrev cMo_bind : ByteArray := prog_9_method_62_code
def yMo_bind : MethodName := ⟨"TermBenchModel", "bind", "(I)I"⟩
abbrev cMo_add : ByteArray := prog_9_method_65_code
def yMo_add : MethodName := ⟨"TermBenchModel", "add", "(I)V"⟩
abbrev cMo_result : ByteArray := prog_9_method_67_code
def yMo_result : MethodName := ⟨"TermBenchModel", "result", "()I"⟩
abbrev cMo_units : ByteArray := prog_9_method_68_code
def yMo_units : MethodName := ⟨"TermBenchModel", "units", "()I"⟩
end
section
/-! the words of the tables -/
def qw : List Cond := lw_tbl.filter goodWord
theorem qw_good : ∀ w ∈ qw, ((w.onTables && w.keeps) = true ∨ ∃ ty, w = .arrayClass ty) := fun w hw => good_of_word (List.mem_filter.mp hw).2
theorem qm {w : Cond} {i : Nat} (h : tables_1[i]? = some w) (hg : goodWord w = true) : w ∈ qw := List.mem_filter.mpr ⟨List.mem_append_right _ (List.mem_of_getElem? h), hg⟩
theorem q_sel {y : MethodName} {n i : Nat} (h : lw_privs[i]? = some (y, n)) (hg : goodWord (Cond.selects y.cls y y) = true) : Cond.selects y.cls y y ∈ qw := List.mem_filter.mpr ⟨List.mem_append_left _ (List.mem_map.mpr ⟨(y, n), List.mem_of_getElem? h, rfl⟩), hg⟩
theorem q_lays {C : String} {T : u_T} {N : Nat} (h : (u_ws C T N).all (fun w => decide (w ∈ tables_1) && goodWord w) = true) : ∀ w ∈ u_ws C T N, w ∈ qw := by
  intro w hw
  have h1 := List.all_eq_true.mp h w hw
  rw [Bool.and_eq_true] at h1
  exact List.mem_filter.mpr ⟨List.mem_append_right _ (of_decide_eq_true h1.1), h1.2⟩
theorem qinHi : ∀ w ∈ u_ws "TermBench$History" THi 5, w ∈ qw := q_lays (by decide +kernel)
theorem qinMa : ∀ w ∈ u_ws "TermBench$Machine" TMa 6, w ∈ qw := q_lays (by decide +kernel)
theorem qinPa : ∀ w ∈ u_ws "TermBench$Page" TPa 5, w ∈ qw := q_lays (by decide +kernel)
theorem qinPr : ∀ w ∈ u_ws "TermBench$Program" TPr 6, w ∈ qw := q_lays (by decide +kernel)
theorem qinTg : ∀ w ∈ u_ws "TermBench$Typing" TTg 4, w ∈ qw := q_lays (by decide +kernel)
theorem qinBe : ∀ w ∈ u_ws "TermBench" TBe 4, w ∈ qw := q_lays (by decide +kernel)
theorem qinMo : ∀ w ∈ u_ws "TermBenchModel" TMo 42, w ∈ qw := q_lays (by decide +kernel)
theorem t_1 : (Jvm.Cond.initialized "TermBench") ∈ qw := qm (i := 1) (by decide +kernel) (by decide +kernel)
theorem t_2 : (Jvm.Cond.initialized "TermBench$History") ∈ qw := qm (i := 2) (by decide +kernel) (by decide +kernel)
theorem t_3 : (Jvm.Cond.initialized "TermBench$Program") ∈ qw := qm (i := 3) (by decide +kernel) (by decide +kernel)
theorem t_4 : (Jvm.Cond.initialized "TermBench$Typing") ∈ qw := qm (i := 4) (by decide +kernel) (by decide +kernel)
theorem t_5 : (Jvm.Cond.initialized "TermBench$Page") ∈ qw := qm (i := 5) (by decide +kernel) (by decide +kernel)
theorem t_6 : (Jvm.Cond.initialized "TermBench$Machine") ∈ qw := qm (i := 6) (by decide +kernel) (by decide +kernel)
theorem t_7 : (Jvm.Cond.initialized "TermBenchModel") ∈ qw := qm (i := 7) (by decide +kernel) (by decide +kernel)
theorem t_8 : (Jvm.Cond.initialized "java/lang/Math") ∈ qw := qm (i := 8) (by decide +kernel) (by decide +kernel)
theorem t_9 : (Jvm.Cond.initialized "java/lang/System") ∈ qw := qm (i := 9) (by decide +kernel) (by decide +kernel)
theorem t_10 : (Jvm.Cond.initialized "TermBench$Types") ∈ qw := qm (i := 10) (by decide +kernel) (by decide +kernel)
theorem t_11 : (Jvm.Cond.initialized "java/util/Arrays") ∈ qw := qm (i := 11) (by decide +kernel) (by decide +kernel)
theorem t_33 : (Jvm.Cond.fieldLink "TermBench$Program" (9 : Nat) "TermBench$Program" "kinds" "[I") ∈ qw := qm (i := 33) (by decide +kernel) (by decide +kernel)
theorem t_34 : (Jvm.Cond.fieldLink "TermBench$Typing" (36 : Nat) "TermBench$Program" "kinds" "[I") ∈ qw := qm (i := 34) (by decide +kernel) (by decide +kernel)
theorem t_35 : (Jvm.Cond.fieldLink "TermBench$Page" (40 : Nat) "TermBench$Program" "kinds" "[I") ∈ qw := qm (i := 35) (by decide +kernel) (by decide +kernel)
theorem t_36 : (Jvm.Cond.fieldLink "TermBench$Machine" (47 : Nat) "TermBench$Program" "kinds" "[I") ∈ qw := qm (i := 36) (by decide +kernel) (by decide +kernel)
theorem t_37 : (Jvm.Cond.fieldLink "TermBench" (109 : Nat) "TermBench$Program" "kinds" "[I") ∈ qw := qm (i := 37) (by decide +kernel) (by decide +kernel)
theorem t_38 : (Jvm.Cond.fieldLink "TermBench$Program" (15 : Nat) "TermBench$Program" "figures" "[I") ∈ qw := qm (i := 38) (by decide +kernel) (by decide +kernel)
theorem t_39 : (Jvm.Cond.fieldLink "TermBench$Page" (46 : Nat) "TermBench$Program" "figures" "[I") ∈ qw := qm (i := 39) (by decide +kernel) (by decide +kernel)
theorem t_40 : (Jvm.Cond.fieldLink "TermBench$Machine" (52 : Nat) "TermBench$Program" "figures" "[I") ∈ qw := qm (i := 40) (by decide +kernel) (by decide +kernel)
theorem t_41 : (Jvm.Cond.fieldLink "TermBench$Program" (18 : Nat) "TermBench$Program" "types" "[J") ∈ qw := qm (i := 41) (by decide +kernel) (by decide +kernel)
theorem t_42 : (Jvm.Cond.fieldLink "TermBench$Typing" (61 : Nat) "TermBench$Program" "types" "[J") ∈ qw := qm (i := 42) (by decide +kernel) (by decide +kernel)
theorem t_43 : (Jvm.Cond.fieldLink "TermBench$Page" (70 : Nat) "TermBench$Program" "types" "[J") ∈ qw := qm (i := 43) (by decide +kernel) (by decide +kernel)
theorem t_44 : (Jvm.Cond.fieldLink "TermBench$Program" (22 : Nat) "TermBench$Program" "levels" "[I") ∈ qw := qm (i := 44) (by decide +kernel) (by decide +kernel)
theorem t_45 : (Jvm.Cond.fieldLink "TermBench$Program" (25 : Nat) "TermBench$Program" "size" "I") ∈ qw := qm (i := 45) (by decide +kernel) (by decide +kernel)
theorem t_46 : (Jvm.Cond.fieldLink "TermBench$Page" (35 : Nat) "TermBench$Program" "size" "I") ∈ qw := qm (i := 46) (by decide +kernel) (by decide +kernel)
theorem t_47 : (Jvm.Cond.fieldLink "TermBench" (126 : Nat) "TermBench$Program" "size" "I") ∈ qw := qm (i := 47) (by decide +kernel) (by decide +kernel)
theorem t_48 : (Jvm.Cond.fieldLink "TermBench$Program" (29 : Nat) "TermBench$Program" "cursor" "I") ∈ qw := qm (i := 48) (by decide +kernel) (by decide +kernel)
theorem t_49 : (Jvm.Cond.fieldLink "TermBench$Page" (43 : Nat) "TermBench$Program" "cursor" "I") ∈ qw := qm (i := 49) (by decide +kernel) (by decide +kernel)
theorem t_50 : (Jvm.Cond.fieldLink "TermBench" (69 : Nat) "TermBench$Program" "cursor" "I") ∈ qw := qm (i := 50) (by decide +kernel) (by decide +kernel)
theorem t_66 : (Jvm.Cond.fieldLink "TermBench$History" (13 : Nat) "TermBench$History" "ring" "[LTermBench$Program;") ∈ qw := qm (i := 66) (by decide +kernel) (by decide +kernel)
theorem t_67 : (Jvm.Cond.fieldLink "TermBench$History" (17 : Nat) "TermBench$History" "place" "I") ∈ qw := qm (i := 67) (by decide +kernel) (by decide +kernel)
theorem t_68 : (Jvm.Cond.fieldLink "TermBench$History" (21 : Nat) "TermBench$History" "kept" "I") ∈ qw := qm (i := 68) (by decide +kernel) (by decide +kernel)
theorem t_69 : (Jvm.Cond.fieldLink "TermBench$History" (24 : Nat) "TermBench$History" "putBy" "I") ∈ qw := qm (i := 69) (by decide +kernel) (by decide +kernel)
theorem t_70 : (Jvm.Cond.fieldLink "TermBench$History" (27 : Nat) "TermBench$History" "change" "I") ∈ qw := qm (i := 70) (by decide +kernel) (by decide +kernel)
theorem t_71 : (Jvm.Cond.fieldLink "TermBench" (170 : Nat) "TermBench$History" "change" "I") ∈ qw := qm (i := 71) (by decide +kernel) (by decide +kernel)
theorem t_89 : (Jvm.Cond.fieldLink "TermBench$Typing" (9 : Nat) "TermBench$Typing" "gotTypes" "[J") ∈ qw := qm (i := 89) (by decide +kernel) (by decide +kernel)
theorem t_90 : (Jvm.Cond.fieldLink "TermBench" (119 : Nat) "TermBench$Typing" "gotTypes" "[J") ∈ qw := qm (i := 90) (by decide +kernel) (by decide +kernel)
theorem t_91 : (Jvm.Cond.fieldLink "TermBench$Typing" (15 : Nat) "TermBench$Typing" "expectedTypes" "[J") ∈ qw := qm (i := 91) (by decide +kernel) (by decide +kernel)
theorem t_92 : (Jvm.Cond.fieldLink "TermBench" (123 : Nat) "TermBench$Typing" "expectedTypes" "[J") ∈ qw := qm (i := 92) (by decide +kernel) (by decide +kernel)
theorem t_93 : (Jvm.Cond.fieldLink "TermBench$Typing" (18 : Nat) "TermBench$Typing" "marks" "[I") ∈ qw := qm (i := 93) (by decide +kernel) (by decide +kernel)
theorem t_94 : (Jvm.Cond.fieldLink "TermBench" (116 : Nat) "TermBench$Typing" "marks" "[I") ∈ qw := qm (i := 94) (by decide +kernel) (by decide +kernel)
theorem t_96 : (Jvm.Cond.fieldLink "TermBench" (167 : Nat) "TermBench$Typing" "change" "I") ∈ qw := qm (i := 96) (by decide +kernel) (by decide +kernel)
theorem t_112 : (Jvm.Cond.fieldLink "TermBench$Page" (11 : Nat) "TermBench$Page" "words" "[J") ∈ qw := qm (i := 112) (by decide +kernel) (by decide +kernel)
theorem t_113 : (Jvm.Cond.fieldLink "TermBench$Page" (15 : Nat) "TermBench$Page" "begins" "[I") ∈ qw := qm (i := 113) (by decide +kernel) (by decide +kernel)
theorem t_114 : (Jvm.Cond.fieldLink "TermBench" (105 : Nat) "TermBench$Page" "begins" "[I") ∈ qw := qm (i := 114) (by decide +kernel) (by decide +kernel)
theorem t_115 : (Jvm.Cond.fieldLink "TermBench$Page" (19 : Nat) "TermBench$Page" "ends" "[I") ∈ qw := qm (i := 115) (by decide +kernel) (by decide +kernel)
theorem t_116 : (Jvm.Cond.fieldLink "TermBench$Page" (22 : Nat) "TermBench$Page" "length" "I") ∈ qw := qm (i := 116) (by decide +kernel) (by decide +kernel)
theorem t_118 : (Jvm.Cond.fieldLink "TermBench" (175 : Nat) "TermBench$Page" "change" "I") ∈ qw := qm (i := 118) (by decide +kernel) (by decide +kernel)
theorem t_136 : (Jvm.Cond.fieldLink "TermBench$Machine" (11 : Nat) "TermBench$Machine" "boundNames" "[I") ∈ qw := qm (i := 136) (by decide +kernel) (by decide +kernel)
theorem t_137 : (Jvm.Cond.fieldLink "TermBench$Machine" (15 : Nat) "TermBench$Machine" "boundValues" "[J") ∈ qw := qm (i := 137) (by decide +kernel) (by decide +kernel)
theorem t_138 : (Jvm.Cond.fieldLink "TermBench$Machine" (19 : Nat) "TermBench$Machine" "outerScopes" "[I") ∈ qw := qm (i := 138) (by decide +kernel) (by decide +kernel)
theorem t_139 : (Jvm.Cond.fieldLink "TermBench$Machine" (22 : Nat) "TermBench$Machine" "bound" "I") ∈ qw := qm (i := 139) (by decide +kernel) (by decide +kernel)
theorem t_140 : (Jvm.Cond.fieldLink "TermBench$Machine" (26 : Nat) "TermBench$Machine" "units" "I") ∈ qw := qm (i := 140) (by decide +kernel) (by decide +kernel)
theorem t_141 : (Jvm.Cond.fieldLink "TermBench" (143 : Nat) "TermBench$Machine" "units" "I") ∈ qw := qm (i := 141) (by decide +kernel) (by decide +kernel)
theorem t_142 : (Jvm.Cond.fieldLink "TermBench$Machine" (29 : Nat) "TermBench$Machine" "number" "I") ∈ qw := qm (i := 142) (by decide +kernel) (by decide +kernel)
theorem t_143 : (Jvm.Cond.fieldLink "TermBench" (140 : Nat) "TermBench$Machine" "number" "I") ∈ qw := qm (i := 143) (by decide +kernel) (by decide +kernel)
theorem t_157 : (Jvm.Cond.fieldLink "TermBench" (10 : Nat) "TermBench" "history" "LTermBench$History;") ∈ qw := qm (i := 157) (by decide +kernel) (by decide +kernel)
theorem t_158 : (Jvm.Cond.fieldLink "TermBench" (19 : Nat) "TermBench" "typing" "LTermBench$Typing;") ∈ qw := qm (i := 158) (by decide +kernel) (by decide +kernel)
theorem t_159 : (Jvm.Cond.fieldLink "TermBench" (26 : Nat) "TermBench" "page" "LTermBench$Page;") ∈ qw := qm (i := 159) (by decide +kernel) (by decide +kernel)
theorem t_160 : (Jvm.Cond.fieldLink "TermBench" (33 : Nat) "TermBench" "machine" "LTermBench$Machine;") ∈ qw := qm (i := 160) (by decide +kernel) (by decide +kernel)
theorem t_171 : (Jvm.Cond.instanceMethod ({ cls := "TermBench", name := "number", desc := "(I)Z" } : Jvm.MethodName)) ∈ qw := qm (i := 171) (by decide +kernel) (by decide +kernel)
theorem t_172 : (Jvm.Cond.selects "TermBench" ({ cls := "TermBench", name := "number", desc := "(I)Z" } : Jvm.MethodName) ({ cls := "TermBench", name := "number", desc := "(I)Z" } : Jvm.MethodName)) ∈ qw := qm (i := 172) (by decide +kernel) (by decide +kernel)
theorem t_173 : (Jvm.Cond.code ({ cls := "TermBench", name := "number", desc := "(I)Z" } : Jvm.MethodName) prog_1_method_2_code (2 : Nat) (Option.some Jvm.ClassFile.FieldType.boolean)) ∈ qw := qm (i := 173) (by decide +kernel) (by decide +kernel)
theorem t_174 : (Jvm.Cond.methodLink "TermBench" (37 : Nat) ({ cls := "TermBench", name := "fillHole", desc := "(II)Z" } : Jvm.MethodName)) ∈ qw := qm (i := 174) (by decide +kernel) (by decide +kernel)
theorem t_176 : (Jvm.Cond.instanceMethod ({ cls := "TermBench", name := "fillHole", desc := "(II)Z" } : Jvm.MethodName)) ∈ qw := qm (i := 176) (by decide +kernel) (by decide +kernel)
theorem t_177 : (Jvm.Cond.code ({ cls := "TermBench", name := "fillHole", desc := "(II)Z" } : Jvm.MethodName) prog_1_method_28_code (3 : Nat) (Option.some Jvm.ClassFile.FieldType.boolean)) ∈ qw := qm (i := 177) (by decide +kernel) (by decide +kernel)
theorem t_178 : (Jvm.Cond.methodLink "TermBench" (53 : Nat) ({ cls := "TermBench$History", name := "present", desc := "()LTermBench$Program;" } : Jvm.MethodName)) ∈ qw := qm (i := 178) (by decide +kernel) (by decide +kernel)
theorem t_179 : (Jvm.Cond.instanceMethod ({ cls := "TermBench$History", name := "present", desc := "()LTermBench$Program;" } : Jvm.MethodName)) ∈ qw := qm (i := 179) (by decide +kernel) (by decide +kernel)
theorem t_180 : (Jvm.Cond.selects "TermBench$History" ({ cls := "TermBench$History", name := "present", desc := "()LTermBench$Program;" } : Jvm.MethodName) ({ cls := "TermBench$History", name := "present", desc := "()LTermBench$Program;" } : Jvm.MethodName)) ∈ qw := qm (i := 180) (by decide +kernel) (by decide +kernel)
theorem t_181 : (Jvm.Cond.code ({ cls := "TermBench$History", name := "present", desc := "()LTermBench$Program;" } : Jvm.MethodName) prog_2_method_2_code (1 : Nat) (Option.some (Jvm.ClassFile.FieldType.object "TermBench$Program"))) ∈ qw := qm (i := 181) (by decide +kernel) (by decide +kernel)
theorem t_182 : (Jvm.Cond.methodLink "TermBench" (57 : Nat) ({ cls := "TermBench$Program", name := "isOnHole", desc := "()Z" } : Jvm.MethodName)) ∈ qw := qm (i := 182) (by decide +kernel) (by decide +kernel)
theorem t_183 : (Jvm.Cond.instanceMethod ({ cls := "TermBench$Program", name := "isOnHole", desc := "()Z" } : Jvm.MethodName)) ∈ qw := qm (i := 183) (by decide +kernel) (by decide +kernel)
theorem t_184 : (Jvm.Cond.selects "TermBench$Program" ({ cls := "TermBench$Program", name := "isOnHole", desc := "()Z" } : Jvm.MethodName) ({ cls := "TermBench$Program", name := "isOnHole", desc := "()Z" } : Jvm.MethodName)) ∈ qw := qm (i := 184) (by decide +kernel) (by decide +kernel)
theorem t_185 : (Jvm.Cond.code ({ cls := "TermBench$Program", name := "isOnHole", desc := "()Z" } : Jvm.MethodName) prog_5_method_3_code (1 : Nat) (Option.some Jvm.ClassFile.FieldType.boolean)) ∈ qw := qm (i := 185) (by decide +kernel) (by decide +kernel)
theorem t_186 : (Jvm.Cond.methodLink "TermBench" (63 : Nat) ({ cls := "TermBench$History", name := "keep", desc := "()LTermBench$Program;" } : Jvm.MethodName)) ∈ qw := qm (i := 186) (by decide +kernel) (by decide +kernel)
theorem t_187 : (Jvm.Cond.instanceMethod ({ cls := "TermBench$History", name := "keep", desc := "()LTermBench$Program;" } : Jvm.MethodName)) ∈ qw := qm (i := 187) (by decide +kernel) (by decide +kernel)
theorem t_188 : (Jvm.Cond.selects "TermBench$History" ({ cls := "TermBench$History", name := "keep", desc := "()LTermBench$Program;" } : Jvm.MethodName) ({ cls := "TermBench$History", name := "keep", desc := "()LTermBench$Program;" } : Jvm.MethodName)) ∈ qw := qm (i := 188) (by decide +kernel) (by decide +kernel)
theorem t_189 : (Jvm.Cond.code ({ cls := "TermBench$History", name := "keep", desc := "()LTermBench$Program;" } : Jvm.MethodName) prog_2_method_3_code (2 : Nat) (Option.some (Jvm.ClassFile.FieldType.object "TermBench$Program"))) ∈ qw := qm (i := 189) (by decide +kernel) (by decide +kernel)
theorem t_190 : (Jvm.Cond.methodLink "TermBench$History" (31 : Nat) ({ cls := "TermBench$History", name := "present", desc := "()LTermBench$Program;" } : Jvm.MethodName)) ∈ qw := qm (i := 190) (by decide +kernel) (by decide +kernel)
theorem t_191 : (Jvm.Cond.methodLink "TermBench$History" (35 : Nat) ({ cls := "java/lang/Math", name := "min", desc := "(II)I" } : Jvm.MethodName)) ∈ qw := qm (i := 191) (by decide +kernel) (by decide +kernel)
theorem t_192 : (Jvm.Cond.static ({ cls := "java/lang/Math", name := "min", desc := "(II)I" } : Jvm.MethodName)) ∈ qw := qm (i := 192) (by decide +kernel) (by decide +kernel)
theorem t_193 : (Jvm.Cond.code ({ cls := "java/lang/Math", name := "min", desc := "(II)I" } : Jvm.MethodName) prog_10_method_69_code (2 : Nat) (Option.some Jvm.ClassFile.FieldType.int)) ∈ qw := qm (i := 193) (by decide +kernel) (by decide +kernel)
theorem t_194 : (Jvm.Cond.methodLink "TermBench$History" (41 : Nat) ({ cls := "TermBench$Program", name := "copy", desc := "(LTermBench$Program;)V" } : Jvm.MethodName)) ∈ qw := qm (i := 194) (by decide +kernel) (by decide +kernel)
theorem t_195 : (Jvm.Cond.instanceMethod ({ cls := "TermBench$Program", name := "copy", desc := "(LTermBench$Program;)V" } : Jvm.MethodName)) ∈ qw := qm (i := 195) (by decide +kernel) (by decide +kernel)
theorem t_196 : (Jvm.Cond.selects "TermBench$Program" ({ cls := "TermBench$Program", name := "copy", desc := "(LTermBench$Program;)V" } : Jvm.MethodName) ({ cls := "TermBench$Program", name := "copy", desc := "(LTermBench$Program;)V" } : Jvm.MethodName)) ∈ qw := qm (i := 196) (by decide +kernel) (by decide +kernel)
theorem t_197 : (Jvm.Cond.code ({ cls := "TermBench$Program", name := "copy", desc := "(LTermBench$Program;)V" } : Jvm.MethodName) prog_5_method_2_code (2 : Nat) (Option.none : Option Jvm.ClassFile.FieldType)) ∈ qw := qm (i := 197) (by decide +kernel) (by decide +kernel)
theorem t_198 : (Jvm.Cond.methodLink "TermBench$Program" (32 : Nat) ({ cls := "java/lang/System", name := "arraycopy", desc := "(Ljava/lang/Object;ILjava/lang/Object;II)V" } : Jvm.MethodName)) ∈ qw := qm (i := 198) (by decide +kernel) (by decide +kernel)
theorem t_199 : (Jvm.Cond.static ({ cls := "java/lang/System", name := "arraycopy", desc := "(Ljava/lang/Object;ILjava/lang/Object;II)V" } : Jvm.MethodName)) ∈ qw := qm (i := 199) (by decide +kernel) (by decide +kernel)
theorem t_200 : (Jvm.Cond.native ({ cls := "java/lang/System", name := "arraycopy", desc := "(Ljava/lang/Object;ILjava/lang/Object;II)V" } : Jvm.MethodName)) ∈ qw := qm (i := 200) (by decide +kernel) (by decide +kernel)
theorem t_201 : (Jvm.Cond.methodLink "TermBench" (146 : Nat) ({ cls := "TermBench$Program", name := "fill", desc := "(II)V" } : Jvm.MethodName)) ∈ qw := qm (i := 201) (by decide +kernel) (by decide +kernel)
theorem t_202 : (Jvm.Cond.instanceMethod ({ cls := "TermBench$Program", name := "fill", desc := "(II)V" } : Jvm.MethodName)) ∈ qw := qm (i := 202) (by decide +kernel) (by decide +kernel)
theorem t_203 : (Jvm.Cond.selects "TermBench$Program" ({ cls := "TermBench$Program", name := "fill", desc := "(II)V" } : Jvm.MethodName) ({ cls := "TermBench$Program", name := "fill", desc := "(II)V" } : Jvm.MethodName)) ∈ qw := qm (i := 203) (by decide +kernel) (by decide +kernel)
theorem t_204 : (Jvm.Cond.code ({ cls := "TermBench$Program", name := "fill", desc := "(II)V" } : Jvm.MethodName) prog_5_method_9_code (3 : Nat) (Option.none : Option Jvm.ClassFile.FieldType)) ∈ qw := qm (i := 204) (by decide +kernel) (by decide +kernel)
theorem t_205 : (Jvm.Cond.methodLink "TermBench$Program" (48 : Nat) ({ cls := "TermBench$Program", name := "write", desc := "(IIIJ)V" } : Jvm.MethodName)) ∈ qw := qm (i := 205) (by decide +kernel) (by decide +kernel)
theorem t_207 : (Jvm.Cond.instanceMethod ({ cls := "TermBench$Program", name := "write", desc := "(IIIJ)V" } : Jvm.MethodName)) ∈ qw := qm (i := 207) (by decide +kernel) (by decide +kernel)
theorem t_208 : (Jvm.Cond.code ({ cls := "TermBench$Program", name := "write", desc := "(IIIJ)V" } : Jvm.MethodName) prog_5_method_14_code (6 : Nat) (Option.none : Option Jvm.ClassFile.FieldType)) ∈ qw := qm (i := 208) (by decide +kernel) (by decide +kernel)
theorem t_210 : (Jvm.Cond.instanceMethod ({ cls := "TermBench", name := "name", desc := "(I)Z" } : Jvm.MethodName)) ∈ qw := qm (i := 210) (by decide +kernel) (by decide +kernel)
theorem t_211 : (Jvm.Cond.selects "TermBench" ({ cls := "TermBench", name := "name", desc := "(I)Z" } : Jvm.MethodName) ({ cls := "TermBench", name := "name", desc := "(I)Z" } : Jvm.MethodName)) ∈ qw := qm (i := 211) (by decide +kernel) (by decide +kernel)
theorem t_212 : (Jvm.Cond.code ({ cls := "TermBench", name := "name", desc := "(I)Z" } : Jvm.MethodName) prog_1_method_3_code (2 : Nat) (Option.some Jvm.ClassFile.FieldType.boolean)) ∈ qw := qm (i := 212) (by decide +kernel) (by decide +kernel)
theorem t_213 : (Jvm.Cond.methodLink "TermBench" (41 : Nat) ({ cls := "TermBench", name := "isName", desc := "(I)Z" } : Jvm.MethodName)) ∈ qw := qm (i := 213) (by decide +kernel) (by decide +kernel)
theorem t_214 : (Jvm.Cond.static ({ cls := "TermBench", name := "isName", desc := "(I)Z" } : Jvm.MethodName)) ∈ qw := qm (i := 214) (by decide +kernel) (by decide +kernel)
theorem t_215 : (Jvm.Cond.code ({ cls := "TermBench", name := "isName", desc := "(I)Z" } : Jvm.MethodName) prog_1_method_27_code (1 : Nat) (Option.some Jvm.ClassFile.FieldType.boolean)) ∈ qw := qm (i := 215) (by decide +kernel) (by decide +kernel)
theorem t_217 : (Jvm.Cond.instanceMethod ({ cls := "TermBench", name := "sum", desc := "(Z)Z" } : Jvm.MethodName)) ∈ qw := qm (i := 217) (by decide +kernel) (by decide +kernel)
theorem t_218 : (Jvm.Cond.selects "TermBench" ({ cls := "TermBench", name := "sum", desc := "(Z)Z" } : Jvm.MethodName) ({ cls := "TermBench", name := "sum", desc := "(Z)Z" } : Jvm.MethodName)) ∈ qw := qm (i := 218) (by decide +kernel) (by decide +kernel)
theorem t_219 : (Jvm.Cond.code ({ cls := "TermBench", name := "sum", desc := "(Z)Z" } : Jvm.MethodName) prog_1_method_4_code (2 : Nat) (Option.some Jvm.ClassFile.FieldType.boolean)) ∈ qw := qm (i := 219) (by decide +kernel) (by decide +kernel)
theorem t_220 : (Jvm.Cond.methodLink "TermBench" (45 : Nat) ({ cls := "TermBench", name := "joinHole", desc := "(IZ)Z" } : Jvm.MethodName)) ∈ qw := qm (i := 220) (by decide +kernel) (by decide +kernel)
theorem t_222 : (Jvm.Cond.instanceMethod ({ cls := "TermBench", name := "joinHole", desc := "(IZ)Z" } : Jvm.MethodName)) ∈ qw := qm (i := 222) (by decide +kernel) (by decide +kernel)
theorem t_223 : (Jvm.Cond.code ({ cls := "TermBench", name := "joinHole", desc := "(IZ)Z" } : Jvm.MethodName) prog_1_method_29_code (3 : Nat) (Option.some Jvm.ClassFile.FieldType.boolean)) ∈ qw := qm (i := 223) (by decide +kernel) (by decide +kernel)
theorem t_224 : (Jvm.Cond.methodLink "TermBench" (150 : Nat) ({ cls := "TermBench$Program", name := "hasRoomAround", desc := "(I)Z" } : Jvm.MethodName)) ∈ qw := qm (i := 224) (by decide +kernel) (by decide +kernel)
theorem t_225 : (Jvm.Cond.instanceMethod ({ cls := "TermBench$Program", name := "hasRoomAround", desc := "(I)Z" } : Jvm.MethodName)) ∈ qw := qm (i := 225) (by decide +kernel) (by decide +kernel)
theorem t_226 : (Jvm.Cond.selects "TermBench$Program" ({ cls := "TermBench$Program", name := "hasRoomAround", desc := "(I)Z" } : Jvm.MethodName) ({ cls := "TermBench$Program", name := "hasRoomAround", desc := "(I)Z" } : Jvm.MethodName)) ∈ qw := qm (i := 226) (by decide +kernel) (by decide +kernel)
theorem t_227 : (Jvm.Cond.code ({ cls := "TermBench$Program", name := "hasRoomAround", desc := "(I)Z" } : Jvm.MethodName) prog_5_method_8_code (5 : Nat) (Option.some Jvm.ClassFile.FieldType.boolean)) ∈ qw := qm (i := 227) (by decide +kernel) (by decide +kernel)
theorem t_228 : (Jvm.Cond.methodLink "TermBench$Program" (38 : Nat) ({ cls := "TermBench$Program", name := "end", desc := "(I)I" } : Jvm.MethodName)) ∈ qw := qm (i := 228) (by decide +kernel) (by decide +kernel)
theorem t_229 : (Jvm.Cond.instanceMethod ({ cls := "TermBench$Program", name := "end", desc := "(I)I" } : Jvm.MethodName)) ∈ qw := qm (i := 229) (by decide +kernel) (by decide +kernel)
theorem t_230 : (Jvm.Cond.selects "TermBench$Program" ({ cls := "TermBench$Program", name := "end", desc := "(I)I" } : Jvm.MethodName) ({ cls := "TermBench$Program", name := "end", desc := "(I)I" } : Jvm.MethodName)) ∈ qw := qm (i := 230) (by decide +kernel) (by decide +kernel)
theorem t_231 : (Jvm.Cond.code ({ cls := "TermBench$Program", name := "end", desc := "(I)I" } : Jvm.MethodName) prog_5_method_4_code (3 : Nat) (Option.some Jvm.ClassFile.FieldType.int)) ∈ qw := qm (i := 231) (by decide +kernel) (by decide +kernel)
theorem t_232 : (Jvm.Cond.methodLink "TermBench$Program" (42 : Nat) ({ cls := "java/lang/Math", name := "max", desc := "(II)I" } : Jvm.MethodName)) ∈ qw := qm (i := 232) (by decide +kernel) (by decide +kernel)
theorem t_233 : (Jvm.Cond.static ({ cls := "java/lang/Math", name := "max", desc := "(II)I" } : Jvm.MethodName)) ∈ qw := qm (i := 233) (by decide +kernel) (by decide +kernel)
theorem t_234 : (Jvm.Cond.code ({ cls := "java/lang/Math", name := "max", desc := "(II)I" } : Jvm.MethodName) prog_10_method_65_code (2 : Nat) (Option.some Jvm.ClassFile.FieldType.int)) ∈ qw := qm (i := 234) (by decide +kernel) (by decide +kernel)
theorem t_235 : (Jvm.Cond.methodLink "TermBench" (153 : Nat) ({ cls := "TermBench$Program", name := "join", desc := "(IZ)V" } : Jvm.MethodName)) ∈ qw := qm (i := 235) (by decide +kernel) (by decide +kernel)
theorem t_236 : (Jvm.Cond.instanceMethod ({ cls := "TermBench$Program", name := "join", desc := "(IZ)V" } : Jvm.MethodName)) ∈ qw := qm (i := 236) (by decide +kernel) (by decide +kernel)
theorem t_237 : (Jvm.Cond.selects "TermBench$Program" ({ cls := "TermBench$Program", name := "join", desc := "(IZ)V" } : Jvm.MethodName) ({ cls := "TermBench$Program", name := "join", desc := "(IZ)V" } : Jvm.MethodName)) ∈ qw := qm (i := 237) (by decide +kernel) (by decide +kernel)
theorem t_238 : (Jvm.Cond.code ({ cls := "TermBench$Program", name := "join", desc := "(IZ)V" } : Jvm.MethodName) prog_5_method_11_code (5 : Nat) (Option.none : Option Jvm.ClassFile.FieldType)) ∈ qw := qm (i := 238) (by decide +kernel) (by decide +kernel)
theorem t_239 : (Jvm.Cond.methodLink "TermBench$Program" (60 : Nat) ({ cls := "TermBench$Program", name := "wrap", desc := "(IIJ)V" } : Jvm.MethodName)) ∈ qw := qm (i := 239) (by decide +kernel) (by decide +kernel)
theorem t_240 : (Jvm.Cond.instanceMethod ({ cls := "TermBench$Program", name := "wrap", desc := "(IIJ)V" } : Jvm.MethodName)) ∈ qw := qm (i := 240) (by decide +kernel) (by decide +kernel)
theorem t_241 : (Jvm.Cond.selects "TermBench$Program" ({ cls := "TermBench$Program", name := "wrap", desc := "(IIJ)V" } : Jvm.MethodName) ({ cls := "TermBench$Program", name := "wrap", desc := "(IIJ)V" } : Jvm.MethodName)) ∈ qw := qm (i := 241) (by decide +kernel) (by decide +kernel)
theorem t_242 : (Jvm.Cond.code ({ cls := "TermBench$Program", name := "wrap", desc := "(IIJ)V" } : Jvm.MethodName) prog_5_method_10_code (6 : Nat) (Option.none : Option Jvm.ClassFile.FieldType)) ∈ qw := qm (i := 242) (by decide +kernel) (by decide +kernel)
theorem t_243 : (Jvm.Cond.methodLink "TermBench$Program" (52 : Nat) ({ cls := "TermBench$Program", name := "shiftLevels", desc := "(III)V" } : Jvm.MethodName)) ∈ qw := qm (i := 243) (by decide +kernel) (by decide +kernel)
theorem t_245 : (Jvm.Cond.instanceMethod ({ cls := "TermBench$Program", name := "shiftLevels", desc := "(III)V" } : Jvm.MethodName)) ∈ qw := qm (i := 245) (by decide +kernel) (by decide +kernel)
theorem t_246 : (Jvm.Cond.code ({ cls := "TermBench$Program", name := "shiftLevels", desc := "(III)V" } : Jvm.MethodName) prog_5_method_15_code (5 : Nat) (Option.none : Option Jvm.ClassFile.FieldType)) ∈ qw := qm (i := 246) (by decide +kernel) (by decide +kernel)
theorem t_247 : (Jvm.Cond.methodLink "TermBench$Program" (56 : Nat) ({ cls := "TermBench$Program", name := "moveTail", desc := "(II)V" } : Jvm.MethodName)) ∈ qw := qm (i := 247) (by decide +kernel) (by decide +kernel)
theorem t_249 : (Jvm.Cond.instanceMethod ({ cls := "TermBench$Program", name := "moveTail", desc := "(II)V" } : Jvm.MethodName)) ∈ qw := qm (i := 249) (by decide +kernel) (by decide +kernel)
theorem t_250 : (Jvm.Cond.code ({ cls := "TermBench$Program", name := "moveTail", desc := "(II)V" } : Jvm.MethodName) prog_5_method_16_code (4 : Nat) (Option.none : Option Jvm.ClassFile.FieldType)) ∈ qw := qm (i := 250) (by decide +kernel) (by decide +kernel)
theorem t_252 : (Jvm.Cond.instanceMethod ({ cls := "TermBench", name := "call", desc := "(Z)Z" } : Jvm.MethodName)) ∈ qw := qm (i := 252) (by decide +kernel) (by decide +kernel)
theorem t_253 : (Jvm.Cond.selects "TermBench" ({ cls := "TermBench", name := "call", desc := "(Z)Z" } : Jvm.MethodName) ({ cls := "TermBench", name := "call", desc := "(Z)Z" } : Jvm.MethodName)) ∈ qw := qm (i := 253) (by decide +kernel) (by decide +kernel)
theorem t_254 : (Jvm.Cond.code ({ cls := "TermBench", name := "call", desc := "(Z)Z" } : Jvm.MethodName) prog_1_method_5_code (2 : Nat) (Option.some Jvm.ClassFile.FieldType.boolean)) ∈ qw := qm (i := 254) (by decide +kernel) (by decide +kernel)
theorem t_256 : (Jvm.Cond.instanceMethod ({ cls := "TermBench", name := "function", desc := "(IJ)Z" } : Jvm.MethodName)) ∈ qw := qm (i := 256) (by decide +kernel) (by decide +kernel)
theorem t_257 : (Jvm.Cond.selects "TermBench" ({ cls := "TermBench", name := "function", desc := "(IJ)Z" } : Jvm.MethodName) ({ cls := "TermBench", name := "function", desc := "(IJ)Z" } : Jvm.MethodName)) ∈ qw := qm (i := 257) (by decide +kernel) (by decide +kernel)
theorem t_258 : (Jvm.Cond.code ({ cls := "TermBench", name := "function", desc := "(IJ)Z" } : Jvm.MethodName) prog_1_method_6_code (4 : Nat) (Option.some Jvm.ClassFile.FieldType.boolean)) ∈ qw := qm (i := 258) (by decide +kernel) (by decide +kernel)
theorem t_259 : (Jvm.Cond.methodLink "TermBench" (49 : Nat) ({ cls := "TermBench", name := "wrapTyped", desc := "(IIJ)Z" } : Jvm.MethodName)) ∈ qw := qm (i := 259) (by decide +kernel) (by decide +kernel)
theorem t_261 : (Jvm.Cond.instanceMethod ({ cls := "TermBench", name := "wrapTyped", desc := "(IIJ)Z" } : Jvm.MethodName)) ∈ qw := qm (i := 261) (by decide +kernel) (by decide +kernel)
theorem t_262 : (Jvm.Cond.code ({ cls := "TermBench", name := "wrapTyped", desc := "(IIJ)Z" } : Jvm.MethodName) prog_1_method_30_code (5 : Nat) (Option.some Jvm.ClassFile.FieldType.boolean)) ∈ qw := qm (i := 262) (by decide +kernel) (by decide +kernel)
theorem t_263 : (Jvm.Cond.methodLink "TermBench" (157 : Nat) ({ cls := "TermBench$Types", name := "isType", desc := "(J)Z" } : Jvm.MethodName)) ∈ qw := qm (i := 263) (by decide +kernel) (by decide +kernel)
theorem t_264 : (Jvm.Cond.static ({ cls := "TermBench$Types", name := "isType", desc := "(J)Z" } : Jvm.MethodName)) ∈ qw := qm (i := 264) (by decide +kernel) (by decide +kernel)
theorem t_265 : (Jvm.Cond.code ({ cls := "TermBench$Types", name := "isType", desc := "(J)Z" } : Jvm.MethodName) prog_6_method_3_code (3 : Nat) (Option.some Jvm.ClassFile.FieldType.boolean)) ∈ qw := qm (i := 265) (by decide +kernel) (by decide +kernel)
theorem t_266 : (Jvm.Cond.methodLink "TermBench$Types" (11 : Nat) ({ cls := "TermBench$Types", name := "symbols", desc := "(J)I" } : Jvm.MethodName)) ∈ qw := qm (i := 266) (by decide +kernel) (by decide +kernel)
theorem t_267 : (Jvm.Cond.static ({ cls := "TermBench$Types", name := "symbols", desc := "(J)I" } : Jvm.MethodName)) ∈ qw := qm (i := 267) (by decide +kernel) (by decide +kernel)
theorem t_268 : (Jvm.Cond.code ({ cls := "TermBench$Types", name := "symbols", desc := "(J)I" } : Jvm.MethodName) prog_6_method_2_code (5 : Nat) (Option.some Jvm.ClassFile.FieldType.int)) ∈ qw := qm (i := 268) (by decide +kernel) (by decide +kernel)
theorem t_269 : (Jvm.Cond.methodLink "TermBench" (163 : Nat) ({ cls := "TermBench$Program", name := "wrap", desc := "(IIJ)V" } : Jvm.MethodName)) ∈ qw := qm (i := 269) (by decide +kernel) (by decide +kernel)
theorem t_271 : (Jvm.Cond.instanceMethod ({ cls := "TermBench", name := "claim", desc := "(J)Z" } : Jvm.MethodName)) ∈ qw := qm (i := 271) (by decide +kernel) (by decide +kernel)
theorem t_272 : (Jvm.Cond.selects "TermBench" ({ cls := "TermBench", name := "claim", desc := "(J)Z" } : Jvm.MethodName) ({ cls := "TermBench", name := "claim", desc := "(J)Z" } : Jvm.MethodName)) ∈ qw := qm (i := 272) (by decide +kernel) (by decide +kernel)
theorem t_273 : (Jvm.Cond.code ({ cls := "TermBench", name := "claim", desc := "(J)Z" } : Jvm.MethodName) prog_1_method_7_code (3 : Nat) (Option.some Jvm.ClassFile.FieldType.boolean)) ∈ qw := qm (i := 273) (by decide +kernel) (by decide +kernel)
theorem t_275 : (Jvm.Cond.instanceMethod ({ cls := "TermBench", name := "remove", desc := "()Z" } : Jvm.MethodName)) ∈ qw := qm (i := 275) (by decide +kernel) (by decide +kernel)
theorem t_276 : (Jvm.Cond.selects "TermBench" ({ cls := "TermBench", name := "remove", desc := "()Z" } : Jvm.MethodName) ({ cls := "TermBench", name := "remove", desc := "()Z" } : Jvm.MethodName)) ∈ qw := qm (i := 276) (by decide +kernel) (by decide +kernel)
theorem t_277 : (Jvm.Cond.code ({ cls := "TermBench", name := "remove", desc := "()Z" } : Jvm.MethodName) prog_1_method_8_code (1 : Nat) (Option.some Jvm.ClassFile.FieldType.boolean)) ∈ qw := qm (i := 277) (by decide +kernel) (by decide +kernel)
theorem t_278 : (Jvm.Cond.methodLink "TermBench" (66 : Nat) ({ cls := "TermBench$Program", name := "empty", desc := "()V" } : Jvm.MethodName)) ∈ qw := qm (i := 278) (by decide +kernel) (by decide +kernel)
theorem t_279 : (Jvm.Cond.instanceMethod ({ cls := "TermBench$Program", name := "empty", desc := "()V" } : Jvm.MethodName)) ∈ qw := qm (i := 279) (by decide +kernel) (by decide +kernel)
theorem t_280 : (Jvm.Cond.selects "TermBench$Program" ({ cls := "TermBench$Program", name := "empty", desc := "()V" } : Jvm.MethodName) ({ cls := "TermBench$Program", name := "empty", desc := "()V" } : Jvm.MethodName)) ∈ qw := qm (i := 280) (by decide +kernel) (by decide +kernel)
theorem t_281 : (Jvm.Cond.code ({ cls := "TermBench$Program", name := "empty", desc := "()V" } : Jvm.MethodName) prog_5_method_12_code (1 : Nat) (Option.none : Option Jvm.ClassFile.FieldType)) ∈ qw := qm (i := 281) (by decide +kernel) (by decide +kernel)
theorem t_283 : (Jvm.Cond.instanceMethod ({ cls := "TermBench", name := "lift", desc := "()Z" } : Jvm.MethodName)) ∈ qw := qm (i := 283) (by decide +kernel) (by decide +kernel)
theorem t_284 : (Jvm.Cond.selects "TermBench" ({ cls := "TermBench", name := "lift", desc := "()Z" } : Jvm.MethodName) ({ cls := "TermBench", name := "lift", desc := "()Z" } : Jvm.MethodName)) ∈ qw := qm (i := 284) (by decide +kernel) (by decide +kernel)
theorem t_285 : (Jvm.Cond.code ({ cls := "TermBench", name := "lift", desc := "()Z" } : Jvm.MethodName) prog_1_method_9_code (1 : Nat) (Option.some Jvm.ClassFile.FieldType.boolean)) ∈ qw := qm (i := 285) (by decide +kernel) (by decide +kernel)
theorem t_286 : (Jvm.Cond.methodLink "TermBench" (73 : Nat) ({ cls := "TermBench$Program", name := "raise", desc := "()V" } : Jvm.MethodName)) ∈ qw := qm (i := 286) (by decide +kernel) (by decide +kernel)
theorem t_287 : (Jvm.Cond.instanceMethod ({ cls := "TermBench$Program", name := "raise", desc := "()V" } : Jvm.MethodName)) ∈ qw := qm (i := 287) (by decide +kernel) (by decide +kernel)
theorem t_288 : (Jvm.Cond.selects "TermBench$Program" ({ cls := "TermBench$Program", name := "raise", desc := "()V" } : Jvm.MethodName) ({ cls := "TermBench$Program", name := "raise", desc := "()V" } : Jvm.MethodName)) ∈ qw := qm (i := 288) (by decide +kernel) (by decide +kernel)
theorem t_289 : (Jvm.Cond.code ({ cls := "TermBench$Program", name := "raise", desc := "()V" } : Jvm.MethodName) prog_5_method_13_code (3 : Nat) (Option.none : Option Jvm.ClassFile.FieldType)) ∈ qw := qm (i := 289) (by decide +kernel) (by decide +kernel)
theorem t_290 : (Jvm.Cond.methodLink "TermBench$Program" (64 : Nat) ({ cls := "TermBench$Program", name := "parent", desc := "(I)I" } : Jvm.MethodName)) ∈ qw := qm (i := 290) (by decide +kernel) (by decide +kernel)
theorem t_291 : (Jvm.Cond.instanceMethod ({ cls := "TermBench$Program", name := "parent", desc := "(I)I" } : Jvm.MethodName)) ∈ qw := qm (i := 291) (by decide +kernel) (by decide +kernel)
theorem t_292 : (Jvm.Cond.selects "TermBench$Program" ({ cls := "TermBench$Program", name := "parent", desc := "(I)I" } : Jvm.MethodName) ({ cls := "TermBench$Program", name := "parent", desc := "(I)I" } : Jvm.MethodName)) ∈ qw := qm (i := 292) (by decide +kernel) (by decide +kernel)
theorem t_293 : (Jvm.Cond.code ({ cls := "TermBench$Program", name := "parent", desc := "(I)I" } : Jvm.MethodName) prog_5_method_5_code (3 : Nat) (Option.some Jvm.ClassFile.FieldType.int)) ∈ qw := qm (i := 293) (by decide +kernel) (by decide +kernel)
theorem t_295 : (Jvm.Cond.instanceMethod ({ cls := "TermBench", name := "undo", desc := "()Z" } : Jvm.MethodName)) ∈ qw := qm (i := 295) (by decide +kernel) (by decide +kernel)
theorem t_296 : (Jvm.Cond.selects "TermBench" ({ cls := "TermBench", name := "undo", desc := "()Z" } : Jvm.MethodName) ({ cls := "TermBench", name := "undo", desc := "()Z" } : Jvm.MethodName)) ∈ qw := qm (i := 296) (by decide +kernel) (by decide +kernel)
theorem t_297 : (Jvm.Cond.code ({ cls := "TermBench", name := "undo", desc := "()Z" } : Jvm.MethodName) prog_1_method_10_code (1 : Nat) (Option.some Jvm.ClassFile.FieldType.boolean)) ∈ qw := qm (i := 297) (by decide +kernel) (by decide +kernel)
theorem t_298 : (Jvm.Cond.methodLink "TermBench" (76 : Nat) ({ cls := "TermBench$History", name := "stepBack", desc := "()Z" } : Jvm.MethodName)) ∈ qw := qm (i := 298) (by decide +kernel) (by decide +kernel)
theorem t_299 : (Jvm.Cond.instanceMethod ({ cls := "TermBench$History", name := "stepBack", desc := "()Z" } : Jvm.MethodName)) ∈ qw := qm (i := 299) (by decide +kernel) (by decide +kernel)
theorem t_300 : (Jvm.Cond.selects "TermBench$History" ({ cls := "TermBench$History", name := "stepBack", desc := "()Z" } : Jvm.MethodName) ({ cls := "TermBench$History", name := "stepBack", desc := "()Z" } : Jvm.MethodName)) ∈ qw := qm (i := 300) (by decide +kernel) (by decide +kernel)
theorem t_301 : (Jvm.Cond.code ({ cls := "TermBench$History", name := "stepBack", desc := "()Z" } : Jvm.MethodName) prog_2_method_4_code (1 : Nat) (Option.some Jvm.ClassFile.FieldType.boolean)) ∈ qw := qm (i := 301) (by decide +kernel) (by decide +kernel)
theorem t_303 : (Jvm.Cond.instanceMethod ({ cls := "TermBench", name := "redo", desc := "()Z" } : Jvm.MethodName)) ∈ qw := qm (i := 303) (by decide +kernel) (by decide +kernel)
theorem t_304 : (Jvm.Cond.selects "TermBench" ({ cls := "TermBench", name := "redo", desc := "()Z" } : Jvm.MethodName) ({ cls := "TermBench", name := "redo", desc := "()Z" } : Jvm.MethodName)) ∈ qw := qm (i := 304) (by decide +kernel) (by decide +kernel)
theorem t_305 : (Jvm.Cond.code ({ cls := "TermBench", name := "redo", desc := "()Z" } : Jvm.MethodName) prog_1_method_11_code (1 : Nat) (Option.some Jvm.ClassFile.FieldType.boolean)) ∈ qw := qm (i := 305) (by decide +kernel) (by decide +kernel)
theorem t_306 : (Jvm.Cond.methodLink "TermBench" (79 : Nat) ({ cls := "TermBench$History", name := "stepForth", desc := "()Z" } : Jvm.MethodName)) ∈ qw := qm (i := 306) (by decide +kernel) (by decide +kernel)
theorem t_307 : (Jvm.Cond.instanceMethod ({ cls := "TermBench$History", name := "stepForth", desc := "()Z" } : Jvm.MethodName)) ∈ qw := qm (i := 307) (by decide +kernel) (by decide +kernel)
theorem t_308 : (Jvm.Cond.selects "TermBench$History" ({ cls := "TermBench$History", name := "stepForth", desc := "()Z" } : Jvm.MethodName) ({ cls := "TermBench$History", name := "stepForth", desc := "()Z" } : Jvm.MethodName)) ∈ qw := qm (i := 308) (by decide +kernel) (by decide +kernel)
theorem t_309 : (Jvm.Cond.code ({ cls := "TermBench$History", name := "stepForth", desc := "()Z" } : Jvm.MethodName) prog_2_method_5_code (1 : Nat) (Option.some Jvm.ClassFile.FieldType.boolean)) ∈ qw := qm (i := 309) (by decide +kernel) (by decide +kernel)
theorem t_311 : (Jvm.Cond.instanceMethod ({ cls := "TermBench", name := "up", desc := "()Z" } : Jvm.MethodName)) ∈ qw := qm (i := 311) (by decide +kernel) (by decide +kernel)
theorem t_312 : (Jvm.Cond.selects "TermBench" ({ cls := "TermBench", name := "up", desc := "()Z" } : Jvm.MethodName) ({ cls := "TermBench", name := "up", desc := "()Z" } : Jvm.MethodName)) ∈ qw := qm (i := 312) (by decide +kernel) (by decide +kernel)
theorem t_313 : (Jvm.Cond.code ({ cls := "TermBench", name := "up", desc := "()Z" } : Jvm.MethodName) prog_1_method_12_code (2 : Nat) (Option.some Jvm.ClassFile.FieldType.boolean)) ∈ qw := qm (i := 313) (by decide +kernel) (by decide +kernel)
theorem t_314 : (Jvm.Cond.methodLink "TermBench" (82 : Nat) ({ cls := "TermBench$Program", name := "parent", desc := "(I)I" } : Jvm.MethodName)) ∈ qw := qm (i := 314) (by decide +kernel) (by decide +kernel)
theorem t_315 : (Jvm.Cond.methodLink "TermBench" (86 : Nat) ({ cls := "TermBench", name := "moveTo", desc := "(I)Z" } : Jvm.MethodName)) ∈ qw := qm (i := 315) (by decide +kernel) (by decide +kernel)
theorem t_317 : (Jvm.Cond.instanceMethod ({ cls := "TermBench", name := "moveTo", desc := "(I)Z" } : Jvm.MethodName)) ∈ qw := qm (i := 317) (by decide +kernel) (by decide +kernel)
theorem t_318 : (Jvm.Cond.code ({ cls := "TermBench", name := "moveTo", desc := "(I)Z" } : Jvm.MethodName) prog_1_method_31_code (2 : Nat) (Option.some Jvm.ClassFile.FieldType.boolean)) ∈ qw := qm (i := 318) (by decide +kernel) (by decide +kernel)
theorem t_320 : (Jvm.Cond.instanceMethod ({ cls := "TermBench", name := "down", desc := "(I)Z" } : Jvm.MethodName)) ∈ qw := qm (i := 320) (by decide +kernel) (by decide +kernel)
theorem t_321 : (Jvm.Cond.selects "TermBench" ({ cls := "TermBench", name := "down", desc := "(I)Z" } : Jvm.MethodName) ({ cls := "TermBench", name := "down", desc := "(I)Z" } : Jvm.MethodName)) ∈ qw := qm (i := 321) (by decide +kernel) (by decide +kernel)
theorem t_322 : (Jvm.Cond.code ({ cls := "TermBench", name := "down", desc := "(I)Z" } : Jvm.MethodName) prog_1_method_13_code (3 : Nat) (Option.some Jvm.ClassFile.FieldType.boolean)) ∈ qw := qm (i := 322) (by decide +kernel) (by decide +kernel)
theorem t_323 : (Jvm.Cond.methodLink "TermBench" (89 : Nat) ({ cls := "TermBench$Program", name := "part", desc := "(II)I" } : Jvm.MethodName)) ∈ qw := qm (i := 323) (by decide +kernel) (by decide +kernel)
theorem t_324 : (Jvm.Cond.instanceMethod ({ cls := "TermBench$Program", name := "part", desc := "(II)I" } : Jvm.MethodName)) ∈ qw := qm (i := 324) (by decide +kernel) (by decide +kernel)
theorem t_325 : (Jvm.Cond.selects "TermBench$Program" ({ cls := "TermBench$Program", name := "part", desc := "(II)I" } : Jvm.MethodName) ({ cls := "TermBench$Program", name := "part", desc := "(II)I" } : Jvm.MethodName)) ∈ qw := qm (i := 325) (by decide +kernel) (by decide +kernel)
theorem t_326 : (Jvm.Cond.code ({ cls := "TermBench$Program", name := "part", desc := "(II)I" } : Jvm.MethodName) prog_5_method_6_code (5 : Nat) (Option.some Jvm.ClassFile.FieldType.int)) ∈ qw := qm (i := 326) (by decide +kernel) (by decide +kernel)
theorem t_328 : (Jvm.Cond.instanceMethod ({ cls := "TermBench", name := "hole", desc := "()Z" } : Jvm.MethodName)) ∈ qw := qm (i := 328) (by decide +kernel) (by decide +kernel)
theorem t_329 : (Jvm.Cond.selects "TermBench" ({ cls := "TermBench", name := "hole", desc := "()Z" } : Jvm.MethodName) ({ cls := "TermBench", name := "hole", desc := "()Z" } : Jvm.MethodName)) ∈ qw := qm (i := 329) (by decide +kernel) (by decide +kernel)
theorem t_330 : (Jvm.Cond.code ({ cls := "TermBench", name := "hole", desc := "()Z" } : Jvm.MethodName) prog_1_method_14_code (1 : Nat) (Option.some Jvm.ClassFile.FieldType.boolean)) ∈ qw := qm (i := 330) (by decide +kernel) (by decide +kernel)
theorem t_331 : (Jvm.Cond.methodLink "TermBench" (93 : Nat) ({ cls := "TermBench", name := "written", desc := "()LTermBench$Page;" } : Jvm.MethodName)) ∈ qw := qm (i := 331) (by decide +kernel) (by decide +kernel)
theorem t_333 : (Jvm.Cond.instanceMethod ({ cls := "TermBench", name := "written", desc := "()LTermBench$Page;" } : Jvm.MethodName)) ∈ qw := qm (i := 333) (by decide +kernel) (by decide +kernel)
theorem t_334 : (Jvm.Cond.code ({ cls := "TermBench", name := "written", desc := "()LTermBench$Page;" } : Jvm.MethodName) prog_1_method_33_code (1 : Nat) (Option.some (Jvm.ClassFile.FieldType.object "TermBench$Page"))) ∈ qw := qm (i := 334) (by decide +kernel) (by decide +kernel)
theorem t_335 : (Jvm.Cond.methodLink "TermBench" (176 : Nat) ({ cls := "TermBench$Page", name := "clear", desc := "()V" } : Jvm.MethodName)) ∈ qw := qm (i := 335) (by decide +kernel) (by decide +kernel)
theorem t_336 : (Jvm.Cond.instanceMethod ({ cls := "TermBench$Page", name := "clear", desc := "()V" } : Jvm.MethodName)) ∈ qw := qm (i := 336) (by decide +kernel) (by decide +kernel)
theorem t_337 : (Jvm.Cond.selects "TermBench$Page" ({ cls := "TermBench$Page", name := "clear", desc := "()V" } : Jvm.MethodName) ({ cls := "TermBench$Page", name := "clear", desc := "()V" } : Jvm.MethodName)) ∈ qw := qm (i := 337) (by decide +kernel) (by decide +kernel)
theorem t_338 : (Jvm.Cond.code ({ cls := "TermBench$Page", name := "clear", desc := "()V" } : Jvm.MethodName) prog_4_method_2_code (1 : Nat) (Option.none : Option Jvm.ClassFile.FieldType)) ∈ qw := qm (i := 338) (by decide +kernel) (by decide +kernel)
theorem t_339 : (Jvm.Cond.methodLink "TermBench$Page" (29 : Nat) ({ cls := "java/util/Arrays", name := "fill", desc := "([JJ)V" } : Jvm.MethodName)) ∈ qw := qm (i := 339) (by decide +kernel) (by decide +kernel)
theorem t_340 : (Jvm.Cond.static ({ cls := "java/util/Arrays", name := "fill", desc := "([JJ)V" } : Jvm.MethodName)) ∈ qw := qm (i := 340) (by decide +kernel) (by decide +kernel)
theorem t_341 : (Jvm.Cond.code ({ cls := "java/util/Arrays", name := "fill", desc := "([JJ)V" } : Jvm.MethodName) prog_12_method_101_code (5 : Nat) (Option.none : Option Jvm.ClassFile.FieldType)) ∈ qw := qm (i := 341) (by decide +kernel) (by decide +kernel)
theorem t_342 : (Jvm.Cond.methodLink "TermBench" (179 : Nat) ({ cls := "TermBench$Page", name := "writeTerm", desc := "(LTermBench$Program;II)V" } : Jvm.MethodName)) ∈ qw := qm (i := 342) (by decide +kernel) (by decide +kernel)
theorem t_343 : (Jvm.Cond.instanceMethod ({ cls := "TermBench$Page", name := "writeTerm", desc := "(LTermBench$Program;II)V" } : Jvm.MethodName)) ∈ qw := qm (i := 343) (by decide +kernel) (by decide +kernel)
theorem t_344 : (Jvm.Cond.selects "TermBench$Page" ({ cls := "TermBench$Page", name := "writeTerm", desc := "(LTermBench$Program;II)V" } : Jvm.MethodName) ({ cls := "TermBench$Page", name := "writeTerm", desc := "(LTermBench$Program;II)V" } : Jvm.MethodName)) ∈ qw := qm (i := 344) (by decide +kernel) (by decide +kernel)
theorem t_345 : (Jvm.Cond.code ({ cls := "TermBench$Page", name := "writeTerm", desc := "(LTermBench$Program;II)V" } : Jvm.MethodName) prog_4_method_6_code (4 : Nat) (Option.none : Option Jvm.ClassFile.FieldType)) ∈ qw := qm (i := 345) (by decide +kernel) (by decide +kernel)
theorem t_346 : (Jvm.Cond.methodLink "TermBench$Page" (49 : Nat) ({ cls := "TermBench$Page", name := "writeNumber", desc := "(I)V" } : Jvm.MethodName)) ∈ qw := qm (i := 346) (by decide +kernel) (by decide +kernel)
theorem t_348 : (Jvm.Cond.instanceMethod ({ cls := "TermBench$Page", name := "writeNumber", desc := "(I)V" } : Jvm.MethodName)) ∈ qw := qm (i := 348) (by decide +kernel) (by decide +kernel)
theorem t_349 : (Jvm.Cond.code ({ cls := "TermBench$Page", name := "writeNumber", desc := "(I)V" } : Jvm.MethodName) prog_4_method_9_code (3 : Nat) (Option.none : Option Jvm.ClassFile.FieldType)) ∈ qw := qm (i := 349) (by decide +kernel) (by decide +kernel)
theorem t_350 : (Jvm.Cond.methodLink "TermBench$Page" (92 : Nat) ({ cls := "java/lang/Math", name := "abs", desc := "(I)I" } : Jvm.MethodName)) ∈ qw := qm (i := 350) (by decide +kernel) (by decide +kernel)
theorem t_351 : (Jvm.Cond.static ({ cls := "java/lang/Math", name := "abs", desc := "(I)I" } : Jvm.MethodName)) ∈ qw := qm (i := 351) (by decide +kernel) (by decide +kernel)
theorem t_352 : (Jvm.Cond.code ({ cls := "java/lang/Math", name := "abs", desc := "(I)I" } : Jvm.MethodName) prog_10_method_59_code (1 : Nat) (Option.some Jvm.ClassFile.FieldType.int)) ∈ qw := qm (i := 352) (by decide +kernel) (by decide +kernel)
theorem t_353 : (Jvm.Cond.methodLink "TermBench$Page" (56 : Nat) ({ cls := "TermBench$Page", name := "writeSign", desc := "(I)V" } : Jvm.MethodName)) ∈ qw := qm (i := 353) (by decide +kernel) (by decide +kernel)
theorem t_355 : (Jvm.Cond.instanceMethod ({ cls := "TermBench$Page", name := "writeSign", desc := "(I)V" } : Jvm.MethodName)) ∈ qw := qm (i := 355) (by decide +kernel) (by decide +kernel)
theorem t_356 : (Jvm.Cond.code ({ cls := "TermBench$Page", name := "writeSign", desc := "(I)V" } : Jvm.MethodName) prog_4_method_11_code (2 : Nat) (Option.none : Option Jvm.ClassFile.FieldType)) ∈ qw := qm (i := 356) (by decide +kernel) (by decide +kernel)
theorem t_357 : (Jvm.Cond.methodLink "TermBench$Page" (53 : Nat) ({ cls := "TermBench$Page", name := "writeName", desc := "(I)V" } : Jvm.MethodName)) ∈ qw := qm (i := 357) (by decide +kernel) (by decide +kernel)
theorem t_359 : (Jvm.Cond.instanceMethod ({ cls := "TermBench$Page", name := "writeName", desc := "(I)V" } : Jvm.MethodName)) ∈ qw := qm (i := 359) (by decide +kernel) (by decide +kernel)
theorem t_360 : (Jvm.Cond.code ({ cls := "TermBench$Page", name := "writeName", desc := "(I)V" } : Jvm.MethodName) prog_4_method_10_code (2 : Nat) (Option.none : Option Jvm.ClassFile.FieldType)) ∈ qw := qm (i := 360) (by decide +kernel) (by decide +kernel)
theorem t_361 : (Jvm.Cond.methodLink "TermBench$Page" (59 : Nat) ({ cls := "TermBench$Page", name := "writeWithParts", desc := "(LTermBench$Program;II)V" } : Jvm.MethodName)) ∈ qw := qm (i := 361) (by decide +kernel) (by decide +kernel)
theorem t_363 : (Jvm.Cond.instanceMethod ({ cls := "TermBench$Page", name := "writeWithParts", desc := "(LTermBench$Program;II)V" } : Jvm.MethodName)) ∈ qw := qm (i := 363) (by decide +kernel) (by decide +kernel)
theorem t_364 : (Jvm.Cond.code ({ cls := "TermBench$Page", name := "writeWithParts", desc := "(LTermBench$Program;II)V" } : Jvm.MethodName) prog_4_method_7_code (6 : Nat) (Option.none : Option Jvm.ClassFile.FieldType)) ∈ qw := qm (i := 364) (by decide +kernel) (by decide +kernel)
theorem t_365 : (Jvm.Cond.methodLink "TermBench$Page" (63 : Nat) ({ cls := "TermBench$Program", name := "part", desc := "(II)I" } : Jvm.MethodName)) ∈ qw := qm (i := 365) (by decide +kernel) (by decide +kernel)
theorem t_366 : (Jvm.Cond.methodLink "TermBench$Page" (67 : Nat) ({ cls := "TermBench$Page", name := "writeTerm", desc := "(LTermBench$Program;II)V" } : Jvm.MethodName)) ∈ qw := qm (i := 366) (by decide +kernel) (by decide +kernel)
theorem t_367 : (Jvm.Cond.methodLink "TermBench$Page" (73 : Nat) ({ cls := "TermBench$Page", name := "writeType", desc := "(JI)V" } : Jvm.MethodName)) ∈ qw := qm (i := 367) (by decide +kernel) (by decide +kernel)
theorem t_369 : (Jvm.Cond.instanceMethod ({ cls := "TermBench$Page", name := "writeType", desc := "(JI)V" } : Jvm.MethodName)) ∈ qw := qm (i := 369) (by decide +kernel) (by decide +kernel)
theorem t_370 : (Jvm.Cond.code ({ cls := "TermBench$Page", name := "writeType", desc := "(JI)V" } : Jvm.MethodName) prog_4_method_8_code (4 : Nat) (Option.none : Option Jvm.ClassFile.FieldType)) ∈ qw := qm (i := 370) (by decide +kernel) (by decide +kernel)
theorem t_371 : (Jvm.Cond.methodLink "TermBench$Page" (79 : Nat) ({ cls := "TermBench$Types", name := "isFrom", desc := "(J)Z" } : Jvm.MethodName)) ∈ qw := qm (i := 371) (by decide +kernel) (by decide +kernel)
theorem t_372 : (Jvm.Cond.static ({ cls := "TermBench$Types", name := "isFrom", desc := "(J)Z" } : Jvm.MethodName)) ∈ qw := qm (i := 372) (by decide +kernel) (by decide +kernel)
theorem t_373 : (Jvm.Cond.code ({ cls := "TermBench$Types", name := "isFrom", desc := "(J)Z" } : Jvm.MethodName) prog_6_method_4_code (2 : Nat) (Option.some Jvm.ClassFile.FieldType.boolean)) ∈ qw := qm (i := 373) (by decide +kernel) (by decide +kernel)
theorem t_374 : (Jvm.Cond.constantLong "TermBench$Types" (15 : Nat) (3 : Int64)) ∈ qw := qm (i := 374) (by decide +kernel) (by decide +kernel)
theorem t_375 : (Jvm.Cond.constantLong "TermBench$Page" (83 : Nat) (2 : Int64)) ∈ qw := qm (i := 375) (by decide +kernel) (by decide +kernel)
theorem t_376 : (Jvm.Cond.methodLink "TermBench$Page" (85 : Nat) ({ cls := "TermBench$Types", name := "taken", desc := "(J)J" } : Jvm.MethodName)) ∈ qw := qm (i := 376) (by decide +kernel) (by decide +kernel)
theorem t_377 : (Jvm.Cond.static ({ cls := "TermBench$Types", name := "taken", desc := "(J)J" } : Jvm.MethodName)) ∈ qw := qm (i := 377) (by decide +kernel) (by decide +kernel)
theorem t_378 : (Jvm.Cond.code ({ cls := "TermBench$Types", name := "taken", desc := "(J)J" } : Jvm.MethodName) prog_6_method_5_code (4 : Nat) (Option.some Jvm.ClassFile.FieldType.long)) ∈ qw := qm (i := 378) (by decide +kernel) (by decide +kernel)
theorem t_379 : (Jvm.Cond.methodLink "TermBench$Page" (89 : Nat) ({ cls := "TermBench$Types", name := "given", desc := "(J)J" } : Jvm.MethodName)) ∈ qw := qm (i := 379) (by decide +kernel) (by decide +kernel)
theorem t_380 : (Jvm.Cond.static ({ cls := "TermBench$Types", name := "given", desc := "(J)J" } : Jvm.MethodName)) ∈ qw := qm (i := 380) (by decide +kernel) (by decide +kernel)
theorem t_381 : (Jvm.Cond.code ({ cls := "TermBench$Types", name := "given", desc := "(J)J" } : Jvm.MethodName) prog_6_method_6_code (4 : Nat) (Option.some Jvm.ClassFile.FieldType.long)) ∈ qw := qm (i := 381) (by decide +kernel) (by decide +kernel)
theorem t_382 : (Jvm.Cond.methodLink "TermBench" (97 : Nat) ({ cls := "TermBench$Page", name := "nextHole", desc := "(LTermBench$Program;)I" } : Jvm.MethodName)) ∈ qw := qm (i := 382) (by decide +kernel) (by decide +kernel)
theorem t_383 : (Jvm.Cond.instanceMethod ({ cls := "TermBench$Page", name := "nextHole", desc := "(LTermBench$Program;)I" } : Jvm.MethodName)) ∈ qw := qm (i := 383) (by decide +kernel) (by decide +kernel)
theorem t_384 : (Jvm.Cond.selects "TermBench$Page" ({ cls := "TermBench$Page", name := "nextHole", desc := "(LTermBench$Program;)I" } : Jvm.MethodName) ({ cls := "TermBench$Page", name := "nextHole", desc := "(LTermBench$Program;)I" } : Jvm.MethodName)) ∈ qw := qm (i := 384) (by decide +kernel) (by decide +kernel)
theorem t_385 : (Jvm.Cond.code ({ cls := "TermBench$Page", name := "nextHole", desc := "(LTermBench$Program;)I" } : Jvm.MethodName) prog_4_method_4_code (4 : Nat) (Option.some Jvm.ClassFile.FieldType.int)) ∈ qw := qm (i := 385) (by decide +kernel) (by decide +kernel)
theorem t_387 : (Jvm.Cond.instanceMethod ({ cls := "TermBench", name := "click", desc := "(I)Z" } : Jvm.MethodName)) ∈ qw := qm (i := 387) (by decide +kernel) (by decide +kernel)
theorem t_388 : (Jvm.Cond.selects "TermBench" ({ cls := "TermBench", name := "click", desc := "(I)Z" } : Jvm.MethodName) ({ cls := "TermBench", name := "click", desc := "(I)Z" } : Jvm.MethodName)) ∈ qw := qm (i := 388) (by decide +kernel) (by decide +kernel)
theorem t_389 : (Jvm.Cond.code ({ cls := "TermBench", name := "click", desc := "(I)Z" } : Jvm.MethodName) prog_1_method_15_code (2 : Nat) (Option.some Jvm.ClassFile.FieldType.boolean)) ∈ qw := qm (i := 389) (by decide +kernel) (by decide +kernel)
theorem t_390 : (Jvm.Cond.methodLink "TermBench" (101 : Nat) ({ cls := "TermBench$Page", name := "innermost", desc := "(LTermBench$Program;I)I" } : Jvm.MethodName)) ∈ qw := qm (i := 390) (by decide +kernel) (by decide +kernel)
theorem t_391 : (Jvm.Cond.instanceMethod ({ cls := "TermBench$Page", name := "innermost", desc := "(LTermBench$Program;I)I" } : Jvm.MethodName)) ∈ qw := qm (i := 391) (by decide +kernel) (by decide +kernel)
theorem t_392 : (Jvm.Cond.selects "TermBench$Page" ({ cls := "TermBench$Page", name := "innermost", desc := "(LTermBench$Program;I)I" } : Jvm.MethodName) ({ cls := "TermBench$Page", name := "innermost", desc := "(LTermBench$Program;I)I" } : Jvm.MethodName)) ∈ qw := qm (i := 392) (by decide +kernel) (by decide +kernel)
theorem t_393 : (Jvm.Cond.code ({ cls := "TermBench$Page", name := "innermost", desc := "(LTermBench$Program;I)I" } : Jvm.MethodName) prog_4_method_5_code (5 : Nat) (Option.some Jvm.ClassFile.FieldType.int)) ∈ qw := qm (i := 393) (by decide +kernel) (by decide +kernel)
theorem t_395 : (Jvm.Cond.instanceMethod ({ cls := "TermBench", name := "column", desc := "()I" } : Jvm.MethodName)) ∈ qw := qm (i := 395) (by decide +kernel) (by decide +kernel)
theorem t_396 : (Jvm.Cond.selects "TermBench" ({ cls := "TermBench", name := "column", desc := "()I" } : Jvm.MethodName) ({ cls := "TermBench", name := "column", desc := "()I" } : Jvm.MethodName)) ∈ qw := qm (i := 396) (by decide +kernel) (by decide +kernel)
theorem t_397 : (Jvm.Cond.code ({ cls := "TermBench", name := "column", desc := "()I" } : Jvm.MethodName) prog_1_method_16_code (1 : Nat) (Option.some Jvm.ClassFile.FieldType.int)) ∈ qw := qm (i := 397) (by decide +kernel) (by decide +kernel)
theorem t_399 : (Jvm.Cond.instanceMethod ({ cls := "TermBench", name := "kind", desc := "()I" } : Jvm.MethodName)) ∈ qw := qm (i := 399) (by decide +kernel) (by decide +kernel)
theorem t_400 : (Jvm.Cond.selects "TermBench" ({ cls := "TermBench", name := "kind", desc := "()I" } : Jvm.MethodName) ({ cls := "TermBench", name := "kind", desc := "()I" } : Jvm.MethodName)) ∈ qw := qm (i := 400) (by decide +kernel) (by decide +kernel)
theorem t_401 : (Jvm.Cond.code ({ cls := "TermBench", name := "kind", desc := "()I" } : Jvm.MethodName) prog_1_method_17_code (2 : Nat) (Option.some Jvm.ClassFile.FieldType.int)) ∈ qw := qm (i := 401) (by decide +kernel) (by decide +kernel)
theorem t_403 : (Jvm.Cond.instanceMethod ({ cls := "TermBench", name := "mark", desc := "()I" } : Jvm.MethodName)) ∈ qw := qm (i := 403) (by decide +kernel) (by decide +kernel)
theorem t_404 : (Jvm.Cond.selects "TermBench" ({ cls := "TermBench", name := "mark", desc := "()I" } : Jvm.MethodName) ({ cls := "TermBench", name := "mark", desc := "()I" } : Jvm.MethodName)) ∈ qw := qm (i := 404) (by decide +kernel) (by decide +kernel)
theorem t_405 : (Jvm.Cond.code ({ cls := "TermBench", name := "mark", desc := "()I" } : Jvm.MethodName) prog_1_method_18_code (1 : Nat) (Option.some Jvm.ClassFile.FieldType.int)) ∈ qw := qm (i := 405) (by decide +kernel) (by decide +kernel)
theorem t_406 : (Jvm.Cond.methodLink "TermBench" (112 : Nat) ({ cls := "TermBench", name := "typed", desc := "()LTermBench$Typing;" } : Jvm.MethodName)) ∈ qw := qm (i := 406) (by decide +kernel) (by decide +kernel)
theorem t_408 : (Jvm.Cond.instanceMethod ({ cls := "TermBench", name := "typed", desc := "()LTermBench$Typing;" } : Jvm.MethodName)) ∈ qw := qm (i := 408) (by decide +kernel) (by decide +kernel)
theorem t_409 : (Jvm.Cond.code ({ cls := "TermBench", name := "typed", desc := "()LTermBench$Typing;" } : Jvm.MethodName) prog_1_method_32_code (1 : Nat) (Option.some (Jvm.ClassFile.FieldType.object "TermBench$Typing"))) ∈ qw := qm (i := 409) (by decide +kernel) (by decide +kernel)
theorem t_410 : (Jvm.Cond.methodLink "TermBench" (171 : Nat) ({ cls := "TermBench$Typing", name := "typeTerm", desc := "(LTermBench$Program;IJI)J" } : Jvm.MethodName)) ∈ qw := qm (i := 410) (by decide +kernel) (by decide +kernel)
theorem t_411 : (Jvm.Cond.instanceMethod ({ cls := "TermBench$Typing", name := "typeTerm", desc := "(LTermBench$Program;IJI)J" } : Jvm.MethodName)) ∈ qw := qm (i := 411) (by decide +kernel) (by decide +kernel)
theorem t_412 : (Jvm.Cond.selects "TermBench$Typing" ({ cls := "TermBench$Typing", name := "typeTerm", desc := "(LTermBench$Program;IJI)J" } : Jvm.MethodName) ({ cls := "TermBench$Typing", name := "typeTerm", desc := "(LTermBench$Program;IJI)J" } : Jvm.MethodName)) ∈ qw := qm (i := 412) (by decide +kernel) (by decide +kernel)
theorem t_413 : (Jvm.Cond.code ({ cls := "TermBench$Typing", name := "typeTerm", desc := "(LTermBench$Program;IJI)J" } : Jvm.MethodName) prog_7_method_3_code (8 : Nat) (Option.some Jvm.ClassFile.FieldType.long)) ∈ qw := qm (i := 413) (by decide +kernel) (by decide +kernel)
theorem t_414 : (Jvm.Cond.methodLink "TermBench$Typing" (26 : Nat) ({ cls := "TermBench$Typing", name := "typeByKind", desc := "(LTermBench$Program;IJI)J" } : Jvm.MethodName)) ∈ qw := qm (i := 414) (by decide +kernel) (by decide +kernel)
theorem t_416 : (Jvm.Cond.instanceMethod ({ cls := "TermBench$Typing", name := "typeByKind", desc := "(LTermBench$Program;IJI)J" } : Jvm.MethodName)) ∈ qw := qm (i := 416) (by decide +kernel) (by decide +kernel)
theorem t_417 : (Jvm.Cond.code ({ cls := "TermBench$Typing", name := "typeByKind", desc := "(LTermBench$Program;IJI)J" } : Jvm.MethodName) prog_7_method_4_code (6 : Nat) (Option.some Jvm.ClassFile.FieldType.long)) ∈ qw := qm (i := 417) (by decide +kernel) (by decide +kernel)
theorem t_418 : (Jvm.Cond.constantLong "TermBench$Typing" (41 : Nat) (2 : Int64)) ∈ qw := qm (i := 418) (by decide +kernel) (by decide +kernel)
theorem t_419 : (Jvm.Cond.methodLink "TermBench$Typing" (43 : Nat) ({ cls := "TermBench$Typing", name := "typeName", desc := "(LTermBench$Program;I)J" } : Jvm.MethodName)) ∈ qw := qm (i := 419) (by decide +kernel) (by decide +kernel)
theorem t_421 : (Jvm.Cond.instanceMethod ({ cls := "TermBench$Typing", name := "typeName", desc := "(LTermBench$Program;I)J" } : Jvm.MethodName)) ∈ qw := qm (i := 421) (by decide +kernel) (by decide +kernel)
theorem t_422 : (Jvm.Cond.code ({ cls := "TermBench$Typing", name := "typeName", desc := "(LTermBench$Program;I)J" } : Jvm.MethodName) prog_7_method_5_code (4 : Nat) (Option.some Jvm.ClassFile.FieldType.long)) ∈ qw := qm (i := 422) (by decide +kernel) (by decide +kernel)
theorem t_423 : (Jvm.Cond.methodLink "TermBench$Typing" (64 : Nat) ({ cls := "TermBench$Program", name := "binder", desc := "(I)I" } : Jvm.MethodName)) ∈ qw := qm (i := 423) (by decide +kernel) (by decide +kernel)
theorem t_424 : (Jvm.Cond.instanceMethod ({ cls := "TermBench$Program", name := "binder", desc := "(I)I" } : Jvm.MethodName)) ∈ qw := qm (i := 424) (by decide +kernel) (by decide +kernel)
theorem t_425 : (Jvm.Cond.selects "TermBench$Program" ({ cls := "TermBench$Program", name := "binder", desc := "(I)I" } : Jvm.MethodName) ({ cls := "TermBench$Program", name := "binder", desc := "(I)I" } : Jvm.MethodName)) ∈ qw := qm (i := 425) (by decide +kernel) (by decide +kernel)
theorem t_426 : (Jvm.Cond.code ({ cls := "TermBench$Program", name := "binder", desc := "(I)I" } : Jvm.MethodName) prog_5_method_7_code (4 : Nat) (Option.some Jvm.ClassFile.FieldType.int)) ∈ qw := qm (i := 426) (by decide +kernel) (by decide +kernel)
theorem t_427 : (Jvm.Cond.methodLink "TermBench$Typing" (47 : Nat) ({ cls := "TermBench$Program", name := "part", desc := "(II)I" } : Jvm.MethodName)) ∈ qw := qm (i := 427) (by decide +kernel) (by decide +kernel)
theorem t_428 : (Jvm.Cond.methodLink "TermBench$Typing" (51 : Nat) ({ cls := "TermBench$Typing", name := "typeTerm", desc := "(LTermBench$Program;IJI)J" } : Jvm.MethodName)) ∈ qw := qm (i := 428) (by decide +kernel) (by decide +kernel)
theorem t_429 : (Jvm.Cond.methodLink "TermBench$Typing" (54 : Nat) ({ cls := "TermBench$Typing", name := "typeCall", desc := "(LTermBench$Program;II)J" } : Jvm.MethodName)) ∈ qw := qm (i := 429) (by decide +kernel) (by decide +kernel)
theorem t_431 : (Jvm.Cond.instanceMethod ({ cls := "TermBench$Typing", name := "typeCall", desc := "(LTermBench$Program;II)J" } : Jvm.MethodName)) ∈ qw := qm (i := 431) (by decide +kernel) (by decide +kernel)
theorem t_432 : (Jvm.Cond.code ({ cls := "TermBench$Typing", name := "typeCall", desc := "(LTermBench$Program;II)J" } : Jvm.MethodName) prog_7_method_6_code (9 : Nat) (Option.some Jvm.ClassFile.FieldType.long)) ∈ qw := qm (i := 432) (by decide +kernel) (by decide +kernel)
theorem t_433 : (Jvm.Cond.methodLink "TermBench$Typing" (68 : Nat) ({ cls := "TermBench$Types", name := "isFrom", desc := "(J)Z" } : Jvm.MethodName)) ∈ qw := qm (i := 433) (by decide +kernel) (by decide +kernel)
theorem t_434 : (Jvm.Cond.methodLink "TermBench$Typing" (72 : Nat) ({ cls := "TermBench$Types", name := "taken", desc := "(J)J" } : Jvm.MethodName)) ∈ qw := qm (i := 434) (by decide +kernel) (by decide +kernel)
theorem t_435 : (Jvm.Cond.methodLink "TermBench$Typing" (76 : Nat) ({ cls := "TermBench$Types", name := "given", desc := "(J)J" } : Jvm.MethodName)) ∈ qw := qm (i := 435) (by decide +kernel) (by decide +kernel)
theorem t_436 : (Jvm.Cond.methodLink "TermBench$Typing" (58 : Nat) ({ cls := "TermBench$Typing", name := "typeFunction", desc := "(LTermBench$Program;IJI)J" } : Jvm.MethodName)) ∈ qw := qm (i := 436) (by decide +kernel) (by decide +kernel)
theorem t_438 : (Jvm.Cond.instanceMethod ({ cls := "TermBench$Typing", name := "typeFunction", desc := "(LTermBench$Program;IJI)J" } : Jvm.MethodName)) ∈ qw := qm (i := 438) (by decide +kernel) (by decide +kernel)
theorem t_439 : (Jvm.Cond.code ({ cls := "TermBench$Typing", name := "typeFunction", desc := "(LTermBench$Program;IJI)J" } : Jvm.MethodName) prog_7_method_7_code (10 : Nat) (Option.some Jvm.ClassFile.FieldType.long)) ∈ qw := qm (i := 439) (by decide +kernel) (by decide +kernel)
theorem t_440 : (Jvm.Cond.methodLink "TermBench$Typing" (30 : Nat) ({ cls := "TermBench$Types", name := "consistent", desc := "(JJI)Z" } : Jvm.MethodName)) ∈ qw := qm (i := 440) (by decide +kernel) (by decide +kernel)
theorem t_441 : (Jvm.Cond.static ({ cls := "TermBench$Types", name := "consistent", desc := "(JJI)Z" } : Jvm.MethodName)) ∈ qw := qm (i := 441) (by decide +kernel) (by decide +kernel)
theorem t_442 : (Jvm.Cond.code ({ cls := "TermBench$Types", name := "consistent", desc := "(JJI)Z" } : Jvm.MethodName) prog_6_method_8_code (5 : Nat) (Option.some Jvm.ClassFile.FieldType.boolean)) ∈ qw := qm (i := 442) (by decide +kernel) (by decide +kernel)
theorem t_443 : (Jvm.Cond.methodLink "TermBench$Types" (17 : Nat) ({ cls := "TermBench$Types", name := "isFrom", desc := "(J)Z" } : Jvm.MethodName)) ∈ qw := qm (i := 443) (by decide +kernel) (by decide +kernel)
theorem t_444 : (Jvm.Cond.methodLink "TermBench$Types" (21 : Nat) ({ cls := "TermBench$Types", name := "taken", desc := "(J)J" } : Jvm.MethodName)) ∈ qw := qm (i := 444) (by decide +kernel) (by decide +kernel)
theorem t_445 : (Jvm.Cond.methodLink "TermBench$Types" (25 : Nat) ({ cls := "TermBench$Types", name := "consistent", desc := "(JJI)Z" } : Jvm.MethodName)) ∈ qw := qm (i := 445) (by decide +kernel) (by decide +kernel)
theorem t_446 : (Jvm.Cond.methodLink "TermBench$Types" (29 : Nat) ({ cls := "TermBench$Types", name := "given", desc := "(J)J" } : Jvm.MethodName)) ∈ qw := qm (i := 446) (by decide +kernel) (by decide +kernel)
theorem t_447 : (Jvm.Cond.methodLink "TermBench$Typing" (79 : Nat) ({ cls := "TermBench$Types", name := "from", desc := "(JJ)J" } : Jvm.MethodName)) ∈ qw := qm (i := 447) (by decide +kernel) (by decide +kernel)
theorem t_448 : (Jvm.Cond.static ({ cls := "TermBench$Types", name := "from", desc := "(JJ)J" } : Jvm.MethodName)) ∈ qw := qm (i := 448) (by decide +kernel) (by decide +kernel)
theorem t_449 : (Jvm.Cond.code ({ cls := "TermBench$Types", name := "from", desc := "(JJ)J" } : Jvm.MethodName) prog_6_method_7_code (5 : Nat) (Option.some Jvm.ClassFile.FieldType.long)) ∈ qw := qm (i := 449) (by decide +kernel) (by decide +kernel)
theorem t_451 : (Jvm.Cond.instanceMethod ({ cls := "TermBench", name := "got", desc := "()J" } : Jvm.MethodName)) ∈ qw := qm (i := 451) (by decide +kernel) (by decide +kernel)
theorem t_452 : (Jvm.Cond.selects "TermBench" ({ cls := "TermBench", name := "got", desc := "()J" } : Jvm.MethodName) ({ cls := "TermBench", name := "got", desc := "()J" } : Jvm.MethodName)) ∈ qw := qm (i := 452) (by decide +kernel) (by decide +kernel)
theorem t_453 : (Jvm.Cond.code ({ cls := "TermBench", name := "got", desc := "()J" } : Jvm.MethodName) prog_1_method_19_code (1 : Nat) (Option.some Jvm.ClassFile.FieldType.long)) ∈ qw := qm (i := 453) (by decide +kernel) (by decide +kernel)
theorem t_455 : (Jvm.Cond.instanceMethod ({ cls := "TermBench", name := "expected", desc := "()J" } : Jvm.MethodName)) ∈ qw := qm (i := 455) (by decide +kernel) (by decide +kernel)
theorem t_456 : (Jvm.Cond.selects "TermBench" ({ cls := "TermBench", name := "expected", desc := "()J" } : Jvm.MethodName) ({ cls := "TermBench", name := "expected", desc := "()J" } : Jvm.MethodName)) ∈ qw := qm (i := 456) (by decide +kernel) (by decide +kernel)
theorem t_457 : (Jvm.Cond.code ({ cls := "TermBench", name := "expected", desc := "()J" } : Jvm.MethodName) prog_1_method_20_code (1 : Nat) (Option.some Jvm.ClassFile.FieldType.long)) ∈ qw := qm (i := 457) (by decide +kernel) (by decide +kernel)
theorem t_459 : (Jvm.Cond.instanceMethod ({ cls := "TermBench", name := "marks", desc := "()I" } : Jvm.MethodName)) ∈ qw := qm (i := 459) (by decide +kernel) (by decide +kernel)
theorem t_460 : (Jvm.Cond.selects "TermBench" ({ cls := "TermBench", name := "marks", desc := "()I" } : Jvm.MethodName) ({ cls := "TermBench", name := "marks", desc := "()I" } : Jvm.MethodName)) ∈ qw := qm (i := 460) (by decide +kernel) (by decide +kernel)
theorem t_461 : (Jvm.Cond.code ({ cls := "TermBench", name := "marks", desc := "()I" } : Jvm.MethodName) prog_1_method_21_code (1 : Nat) (Option.some Jvm.ClassFile.FieldType.int)) ∈ qw := qm (i := 461) (by decide +kernel) (by decide +kernel)
theorem t_462 : (Jvm.Cond.methodLink "TermBench" (129 : Nat) ({ cls := "TermBench$Typing", name := "countMarks", desc := "(I)I" } : Jvm.MethodName)) ∈ qw := qm (i := 462) (by decide +kernel) (by decide +kernel)
theorem t_463 : (Jvm.Cond.instanceMethod ({ cls := "TermBench$Typing", name := "countMarks", desc := "(I)I" } : Jvm.MethodName)) ∈ qw := qm (i := 463) (by decide +kernel) (by decide +kernel)
theorem t_464 : (Jvm.Cond.selects "TermBench$Typing" ({ cls := "TermBench$Typing", name := "countMarks", desc := "(I)I" } : Jvm.MethodName) ({ cls := "TermBench$Typing", name := "countMarks", desc := "(I)I" } : Jvm.MethodName)) ∈ qw := qm (i := 464) (by decide +kernel) (by decide +kernel)
theorem t_465 : (Jvm.Cond.code ({ cls := "TermBench$Typing", name := "countMarks", desc := "(I)I" } : Jvm.MethodName) prog_7_method_2_code (4 : Nat) (Option.some Jvm.ClassFile.FieldType.int)) ∈ qw := qm (i := 465) (by decide +kernel) (by decide +kernel)
theorem t_467 : (Jvm.Cond.instanceMethod ({ cls := "TermBench", name := "terms", desc := "()I" } : Jvm.MethodName)) ∈ qw := qm (i := 467) (by decide +kernel) (by decide +kernel)
theorem t_468 : (Jvm.Cond.selects "TermBench" ({ cls := "TermBench", name := "terms", desc := "()I" } : Jvm.MethodName) ({ cls := "TermBench", name := "terms", desc := "()I" } : Jvm.MethodName)) ∈ qw := qm (i := 468) (by decide +kernel) (by decide +kernel)
theorem t_469 : (Jvm.Cond.code ({ cls := "TermBench", name := "terms", desc := "()I" } : Jvm.MethodName) prog_1_method_22_code (1 : Nat) (Option.some Jvm.ClassFile.FieldType.int)) ∈ qw := qm (i := 469) (by decide +kernel) (by decide +kernel)
theorem t_471 : (Jvm.Cond.instanceMethod ({ cls := "TermBench", name := "text", desc := "(I)J" } : Jvm.MethodName)) ∈ qw := qm (i := 471) (by decide +kernel) (by decide +kernel)
theorem t_472 : (Jvm.Cond.selects "TermBench" ({ cls := "TermBench", name := "text", desc := "(I)J" } : Jvm.MethodName) ({ cls := "TermBench", name := "text", desc := "(I)J" } : Jvm.MethodName)) ∈ qw := qm (i := 472) (by decide +kernel) (by decide +kernel)
theorem t_473 : (Jvm.Cond.code ({ cls := "TermBench", name := "text", desc := "(I)J" } : Jvm.MethodName) prog_1_method_23_code (2 : Nat) (Option.some Jvm.ClassFile.FieldType.long)) ∈ qw := qm (i := 473) (by decide +kernel) (by decide +kernel)
theorem t_474 : (Jvm.Cond.methodLink "TermBench" (132 : Nat) ({ cls := "TermBench$Page", name := "eightOf", desc := "(I)J" } : Jvm.MethodName)) ∈ qw := qm (i := 474) (by decide +kernel) (by decide +kernel)
theorem t_475 : (Jvm.Cond.instanceMethod ({ cls := "TermBench$Page", name := "eightOf", desc := "(I)J" } : Jvm.MethodName)) ∈ qw := qm (i := 475) (by decide +kernel) (by decide +kernel)
theorem t_476 : (Jvm.Cond.selects "TermBench$Page" ({ cls := "TermBench$Page", name := "eightOf", desc := "(I)J" } : Jvm.MethodName) ({ cls := "TermBench$Page", name := "eightOf", desc := "(I)J" } : Jvm.MethodName)) ∈ qw := qm (i := 476) (by decide +kernel) (by decide +kernel)
theorem t_477 : (Jvm.Cond.code ({ cls := "TermBench$Page", name := "eightOf", desc := "(I)J" } : Jvm.MethodName) prog_4_method_3_code (2 : Nat) (Option.some Jvm.ClassFile.FieldType.long)) ∈ qw := qm (i := 477) (by decide +kernel) (by decide +kernel)
theorem t_479 : (Jvm.Cond.instanceMethod ({ cls := "TermBench", name := "run", desc := "()I" } : Jvm.MethodName)) ∈ qw := qm (i := 479) (by decide +kernel) (by decide +kernel)
theorem t_480 : (Jvm.Cond.selects "TermBench" ({ cls := "TermBench", name := "run", desc := "()I" } : Jvm.MethodName) ({ cls := "TermBench", name := "run", desc := "()I" } : Jvm.MethodName)) ∈ qw := qm (i := 480) (by decide +kernel) (by decide +kernel)
theorem t_481 : (Jvm.Cond.code ({ cls := "TermBench", name := "run", desc := "()I" } : Jvm.MethodName) prog_1_method_24_code (1 : Nat) (Option.some Jvm.ClassFile.FieldType.int)) ∈ qw := qm (i := 481) (by decide +kernel) (by decide +kernel)
theorem t_482 : (Jvm.Cond.methodLink "TermBench" (136 : Nat) ({ cls := "TermBench$Machine", name := "start", desc := "(LTermBench$Program;[I)I" } : Jvm.MethodName)) ∈ qw := qm (i := 482) (by decide +kernel) (by decide +kernel)
theorem t_483 : (Jvm.Cond.instanceMethod ({ cls := "TermBench$Machine", name := "start", desc := "(LTermBench$Program;[I)I" } : Jvm.MethodName)) ∈ qw := qm (i := 483) (by decide +kernel) (by decide +kernel)
theorem t_484 : (Jvm.Cond.selects "TermBench$Machine" ({ cls := "TermBench$Machine", name := "start", desc := "(LTermBench$Program;[I)I" } : Jvm.MethodName) ({ cls := "TermBench$Machine", name := "start", desc := "(LTermBench$Program;[I)I" } : Jvm.MethodName)) ∈ qw := qm (i := 484) (by decide +kernel) (by decide +kernel)
theorem t_485 : (Jvm.Cond.code ({ cls := "TermBench$Machine", name := "start", desc := "(LTermBench$Program;[I)I" } : Jvm.MethodName) prog_3_method_2_code (5 : Nat) (Option.some Jvm.ClassFile.FieldType.int)) ∈ qw := qm (i := 485) (by decide +kernel) (by decide +kernel)
theorem t_486 : (Jvm.Cond.methodLink "TermBench$Machine" (32 : Nat) ({ cls := "TermBench$Machine", name := "runTerm", desc := "(LTermBench$Program;[IIII)J" } : Jvm.MethodName)) ∈ qw := qm (i := 486) (by decide +kernel) (by decide +kernel)
theorem t_488 : (Jvm.Cond.instanceMethod ({ cls := "TermBench$Machine", name := "runTerm", desc := "(LTermBench$Program;[IIII)J" } : Jvm.MethodName)) ∈ qw := qm (i := 488) (by decide +kernel) (by decide +kernel)
theorem t_489 : (Jvm.Cond.code ({ cls := "TermBench$Machine", name := "runTerm", desc := "(LTermBench$Program;[IIII)J" } : Jvm.MethodName) prog_3_method_6_code (6 : Nat) (Option.some Jvm.ClassFile.FieldType.long)) ∈ qw := qm (i := 489) (by decide +kernel) (by decide +kernel)
theorem t_490 : (Jvm.Cond.methodLink "TermBench$Machine" (43 : Nat) ({ cls := "TermBench$Machine", name := "value", desc := "(II)J" } : Jvm.MethodName)) ∈ qw := qm (i := 490) (by decide +kernel) (by decide +kernel)
theorem t_491 : (Jvm.Cond.static ({ cls := "TermBench$Machine", name := "value", desc := "(II)J" } : Jvm.MethodName)) ∈ qw := qm (i := 491) (by decide +kernel) (by decide +kernel)
theorem t_492 : (Jvm.Cond.code ({ cls := "TermBench$Machine", name := "value", desc := "(II)J" } : Jvm.MethodName) prog_3_method_3_code (2 : Nat) (Option.some Jvm.ClassFile.FieldType.long)) ∈ qw := qm (i := 492) (by decide +kernel) (by decide +kernel)
theorem t_493 : (Jvm.Cond.methodLink "TermBench$Machine" (55 : Nat) ({ cls := "TermBench$Machine", name := "standsFor", desc := "(II)J" } : Jvm.MethodName)) ∈ qw := qm (i := 493) (by decide +kernel) (by decide +kernel)
theorem t_495 : (Jvm.Cond.instanceMethod ({ cls := "TermBench$Machine", name := "standsFor", desc := "(II)J" } : Jvm.MethodName)) ∈ qw := qm (i := 495) (by decide +kernel) (by decide +kernel)
theorem t_496 : (Jvm.Cond.code ({ cls := "TermBench$Machine", name := "standsFor", desc := "(II)J" } : Jvm.MethodName) prog_3_method_10_code (5 : Nat) (Option.some Jvm.ClassFile.FieldType.long)) ∈ qw := qm (i := 496) (by decide +kernel) (by decide +kernel)
theorem t_497 : (Jvm.Cond.methodLink "TermBench$Machine" (58 : Nat) ({ cls := "TermBench$Machine", name := "runSum", desc := "(LTermBench$Program;[IIII)J" } : Jvm.MethodName)) ∈ qw := qm (i := 497) (by decide +kernel) (by decide +kernel)
theorem t_499 : (Jvm.Cond.instanceMethod ({ cls := "TermBench$Machine", name := "runSum", desc := "(LTermBench$Program;[IIII)J" } : Jvm.MethodName)) ∈ qw := qm (i := 499) (by decide +kernel) (by decide +kernel)
theorem t_500 : (Jvm.Cond.code ({ cls := "TermBench$Machine", name := "runSum", desc := "(LTermBench$Program;[IIII)J" } : Jvm.MethodName) prog_3_method_7_code (10 : Nat) (Option.some Jvm.ClassFile.FieldType.long)) ∈ qw := qm (i := 500) (by decide +kernel) (by decide +kernel)
theorem t_501 : (Jvm.Cond.methodLink "TermBench$Machine" (64 : Nat) ({ cls := "TermBench$Program", name := "part", desc := "(II)I" } : Jvm.MethodName)) ∈ qw := qm (i := 501) (by decide +kernel) (by decide +kernel)
theorem t_502 : (Jvm.Cond.methodLink "TermBench$Machine" (36 : Nat) ({ cls := "TermBench$Machine", name := "outcome", desc := "(J)I" } : Jvm.MethodName)) ∈ qw := qm (i := 502) (by decide +kernel) (by decide +kernel)
theorem t_503 : (Jvm.Cond.static ({ cls := "TermBench$Machine", name := "outcome", desc := "(J)I" } : Jvm.MethodName)) ∈ qw := qm (i := 503) (by decide +kernel) (by decide +kernel)
theorem t_504 : (Jvm.Cond.code ({ cls := "TermBench$Machine", name := "outcome", desc := "(J)I" } : Jvm.MethodName) prog_3_method_4_code (2 : Nat) (Option.some Jvm.ClassFile.FieldType.int)) ∈ qw := qm (i := 504) (by decide +kernel) (by decide +kernel)
theorem t_505 : (Jvm.Cond.methodLink "TermBench$Machine" (40 : Nat) ({ cls := "TermBench$Machine", name := "content", desc := "(J)I" } : Jvm.MethodName)) ∈ qw := qm (i := 505) (by decide +kernel) (by decide +kernel)
theorem t_506 : (Jvm.Cond.static ({ cls := "TermBench$Machine", name := "content", desc := "(J)I" } : Jvm.MethodName)) ∈ qw := qm (i := 506) (by decide +kernel) (by decide +kernel)
theorem t_507 : (Jvm.Cond.code ({ cls := "TermBench$Machine", name := "content", desc := "(J)I" } : Jvm.MethodName) prog_3_method_5_code (2 : Nat) (Option.some Jvm.ClassFile.FieldType.int)) ∈ qw := qm (i := 507) (by decide +kernel) (by decide +kernel)
theorem t_508 : (Jvm.Cond.methodLink "TermBench$Machine" (61 : Nat) ({ cls := "TermBench$Machine", name := "runCall", desc := "(LTermBench$Program;[IIII)J" } : Jvm.MethodName)) ∈ qw := qm (i := 508) (by decide +kernel) (by decide +kernel)
theorem t_510 : (Jvm.Cond.instanceMethod ({ cls := "TermBench$Machine", name := "runCall", desc := "(LTermBench$Program;[IIII)J" } : Jvm.MethodName)) ∈ qw := qm (i := 510) (by decide +kernel) (by decide +kernel)
theorem t_511 : (Jvm.Cond.code ({ cls := "TermBench$Machine", name := "runCall", desc := "(LTermBench$Program;[IIII)J" } : Jvm.MethodName) prog_3_method_8_code (13 : Nat) (Option.some Jvm.ClassFile.FieldType.long)) ∈ qw := qm (i := 511) (by decide +kernel) (by decide +kernel)
theorem t_512 : (Jvm.Cond.methodLink "TermBench$Machine" (68 : Nat) ({ cls := "TermBench$Machine", name := "bind", desc := "(IJI)I" } : Jvm.MethodName)) ∈ qw := qm (i := 512) (by decide +kernel) (by decide +kernel)
theorem t_514 : (Jvm.Cond.instanceMethod ({ cls := "TermBench$Machine", name := "bind", desc := "(IJI)I" } : Jvm.MethodName)) ∈ qw := qm (i := 514) (by decide +kernel) (by decide +kernel)
theorem t_515 : (Jvm.Cond.code ({ cls := "TermBench$Machine", name := "bind", desc := "(IJI)I" } : Jvm.MethodName) prog_3_method_9_code (5 : Nat) (Option.some Jvm.ClassFile.FieldType.int)) ∈ qw := qm (i := 515) (by decide +kernel) (by decide +kernel)
theorem t_517 : (Jvm.Cond.instanceMethod ({ cls := "TermBench", name := "result", desc := "()I" } : Jvm.MethodName)) ∈ qw := qm (i := 517) (by decide +kernel) (by decide +kernel)
theorem t_518 : (Jvm.Cond.selects "TermBench" ({ cls := "TermBench", name := "result", desc := "()I" } : Jvm.MethodName) ({ cls := "TermBench", name := "result", desc := "()I" } : Jvm.MethodName)) ∈ qw := qm (i := 518) (by decide +kernel) (by decide +kernel)
theorem t_519 : (Jvm.Cond.code ({ cls := "TermBench", name := "result", desc := "()I" } : Jvm.MethodName) prog_1_method_25_code (1 : Nat) (Option.some Jvm.ClassFile.FieldType.int)) ∈ qw := qm (i := 519) (by decide +kernel) (by decide +kernel)
theorem t_521 : (Jvm.Cond.instanceMethod ({ cls := "TermBench", name := "units", desc := "()I" } : Jvm.MethodName)) ∈ qw := qm (i := 521) (by decide +kernel) (by decide +kernel)
theorem t_522 : (Jvm.Cond.selects "TermBench" ({ cls := "TermBench", name := "units", desc := "()I" } : Jvm.MethodName) ({ cls := "TermBench", name := "units", desc := "()I" } : Jvm.MethodName)) ∈ qw := qm (i := 522) (by decide +kernel) (by decide +kernel)
theorem t_523 : (Jvm.Cond.code ({ cls := "TermBench", name := "units", desc := "()I" } : Jvm.MethodName) prog_1_method_26_code (1 : Nat) (Option.some Jvm.ClassFile.FieldType.int)) ∈ qw := qm (i := 523) (by decide +kernel) (by decide +kernel)
theorem t_530 : (Jvm.Cond.fieldLink "TermBenchModel" (7 : Nat) "TermBenchModel" "count" "I") ∈ qw := qm (i := 530) (by decide +kernel) (by decide +kernel)
theorem t_531 : (Jvm.Cond.fieldLink "TermBenchModel" (123 : Nat) "TermBenchModel" "cursor" "I") ∈ qw := qm (i := 531) (by decide +kernel) (by decide +kernel)
theorem t_532 : (Jvm.Cond.fieldLink "TermBenchModel" (13 : Nat) "TermBenchModel" "kinds" "[I") ∈ qw := qm (i := 532) (by decide +kernel) (by decide +kernel)
theorem t_533 : (Jvm.Cond.fieldLink "TermBenchModel" (17 : Nat) "TermBenchModel" "values" "[I") ∈ qw := qm (i := 533) (by decide +kernel) (by decide +kernel)
theorem t_534 : (Jvm.Cond.fieldLink "TermBenchModel" (20 : Nat) "TermBenchModel" "types" "[J") ∈ qw := qm (i := 534) (by decide +kernel) (by decide +kernel)
theorem t_535 : (Jvm.Cond.fieldLink "TermBenchModel" (143 : Nat) "TermBenchModel" "kept" "I") ∈ qw := qm (i := 535) (by decide +kernel) (by decide +kernel)
theorem t_536 : (Jvm.Cond.fieldLink "TermBenchModel" (149 : Nat) "TermBenchModel" "aside" "I") ∈ qw := qm (i := 536) (by decide +kernel) (by decide +kernel)
theorem t_537 : (Jvm.Cond.fieldLink "TermBenchModel" (24 : Nat) "TermBenchModel" "counts" "[I") ∈ qw := qm (i := 537) (by decide +kernel) (by decide +kernel)
theorem t_538 : (Jvm.Cond.fieldLink "TermBenchModel" (27 : Nat) "TermBenchModel" "cursors" "[I") ∈ qw := qm (i := 538) (by decide +kernel) (by decide +kernel)
theorem t_539 : (Jvm.Cond.fieldLink "TermBenchModel" (30 : Nat) "TermBenchModel" "oldKinds" "[I") ∈ qw := qm (i := 539) (by decide +kernel) (by decide +kernel)
theorem t_540 : (Jvm.Cond.fieldLink "TermBenchModel" (33 : Nat) "TermBenchModel" "oldValues" "[I") ∈ qw := qm (i := 540) (by decide +kernel) (by decide +kernel)
theorem t_541 : (Jvm.Cond.fieldLink "TermBenchModel" (36 : Nat) "TermBenchModel" "oldTypes" "[J") ∈ qw := qm (i := 541) (by decide +kernel) (by decide +kernel)
theorem t_542 : (Jvm.Cond.fieldLink "TermBenchModel" (126 : Nat) "TermBenchModel" "typed" "Z") ∈ qw := qm (i := 542) (by decide +kernel) (by decide +kernel)
theorem t_543 : (Jvm.Cond.fieldLink "TermBenchModel" (39 : Nat) "TermBenchModel" "gots" "[J") ∈ qw := qm (i := 543) (by decide +kernel) (by decide +kernel)
theorem t_544 : (Jvm.Cond.fieldLink "TermBenchModel" (42 : Nat) "TermBenchModel" "wanted" "[J") ∈ qw := qm (i := 544) (by decide +kernel) (by decide +kernel)
theorem t_545 : (Jvm.Cond.fieldLink "TermBenchModel" (45 : Nat) "TermBenchModel" "marked" "[I") ∈ qw := qm (i := 545) (by decide +kernel) (by decide +kernel)
theorem t_546 : (Jvm.Cond.fieldLink "TermBenchModel" (130 : Nat) "TermBenchModel" "spelled" "Z") ∈ qw := qm (i := 546) (by decide +kernel) (by decide +kernel)
theorem t_547 : (Jvm.Cond.fieldLink "TermBenchModel" (184 : Nat) "TermBenchModel" "length" "I") ∈ qw := qm (i := 547) (by decide +kernel) (by decide +kernel)
theorem t_548 : (Jvm.Cond.fieldLink "TermBenchModel" (48 : Nat) "TermBenchModel" "letters" "[I") ∈ qw := qm (i := 548) (by decide +kernel) (by decide +kernel)
theorem t_549 : (Jvm.Cond.fieldLink "TermBenchModel" (51 : Nat) "TermBenchModel" "owner" "[I") ∈ qw := qm (i := 549) (by decide +kernel) (by decide +kernel)
theorem t_550 : (Jvm.Cond.fieldLink "TermBenchModel" (54 : Nat) "TermBenchModel" "begins" "[I") ∈ qw := qm (i := 550) (by decide +kernel) (by decide +kernel)
theorem t_551 : (Jvm.Cond.fieldLink "TermBenchModel" (57 : Nat) "TermBenchModel" "inside" "[I") ∈ qw := qm (i := 551) (by decide +kernel) (by decide +kernel)
theorem t_552 : (Jvm.Cond.fieldLink "TermBenchModel" (60 : Nat) "TermBenchModel" "passed" "[I") ∈ qw := qm (i := 552) (by decide +kernel) (by decide +kernel)
theorem t_553 : (Jvm.Cond.fieldLink "TermBenchModel" (63 : Nat) "TermBenchModel" "left" "[I") ∈ qw := qm (i := 553) (by decide +kernel) (by decide +kernel)
theorem t_554 : (Jvm.Cond.fieldLink "TermBenchModel" (246 : Nat) "TermBenchModel" "units" "I") ∈ qw := qm (i := 554) (by decide +kernel) (by decide +kernel)
theorem t_555 : (Jvm.Cond.fieldLink "TermBenchModel" (272 : Nat) "TermBenchModel" "number" "I") ∈ qw := qm (i := 555) (by decide +kernel) (by decide +kernel)
theorem t_556 : (Jvm.Cond.fieldLink "TermBenchModel" (243 : Nat) "TermBenchModel" "running" "I") ∈ qw := qm (i := 556) (by decide +kernel) (by decide +kernel)
theorem t_557 : (Jvm.Cond.fieldLink "TermBenchModel" (66 : Nat) "TermBenchModel" "term" "[I") ∈ qw := qm (i := 557) (by decide +kernel) (by decide +kernel)
theorem t_558 : (Jvm.Cond.fieldLink "TermBenchModel" (69 : Nat) "TermBenchModel" "stage" "[I") ∈ qw := qm (i := 558) (by decide +kernel) (by decide +kernel)
theorem t_559 : (Jvm.Cond.fieldLink "TermBenchModel" (72 : Nat) "TermBenchModel" "names" "[I") ∈ qw := qm (i := 559) (by decide +kernel) (by decide +kernel)
theorem t_560 : (Jvm.Cond.fieldLink "TermBenchModel" (75 : Nat) "TermBenchModel" "firstSort" "[I") ∈ qw := qm (i := 560) (by decide +kernel) (by decide +kernel)
theorem t_561 : (Jvm.Cond.fieldLink "TermBenchModel" (78 : Nat) "TermBenchModel" "firstNumber" "[I") ∈ qw := qm (i := 561) (by decide +kernel) (by decide +kernel)
theorem t_562 : (Jvm.Cond.fieldLink "TermBenchModel" (81 : Nat) "TermBenchModel" "firstNames" "[I") ∈ qw := qm (i := 562) (by decide +kernel) (by decide +kernel)
theorem t_563 : (Jvm.Cond.fieldLink "TermBenchModel" (249 : Nat) "TermBenchModel" "sort" "I") ∈ qw := qm (i := 563) (by decide +kernel) (by decide +kernel)
theorem t_564 : (Jvm.Cond.fieldLink "TermBenchModel" (252 : Nat) "TermBenchModel" "worth" "I") ∈ qw := qm (i := 564) (by decide +kernel) (by decide +kernel)
theorem t_565 : (Jvm.Cond.fieldLink "TermBenchModel" (255 : Nat) "TermBenchModel" "around" "I") ∈ qw := qm (i := 565) (by decide +kernel) (by decide +kernel)
theorem t_566 : (Jvm.Cond.fieldLink "TermBenchModel" (262 : Nat) "TermBenchModel" "bound" "I") ∈ qw := qm (i := 566) (by decide +kernel) (by decide +kernel)
theorem t_567 : (Jvm.Cond.fieldLink "TermBenchModel" (84 : Nat) "TermBenchModel" "boundName" "[I") ∈ qw := qm (i := 567) (by decide +kernel) (by decide +kernel)
theorem t_568 : (Jvm.Cond.fieldLink "TermBenchModel" (87 : Nat) "TermBenchModel" "boundSort" "[I") ∈ qw := qm (i := 568) (by decide +kernel) (by decide +kernel)
theorem t_569 : (Jvm.Cond.fieldLink "TermBenchModel" (90 : Nat) "TermBenchModel" "boundNumber" "[I") ∈ qw := qm (i := 569) (by decide +kernel) (by decide +kernel)
theorem t_570 : (Jvm.Cond.fieldLink "TermBenchModel" (93 : Nat) "TermBenchModel" "boundNames" "[I") ∈ qw := qm (i := 570) (by decide +kernel) (by decide +kernel)
theorem t_571 : (Jvm.Cond.fieldLink "TermBenchModel" (96 : Nat) "TermBenchModel" "before" "[I") ∈ qw := qm (i := 571) (by decide +kernel) (by decide +kernel)
theorem t_658 : (Jvm.Cond.instanceMethod ({ cls := "TermBenchModel", name := "undo", desc := "()Z" } : Jvm.MethodName)) ∈ qw := qm (i := 658) (by decide +kernel) (by decide +kernel)
theorem t_659 : (Jvm.Cond.selects "TermBenchModel" ({ cls := "TermBenchModel", name := "undo", desc := "()Z" } : Jvm.MethodName) ({ cls := "TermBenchModel", name := "undo", desc := "()Z" } : Jvm.MethodName)) ∈ qw := qm (i := 659) (by decide +kernel) (by decide +kernel)
theorem t_660 : (Jvm.Cond.code ({ cls := "TermBenchModel", name := "undo", desc := "()Z" } : Jvm.MethodName) prog_9_method_24_code (1 : Nat) (Option.some Jvm.ClassFile.FieldType.boolean)) ∈ qw := qm (i := 660) (by decide +kernel) (by decide +kernel)
theorem t_661 : (Jvm.Cond.methodLink "TermBenchModel" (133 : Nat) ({ cls := "TermBenchModel", name := "save", desc := "(I)V" } : Jvm.MethodName)) ∈ qw := qm (i := 661) (by decide +kernel) (by decide +kernel)
theorem t_663 : (Jvm.Cond.instanceMethod ({ cls := "TermBenchModel", name := "save", desc := "(I)V" } : Jvm.MethodName)) ∈ qw := qm (i := 663) (by decide +kernel) (by decide +kernel)
theorem t_664 : (Jvm.Cond.code ({ cls := "TermBenchModel", name := "save", desc := "(I)V" } : Jvm.MethodName) prog_9_method_19_code (3 : Nat) (Option.none : Option Jvm.ClassFile.FieldType)) ∈ qw := qm (i := 664) (by decide +kernel) (by decide +kernel)
theorem t_665 : (Jvm.Cond.methodLink "TermBenchModel" (140 : Nat) ({ cls := "TermBenchModel", name := "bring", desc := "(I)V" } : Jvm.MethodName)) ∈ qw := qm (i := 665) (by decide +kernel) (by decide +kernel)
theorem t_667 : (Jvm.Cond.instanceMethod ({ cls := "TermBenchModel", name := "bring", desc := "(I)V" } : Jvm.MethodName)) ∈ qw := qm (i := 667) (by decide +kernel) (by decide +kernel)
theorem t_668 : (Jvm.Cond.code ({ cls := "TermBenchModel", name := "bring", desc := "(I)V" } : Jvm.MethodName) prog_9_method_20_code (3 : Nat) (Option.none : Option Jvm.ClassFile.FieldType)) ∈ qw := qm (i := 668) (by decide +kernel) (by decide +kernel)
theorem t_670 : (Jvm.Cond.instanceMethod ({ cls := "TermBenchModel", name := "redo", desc := "()Z" } : Jvm.MethodName)) ∈ qw := qm (i := 670) (by decide +kernel) (by decide +kernel)
theorem t_671 : (Jvm.Cond.selects "TermBenchModel" ({ cls := "TermBenchModel", name := "redo", desc := "()Z" } : Jvm.MethodName) ({ cls := "TermBenchModel", name := "redo", desc := "()Z" } : Jvm.MethodName)) ∈ qw := qm (i := 671) (by decide +kernel) (by decide +kernel)
theorem t_672 : (Jvm.Cond.code ({ cls := "TermBenchModel", name := "redo", desc := "()Z" } : Jvm.MethodName) prog_9_method_25_code (1 : Nat) (Option.some Jvm.ClassFile.FieldType.boolean)) ∈ qw := qm (i := 672) (by decide +kernel) (by decide +kernel)
theorem t_674 : (Jvm.Cond.instanceMethod ({ cls := "TermBenchModel", name := "number", desc := "(I)Z" } : Jvm.MethodName)) ∈ qw := qm (i := 674) (by decide +kernel) (by decide +kernel)
theorem t_675 : (Jvm.Cond.selects "TermBenchModel" ({ cls := "TermBenchModel", name := "number", desc := "(I)Z" } : Jvm.MethodName) ({ cls := "TermBenchModel", name := "number", desc := "(I)Z" } : Jvm.MethodName)) ∈ qw := qm (i := 675) (by decide +kernel) (by decide +kernel)
theorem t_676 : (Jvm.Cond.code ({ cls := "TermBenchModel", name := "number", desc := "(I)Z" } : Jvm.MethodName) prog_9_method_26_code (2 : Nat) (Option.some Jvm.ClassFile.FieldType.boolean)) ∈ qw := qm (i := 676) (by decide +kernel) (by decide +kernel)
theorem t_677 : (Jvm.Cond.methodLink "TermBenchModel" (152 : Nat) ({ cls := "TermBenchModel", name := "begin", desc := "()V" } : Jvm.MethodName)) ∈ qw := qm (i := 677) (by decide +kernel) (by decide +kernel)
theorem t_679 : (Jvm.Cond.instanceMethod ({ cls := "TermBenchModel", name := "begin", desc := "()V" } : Jvm.MethodName)) ∈ qw := qm (i := 679) (by decide +kernel) (by decide +kernel)
theorem t_680 : (Jvm.Cond.code ({ cls := "TermBenchModel", name := "begin", desc := "()V" } : Jvm.MethodName) prog_9_method_22_code (1 : Nat) (Option.none : Option Jvm.ClassFile.FieldType)) ∈ qw := qm (i := 680) (by decide +kernel) (by decide +kernel)
theorem t_681 : (Jvm.Cond.methodLink "TermBenchModel" (155 : Nat) ({ cls := "TermBenchModel", name := "done", desc := "(I)Z" } : Jvm.MethodName)) ∈ qw := qm (i := 681) (by decide +kernel) (by decide +kernel)
theorem t_683 : (Jvm.Cond.instanceMethod ({ cls := "TermBenchModel", name := "done", desc := "(I)Z" } : Jvm.MethodName)) ∈ qw := qm (i := 683) (by decide +kernel) (by decide +kernel)
theorem t_684 : (Jvm.Cond.code ({ cls := "TermBenchModel", name := "done", desc := "(I)Z" } : Jvm.MethodName) prog_9_method_23_code (4 : Nat) (Option.some Jvm.ClassFile.FieldType.boolean)) ∈ qw := qm (i := 684) (by decide +kernel) (by decide +kernel)
theorem t_685 : (Jvm.Cond.methodLink "TermBenchModel" (137 : Nat) ({ cls := "TermBenchModel", name := "depth", desc := "(I)I" } : Jvm.MethodName)) ∈ qw := qm (i := 685) (by decide +kernel) (by decide +kernel)
theorem t_687 : (Jvm.Cond.instanceMethod ({ cls := "TermBenchModel", name := "depth", desc := "(I)I" } : Jvm.MethodName)) ∈ qw := qm (i := 687) (by decide +kernel) (by decide +kernel)
theorem t_688 : (Jvm.Cond.code ({ cls := "TermBenchModel", name := "depth", desc := "(I)I" } : Jvm.MethodName) prog_9_method_15_code (4 : Nat) (Option.some Jvm.ClassFile.FieldType.int)) ∈ qw := qm (i := 688) (by decide +kernel) (by decide +kernel)
theorem t_689 : (Jvm.Cond.methodLink "TermBenchModel" (116 : Nat) ({ cls := "TermBenchModel", name := "end", desc := "(I)I" } : Jvm.MethodName)) ∈ qw := qm (i := 689) (by decide +kernel) (by decide +kernel)
theorem t_691 : (Jvm.Cond.instanceMethod ({ cls := "TermBenchModel", name := "end", desc := "(I)I" } : Jvm.MethodName)) ∈ qw := qm (i := 691) (by decide +kernel) (by decide +kernel)
theorem t_692 : (Jvm.Cond.code ({ cls := "TermBenchModel", name := "end", desc := "(I)I" } : Jvm.MethodName) prog_9_method_12_code (4 : Nat) (Option.some Jvm.ClassFile.FieldType.int)) ∈ qw := qm (i := 692) (by decide +kernel) (by decide +kernel)
theorem t_693 : (Jvm.Cond.methodLink "TermBenchModel" (112 : Nat) ({ cls := "TermBenchModel", name := "parts", desc := "(I)I" } : Jvm.MethodName)) ∈ qw := qm (i := 693) (by decide +kernel) (by decide +kernel)
theorem t_694 : (Jvm.Cond.static ({ cls := "TermBenchModel", name := "parts", desc := "(I)I" } : Jvm.MethodName)) ∈ qw := qm (i := 694) (by decide +kernel) (by decide +kernel)
theorem t_695 : (Jvm.Cond.code ({ cls := "TermBenchModel", name := "parts", desc := "(I)I" } : Jvm.MethodName) prog_9_method_11_code (1 : Nat) (Option.some Jvm.ClassFile.FieldType.int)) ∈ qw := qm (i := 695) (by decide +kernel) (by decide +kernel)
theorem t_696 : (Jvm.Cond.methodLink "TermBenchModel" (146 : Nat) ({ cls := "TermBenchModel", name := "move", desc := "(II)V" } : Jvm.MethodName)) ∈ qw := qm (i := 696) (by decide +kernel) (by decide +kernel)
theorem t_698 : (Jvm.Cond.instanceMethod ({ cls := "TermBenchModel", name := "move", desc := "(II)V" } : Jvm.MethodName)) ∈ qw := qm (i := 698) (by decide +kernel) (by decide +kernel)
theorem t_699 : (Jvm.Cond.code ({ cls := "TermBenchModel", name := "move", desc := "(II)V" } : Jvm.MethodName) prog_9_method_21_code (4 : Nat) (Option.none : Option Jvm.ClassFile.FieldType)) ∈ qw := qm (i := 699) (by decide +kernel) (by decide +kernel)
theorem t_701 : (Jvm.Cond.instanceMethod ({ cls := "TermBenchModel", name := "name", desc := "(I)Z" } : Jvm.MethodName)) ∈ qw := qm (i := 701) (by decide +kernel) (by decide +kernel)
theorem t_702 : (Jvm.Cond.selects "TermBenchModel" ({ cls := "TermBenchModel", name := "name", desc := "(I)Z" } : Jvm.MethodName) ({ cls := "TermBenchModel", name := "name", desc := "(I)Z" } : Jvm.MethodName)) ∈ qw := qm (i := 702) (by decide +kernel) (by decide +kernel)
theorem t_703 : (Jvm.Cond.code ({ cls := "TermBenchModel", name := "name", desc := "(I)Z" } : Jvm.MethodName) prog_9_method_27_code (2 : Nat) (Option.some Jvm.ClassFile.FieldType.boolean)) ∈ qw := qm (i := 703) (by decide +kernel) (by decide +kernel)
theorem t_705 : (Jvm.Cond.instanceMethod ({ cls := "TermBenchModel", name := "sum", desc := "(Z)Z" } : Jvm.MethodName)) ∈ qw := qm (i := 705) (by decide +kernel) (by decide +kernel)
theorem t_706 : (Jvm.Cond.selects "TermBenchModel" ({ cls := "TermBenchModel", name := "sum", desc := "(Z)Z" } : Jvm.MethodName) ({ cls := "TermBenchModel", name := "sum", desc := "(Z)Z" } : Jvm.MethodName)) ∈ qw := qm (i := 706) (by decide +kernel) (by decide +kernel)
theorem t_707 : (Jvm.Cond.code ({ cls := "TermBenchModel", name := "sum", desc := "(Z)Z" } : Jvm.MethodName) prog_9_method_29_code (2 : Nat) (Option.some Jvm.ClassFile.FieldType.boolean)) ∈ qw := qm (i := 707) (by decide +kernel) (by decide +kernel)
theorem t_708 : (Jvm.Cond.methodLink "TermBenchModel" (163 : Nat) ({ cls := "TermBenchModel", name := "pair", desc := "(IZ)Z" } : Jvm.MethodName)) ∈ qw := qm (i := 708) (by decide +kernel) (by decide +kernel)
theorem t_710 : (Jvm.Cond.instanceMethod ({ cls := "TermBenchModel", name := "pair", desc := "(IZ)Z" } : Jvm.MethodName)) ∈ qw := qm (i := 710) (by decide +kernel) (by decide +kernel)
theorem t_711 : (Jvm.Cond.code ({ cls := "TermBenchModel", name := "pair", desc := "(IZ)Z" } : Jvm.MethodName) prog_9_method_28_code (4 : Nat) (Option.some Jvm.ClassFile.FieldType.boolean)) ∈ qw := qm (i := 711) (by decide +kernel) (by decide +kernel)
theorem t_712 : (Jvm.Cond.methodLink "TermBenchModel" (159 : Nat) ({ cls := "TermBenchModel", name := "insert", desc := "(IIIJ)V" } : Jvm.MethodName)) ∈ qw := qm (i := 712) (by decide +kernel) (by decide +kernel)
theorem t_714 : (Jvm.Cond.instanceMethod ({ cls := "TermBenchModel", name := "insert", desc := "(IIIJ)V" } : Jvm.MethodName)) ∈ qw := qm (i := 714) (by decide +kernel) (by decide +kernel)
theorem t_715 : (Jvm.Cond.code ({ cls := "TermBenchModel", name := "insert", desc := "(IIIJ)V" } : Jvm.MethodName) prog_9_method_17_code (7 : Nat) (Option.none : Option Jvm.ClassFile.FieldType)) ∈ qw := qm (i := 715) (by decide +kernel) (by decide +kernel)
theorem t_716 : (Jvm.Cond.methodLink "TermBenchModel" (119 : Nat) ({ cls := "TermBenchModel", name := "shift", desc := "(II)V" } : Jvm.MethodName)) ∈ qw := qm (i := 716) (by decide +kernel) (by decide +kernel)
theorem t_718 : (Jvm.Cond.instanceMethod ({ cls := "TermBenchModel", name := "shift", desc := "(II)V" } : Jvm.MethodName)) ∈ qw := qm (i := 718) (by decide +kernel) (by decide +kernel)
theorem t_719 : (Jvm.Cond.code ({ cls := "TermBenchModel", name := "shift", desc := "(II)V" } : Jvm.MethodName) prog_9_method_16_code (3 : Nat) (Option.none : Option Jvm.ClassFile.FieldType)) ∈ qw := qm (i := 719) (by decide +kernel) (by decide +kernel)
theorem t_721 : (Jvm.Cond.instanceMethod ({ cls := "TermBenchModel", name := "call", desc := "(Z)Z" } : Jvm.MethodName)) ∈ qw := qm (i := 721) (by decide +kernel) (by decide +kernel)
theorem t_722 : (Jvm.Cond.selects "TermBenchModel" ({ cls := "TermBenchModel", name := "call", desc := "(Z)Z" } : Jvm.MethodName) ({ cls := "TermBenchModel", name := "call", desc := "(Z)Z" } : Jvm.MethodName)) ∈ qw := qm (i := 722) (by decide +kernel) (by decide +kernel)
theorem t_723 : (Jvm.Cond.code ({ cls := "TermBenchModel", name := "call", desc := "(Z)Z" } : Jvm.MethodName) prog_9_method_30_code (2 : Nat) (Option.some Jvm.ClassFile.FieldType.boolean)) ∈ qw := qm (i := 723) (by decide +kernel) (by decide +kernel)
theorem t_725 : (Jvm.Cond.instanceMethod ({ cls := "TermBenchModel", name := "function", desc := "(IJ)Z" } : Jvm.MethodName)) ∈ qw := qm (i := 725) (by decide +kernel) (by decide +kernel)
theorem t_726 : (Jvm.Cond.selects "TermBenchModel" ({ cls := "TermBenchModel", name := "function", desc := "(IJ)Z" } : Jvm.MethodName) ({ cls := "TermBenchModel", name := "function", desc := "(IJ)Z" } : Jvm.MethodName)) ∈ qw := qm (i := 726) (by decide +kernel) (by decide +kernel)
theorem t_727 : (Jvm.Cond.code ({ cls := "TermBenchModel", name := "function", desc := "(IJ)Z" } : Jvm.MethodName) prog_9_method_31_code (4 : Nat) (Option.some Jvm.ClassFile.FieldType.boolean)) ∈ qw := qm (i := 727) (by decide +kernel) (by decide +kernel)
theorem t_728 : (Jvm.Cond.methodLink "TermBenchModel" (167 : Nat) ({ cls := "TermBenchModel", name := "isType", desc := "(J)Z" } : Jvm.MethodName)) ∈ qw := qm (i := 728) (by decide +kernel) (by decide +kernel)
theorem t_729 : (Jvm.Cond.static ({ cls := "TermBenchModel", name := "isType", desc := "(J)Z" } : Jvm.MethodName)) ∈ qw := qm (i := 729) (by decide +kernel) (by decide +kernel)
theorem t_730 : (Jvm.Cond.code ({ cls := "TermBenchModel", name := "isType", desc := "(J)Z" } : Jvm.MethodName) prog_9_method_4_code (3 : Nat) (Option.some Jvm.ClassFile.FieldType.boolean)) ∈ qw := qm (i := 730) (by decide +kernel) (by decide +kernel)
theorem t_731 : (Jvm.Cond.methodLink "TermBenchModel" (105 : Nat) ({ cls := "TermBenchModel", name := "behind", desc := "(JI)I" } : Jvm.MethodName)) ∈ qw := qm (i := 731) (by decide +kernel) (by decide +kernel)
theorem t_732 : (Jvm.Cond.static ({ cls := "TermBenchModel", name := "behind", desc := "(JI)I" } : Jvm.MethodName)) ∈ qw := qm (i := 732) (by decide +kernel) (by decide +kernel)
theorem t_733 : (Jvm.Cond.code ({ cls := "TermBenchModel", name := "behind", desc := "(JI)I" } : Jvm.MethodName) prog_9_method_3_code (6 : Nat) (Option.some Jvm.ClassFile.FieldType.int)) ∈ qw := qm (i := 733) (by decide +kernel) (by decide +kernel)
theorem t_734 : (Jvm.Cond.methodLink "TermBenchModel" (101 : Nat) ({ cls := "TermBenchModel", name := "symbol", desc := "(JI)I" } : Jvm.MethodName)) ∈ qw := qm (i := 734) (by decide +kernel) (by decide +kernel)
theorem t_735 : (Jvm.Cond.static ({ cls := "TermBenchModel", name := "symbol", desc := "(JI)I" } : Jvm.MethodName)) ∈ qw := qm (i := 735) (by decide +kernel) (by decide +kernel)
theorem t_736 : (Jvm.Cond.code ({ cls := "TermBenchModel", name := "symbol", desc := "(JI)I" } : Jvm.MethodName) prog_9_method_2_code (3 : Nat) (Option.some Jvm.ClassFile.FieldType.int)) ∈ qw := qm (i := 736) (by decide +kernel) (by decide +kernel)
theorem t_737 : (Jvm.Cond.constantLong "TermBenchModel" (99 : Nat) (3 : Int64)) ∈ qw := qm (i := 737) (by decide +kernel) (by decide +kernel)
theorem t_739 : (Jvm.Cond.instanceMethod ({ cls := "TermBenchModel", name := "claim", desc := "(J)Z" } : Jvm.MethodName)) ∈ qw := qm (i := 739) (by decide +kernel) (by decide +kernel)
theorem t_740 : (Jvm.Cond.selects "TermBenchModel" ({ cls := "TermBenchModel", name := "claim", desc := "(J)Z" } : Jvm.MethodName) ({ cls := "TermBenchModel", name := "claim", desc := "(J)Z" } : Jvm.MethodName)) ∈ qw := qm (i := 740) (by decide +kernel) (by decide +kernel)
theorem t_741 : (Jvm.Cond.code ({ cls := "TermBenchModel", name := "claim", desc := "(J)Z" } : Jvm.MethodName) prog_9_method_32_code (3 : Nat) (Option.some Jvm.ClassFile.FieldType.boolean)) ∈ qw := qm (i := 741) (by decide +kernel) (by decide +kernel)
theorem t_743 : (Jvm.Cond.instanceMethod ({ cls := "TermBenchModel", name := "remove", desc := "()Z" } : Jvm.MethodName)) ∈ qw := qm (i := 743) (by decide +kernel) (by decide +kernel)
theorem t_744 : (Jvm.Cond.selects "TermBenchModel" ({ cls := "TermBenchModel", name := "remove", desc := "()Z" } : Jvm.MethodName) ({ cls := "TermBenchModel", name := "remove", desc := "()Z" } : Jvm.MethodName)) ∈ qw := qm (i := 744) (by decide +kernel) (by decide +kernel)
theorem t_745 : (Jvm.Cond.code ({ cls := "TermBenchModel", name := "remove", desc := "()Z" } : Jvm.MethodName) prog_9_method_33_code (1 : Nat) (Option.some Jvm.ClassFile.FieldType.boolean)) ∈ qw := qm (i := 745) (by decide +kernel) (by decide +kernel)
theorem t_746 : (Jvm.Cond.methodLink "TermBenchModel" (171 : Nat) ({ cls := "TermBenchModel", name := "takeOut", desc := "(II)V" } : Jvm.MethodName)) ∈ qw := qm (i := 746) (by decide +kernel) (by decide +kernel)
theorem t_748 : (Jvm.Cond.instanceMethod ({ cls := "TermBenchModel", name := "takeOut", desc := "(II)V" } : Jvm.MethodName)) ∈ qw := qm (i := 748) (by decide +kernel) (by decide +kernel)
theorem t_749 : (Jvm.Cond.code ({ cls := "TermBenchModel", name := "takeOut", desc := "(II)V" } : Jvm.MethodName) prog_9_method_18_code (4 : Nat) (Option.none : Option Jvm.ClassFile.FieldType)) ∈ qw := qm (i := 749) (by decide +kernel) (by decide +kernel)
theorem t_751 : (Jvm.Cond.instanceMethod ({ cls := "TermBenchModel", name := "lift", desc := "()Z" } : Jvm.MethodName)) ∈ qw := qm (i := 751) (by decide +kernel) (by decide +kernel)
theorem t_752 : (Jvm.Cond.selects "TermBenchModel" ({ cls := "TermBenchModel", name := "lift", desc := "()Z" } : Jvm.MethodName) ({ cls := "TermBenchModel", name := "lift", desc := "()Z" } : Jvm.MethodName)) ∈ qw := qm (i := 752) (by decide +kernel) (by decide +kernel)
theorem t_753 : (Jvm.Cond.code ({ cls := "TermBenchModel", name := "lift", desc := "()Z" } : Jvm.MethodName) prog_9_method_34_code (4 : Nat) (Option.some Jvm.ClassFile.FieldType.boolean)) ∈ qw := qm (i := 753) (by decide +kernel) (by decide +kernel)
theorem t_754 : (Jvm.Cond.methodLink "TermBenchModel" (174 : Nat) ({ cls := "TermBenchModel", name := "above", desc := "(I)I" } : Jvm.MethodName)) ∈ qw := qm (i := 754) (by decide +kernel) (by decide +kernel)
theorem t_756 : (Jvm.Cond.instanceMethod ({ cls := "TermBenchModel", name := "above", desc := "(I)I" } : Jvm.MethodName)) ∈ qw := qm (i := 756) (by decide +kernel) (by decide +kernel)
theorem t_757 : (Jvm.Cond.code ({ cls := "TermBenchModel", name := "above", desc := "(I)I" } : Jvm.MethodName) prog_9_method_14_code (3 : Nat) (Option.some Jvm.ClassFile.FieldType.int)) ∈ qw := qm (i := 757) (by decide +kernel) (by decide +kernel)
theorem t_759 : (Jvm.Cond.instanceMethod ({ cls := "TermBenchModel", name := "up", desc := "()Z" } : Jvm.MethodName)) ∈ qw := qm (i := 759) (by decide +kernel) (by decide +kernel)
theorem t_760 : (Jvm.Cond.selects "TermBenchModel" ({ cls := "TermBenchModel", name := "up", desc := "()Z" } : Jvm.MethodName) ({ cls := "TermBenchModel", name := "up", desc := "()Z" } : Jvm.MethodName)) ∈ qw := qm (i := 760) (by decide +kernel) (by decide +kernel)
theorem t_761 : (Jvm.Cond.code ({ cls := "TermBenchModel", name := "up", desc := "()Z" } : Jvm.MethodName) prog_9_method_35_code (2 : Nat) (Option.some Jvm.ClassFile.FieldType.boolean)) ∈ qw := qm (i := 761) (by decide +kernel) (by decide +kernel)
theorem t_763 : (Jvm.Cond.instanceMethod ({ cls := "TermBenchModel", name := "down", desc := "(I)Z" } : Jvm.MethodName)) ∈ qw := qm (i := 763) (by decide +kernel) (by decide +kernel)
theorem t_764 : (Jvm.Cond.selects "TermBenchModel" ({ cls := "TermBenchModel", name := "down", desc := "(I)Z" } : Jvm.MethodName) ({ cls := "TermBenchModel", name := "down", desc := "(I)Z" } : Jvm.MethodName)) ∈ qw := qm (i := 764) (by decide +kernel) (by decide +kernel)
theorem t_765 : (Jvm.Cond.code ({ cls := "TermBenchModel", name := "down", desc := "(I)Z" } : Jvm.MethodName) prog_9_method_36_code (2 : Nat) (Option.some Jvm.ClassFile.FieldType.boolean)) ∈ qw := qm (i := 765) (by decide +kernel) (by decide +kernel)
theorem t_766 : (Jvm.Cond.methodLink "TermBenchModel" (177 : Nat) ({ cls := "TermBenchModel", name := "part", desc := "(II)I" } : Jvm.MethodName)) ∈ qw := qm (i := 766) (by decide +kernel) (by decide +kernel)
theorem t_768 : (Jvm.Cond.instanceMethod ({ cls := "TermBenchModel", name := "part", desc := "(II)I" } : Jvm.MethodName)) ∈ qw := qm (i := 768) (by decide +kernel) (by decide +kernel)
theorem t_769 : (Jvm.Cond.code ({ cls := "TermBenchModel", name := "part", desc := "(II)I" } : Jvm.MethodName) prog_9_method_13_code (3 : Nat) (Option.some Jvm.ClassFile.FieldType.int)) ∈ qw := qm (i := 769) (by decide +kernel) (by decide +kernel)
theorem t_771 : (Jvm.Cond.instanceMethod ({ cls := "TermBenchModel", name := "hole", desc := "()Z" } : Jvm.MethodName)) ∈ qw := qm (i := 771) (by decide +kernel) (by decide +kernel)
theorem t_772 : (Jvm.Cond.selects "TermBenchModel" ({ cls := "TermBenchModel", name := "hole", desc := "()Z" } : Jvm.MethodName) ({ cls := "TermBenchModel", name := "hole", desc := "()Z" } : Jvm.MethodName)) ∈ qw := qm (i := 772) (by decide +kernel) (by decide +kernel)
theorem t_773 : (Jvm.Cond.code ({ cls := "TermBenchModel", name := "hole", desc := "()Z" } : Jvm.MethodName) prog_9_method_37_code (5 : Nat) (Option.some Jvm.ClassFile.FieldType.boolean)) ∈ qw := qm (i := 773) (by decide +kernel) (by decide +kernel)
theorem t_774 : (Jvm.Cond.methodLink "TermBenchModel" (181 : Nat) ({ cls := "TermBenchModel", name := "spell", desc := "()V" } : Jvm.MethodName)) ∈ qw := qm (i := 774) (by decide +kernel) (by decide +kernel)
theorem t_776 : (Jvm.Cond.instanceMethod ({ cls := "TermBenchModel", name := "spell", desc := "()V" } : Jvm.MethodName)) ∈ qw := qm (i := 776) (by decide +kernel) (by decide +kernel)
theorem t_777 : (Jvm.Cond.code ({ cls := "TermBenchModel", name := "spell", desc := "()V" } : Jvm.MethodName) prog_9_method_46_code (5 : Nat) (Option.none : Option Jvm.ClassFile.FieldType)) ∈ qw := qm (i := 777) (by decide +kernel) (by decide +kernel)
theorem t_778 : (Jvm.Cond.methodLink "TermBenchModel" (197 : Nat) ({ cls := "TermBenchModel", name := "opens", desc := "(I)V" } : Jvm.MethodName)) ∈ qw := qm (i := 778) (by decide +kernel) (by decide +kernel)
theorem t_780 : (Jvm.Cond.instanceMethod ({ cls := "TermBenchModel", name := "opens", desc := "(I)V" } : Jvm.MethodName)) ∈ qw := qm (i := 780) (by decide +kernel) (by decide +kernel)
theorem t_781 : (Jvm.Cond.code ({ cls := "TermBenchModel", name := "opens", desc := "(I)V" } : Jvm.MethodName) prog_9_method_44_code (3 : Nat) (Option.none : Option Jvm.ClassFile.FieldType)) ∈ qw := qm (i := 781) (by decide +kernel) (by decide +kernel)
theorem t_782 : (Jvm.Cond.methodLink "TermBenchModel" (187 : Nat) ({ cls := "TermBenchModel", name := "put", desc := "(II)V" } : Jvm.MethodName)) ∈ qw := qm (i := 782) (by decide +kernel) (by decide +kernel)
theorem t_784 : (Jvm.Cond.instanceMethod ({ cls := "TermBenchModel", name := "put", desc := "(II)V" } : Jvm.MethodName)) ∈ qw := qm (i := 784) (by decide +kernel) (by decide +kernel)
theorem t_785 : (Jvm.Cond.code ({ cls := "TermBenchModel", name := "put", desc := "(II)V" } : Jvm.MethodName) prog_9_method_41_code (3 : Nat) (Option.none : Option Jvm.ClassFile.FieldType)) ∈ qw := qm (i := 785) (by decide +kernel) (by decide +kernel)
theorem t_786 : (Jvm.Cond.methodLink "TermBenchModel" (190 : Nat) ({ cls := "TermBenchModel", name := "putNumber", desc := "(II)V" } : Jvm.MethodName)) ∈ qw := qm (i := 786) (by decide +kernel) (by decide +kernel)
theorem t_788 : (Jvm.Cond.instanceMethod ({ cls := "TermBenchModel", name := "putNumber", desc := "(II)V" } : Jvm.MethodName)) ∈ qw := qm (i := 788) (by decide +kernel) (by decide +kernel)
theorem t_789 : (Jvm.Cond.code ({ cls := "TermBenchModel", name := "putNumber", desc := "(II)V" } : Jvm.MethodName) prog_9_method_43_code (4 : Nat) (Option.none : Option Jvm.ClassFile.FieldType)) ∈ qw := qm (i := 789) (by decide +kernel) (by decide +kernel)
theorem t_790 : (Jvm.Cond.methodLink "TermBenchModel" (193 : Nat) ({ cls := "TermBenchModel", name := "putType", desc := "(JI)V" } : Jvm.MethodName)) ∈ qw := qm (i := 790) (by decide +kernel) (by decide +kernel)
theorem t_792 : (Jvm.Cond.instanceMethod ({ cls := "TermBenchModel", name := "putType", desc := "(JI)V" } : Jvm.MethodName)) ∈ qw := qm (i := 792) (by decide +kernel) (by decide +kernel)
theorem t_793 : (Jvm.Cond.code ({ cls := "TermBenchModel", name := "putType", desc := "(JI)V" } : Jvm.MethodName) prog_9_method_42_code (9 : Nat) (Option.none : Option Jvm.ClassFile.FieldType)) ∈ qw := qm (i := 793) (by decide +kernel) (by decide +kernel)
theorem t_794 : (Jvm.Cond.methodLink "TermBenchModel" (200 : Nat) ({ cls := "TermBenchModel", name := "closes", desc := "(I)V" } : Jvm.MethodName)) ∈ qw := qm (i := 794) (by decide +kernel) (by decide +kernel)
theorem t_796 : (Jvm.Cond.instanceMethod ({ cls := "TermBenchModel", name := "closes", desc := "(I)V" } : Jvm.MethodName)) ∈ qw := qm (i := 796) (by decide +kernel) (by decide +kernel)
theorem t_797 : (Jvm.Cond.code ({ cls := "TermBenchModel", name := "closes", desc := "(I)V" } : Jvm.MethodName) prog_9_method_45_code (2 : Nat) (Option.none : Option Jvm.ClassFile.FieldType)) ∈ qw := qm (i := 797) (by decide +kernel) (by decide +kernel)
theorem t_799 : (Jvm.Cond.instanceMethod ({ cls := "TermBenchModel", name := "click", desc := "(I)Z" } : Jvm.MethodName)) ∈ qw := qm (i := 799) (by decide +kernel) (by decide +kernel)
theorem t_800 : (Jvm.Cond.selects "TermBenchModel" ({ cls := "TermBenchModel", name := "click", desc := "(I)Z" } : Jvm.MethodName) ({ cls := "TermBenchModel", name := "click", desc := "(I)Z" } : Jvm.MethodName)) ∈ qw := qm (i := 800) (by decide +kernel) (by decide +kernel)
theorem t_801 : (Jvm.Cond.code ({ cls := "TermBenchModel", name := "click", desc := "(I)Z" } : Jvm.MethodName) prog_9_method_38_code (2 : Nat) (Option.some Jvm.ClassFile.FieldType.boolean)) ∈ qw := qm (i := 801) (by decide +kernel) (by decide +kernel)
theorem t_803 : (Jvm.Cond.instanceMethod ({ cls := "TermBenchModel", name := "column", desc := "()I" } : Jvm.MethodName)) ∈ qw := qm (i := 803) (by decide +kernel) (by decide +kernel)
theorem t_804 : (Jvm.Cond.selects "TermBenchModel" ({ cls := "TermBenchModel", name := "column", desc := "()I" } : Jvm.MethodName) ({ cls := "TermBenchModel", name := "column", desc := "()I" } : Jvm.MethodName)) ∈ qw := qm (i := 804) (by decide +kernel) (by decide +kernel)
theorem t_805 : (Jvm.Cond.code ({ cls := "TermBenchModel", name := "column", desc := "()I" } : Jvm.MethodName) prog_9_method_39_code (1 : Nat) (Option.some Jvm.ClassFile.FieldType.int)) ∈ qw := qm (i := 805) (by decide +kernel) (by decide +kernel)
theorem t_807 : (Jvm.Cond.instanceMethod ({ cls := "TermBenchModel", name := "kind", desc := "()I" } : Jvm.MethodName)) ∈ qw := qm (i := 807) (by decide +kernel) (by decide +kernel)
theorem t_808 : (Jvm.Cond.selects "TermBenchModel" ({ cls := "TermBenchModel", name := "kind", desc := "()I" } : Jvm.MethodName) ({ cls := "TermBenchModel", name := "kind", desc := "()I" } : Jvm.MethodName)) ∈ qw := qm (i := 808) (by decide +kernel) (by decide +kernel)
theorem t_809 : (Jvm.Cond.code ({ cls := "TermBenchModel", name := "kind", desc := "()I" } : Jvm.MethodName) prog_9_method_40_code (1 : Nat) (Option.some Jvm.ClassFile.FieldType.int)) ∈ qw := qm (i := 809) (by decide +kernel) (by decide +kernel)
theorem t_811 : (Jvm.Cond.instanceMethod ({ cls := "TermBenchModel", name := "text", desc := "(I)J" } : Jvm.MethodName)) ∈ qw := qm (i := 811) (by decide +kernel) (by decide +kernel)
theorem t_812 : (Jvm.Cond.selects "TermBenchModel" ({ cls := "TermBenchModel", name := "text", desc := "(I)J" } : Jvm.MethodName) ({ cls := "TermBenchModel", name := "text", desc := "(I)J" } : Jvm.MethodName)) ∈ qw := qm (i := 812) (by decide +kernel) (by decide +kernel)
theorem t_813 : (Jvm.Cond.code ({ cls := "TermBenchModel", name := "text", desc := "(I)J" } : Jvm.MethodName) prog_9_method_47_code (5 : Nat) (Option.some Jvm.ClassFile.FieldType.long)) ∈ qw := qm (i := 813) (by decide +kernel) (by decide +kernel)
theorem t_815 : (Jvm.Cond.instanceMethod ({ cls := "TermBenchModel", name := "mark", desc := "()I" } : Jvm.MethodName)) ∈ qw := qm (i := 815) (by decide +kernel) (by decide +kernel)
theorem t_816 : (Jvm.Cond.selects "TermBenchModel" ({ cls := "TermBenchModel", name := "mark", desc := "()I" } : Jvm.MethodName) ({ cls := "TermBenchModel", name := "mark", desc := "()I" } : Jvm.MethodName)) ∈ qw := qm (i := 816) (by decide +kernel) (by decide +kernel)
theorem t_817 : (Jvm.Cond.code ({ cls := "TermBenchModel", name := "mark", desc := "()I" } : Jvm.MethodName) prog_9_method_54_code (1 : Nat) (Option.some Jvm.ClassFile.FieldType.int)) ∈ qw := qm (i := 817) (by decide +kernel) (by decide +kernel)
theorem t_818 : (Jvm.Cond.methodLink "TermBenchModel" (240 : Nat) ({ cls := "TermBenchModel", name := "type", desc := "()V" } : Jvm.MethodName)) ∈ qw := qm (i := 818) (by decide +kernel) (by decide +kernel)
theorem t_820 : (Jvm.Cond.instanceMethod ({ cls := "TermBenchModel", name := "type", desc := "()V" } : Jvm.MethodName)) ∈ qw := qm (i := 820) (by decide +kernel) (by decide +kernel)
theorem t_821 : (Jvm.Cond.code ({ cls := "TermBenchModel", name := "type", desc := "()V" } : Jvm.MethodName) prog_9_method_53_code (9 : Nat) (Option.none : Option Jvm.ClassFile.FieldType)) ∈ qw := qm (i := 821) (by decide +kernel) (by decide +kernel)
theorem t_822 : (Jvm.Cond.methodLink "TermBenchModel" (230 : Nat) ({ cls := "TermBenchModel", name := "wantedOf", desc := "(II)J" } : Jvm.MethodName)) ∈ qw := qm (i := 822) (by decide +kernel) (by decide +kernel)
theorem t_824 : (Jvm.Cond.instanceMethod ({ cls := "TermBenchModel", name := "wantedOf", desc := "(II)J" } : Jvm.MethodName)) ∈ qw := qm (i := 824) (by decide +kernel) (by decide +kernel)
theorem t_825 : (Jvm.Cond.code ({ cls := "TermBenchModel", name := "wantedOf", desc := "(II)J" } : Jvm.MethodName) prog_9_method_52_code (6 : Nat) (Option.some Jvm.ClassFile.FieldType.long)) ∈ qw := qm (i := 825) (by decide +kernel) (by decide +kernel)
theorem t_826 : (Jvm.Cond.constantLong "TermBenchModel" (203 : Nat) (2 : Int64)) ∈ qw := qm (i := 826) (by decide +kernel) (by decide +kernel)
theorem t_827 : (Jvm.Cond.methodLink "TermBenchModel" (212 : Nat) ({ cls := "TermBenchModel", name := "isFrom", desc := "(J)Z" } : Jvm.MethodName)) ∈ qw := qm (i := 827) (by decide +kernel) (by decide +kernel)
theorem t_828 : (Jvm.Cond.static ({ cls := "TermBenchModel", name := "isFrom", desc := "(J)Z" } : Jvm.MethodName)) ∈ qw := qm (i := 828) (by decide +kernel) (by decide +kernel)
theorem t_829 : (Jvm.Cond.code ({ cls := "TermBenchModel", name := "isFrom", desc := "(J)Z" } : Jvm.MethodName) prog_9_method_6_code (2 : Nat) (Option.some Jvm.ClassFile.FieldType.boolean)) ∈ qw := qm (i := 829) (by decide +kernel) (by decide +kernel)
theorem t_830 : (Jvm.Cond.methodLink "TermBenchModel" (215 : Nat) ({ cls := "TermBenchModel", name := "secondOf", desc := "(J)J" } : Jvm.MethodName)) ∈ qw := qm (i := 830) (by decide +kernel) (by decide +kernel)
theorem t_831 : (Jvm.Cond.static ({ cls := "TermBenchModel", name := "secondOf", desc := "(J)J" } : Jvm.MethodName)) ∈ qw := qm (i := 831) (by decide +kernel) (by decide +kernel)
theorem t_832 : (Jvm.Cond.code ({ cls := "TermBenchModel", name := "secondOf", desc := "(J)J" } : Jvm.MethodName) prog_9_method_8_code (3 : Nat) (Option.some Jvm.ClassFile.FieldType.long)) ∈ qw := qm (i := 832) (by decide +kernel) (by decide +kernel)
theorem t_833 : (Jvm.Cond.methodLink "TermBenchModel" (108 : Nat) ({ cls := "TermBenchModel", name := "cut", desc := "(JII)J" } : Jvm.MethodName)) ∈ qw := qm (i := 833) (by decide +kernel) (by decide +kernel)
theorem t_834 : (Jvm.Cond.static ({ cls := "TermBenchModel", name := "cut", desc := "(JII)J" } : Jvm.MethodName)) ∈ qw := qm (i := 834) (by decide +kernel) (by decide +kernel)
theorem t_835 : (Jvm.Cond.code ({ cls := "TermBenchModel", name := "cut", desc := "(JII)J" } : Jvm.MethodName) prog_9_method_5_code (4 : Nat) (Option.some Jvm.ClassFile.FieldType.long)) ∈ qw := qm (i := 835) (by decide +kernel) (by decide +kernel)
theorem t_836 : (Jvm.Cond.methodLink "TermBenchModel" (208 : Nat) ({ cls := "TermBenchModel", name := "has", desc := "(I)J" } : Jvm.MethodName)) ∈ qw := qm (i := 836) (by decide +kernel) (by decide +kernel)
theorem t_838 : (Jvm.Cond.instanceMethod ({ cls := "TermBenchModel", name := "has", desc := "(I)J" } : Jvm.MethodName)) ∈ qw := qm (i := 838) (by decide +kernel) (by decide +kernel)
theorem t_839 : (Jvm.Cond.code ({ cls := "TermBenchModel", name := "has", desc := "(I)J" } : Jvm.MethodName) prog_9_method_48_code (2 : Nat) (Option.some Jvm.ClassFile.FieldType.long)) ∈ qw := qm (i := 839) (by decide +kernel) (by decide +kernel)
theorem t_840 : (Jvm.Cond.methodLink "TermBenchModel" (223 : Nat) ({ cls := "TermBenchModel", name := "firstOf", desc := "(J)J" } : Jvm.MethodName)) ∈ qw := qm (i := 840) (by decide +kernel) (by decide +kernel)
theorem t_841 : (Jvm.Cond.static ({ cls := "TermBenchModel", name := "firstOf", desc := "(J)J" } : Jvm.MethodName)) ∈ qw := qm (i := 841) (by decide +kernel) (by decide +kernel)
theorem t_842 : (Jvm.Cond.code ({ cls := "TermBenchModel", name := "firstOf", desc := "(J)J" } : Jvm.MethodName) prog_9_method_7_code (2 : Nat) (Option.some Jvm.ClassFile.FieldType.long)) ∈ qw := qm (i := 842) (by decide +kernel) (by decide +kernel)
theorem t_843 : (Jvm.Cond.methodLink "TermBenchModel" (234 : Nat) ({ cls := "TermBenchModel", name := "gotOf", desc := "(I)J" } : Jvm.MethodName)) ∈ qw := qm (i := 843) (by decide +kernel) (by decide +kernel)
theorem t_845 : (Jvm.Cond.instanceMethod ({ cls := "TermBenchModel", name := "gotOf", desc := "(I)J" } : Jvm.MethodName)) ∈ qw := qm (i := 845) (by decide +kernel) (by decide +kernel)
theorem t_846 : (Jvm.Cond.code ({ cls := "TermBenchModel", name := "gotOf", desc := "(I)J" } : Jvm.MethodName) prog_9_method_50_code (5 : Nat) (Option.some Jvm.ClassFile.FieldType.long)) ∈ qw := qm (i := 846) (by decide +kernel) (by decide +kernel)
theorem t_847 : (Jvm.Cond.methodLink "TermBenchModel" (205 : Nat) ({ cls := "TermBenchModel", name := "binder", desc := "(I)I" } : Jvm.MethodName)) ∈ qw := qm (i := 847) (by decide +kernel) (by decide +kernel)
theorem t_849 : (Jvm.Cond.instanceMethod ({ cls := "TermBenchModel", name := "binder", desc := "(I)I" } : Jvm.MethodName)) ∈ qw := qm (i := 849) (by decide +kernel) (by decide +kernel)
theorem t_850 : (Jvm.Cond.code ({ cls := "TermBenchModel", name := "binder", desc := "(I)I" } : Jvm.MethodName) prog_9_method_49_code (3 : Nat) (Option.some Jvm.ClassFile.FieldType.int)) ∈ qw := qm (i := 850) (by decide +kernel) (by decide +kernel)
theorem t_851 : (Jvm.Cond.methodLink "TermBenchModel" (219 : Nat) ({ cls := "TermBenchModel", name := "from", desc := "(JJ)J" } : Jvm.MethodName)) ∈ qw := qm (i := 851) (by decide +kernel) (by decide +kernel)
theorem t_852 : (Jvm.Cond.static ({ cls := "TermBenchModel", name := "from", desc := "(JJ)J" } : Jvm.MethodName)) ∈ qw := qm (i := 852) (by decide +kernel) (by decide +kernel)
theorem t_853 : (Jvm.Cond.code ({ cls := "TermBenchModel", name := "from", desc := "(JJ)J" } : Jvm.MethodName) prog_9_method_10_code (6 : Nat) (Option.some Jvm.ClassFile.FieldType.long)) ∈ qw := qm (i := 853) (by decide +kernel) (by decide +kernel)
theorem t_854 : (Jvm.Cond.methodLink "TermBenchModel" (237 : Nat) ({ cls := "TermBenchModel", name := "markOf", desc := "(I)I" } : Jvm.MethodName)) ∈ qw := qm (i := 854) (by decide +kernel) (by decide +kernel)
theorem t_856 : (Jvm.Cond.instanceMethod ({ cls := "TermBenchModel", name := "markOf", desc := "(I)I" } : Jvm.MethodName)) ∈ qw := qm (i := 856) (by decide +kernel) (by decide +kernel)
theorem t_857 : (Jvm.Cond.code ({ cls := "TermBenchModel", name := "markOf", desc := "(I)I" } : Jvm.MethodName) prog_9_method_51_code (3 : Nat) (Option.some Jvm.ClassFile.FieldType.int)) ∈ qw := qm (i := 857) (by decide +kernel) (by decide +kernel)
theorem t_858 : (Jvm.Cond.methodLink "TermBenchModel" (226 : Nat) ({ cls := "TermBenchModel", name := "consistent", desc := "(JJ)Z" } : Jvm.MethodName)) ∈ qw := qm (i := 858) (by decide +kernel) (by decide +kernel)
theorem t_859 : (Jvm.Cond.static ({ cls := "TermBenchModel", name := "consistent", desc := "(JJ)Z" } : Jvm.MethodName)) ∈ qw := qm (i := 859) (by decide +kernel) (by decide +kernel)
theorem t_860 : (Jvm.Cond.code ({ cls := "TermBenchModel", name := "consistent", desc := "(JJ)Z" } : Jvm.MethodName) prog_9_method_9_code (9 : Nat) (Option.some Jvm.ClassFile.FieldType.boolean)) ∈ qw := qm (i := 860) (by decide +kernel) (by decide +kernel)
theorem t_862 : (Jvm.Cond.instanceMethod ({ cls := "TermBenchModel", name := "got", desc := "()J" } : Jvm.MethodName)) ∈ qw := qm (i := 862) (by decide +kernel) (by decide +kernel)
theorem t_863 : (Jvm.Cond.selects "TermBenchModel" ({ cls := "TermBenchModel", name := "got", desc := "()J" } : Jvm.MethodName) ({ cls := "TermBenchModel", name := "got", desc := "()J" } : Jvm.MethodName)) ∈ qw := qm (i := 863) (by decide +kernel) (by decide +kernel)
theorem t_864 : (Jvm.Cond.code ({ cls := "TermBenchModel", name := "got", desc := "()J" } : Jvm.MethodName) prog_9_method_55_code (1 : Nat) (Option.some Jvm.ClassFile.FieldType.long)) ∈ qw := qm (i := 864) (by decide +kernel) (by decide +kernel)
theorem t_866 : (Jvm.Cond.instanceMethod ({ cls := "TermBenchModel", name := "expected", desc := "()J" } : Jvm.MethodName)) ∈ qw := qm (i := 866) (by decide +kernel) (by decide +kernel)
theorem t_867 : (Jvm.Cond.selects "TermBenchModel" ({ cls := "TermBenchModel", name := "expected", desc := "()J" } : Jvm.MethodName) ({ cls := "TermBenchModel", name := "expected", desc := "()J" } : Jvm.MethodName)) ∈ qw := qm (i := 867) (by decide +kernel) (by decide +kernel)
theorem t_868 : (Jvm.Cond.code ({ cls := "TermBenchModel", name := "expected", desc := "()J" } : Jvm.MethodName) prog_9_method_56_code (1 : Nat) (Option.some Jvm.ClassFile.FieldType.long)) ∈ qw := qm (i := 868) (by decide +kernel) (by decide +kernel)
theorem t_870 : (Jvm.Cond.instanceMethod ({ cls := "TermBenchModel", name := "marks", desc := "()I" } : Jvm.MethodName)) ∈ qw := qm (i := 870) (by decide +kernel) (by decide +kernel)
theorem t_871 : (Jvm.Cond.selects "TermBenchModel" ({ cls := "TermBenchModel", name := "marks", desc := "()I" } : Jvm.MethodName) ({ cls := "TermBenchModel", name := "marks", desc := "()I" } : Jvm.MethodName)) ∈ qw := qm (i := 871) (by decide +kernel) (by decide +kernel)
theorem t_872 : (Jvm.Cond.code ({ cls := "TermBenchModel", name := "marks", desc := "()I" } : Jvm.MethodName) prog_9_method_57_code (3 : Nat) (Option.some Jvm.ClassFile.FieldType.int)) ∈ qw := qm (i := 872) (by decide +kernel) (by decide +kernel)
theorem t_874 : (Jvm.Cond.instanceMethod ({ cls := "TermBenchModel", name := "terms", desc := "()I" } : Jvm.MethodName)) ∈ qw := qm (i := 874) (by decide +kernel) (by decide +kernel)
theorem t_875 : (Jvm.Cond.selects "TermBenchModel" ({ cls := "TermBenchModel", name := "terms", desc := "()I" } : Jvm.MethodName) ({ cls := "TermBenchModel", name := "terms", desc := "()I" } : Jvm.MethodName)) ∈ qw := qm (i := 875) (by decide +kernel) (by decide +kernel)
theorem t_876 : (Jvm.Cond.code ({ cls := "TermBenchModel", name := "terms", desc := "()I" } : Jvm.MethodName) prog_9_method_58_code (1 : Nat) (Option.some Jvm.ClassFile.FieldType.int)) ∈ qw := qm (i := 876) (by decide +kernel) (by decide +kernel)
theorem t_878 : (Jvm.Cond.instanceMethod ({ cls := "TermBenchModel", name := "run", desc := "()I" } : Jvm.MethodName)) ∈ qw := qm (i := 878) (by decide +kernel) (by decide +kernel)
theorem t_879 : (Jvm.Cond.selects "TermBenchModel" ({ cls := "TermBenchModel", name := "run", desc := "()I" } : Jvm.MethodName) ({ cls := "TermBenchModel", name := "run", desc := "()I" } : Jvm.MethodName)) ∈ qw := qm (i := 879) (by decide +kernel) (by decide +kernel)
theorem t_880 : (Jvm.Cond.code ({ cls := "TermBenchModel", name := "run", desc := "()I" } : Jvm.MethodName) prog_9_method_66_code (6 : Nat) (Option.some Jvm.ClassFile.FieldType.int)) ∈ qw := qm (i := 880) (by decide +kernel) (by decide +kernel)
theorem t_881 : (Jvm.Cond.methodLink "TermBenchModel" (268 : Nat) ({ cls := "TermBenchModel", name := "enter", desc := "(II)Z" } : Jvm.MethodName)) ∈ qw := qm (i := 881) (by decide +kernel) (by decide +kernel)
theorem t_883 : (Jvm.Cond.instanceMethod ({ cls := "TermBenchModel", name := "enter", desc := "(II)Z" } : Jvm.MethodName)) ∈ qw := qm (i := 883) (by decide +kernel) (by decide +kernel)
theorem t_884 : (Jvm.Cond.code ({ cls := "TermBenchModel", name := "enter", desc := "(II)Z" } : Jvm.MethodName) prog_9_method_59_code (3 : Nat) (Option.some Jvm.ClassFile.FieldType.boolean)) ∈ qw := qm (i := 884) (by decide +kernel) (by decide +kernel)
theorem t_885 : (Jvm.Cond.methodLink "TermBenchModel" (275 : Nat) ({ cls := "TermBenchModel", name := "isDone", desc := "(I)Z" } : Jvm.MethodName)) ∈ qw := qm (i := 885) (by decide +kernel) (by decide +kernel)
theorem t_887 : (Jvm.Cond.instanceMethod ({ cls := "TermBenchModel", name := "isDone", desc := "(I)Z" } : Jvm.MethodName)) ∈ qw := qm (i := 887) (by decide +kernel) (by decide +kernel)
theorem t_888 : (Jvm.Cond.code ({ cls := "TermBenchModel", name := "isDone", desc := "(I)Z" } : Jvm.MethodName) prog_9_method_63_code (4 : Nat) (Option.some Jvm.ClassFile.FieldType.boolean)) ∈ qw := qm (i := 888) (by decide +kernel) (by decide +kernel)
theorem t_889 : (Jvm.Cond.methodLink "TermBenchModel" (258 : Nat) ({ cls := "TermBenchModel", name := "value", desc := "(III)V" } : Jvm.MethodName)) ∈ qw := qm (i := 889) (by decide +kernel) (by decide +kernel)
theorem t_891 : (Jvm.Cond.instanceMethod ({ cls := "TermBenchModel", name := "value", desc := "(III)V" } : Jvm.MethodName)) ∈ qw := qm (i := 891) (by decide +kernel) (by decide +kernel)
theorem t_892 : (Jvm.Cond.code ({ cls := "TermBenchModel", name := "value", desc := "(III)V" } : Jvm.MethodName) prog_9_method_60_code (4 : Nat) (Option.none : Option Jvm.ClassFile.FieldType)) ∈ qw := qm (i := 892) (by decide +kernel) (by decide +kernel)
theorem t_893 : (Jvm.Cond.methodLink "TermBenchModel" (265 : Nat) ({ cls := "TermBenchModel", name := "lookUp", desc := "(II)V" } : Jvm.MethodName)) ∈ qw := qm (i := 893) (by decide +kernel) (by decide +kernel)
theorem t_895 : (Jvm.Cond.instanceMethod ({ cls := "TermBenchModel", name := "lookUp", desc := "(II)V" } : Jvm.MethodName)) ∈ qw := qm (i := 895) (by decide +kernel) (by decide +kernel)
theorem t_896 : (Jvm.Cond.code ({ cls := "TermBenchModel", name := "lookUp", desc := "(II)V" } : Jvm.MethodName) prog_9_method_61_code (4 : Nat) (Option.none : Option Jvm.ClassFile.FieldType)) ∈ qw := qm (i := 896) (by decide +kernel) (by decide +kernel)
theorem t_897 : (Jvm.Cond.methodLink "TermBenchModel" (278 : Nat) ({ cls := "TermBenchModel", name := "second", desc := "(I)Z" } : Jvm.MethodName)) ∈ qw := qm (i := 897) (by decide +kernel) (by decide +kernel)
theorem t_899 : (Jvm.Cond.instanceMethod ({ cls := "TermBenchModel", name := "second", desc := "(I)Z" } : Jvm.MethodName)) ∈ qw := qm (i := 899) (by decide +kernel) (by decide +kernel)
theorem t_900 : (Jvm.Cond.code ({ cls := "TermBenchModel", name := "second", desc := "(I)Z" } : Jvm.MethodName) prog_9_method_64_code (2 : Nat) (Option.some Jvm.ClassFile.FieldType.boolean)) ∈ qw := qm (i := 900) (by decide +kernel) (by decide +kernel)
theorem t_901 : (Jvm.Cond.methodLink "TermBenchModel" (281 : Nat) ({ cls := "TermBenchModel", name := "bind", desc := "(I)I" } : Jvm.MethodName)) ∈ qw := qm (i := 901) (by decide +kernel) (by decide +kernel)
theorem t_903 : (Jvm.Cond.instanceMethod ({ cls := "TermBenchModel", name := "bind", desc := "(I)I" } : Jvm.MethodName)) ∈ qw := qm (i := 903) (by decide +kernel) (by decide +kernel)
theorem t_904 : (Jvm.Cond.code ({ cls := "TermBenchModel", name := "bind", desc := "(I)I" } : Jvm.MethodName) prog_9_method_62_code (2 : Nat) (Option.some Jvm.ClassFile.FieldType.int)) ∈ qw := qm (i := 904) (by decide +kernel) (by decide +kernel)
theorem t_905 : (Jvm.Cond.methodLink "TermBenchModel" (284 : Nat) ({ cls := "TermBenchModel", name := "add", desc := "(I)V" } : Jvm.MethodName)) ∈ qw := qm (i := 905) (by decide +kernel) (by decide +kernel)
theorem t_907 : (Jvm.Cond.instanceMethod ({ cls := "TermBenchModel", name := "add", desc := "(I)V" } : Jvm.MethodName)) ∈ qw := qm (i := 907) (by decide +kernel) (by decide +kernel)
theorem t_908 : (Jvm.Cond.code ({ cls := "TermBenchModel", name := "add", desc := "(I)V" } : Jvm.MethodName) prog_9_method_65_code (3 : Nat) (Option.none : Option Jvm.ClassFile.FieldType)) ∈ qw := qm (i := 908) (by decide +kernel) (by decide +kernel)
theorem t_910 : (Jvm.Cond.instanceMethod ({ cls := "TermBenchModel", name := "result", desc := "()I" } : Jvm.MethodName)) ∈ qw := qm (i := 910) (by decide +kernel) (by decide +kernel)
theorem t_911 : (Jvm.Cond.selects "TermBenchModel" ({ cls := "TermBenchModel", name := "result", desc := "()I" } : Jvm.MethodName) ({ cls := "TermBenchModel", name := "result", desc := "()I" } : Jvm.MethodName)) ∈ qw := qm (i := 911) (by decide +kernel) (by decide +kernel)
theorem t_912 : (Jvm.Cond.code ({ cls := "TermBenchModel", name := "result", desc := "()I" } : Jvm.MethodName) prog_9_method_67_code (1 : Nat) (Option.some Jvm.ClassFile.FieldType.int)) ∈ qw := qm (i := 912) (by decide +kernel) (by decide +kernel)
theorem t_914 : (Jvm.Cond.instanceMethod ({ cls := "TermBenchModel", name := "units", desc := "()I" } : Jvm.MethodName)) ∈ qw := qm (i := 914) (by decide +kernel) (by decide +kernel)
theorem t_915 : (Jvm.Cond.selects "TermBenchModel" ({ cls := "TermBenchModel", name := "units", desc := "()I" } : Jvm.MethodName) ({ cls := "TermBenchModel", name := "units", desc := "()I" } : Jvm.MethodName)) ∈ qw := qm (i := 915) (by decide +kernel) (by decide +kernel)
theorem t_916 : (Jvm.Cond.code ({ cls := "TermBenchModel", name := "units", desc := "()I" } : Jvm.MethodName) prog_9_method_68_code (1 : Nat) (Option.some Jvm.ClassFile.FieldType.int)) ∈ qw := qm (i := 916) (by decide +kernel) (by decide +kernel)
end
section
/-! THE MEMORY of class and reference: one picture for both; behind the constructors no cell is made. Mem: int cells and long cells by (cell number, place). Gw: the addresses by cell number, the tables' numbers, the classes of int[], long[], Program[]. -/
abbrev Mem : Type := (Nat → Nat → Int32) × (Nat → Nat → Int64)
abbrev Gw : Type := (Nat → Nat) × va_G × ClassId × ClassId × ClassId
def rI (σ : Mem) (c : Nat) (f : Nat → Int32) : Mem := (fun a => if a = c then f else σ.1 a, σ.2)
def rL (σ : Mem) (c : Nat) (f : Nat → Int64) : Mem := (σ.1, fun a => if a = c then f else σ.2 a)
abbrev sI (σ : Mem) (c k : Nat) (v : Int32) : Mem := rI σ c (upd (σ.1 c) k v)
abbrev sL (σ : Mem) (c k : Nat) (v : Int64) : Mem := rL σ c (vp_updL (σ.2 c) k v)
theorem rI_at (σ : Mem) (c : Nat) (f : Nat → Int32) : (rI σ c f).1 c = f := if_pos rfl
theorem rI_ne {σ : Mem} {c a : Nat} {f : Nat → Int32} (h : a ≠ c) : (rI σ c f).1 a = σ.1 a := if_neg h
theorem rI_L (σ : Mem) (c : Nat) (f : Nat → Int32) : (rI σ c f).2 = σ.2 := rfl
theorem rL_at (σ : Mem) (c : Nat) (f : Nat → Int64) : (rL σ c f).2 c = f := if_pos rfl
theorem rL_ne {σ : Mem} {c a : Nat} {f : Nat → Int64} (h : a ≠ c) : (rL σ c f).2 a = σ.2 a := if_neg h
theorem rL_I (σ : Mem) (c : Nat) (f : Nat → Int64) : (rL σ c f).1 = σ.1 := rfl
def ad (g : Gw) (c : Nat) : Nat := g.1 c
def cP (i : Nat) : Nat := 44 + 5 * i
def cPk (i : Nat) : Nat := 45 + 5 * i
def cPf (i : Nat) : Nat := 46 + 5 * i
def cPt (i : Nat) : Nat := 47 + 5 * i
def cPl (i : Nat) : Nat := 48 + 5 * i
/-- int[n], long[n] -/
def aI (g : Gw) (n : Nat) (f : Nat → Int32) : va_E := .inl (g.2.2.1, n, .inl f)
def aL (g : Gw) (n : Nat) (f : Nat → Int64) : va_E := .inl (g.2.2.2.1, n, .inr (.inl f))
def aR (g : Gw) (n : Nat) (f : Nat → Option Nat) : va_E := .inl (g.2.2.2.2, n, .inr (.inr (.inr (.inr f))))
abbrev R_Prog : String := "TermBench$Program"
def en_0 (g : Gw) (fI : Nat → Int32) (fL : Nat → Int64) : va_E := .inr (5, [.ref (ad g 1), .ref (ad g 3), .ref (ad g 7), .ref (ad g 11)])
def en_1 (g : Gw) (fI : Nat → Int32) (fL : Nat → Int64) : va_E := .inr (0, [.ref (ad g 2), .int (fI 1), .int (fI 2), .int (fI 3), .int (fI 4)])
def en_2 (g : Gw) (fI : Nat → Int32) (fL : Nat → Int64) : va_E := aR g 17 (fun i => if i < 17 then some (ad g (cP i)) else none)
def en_3 (g : Gw) (fI : Nat → Int32) (fL : Nat → Int64) : va_E := .inr (4, [.ref (ad g 4), .ref (ad g 5), .ref (ad g 6), .int (fI 3)])
def en_4 (g : Gw) (fI : Nat → Int32) (fL : Nat → Int64) : va_E := aL g 40 fL
def en_5 (g : Gw) (fI : Nat → Int32) (fL : Nat → Int64) : va_E := aL g 40 fL
def en_6 (g : Gw) (fI : Nat → Int32) (fL : Nat → Int64) : va_E := aI g 40 fI
def en_7 (g : Gw) (fI : Nat → Int32) (fL : Nat → Int64) : va_E := .inr (2, [.ref (ad g 8), .ref (ad g 9), .ref (ad g 10), .int (fI 3), .int (fI 4)])
def en_8 (g : Gw) (fI : Nat → Int32) (fL : Nat → Int64) : va_E := aL g 220 fL
def en_9 (g : Gw) (fI : Nat → Int32) (fL : Nat → Int64) : va_E := aI g 40 fI
def en_10 (g : Gw) (fI : Nat → Int32) (fL : Nat → Int64) : va_E := aI g 40 fI
def en_11 (g : Gw) (fI : Nat → Int32) (fL : Nat → Int64) : va_E := .inr (1, [.ref (ad g 12), .ref (ad g 13), .ref (ad g 14), .int (fI 3), .int (fI 4), .int (fI 5)])
def en_12 (g : Gw) (fI : Nat → Int32) (fL : Nat → Int64) : va_E := aI g 134 fI
def en_13 (g : Gw) (fI : Nat → Int32) (fL : Nat → Int64) : va_E := aL g 134 fL
def en_14 (g : Gw) (fI : Nat → Int32) (fL : Nat → Int64) : va_E := aI g 134 fI
def en_15 (g : Gw) (fI : Nat → Int32) (fL : Nat → Int64) : va_E := .inr (6, [.int (fI 0), .int (fI 1), .ref (ad g 16), .ref (ad g 17), .ref (ad g 18), .int (fI 5), .int (fI 6), .ref (ad g 19), .ref (ad g 20), .ref (ad g 21), .ref (ad g 22), .ref (ad g 23), .int (fI 12), .ref (ad g 24), .ref (ad g 25), .ref (ad g 26), .int (fI 16), .int (fI 17), .ref (ad g 27), .ref (ad g 28), .ref (ad g 29), .ref (ad g 30), .ref (ad g 31), .ref (ad g 32), .int (fI 24), .int (fI 25), .int (fI 26), .ref (ad g 33), .ref (ad g 34), .ref (ad g 35), .ref (ad g 36), .ref (ad g 37), .ref (ad g 38), .int (fI 33), .int (fI 34), .int (fI 35), .int (fI 36), .ref (ad g 39), .ref (ad g 40), .ref (ad g 41), .ref (ad g 42), .ref (ad g 43)])
def en_16 (g : Gw) (fI : Nat → Int32) (fL : Nat → Int64) : va_E := aI g 48 fI
def en_17 (g : Gw) (fI : Nat → Int32) (fL : Nat → Int64) : va_E := aI g 48 fI
def en_18 (g : Gw) (fI : Nat → Int32) (fL : Nat → Int64) : va_E := aL g 48 fL
def en_19 (g : Gw) (fI : Nat → Int32) (fL : Nat → Int64) : va_E := aI g 33 fI
def en_20 (g : Gw) (fI : Nat → Int32) (fL : Nat → Int64) : va_E := aI g 33 fI
def en_21 (g : Gw) (fI : Nat → Int32) (fL : Nat → Int64) : va_E := aI g 1320 fI
def en_22 (g : Gw) (fI : Nat → Int32) (fL : Nat → Int64) : va_E := aI g 1320 fI
def en_23 (g : Gw) (fI : Nat → Int32) (fL : Nat → Int64) : va_E := aL g 1320 fL
def en_24 (g : Gw) (fI : Nat → Int32) (fL : Nat → Int64) : va_E := aL g 48 fL
def en_25 (g : Gw) (fI : Nat → Int32) (fL : Nat → Int64) : va_E := aL g 48 fL
def en_26 (g : Gw) (fI : Nat → Int32) (fL : Nat → Int64) : va_E := aI g 48 fI
def en_27 (g : Gw) (fI : Nat → Int32) (fL : Nat → Int64) : va_E := aI g 2400 fI
def en_28 (g : Gw) (fI : Nat → Int32) (fL : Nat → Int64) : va_E := aI g 2400 fI
def en_29 (g : Gw) (fI : Nat → Int32) (fL : Nat → Int64) : va_E := aI g 48 fI
def en_30 (g : Gw) (fI : Nat → Int32) (fL : Nat → Int64) : va_E := aI g 16 fI
def en_31 (g : Gw) (fI : Nat → Int32) (fL : Nat → Int64) : va_E := aI g 16 fI
def en_32 (g : Gw) (fI : Nat → Int32) (fL : Nat → Int64) : va_E := aI g 32 fI
def en_33 (g : Gw) (fI : Nat → Int32) (fL : Nat → Int64) : va_E := aI g 61 fI
def en_34 (g : Gw) (fI : Nat → Int32) (fL : Nat → Int64) : va_E := aI g 61 fI
def en_35 (g : Gw) (fI : Nat → Int32) (fL : Nat → Int64) : va_E := aI g 61 fI
def en_36 (g : Gw) (fI : Nat → Int32) (fL : Nat → Int64) : va_E := aI g 61 fI
def en_37 (g : Gw) (fI : Nat → Int32) (fL : Nat → Int64) : va_E := aI g 61 fI
def en_38 (g : Gw) (fI : Nat → Int32) (fL : Nat → Int64) : va_E := aI g 61 fI
def en_39 (g : Gw) (fI : Nat → Int32) (fL : Nat → Int64) : va_E := aI g 402 fI
def en_40 (g : Gw) (fI : Nat → Int32) (fL : Nat → Int64) : va_E := aI g 402 fI
def en_41 (g : Gw) (fI : Nat → Int32) (fL : Nat → Int64) : va_E := aI g 402 fI
def en_42 (g : Gw) (fI : Nat → Int32) (fL : Nat → Int64) : va_E := aI g 402 fI
def en_43 (g : Gw) (fI : Nat → Int32) (fL : Nat → Int64) : va_E := aI g 402 fI
def entT (g : Gw) (fI : Nat → Int32) (fL : Nat → Int64) : List va_E := [en_0 g fI fL, en_1 g fI fL, en_2 g fI fL, en_3 g fI fL, en_4 g fI fL, en_5 g fI fL, en_6 g fI fL, en_7 g fI fL, en_8 g fI fL, en_9 g fI fL, en_10 g fI fL, en_11 g fI fL, en_12 g fI fL, en_13 g fI fL, en_14 g fI fL, en_15 g fI fL, en_16 g fI fL, en_17 g fI fL, en_18 g fI fL, en_19 g fI fL, en_20 g fI fL, en_21 g fI fL, en_22 g fI fL, en_23 g fI fL, en_24 g fI fL, en_25 g fI fL, en_26 g fI fL, en_27 g fI fL, en_28 g fI fL, en_29 g fI fL, en_30 g fI fL, en_31 g fI fL, en_32 g fI fL, en_33 g fI fL, en_34 g fI fL, en_35 g fI fL, en_36 g fI fL, en_37 g fI fL, en_38 g fI fL, en_39 g fI fL, en_40 g fI fL, en_41 g fI fL, en_42 g fI fL, en_43 g fI fL]
def en_P (g : Gw) (c : Nat) (fI : Nat → Int32) : va_E := .inr (3, [.ref (ad g (c + 1)), .ref (ad g (c + 2)), .ref (ad g (c + 3)), .ref (ad g (c + 4)), .int (fI 4), .int (fI 5)])
def entV (g : Gw) (c : Nat) (fI : Nat → Int32) (fL : Nat → Int64) : va_E :=
  if c < 44 then ((entT g fI fL)[c]?).getD (.inr (0, [])) else if (c - 44) % 5 = 0 then en_P g c fI else if (c - 44) % 5 = 3 then aL g 40 fL else aI g 40 fI
theorem e_0 (g : Gw) (fI : Nat → Int32) (fL : Nat → Int64) : entV g 0 fI fL = .inr (5, [.ref (ad g 1), .ref (ad g 3), .ref (ad g 7), .ref (ad g 11)]) := rfl
theorem e_1 (g : Gw) (fI : Nat → Int32) (fL : Nat → Int64) : entV g 1 fI fL = .inr (0, [.ref (ad g 2), .int (fI 1), .int (fI 2), .int (fI 3), .int (fI 4)]) := rfl
theorem e_2 (g : Gw) (fI : Nat → Int32) (fL : Nat → Int64) : entV g 2 fI fL = aR g 17 (fun i => if i < 17 then some (ad g (cP i)) else none) := rfl
theorem e_3 (g : Gw) (fI : Nat → Int32) (fL : Nat → Int64) : entV g 3 fI fL = .inr (4, [.ref (ad g 4), .ref (ad g 5), .ref (ad g 6), .int (fI 3)]) := rfl
theorem e_4 (g : Gw) (fI : Nat → Int32) (fL : Nat → Int64) : entV g 4 fI fL = aL g 40 fL := rfl
theorem e_5 (g : Gw) (fI : Nat → Int32) (fL : Nat → Int64) : entV g 5 fI fL = aL g 40 fL := rfl
theorem e_6 (g : Gw) (fI : Nat → Int32) (fL : Nat → Int64) : entV g 6 fI fL = aI g 40 fI := rfl
theorem e_7 (g : Gw) (fI : Nat → Int32) (fL : Nat → Int64) : entV g 7 fI fL = .inr (2, [.ref (ad g 8), .ref (ad g 9), .ref (ad g 10), .int (fI 3), .int (fI 4)]) := rfl
theorem e_8 (g : Gw) (fI : Nat → Int32) (fL : Nat → Int64) : entV g 8 fI fL = aL g 220 fL := rfl
theorem e_9 (g : Gw) (fI : Nat → Int32) (fL : Nat → Int64) : entV g 9 fI fL = aI g 40 fI := rfl
theorem e_10 (g : Gw) (fI : Nat → Int32) (fL : Nat → Int64) : entV g 10 fI fL = aI g 40 fI := rfl
theorem e_11 (g : Gw) (fI : Nat → Int32) (fL : Nat → Int64) : entV g 11 fI fL = .inr (1, [.ref (ad g 12), .ref (ad g 13), .ref (ad g 14), .int (fI 3), .int (fI 4), .int (fI 5)]) := rfl
theorem e_12 (g : Gw) (fI : Nat → Int32) (fL : Nat → Int64) : entV g 12 fI fL = aI g 134 fI := rfl
theorem e_13 (g : Gw) (fI : Nat → Int32) (fL : Nat → Int64) : entV g 13 fI fL = aL g 134 fL := rfl
theorem e_14 (g : Gw) (fI : Nat → Int32) (fL : Nat → Int64) : entV g 14 fI fL = aI g 134 fI := rfl
theorem e_15 (g : Gw) (fI : Nat → Int32) (fL : Nat → Int64) : entV g 15 fI fL = .inr (6, [.int (fI 0), .int (fI 1), .ref (ad g 16), .ref (ad g 17), .ref (ad g 18), .int (fI 5), .int (fI 6), .ref (ad g 19), .ref (ad g 20), .ref (ad g 21), .ref (ad g 22), .ref (ad g 23), .int (fI 12), .ref (ad g 24), .ref (ad g 25), .ref (ad g 26), .int (fI 16), .int (fI 17), .ref (ad g 27), .ref (ad g 28), .ref (ad g 29), .ref (ad g 30), .ref (ad g 31), .ref (ad g 32), .int (fI 24), .int (fI 25), .int (fI 26), .ref (ad g 33), .ref (ad g 34), .ref (ad g 35), .ref (ad g 36), .ref (ad g 37), .ref (ad g 38), .int (fI 33), .int (fI 34), .int (fI 35), .int (fI 36), .ref (ad g 39), .ref (ad g 40), .ref (ad g 41), .ref (ad g 42), .ref (ad g 43)]) := rfl
theorem e_16 (g : Gw) (fI : Nat → Int32) (fL : Nat → Int64) : entV g 16 fI fL = aI g 48 fI := rfl
theorem e_17 (g : Gw) (fI : Nat → Int32) (fL : Nat → Int64) : entV g 17 fI fL = aI g 48 fI := rfl
theorem e_18 (g : Gw) (fI : Nat → Int32) (fL : Nat → Int64) : entV g 18 fI fL = aL g 48 fL := rfl
theorem e_19 (g : Gw) (fI : Nat → Int32) (fL : Nat → Int64) : entV g 19 fI fL = aI g 33 fI := rfl
theorem e_20 (g : Gw) (fI : Nat → Int32) (fL : Nat → Int64) : entV g 20 fI fL = aI g 33 fI := rfl
theorem e_21 (g : Gw) (fI : Nat → Int32) (fL : Nat → Int64) : entV g 21 fI fL = aI g 1320 fI := rfl
theorem e_22 (g : Gw) (fI : Nat → Int32) (fL : Nat → Int64) : entV g 22 fI fL = aI g 1320 fI := rfl
theorem e_23 (g : Gw) (fI : Nat → Int32) (fL : Nat → Int64) : entV g 23 fI fL = aL g 1320 fL := rfl
theorem e_24 (g : Gw) (fI : Nat → Int32) (fL : Nat → Int64) : entV g 24 fI fL = aL g 48 fL := rfl
theorem e_25 (g : Gw) (fI : Nat → Int32) (fL : Nat → Int64) : entV g 25 fI fL = aL g 48 fL := rfl
theorem e_26 (g : Gw) (fI : Nat → Int32) (fL : Nat → Int64) : entV g 26 fI fL = aI g 48 fI := rfl
theorem e_27 (g : Gw) (fI : Nat → Int32) (fL : Nat → Int64) : entV g 27 fI fL = aI g 2400 fI := rfl
theorem e_28 (g : Gw) (fI : Nat → Int32) (fL : Nat → Int64) : entV g 28 fI fL = aI g 2400 fI := rfl
theorem e_29 (g : Gw) (fI : Nat → Int32) (fL : Nat → Int64) : entV g 29 fI fL = aI g 48 fI := rfl
theorem e_30 (g : Gw) (fI : Nat → Int32) (fL : Nat → Int64) : entV g 30 fI fL = aI g 16 fI := rfl
theorem e_31 (g : Gw) (fI : Nat → Int32) (fL : Nat → Int64) : entV g 31 fI fL = aI g 16 fI := rfl
theorem e_32 (g : Gw) (fI : Nat → Int32) (fL : Nat → Int64) : entV g 32 fI fL = aI g 32 fI := rfl
theorem e_33 (g : Gw) (fI : Nat → Int32) (fL : Nat → Int64) : entV g 33 fI fL = aI g 61 fI := rfl
theorem e_34 (g : Gw) (fI : Nat → Int32) (fL : Nat → Int64) : entV g 34 fI fL = aI g 61 fI := rfl
theorem e_35 (g : Gw) (fI : Nat → Int32) (fL : Nat → Int64) : entV g 35 fI fL = aI g 61 fI := rfl
theorem e_36 (g : Gw) (fI : Nat → Int32) (fL : Nat → Int64) : entV g 36 fI fL = aI g 61 fI := rfl
theorem e_37 (g : Gw) (fI : Nat → Int32) (fL : Nat → Int64) : entV g 37 fI fL = aI g 61 fI := rfl
theorem e_38 (g : Gw) (fI : Nat → Int32) (fL : Nat → Int64) : entV g 38 fI fL = aI g 61 fI := rfl
theorem e_39 (g : Gw) (fI : Nat → Int32) (fL : Nat → Int64) : entV g 39 fI fL = aI g 402 fI := rfl
theorem e_40 (g : Gw) (fI : Nat → Int32) (fL : Nat → Int64) : entV g 40 fI fL = aI g 402 fI := rfl
theorem e_41 (g : Gw) (fI : Nat → Int32) (fL : Nat → Int64) : entV g 41 fI fL = aI g 402 fI := rfl
theorem e_42 (g : Gw) (fI : Nat → Int32) (fL : Nat → Int64) : entV g 42 fI fL = aI g 402 fI := rfl
theorem e_43 (g : Gw) (fI : Nat → Int32) (fL : Nat → Int64) : entV g 43 fI fL = aI g 402 fI := rfl
theorem l_cP {i : Nat} (h : i < 17) : cP i < 129 := by unfold cP; omega
theorem e_cP (g : Gw) {i : Nat} (h : i < 17) (fI : Nat → Int32) (fL : Nat → Int64) : entV g (cP i) fI fL = .inr (3, [.ref (ad g (cPk i)), .ref (ad g (cPf i)), .ref (ad g (cPt i)), .ref (ad g (cPl i)), .int (fI 4), .int (fI 5)]) := by
  have h1 : ¬ cP i < 44 := by unfold cP; omega
  have h2 : (cP i - 44) % 5 = 0 := by unfold cP; omega
  unfold entV
  rw [if_neg h1, h2]
  rw [if_pos rfl]
  unfold en_P
  have a1 : cP i + 1 = cPk i := by unfold cP cPk; omega
  have a2 : cP i + 2 = cPf i := by unfold cP cPf; omega
  have a3 : cP i + 3 = cPt i := by unfold cP cPt; omega
  have a4 : cP i + 4 = cPl i := by unfold cP cPl; omega
  rw [a1, a2, a3, a4]
theorem l_cPk {i : Nat} (h : i < 17) : cPk i < 129 := by unfold cPk; omega
theorem e_cPk (g : Gw) {i : Nat} (h : i < 17) (fI : Nat → Int32) (fL : Nat → Int64) : entV g (cPk i) fI fL = aI g 40 fI := by
  have h1 : ¬ cPk i < 44 := by unfold cPk; omega
  have h2 : (cPk i - 44) % 5 = 1 := by unfold cPk; omega
  unfold entV
  rw [if_neg h1, h2]
  rfl
theorem l_cPf {i : Nat} (h : i < 17) : cPf i < 129 := by unfold cPf; omega
theorem e_cPf (g : Gw) {i : Nat} (h : i < 17) (fI : Nat → Int32) (fL : Nat → Int64) : entV g (cPf i) fI fL = aI g 40 fI := by
  have h1 : ¬ cPf i < 44 := by unfold cPf; omega
  have h2 : (cPf i - 44) % 5 = 2 := by unfold cPf; omega
  unfold entV
  rw [if_neg h1, h2]
  rfl
theorem l_cPt {i : Nat} (h : i < 17) : cPt i < 129 := by unfold cPt; omega
theorem e_cPt (g : Gw) {i : Nat} (h : i < 17) (fI : Nat → Int32) (fL : Nat → Int64) : entV g (cPt i) fI fL = aL g 40 fL := by
  have h1 : ¬ cPt i < 44 := by unfold cPt; omega
  have h2 : (cPt i - 44) % 5 = 3 := by unfold cPt; omega
  unfold entV
  rw [if_neg h1, h2]
  rfl
theorem l_cPl {i : Nat} (h : i < 17) : cPl i < 129 := by unfold cPl; omega
theorem e_cPl (g : Gw) {i : Nat} (h : i < 17) (fI : Nat → Int32) (fL : Nat → Int64) : entV g (cPl i) fI fL = aI g 40 fI := by
  have h1 : ¬ cPl i < 44 := by unfold cPl; omega
  have h2 : (cPl i - 44) % 5 = 4 := by unfold cPl; omega
  unfold entV
  rw [if_neg h1, h2]
  rfl
end
section
/-! THE WORLD: every cell of class and reference by its number; rows of the kit over it -/
def ent (g : Gw) (σ : Mem) (c : Nat) : va_E := entV g c (σ.1 c) (σ.2 c)
def wsOf (g : Gw) (σ : Mem) : va_W := (List.range 129).map (fun c => (ad g c, ent g σ c))
def gT (g : Gw) : List (ClassId × FieldType) := [(g.2.2.1, .int), (g.2.2.2.1, .long), (g.2.2.2.2, .object R_Prog)]
def Wd (g : Gw) (σ : Mem) (H : Heap) : Prop := va_P g.2.1 vwCl (wsOf g σ) H
def wA (g : Gw) : Nat → Prop := fun q => ∃ c, c < 129 ∧ q = ad g c
def wInj (g : Gw) : Prop := ∀ i j, i < 129 → j < 129 → ad g i = ad g j → i = j
theorem ws_at (g : Gw) (σ : Mem) {c : Nat} (h : c < 129) : (wsOf g σ)[c]? = some (ad g c, ent g σ c) := by
  simp [wsOf, h]
theorem ws_some {g : Gw} {σ : Mem} {c : Nat} {q : Nat × va_E} (h : (wsOf g σ)[c]? = some q) : c < 129 ∧ q = (ad g c, ent g σ c) := by
  have hc : c < 129 := by
    have := (List.getElem?_eq_some_iff.mp h).1
    simpa [wsOf] using this
  exact ⟨hc, Option.some.inj (h.symm.trans (ws_at g σ hc))⟩
theorem ws_D {g : Gw} (hi : wInj g) (σ : Mem) : va_D (wA g) (wsOf g σ) := by
  refine ⟨fun i j p q hp hq e => ?_, fun k q hk => ?_⟩
  · obtain ⟨h1, rfl⟩ := ws_some hp
    obtain ⟨h2, rfl⟩ := ws_some hq
    exact hi i j h1 h2 e
  · obtain ⟨h1, rfl⟩ := ws_some hk
    exact ⟨k, h1, rfl⟩
theorem ws_set {g : Gw} {σ σ' : Mem} {c : Nat} {e : va_E} (h : c < 129) (he : ent g σ' c = e) (ho : ∀ a, a ≠ c → ent g σ' a = ent g σ a) : (wsOf g σ).set c (ad g c, e) = wsOf g σ' := by
  apply List.ext_getElem?
  intro k
  rw [List.getElem?_set]
  by_cases hk : c = k
  · subst hk
    rw [if_pos rfl, ws_at g σ' h, he]
    simp [wsOf, h]
  · rw [if_neg hk]
    by_cases hl : k < 129
    · rw [ws_at g σ hl, ws_at g σ' hl, ho k (fun q => hk q.symm)]
    · simp [wsOf, hl]
theorem ws_setI {g : Gw} {σ : Mem} {c : Nat} {f : Nat → Int32} {e : va_E} (h : c < 129) (he : entV g c f (σ.2 c) = e) : (wsOf g σ).set c (ad g c, e) = wsOf g (rI σ c f) :=
  ws_set h (by show entV g c ((rI σ c f).1 c) _ = e; rw [rI_at]; exact he) (fun a ha => by show entV g a ((rI σ c f).1 a) _ = _; rw [rI_ne ha]; rfl)
theorem ws_setL {g : Gw} {σ : Mem} {c : Nat} {f : Nat → Int64} {e : va_E} (h : c < 129) (he : entV g c (σ.1 c) f = e) : (wsOf g σ).set c (ad g c, e) = wsOf g (rL σ c f) :=
  ws_set h (by show entV g c _ ((rL σ c f).2 c) = e; rw [rL_at]; exact he) (fun a ha => by show entV g a _ ((rL σ c f).2 a) = _; rw [rL_ne ha]; rfl)
/-- pure code: a guard, a name, a call behind a call, a loop -/
def inb (i : Int32) (n : Nat) : Bool := !(decide (i < 0) || decide (n ≤ i.toNatClampNeg))
theorem inb_in {i : Int32} {n : Nat} (h : inb i n = true) : vp_in i n := by
  unfold inb at h
  unfold vp_in
  simpa using h
theorem inb_lt {i : Int32} {n : Nat} (h : inb i n = true) : i.toNatClampNeg < n := Nat.not_le.mp (fun q => inb_in h (Or.inr q))
def gd {α : Type} (b : Bool) (x : Option α) : Option α := if b then x else none
theorem gd_some {α : Type} {b : Bool} {x : Option α} {z : α} (h : gd b x = some z) : b = true ∧ x = some z := by
  cases b with
  | true => exact ⟨rfl, h⟩
  | false => cases h
def lt_ {α β : Type} (a : α) (f : α → β) : β := f a
theorem lt_some {α β : Type} {a : α} {f : α → Option β} {z : β} (h : lt_ a f = some z) : ∃ x, x = a ∧ f x = some z := ⟨a, rfl, h⟩
def bn {α β : Type} (x : Option (α × Mem)) (f : α → Mem → Option β) : Option β := match x with
  | none => none
  | some q => f q.1 q.2
theorem bn_some {α β : Type} {x : Option (α × Mem)} {f : α → Mem → Option β} {z : β} (h : bn x f = some z) : ∃ r σ, x = some (r, σ) ∧ f r σ = some z := by
  cases x with
  | none => cases h
  | some q => exact ⟨q.1, q.2, rfl, h⟩
theorem if_t {α : Type} {c : Prop} [Decidable c] {A B : α} {z : α} (h : (if c then A else B) = z) (hc : c) : A = z := by rw [if_pos hc] at h; exact h
theorem if_f {α : Type} {c : Prop} [Decidable c] {A B : α} {z : α} (h : (if c then A else B) = z) (hc : ¬ c) : B = z := by rw [if_neg hc] at h; exact h
def loopF {α β : Type} (body : α → Option (α ⊕ β)) : Nat → α → Option β
  | 0, _ => none
  | n + 1, a => match body a with
    | none => none
    | some (.inl b) => loopF body n b
    | some (.inr z) => some z
theorem loopF_succ {α β : Type} {body : α → Option (α ⊕ β)} {n : Nat} {a : α} {Z : β} (h : loopF body (n + 1) a = some Z) : ∃ o, body a = some o ∧ (∀ b, o = .inl b → loopF body n b = some Z) ∧ (∀ z, o = .inr z → z = Z) := by
  unfold loopF at h
  cases hb : body a with
  | none => rw [hb] at h; cases h
  | some o =>
    rw [hb] at h
    refine ⟨o, rfl, fun b e => ?_, fun z e => ?_⟩
    · subst e; exact h
    · subst e; exact Option.some.inj h
def inrM {α β : Type} (x : Option β) : Option (α ⊕ β) := match x with
  | none => none
  | some z => some (.inr z)
theorem inrM_some {α β : Type} {x : Option β} {o : α ⊕ β} (h : inrM x = some o) : ∃ z, x = some z ∧ o = .inr z := by
  cases x with
  | none => cases h
  | some z => exact ⟨z, rfl, (Option.some.inj h).symm⟩
/-- what a method's body knows -/
def Cx (p : Program) (s : State) (m : MethodId) (args : Array Value) (meth : Method) (c : Code) (cc : ByteArray) (nL : Nat) (own : String) (g : Gw) : Prop :=
  p.tables.exec = Jvm.exec ∧ c.code = cc ∧ c.maxLocals = nL ∧ s.vm.findClass own = some m.cls ∧ (∀ w ∈ qw, w.before args s = true) ∧ meth.locks = false ∧ va_K g.2.1 vwCl (gT g) s ∧ wInj g
def Rk (R : Room) (d cells slots : Nat) : Prop := d ≤ R.frames ∧ 64 * d ≤ R.locals ∧ cells ≤ R.cells ∧ slots ≤ R.slots
abbrev rmD (d : Nat) : Room := { frames := d, cells := 0, slots := 0, locals := 64 * d }
abbrev kPc (g : Gw) (av : List Value) (σ : Mem) : Array Value → State → Prop := va_Pc av (fun U => Wd g σ U.heap ∧ va_K g.2.1 vwCl (gT g) U)
abbrev kQi (g : Gw) (r : Int32) (σ : Mem) : Array Value → State → Outcome → State → Prop := va_Qi (fun (x : Int32) (u : Mem) => x = r ∧ u = σ) (fun u t => Wd g u t.heap) (wA g)
abbrev kQl (g : Gw) (r : Int64) (σ : Mem) : Array Value → State → Outcome → State → Prop := va_Ql (fun (x : Int64) (u : Mem) => x = r ∧ u = σ) (fun u t => Wd g u t.heap) (wA g)
abbrev kQv (g : Gw) (σ : Mem) : Array Value → State → Outcome → State → Prop := va_Qv (fun (u : Mem) => u = σ) (fun u t => Wd g u t.heap) (wA g)
abbrev kQr (g : Gw) (a : Nat) (σ : Mem) : Array Value → State → Outcome → State → Prop := va_Qr (fun (u : Mem) => u = σ) (fun u q t => q = ad g a ∧ Wd g u t.heap) (wA g)
/-- contracts: at depth d, from memory σ, with these arguments: the answer and the memory behind it -/
abbrev KI (l : Launch) (y : MethodName) (cc : ByteArray) (nL : Nat) (ret : Option FieldType) (d : Nat) (g : Gw) (av : List Value) (σ : Mem) (r : Int32) (σ' : Mem) : Prop := Met l y (Cond.code y cc nL ret :: qw) (rmD d) (kPc g av σ) (kQi g r σ') 0 0 (wA g)
abbrev KL (l : Launch) (y : MethodName) (cc : ByteArray) (nL : Nat) (ret : Option FieldType) (d : Nat) (g : Gw) (av : List Value) (σ : Mem) (r : Int64) (σ' : Mem) : Prop := Met l y (Cond.code y cc nL ret :: qw) (rmD d) (kPc g av σ) (kQl g r σ') 0 0 (wA g)
abbrev KV (l : Launch) (y : MethodName) (cc : ByteArray) (nL : Nat) (ret : Option FieldType) (d : Nat) (g : Gw) (av : List Value) (σ : Mem) (σ' : Mem) : Prop := Met l y (Cond.code y cc nL ret :: qw) (rmD d) (kPc g av σ) (kQv g σ') 0 0 (wA g)
abbrev KR (l : Launch) (y : MethodName) (cc : ByteArray) (nL : Nat) (ret : Option FieldType) (d : Nat) (g : Gw) (av : List Value) (σ : Mem) (a : Nat) (σ' : Mem) : Prop := Met l y (Cond.code y cc nL ret :: qw) (rmD d) (kPc g av σ) (kQr g a σ') 0 0 (wA g)
section MW
variable {p : Program} {l : Launch} {e : Env} {R : Room} {s : State} {m : MethodId} {args : Array Value} {below : List Frame} {meth : Method} {c : Code} {H : Heap} {locs : List Loc} {cells slots : Nat} {Q : State → Prop}
variable {cc : ByteArray} {pc nL : Nat} {ls : Array Slot} {rest : List Value} {own : String} {g : Gw} {σ : Mem} {H0 : Heap}
theorem q_nmi {x y : Int32} (h : x = y) (k : W p l e R s m args below meth c H locs cells slots Q (F0 m pc ls (.int x :: rest))) : W p l e R s m args below meth c H locs cells slots Q (F0 m pc ls (.int y :: rest)) := h ▸ k
theorem q_nml {x y : Int64} (h : x = y) (k : W p l e R s m args below meth c H locs cells slots Q (F0 m pc ls (.long x :: rest))) : W p l e R s m args below meth c H locs cells slots Q (F0 m pc ls (.long y :: rest)) := h ▸ k
theorem q_iald (cx : Cx p s m args meth c cc nL own g) (hP : Wd g σ H) {a n : Nat} (ha : a < 129) (he : ∀ fI fL, entV g a fI fL = aI g n fI) {i : Int32} (hin : inb i n = true) (hd : decode cc pc = .ok (.iaload, 1))
    (kk : W p l e R s m args below meth c H locs cells slots Q (F0 m (pc + 1) ls (.int (σ.1 a i.toNatClampNeg) :: rest))) : W p l e R s m args below meth c H locs cells slots Q (F0 m pc ls (.int i :: .ref (ad g a) :: rest)) :=
  va_iald (f := σ.1 a) cx.1 cx.2.1 cx.2.2.2.2.2.2.1 hP a 0 ((ws_at g σ ha).trans (by unfold ent; rw [he]; rfl)) rfl (inb_in hin) hd kk
theorem q_lald (cx : Cx p s m args meth c cc nL own g) (hP : Wd g σ H) {a n : Nat} (ha : a < 129) (he : ∀ fI fL, entV g a fI fL = aL g n fL) {i : Int32} (hin : inb i n = true) (hd : decode cc pc = .ok (.laload, 1))
    (kk : W p l e R s m args below meth c H locs cells slots Q (F0 m (pc + 1) ls (.long (σ.2 a i.toNatClampNeg) :: rest))) : W p l e R s m args below meth c H locs cells slots Q (F0 m pc ls (.int i :: .ref (ad g a) :: rest)) :=
  va_lald (f := σ.2 a) cx.1 cx.2.1 cx.2.2.2.2.2.2.1 hP a 1 ((ws_at g σ ha).trans (by unfold ent; rw [he]; rfl)) rfl (inb_in hin) hd kk
theorem q_iast (cx : Cx p s m args meth c cc nL own g) (hP : Wd g σ H) (hS : va_S (wA g) H0 H locs) {a n : Nat} (ha : a < 129) (he : ∀ fI fL, entV g a fI fL = aI g n fI) {i x : Int32} {σ' : Mem} (hin : inb i n = true) (hd : decode cc pc = .ok (.iastore, 1)) (hs : σ' = sI σ a i.toNatClampNeg x)
    (kk : ∀ (H1 : Heap) (locs1 : List Loc), Wd g σ' H1 → va_S (wA g) H0 H1 locs1 → W p l e R s m args below meth c H1 locs1 cells slots Q (F0 m (pc + 1) ls rest)) : W p l e R s m args below meth c H locs cells slots Q (F0 m pc ls (.int x :: .int i :: .ref (ad g a) :: rest)) := by
  subst hs
  refine va_iast (f := σ.1 a) cx.1 cx.2.1 cx.2.2.2.2.2.2.1 hP (ws_D cx.2.2.2.2.2.2.2 σ) hS a 0 ((ws_at g σ ha).trans (by unfold ent; rw [he]; rfl)) rfl (inb_in hin) hd (fun H1 locs1 hP1 _ hS1 => kk H1 locs1 ?_ hS1)
  unfold Wd sI
  rw [← ws_setI (e := aI g n (upd (σ.1 a) i.toNatClampNeg x)) ha (he _ _)]
  exact hP1
theorem q_last (cx : Cx p s m args meth c cc nL own g) (hP : Wd g σ H) (hS : va_S (wA g) H0 H locs) {a n : Nat} (ha : a < 129) (he : ∀ fI fL, entV g a fI fL = aL g n fL) {i : Int32} {x : Int64} {σ' : Mem} (hin : inb i n = true) (hd : decode cc pc = .ok (.lastore, 1)) (hs : σ' = sL σ a i.toNatClampNeg x)
    (kk : ∀ (H1 : Heap) (locs1 : List Loc), Wd g σ' H1 → va_S (wA g) H0 H1 locs1 → W p l e R s m args below meth c H1 locs1 cells slots Q (F0 m (pc + 1) ls rest)) : W p l e R s m args below meth c H locs cells slots Q (F0 m pc ls (.long x :: .int i :: .ref (ad g a) :: rest)) := by
  subst hs
  refine va_last (f := σ.2 a) cx.1 cx.2.1 cx.2.2.2.2.2.2.1 hP (ws_D cx.2.2.2.2.2.2.2 σ) hS a 1 ((ws_at g σ ha).trans (by unfold ent; rw [he]; rfl)) rfl (inb_in hin) hd (fun H1 locs1 hP1 _ hS1 => kk H1 locs1 ?_ hS1)
  unfold Wd sL
  rw [← ws_setL (e := aL g n (vp_updL (σ.2 a) i.toNatClampNeg x)) ha (he _ _)]
  exact hP1
/-- arraylength -/
theorem q_alenI (cx : Cx p s m args meth c cc nL own g) (hP : Wd g σ H) {a n : Nat} (ha : a < 129) (he : ∀ fI fL, entV g a fI fL = aI g n fI) {v : Int32} (hv : Int32.ofNat n = v) (hd : decode cc pc = .ok (.arraylength, 1))
    (kk : W p l e R s m args below meth c H locs cells slots Q (F0 m (pc + 1) ls (.int v :: rest))) : W p l e R s m args below meth c H locs cells slots Q (F0 m pc ls (.ref (ad g a) :: rest)) :=
  va_alen (x := (n, .inl (σ.1 a))) cx.1 cx.2.1 cx.2.2.2.2.2.2.1 hP a 0 ((ws_at g σ ha).trans (by unfold ent; rw [he]; rfl)) rfl hv hd kk
theorem q_alenL (cx : Cx p s m args meth c cc nL own g) (hP : Wd g σ H) {a n : Nat} (ha : a < 129) (he : ∀ fI fL, entV g a fI fL = aL g n fL) {v : Int32} (hv : Int32.ofNat n = v) (hd : decode cc pc = .ok (.arraylength, 1))
    (kk : W p l e R s m args below meth c H locs cells slots Q (F0 m (pc + 1) ls (.int v :: rest))) : W p l e R s m args below meth c H locs cells slots Q (F0 m pc ls (.ref (ad g a) :: rest)) :=
  va_alen (x := (n, .inr (.inl (σ.2 a)))) cx.1 cx.2.1 cx.2.2.2.2.2.2.1 hP a 1 ((ws_at g σ ha).trans (by unfold ent; rw [he]; rfl)) rfl hv hd kk
/-- the ring: an array of references -/
theorem q_aald (cx : Cx p s m args meth c cc nL own g) (hP : Wd g σ H) {a n b : Nat} {f : Nat → Option Nat} (ha : a < 129) (he : ∀ fI fL, entV g a fI fL = aR g n f) {i : Int32} (hin : inb i n = true) (hf : f i.toNatClampNeg = some b) (hd : decode cc pc = .ok (.aaload, 1))
    (kk : W p l e R s m args below meth c H locs cells slots Q (F0 m (pc + 1) ls (.ref b :: rest))) : W p l e R s m args below meth c H locs cells slots Q (F0 m pc ls (.int i :: .ref (ad g a) :: rest)) :=
  va_aldq (f := f) (C := R_Prog) cx.1 cx.2.1 cx.2.2.2.2.2.2.1 hP a 2 ((ws_at g σ ha).trans (by unfold ent; rw [he]; rfl)) rfl (inb_in hin) hd (by rw [hf]; exact kk)
/-- a field is read; is written -/
theorem q_get (cx : Cx p s m args meth c cc nL own g) (hP : Wd g σ H) {C : String} {T : u_T} {N ci index a k : Nat} {fs : List Value} {v : Value} (hin : ∀ w ∈ u_ws C T N, w ∈ qw) (hc : vwCl[ci]? = some (C, T, N)) (ha : a < 129) (he : entV g a (σ.1 a) (σ.2 a) = .inr (ci, fs)) (hk : k < N)
    (hl : Cond.fieldLink own index C (T k).2.1 (T k).2.2.1 ∈ qw) (hT : (T k).1 = C) (hv : fs[k]? = some v) (hd : decode cc pc = .ok (.getfield index, 3))
    (kk : W p l e R s m args below meth c H locs cells slots Q (F0 m (pc + 3) ls (v :: rest))) : W p l e R s m args below meth c H locs cells slots Q (F0 m pc ls (.ref (ad g a) :: rest)) :=
  va_get cx.1 cx.2.1 cx.2.2.2.2.1 hin cx.2.2.2.1 cx.2.2.2.2.2.2.1 hP a ((ws_at g σ ha).trans (by unfold ent; rw [he])) hc k hk (cx.2.2.2.2.1 _ hl) (fun x h => by rw [hT] at h; exact h) hv hd kk
theorem q_put (cx : Cx p s m args meth c cc nL own g) (hP : Wd g σ H) (hS : va_S (wA g) H0 H locs) {C : String} {T : u_T} {N ci index a k : Nat} {fs : List Value} {v : Int32} {ty : FieldType} {σ' : Mem} (hin : ∀ w ∈ u_ws C T N, w ∈ qw) (ty0 : Nat → FieldType) (hty : ∀ k, k < N → parseFieldDescriptor (T k).2.2.1 = some (ty0 k)) (hnm : ∀ a, a < N → ∀ b, b < N → a ≠ b → (T a).2.1 ≠ (T b).2.1) (hc : vwCl[ci]? = some (C, T, N)) (ha : a < 129) (he : entV g a (σ.1 a) (σ.2 a) = .inr (ci, fs)) (hk : k < N)
    (hl : Cond.fieldLink own index C (T k).2.1 (T k).2.2.1 ∈ qw) (hT : (T k).1 = C) (hfin : (T k).2.2.2 = false) (hdsc : parseFieldDescriptor (T k).2.2.1 = some ty) (hn : narrow ty (.int v) = .int v) (hfit : fits ty (.int v) = true) (hlen : k < fs.length) (he2 : entV g a (upd (σ.1 a) k v) (σ.2 a) = .inr (ci, fs.set k (.int v))) (hd : decode cc pc = .ok (.putfield index, 3)) (hs : σ' = sI σ a k v)
    (kk : ∀ (H1 : Heap) (locs1 : List Loc), Wd g σ' H1 → va_S (wA g) H0 H1 locs1 → W p l e R s m args below meth c H1 locs1 cells slots Q (F0 m (pc + 3) ls rest)) : W p l e R s m args below meth c H locs cells slots Q (F0 m pc ls (.int v :: .ref (ad g a) :: rest)) := by
  subst hs
  refine va_put cx.1 cx.2.1 cx.2.2.2.2.1 hin ty0 hty hnm cx.2.2.2.1 cx.2.2.2.2.2.2.1 hP (ws_D cx.2.2.2.2.2.2.2 σ) hS a ((ws_at g σ ha).trans (by unfold ent; rw [he])) hc k hk (cx.2.2.2.2.1 _ hl) (fun x h => by rw [hT] at h; exact h) hfin hdsc hn hfit hlen hd (fun H1 locs1 hP1 _ hS1 => kk H1 locs1 ?_ hS1)
  unfold Wd sI
  rw [← ws_setI ha he2]
  exact hP1
/-- answers -/
theorem q_ri (cx : Cx p s m args meth c cc nL own g) {ty : FieldType} (hr : meth.sig.returnType = some ty) {r r0 : Int32} {σ0 : Mem} (hn : narrow ty (.int r) = .int r) (hP : Wd g σ H) (hS : va_S (wA g) s.heap H locs) (hQ : MQ below (kQi g r0 σ0) args s 0 0 (wA g) = Q) (h : some (r, σ) = some (r0, σ0)) (hd : decode cc pc = .ok (.ireturn, 1)) :
    W p l e R s m args below meth c H locs 0 0 Q (F0 m pc ls [.int r]) := by
  subst hQ
  cases h
  exact W.zret cx.1 cx.2.1 hr hn (fun t ht hW => ⟨⟨r, σ, rfl, ⟨rfl, rfl⟩, by show Wd g σ t.heap; rw [ht]; exact hP⟩, hS.F ht⟩) hS.2.2 hd cx.2.2.2.2.2.1
theorem q_rl (cx : Cx p s m args meth c cc nL own g) (hr : meth.sig.returnType = some .long) {r r0 : Int64} {σ0 : Mem} (hP : Wd g σ H) (hS : va_S (wA g) s.heap H locs) (hQ : MQ below (kQl g r0 σ0) args s 0 0 (wA g) = Q) (h : some (r, σ) = some (r0, σ0)) (hd : decode cc pc = .ok (.lreturn, 1)) :
    W p l e R s m args below meth c H locs 0 0 Q (F0 m pc ls [.long r]) := by
  subst hQ
  cases h
  exact W.lret cx.1 cx.2.1 hr (fun t ht hW => ⟨⟨r, σ, rfl, ⟨rfl, rfl⟩, by show Wd g σ t.heap; rw [ht]; exact hP⟩, hS.F ht⟩) hS.2.2 hd cx.2.2.2.2.2.1
theorem q_rv (cx : Cx p s m args meth c cc nL own g) (hr : meth.sig.returnType = none) {σ0 : Mem} (hP : Wd g σ H) (hS : va_S (wA g) s.heap H locs) (hQ : MQ below (kQv g σ0) args s 0 0 (wA g) = Q) (h : some ((), σ) = some ((), σ0)) (hd : decode cc pc = .ok (.return_, 1)) :
    W p l e R s m args below meth c H locs 0 0 Q (F0 m pc ls []) := by
  subst hQ
  cases h
  exact W.vret cx.1 cx.2.1 hr (fun t ht hW => ⟨⟨σ, rfl, rfl, by show Wd g σ t.heap; rw [ht]; exact hP⟩, hS.F ht⟩) hS.2.2 hd cx.2.2.2.2.2.1
theorem q_rr (cx : Cx p s m args meth c cc nL own g) {C : String} (hr : meth.sig.returnType = some (.object C)) {a a0 : Nat} {σ0 : Mem} (hP : Wd g σ H) (hS : va_S (wA g) s.heap H locs) (hQ : MQ below (kQr g a0 σ0) args s 0 0 (wA g) = Q) (h : some (a, σ) = some (a0, σ0)) (hd : decode cc pc = .ok (.areturn, 1)) :
    W p l e R s m args below meth c H locs 0 0 Q (F0 m pc ls [.ref (ad g a)]) := by
  subst hQ
  cases h
  exact W.aret cx.1 cx.2.1 hr (Or.inl ⟨_, rfl⟩) (Or.inr ⟨_, rfl⟩) (fun t ht hW => ⟨⟨σ, _, rfl, rfl, rfl, by show Wd g σ t.heap; rw [ht]; exact hP⟩, hS.F ht⟩) hS.2.2 hd cx.2.2.2.2.2.1
/-- a method's beginning -/
theorem q_cx {y : MethodName} {rm : Room} {ret : Option FieldType} {s₁ : State} (hg : wInj g) (B : BodyLoose p l y (headSpec (Cond.code y cc nL ret :: qw) rm) cc nL ret e s m args below meth c s₁) (hml : c.maxLocals = nL) (hK : va_K g.2.1 vwCl (gT g) s) (hown : s.vm.findClass own = some m.cls) : Cx p s m args meth c cc nL own g :=
  ⟨B.exec, B.bytes, hml, hown, fun w hw => atoms_spec (ws := Cond.code y cc nL ret :: qw) B.pre w (List.mem_cons_of_mem _ hw), B.notSynchronized, hK, hg⟩
end MW
theorem loopF_zero {α β : Type} {body : α → Option (α ⊕ β)} {a : α} {Z : β} (h : loopF body 0 a = some Z) : False := by cases h
def FU : Nat := 5000
def isB (x : Int32) : Bool := decide (x = 0) || decide (x = 1)
theorem isB_or {x : Int32} (h : isB x = true) : x = 0 ∨ x = 1 := by
  unfold isB at h
  simpa using h
theorem isB_n {x : Int32} (h : isB x = true) : narrow .boolean (.int x) = .int x := by
  rcases isB_or h with rfl | rfl <;> rfl
theorem q_inc {x y k : Int32} {n : Int} (e : y = x + k) (hk : Int32.ofInt n = k) : x + Int32.ofInt n = y := by rw [hk, e]
/-- a method that is called: its words -/
def Yw (y : MethodName) (cc : ByteArray) (nL : Nat) (ret : Option FieldType) (n : Nat) : Prop := Cond.code y cc nL ret ∈ qw ∧ Cond.initialized y.cls ∈ qw ∧ (y.cls ≠ "java/lang/invoke/MethodHandle" ∧ y.cls ≠ "java/lang/invoke/VarHandle" ∧ (parseMethodDescriptor y.desc).map (fun d => d.parameters.length) = some n) ∧ nL ≤ 45
def YV (y : MethodName) : Prop := Cond.instanceMethod y ∈ qw ∧ Cond.selects y.cls y y ∈ qw
theorem qw_sub {y : MethodName} {cc : ByteArray} {nL : Nat} {ret : Option FieldType} (hy : Cond.code y cc nL ret ∈ qw) : GoodIn qw (Cond.code y cc nL ret :: qw) := by
  intro w hw
  rcases List.mem_cons.mp hw with rfl | h
  · exact ⟨hy, qw_good _ hy⟩
  · exact ⟨h, qw_good _ h⟩
theorem k_blind {g : Gw} {av : List Value} {σ : Mem} : FrameBlind (kPc g av σ) := fun a U gf mk q => by
  obtain ⟨q0, qP, qK⟩ := q
  exact ⟨q0, qP, va_K.moved (u := U) (U := U.calling gf mk a) (Vm.Alike.refl U.vm) qK⟩
section MC
variable {p : Program} {l : Launch} {e : Env} {R : Room} {s : State} {m : MethodId} {args : Array Value} {below : List Frame} {meth : Method} {c : Code} {H : Heap} {locs : List Loc} {cells slots : Nat} {Q : State → Prop}
variable {cc : ByteArray} {pc nL : Nat} {ls : Array Slot} {rest st : List Value} {own : String} {g : Gw} {σ σ' : Mem} {H0 : Heap}
variable {y : MethodName} {bytes : ByteArray} {maxL n index d d' a ci N : Nat} {ret : Option FieldType} {As : List Value} {fs : List Value} {T : u_T}
theorem q_callB (cx : Cx p s m args meth c cc nL own g) (hR : Rk R d cells slots) (Y : Yw y bytes maxL ret n) (hl : Cond.methodLink own index y ∈ qw) (hdd : d' < d) : CallB R s args own index y bytes maxL ret (Cond.code y bytes maxL ret :: qw) (rmD d') 0 0 n := by
  refine callB_of n cx.2.2.2.2.1 (qw_sub Y.1) rfl rfl rfl (cx.2.2.2.2.1 _ Y.2.1) (cx.2.2.2.2.1 _ hl) Y.2.2.1 ⟨?_, ?_⟩
  · show d' + 1 ≤ R.frames
    have := hR.1
    omega
  · show 8 + (maxL + 11) + 64 * d' ≤ R.locals
    have := hR.2.1
    have := Y.2.2.2
    omega
theorem q_preV (cx : Cx p s m args meth c cc nL own g) (hP : Wd g σ H) {C : String} (ha : a < 129) (he : entV g a (σ.1 a) (σ.2 a) = .inr (ci, fs)) (hc : vwCl[ci]? = some (C, T, N)) : PreV s H C (ad g a) (kPc g (.ref (ad g a) :: As) σ) As :=
  ⟨k_blind, va_recv cx.2.2.2.2.2.2.1 hP hc ((ws_at g σ ha).trans (by unfold ent; rw [he])), fun U hU hW => ⟨rfl, by rw [hU]; exact hP, va_K.moved hW.alike cx.2.2.2.2.2.2.1⟩⟩
theorem q_preS (cx : Cx p s m args meth c cc nL own g) (hP : Wd g σ H) : PreS s H (kPc g As σ) As :=
  ⟨k_blind, fun U hU hW => ⟨rfl, by rw [hU]; exact hP, va_K.moved hW.alike cx.2.2.2.2.2.2.1⟩⟩
theorem q_fix (cx : Cx p s m args meth c cc nL own g) : CallFix p m c cc nL s args qw own := ⟨cx.1, cx.2.1, cx.2.2.1, cx.2.2.2.1, cx.2.2.2.2.1⟩
theorem q_cVi (cx : Cx p s m args meth c cc nL own g) (hP : Wd g σ H) (hS : va_S (wA g) H0 H locs) (hR : Rk R d cells slots) {r : Int32} (hM : KI l y bytes maxL ret d' g (.ref (ad g a) :: As) σ r σ') (Y : Yw y bytes maxL ret n) (Y2 : YV y) (hl : Cond.methodLink own index y ∈ qw) (hdd : d' < d) (ha : a < 129) (he : entV g a (σ.1 a) (σ.2 a) = .inr (ci, fs)) (hc : vwCl[ci]? = some (y.cls, T, N)) (hn : As.length = n) (hz : ls.size = nL) (hst : st = As.reverse ++ .ref (ad g a) :: rest) (h8 : (rest.map fun v => v.category).sum ≤ 8) (hdg : decode cc pc = .ok (.invokevirtual index, 3))
    (kk : ∀ (H1 : Heap) (locs1 : List Loc), Wd g σ' H1 → va_S (wA g) H0 H1 locs1 → W p l e R s m args below meth c H1 locs1 cells slots Q (F0 m (pc + 3) ls (.int r :: rest))) : W p l e R s m args below meth c H locs cells slots Q (F0 m pc ls st) := by
  refine va_calli (va_runV (g := F0 m pc ls st) (b := ad g a) (As := As) (rest := rest) (q_fix cx) hM ⟨q_callB cx hR Y hl hdd, cx.2.2.2.2.1 _ Y2.1, cx.2.2.2.2.1 _ Y2.2⟩ (q_preV cx hP ha he hc) rfl hn hz hst (lv_room h8) hdg ⟨hR.2.2.1, hR.2.2.2⟩) hS (fun q _ h => h) (fun q h => h) (fun r1 u t H1 locs1 ht hvm hpost hB hz1 hk1 hS1 => ?_)
  obtain ⟨rfl, rfl⟩ := hpost
  exact kk H1 locs1 (by rw [← ht]; exact hB) hS1
theorem q_cVl (cx : Cx p s m args meth c cc nL own g) (hP : Wd g σ H) (hS : va_S (wA g) H0 H locs) (hR : Rk R d cells slots) {r : Int64} (hM : KL l y bytes maxL ret d' g (.ref (ad g a) :: As) σ r σ') (Y : Yw y bytes maxL ret n) (Y2 : YV y) (hl : Cond.methodLink own index y ∈ qw) (hdd : d' < d) (ha : a < 129) (he : entV g a (σ.1 a) (σ.2 a) = .inr (ci, fs)) (hc : vwCl[ci]? = some (y.cls, T, N)) (hn : As.length = n) (hz : ls.size = nL) (hst : st = As.reverse ++ .ref (ad g a) :: rest) (h8 : (rest.map fun v => v.category).sum ≤ 8) (hdg : decode cc pc = .ok (.invokevirtual index, 3))
    (kk : ∀ (H1 : Heap) (locs1 : List Loc), Wd g σ' H1 → va_S (wA g) H0 H1 locs1 → W p l e R s m args below meth c H1 locs1 cells slots Q (F0 m (pc + 3) ls (.long r :: rest))) : W p l e R s m args below meth c H locs cells slots Q (F0 m pc ls st) := by
  refine va_calll (va_runV (g := F0 m pc ls st) (b := ad g a) (As := As) (rest := rest) (q_fix cx) hM ⟨q_callB cx hR Y hl hdd, cx.2.2.2.2.1 _ Y2.1, cx.2.2.2.2.1 _ Y2.2⟩ (q_preV cx hP ha he hc) rfl hn hz hst (lv_room h8) hdg ⟨hR.2.2.1, hR.2.2.2⟩) hS (fun q _ h => h) (fun q h => h) (fun r1 u t H1 locs1 ht hvm hpost hB hz1 hk1 hS1 => ?_)
  obtain ⟨rfl, rfl⟩ := hpost
  exact kk H1 locs1 (by rw [← ht]; exact hB) hS1
theorem q_cVv (cx : Cx p s m args meth c cc nL own g) (hP : Wd g σ H) (hS : va_S (wA g) H0 H locs) (hR : Rk R d cells slots) (hM : KV l y bytes maxL ret d' g (.ref (ad g a) :: As) σ σ') (Y : Yw y bytes maxL ret n) (Y2 : YV y) (hl : Cond.methodLink own index y ∈ qw) (hdd : d' < d) (ha : a < 129) (he : entV g a (σ.1 a) (σ.2 a) = .inr (ci, fs)) (hc : vwCl[ci]? = some (y.cls, T, N)) (hn : As.length = n) (hz : ls.size = nL) (hst : st = As.reverse ++ .ref (ad g a) :: rest) (h8 : (rest.map fun v => v.category).sum ≤ 8) (hdg : decode cc pc = .ok (.invokevirtual index, 3))
    (kk : ∀ (H1 : Heap) (locs1 : List Loc), Wd g σ' H1 → va_S (wA g) H0 H1 locs1 → W p l e R s m args below meth c H1 locs1 cells slots Q (F0 m (pc + 3) ls rest)) : W p l e R s m args below meth c H locs cells slots Q (F0 m pc ls st) := by
  refine va_callv (va_runV (g := F0 m pc ls st) (b := ad g a) (As := As) (rest := rest) (q_fix cx) hM ⟨q_callB cx hR Y hl hdd, cx.2.2.2.2.1 _ Y2.1, cx.2.2.2.2.1 _ Y2.2⟩ (q_preV cx hP ha he hc) rfl hn hz hst (lv_room h8) hdg ⟨hR.2.2.1, hR.2.2.2⟩) hS (fun q _ h => h) (fun q h => h) (fun u t H1 locs1 ht hvm hpost hB hz1 hk1 hS1 => ?_)
  obtain rfl := hpost
  exact kk H1 locs1 (by rw [← ht]; exact hB) hS1
theorem q_cVr (cx : Cx p s m args meth c cc nL own g) (hP : Wd g σ H) (hS : va_S (wA g) H0 H locs) (hR : Rk R d cells slots) {b : Nat} (hM : KR l y bytes maxL ret d' g (.ref (ad g a) :: As) σ b σ') (Y : Yw y bytes maxL ret n) (Y2 : YV y) (hl : Cond.methodLink own index y ∈ qw) (hdd : d' < d) (ha : a < 129) (he : entV g a (σ.1 a) (σ.2 a) = .inr (ci, fs)) (hc : vwCl[ci]? = some (y.cls, T, N)) (hn : As.length = n) (hz : ls.size = nL) (hst : st = As.reverse ++ .ref (ad g a) :: rest) (h8 : (rest.map fun v => v.category).sum ≤ 8) (hdg : decode cc pc = .ok (.invokevirtual index, 3))
    (kk : ∀ (H1 : Heap) (locs1 : List Loc), Wd g σ' H1 → va_S (wA g) H0 H1 locs1 → W p l e R s m args below meth c H1 locs1 cells slots Q (F0 m (pc + 3) ls (.ref (ad g b) :: rest))) : W p l e R s m args below meth c H locs cells slots Q (F0 m pc ls st) := by
  refine va_callr (va_runV (g := F0 m pc ls st) (b := ad g a) (As := As) (rest := rest) (q_fix cx) hM ⟨q_callB cx hR Y hl hdd, cx.2.2.2.2.1 _ Y2.1, cx.2.2.2.2.1 _ Y2.2⟩ (q_preV cx hP ha he hc) rfl hn hz hst (lv_room h8) hdg ⟨hR.2.2.1, hR.2.2.2⟩) hS (fun q _ h => h) (fun q h => h) (fun u ra t H1 locs1 ht hvm hpost hB hz1 hk1 hS1 => ?_)
  obtain rfl := hpost
  obtain ⟨rfl, hB⟩ := hB
  exact kk H1 locs1 (by rw [← ht]; exact hB) hS1
theorem q_cSi (cx : Cx p s m args meth c cc nL own g) (hP : Wd g σ H) (hS : va_S (wA g) H0 H locs) (hR : Rk R d cells slots) {r : Int32} (hM : KI l y bytes maxL ret d' g As σ r σ') (Y : Yw y bytes maxL ret n) (Y2 : Cond.static y ∈ qw) (hl : Cond.methodLink own index y ∈ qw) (hdd : d' < d) (hn : As.length = n) (hz : ls.size = nL) (hst : st = As.reverse ++ rest) (h8 : (rest.map fun v => v.category).sum ≤ 8) (hdg : decode cc pc = .ok (.invokestatic index, 3))
    (kk : ∀ (H1 : Heap) (locs1 : List Loc), Wd g σ' H1 → va_S (wA g) H0 H1 locs1 → W p l e R s m args below meth c H1 locs1 cells slots Q (F0 m (pc + 3) ls (.int r :: rest))) : W p l e R s m args below meth c H locs cells slots Q (F0 m pc ls st) := by
  refine va_calli (va_runS (g := F0 m pc ls st) (As := As) (rest := rest) (q_fix cx) hM ⟨q_callB cx hR Y hl hdd, cx.2.2.2.2.1 _ Y2⟩ (q_preS cx hP) rfl hn hz hst (lv_room h8) hdg ⟨hR.2.2.1, hR.2.2.2⟩) hS (fun q _ h => h) (fun q h => h) (fun r1 u t H1 locs1 ht hvm hpost hB hz1 hk1 hS1 => ?_)
  obtain ⟨rfl, rfl⟩ := hpost
  exact kk H1 locs1 (by rw [← ht]; exact hB) hS1
theorem q_cSl (cx : Cx p s m args meth c cc nL own g) (hP : Wd g σ H) (hS : va_S (wA g) H0 H locs) (hR : Rk R d cells slots) {r : Int64} (hM : KL l y bytes maxL ret d' g As σ r σ') (Y : Yw y bytes maxL ret n) (Y2 : Cond.static y ∈ qw) (hl : Cond.methodLink own index y ∈ qw) (hdd : d' < d) (hn : As.length = n) (hz : ls.size = nL) (hst : st = As.reverse ++ rest) (h8 : (rest.map fun v => v.category).sum ≤ 8) (hdg : decode cc pc = .ok (.invokestatic index, 3))
    (kk : ∀ (H1 : Heap) (locs1 : List Loc), Wd g σ' H1 → va_S (wA g) H0 H1 locs1 → W p l e R s m args below meth c H1 locs1 cells slots Q (F0 m (pc + 3) ls (.long r :: rest))) : W p l e R s m args below meth c H locs cells slots Q (F0 m pc ls st) := by
  refine va_calll (va_runS (g := F0 m pc ls st) (As := As) (rest := rest) (q_fix cx) hM ⟨q_callB cx hR Y hl hdd, cx.2.2.2.2.1 _ Y2⟩ (q_preS cx hP) rfl hn hz hst (lv_room h8) hdg ⟨hR.2.2.1, hR.2.2.2⟩) hS (fun q _ h => h) (fun q h => h) (fun r1 u t H1 locs1 ht hvm hpost hB hz1 hk1 hS1 => ?_)
  obtain ⟨rfl, rfl⟩ := hpost
  exact kk H1 locs1 (by rw [← ht]; exact hB) hS1
theorem q_cSv (cx : Cx p s m args meth c cc nL own g) (hP : Wd g σ H) (hS : va_S (wA g) H0 H locs) (hR : Rk R d cells slots) (hM : KV l y bytes maxL ret d' g As σ σ') (Y : Yw y bytes maxL ret n) (Y2 : Cond.static y ∈ qw) (hl : Cond.methodLink own index y ∈ qw) (hdd : d' < d) (hn : As.length = n) (hz : ls.size = nL) (hst : st = As.reverse ++ rest) (h8 : (rest.map fun v => v.category).sum ≤ 8) (hdg : decode cc pc = .ok (.invokestatic index, 3))
    (kk : ∀ (H1 : Heap) (locs1 : List Loc), Wd g σ' H1 → va_S (wA g) H0 H1 locs1 → W p l e R s m args below meth c H1 locs1 cells slots Q (F0 m (pc + 3) ls rest)) : W p l e R s m args below meth c H locs cells slots Q (F0 m pc ls st) := by
  refine va_callv (va_runS (g := F0 m pc ls st) (As := As) (rest := rest) (q_fix cx) hM ⟨q_callB cx hR Y hl hdd, cx.2.2.2.2.1 _ Y2⟩ (q_preS cx hP) rfl hn hz hst (lv_room h8) hdg ⟨hR.2.2.1, hR.2.2.2⟩) hS (fun q _ h => h) (fun q h => h) (fun u t H1 locs1 ht hvm hpost hB hz1 hk1 hS1 => ?_)
  obtain rfl := hpost
  exact kk H1 locs1 (by rw [← ht]; exact hB) hS1
/-- a contract out of its body -/
theorem q_met {Qc : Array Value → State → Outcome → State → Prop} (g : Gw) (hg : wInj g) (hy : plainName y.cls = true) (hcls : y.cls = own) (hle : (lg_sl As).length ≤ nL)
    (body : ∀ (p : Program) (e : Env) (s : State) (m : MethodId) (args : Array Value) (below : List Frame) (meth : Method) (c : Code) (R : Room) (Q : State → Prop), Cx p s m args meth c cc nL own g → Rk R d 0 0 → meth.sig.returnType = ret → MQ below Qc args s 0 0 (wA g) = Q → ∀ (H : Heap) (locs : List Loc) (ls : Array Slot), Wd g σ H → va_S (wA g) s.heap H locs → lv_has ls nL (lv_args 0 As) → W p l e R s m args below meth c H locs 0 0 Q (F0 m 0 ls [])) :
    Met l y (Cond.code y cc nL ret :: qw) (rmD d) (kPc g As σ) Qc 0 0 (wA g) := by
  refine Met.ofW (cc := cc) (maxL := nL) (ret := ret) hy rfl ?_
  intro p e s m args below meth c s₁ B hml hv
  obtain ⟨rfl, hP, hK⟩ := hv
  have hown : s.vm.findClass own = some m.cls := by rw [← hcls]; exact findClass_of_methodNamed B.named
  rw [lg_entry_eq]
  exact body p e s m _ below meth c _ _ (q_cx hg B hml hK hown) ⟨Nat.le_refl _, Nat.le_refl _, Nat.zero_le _, Nat.zero_le _⟩ B.returns rfl s.heap [] _ hP va_S.rf (lv_entry As hle)
end MC
theorem q_rP {i r : Nat} {σ σ0 : Mem} (h : some (i, σ) = some (r, σ0)) : some (cP i, σ) = some (cP r, σ0) := by cases h; rfl
theorem q_r1 {a r : Nat} {σ σ0 : Mem} (h : some (a, σ) = some (r, σ0)) : some (a, σ) = some (a, σ0) := by cases h; rfl
end
section
/-! the JDK's own that the class calls: System.arraycopy, Math.max, min, abs -/
def cpOk (sp dp n : Int32) (n0 n1 : Nat) : Bool := (!(decide (sp < 0) || decide (dp < 0) || decide (n < 0))) && (decide (sp.toNatClampNeg + n.toNatClampNeg ≤ n0) && decide (dp.toNatClampNeg + n.toNatClampNeg ≤ n1))
theorem cpOk_and {sp dp n : Int32} {n0 n1 : Nat} (h : cpOk sp dp n n0 n1 = true) : ¬ sp < 0 ∧ ¬ dp < 0 ∧ ¬ n < 0 ∧ sp.toNatClampNeg + n.toNatClampNeg ≤ n0 ∧ dp.toNatClampNeg + n.toNatClampNeg ≤ n1 := by
  unfold cpOk at h
  rw [Bool.and_eq_true, Bool.and_eq_true, Bool.not_eq_true', Bool.or_eq_false_iff, Bool.or_eq_false_iff] at h
  exact ⟨of_decide_eq_false h.1.1.1, of_decide_eq_false h.1.1.2, of_decide_eq_false h.1.2, of_decide_eq_true h.2.1, of_decide_eq_true h.2.2⟩
section MN
variable {p : Program} {l : Launch} {e : Env} {R : Room} {s : State} {m : MethodId} {args : Array Value} {below : List Frame} {meth : Method} {c : Code} {H : Heap} {locs : List Loc} {cells slots : Nat} {Q : State → Prop}
variable {cc : ByteArray} {pc nL index d : Nat} {ls : Array Slot} {rest : List Value} {own : String} {g : Gw} {σ σ' : Mem} {H0 : Heap}
theorem q_words : nativeFrameWords "java/lang/System" "arraycopy" 5 + 11 ≤ 56 := by decide
theorem q_copyi (cx : Cx p s m args meth c cc nL own g) (hP : Wd g σ H) (hS : va_S (wA g) H0 H locs) (hR : Rk R d cells slots) (hl : Cond.methodLink own index arraycopyName ∈ qw) (hN : Cond.native arraycopyName ∈ qw ∧ Cond.static arraycopyName ∈ qw ∧ Cond.initialized "java/lang/System" ∈ qw) (hd : 0 < d) {a0 a1 n0 n1 : Nat} (ha0 : a0 < 129) (he0 : ∀ fI fL, entV g a0 fI fL = aI g n0 fI) (ha1 : a1 < 129) (he1 : ∀ fI fL, entV g a1 fI fL = aI g n1 fI) {sp dp n : Int32} (hok : cpOk sp dp n n0 n1 = true) (hz : ls.size = nL) (h8 : (rest.map fun v => v.category).sum ≤ 8) (hdg : decode cc pc = .ok (.invokestatic index, 3)) (hs : σ' = rI σ a1 (va_cpy (σ.1 a0) (σ.1 a1) sp.toNatClampNeg dp.toNatClampNeg n.toNatClampNeg))
    (kk : ∀ (H1 : Heap) (locs1 : List Loc), Wd g σ' H1 → va_S (wA g) H0 H1 locs1 → W p l e R s m args below meth c H1 locs1 cells slots Q (F0 m (pc + 3) ls rest)) : W p l e R s m args below meth c H locs cells slots Q (F0 m pc ls (.int n :: .int dp :: .ref (ad g a1) :: .int sp :: .ref (ad g a0) :: rest)) := by
  subst hs
  obtain ⟨h1, h2, h3, h4, h5⟩ := cpOk_and hok
  refine va_copyi (f := σ.1 a0) (g := σ.1 a1) (ty := .int) cx.1 cx.2.1 (cx.2.2.1.trans hz.symm) cx.2.2.2.1 (cx.2.2.2.2.1 _ hl) (cx.2.2.2.2.1 _ hN.1) (cx.2.2.2.2.1 _ hN.2.1) (cx.2.2.2.2.1 _ hN.2.2) cx.2.2.2.2.2.2.1 hP (ws_D cx.2.2.2.2.2.2.2 σ) hS a0 a1 0 0 ((ws_at g σ ha0).trans (by unfold ent; rw [he0]; rfl)) ((ws_at g σ ha1).trans (by unfold ent; rw [he1]; rfl)) rfl rfl rfl h1 h2 h3 h4 h5 (fun _ _ => rfl) (by have := hR.1; omega) (by have := hR.2.1; have := q_words; omega) hdg (fun H1 locs1 hP1 _ hS1 => kk H1 locs1 ?_ hS1)
  unfold Wd
  rw [← ws_setI (e := aI g n1 _) ha1 (he1 _ _)]
  exact hP1
theorem q_copyl (cx : Cx p s m args meth c cc nL own g) (hP : Wd g σ H) (hS : va_S (wA g) H0 H locs) (hR : Rk R d cells slots) (hl : Cond.methodLink own index arraycopyName ∈ qw) (hN : Cond.native arraycopyName ∈ qw ∧ Cond.static arraycopyName ∈ qw ∧ Cond.initialized "java/lang/System" ∈ qw) (hd : 0 < d) {a0 a1 n0 n1 : Nat} (ha0 : a0 < 129) (he0 : ∀ fI fL, entV g a0 fI fL = aL g n0 fL) (ha1 : a1 < 129) (he1 : ∀ fI fL, entV g a1 fI fL = aL g n1 fL) {sp dp n : Int32} (hok : cpOk sp dp n n0 n1 = true) (hz : ls.size = nL) (h8 : (rest.map fun v => v.category).sum ≤ 8) (hdg : decode cc pc = .ok (.invokestatic index, 3)) (hs : σ' = rL σ a1 (va_cpy (σ.2 a0) (σ.2 a1) sp.toNatClampNeg dp.toNatClampNeg n.toNatClampNeg))
    (kk : ∀ (H1 : Heap) (locs1 : List Loc), Wd g σ' H1 → va_S (wA g) H0 H1 locs1 → W p l e R s m args below meth c H1 locs1 cells slots Q (F0 m (pc + 3) ls rest)) : W p l e R s m args below meth c H locs cells slots Q (F0 m pc ls (.int n :: .int dp :: .ref (ad g a1) :: .int sp :: .ref (ad g a0) :: rest)) := by
  subst hs
  obtain ⟨h1, h2, h3, h4, h5⟩ := cpOk_and hok
  refine va_copyl (f := σ.2 a0) (g := σ.2 a1) (ty := .long) cx.1 cx.2.1 (cx.2.2.1.trans hz.symm) cx.2.2.2.1 (cx.2.2.2.2.1 _ hl) (cx.2.2.2.2.1 _ hN.1) (cx.2.2.2.2.1 _ hN.2.1) (cx.2.2.2.2.1 _ hN.2.2) cx.2.2.2.2.2.2.1 hP (ws_D cx.2.2.2.2.2.2.2 σ) hS a0 a1 1 1 ((ws_at g σ ha0).trans (by unfold ent; rw [he0]; rfl)) ((ws_at g σ ha1).trans (by unfold ent; rw [he1]; rfl)) rfl rfl rfl h1 h2 h3 h4 h5 (fun _ _ => rfl) (by have := hR.1; omega) (by have := hR.2.1; have := q_words; omega) hdg (fun H1 locs1 hP1 _ hS1 => kk H1 locs1 ?_ hS1)
  unfold Wd
  rw [← ws_setL (e := aL g n1 _) ha1 (he1 _ _)]
  exact hP1
theorem q_max (cx : Cx p s m args meth c cc nL own g) (hR : Rk R d cells slots) (hl : Cond.methodLink own index Lib.Math.max.name ∈ qw) (hN : Cond.static Lib.Math.max.name ∈ qw ∧ Cond.initialized "java/lang/Math" ∈ qw ∧ Cond.code Lib.Math.max.name Lib.Math.max.code 2 (some .int) ∈ qw) (hd : 0 < d) {x y : Int32} (hz : ls.size = nL) (h8 : (rest.map fun v => v.category).sum ≤ 8) (hdg : decode cc pc = .ok (.invokestatic index, 3))
    (kk : W p l e R s m args below meth c H locs cells slots Q (F0 m (pc + 3) ls (.int (if x < y then y else x) :: rest))) : W p l e R s m args below meth c H locs cells slots Q (F0 m pc ls (.int y :: .int x :: rest)) :=
  va_mmax cx.1 cx.2.1 (cx.2.2.1.trans hz.symm) cx.2.2.2.1 (cx.2.2.2.2.1 _ hl) (cx.2.2.2.2.1 _ hN.1) (cx.2.2.2.2.1 _ hN.2.1) (cx.2.2.2.2.1 _ hN.2.2) (by have := hR.1; omega) (by have := hR.2.1; omega) hR.2.2.1 hR.2.2.2 hdg kk
theorem q_min (cx : Cx p s m args meth c cc nL own g) (hR : Rk R d cells slots) (hl : Cond.methodLink own index Lib.Math.min.name ∈ qw) (hN : Cond.static Lib.Math.min.name ∈ qw ∧ Cond.initialized "java/lang/Math" ∈ qw ∧ Cond.code Lib.Math.min.name Lib.Math.min.code 2 (some .int) ∈ qw) (hd : 0 < d) {x y : Int32} (hz : ls.size = nL) (h8 : (rest.map fun v => v.category).sum ≤ 8) (hdg : decode cc pc = .ok (.invokestatic index, 3))
    (kk : W p l e R s m args below meth c H locs cells slots Q (F0 m (pc + 3) ls (.int (if y < x then y else x) :: rest))) : W p l e R s m args below meth c H locs cells slots Q (F0 m pc ls (.int y :: .int x :: rest)) :=
  va_mmin cx.1 cx.2.1 (cx.2.2.1.trans hz.symm) cx.2.2.2.1 (cx.2.2.2.2.1 _ hl) (cx.2.2.2.2.1 _ hN.1) (cx.2.2.2.2.1 _ hN.2.1) (cx.2.2.2.2.1 _ hN.2.2) (by have := hR.1; omega) (by have := hR.2.1; omega) hR.2.2.1 hR.2.2.2 hdg kk
theorem q_abs (cx : Cx p s m args meth c cc nL own g) (hR : Rk R d cells slots) (hl : Cond.methodLink own index Lib.Math.abs.name ∈ qw) (hN : Cond.static Lib.Math.abs.name ∈ qw ∧ Cond.initialized "java/lang/Math" ∈ qw ∧ Cond.code Lib.Math.abs.name Lib.Math.abs.code 1 (some .int) ∈ qw) (hd : 0 < d) {x : Int32} (hz : ls.size = nL) (h8 : (rest.map fun v => v.category).sum ≤ 8) (hdg : decode cc pc = .ok (.invokestatic index, 3))
    (kk : W p l e R s m args below meth c H locs cells slots Q (F0 m (pc + 3) ls (.int (if 0 ≤ x then x else 0 - x) :: rest))) : W p l e R s m args below meth c H locs cells slots Q (F0 m pc ls (.int x :: rest)) :=
  va_mabs cx.1 cx.2.1 (cx.2.2.1.trans hz.symm) cx.2.2.2.1 (cx.2.2.2.2.1 _ hl) (cx.2.2.2.2.1 _ hN.1) (cx.2.2.2.2.1 _ hN.2.1) (cx.2.2.2.2.1 _ hN.2.2) (by have := hR.1; omega) (by have := hR.2.1; omega) hR.2.2.1 hR.2.2.2 hdg kk
end MN
end
section
/-! a row a field -/
section MF
variable {p : Program} {l : Launch} {e : Env} {R : Room} {s : State} {m : MethodId} {args : Array Value} {below : List Frame} {meth : Method} {c : Code} {H : Heap} {locs : List Loc} {cells slots : Nat} {Q : State → Prop}
variable {cc : ByteArray} {pc nL index : Nat} {ls : Array Slot} {rest : List Value} {own : String} {g : Gw} {σ : Mem} {H0 : Heap}
theorem g_Be_history (cx : Cx p s m args meth c cc nL own g) (hP : Wd g σ H) (hl : Cond.fieldLink own index "TermBench" "history" "LTermBench$History;" ∈ qw) (hd : decode cc pc = .ok (.getfield index, 3)) (kk : W p l e R s m args below meth c H locs cells slots Q (F0 m (pc + 3) ls (.ref (ad g 1) :: rest))) : W p l e R s m args below meth c H locs cells slots Q (F0 m pc ls (.ref (ad g 0) :: rest)) :=
  q_get (T := TBe) (N := 4) (k := 0) cx hP qinBe (ci := 5) rfl (by decide) (e_0 g _ _) (by decide) hl rfl rfl hd kk
theorem g_Be_typing (cx : Cx p s m args meth c cc nL own g) (hP : Wd g σ H) (hl : Cond.fieldLink own index "TermBench" "typing" "LTermBench$Typing;" ∈ qw) (hd : decode cc pc = .ok (.getfield index, 3)) (kk : W p l e R s m args below meth c H locs cells slots Q (F0 m (pc + 3) ls (.ref (ad g 3) :: rest))) : W p l e R s m args below meth c H locs cells slots Q (F0 m pc ls (.ref (ad g 0) :: rest)) :=
  q_get (T := TBe) (N := 4) (k := 1) cx hP qinBe (ci := 5) rfl (by decide) (e_0 g _ _) (by decide) hl rfl rfl hd kk
theorem g_Be_page (cx : Cx p s m args meth c cc nL own g) (hP : Wd g σ H) (hl : Cond.fieldLink own index "TermBench" "page" "LTermBench$Page;" ∈ qw) (hd : decode cc pc = .ok (.getfield index, 3)) (kk : W p l e R s m args below meth c H locs cells slots Q (F0 m (pc + 3) ls (.ref (ad g 7) :: rest))) : W p l e R s m args below meth c H locs cells slots Q (F0 m pc ls (.ref (ad g 0) :: rest)) :=
  q_get (T := TBe) (N := 4) (k := 2) cx hP qinBe (ci := 5) rfl (by decide) (e_0 g _ _) (by decide) hl rfl rfl hd kk
theorem g_Be_machine (cx : Cx p s m args meth c cc nL own g) (hP : Wd g σ H) (hl : Cond.fieldLink own index "TermBench" "machine" "LTermBench$Machine;" ∈ qw) (hd : decode cc pc = .ok (.getfield index, 3)) (kk : W p l e R s m args below meth c H locs cells slots Q (F0 m (pc + 3) ls (.ref (ad g 11) :: rest))) : W p l e R s m args below meth c H locs cells slots Q (F0 m pc ls (.ref (ad g 0) :: rest)) :=
  q_get (T := TBe) (N := 4) (k := 3) cx hP qinBe (ci := 5) rfl (by decide) (e_0 g _ _) (by decide) hl rfl rfl hd kk
theorem g_Hi_ring (cx : Cx p s m args meth c cc nL own g) (hP : Wd g σ H) (hl : Cond.fieldLink own index "TermBench$History" "ring" "[LTermBench$Program;" ∈ qw) (hd : decode cc pc = .ok (.getfield index, 3)) (kk : W p l e R s m args below meth c H locs cells slots Q (F0 m (pc + 3) ls (.ref (ad g 2) :: rest))) : W p l e R s m args below meth c H locs cells slots Q (F0 m pc ls (.ref (ad g 1) :: rest)) :=
  q_get (T := THi) (N := 5) (k := 0) cx hP qinHi (ci := 0) rfl (by decide) (e_1 g _ _) (by decide) hl rfl rfl hd kk
theorem g_Hi_place (cx : Cx p s m args meth c cc nL own g) (hP : Wd g σ H) (hl : Cond.fieldLink own index "TermBench$History" "place" "I" ∈ qw) (hd : decode cc pc = .ok (.getfield index, 3)) (kk : W p l e R s m args below meth c H locs cells slots Q (F0 m (pc + 3) ls (.int (σ.1 1 1) :: rest))) : W p l e R s m args below meth c H locs cells slots Q (F0 m pc ls (.ref (ad g 1) :: rest)) :=
  q_get (T := THi) (N := 5) (k := 1) cx hP qinHi (ci := 0) rfl (by decide) (e_1 g _ _) (by decide) hl rfl rfl hd kk
theorem p_Hi_place (cx : Cx p s m args meth c cc nL own g) (hP : Wd g σ H) (hS : va_S (wA g) H0 H locs) (hl : Cond.fieldLink own index "TermBench$History" "place" "I" ∈ qw) (hd : decode cc pc = .ok (.putfield index, 3)) {v : Int32} {σ1 : Mem} (hs : σ1 = sI σ 1 1 v) (kk : ∀ (H1 : Heap) (locs1 : List Loc), Wd g σ1 H1 → va_S (wA g) H0 H1 locs1 → W p l e R s m args below meth c H1 locs1 cells slots Q (F0 m (pc + 3) ls rest)) : W p l e R s m args below meth c H locs cells slots Q (F0 m pc ls (.int v :: .ref (ad g 1) :: rest)) :=
  q_put (T := THi) (N := 5) (k := 1) (ty := .int) cx hP hS qinHi tyHi tyHi_ok nmHi (ci := 0) rfl (by decide) (e_1 g _ _) (by decide) hl rfl rfl rfl rfl rfl (Nat.le_of_ble_eq_true rfl) (by rw [e_1 g]; rfl) hd hs kk
theorem g_Hi_kept (cx : Cx p s m args meth c cc nL own g) (hP : Wd g σ H) (hl : Cond.fieldLink own index "TermBench$History" "kept" "I" ∈ qw) (hd : decode cc pc = .ok (.getfield index, 3)) (kk : W p l e R s m args below meth c H locs cells slots Q (F0 m (pc + 3) ls (.int (σ.1 1 2) :: rest))) : W p l e R s m args below meth c H locs cells slots Q (F0 m pc ls (.ref (ad g 1) :: rest)) :=
  q_get (T := THi) (N := 5) (k := 2) cx hP qinHi (ci := 0) rfl (by decide) (e_1 g _ _) (by decide) hl rfl rfl hd kk
theorem p_Hi_kept (cx : Cx p s m args meth c cc nL own g) (hP : Wd g σ H) (hS : va_S (wA g) H0 H locs) (hl : Cond.fieldLink own index "TermBench$History" "kept" "I" ∈ qw) (hd : decode cc pc = .ok (.putfield index, 3)) {v : Int32} {σ1 : Mem} (hs : σ1 = sI σ 1 2 v) (kk : ∀ (H1 : Heap) (locs1 : List Loc), Wd g σ1 H1 → va_S (wA g) H0 H1 locs1 → W p l e R s m args below meth c H1 locs1 cells slots Q (F0 m (pc + 3) ls rest)) : W p l e R s m args below meth c H locs cells slots Q (F0 m pc ls (.int v :: .ref (ad g 1) :: rest)) :=
  q_put (T := THi) (N := 5) (k := 2) (ty := .int) cx hP hS qinHi tyHi tyHi_ok nmHi (ci := 0) rfl (by decide) (e_1 g _ _) (by decide) hl rfl rfl rfl rfl rfl (Nat.le_of_ble_eq_true rfl) (by rw [e_1 g]; rfl) hd hs kk
theorem g_Hi_putBy (cx : Cx p s m args meth c cc nL own g) (hP : Wd g σ H) (hl : Cond.fieldLink own index "TermBench$History" "putBy" "I" ∈ qw) (hd : decode cc pc = .ok (.getfield index, 3)) (kk : W p l e R s m args below meth c H locs cells slots Q (F0 m (pc + 3) ls (.int (σ.1 1 3) :: rest))) : W p l e R s m args below meth c H locs cells slots Q (F0 m pc ls (.ref (ad g 1) :: rest)) :=
  q_get (T := THi) (N := 5) (k := 3) cx hP qinHi (ci := 0) rfl (by decide) (e_1 g _ _) (by decide) hl rfl rfl hd kk
theorem p_Hi_putBy (cx : Cx p s m args meth c cc nL own g) (hP : Wd g σ H) (hS : va_S (wA g) H0 H locs) (hl : Cond.fieldLink own index "TermBench$History" "putBy" "I" ∈ qw) (hd : decode cc pc = .ok (.putfield index, 3)) {v : Int32} {σ1 : Mem} (hs : σ1 = sI σ 1 3 v) (kk : ∀ (H1 : Heap) (locs1 : List Loc), Wd g σ1 H1 → va_S (wA g) H0 H1 locs1 → W p l e R s m args below meth c H1 locs1 cells slots Q (F0 m (pc + 3) ls rest)) : W p l e R s m args below meth c H locs cells slots Q (F0 m pc ls (.int v :: .ref (ad g 1) :: rest)) :=
  q_put (T := THi) (N := 5) (k := 3) (ty := .int) cx hP hS qinHi tyHi tyHi_ok nmHi (ci := 0) rfl (by decide) (e_1 g _ _) (by decide) hl rfl rfl rfl rfl rfl (Nat.le_of_ble_eq_true rfl) (by rw [e_1 g]; rfl) hd hs kk
theorem g_Hi_change (cx : Cx p s m args meth c cc nL own g) (hP : Wd g σ H) (hl : Cond.fieldLink own index "TermBench$History" "change" "I" ∈ qw) (hd : decode cc pc = .ok (.getfield index, 3)) (kk : W p l e R s m args below meth c H locs cells slots Q (F0 m (pc + 3) ls (.int (σ.1 1 4) :: rest))) : W p l e R s m args below meth c H locs cells slots Q (F0 m pc ls (.ref (ad g 1) :: rest)) :=
  q_get (T := THi) (N := 5) (k := 4) cx hP qinHi (ci := 0) rfl (by decide) (e_1 g _ _) (by decide) hl rfl rfl hd kk
theorem p_Hi_change (cx : Cx p s m args meth c cc nL own g) (hP : Wd g σ H) (hS : va_S (wA g) H0 H locs) (hl : Cond.fieldLink own index "TermBench$History" "change" "I" ∈ qw) (hd : decode cc pc = .ok (.putfield index, 3)) {v : Int32} {σ1 : Mem} (hs : σ1 = sI σ 1 4 v) (kk : ∀ (H1 : Heap) (locs1 : List Loc), Wd g σ1 H1 → va_S (wA g) H0 H1 locs1 → W p l e R s m args below meth c H1 locs1 cells slots Q (F0 m (pc + 3) ls rest)) : W p l e R s m args below meth c H locs cells slots Q (F0 m pc ls (.int v :: .ref (ad g 1) :: rest)) :=
  q_put (T := THi) (N := 5) (k := 4) (ty := .int) cx hP hS qinHi tyHi tyHi_ok nmHi (ci := 0) rfl (by decide) (e_1 g _ _) (by decide) hl rfl rfl rfl rfl rfl (Nat.le_of_ble_eq_true rfl) (by rw [e_1 g]; rfl) hd hs kk
theorem g_Tg_gotTypes (cx : Cx p s m args meth c cc nL own g) (hP : Wd g σ H) (hl : Cond.fieldLink own index "TermBench$Typing" "gotTypes" "[J" ∈ qw) (hd : decode cc pc = .ok (.getfield index, 3)) (kk : W p l e R s m args below meth c H locs cells slots Q (F0 m (pc + 3) ls (.ref (ad g 4) :: rest))) : W p l e R s m args below meth c H locs cells slots Q (F0 m pc ls (.ref (ad g 3) :: rest)) :=
  q_get (T := TTg) (N := 4) (k := 0) cx hP qinTg (ci := 4) rfl (by decide) (e_3 g _ _) (by decide) hl rfl rfl hd kk
theorem g_Tg_expectedTypes (cx : Cx p s m args meth c cc nL own g) (hP : Wd g σ H) (hl : Cond.fieldLink own index "TermBench$Typing" "expectedTypes" "[J" ∈ qw) (hd : decode cc pc = .ok (.getfield index, 3)) (kk : W p l e R s m args below meth c H locs cells slots Q (F0 m (pc + 3) ls (.ref (ad g 5) :: rest))) : W p l e R s m args below meth c H locs cells slots Q (F0 m pc ls (.ref (ad g 3) :: rest)) :=
  q_get (T := TTg) (N := 4) (k := 1) cx hP qinTg (ci := 4) rfl (by decide) (e_3 g _ _) (by decide) hl rfl rfl hd kk
theorem g_Tg_marks (cx : Cx p s m args meth c cc nL own g) (hP : Wd g σ H) (hl : Cond.fieldLink own index "TermBench$Typing" "marks" "[I" ∈ qw) (hd : decode cc pc = .ok (.getfield index, 3)) (kk : W p l e R s m args below meth c H locs cells slots Q (F0 m (pc + 3) ls (.ref (ad g 6) :: rest))) : W p l e R s m args below meth c H locs cells slots Q (F0 m pc ls (.ref (ad g 3) :: rest)) :=
  q_get (T := TTg) (N := 4) (k := 2) cx hP qinTg (ci := 4) rfl (by decide) (e_3 g _ _) (by decide) hl rfl rfl hd kk
theorem g_Tg_change (cx : Cx p s m args meth c cc nL own g) (hP : Wd g σ H) (hl : Cond.fieldLink own index "TermBench$Typing" "change" "I" ∈ qw) (hd : decode cc pc = .ok (.getfield index, 3)) (kk : W p l e R s m args below meth c H locs cells slots Q (F0 m (pc + 3) ls (.int (σ.1 3 3) :: rest))) : W p l e R s m args below meth c H locs cells slots Q (F0 m pc ls (.ref (ad g 3) :: rest)) :=
  q_get (T := TTg) (N := 4) (k := 3) cx hP qinTg (ci := 4) rfl (by decide) (e_3 g _ _) (by decide) hl rfl rfl hd kk
theorem p_Tg_change (cx : Cx p s m args meth c cc nL own g) (hP : Wd g σ H) (hS : va_S (wA g) H0 H locs) (hl : Cond.fieldLink own index "TermBench$Typing" "change" "I" ∈ qw) (hd : decode cc pc = .ok (.putfield index, 3)) {v : Int32} {σ1 : Mem} (hs : σ1 = sI σ 3 3 v) (kk : ∀ (H1 : Heap) (locs1 : List Loc), Wd g σ1 H1 → va_S (wA g) H0 H1 locs1 → W p l e R s m args below meth c H1 locs1 cells slots Q (F0 m (pc + 3) ls rest)) : W p l e R s m args below meth c H locs cells slots Q (F0 m pc ls (.int v :: .ref (ad g 3) :: rest)) :=
  q_put (T := TTg) (N := 4) (k := 3) (ty := .int) cx hP hS qinTg tyTg tyTg_ok nmTg (ci := 4) rfl (by decide) (e_3 g _ _) (by decide) hl rfl rfl rfl rfl rfl (Nat.le_of_ble_eq_true rfl) (by rw [e_3 g]; rfl) hd hs kk
theorem g_Pa_words (cx : Cx p s m args meth c cc nL own g) (hP : Wd g σ H) (hl : Cond.fieldLink own index "TermBench$Page" "words" "[J" ∈ qw) (hd : decode cc pc = .ok (.getfield index, 3)) (kk : W p l e R s m args below meth c H locs cells slots Q (F0 m (pc + 3) ls (.ref (ad g 8) :: rest))) : W p l e R s m args below meth c H locs cells slots Q (F0 m pc ls (.ref (ad g 7) :: rest)) :=
  q_get (T := TPa) (N := 5) (k := 0) cx hP qinPa (ci := 2) rfl (by decide) (e_7 g _ _) (by decide) hl rfl rfl hd kk
theorem g_Pa_begins (cx : Cx p s m args meth c cc nL own g) (hP : Wd g σ H) (hl : Cond.fieldLink own index "TermBench$Page" "begins" "[I" ∈ qw) (hd : decode cc pc = .ok (.getfield index, 3)) (kk : W p l e R s m args below meth c H locs cells slots Q (F0 m (pc + 3) ls (.ref (ad g 9) :: rest))) : W p l e R s m args below meth c H locs cells slots Q (F0 m pc ls (.ref (ad g 7) :: rest)) :=
  q_get (T := TPa) (N := 5) (k := 1) cx hP qinPa (ci := 2) rfl (by decide) (e_7 g _ _) (by decide) hl rfl rfl hd kk
theorem g_Pa_ends (cx : Cx p s m args meth c cc nL own g) (hP : Wd g σ H) (hl : Cond.fieldLink own index "TermBench$Page" "ends" "[I" ∈ qw) (hd : decode cc pc = .ok (.getfield index, 3)) (kk : W p l e R s m args below meth c H locs cells slots Q (F0 m (pc + 3) ls (.ref (ad g 10) :: rest))) : W p l e R s m args below meth c H locs cells slots Q (F0 m pc ls (.ref (ad g 7) :: rest)) :=
  q_get (T := TPa) (N := 5) (k := 2) cx hP qinPa (ci := 2) rfl (by decide) (e_7 g _ _) (by decide) hl rfl rfl hd kk
theorem g_Pa_length (cx : Cx p s m args meth c cc nL own g) (hP : Wd g σ H) (hl : Cond.fieldLink own index "TermBench$Page" "length" "I" ∈ qw) (hd : decode cc pc = .ok (.getfield index, 3)) (kk : W p l e R s m args below meth c H locs cells slots Q (F0 m (pc + 3) ls (.int (σ.1 7 3) :: rest))) : W p l e R s m args below meth c H locs cells slots Q (F0 m pc ls (.ref (ad g 7) :: rest)) :=
  q_get (T := TPa) (N := 5) (k := 3) cx hP qinPa (ci := 2) rfl (by decide) (e_7 g _ _) (by decide) hl rfl rfl hd kk
theorem p_Pa_length (cx : Cx p s m args meth c cc nL own g) (hP : Wd g σ H) (hS : va_S (wA g) H0 H locs) (hl : Cond.fieldLink own index "TermBench$Page" "length" "I" ∈ qw) (hd : decode cc pc = .ok (.putfield index, 3)) {v : Int32} {σ1 : Mem} (hs : σ1 = sI σ 7 3 v) (kk : ∀ (H1 : Heap) (locs1 : List Loc), Wd g σ1 H1 → va_S (wA g) H0 H1 locs1 → W p l e R s m args below meth c H1 locs1 cells slots Q (F0 m (pc + 3) ls rest)) : W p l e R s m args below meth c H locs cells slots Q (F0 m pc ls (.int v :: .ref (ad g 7) :: rest)) :=
  q_put (T := TPa) (N := 5) (k := 3) (ty := .int) cx hP hS qinPa tyPa tyPa_ok nmPa (ci := 2) rfl (by decide) (e_7 g _ _) (by decide) hl rfl rfl rfl rfl rfl (Nat.le_of_ble_eq_true rfl) (by rw [e_7 g]; rfl) hd hs kk
theorem g_Pa_change (cx : Cx p s m args meth c cc nL own g) (hP : Wd g σ H) (hl : Cond.fieldLink own index "TermBench$Page" "change" "I" ∈ qw) (hd : decode cc pc = .ok (.getfield index, 3)) (kk : W p l e R s m args below meth c H locs cells slots Q (F0 m (pc + 3) ls (.int (σ.1 7 4) :: rest))) : W p l e R s m args below meth c H locs cells slots Q (F0 m pc ls (.ref (ad g 7) :: rest)) :=
  q_get (T := TPa) (N := 5) (k := 4) cx hP qinPa (ci := 2) rfl (by decide) (e_7 g _ _) (by decide) hl rfl rfl hd kk
theorem p_Pa_change (cx : Cx p s m args meth c cc nL own g) (hP : Wd g σ H) (hS : va_S (wA g) H0 H locs) (hl : Cond.fieldLink own index "TermBench$Page" "change" "I" ∈ qw) (hd : decode cc pc = .ok (.putfield index, 3)) {v : Int32} {σ1 : Mem} (hs : σ1 = sI σ 7 4 v) (kk : ∀ (H1 : Heap) (locs1 : List Loc), Wd g σ1 H1 → va_S (wA g) H0 H1 locs1 → W p l e R s m args below meth c H1 locs1 cells slots Q (F0 m (pc + 3) ls rest)) : W p l e R s m args below meth c H locs cells slots Q (F0 m pc ls (.int v :: .ref (ad g 7) :: rest)) :=
  q_put (T := TPa) (N := 5) (k := 4) (ty := .int) cx hP hS qinPa tyPa tyPa_ok nmPa (ci := 2) rfl (by decide) (e_7 g _ _) (by decide) hl rfl rfl rfl rfl rfl (Nat.le_of_ble_eq_true rfl) (by rw [e_7 g]; rfl) hd hs kk
theorem g_Ma_boundNames (cx : Cx p s m args meth c cc nL own g) (hP : Wd g σ H) (hl : Cond.fieldLink own index "TermBench$Machine" "boundNames" "[I" ∈ qw) (hd : decode cc pc = .ok (.getfield index, 3)) (kk : W p l e R s m args below meth c H locs cells slots Q (F0 m (pc + 3) ls (.ref (ad g 12) :: rest))) : W p l e R s m args below meth c H locs cells slots Q (F0 m pc ls (.ref (ad g 11) :: rest)) :=
  q_get (T := TMa) (N := 6) (k := 0) cx hP qinMa (ci := 1) rfl (by decide) (e_11 g _ _) (by decide) hl rfl rfl hd kk
theorem g_Ma_boundValues (cx : Cx p s m args meth c cc nL own g) (hP : Wd g σ H) (hl : Cond.fieldLink own index "TermBench$Machine" "boundValues" "[J" ∈ qw) (hd : decode cc pc = .ok (.getfield index, 3)) (kk : W p l e R s m args below meth c H locs cells slots Q (F0 m (pc + 3) ls (.ref (ad g 13) :: rest))) : W p l e R s m args below meth c H locs cells slots Q (F0 m pc ls (.ref (ad g 11) :: rest)) :=
  q_get (T := TMa) (N := 6) (k := 1) cx hP qinMa (ci := 1) rfl (by decide) (e_11 g _ _) (by decide) hl rfl rfl hd kk
theorem g_Ma_outerScopes (cx : Cx p s m args meth c cc nL own g) (hP : Wd g σ H) (hl : Cond.fieldLink own index "TermBench$Machine" "outerScopes" "[I" ∈ qw) (hd : decode cc pc = .ok (.getfield index, 3)) (kk : W p l e R s m args below meth c H locs cells slots Q (F0 m (pc + 3) ls (.ref (ad g 14) :: rest))) : W p l e R s m args below meth c H locs cells slots Q (F0 m pc ls (.ref (ad g 11) :: rest)) :=
  q_get (T := TMa) (N := 6) (k := 2) cx hP qinMa (ci := 1) rfl (by decide) (e_11 g _ _) (by decide) hl rfl rfl hd kk
theorem g_Ma_bound (cx : Cx p s m args meth c cc nL own g) (hP : Wd g σ H) (hl : Cond.fieldLink own index "TermBench$Machine" "bound" "I" ∈ qw) (hd : decode cc pc = .ok (.getfield index, 3)) (kk : W p l e R s m args below meth c H locs cells slots Q (F0 m (pc + 3) ls (.int (σ.1 11 3) :: rest))) : W p l e R s m args below meth c H locs cells slots Q (F0 m pc ls (.ref (ad g 11) :: rest)) :=
  q_get (T := TMa) (N := 6) (k := 3) cx hP qinMa (ci := 1) rfl (by decide) (e_11 g _ _) (by decide) hl rfl rfl hd kk
theorem p_Ma_bound (cx : Cx p s m args meth c cc nL own g) (hP : Wd g σ H) (hS : va_S (wA g) H0 H locs) (hl : Cond.fieldLink own index "TermBench$Machine" "bound" "I" ∈ qw) (hd : decode cc pc = .ok (.putfield index, 3)) {v : Int32} {σ1 : Mem} (hs : σ1 = sI σ 11 3 v) (kk : ∀ (H1 : Heap) (locs1 : List Loc), Wd g σ1 H1 → va_S (wA g) H0 H1 locs1 → W p l e R s m args below meth c H1 locs1 cells slots Q (F0 m (pc + 3) ls rest)) : W p l e R s m args below meth c H locs cells slots Q (F0 m pc ls (.int v :: .ref (ad g 11) :: rest)) :=
  q_put (T := TMa) (N := 6) (k := 3) (ty := .int) cx hP hS qinMa tyMa tyMa_ok nmMa (ci := 1) rfl (by decide) (e_11 g _ _) (by decide) hl rfl rfl rfl rfl rfl (Nat.le_of_ble_eq_true rfl) (by rw [e_11 g]; rfl) hd hs kk
theorem g_Ma_units (cx : Cx p s m args meth c cc nL own g) (hP : Wd g σ H) (hl : Cond.fieldLink own index "TermBench$Machine" "units" "I" ∈ qw) (hd : decode cc pc = .ok (.getfield index, 3)) (kk : W p l e R s m args below meth c H locs cells slots Q (F0 m (pc + 3) ls (.int (σ.1 11 4) :: rest))) : W p l e R s m args below meth c H locs cells slots Q (F0 m pc ls (.ref (ad g 11) :: rest)) :=
  q_get (T := TMa) (N := 6) (k := 4) cx hP qinMa (ci := 1) rfl (by decide) (e_11 g _ _) (by decide) hl rfl rfl hd kk
theorem p_Ma_units (cx : Cx p s m args meth c cc nL own g) (hP : Wd g σ H) (hS : va_S (wA g) H0 H locs) (hl : Cond.fieldLink own index "TermBench$Machine" "units" "I" ∈ qw) (hd : decode cc pc = .ok (.putfield index, 3)) {v : Int32} {σ1 : Mem} (hs : σ1 = sI σ 11 4 v) (kk : ∀ (H1 : Heap) (locs1 : List Loc), Wd g σ1 H1 → va_S (wA g) H0 H1 locs1 → W p l e R s m args below meth c H1 locs1 cells slots Q (F0 m (pc + 3) ls rest)) : W p l e R s m args below meth c H locs cells slots Q (F0 m pc ls (.int v :: .ref (ad g 11) :: rest)) :=
  q_put (T := TMa) (N := 6) (k := 4) (ty := .int) cx hP hS qinMa tyMa tyMa_ok nmMa (ci := 1) rfl (by decide) (e_11 g _ _) (by decide) hl rfl rfl rfl rfl rfl (Nat.le_of_ble_eq_true rfl) (by rw [e_11 g]; rfl) hd hs kk
theorem g_Ma_number (cx : Cx p s m args meth c cc nL own g) (hP : Wd g σ H) (hl : Cond.fieldLink own index "TermBench$Machine" "number" "I" ∈ qw) (hd : decode cc pc = .ok (.getfield index, 3)) (kk : W p l e R s m args below meth c H locs cells slots Q (F0 m (pc + 3) ls (.int (σ.1 11 5) :: rest))) : W p l e R s m args below meth c H locs cells slots Q (F0 m pc ls (.ref (ad g 11) :: rest)) :=
  q_get (T := TMa) (N := 6) (k := 5) cx hP qinMa (ci := 1) rfl (by decide) (e_11 g _ _) (by decide) hl rfl rfl hd kk
theorem p_Ma_number (cx : Cx p s m args meth c cc nL own g) (hP : Wd g σ H) (hS : va_S (wA g) H0 H locs) (hl : Cond.fieldLink own index "TermBench$Machine" "number" "I" ∈ qw) (hd : decode cc pc = .ok (.putfield index, 3)) {v : Int32} {σ1 : Mem} (hs : σ1 = sI σ 11 5 v) (kk : ∀ (H1 : Heap) (locs1 : List Loc), Wd g σ1 H1 → va_S (wA g) H0 H1 locs1 → W p l e R s m args below meth c H1 locs1 cells slots Q (F0 m (pc + 3) ls rest)) : W p l e R s m args below meth c H locs cells slots Q (F0 m pc ls (.int v :: .ref (ad g 11) :: rest)) :=
  q_put (T := TMa) (N := 6) (k := 5) (ty := .int) cx hP hS qinMa tyMa tyMa_ok nmMa (ci := 1) rfl (by decide) (e_11 g _ _) (by decide) hl rfl rfl rfl rfl rfl (Nat.le_of_ble_eq_true rfl) (by rw [e_11 g]; rfl) hd hs kk
theorem g_Mo_count (cx : Cx p s m args meth c cc nL own g) (hP : Wd g σ H) (hl : Cond.fieldLink own index "TermBenchModel" "count" "I" ∈ qw) (hd : decode cc pc = .ok (.getfield index, 3)) (kk : W p l e R s m args below meth c H locs cells slots Q (F0 m (pc + 3) ls (.int (σ.1 15 0) :: rest))) : W p l e R s m args below meth c H locs cells slots Q (F0 m pc ls (.ref (ad g 15) :: rest)) :=
  q_get (T := TMo) (N := 42) (k := 0) cx hP qinMo (ci := 6) rfl (by decide) (e_15 g _ _) (by decide) hl rfl rfl hd kk
theorem p_Mo_count (cx : Cx p s m args meth c cc nL own g) (hP : Wd g σ H) (hS : va_S (wA g) H0 H locs) (hl : Cond.fieldLink own index "TermBenchModel" "count" "I" ∈ qw) (hd : decode cc pc = .ok (.putfield index, 3)) {v : Int32} {σ1 : Mem} (hs : σ1 = sI σ 15 0 v) (kk : ∀ (H1 : Heap) (locs1 : List Loc), Wd g σ1 H1 → va_S (wA g) H0 H1 locs1 → W p l e R s m args below meth c H1 locs1 cells slots Q (F0 m (pc + 3) ls rest)) : W p l e R s m args below meth c H locs cells slots Q (F0 m pc ls (.int v :: .ref (ad g 15) :: rest)) :=
  q_put (T := TMo) (N := 42) (k := 0) (ty := .int) cx hP hS qinMo tyMo tyMo_ok nmMo (ci := 6) rfl (by decide) (e_15 g _ _) (by decide) hl rfl rfl rfl rfl rfl (Nat.le_of_ble_eq_true rfl) (by rw [e_15 g]; rfl) hd hs kk
theorem g_Mo_cursor (cx : Cx p s m args meth c cc nL own g) (hP : Wd g σ H) (hl : Cond.fieldLink own index "TermBenchModel" "cursor" "I" ∈ qw) (hd : decode cc pc = .ok (.getfield index, 3)) (kk : W p l e R s m args below meth c H locs cells slots Q (F0 m (pc + 3) ls (.int (σ.1 15 1) :: rest))) : W p l e R s m args below meth c H locs cells slots Q (F0 m pc ls (.ref (ad g 15) :: rest)) :=
  q_get (T := TMo) (N := 42) (k := 1) cx hP qinMo (ci := 6) rfl (by decide) (e_15 g _ _) (by decide) hl rfl rfl hd kk
theorem p_Mo_cursor (cx : Cx p s m args meth c cc nL own g) (hP : Wd g σ H) (hS : va_S (wA g) H0 H locs) (hl : Cond.fieldLink own index "TermBenchModel" "cursor" "I" ∈ qw) (hd : decode cc pc = .ok (.putfield index, 3)) {v : Int32} {σ1 : Mem} (hs : σ1 = sI σ 15 1 v) (kk : ∀ (H1 : Heap) (locs1 : List Loc), Wd g σ1 H1 → va_S (wA g) H0 H1 locs1 → W p l e R s m args below meth c H1 locs1 cells slots Q (F0 m (pc + 3) ls rest)) : W p l e R s m args below meth c H locs cells slots Q (F0 m pc ls (.int v :: .ref (ad g 15) :: rest)) :=
  q_put (T := TMo) (N := 42) (k := 1) (ty := .int) cx hP hS qinMo tyMo tyMo_ok nmMo (ci := 6) rfl (by decide) (e_15 g _ _) (by decide) hl rfl rfl rfl rfl rfl (Nat.le_of_ble_eq_true rfl) (by rw [e_15 g]; rfl) hd hs kk
theorem g_Mo_kinds (cx : Cx p s m args meth c cc nL own g) (hP : Wd g σ H) (hl : Cond.fieldLink own index "TermBenchModel" "kinds" "[I" ∈ qw) (hd : decode cc pc = .ok (.getfield index, 3)) (kk : W p l e R s m args below meth c H locs cells slots Q (F0 m (pc + 3) ls (.ref (ad g 16) :: rest))) : W p l e R s m args below meth c H locs cells slots Q (F0 m pc ls (.ref (ad g 15) :: rest)) :=
  q_get (T := TMo) (N := 42) (k := 2) cx hP qinMo (ci := 6) rfl (by decide) (e_15 g _ _) (by decide) hl rfl rfl hd kk
theorem g_Mo_values (cx : Cx p s m args meth c cc nL own g) (hP : Wd g σ H) (hl : Cond.fieldLink own index "TermBenchModel" "values" "[I" ∈ qw) (hd : decode cc pc = .ok (.getfield index, 3)) (kk : W p l e R s m args below meth c H locs cells slots Q (F0 m (pc + 3) ls (.ref (ad g 17) :: rest))) : W p l e R s m args below meth c H locs cells slots Q (F0 m pc ls (.ref (ad g 15) :: rest)) :=
  q_get (T := TMo) (N := 42) (k := 3) cx hP qinMo (ci := 6) rfl (by decide) (e_15 g _ _) (by decide) hl rfl rfl hd kk
theorem g_Mo_types (cx : Cx p s m args meth c cc nL own g) (hP : Wd g σ H) (hl : Cond.fieldLink own index "TermBenchModel" "types" "[J" ∈ qw) (hd : decode cc pc = .ok (.getfield index, 3)) (kk : W p l e R s m args below meth c H locs cells slots Q (F0 m (pc + 3) ls (.ref (ad g 18) :: rest))) : W p l e R s m args below meth c H locs cells slots Q (F0 m pc ls (.ref (ad g 15) :: rest)) :=
  q_get (T := TMo) (N := 42) (k := 4) cx hP qinMo (ci := 6) rfl (by decide) (e_15 g _ _) (by decide) hl rfl rfl hd kk
theorem g_Mo_kept (cx : Cx p s m args meth c cc nL own g) (hP : Wd g σ H) (hl : Cond.fieldLink own index "TermBenchModel" "kept" "I" ∈ qw) (hd : decode cc pc = .ok (.getfield index, 3)) (kk : W p l e R s m args below meth c H locs cells slots Q (F0 m (pc + 3) ls (.int (σ.1 15 5) :: rest))) : W p l e R s m args below meth c H locs cells slots Q (F0 m pc ls (.ref (ad g 15) :: rest)) :=
  q_get (T := TMo) (N := 42) (k := 5) cx hP qinMo (ci := 6) rfl (by decide) (e_15 g _ _) (by decide) hl rfl rfl hd kk
theorem p_Mo_kept (cx : Cx p s m args meth c cc nL own g) (hP : Wd g σ H) (hS : va_S (wA g) H0 H locs) (hl : Cond.fieldLink own index "TermBenchModel" "kept" "I" ∈ qw) (hd : decode cc pc = .ok (.putfield index, 3)) {v : Int32} {σ1 : Mem} (hs : σ1 = sI σ 15 5 v) (kk : ∀ (H1 : Heap) (locs1 : List Loc), Wd g σ1 H1 → va_S (wA g) H0 H1 locs1 → W p l e R s m args below meth c H1 locs1 cells slots Q (F0 m (pc + 3) ls rest)) : W p l e R s m args below meth c H locs cells slots Q (F0 m pc ls (.int v :: .ref (ad g 15) :: rest)) :=
  q_put (T := TMo) (N := 42) (k := 5) (ty := .int) cx hP hS qinMo tyMo tyMo_ok nmMo (ci := 6) rfl (by decide) (e_15 g _ _) (by decide) hl rfl rfl rfl rfl rfl (Nat.le_of_ble_eq_true rfl) (by rw [e_15 g]; rfl) hd hs kk
theorem g_Mo_aside (cx : Cx p s m args meth c cc nL own g) (hP : Wd g σ H) (hl : Cond.fieldLink own index "TermBenchModel" "aside" "I" ∈ qw) (hd : decode cc pc = .ok (.getfield index, 3)) (kk : W p l e R s m args below meth c H locs cells slots Q (F0 m (pc + 3) ls (.int (σ.1 15 6) :: rest))) : W p l e R s m args below meth c H locs cells slots Q (F0 m pc ls (.ref (ad g 15) :: rest)) :=
  q_get (T := TMo) (N := 42) (k := 6) cx hP qinMo (ci := 6) rfl (by decide) (e_15 g _ _) (by decide) hl rfl rfl hd kk
theorem p_Mo_aside (cx : Cx p s m args meth c cc nL own g) (hP : Wd g σ H) (hS : va_S (wA g) H0 H locs) (hl : Cond.fieldLink own index "TermBenchModel" "aside" "I" ∈ qw) (hd : decode cc pc = .ok (.putfield index, 3)) {v : Int32} {σ1 : Mem} (hs : σ1 = sI σ 15 6 v) (kk : ∀ (H1 : Heap) (locs1 : List Loc), Wd g σ1 H1 → va_S (wA g) H0 H1 locs1 → W p l e R s m args below meth c H1 locs1 cells slots Q (F0 m (pc + 3) ls rest)) : W p l e R s m args below meth c H locs cells slots Q (F0 m pc ls (.int v :: .ref (ad g 15) :: rest)) :=
  q_put (T := TMo) (N := 42) (k := 6) (ty := .int) cx hP hS qinMo tyMo tyMo_ok nmMo (ci := 6) rfl (by decide) (e_15 g _ _) (by decide) hl rfl rfl rfl rfl rfl (Nat.le_of_ble_eq_true rfl) (by rw [e_15 g]; rfl) hd hs kk
theorem g_Mo_counts (cx : Cx p s m args meth c cc nL own g) (hP : Wd g σ H) (hl : Cond.fieldLink own index "TermBenchModel" "counts" "[I" ∈ qw) (hd : decode cc pc = .ok (.getfield index, 3)) (kk : W p l e R s m args below meth c H locs cells slots Q (F0 m (pc + 3) ls (.ref (ad g 19) :: rest))) : W p l e R s m args below meth c H locs cells slots Q (F0 m pc ls (.ref (ad g 15) :: rest)) :=
  q_get (T := TMo) (N := 42) (k := 7) cx hP qinMo (ci := 6) rfl (by decide) (e_15 g _ _) (by decide) hl rfl rfl hd kk
theorem g_Mo_cursors (cx : Cx p s m args meth c cc nL own g) (hP : Wd g σ H) (hl : Cond.fieldLink own index "TermBenchModel" "cursors" "[I" ∈ qw) (hd : decode cc pc = .ok (.getfield index, 3)) (kk : W p l e R s m args below meth c H locs cells slots Q (F0 m (pc + 3) ls (.ref (ad g 20) :: rest))) : W p l e R s m args below meth c H locs cells slots Q (F0 m pc ls (.ref (ad g 15) :: rest)) :=
  q_get (T := TMo) (N := 42) (k := 8) cx hP qinMo (ci := 6) rfl (by decide) (e_15 g _ _) (by decide) hl rfl rfl hd kk
theorem g_Mo_oldKinds (cx : Cx p s m args meth c cc nL own g) (hP : Wd g σ H) (hl : Cond.fieldLink own index "TermBenchModel" "oldKinds" "[I" ∈ qw) (hd : decode cc pc = .ok (.getfield index, 3)) (kk : W p l e R s m args below meth c H locs cells slots Q (F0 m (pc + 3) ls (.ref (ad g 21) :: rest))) : W p l e R s m args below meth c H locs cells slots Q (F0 m pc ls (.ref (ad g 15) :: rest)) :=
  q_get (T := TMo) (N := 42) (k := 9) cx hP qinMo (ci := 6) rfl (by decide) (e_15 g _ _) (by decide) hl rfl rfl hd kk
theorem g_Mo_oldValues (cx : Cx p s m args meth c cc nL own g) (hP : Wd g σ H) (hl : Cond.fieldLink own index "TermBenchModel" "oldValues" "[I" ∈ qw) (hd : decode cc pc = .ok (.getfield index, 3)) (kk : W p l e R s m args below meth c H locs cells slots Q (F0 m (pc + 3) ls (.ref (ad g 22) :: rest))) : W p l e R s m args below meth c H locs cells slots Q (F0 m pc ls (.ref (ad g 15) :: rest)) :=
  q_get (T := TMo) (N := 42) (k := 10) cx hP qinMo (ci := 6) rfl (by decide) (e_15 g _ _) (by decide) hl rfl rfl hd kk
theorem g_Mo_oldTypes (cx : Cx p s m args meth c cc nL own g) (hP : Wd g σ H) (hl : Cond.fieldLink own index "TermBenchModel" "oldTypes" "[J" ∈ qw) (hd : decode cc pc = .ok (.getfield index, 3)) (kk : W p l e R s m args below meth c H locs cells slots Q (F0 m (pc + 3) ls (.ref (ad g 23) :: rest))) : W p l e R s m args below meth c H locs cells slots Q (F0 m pc ls (.ref (ad g 15) :: rest)) :=
  q_get (T := TMo) (N := 42) (k := 11) cx hP qinMo (ci := 6) rfl (by decide) (e_15 g _ _) (by decide) hl rfl rfl hd kk
theorem g_Mo_typed (cx : Cx p s m args meth c cc nL own g) (hP : Wd g σ H) (hl : Cond.fieldLink own index "TermBenchModel" "typed" "Z" ∈ qw) (hd : decode cc pc = .ok (.getfield index, 3)) (kk : W p l e R s m args below meth c H locs cells slots Q (F0 m (pc + 3) ls (.int (σ.1 15 12) :: rest))) : W p l e R s m args below meth c H locs cells slots Q (F0 m pc ls (.ref (ad g 15) :: rest)) :=
  q_get (T := TMo) (N := 42) (k := 12) cx hP qinMo (ci := 6) rfl (by decide) (e_15 g _ _) (by decide) hl rfl rfl hd kk
theorem p_Mo_typed (cx : Cx p s m args meth c cc nL own g) (hP : Wd g σ H) (hS : va_S (wA g) H0 H locs) (hl : Cond.fieldLink own index "TermBenchModel" "typed" "Z" ∈ qw) (hd : decode cc pc = .ok (.putfield index, 3)) {v : Int32} {σ1 : Mem} (hn : narrow .boolean (.int v) = .int v) (hfit : fits .boolean (.int v) = true) (hs : σ1 = sI σ 15 12 v) (kk : ∀ (H1 : Heap) (locs1 : List Loc), Wd g σ1 H1 → va_S (wA g) H0 H1 locs1 → W p l e R s m args below meth c H1 locs1 cells slots Q (F0 m (pc + 3) ls rest)) : W p l e R s m args below meth c H locs cells slots Q (F0 m pc ls (.int v :: .ref (ad g 15) :: rest)) :=
  q_put (T := TMo) (N := 42) (k := 12) (ty := .boolean) cx hP hS qinMo tyMo tyMo_ok nmMo (ci := 6) rfl (by decide) (e_15 g _ _) (by decide) hl rfl rfl rfl hn hfit (Nat.le_of_ble_eq_true rfl) (by rw [e_15 g]; rfl) hd hs kk
theorem g_Mo_gots (cx : Cx p s m args meth c cc nL own g) (hP : Wd g σ H) (hl : Cond.fieldLink own index "TermBenchModel" "gots" "[J" ∈ qw) (hd : decode cc pc = .ok (.getfield index, 3)) (kk : W p l e R s m args below meth c H locs cells slots Q (F0 m (pc + 3) ls (.ref (ad g 24) :: rest))) : W p l e R s m args below meth c H locs cells slots Q (F0 m pc ls (.ref (ad g 15) :: rest)) :=
  q_get (T := TMo) (N := 42) (k := 13) cx hP qinMo (ci := 6) rfl (by decide) (e_15 g _ _) (by decide) hl rfl rfl hd kk
theorem g_Mo_wanted (cx : Cx p s m args meth c cc nL own g) (hP : Wd g σ H) (hl : Cond.fieldLink own index "TermBenchModel" "wanted" "[J" ∈ qw) (hd : decode cc pc = .ok (.getfield index, 3)) (kk : W p l e R s m args below meth c H locs cells slots Q (F0 m (pc + 3) ls (.ref (ad g 25) :: rest))) : W p l e R s m args below meth c H locs cells slots Q (F0 m pc ls (.ref (ad g 15) :: rest)) :=
  q_get (T := TMo) (N := 42) (k := 14) cx hP qinMo (ci := 6) rfl (by decide) (e_15 g _ _) (by decide) hl rfl rfl hd kk
theorem g_Mo_marked (cx : Cx p s m args meth c cc nL own g) (hP : Wd g σ H) (hl : Cond.fieldLink own index "TermBenchModel" "marked" "[I" ∈ qw) (hd : decode cc pc = .ok (.getfield index, 3)) (kk : W p l e R s m args below meth c H locs cells slots Q (F0 m (pc + 3) ls (.ref (ad g 26) :: rest))) : W p l e R s m args below meth c H locs cells slots Q (F0 m pc ls (.ref (ad g 15) :: rest)) :=
  q_get (T := TMo) (N := 42) (k := 15) cx hP qinMo (ci := 6) rfl (by decide) (e_15 g _ _) (by decide) hl rfl rfl hd kk
theorem g_Mo_spelled (cx : Cx p s m args meth c cc nL own g) (hP : Wd g σ H) (hl : Cond.fieldLink own index "TermBenchModel" "spelled" "Z" ∈ qw) (hd : decode cc pc = .ok (.getfield index, 3)) (kk : W p l e R s m args below meth c H locs cells slots Q (F0 m (pc + 3) ls (.int (σ.1 15 16) :: rest))) : W p l e R s m args below meth c H locs cells slots Q (F0 m pc ls (.ref (ad g 15) :: rest)) :=
  q_get (T := TMo) (N := 42) (k := 16) cx hP qinMo (ci := 6) rfl (by decide) (e_15 g _ _) (by decide) hl rfl rfl hd kk
theorem p_Mo_spelled (cx : Cx p s m args meth c cc nL own g) (hP : Wd g σ H) (hS : va_S (wA g) H0 H locs) (hl : Cond.fieldLink own index "TermBenchModel" "spelled" "Z" ∈ qw) (hd : decode cc pc = .ok (.putfield index, 3)) {v : Int32} {σ1 : Mem} (hn : narrow .boolean (.int v) = .int v) (hfit : fits .boolean (.int v) = true) (hs : σ1 = sI σ 15 16 v) (kk : ∀ (H1 : Heap) (locs1 : List Loc), Wd g σ1 H1 → va_S (wA g) H0 H1 locs1 → W p l e R s m args below meth c H1 locs1 cells slots Q (F0 m (pc + 3) ls rest)) : W p l e R s m args below meth c H locs cells slots Q (F0 m pc ls (.int v :: .ref (ad g 15) :: rest)) :=
  q_put (T := TMo) (N := 42) (k := 16) (ty := .boolean) cx hP hS qinMo tyMo tyMo_ok nmMo (ci := 6) rfl (by decide) (e_15 g _ _) (by decide) hl rfl rfl rfl hn hfit (Nat.le_of_ble_eq_true rfl) (by rw [e_15 g]; rfl) hd hs kk
theorem g_Mo_length (cx : Cx p s m args meth c cc nL own g) (hP : Wd g σ H) (hl : Cond.fieldLink own index "TermBenchModel" "length" "I" ∈ qw) (hd : decode cc pc = .ok (.getfield index, 3)) (kk : W p l e R s m args below meth c H locs cells slots Q (F0 m (pc + 3) ls (.int (σ.1 15 17) :: rest))) : W p l e R s m args below meth c H locs cells slots Q (F0 m pc ls (.ref (ad g 15) :: rest)) :=
  q_get (T := TMo) (N := 42) (k := 17) cx hP qinMo (ci := 6) rfl (by decide) (e_15 g _ _) (by decide) hl rfl rfl hd kk
theorem p_Mo_length (cx : Cx p s m args meth c cc nL own g) (hP : Wd g σ H) (hS : va_S (wA g) H0 H locs) (hl : Cond.fieldLink own index "TermBenchModel" "length" "I" ∈ qw) (hd : decode cc pc = .ok (.putfield index, 3)) {v : Int32} {σ1 : Mem} (hs : σ1 = sI σ 15 17 v) (kk : ∀ (H1 : Heap) (locs1 : List Loc), Wd g σ1 H1 → va_S (wA g) H0 H1 locs1 → W p l e R s m args below meth c H1 locs1 cells slots Q (F0 m (pc + 3) ls rest)) : W p l e R s m args below meth c H locs cells slots Q (F0 m pc ls (.int v :: .ref (ad g 15) :: rest)) :=
  q_put (T := TMo) (N := 42) (k := 17) (ty := .int) cx hP hS qinMo tyMo tyMo_ok nmMo (ci := 6) rfl (by decide) (e_15 g _ _) (by decide) hl rfl rfl rfl rfl rfl (Nat.le_of_ble_eq_true rfl) (by rw [e_15 g]; rfl) hd hs kk
theorem g_Mo_letters (cx : Cx p s m args meth c cc nL own g) (hP : Wd g σ H) (hl : Cond.fieldLink own index "TermBenchModel" "letters" "[I" ∈ qw) (hd : decode cc pc = .ok (.getfield index, 3)) (kk : W p l e R s m args below meth c H locs cells slots Q (F0 m (pc + 3) ls (.ref (ad g 27) :: rest))) : W p l e R s m args below meth c H locs cells slots Q (F0 m pc ls (.ref (ad g 15) :: rest)) :=
  q_get (T := TMo) (N := 42) (k := 18) cx hP qinMo (ci := 6) rfl (by decide) (e_15 g _ _) (by decide) hl rfl rfl hd kk
theorem g_Mo_owner (cx : Cx p s m args meth c cc nL own g) (hP : Wd g σ H) (hl : Cond.fieldLink own index "TermBenchModel" "owner" "[I" ∈ qw) (hd : decode cc pc = .ok (.getfield index, 3)) (kk : W p l e R s m args below meth c H locs cells slots Q (F0 m (pc + 3) ls (.ref (ad g 28) :: rest))) : W p l e R s m args below meth c H locs cells slots Q (F0 m pc ls (.ref (ad g 15) :: rest)) :=
  q_get (T := TMo) (N := 42) (k := 19) cx hP qinMo (ci := 6) rfl (by decide) (e_15 g _ _) (by decide) hl rfl rfl hd kk
theorem g_Mo_begins (cx : Cx p s m args meth c cc nL own g) (hP : Wd g σ H) (hl : Cond.fieldLink own index "TermBenchModel" "begins" "[I" ∈ qw) (hd : decode cc pc = .ok (.getfield index, 3)) (kk : W p l e R s m args below meth c H locs cells slots Q (F0 m (pc + 3) ls (.ref (ad g 29) :: rest))) : W p l e R s m args below meth c H locs cells slots Q (F0 m pc ls (.ref (ad g 15) :: rest)) :=
  q_get (T := TMo) (N := 42) (k := 20) cx hP qinMo (ci := 6) rfl (by decide) (e_15 g _ _) (by decide) hl rfl rfl hd kk
theorem g_Mo_inside (cx : Cx p s m args meth c cc nL own g) (hP : Wd g σ H) (hl : Cond.fieldLink own index "TermBenchModel" "inside" "[I" ∈ qw) (hd : decode cc pc = .ok (.getfield index, 3)) (kk : W p l e R s m args below meth c H locs cells slots Q (F0 m (pc + 3) ls (.ref (ad g 30) :: rest))) : W p l e R s m args below meth c H locs cells slots Q (F0 m pc ls (.ref (ad g 15) :: rest)) :=
  q_get (T := TMo) (N := 42) (k := 21) cx hP qinMo (ci := 6) rfl (by decide) (e_15 g _ _) (by decide) hl rfl rfl hd kk
theorem g_Mo_passed (cx : Cx p s m args meth c cc nL own g) (hP : Wd g σ H) (hl : Cond.fieldLink own index "TermBenchModel" "passed" "[I" ∈ qw) (hd : decode cc pc = .ok (.getfield index, 3)) (kk : W p l e R s m args below meth c H locs cells slots Q (F0 m (pc + 3) ls (.ref (ad g 31) :: rest))) : W p l e R s m args below meth c H locs cells slots Q (F0 m pc ls (.ref (ad g 15) :: rest)) :=
  q_get (T := TMo) (N := 42) (k := 22) cx hP qinMo (ci := 6) rfl (by decide) (e_15 g _ _) (by decide) hl rfl rfl hd kk
theorem g_Mo_left (cx : Cx p s m args meth c cc nL own g) (hP : Wd g σ H) (hl : Cond.fieldLink own index "TermBenchModel" "left" "[I" ∈ qw) (hd : decode cc pc = .ok (.getfield index, 3)) (kk : W p l e R s m args below meth c H locs cells slots Q (F0 m (pc + 3) ls (.ref (ad g 32) :: rest))) : W p l e R s m args below meth c H locs cells slots Q (F0 m pc ls (.ref (ad g 15) :: rest)) :=
  q_get (T := TMo) (N := 42) (k := 23) cx hP qinMo (ci := 6) rfl (by decide) (e_15 g _ _) (by decide) hl rfl rfl hd kk
theorem g_Mo_units (cx : Cx p s m args meth c cc nL own g) (hP : Wd g σ H) (hl : Cond.fieldLink own index "TermBenchModel" "units" "I" ∈ qw) (hd : decode cc pc = .ok (.getfield index, 3)) (kk : W p l e R s m args below meth c H locs cells slots Q (F0 m (pc + 3) ls (.int (σ.1 15 24) :: rest))) : W p l e R s m args below meth c H locs cells slots Q (F0 m pc ls (.ref (ad g 15) :: rest)) :=
  q_get (T := TMo) (N := 42) (k := 24) cx hP qinMo (ci := 6) rfl (by decide) (e_15 g _ _) (by decide) hl rfl rfl hd kk
theorem p_Mo_units (cx : Cx p s m args meth c cc nL own g) (hP : Wd g σ H) (hS : va_S (wA g) H0 H locs) (hl : Cond.fieldLink own index "TermBenchModel" "units" "I" ∈ qw) (hd : decode cc pc = .ok (.putfield index, 3)) {v : Int32} {σ1 : Mem} (hs : σ1 = sI σ 15 24 v) (kk : ∀ (H1 : Heap) (locs1 : List Loc), Wd g σ1 H1 → va_S (wA g) H0 H1 locs1 → W p l e R s m args below meth c H1 locs1 cells slots Q (F0 m (pc + 3) ls rest)) : W p l e R s m args below meth c H locs cells slots Q (F0 m pc ls (.int v :: .ref (ad g 15) :: rest)) :=
  q_put (T := TMo) (N := 42) (k := 24) (ty := .int) cx hP hS qinMo tyMo tyMo_ok nmMo (ci := 6) rfl (by decide) (e_15 g _ _) (by decide) hl rfl rfl rfl rfl rfl (Nat.le_of_ble_eq_true rfl) (by rw [e_15 g]; rfl) hd hs kk
theorem g_Mo_number (cx : Cx p s m args meth c cc nL own g) (hP : Wd g σ H) (hl : Cond.fieldLink own index "TermBenchModel" "number" "I" ∈ qw) (hd : decode cc pc = .ok (.getfield index, 3)) (kk : W p l e R s m args below meth c H locs cells slots Q (F0 m (pc + 3) ls (.int (σ.1 15 25) :: rest))) : W p l e R s m args below meth c H locs cells slots Q (F0 m pc ls (.ref (ad g 15) :: rest)) :=
  q_get (T := TMo) (N := 42) (k := 25) cx hP qinMo (ci := 6) rfl (by decide) (e_15 g _ _) (by decide) hl rfl rfl hd kk
theorem p_Mo_number (cx : Cx p s m args meth c cc nL own g) (hP : Wd g σ H) (hS : va_S (wA g) H0 H locs) (hl : Cond.fieldLink own index "TermBenchModel" "number" "I" ∈ qw) (hd : decode cc pc = .ok (.putfield index, 3)) {v : Int32} {σ1 : Mem} (hs : σ1 = sI σ 15 25 v) (kk : ∀ (H1 : Heap) (locs1 : List Loc), Wd g σ1 H1 → va_S (wA g) H0 H1 locs1 → W p l e R s m args below meth c H1 locs1 cells slots Q (F0 m (pc + 3) ls rest)) : W p l e R s m args below meth c H locs cells slots Q (F0 m pc ls (.int v :: .ref (ad g 15) :: rest)) :=
  q_put (T := TMo) (N := 42) (k := 25) (ty := .int) cx hP hS qinMo tyMo tyMo_ok nmMo (ci := 6) rfl (by decide) (e_15 g _ _) (by decide) hl rfl rfl rfl rfl rfl (Nat.le_of_ble_eq_true rfl) (by rw [e_15 g]; rfl) hd hs kk
theorem g_Mo_running (cx : Cx p s m args meth c cc nL own g) (hP : Wd g σ H) (hl : Cond.fieldLink own index "TermBenchModel" "running" "I" ∈ qw) (hd : decode cc pc = .ok (.getfield index, 3)) (kk : W p l e R s m args below meth c H locs cells slots Q (F0 m (pc + 3) ls (.int (σ.1 15 26) :: rest))) : W p l e R s m args below meth c H locs cells slots Q (F0 m pc ls (.ref (ad g 15) :: rest)) :=
  q_get (T := TMo) (N := 42) (k := 26) cx hP qinMo (ci := 6) rfl (by decide) (e_15 g _ _) (by decide) hl rfl rfl hd kk
theorem p_Mo_running (cx : Cx p s m args meth c cc nL own g) (hP : Wd g σ H) (hS : va_S (wA g) H0 H locs) (hl : Cond.fieldLink own index "TermBenchModel" "running" "I" ∈ qw) (hd : decode cc pc = .ok (.putfield index, 3)) {v : Int32} {σ1 : Mem} (hs : σ1 = sI σ 15 26 v) (kk : ∀ (H1 : Heap) (locs1 : List Loc), Wd g σ1 H1 → va_S (wA g) H0 H1 locs1 → W p l e R s m args below meth c H1 locs1 cells slots Q (F0 m (pc + 3) ls rest)) : W p l e R s m args below meth c H locs cells slots Q (F0 m pc ls (.int v :: .ref (ad g 15) :: rest)) :=
  q_put (T := TMo) (N := 42) (k := 26) (ty := .int) cx hP hS qinMo tyMo tyMo_ok nmMo (ci := 6) rfl (by decide) (e_15 g _ _) (by decide) hl rfl rfl rfl rfl rfl (Nat.le_of_ble_eq_true rfl) (by rw [e_15 g]; rfl) hd hs kk
theorem g_Mo_term (cx : Cx p s m args meth c cc nL own g) (hP : Wd g σ H) (hl : Cond.fieldLink own index "TermBenchModel" "term" "[I" ∈ qw) (hd : decode cc pc = .ok (.getfield index, 3)) (kk : W p l e R s m args below meth c H locs cells slots Q (F0 m (pc + 3) ls (.ref (ad g 33) :: rest))) : W p l e R s m args below meth c H locs cells slots Q (F0 m pc ls (.ref (ad g 15) :: rest)) :=
  q_get (T := TMo) (N := 42) (k := 27) cx hP qinMo (ci := 6) rfl (by decide) (e_15 g _ _) (by decide) hl rfl rfl hd kk
theorem g_Mo_stage (cx : Cx p s m args meth c cc nL own g) (hP : Wd g σ H) (hl : Cond.fieldLink own index "TermBenchModel" "stage" "[I" ∈ qw) (hd : decode cc pc = .ok (.getfield index, 3)) (kk : W p l e R s m args below meth c H locs cells slots Q (F0 m (pc + 3) ls (.ref (ad g 34) :: rest))) : W p l e R s m args below meth c H locs cells slots Q (F0 m pc ls (.ref (ad g 15) :: rest)) :=
  q_get (T := TMo) (N := 42) (k := 28) cx hP qinMo (ci := 6) rfl (by decide) (e_15 g _ _) (by decide) hl rfl rfl hd kk
theorem g_Mo_names (cx : Cx p s m args meth c cc nL own g) (hP : Wd g σ H) (hl : Cond.fieldLink own index "TermBenchModel" "names" "[I" ∈ qw) (hd : decode cc pc = .ok (.getfield index, 3)) (kk : W p l e R s m args below meth c H locs cells slots Q (F0 m (pc + 3) ls (.ref (ad g 35) :: rest))) : W p l e R s m args below meth c H locs cells slots Q (F0 m pc ls (.ref (ad g 15) :: rest)) :=
  q_get (T := TMo) (N := 42) (k := 29) cx hP qinMo (ci := 6) rfl (by decide) (e_15 g _ _) (by decide) hl rfl rfl hd kk
theorem g_Mo_firstSort (cx : Cx p s m args meth c cc nL own g) (hP : Wd g σ H) (hl : Cond.fieldLink own index "TermBenchModel" "firstSort" "[I" ∈ qw) (hd : decode cc pc = .ok (.getfield index, 3)) (kk : W p l e R s m args below meth c H locs cells slots Q (F0 m (pc + 3) ls (.ref (ad g 36) :: rest))) : W p l e R s m args below meth c H locs cells slots Q (F0 m pc ls (.ref (ad g 15) :: rest)) :=
  q_get (T := TMo) (N := 42) (k := 30) cx hP qinMo (ci := 6) rfl (by decide) (e_15 g _ _) (by decide) hl rfl rfl hd kk
theorem g_Mo_firstNumber (cx : Cx p s m args meth c cc nL own g) (hP : Wd g σ H) (hl : Cond.fieldLink own index "TermBenchModel" "firstNumber" "[I" ∈ qw) (hd : decode cc pc = .ok (.getfield index, 3)) (kk : W p l e R s m args below meth c H locs cells slots Q (F0 m (pc + 3) ls (.ref (ad g 37) :: rest))) : W p l e R s m args below meth c H locs cells slots Q (F0 m pc ls (.ref (ad g 15) :: rest)) :=
  q_get (T := TMo) (N := 42) (k := 31) cx hP qinMo (ci := 6) rfl (by decide) (e_15 g _ _) (by decide) hl rfl rfl hd kk
theorem g_Mo_firstNames (cx : Cx p s m args meth c cc nL own g) (hP : Wd g σ H) (hl : Cond.fieldLink own index "TermBenchModel" "firstNames" "[I" ∈ qw) (hd : decode cc pc = .ok (.getfield index, 3)) (kk : W p l e R s m args below meth c H locs cells slots Q (F0 m (pc + 3) ls (.ref (ad g 38) :: rest))) : W p l e R s m args below meth c H locs cells slots Q (F0 m pc ls (.ref (ad g 15) :: rest)) :=
  q_get (T := TMo) (N := 42) (k := 32) cx hP qinMo (ci := 6) rfl (by decide) (e_15 g _ _) (by decide) hl rfl rfl hd kk
theorem g_Mo_sort (cx : Cx p s m args meth c cc nL own g) (hP : Wd g σ H) (hl : Cond.fieldLink own index "TermBenchModel" "sort" "I" ∈ qw) (hd : decode cc pc = .ok (.getfield index, 3)) (kk : W p l e R s m args below meth c H locs cells slots Q (F0 m (pc + 3) ls (.int (σ.1 15 33) :: rest))) : W p l e R s m args below meth c H locs cells slots Q (F0 m pc ls (.ref (ad g 15) :: rest)) :=
  q_get (T := TMo) (N := 42) (k := 33) cx hP qinMo (ci := 6) rfl (by decide) (e_15 g _ _) (by decide) hl rfl rfl hd kk
theorem p_Mo_sort (cx : Cx p s m args meth c cc nL own g) (hP : Wd g σ H) (hS : va_S (wA g) H0 H locs) (hl : Cond.fieldLink own index "TermBenchModel" "sort" "I" ∈ qw) (hd : decode cc pc = .ok (.putfield index, 3)) {v : Int32} {σ1 : Mem} (hs : σ1 = sI σ 15 33 v) (kk : ∀ (H1 : Heap) (locs1 : List Loc), Wd g σ1 H1 → va_S (wA g) H0 H1 locs1 → W p l e R s m args below meth c H1 locs1 cells slots Q (F0 m (pc + 3) ls rest)) : W p l e R s m args below meth c H locs cells slots Q (F0 m pc ls (.int v :: .ref (ad g 15) :: rest)) :=
  q_put (T := TMo) (N := 42) (k := 33) (ty := .int) cx hP hS qinMo tyMo tyMo_ok nmMo (ci := 6) rfl (by decide) (e_15 g _ _) (by decide) hl rfl rfl rfl rfl rfl (Nat.le_of_ble_eq_true rfl) (by rw [e_15 g]; rfl) hd hs kk
theorem g_Mo_worth (cx : Cx p s m args meth c cc nL own g) (hP : Wd g σ H) (hl : Cond.fieldLink own index "TermBenchModel" "worth" "I" ∈ qw) (hd : decode cc pc = .ok (.getfield index, 3)) (kk : W p l e R s m args below meth c H locs cells slots Q (F0 m (pc + 3) ls (.int (σ.1 15 34) :: rest))) : W p l e R s m args below meth c H locs cells slots Q (F0 m pc ls (.ref (ad g 15) :: rest)) :=
  q_get (T := TMo) (N := 42) (k := 34) cx hP qinMo (ci := 6) rfl (by decide) (e_15 g _ _) (by decide) hl rfl rfl hd kk
theorem p_Mo_worth (cx : Cx p s m args meth c cc nL own g) (hP : Wd g σ H) (hS : va_S (wA g) H0 H locs) (hl : Cond.fieldLink own index "TermBenchModel" "worth" "I" ∈ qw) (hd : decode cc pc = .ok (.putfield index, 3)) {v : Int32} {σ1 : Mem} (hs : σ1 = sI σ 15 34 v) (kk : ∀ (H1 : Heap) (locs1 : List Loc), Wd g σ1 H1 → va_S (wA g) H0 H1 locs1 → W p l e R s m args below meth c H1 locs1 cells slots Q (F0 m (pc + 3) ls rest)) : W p l e R s m args below meth c H locs cells slots Q (F0 m pc ls (.int v :: .ref (ad g 15) :: rest)) :=
  q_put (T := TMo) (N := 42) (k := 34) (ty := .int) cx hP hS qinMo tyMo tyMo_ok nmMo (ci := 6) rfl (by decide) (e_15 g _ _) (by decide) hl rfl rfl rfl rfl rfl (Nat.le_of_ble_eq_true rfl) (by rw [e_15 g]; rfl) hd hs kk
theorem g_Mo_around (cx : Cx p s m args meth c cc nL own g) (hP : Wd g σ H) (hl : Cond.fieldLink own index "TermBenchModel" "around" "I" ∈ qw) (hd : decode cc pc = .ok (.getfield index, 3)) (kk : W p l e R s m args below meth c H locs cells slots Q (F0 m (pc + 3) ls (.int (σ.1 15 35) :: rest))) : W p l e R s m args below meth c H locs cells slots Q (F0 m pc ls (.ref (ad g 15) :: rest)) :=
  q_get (T := TMo) (N := 42) (k := 35) cx hP qinMo (ci := 6) rfl (by decide) (e_15 g _ _) (by decide) hl rfl rfl hd kk
theorem p_Mo_around (cx : Cx p s m args meth c cc nL own g) (hP : Wd g σ H) (hS : va_S (wA g) H0 H locs) (hl : Cond.fieldLink own index "TermBenchModel" "around" "I" ∈ qw) (hd : decode cc pc = .ok (.putfield index, 3)) {v : Int32} {σ1 : Mem} (hs : σ1 = sI σ 15 35 v) (kk : ∀ (H1 : Heap) (locs1 : List Loc), Wd g σ1 H1 → va_S (wA g) H0 H1 locs1 → W p l e R s m args below meth c H1 locs1 cells slots Q (F0 m (pc + 3) ls rest)) : W p l e R s m args below meth c H locs cells slots Q (F0 m pc ls (.int v :: .ref (ad g 15) :: rest)) :=
  q_put (T := TMo) (N := 42) (k := 35) (ty := .int) cx hP hS qinMo tyMo tyMo_ok nmMo (ci := 6) rfl (by decide) (e_15 g _ _) (by decide) hl rfl rfl rfl rfl rfl (Nat.le_of_ble_eq_true rfl) (by rw [e_15 g]; rfl) hd hs kk
theorem g_Mo_bound (cx : Cx p s m args meth c cc nL own g) (hP : Wd g σ H) (hl : Cond.fieldLink own index "TermBenchModel" "bound" "I" ∈ qw) (hd : decode cc pc = .ok (.getfield index, 3)) (kk : W p l e R s m args below meth c H locs cells slots Q (F0 m (pc + 3) ls (.int (σ.1 15 36) :: rest))) : W p l e R s m args below meth c H locs cells slots Q (F0 m pc ls (.ref (ad g 15) :: rest)) :=
  q_get (T := TMo) (N := 42) (k := 36) cx hP qinMo (ci := 6) rfl (by decide) (e_15 g _ _) (by decide) hl rfl rfl hd kk
theorem p_Mo_bound (cx : Cx p s m args meth c cc nL own g) (hP : Wd g σ H) (hS : va_S (wA g) H0 H locs) (hl : Cond.fieldLink own index "TermBenchModel" "bound" "I" ∈ qw) (hd : decode cc pc = .ok (.putfield index, 3)) {v : Int32} {σ1 : Mem} (hs : σ1 = sI σ 15 36 v) (kk : ∀ (H1 : Heap) (locs1 : List Loc), Wd g σ1 H1 → va_S (wA g) H0 H1 locs1 → W p l e R s m args below meth c H1 locs1 cells slots Q (F0 m (pc + 3) ls rest)) : W p l e R s m args below meth c H locs cells slots Q (F0 m pc ls (.int v :: .ref (ad g 15) :: rest)) :=
  q_put (T := TMo) (N := 42) (k := 36) (ty := .int) cx hP hS qinMo tyMo tyMo_ok nmMo (ci := 6) rfl (by decide) (e_15 g _ _) (by decide) hl rfl rfl rfl rfl rfl (Nat.le_of_ble_eq_true rfl) (by rw [e_15 g]; rfl) hd hs kk
theorem g_Mo_boundName (cx : Cx p s m args meth c cc nL own g) (hP : Wd g σ H) (hl : Cond.fieldLink own index "TermBenchModel" "boundName" "[I" ∈ qw) (hd : decode cc pc = .ok (.getfield index, 3)) (kk : W p l e R s m args below meth c H locs cells slots Q (F0 m (pc + 3) ls (.ref (ad g 39) :: rest))) : W p l e R s m args below meth c H locs cells slots Q (F0 m pc ls (.ref (ad g 15) :: rest)) :=
  q_get (T := TMo) (N := 42) (k := 37) cx hP qinMo (ci := 6) rfl (by decide) (e_15 g _ _) (by decide) hl rfl rfl hd kk
theorem g_Mo_boundSort (cx : Cx p s m args meth c cc nL own g) (hP : Wd g σ H) (hl : Cond.fieldLink own index "TermBenchModel" "boundSort" "[I" ∈ qw) (hd : decode cc pc = .ok (.getfield index, 3)) (kk : W p l e R s m args below meth c H locs cells slots Q (F0 m (pc + 3) ls (.ref (ad g 40) :: rest))) : W p l e R s m args below meth c H locs cells slots Q (F0 m pc ls (.ref (ad g 15) :: rest)) :=
  q_get (T := TMo) (N := 42) (k := 38) cx hP qinMo (ci := 6) rfl (by decide) (e_15 g _ _) (by decide) hl rfl rfl hd kk
theorem g_Mo_boundNumber (cx : Cx p s m args meth c cc nL own g) (hP : Wd g σ H) (hl : Cond.fieldLink own index "TermBenchModel" "boundNumber" "[I" ∈ qw) (hd : decode cc pc = .ok (.getfield index, 3)) (kk : W p l e R s m args below meth c H locs cells slots Q (F0 m (pc + 3) ls (.ref (ad g 41) :: rest))) : W p l e R s m args below meth c H locs cells slots Q (F0 m pc ls (.ref (ad g 15) :: rest)) :=
  q_get (T := TMo) (N := 42) (k := 39) cx hP qinMo (ci := 6) rfl (by decide) (e_15 g _ _) (by decide) hl rfl rfl hd kk
theorem g_Mo_boundNames (cx : Cx p s m args meth c cc nL own g) (hP : Wd g σ H) (hl : Cond.fieldLink own index "TermBenchModel" "boundNames" "[I" ∈ qw) (hd : decode cc pc = .ok (.getfield index, 3)) (kk : W p l e R s m args below meth c H locs cells slots Q (F0 m (pc + 3) ls (.ref (ad g 42) :: rest))) : W p l e R s m args below meth c H locs cells slots Q (F0 m pc ls (.ref (ad g 15) :: rest)) :=
  q_get (T := TMo) (N := 42) (k := 40) cx hP qinMo (ci := 6) rfl (by decide) (e_15 g _ _) (by decide) hl rfl rfl hd kk
theorem g_Mo_before (cx : Cx p s m args meth c cc nL own g) (hP : Wd g σ H) (hl : Cond.fieldLink own index "TermBenchModel" "before" "[I" ∈ qw) (hd : decode cc pc = .ok (.getfield index, 3)) (kk : W p l e R s m args below meth c H locs cells slots Q (F0 m (pc + 3) ls (.ref (ad g 43) :: rest))) : W p l e R s m args below meth c H locs cells slots Q (F0 m pc ls (.ref (ad g 15) :: rest)) :=
  q_get (T := TMo) (N := 42) (k := 41) cx hP qinMo (ci := 6) rfl (by decide) (e_15 g _ _) (by decide) hl rfl rfl hd kk
theorem g_Pr_kinds (cx : Cx p s m args meth c cc nL own g) (hP : Wd g σ H) {i : Nat} (hi : i < 17) (hl : Cond.fieldLink own index "TermBench$Program" "kinds" "[I" ∈ qw) (hd : decode cc pc = .ok (.getfield index, 3)) (kk : W p l e R s m args below meth c H locs cells slots Q (F0 m (pc + 3) ls (.ref (ad g (cPk i)) :: rest))) : W p l e R s m args below meth c H locs cells slots Q (F0 m pc ls (.ref (ad g (cP i)) :: rest)) :=
  q_get (T := TPr) (N := 6) (k := 0) cx hP qinPr (ci := 3) rfl (l_cP hi) (e_cP g hi _ _) (by decide) hl rfl rfl hd kk
theorem g_Pr_figures (cx : Cx p s m args meth c cc nL own g) (hP : Wd g σ H) {i : Nat} (hi : i < 17) (hl : Cond.fieldLink own index "TermBench$Program" "figures" "[I" ∈ qw) (hd : decode cc pc = .ok (.getfield index, 3)) (kk : W p l e R s m args below meth c H locs cells slots Q (F0 m (pc + 3) ls (.ref (ad g (cPf i)) :: rest))) : W p l e R s m args below meth c H locs cells slots Q (F0 m pc ls (.ref (ad g (cP i)) :: rest)) :=
  q_get (T := TPr) (N := 6) (k := 1) cx hP qinPr (ci := 3) rfl (l_cP hi) (e_cP g hi _ _) (by decide) hl rfl rfl hd kk
theorem g_Pr_types (cx : Cx p s m args meth c cc nL own g) (hP : Wd g σ H) {i : Nat} (hi : i < 17) (hl : Cond.fieldLink own index "TermBench$Program" "types" "[J" ∈ qw) (hd : decode cc pc = .ok (.getfield index, 3)) (kk : W p l e R s m args below meth c H locs cells slots Q (F0 m (pc + 3) ls (.ref (ad g (cPt i)) :: rest))) : W p l e R s m args below meth c H locs cells slots Q (F0 m pc ls (.ref (ad g (cP i)) :: rest)) :=
  q_get (T := TPr) (N := 6) (k := 2) cx hP qinPr (ci := 3) rfl (l_cP hi) (e_cP g hi _ _) (by decide) hl rfl rfl hd kk
theorem g_Pr_levels (cx : Cx p s m args meth c cc nL own g) (hP : Wd g σ H) {i : Nat} (hi : i < 17) (hl : Cond.fieldLink own index "TermBench$Program" "levels" "[I" ∈ qw) (hd : decode cc pc = .ok (.getfield index, 3)) (kk : W p l e R s m args below meth c H locs cells slots Q (F0 m (pc + 3) ls (.ref (ad g (cPl i)) :: rest))) : W p l e R s m args below meth c H locs cells slots Q (F0 m pc ls (.ref (ad g (cP i)) :: rest)) :=
  q_get (T := TPr) (N := 6) (k := 3) cx hP qinPr (ci := 3) rfl (l_cP hi) (e_cP g hi _ _) (by decide) hl rfl rfl hd kk
theorem g_Pr_size (cx : Cx p s m args meth c cc nL own g) (hP : Wd g σ H) {i : Nat} (hi : i < 17) (hl : Cond.fieldLink own index "TermBench$Program" "size" "I" ∈ qw) (hd : decode cc pc = .ok (.getfield index, 3)) (kk : W p l e R s m args below meth c H locs cells slots Q (F0 m (pc + 3) ls (.int (σ.1 (cP i) 4) :: rest))) : W p l e R s m args below meth c H locs cells slots Q (F0 m pc ls (.ref (ad g (cP i)) :: rest)) :=
  q_get (T := TPr) (N := 6) (k := 4) cx hP qinPr (ci := 3) rfl (l_cP hi) (e_cP g hi _ _) (by decide) hl rfl rfl hd kk
theorem p_Pr_size (cx : Cx p s m args meth c cc nL own g) (hP : Wd g σ H) (hS : va_S (wA g) H0 H locs) {i : Nat} (hi : i < 17) (hl : Cond.fieldLink own index "TermBench$Program" "size" "I" ∈ qw) (hd : decode cc pc = .ok (.putfield index, 3)) {v : Int32} {σ1 : Mem} (hs : σ1 = sI σ (cP i) 4 v) (kk : ∀ (H1 : Heap) (locs1 : List Loc), Wd g σ1 H1 → va_S (wA g) H0 H1 locs1 → W p l e R s m args below meth c H1 locs1 cells slots Q (F0 m (pc + 3) ls rest)) : W p l e R s m args below meth c H locs cells slots Q (F0 m pc ls (.int v :: .ref (ad g (cP i)) :: rest)) :=
  q_put (T := TPr) (N := 6) (k := 4) (ty := .int) cx hP hS qinPr tyPr tyPr_ok nmPr (ci := 3) rfl (l_cP hi) (e_cP g hi _ _) (by decide) hl rfl rfl rfl rfl rfl (Nat.le_of_ble_eq_true rfl) (by rw [e_cP g hi]; rfl) hd hs kk
theorem g_Pr_cursor (cx : Cx p s m args meth c cc nL own g) (hP : Wd g σ H) {i : Nat} (hi : i < 17) (hl : Cond.fieldLink own index "TermBench$Program" "cursor" "I" ∈ qw) (hd : decode cc pc = .ok (.getfield index, 3)) (kk : W p l e R s m args below meth c H locs cells slots Q (F0 m (pc + 3) ls (.int (σ.1 (cP i) 5) :: rest))) : W p l e R s m args below meth c H locs cells slots Q (F0 m pc ls (.ref (ad g (cP i)) :: rest)) :=
  q_get (T := TPr) (N := 6) (k := 5) cx hP qinPr (ci := 3) rfl (l_cP hi) (e_cP g hi _ _) (by decide) hl rfl rfl hd kk
theorem p_Pr_cursor (cx : Cx p s m args meth c cc nL own g) (hP : Wd g σ H) (hS : va_S (wA g) H0 H locs) {i : Nat} (hi : i < 17) (hl : Cond.fieldLink own index "TermBench$Program" "cursor" "I" ∈ qw) (hd : decode cc pc = .ok (.putfield index, 3)) {v : Int32} {σ1 : Mem} (hs : σ1 = sI σ (cP i) 5 v) (kk : ∀ (H1 : Heap) (locs1 : List Loc), Wd g σ1 H1 → va_S (wA g) H0 H1 locs1 → W p l e R s m args below meth c H1 locs1 cells slots Q (F0 m (pc + 3) ls rest)) : W p l e R s m args below meth c H locs cells slots Q (F0 m pc ls (.int v :: .ref (ad g (cP i)) :: rest)) :=
  q_put (T := TPr) (N := 6) (k := 5) (ty := .int) cx hP hS qinPr tyPr tyPr_ok nmPr (ci := 3) rfl (l_cP hi) (e_cP g hi _ _) (by decide) hl rfl rfl rfl rfl rfl (Nat.le_of_ble_eq_true rfl) (by rw [e_cP g hi]; rfl) hd hs kk
end MF
end
section
theorem Y_Hi_present : Yw yHi_present cHi_present 1 (some (.object "TermBench$Program")) 0 := ⟨t_181, t_2, by decide +kernel, by decide⟩
theorem V_Hi_present : YV yHi_present := ⟨t_179, t_180⟩
theorem Y_Pr_isOnHole : Yw yPr_isOnHole cPr_isOnHole 1 (some .boolean) 0 := ⟨t_185, t_3, by decide +kernel, by decide⟩
theorem V_Pr_isOnHole : YV yPr_isOnHole := ⟨t_183, t_184⟩
theorem Y_Pr_copy : Yw yPr_copy cPr_copy 2 none 1 := ⟨t_197, t_3, by decide +kernel, by decide⟩
theorem V_Pr_copy : YV yPr_copy := ⟨t_195, t_196⟩
theorem Y_Hi_keep : Yw yHi_keep cHi_keep 2 (some (.object "TermBench$Program")) 0 := ⟨t_189, t_2, by decide +kernel, by decide⟩
theorem V_Hi_keep : YV yHi_keep := ⟨t_187, t_188⟩
theorem Y_Pr_write : Yw yPr_write cPr_write 6 none 4 := ⟨t_208, t_3, by decide +kernel, by decide⟩
theorem V_Pr_write : YV yPr_write := ⟨t_207, q_sel (i := 1) rfl (by decide +kernel)⟩
theorem Y_Pr_fill : Yw yPr_fill cPr_fill 3 none 2 := ⟨t_204, t_3, by decide +kernel, by decide⟩
theorem V_Pr_fill : YV yPr_fill := ⟨t_202, t_203⟩
theorem Y_Be_fillHole : Yw yBe_fillHole cBe_fillHole 3 (some .boolean) 2 := ⟨t_177, t_1, by decide +kernel, by decide⟩
theorem V_Be_fillHole : YV yBe_fillHole := ⟨t_176, q_sel (i := 0) rfl (by decide +kernel)⟩
theorem Y_Be_number : Yw yBe_number cBe_number 2 (some .boolean) 1 := ⟨t_173, t_1, by decide +kernel, by decide⟩
theorem V_Be_number : YV yBe_number := ⟨t_171, t_172⟩
theorem Y_Be_isName : Yw yBe_isName cBe_isName 1 (some .boolean) 1 := ⟨t_215, t_1, by decide +kernel, by decide⟩
theorem S_Be_isName : Cond.static yBe_isName ∈ qw := t_214
theorem Y_Be_name : Yw yBe_name cBe_name 2 (some .boolean) 1 := ⟨t_212, t_1, by decide +kernel, by decide⟩
theorem V_Be_name : YV yBe_name := ⟨t_210, t_211⟩
theorem Y_Pr_end : Yw yPr_end cPr_end 3 (some .int) 1 := ⟨t_231, t_3, by decide +kernel, by decide⟩
theorem V_Pr_end : YV yPr_end := ⟨t_229, t_230⟩
theorem Y_Pr_hasRoomAround : Yw yPr_hasRoomAround cPr_hasRoomAround 5 (some .boolean) 1 := ⟨t_227, t_3, by decide +kernel, by decide⟩
theorem V_Pr_hasRoomAround : YV yPr_hasRoomAround := ⟨t_225, t_226⟩
theorem Y_Pr_shiftLevels : Yw yPr_shiftLevels cPr_shiftLevels 5 none 3 := ⟨t_246, t_3, by decide +kernel, by decide⟩
theorem V_Pr_shiftLevels : YV yPr_shiftLevels := ⟨t_245, q_sel (i := 3) rfl (by decide +kernel)⟩
theorem Y_Pr_moveTail : Yw yPr_moveTail cPr_moveTail 4 none 2 := ⟨t_250, t_3, by decide +kernel, by decide⟩
theorem V_Pr_moveTail : YV yPr_moveTail := ⟨t_249, q_sel (i := 4) rfl (by decide +kernel)⟩
theorem Y_Pr_wrap : Yw yPr_wrap cPr_wrap 6 none 3 := ⟨t_242, t_3, by decide +kernel, by decide⟩
theorem V_Pr_wrap : YV yPr_wrap := ⟨t_240, t_241⟩
theorem Y_Pr_join : Yw yPr_join cPr_join 5 none 2 := ⟨t_238, t_3, by decide +kernel, by decide⟩
theorem V_Pr_join : YV yPr_join := ⟨t_236, t_237⟩
theorem Y_Be_joinHole : Yw yBe_joinHole cBe_joinHole 3 (some .boolean) 2 := ⟨t_223, t_1, by decide +kernel, by decide⟩
theorem V_Be_joinHole : YV yBe_joinHole := ⟨t_222, q_sel (i := 2) rfl (by decide +kernel)⟩
theorem Y_Be_sum : Yw yBe_sum cBe_sum 2 (some .boolean) 1 := ⟨t_219, t_1, by decide +kernel, by decide⟩
theorem V_Be_sum : YV yBe_sum := ⟨t_217, t_218⟩
theorem Y_Be_call : Yw yBe_call cBe_call 2 (some .boolean) 1 := ⟨t_254, t_1, by decide +kernel, by decide⟩
theorem V_Be_call : YV yBe_call := ⟨t_252, t_253⟩
theorem Y_Ty_symbols : Yw yTy_symbols cTy_symbols 5 (some .int) 1 := ⟨t_268, t_10, by decide +kernel, by decide⟩
theorem S_Ty_symbols : Cond.static yTy_symbols ∈ qw := t_267
theorem Y_Ty_isType : Yw yTy_isType cTy_isType 3 (some .boolean) 1 := ⟨t_265, t_10, by decide +kernel, by decide⟩
theorem S_Ty_isType : Cond.static yTy_isType ∈ qw := t_264
theorem Y_Be_wrapTyped : Yw yBe_wrapTyped cBe_wrapTyped 5 (some .boolean) 3 := ⟨t_262, t_1, by decide +kernel, by decide⟩
theorem V_Be_wrapTyped : YV yBe_wrapTyped := ⟨t_261, q_sel (i := 5) rfl (by decide +kernel)⟩
theorem Y_Be_function : Yw yBe_function cBe_function 4 (some .boolean) 2 := ⟨t_258, t_1, by decide +kernel, by decide⟩
theorem V_Be_function : YV yBe_function := ⟨t_256, t_257⟩
theorem Y_Be_claim : Yw yBe_claim cBe_claim 3 (some .boolean) 1 := ⟨t_273, t_1, by decide +kernel, by decide⟩
theorem V_Be_claim : YV yBe_claim := ⟨t_271, t_272⟩
theorem Y_Pr_empty : Yw yPr_empty cPr_empty 1 none 0 := ⟨t_281, t_3, by decide +kernel, by decide⟩
theorem V_Pr_empty : YV yPr_empty := ⟨t_279, t_280⟩
theorem Y_Be_remove : Yw yBe_remove cBe_remove 1 (some .boolean) 0 := ⟨t_277, t_1, by decide +kernel, by decide⟩
theorem V_Be_remove : YV yBe_remove := ⟨t_275, t_276⟩
theorem Y_Pr_parent : Yw yPr_parent cPr_parent 3 (some .int) 1 := ⟨t_293, t_3, by decide +kernel, by decide⟩
theorem V_Pr_parent : YV yPr_parent := ⟨t_291, t_292⟩
theorem Y_Pr_raise : Yw yPr_raise cPr_raise 3 none 0 := ⟨t_289, t_3, by decide +kernel, by decide⟩
theorem V_Pr_raise : YV yPr_raise := ⟨t_287, t_288⟩
theorem Y_Be_lift : Yw yBe_lift cBe_lift 1 (some .boolean) 0 := ⟨t_285, t_1, by decide +kernel, by decide⟩
theorem V_Be_lift : YV yBe_lift := ⟨t_283, t_284⟩
theorem Y_Hi_stepBack : Yw yHi_stepBack cHi_stepBack 1 (some .boolean) 0 := ⟨t_301, t_2, by decide +kernel, by decide⟩
theorem V_Hi_stepBack : YV yHi_stepBack := ⟨t_299, t_300⟩
theorem Y_Be_undo : Yw yBe_undo cBe_undo 1 (some .boolean) 0 := ⟨t_297, t_1, by decide +kernel, by decide⟩
theorem V_Be_undo : YV yBe_undo := ⟨t_295, t_296⟩
theorem Y_Hi_stepForth : Yw yHi_stepForth cHi_stepForth 1 (some .boolean) 0 := ⟨t_309, t_2, by decide +kernel, by decide⟩
theorem V_Hi_stepForth : YV yHi_stepForth := ⟨t_307, t_308⟩
theorem Y_Be_redo : Yw yBe_redo cBe_redo 1 (some .boolean) 0 := ⟨t_305, t_1, by decide +kernel, by decide⟩
theorem V_Be_redo : YV yBe_redo := ⟨t_303, t_304⟩
theorem Y_Be_moveTo : Yw yBe_moveTo cBe_moveTo 2 (some .boolean) 1 := ⟨t_318, t_1, by decide +kernel, by decide⟩
theorem V_Be_moveTo : YV yBe_moveTo := ⟨t_317, q_sel (i := 6) rfl (by decide +kernel)⟩
theorem Y_Be_up : Yw yBe_up cBe_up 2 (some .boolean) 0 := ⟨t_313, t_1, by decide +kernel, by decide⟩
theorem V_Be_up : YV yBe_up := ⟨t_311, t_312⟩
theorem Y_Pr_part : Yw yPr_part cPr_part 5 (some .int) 2 := ⟨t_326, t_3, by decide +kernel, by decide⟩
theorem V_Pr_part : YV yPr_part := ⟨t_324, t_325⟩
theorem Y_Be_down : Yw yBe_down cBe_down 3 (some .boolean) 1 := ⟨t_322, t_1, by decide +kernel, by decide⟩
theorem V_Be_down : YV yBe_down := ⟨t_320, t_321⟩
theorem Y_Ar_fill : Yw yAr_fill cAr_fill 5 none 2 := ⟨t_341, t_11, by decide +kernel, by decide⟩
theorem S_Ar_fill : Cond.static yAr_fill ∈ qw := t_340
theorem Y_Pa_clear : Yw yPa_clear cPa_clear 1 none 0 := ⟨t_338, t_5, by decide +kernel, by decide⟩
theorem V_Pa_clear : YV yPa_clear := ⟨t_336, t_337⟩
theorem Y_Pa_writeSign : Yw yPa_writeSign cPa_writeSign 2 none 1 := ⟨t_356, t_5, by decide +kernel, by decide⟩
theorem V_Pa_writeSign : YV yPa_writeSign := ⟨t_355, q_sel (i := 9) rfl (by decide +kernel)⟩
theorem Y_Pa_writeName : Yw yPa_writeName cPa_writeName 2 none 1 := ⟨t_360, t_5, by decide +kernel, by decide⟩
theorem V_Pa_writeName : YV yPa_writeName := ⟨t_359, q_sel (i := 10) rfl (by decide +kernel)⟩
theorem Y_Ty_isFrom : Yw yTy_isFrom cTy_isFrom 2 (some .boolean) 1 := ⟨t_373, t_10, by decide +kernel, by decide⟩
theorem S_Ty_isFrom : Cond.static yTy_isFrom ∈ qw := t_372
theorem Y_Ty_taken : Yw yTy_taken cTy_taken 4 (some .long) 1 := ⟨t_378, t_10, by decide +kernel, by decide⟩
theorem S_Ty_taken : Cond.static yTy_taken ∈ qw := t_377
theorem Y_Ty_given : Yw yTy_given cTy_given 4 (some .long) 1 := ⟨t_381, t_10, by decide +kernel, by decide⟩
theorem S_Ty_given : Cond.static yTy_given ∈ qw := t_380
theorem Y_Pa_writeType : Yw yPa_writeType cPa_writeType 4 none 2 := ⟨t_370, t_5, by decide +kernel, by decide⟩
theorem V_Pa_writeType : YV yPa_writeType := ⟨t_369, q_sel (i := 12) rfl (by decide +kernel)⟩
theorem Y_Pa_writeNumber : Yw yPa_writeNumber cPa_writeNumber 3 none 1 := ⟨t_349, t_5, by decide +kernel, by decide⟩
theorem V_Pa_writeNumber : YV yPa_writeNumber := ⟨t_348, q_sel (i := 8) rfl (by decide +kernel)⟩
theorem Y_Pa_writeWithParts : Yw yPa_writeWithParts cPa_writeWithParts 6 none 3 := ⟨t_364, t_5, by decide +kernel, by decide⟩
theorem V_Pa_writeWithParts : YV yPa_writeWithParts := ⟨t_363, q_sel (i := 11) rfl (by decide +kernel)⟩
theorem Y_Pa_writeTerm : Yw yPa_writeTerm cPa_writeTerm 4 none 3 := ⟨t_345, t_5, by decide +kernel, by decide⟩
theorem V_Pa_writeTerm : YV yPa_writeTerm := ⟨t_343, t_344⟩
theorem Y_Be_written : Yw yBe_written cBe_written 1 (some (.object "TermBench$Page")) 0 := ⟨t_334, t_1, by decide +kernel, by decide⟩
theorem V_Be_written : YV yBe_written := ⟨t_333, q_sel (i := 7) rfl (by decide +kernel)⟩
theorem Y_Pa_nextHole : Yw yPa_nextHole cPa_nextHole 4 (some .int) 1 := ⟨t_385, t_5, by decide +kernel, by decide⟩
theorem V_Pa_nextHole : YV yPa_nextHole := ⟨t_383, t_384⟩
theorem Y_Be_hole : Yw yBe_hole cBe_hole 1 (some .boolean) 0 := ⟨t_330, t_1, by decide +kernel, by decide⟩
theorem V_Be_hole : YV yBe_hole := ⟨t_328, t_329⟩
theorem Y_Pa_innermost : Yw yPa_innermost cPa_innermost 5 (some .int) 2 := ⟨t_393, t_5, by decide +kernel, by decide⟩
theorem V_Pa_innermost : YV yPa_innermost := ⟨t_391, t_392⟩
theorem Y_Be_click : Yw yBe_click cBe_click 2 (some .boolean) 1 := ⟨t_389, t_1, by decide +kernel, by decide⟩
theorem V_Be_click : YV yBe_click := ⟨t_387, t_388⟩
theorem Y_Be_column : Yw yBe_column cBe_column 1 (some .int) 0 := ⟨t_397, t_1, by decide +kernel, by decide⟩
theorem V_Be_column : YV yBe_column := ⟨t_395, t_396⟩
theorem Y_Be_kind : Yw yBe_kind cBe_kind 2 (some .int) 0 := ⟨t_401, t_1, by decide +kernel, by decide⟩
theorem V_Be_kind : YV yBe_kind := ⟨t_399, t_400⟩
theorem Y_Ty_consistent : Yw yTy_consistent cTy_consistent 5 (some .boolean) 3 := ⟨t_442, t_10, by decide +kernel, by decide⟩
theorem S_Ty_consistent : Cond.static yTy_consistent ∈ qw := t_441
theorem Y_Ty_from : Yw yTy_from cTy_from 5 (some .long) 2 := ⟨t_449, t_10, by decide +kernel, by decide⟩
theorem S_Ty_from : Cond.static yTy_from ∈ qw := t_448
theorem Y_Pr_binder : Yw yPr_binder cPr_binder 4 (some .int) 1 := ⟨t_426, t_3, by decide +kernel, by decide⟩
theorem V_Pr_binder : YV yPr_binder := ⟨t_424, t_425⟩
theorem Y_Tg_typeName : Yw yTg_typeName cTg_typeName 4 (some .long) 2 := ⟨t_422, t_4, by decide +kernel, by decide⟩
theorem V_Tg_typeName : YV yTg_typeName := ⟨t_421, q_sel (i := 15) rfl (by decide +kernel)⟩
theorem Y_Tg_typeCall : Yw yTg_typeCall cTg_typeCall 9 (some .long) 3 := ⟨t_432, t_4, by decide +kernel, by decide⟩
theorem V_Tg_typeCall : YV yTg_typeCall := ⟨t_431, q_sel (i := 16) rfl (by decide +kernel)⟩
theorem Y_Tg_typeFunction : Yw yTg_typeFunction cTg_typeFunction 10 (some .long) 4 := ⟨t_439, t_4, by decide +kernel, by decide⟩
theorem V_Tg_typeFunction : YV yTg_typeFunction := ⟨t_438, q_sel (i := 17) rfl (by decide +kernel)⟩
theorem Y_Tg_typeByKind : Yw yTg_typeByKind cTg_typeByKind 6 (some .long) 4 := ⟨t_417, t_4, by decide +kernel, by decide⟩
theorem V_Tg_typeByKind : YV yTg_typeByKind := ⟨t_416, q_sel (i := 14) rfl (by decide +kernel)⟩
theorem Y_Tg_typeTerm : Yw yTg_typeTerm cTg_typeTerm 8 (some .long) 4 := ⟨t_413, t_4, by decide +kernel, by decide⟩
theorem V_Tg_typeTerm : YV yTg_typeTerm := ⟨t_411, t_412⟩
theorem Y_Be_typed : Yw yBe_typed cBe_typed 1 (some (.object "TermBench$Typing")) 0 := ⟨t_409, t_1, by decide +kernel, by decide⟩
theorem V_Be_typed : YV yBe_typed := ⟨t_408, q_sel (i := 13) rfl (by decide +kernel)⟩
theorem Y_Be_mark : Yw yBe_mark cBe_mark 1 (some .int) 0 := ⟨t_405, t_1, by decide +kernel, by decide⟩
theorem V_Be_mark : YV yBe_mark := ⟨t_403, t_404⟩
theorem Y_Be_got : Yw yBe_got cBe_got 1 (some .long) 0 := ⟨t_453, t_1, by decide +kernel, by decide⟩
theorem V_Be_got : YV yBe_got := ⟨t_451, t_452⟩
theorem Y_Be_expected : Yw yBe_expected cBe_expected 1 (some .long) 0 := ⟨t_457, t_1, by decide +kernel, by decide⟩
theorem V_Be_expected : YV yBe_expected := ⟨t_455, t_456⟩
theorem Y_Tg_countMarks : Yw yTg_countMarks cTg_countMarks 4 (some .int) 1 := ⟨t_465, t_4, by decide +kernel, by decide⟩
theorem V_Tg_countMarks : YV yTg_countMarks := ⟨t_463, t_464⟩
theorem Y_Be_marks : Yw yBe_marks cBe_marks 1 (some .int) 0 := ⟨t_461, t_1, by decide +kernel, by decide⟩
theorem V_Be_marks : YV yBe_marks := ⟨t_459, t_460⟩
theorem Y_Be_terms : Yw yBe_terms cBe_terms 1 (some .int) 0 := ⟨t_469, t_1, by decide +kernel, by decide⟩
theorem V_Be_terms : YV yBe_terms := ⟨t_467, t_468⟩
theorem Y_Pa_eightOf : Yw yPa_eightOf cPa_eightOf 2 (some .long) 1 := ⟨t_477, t_5, by decide +kernel, by decide⟩
theorem V_Pa_eightOf : YV yPa_eightOf := ⟨t_475, t_476⟩
theorem Y_Be_text : Yw yBe_text cBe_text 2 (some .long) 1 := ⟨t_473, t_1, by decide +kernel, by decide⟩
theorem V_Be_text : YV yBe_text := ⟨t_471, t_472⟩
theorem Y_Ma_outcome : Yw yMa_outcome cMa_outcome 2 (some .int) 1 := ⟨t_504, t_6, by decide +kernel, by decide⟩
theorem S_Ma_outcome : Cond.static yMa_outcome ∈ qw := t_503
theorem Y_Ma_value : Yw yMa_value cMa_value 2 (some .long) 2 := ⟨t_492, t_6, by decide +kernel, by decide⟩
theorem S_Ma_value : Cond.static yMa_value ∈ qw := t_491
theorem Y_Ma_content : Yw yMa_content cMa_content 2 (some .int) 1 := ⟨t_507, t_6, by decide +kernel, by decide⟩
theorem S_Ma_content : Cond.static yMa_content ∈ qw := t_506
theorem Y_Ma_bind : Yw yMa_bind cMa_bind 5 (some .int) 3 := ⟨t_515, t_6, by decide +kernel, by decide⟩
theorem V_Ma_bind : YV yMa_bind := ⟨t_514, q_sel (i := 22) rfl (by decide +kernel)⟩
theorem Y_Ma_standsFor : Yw yMa_standsFor cMa_standsFor 5 (some .long) 2 := ⟨t_496, t_6, by decide +kernel, by decide⟩
theorem V_Ma_standsFor : YV yMa_standsFor := ⟨t_495, q_sel (i := 19) rfl (by decide +kernel)⟩
theorem Y_Ma_runSum : Yw yMa_runSum cMa_runSum 10 (some .long) 5 := ⟨t_500, t_6, by decide +kernel, by decide⟩
theorem V_Ma_runSum : YV yMa_runSum := ⟨t_499, q_sel (i := 20) rfl (by decide +kernel)⟩
theorem Y_Ma_runCall : Yw yMa_runCall cMa_runCall 13 (some .long) 5 := ⟨t_511, t_6, by decide +kernel, by decide⟩
theorem V_Ma_runCall : YV yMa_runCall := ⟨t_510, q_sel (i := 21) rfl (by decide +kernel)⟩
theorem Y_Ma_runTerm : Yw yMa_runTerm cMa_runTerm 6 (some .long) 5 := ⟨t_489, t_6, by decide +kernel, by decide⟩
theorem V_Ma_runTerm : YV yMa_runTerm := ⟨t_488, q_sel (i := 18) rfl (by decide +kernel)⟩
theorem Y_Ma_start : Yw yMa_start cMa_start 5 (some .int) 2 := ⟨t_485, t_6, by decide +kernel, by decide⟩
theorem V_Ma_start : YV yMa_start := ⟨t_483, t_484⟩
theorem Y_Be_run : Yw yBe_run cBe_run 1 (some .int) 0 := ⟨t_481, t_1, by decide +kernel, by decide⟩
theorem V_Be_run : YV yBe_run := ⟨t_479, t_480⟩
theorem Y_Be_result : Yw yBe_result cBe_result 1 (some .int) 0 := ⟨t_519, t_1, by decide +kernel, by decide⟩
theorem V_Be_result : YV yBe_result := ⟨t_517, t_518⟩
theorem Y_Be_units : Yw yBe_units cBe_units 1 (some .int) 0 := ⟨t_523, t_1, by decide +kernel, by decide⟩
theorem V_Be_units : YV yBe_units := ⟨t_521, t_522⟩
theorem Y_Mo_symbol : Yw yMo_symbol cMo_symbol 3 (some .int) 2 := ⟨t_736, t_7, by decide +kernel, by decide⟩
theorem S_Mo_symbol : Cond.static yMo_symbol ∈ qw := t_735
theorem Y_Mo_behind : Yw yMo_behind cMo_behind 6 (some .int) 2 := ⟨t_733, t_7, by decide +kernel, by decide⟩
theorem S_Mo_behind : Cond.static yMo_behind ∈ qw := t_732
theorem Y_Mo_isType : Yw yMo_isType cMo_isType 3 (some .boolean) 1 := ⟨t_730, t_7, by decide +kernel, by decide⟩
theorem S_Mo_isType : Cond.static yMo_isType ∈ qw := t_729
theorem Y_Mo_cut : Yw yMo_cut cMo_cut 4 (some .long) 3 := ⟨t_835, t_7, by decide +kernel, by decide⟩
theorem S_Mo_cut : Cond.static yMo_cut ∈ qw := t_834
theorem Y_Mo_isFrom : Yw yMo_isFrom cMo_isFrom 2 (some .boolean) 1 := ⟨t_829, t_7, by decide +kernel, by decide⟩
theorem S_Mo_isFrom : Cond.static yMo_isFrom ∈ qw := t_828
theorem Y_Mo_firstOf : Yw yMo_firstOf cMo_firstOf 2 (some .long) 1 := ⟨t_842, t_7, by decide +kernel, by decide⟩
theorem S_Mo_firstOf : Cond.static yMo_firstOf ∈ qw := t_841
theorem Y_Mo_secondOf : Yw yMo_secondOf cMo_secondOf 3 (some .long) 1 := ⟨t_832, t_7, by decide +kernel, by decide⟩
theorem S_Mo_secondOf : Cond.static yMo_secondOf ∈ qw := t_831
theorem Y_Mo_consistent : Yw yMo_consistent cMo_consistent 9 (some .boolean) 2 := ⟨t_860, t_7, by decide +kernel, by decide⟩
theorem S_Mo_consistent : Cond.static yMo_consistent ∈ qw := t_859
theorem Y_Mo_from : Yw yMo_from cMo_from 6 (some .long) 2 := ⟨t_853, t_7, by decide +kernel, by decide⟩
theorem S_Mo_from : Cond.static yMo_from ∈ qw := t_852
theorem Y_Mo_parts : Yw yMo_parts cMo_parts 1 (some .int) 1 := ⟨t_695, t_7, by decide +kernel, by decide⟩
theorem S_Mo_parts : Cond.static yMo_parts ∈ qw := t_694
theorem Y_Mo_end : Yw yMo_end cMo_end 4 (some .int) 1 := ⟨t_692, t_7, by decide +kernel, by decide⟩
theorem V_Mo_end : YV yMo_end := ⟨t_691, q_sel (i := 28) rfl (by decide +kernel)⟩
theorem Y_Mo_part : Yw yMo_part cMo_part 3 (some .int) 2 := ⟨t_769, t_7, by decide +kernel, by decide⟩
theorem V_Mo_part : YV yMo_part := ⟨t_768, q_sel (i := 35) rfl (by decide +kernel)⟩
theorem Y_Mo_above : Yw yMo_above cMo_above 3 (some .int) 1 := ⟨t_757, t_7, by decide +kernel, by decide⟩
theorem V_Mo_above : YV yMo_above := ⟨t_756, q_sel (i := 34) rfl (by decide +kernel)⟩
theorem Y_Mo_depth : Yw yMo_depth cMo_depth 4 (some .int) 1 := ⟨t_688, t_7, by decide +kernel, by decide⟩
theorem V_Mo_depth : YV yMo_depth := ⟨t_687, q_sel (i := 27) rfl (by decide +kernel)⟩
theorem Y_Mo_shift : Yw yMo_shift cMo_shift 3 none 2 := ⟨t_719, t_7, by decide +kernel, by decide⟩
theorem V_Mo_shift : YV yMo_shift := ⟨t_718, q_sel (i := 32) rfl (by decide +kernel)⟩
theorem Y_Mo_insert : Yw yMo_insert cMo_insert 7 none 4 := ⟨t_715, t_7, by decide +kernel, by decide⟩
theorem V_Mo_insert : YV yMo_insert := ⟨t_714, q_sel (i := 31) rfl (by decide +kernel)⟩
theorem Y_Mo_takeOut : Yw yMo_takeOut cMo_takeOut 4 none 2 := ⟨t_749, t_7, by decide +kernel, by decide⟩
theorem V_Mo_takeOut : YV yMo_takeOut := ⟨t_748, q_sel (i := 33) rfl (by decide +kernel)⟩
theorem Y_Mo_save : Yw yMo_save cMo_save 3 none 1 := ⟨t_664, t_7, by decide +kernel, by decide⟩
theorem V_Mo_save : YV yMo_save := ⟨t_663, q_sel (i := 23) rfl (by decide +kernel)⟩
theorem Y_Mo_bring : Yw yMo_bring cMo_bring 3 none 1 := ⟨t_668, t_7, by decide +kernel, by decide⟩
theorem V_Mo_bring : YV yMo_bring := ⟨t_667, q_sel (i := 24) rfl (by decide +kernel)⟩
theorem Y_Mo_move : Yw yMo_move cMo_move 4 none 2 := ⟨t_699, t_7, by decide +kernel, by decide⟩
theorem V_Mo_move : YV yMo_move := ⟨t_698, q_sel (i := 29) rfl (by decide +kernel)⟩
theorem Y_Mo_begin : Yw yMo_begin cMo_begin 1 none 0 := ⟨t_680, t_7, by decide +kernel, by decide⟩
theorem V_Mo_begin : YV yMo_begin := ⟨t_679, q_sel (i := 25) rfl (by decide +kernel)⟩
theorem Y_Mo_done : Yw yMo_done cMo_done 4 (some .boolean) 1 := ⟨t_684, t_7, by decide +kernel, by decide⟩
theorem V_Mo_done : YV yMo_done := ⟨t_683, q_sel (i := 26) rfl (by decide +kernel)⟩
theorem Y_Mo_undo : Yw yMo_undo cMo_undo 1 (some .boolean) 0 := ⟨t_660, t_7, by decide +kernel, by decide⟩
theorem V_Mo_undo : YV yMo_undo := ⟨t_658, t_659⟩
theorem Y_Mo_redo : Yw yMo_redo cMo_redo 1 (some .boolean) 0 := ⟨t_672, t_7, by decide +kernel, by decide⟩
theorem V_Mo_redo : YV yMo_redo := ⟨t_670, t_671⟩
theorem Y_Mo_number : Yw yMo_number cMo_number 2 (some .boolean) 1 := ⟨t_676, t_7, by decide +kernel, by decide⟩
theorem V_Mo_number : YV yMo_number := ⟨t_674, t_675⟩
theorem Y_Mo_name : Yw yMo_name cMo_name 2 (some .boolean) 1 := ⟨t_703, t_7, by decide +kernel, by decide⟩
theorem V_Mo_name : YV yMo_name := ⟨t_701, t_702⟩
theorem Y_Mo_pair : Yw yMo_pair cMo_pair 4 (some .boolean) 2 := ⟨t_711, t_7, by decide +kernel, by decide⟩
theorem V_Mo_pair : YV yMo_pair := ⟨t_710, q_sel (i := 30) rfl (by decide +kernel)⟩
theorem Y_Mo_sum : Yw yMo_sum cMo_sum 2 (some .boolean) 1 := ⟨t_707, t_7, by decide +kernel, by decide⟩
theorem V_Mo_sum : YV yMo_sum := ⟨t_705, t_706⟩
theorem Y_Mo_call : Yw yMo_call cMo_call 2 (some .boolean) 1 := ⟨t_723, t_7, by decide +kernel, by decide⟩
theorem V_Mo_call : YV yMo_call := ⟨t_721, t_722⟩
theorem Y_Mo_function : Yw yMo_function cMo_function 4 (some .boolean) 2 := ⟨t_727, t_7, by decide +kernel, by decide⟩
theorem V_Mo_function : YV yMo_function := ⟨t_725, t_726⟩
theorem Y_Mo_claim : Yw yMo_claim cMo_claim 3 (some .boolean) 1 := ⟨t_741, t_7, by decide +kernel, by decide⟩
theorem V_Mo_claim : YV yMo_claim := ⟨t_739, t_740⟩
theorem Y_Mo_remove : Yw yMo_remove cMo_remove 1 (some .boolean) 0 := ⟨t_745, t_7, by decide +kernel, by decide⟩
theorem V_Mo_remove : YV yMo_remove := ⟨t_743, t_744⟩
theorem Y_Mo_lift : Yw yMo_lift cMo_lift 4 (some .boolean) 0 := ⟨t_753, t_7, by decide +kernel, by decide⟩
theorem V_Mo_lift : YV yMo_lift := ⟨t_751, t_752⟩
theorem Y_Mo_up : Yw yMo_up cMo_up 2 (some .boolean) 0 := ⟨t_761, t_7, by decide +kernel, by decide⟩
theorem V_Mo_up : YV yMo_up := ⟨t_759, t_760⟩
theorem Y_Mo_down : Yw yMo_down cMo_down 2 (some .boolean) 1 := ⟨t_765, t_7, by decide +kernel, by decide⟩
theorem V_Mo_down : YV yMo_down := ⟨t_763, t_764⟩
theorem Y_Mo_put : Yw yMo_put cMo_put 3 none 2 := ⟨t_785, t_7, by decide +kernel, by decide⟩
theorem V_Mo_put : YV yMo_put := ⟨t_784, q_sel (i := 38) rfl (by decide +kernel)⟩
theorem Y_Mo_putNumber : Yw yMo_putNumber cMo_putNumber 4 none 2 := ⟨t_789, t_7, by decide +kernel, by decide⟩
theorem V_Mo_putNumber : YV yMo_putNumber := ⟨t_788, q_sel (i := 39) rfl (by decide +kernel)⟩
theorem Y_Mo_putType : Yw yMo_putType cMo_putType 9 none 2 := ⟨t_793, t_7, by decide +kernel, by decide⟩
theorem V_Mo_putType : YV yMo_putType := ⟨t_792, q_sel (i := 40) rfl (by decide +kernel)⟩
theorem Y_Mo_opens : Yw yMo_opens cMo_opens 3 none 1 := ⟨t_781, t_7, by decide +kernel, by decide⟩
theorem V_Mo_opens : YV yMo_opens := ⟨t_780, q_sel (i := 37) rfl (by decide +kernel)⟩
theorem Y_Mo_closes : Yw yMo_closes cMo_closes 2 none 1 := ⟨t_797, t_7, by decide +kernel, by decide⟩
theorem V_Mo_closes : YV yMo_closes := ⟨t_796, q_sel (i := 41) rfl (by decide +kernel)⟩
theorem Y_Mo_spell : Yw yMo_spell cMo_spell 5 none 0 := ⟨t_777, t_7, by decide +kernel, by decide⟩
theorem V_Mo_spell : YV yMo_spell := ⟨t_776, q_sel (i := 36) rfl (by decide +kernel)⟩
theorem Y_Mo_hole : Yw yMo_hole cMo_hole 5 (some .boolean) 0 := ⟨t_773, t_7, by decide +kernel, by decide⟩
theorem V_Mo_hole : YV yMo_hole := ⟨t_771, t_772⟩
theorem Y_Mo_click : Yw yMo_click cMo_click 2 (some .boolean) 1 := ⟨t_801, t_7, by decide +kernel, by decide⟩
theorem V_Mo_click : YV yMo_click := ⟨t_799, t_800⟩
theorem Y_Mo_column : Yw yMo_column cMo_column 1 (some .int) 0 := ⟨t_805, t_7, by decide +kernel, by decide⟩
theorem V_Mo_column : YV yMo_column := ⟨t_803, t_804⟩
theorem Y_Mo_kind : Yw yMo_kind cMo_kind 1 (some .int) 0 := ⟨t_809, t_7, by decide +kernel, by decide⟩
theorem V_Mo_kind : YV yMo_kind := ⟨t_807, t_808⟩
theorem Y_Mo_text : Yw yMo_text cMo_text 5 (some .long) 1 := ⟨t_813, t_7, by decide +kernel, by decide⟩
theorem V_Mo_text : YV yMo_text := ⟨t_811, t_812⟩
theorem Y_Mo_has : Yw yMo_has cMo_has 2 (some .long) 1 := ⟨t_839, t_7, by decide +kernel, by decide⟩
theorem V_Mo_has : YV yMo_has := ⟨t_838, q_sel (i := 44) rfl (by decide +kernel)⟩
theorem Y_Mo_binder : Yw yMo_binder cMo_binder 3 (some .int) 1 := ⟨t_850, t_7, by decide +kernel, by decide⟩
theorem V_Mo_binder : YV yMo_binder := ⟨t_849, q_sel (i := 46) rfl (by decide +kernel)⟩
theorem Y_Mo_gotOf : Yw yMo_gotOf cMo_gotOf 5 (some .long) 1 := ⟨t_846, t_7, by decide +kernel, by decide⟩
theorem V_Mo_gotOf : YV yMo_gotOf := ⟨t_845, q_sel (i := 45) rfl (by decide +kernel)⟩
theorem Y_Mo_markOf : Yw yMo_markOf cMo_markOf 3 (some .int) 1 := ⟨t_857, t_7, by decide +kernel, by decide⟩
theorem V_Mo_markOf : YV yMo_markOf := ⟨t_856, q_sel (i := 47) rfl (by decide +kernel)⟩
theorem Y_Mo_wantedOf : Yw yMo_wantedOf cMo_wantedOf 6 (some .long) 2 := ⟨t_825, t_7, by decide +kernel, by decide⟩
theorem V_Mo_wantedOf : YV yMo_wantedOf := ⟨t_824, q_sel (i := 43) rfl (by decide +kernel)⟩
theorem Y_Mo_type : Yw yMo_type cMo_type 9 none 0 := ⟨t_821, t_7, by decide +kernel, by decide⟩
theorem V_Mo_type : YV yMo_type := ⟨t_820, q_sel (i := 42) rfl (by decide +kernel)⟩
theorem Y_Mo_mark : Yw yMo_mark cMo_mark 1 (some .int) 0 := ⟨t_817, t_7, by decide +kernel, by decide⟩
theorem V_Mo_mark : YV yMo_mark := ⟨t_815, t_816⟩
theorem Y_Mo_got : Yw yMo_got cMo_got 1 (some .long) 0 := ⟨t_864, t_7, by decide +kernel, by decide⟩
theorem V_Mo_got : YV yMo_got := ⟨t_862, t_863⟩
theorem Y_Mo_expected : Yw yMo_expected cMo_expected 1 (some .long) 0 := ⟨t_868, t_7, by decide +kernel, by decide⟩
theorem V_Mo_expected : YV yMo_expected := ⟨t_866, t_867⟩
theorem Y_Mo_marks : Yw yMo_marks cMo_marks 3 (some .int) 0 := ⟨t_872, t_7, by decide +kernel, by decide⟩
theorem V_Mo_marks : YV yMo_marks := ⟨t_870, t_871⟩
theorem Y_Mo_terms : Yw yMo_terms cMo_terms 1 (some .int) 0 := ⟨t_876, t_7, by decide +kernel, by decide⟩
theorem V_Mo_terms : YV yMo_terms := ⟨t_874, t_875⟩
theorem Y_Mo_enter : Yw yMo_enter cMo_enter 3 (some .boolean) 2 := ⟨t_884, t_7, by decide +kernel, by decide⟩
theorem V_Mo_enter : YV yMo_enter := ⟨t_883, q_sel (i := 48) rfl (by decide +kernel)⟩
theorem Y_Mo_value : Yw yMo_value cMo_value 4 none 3 := ⟨t_892, t_7, by decide +kernel, by decide⟩
theorem V_Mo_value : YV yMo_value := ⟨t_891, q_sel (i := 50) rfl (by decide +kernel)⟩
theorem Y_Mo_lookUp : Yw yMo_lookUp cMo_lookUp 4 none 2 := ⟨t_896, t_7, by decide +kernel, by decide⟩
theorem V_Mo_lookUp : YV yMo_lookUp := ⟨t_895, q_sel (i := 51) rfl (by decide +kernel)⟩
theorem Y_Mo_bind : Yw yMo_bind cMo_bind 2 (some .int) 1 := ⟨t_904, t_7, by decide +kernel, by decide⟩
theorem V_Mo_bind : YV yMo_bind := ⟨t_903, q_sel (i := 53) rfl (by decide +kernel)⟩
theorem Y_Mo_isDone : Yw yMo_isDone cMo_isDone 4 (some .boolean) 1 := ⟨t_888, t_7, by decide +kernel, by decide⟩
theorem V_Mo_isDone : YV yMo_isDone := ⟨t_887, q_sel (i := 49) rfl (by decide +kernel)⟩
theorem Y_Mo_second : Yw yMo_second cMo_second 2 (some .boolean) 1 := ⟨t_900, t_7, by decide +kernel, by decide⟩
theorem V_Mo_second : YV yMo_second := ⟨t_899, q_sel (i := 52) rfl (by decide +kernel)⟩
theorem Y_Mo_add : Yw yMo_add cMo_add 3 none 1 := ⟨t_908, t_7, by decide +kernel, by decide⟩
theorem V_Mo_add : YV yMo_add := ⟨t_907, q_sel (i := 54) rfl (by decide +kernel)⟩
theorem Y_Mo_run : Yw yMo_run cMo_run 6 (some .int) 0 := ⟨t_880, t_7, by decide +kernel, by decide⟩
theorem V_Mo_run : YV yMo_run := ⟨t_878, t_879⟩
theorem Y_Mo_result : Yw yMo_result cMo_result 1 (some .int) 0 := ⟨t_912, t_7, by decide +kernel, by decide⟩
theorem V_Mo_result : YV yMo_result := ⟨t_910, t_911⟩
theorem Y_Mo_units : Yw yMo_units cMo_units 1 (some .int) 0 := ⟨t_916, t_7, by decide +kernel, by decide⟩
theorem V_Mo_units : YV yMo_units := ⟨t_914, t_915⟩
theorem N_copy : Cond.native arraycopyName ∈ qw ∧ Cond.static arraycopyName ∈ qw ∧ Cond.initialized "java/lang/System" ∈ qw := ⟨t_200, t_199, t_9⟩
theorem N_max : Cond.static Lib.Math.max.name ∈ qw ∧ Cond.initialized "java/lang/Math" ∈ qw ∧ Cond.code Lib.Math.max.name Lib.Math.max.code 2 (some .int) ∈ qw := ⟨t_233, t_8, qm (i := 234) (by decide +kernel) (by decide +kernel)⟩
theorem N_min : Cond.static Lib.Math.min.name ∈ qw ∧ Cond.initialized "java/lang/Math" ∈ qw ∧ Cond.code Lib.Math.min.name Lib.Math.min.code 2 (some .int) ∈ qw := ⟨t_192, t_8, qm (i := 193) (by decide +kernel) (by decide +kernel)⟩
theorem N_abs : Cond.static Lib.Math.abs.name ∈ qw ∧ Cond.initialized "java/lang/Math" ∈ qw ∧ Cond.code Lib.Math.abs.name Lib.Math.abs.code 1 (some .int) ∈ qw := ⟨t_351, t_8, qm (i := 352) (by decide +kernel) (by decide +kernel)⟩
end
section
/-! 19.arrays, by program: pure functions and contracts -/
theorem dAr_fill_0 : decode cAr_fill 0 = .ok (.iconst 0, 1) := by decide +kernel
theorem dAr_fill_1 : decode cAr_fill 1 = .ok (.istore_n 3, 1) := by decide +kernel
theorem dAr_fill_2 : decode cAr_fill 2 = .ok (.aload_n 0, 1) := by decide +kernel
theorem dAr_fill_3 : decode cAr_fill 3 = .ok (.arraylength, 1) := by decide +kernel
theorem dAr_fill_4 : decode cAr_fill 4 = .ok (.istore 4, 2) := by decide +kernel
theorem dAr_fill_6 : decode cAr_fill 6 = .ok (.iload_n 3, 1) := by decide +kernel
theorem dAr_fill_7 : decode cAr_fill 7 = .ok (.iload 4, 2) := by decide +kernel
theorem dAr_fill_9 : decode cAr_fill 9 = .ok (.if_icmp .ge 13, 3) := by decide +kernel
theorem dAr_fill_12 : decode cAr_fill 12 = .ok (.aload_n 0, 1) := by decide +kernel
theorem dAr_fill_13 : decode cAr_fill 13 = .ok (.iload_n 3, 1) := by decide +kernel
theorem dAr_fill_14 : decode cAr_fill 14 = .ok (.lload_n 1, 1) := by decide +kernel
theorem dAr_fill_15 : decode cAr_fill 15 = .ok (.lastore, 1) := by decide +kernel
theorem dAr_fill_16 : decode cAr_fill 16 = .ok (.iinc 3 1, 3) := by decide +kernel
theorem dAr_fill_19 : decode cAr_fill 19 = .ok (.goto (-13), 3) := by decide +kernel
theorem dAr_fill_22 : decode cAr_fill 22 = .ok (.return_, 1) := by decide +kernel
def f_Ar_fill_L6  (v1 : Int64) (v4 : Int32) (v3 : Int32) (σ : Mem) : Option ((Int32 × Mem) ⊕ (Unit × Mem)) :=
  if v4 ≤ v3 then (
  inrM (some ((), σ)))
  else (
  gd (inb v3 220) (lt_ (sL σ 8 v3.toNatClampNeg v1) fun (σ3 : Mem) =>
  lt_ (v3 + 1) fun (x4 : Int32) =>
  some (.inl (x4, σ3))))
def f_Ar_fill  (v1 : Int64) (σ : Mem) : Option (Unit × Mem) :=
  lt_ (0 : Int32) fun (x5 : Int32) =>
  lt_ (220 : Int32) fun (x6 : Int32) =>
  loopF (fun (q : (Int32 × Mem)) => f_Ar_fill_L6 v1 x6 q.1 q.2) FU (x5, σ)
set_option maxHeartbeats 4000000 in
set_option maxRecDepth 100000 in
theorem c_Ar_fill (l : Launch) (g : Gw) (hg : wInj g) {v1 : Int64} {σ σ0 : Mem} (h : f_Ar_fill v1 σ = some ((), σ0)) : KV l yAr_fill cAr_fill 5 none 0 g [.ref (ad g 8), .long v1] σ σ0 := by
  refine q_met g hg (own := "java/util/Arrays") rfl rfl (Nat.le_of_ble_eq_true rfl) (fun p e s m args below meth c R Q cx hRk hr hQ H locs ls hP hS hl => ?_)
  have hx := cx.1
  have hb := cx.2.1
  have hown := cx.2.2.2.1
  have hts := cx.2.2.2.2.1
  have hl : lv_has ls 5 [(0, .ref (ad g 8)), (1, .long v1)] := hl
  unfold f_Ar_fill at h
  refine lv_iconst (v := 0) hx hb dAr_fill_0 (by decide) ?_
  obtain ⟨x5, ex5, h⟩ := lt_some h
  refine q_nmi ex5 ?_
  refine lv_istore_n (lv' := [(3, .int x5), (0, .ref (ad g 8)), (1, .long v1)]) hx hb dAr_fill_1 rfl hl (Nat.le_of_ble_eq_true rfl) rfl (fun ls hl => ?_)
  refine lv_aload_n hx hb dAr_fill_2 rfl (lv_at hl 1 rfl) ?_
  refine q_alenL (v := 220) cx hP (by decide) (e_8 g) rfl dAr_fill_3 ?_
  obtain ⟨x6, ex6, h⟩ := lt_some h
  refine q_nmi ex6 ?_
  refine lv_istore (lv' := [(4, .int x6), (3, .int x5), (0, .ref (ad g 8)), (1, .long v1)]) hx hb dAr_fill_4 hl (Nat.le_of_ble_eq_true rfl) rfl (fun ls hl => ?_)
  have L6 : ∀ (n : Nat) (v1 : Int64) (v3 : Int32) (v4 : Int32) (σ : Mem), loopF (fun (q : (Int32 × Mem)) => f_Ar_fill_L6 v1 v4 q.1 q.2) n (v3, σ) = some ((), σ0) → ∀ (H : Heap) (locs : List Loc) (ls : Array Slot), lv_has ls 5 [(0, .ref (ad g 8)), (1, .long v1), (3, .int v3), (4, .int v4)] → Wd g σ H → va_S (wA g) s.heap H locs → W p l e R s m args below meth c H locs 0 0 Q (F0 m 6 ls []) := by
    intro n
    induction n with
    | zero => intro v1 v3 v4 σ h; exact (loopF_zero h).elim
    | succ n ih6 =>
      intro v1 v3 v4 σ h H locs ls hl hP hS
      obtain ⟨o6, h, K6, E6⟩ := loopF_succ h
      have h : f_Ar_fill_L6 v1 v4 v3 σ = some o6 := h
      unfold f_Ar_fill_L6 at h
      refine lv_iload_n hx hb dAr_fill_6 rfl (lv_at hl 2 rfl) ?_
      refine lv_iload hx hb dAr_fill_7 (lv_at hl 3 rfl) ?_
      refine lv_icmp_ge (tgt := 22) hx hb dAr_fill_9 (by decide) (fun hc => ?_) (fun hc => ?_)
      · replace h := if_t h hc
        obtain ⟨z1, h, ez1⟩ := inrM_some h
        rw [E6 z1 ez1] at h
        exact q_rv cx hr hP hS hQ h dAr_fill_22
      · replace h := if_f h hc
        refine lv_aload_n hx hb dAr_fill_12 rfl (lv_at hl 0 rfl) ?_
        refine lv_iload_n hx hb dAr_fill_13 rfl (lv_at hl 2 rfl) ?_
        refine lv_lload_n hx hb dAr_fill_14 rfl (lv_at hl 1 rfl) ?_
        obtain ⟨b2, h⟩ := gd_some h
        obtain ⟨σ3, eσ3, h⟩ := lt_some h
        refine q_last cx hP hS (by decide) (e_8 g) b2 dAr_fill_15 eσ3 (fun H locs hP hS => ?_)
        obtain ⟨x4, ex4, h⟩ := lt_some h
        refine lv_iinc (lv' := [(3, .int x4), (0, .ref (ad g 8)), (1, .long v1), (4, .int v4)]) hx hb dAr_fill_16 hl (k := 2) rfl (q_inc ex4 (by decide)) (Nat.le_of_ble_eq_true rfl) rfl (fun ls hl => ?_)
        refine lv_goto (tgt := 6) hx hb dAr_fill_19 (by decide) ?_
        exact ih6 _ _ _ _ (K6 _ (Option.some.inj h).symm) _ _ _ (lv_sub hl [1, 2, 0, 3] rfl) hP hS
  exact L6 _ _ _ _ _ h _ _ _ (lv_sub hl [2, 3, 1, 0] rfl) hP hS
end
section
/-! 20.types, by program: pure functions and contracts -/
theorem dTy_symbols_0 : decode cTy_symbols 0 = .ok (.iconst 1, 1) := by decide +kernel
theorem dTy_symbols_1 : decode cTy_symbols 1 = .ok (.istore_n 2, 1) := by decide +kernel
theorem dTy_symbols_2 : decode cTy_symbols 2 = .ok (.iconst 0, 1) := by decide +kernel
theorem dTy_symbols_3 : decode cTy_symbols 3 = .ok (.istore_n 3, 1) := by decide +kernel
theorem dTy_symbols_4 : decode cTy_symbols 4 = .ok (.iload_n 2, 1) := by decide +kernel
theorem dTy_symbols_5 : decode cTy_symbols 5 = .ok (.ifCond .le 46, 3) := by decide +kernel
theorem dTy_symbols_8 : decode cTy_symbols 8 = .ok (.iload_n 3, 1) := by decide +kernel
theorem dTy_symbols_9 : decode cTy_symbols 9 = .ok (.bipush 27, 2) := by decide +kernel
theorem dTy_symbols_11 : decode cTy_symbols 11 = .ok (.if_icmp .ge 40, 3) := by decide +kernel
theorem dTy_symbols_14 : decode cTy_symbols 14 = .ok (.lload_n 0, 1) := by decide +kernel
theorem dTy_symbols_15 : decode cTy_symbols 15 = .ok (.iconst 2, 1) := by decide +kernel
theorem dTy_symbols_16 : decode cTy_symbols 16 = .ok (.iload_n 3, 1) := by decide +kernel
theorem dTy_symbols_17 : decode cTy_symbols 17 = .ok (.imul, 1) := by decide +kernel
theorem dTy_symbols_18 : decode cTy_symbols 18 = .ok (.lushr, 1) := by decide +kernel
theorem dTy_symbols_19 : decode cTy_symbols 19 = .ok (.l2i, 1) := by decide +kernel
theorem dTy_symbols_20 : decode cTy_symbols 20 = .ok (.iconst 3, 1) := by decide +kernel
theorem dTy_symbols_21 : decode cTy_symbols 21 = .ok (.iand, 1) := by decide +kernel
theorem dTy_symbols_22 : decode cTy_symbols 22 = .ok (.istore 4, 2) := by decide +kernel
theorem dTy_symbols_24 : decode cTy_symbols 24 = .ok (.iload 4, 2) := by decide +kernel
theorem dTy_symbols_26 : decode cTy_symbols 26 = .ok (.ifCond .ne 5, 3) := by decide +kernel
theorem dTy_symbols_29 : decode cTy_symbols 29 = .ok (.iconst 0, 1) := by decide +kernel
theorem dTy_symbols_30 : decode cTy_symbols 30 = .ok (.ireturn, 1) := by decide +kernel
theorem dTy_symbols_31 : decode cTy_symbols 31 = .ok (.iload_n 2, 1) := by decide +kernel
theorem dTy_symbols_32 : decode cTy_symbols 32 = .ok (.iload 4, 2) := by decide +kernel
theorem dTy_symbols_34 : decode cTy_symbols 34 = .ok (.iconst 3, 1) := by decide +kernel
theorem dTy_symbols_35 : decode cTy_symbols 35 = .ok (.if_icmp .ne 7, 3) := by decide +kernel
theorem dTy_symbols_38 : decode cTy_symbols 38 = .ok (.iconst 1, 1) := by decide +kernel
theorem dTy_symbols_39 : decode cTy_symbols 39 = .ok (.goto 4, 3) := by decide +kernel
theorem dTy_symbols_42 : decode cTy_symbols 42 = .ok (.iconst (-1), 1) := by decide +kernel
theorem dTy_symbols_43 : decode cTy_symbols 43 = .ok (.iadd, 1) := by decide +kernel
theorem dTy_symbols_44 : decode cTy_symbols 44 = .ok (.istore_n 2, 1) := by decide +kernel
theorem dTy_symbols_45 : decode cTy_symbols 45 = .ok (.iinc 3 1, 3) := by decide +kernel
theorem dTy_symbols_48 : decode cTy_symbols 48 = .ok (.goto (-44), 3) := by decide +kernel
theorem dTy_symbols_51 : decode cTy_symbols 51 = .ok (.iload_n 2, 1) := by decide +kernel
theorem dTy_symbols_52 : decode cTy_symbols 52 = .ok (.ifCond .ne 7, 3) := by decide +kernel
theorem dTy_symbols_55 : decode cTy_symbols 55 = .ok (.iload_n 3, 1) := by decide +kernel
theorem dTy_symbols_56 : decode cTy_symbols 56 = .ok (.goto 4, 3) := by decide +kernel
theorem dTy_symbols_59 : decode cTy_symbols 59 = .ok (.iconst 0, 1) := by decide +kernel
theorem dTy_symbols_60 : decode cTy_symbols 60 = .ok (.ireturn, 1) := by decide +kernel
def f_Ty_symbols_J60  (v0 : Int64) (v2 : Int32) (v3 : Int32) (u0 : Int32) (σ : Mem) : Option (Int32 × Mem) :=
  some (u0, σ)
def f_Ty_symbols_J51  (v0 : Int64) (v2 : Int32) (v3 : Int32) (σ : Mem) : Option (Int32 × Mem) :=
  if v2 = 0 then (
  f_Ty_symbols_J60 v0 v2 v3 v3 σ)
  else (
  f_Ty_symbols_J60 v0 v2 v3 (0 : Int32) σ)
def f_Ty_symbols_J43  (v0 : Int64) (v2 : Int32) (v3 : Int32) (v4 : Int32) (u0 : Int32) (u1 : Int32) (σ : Mem) : Option ((Int32 × Int32 × Mem) ⊕ (Int32 × Mem)) :=
  lt_ (u0 + u1) fun (x1 : Int32) =>
  lt_ (v3 + 1) fun (x2 : Int32) =>
  some (.inl (x1, x2, σ))
def f_Ty_symbols_L4  (v0 : Int64) (v2 : Int32) (v3 : Int32) (σ : Mem) : Option ((Int32 × Int32 × Mem) ⊕ (Int32 × Mem)) :=
  if v2 ≤ 0 then (
  inrM (f_Ty_symbols_J51 v0 v2 v3 σ))
  else (
  if (27 : Int32) ≤ v3 then (
  inrM (f_Ty_symbols_J51 v0 v2 v3 σ))
  else (
  lt_ ((((v0.toUInt64 >>> (((2 : Int32) * v3).toInt64.toUInt64 &&& Int64.toUInt64 63)).toInt64).toInt32) &&& (3 : Int32)) fun (x5 : Int32) =>
  if x5 = 0 then (
  inrM (some ((0 : Int32), σ)))
  else (
  if x5 = (3 : Int32) then (
  f_Ty_symbols_J43 v0 v2 v3 x5 v2 (1 : Int32) σ)
  else (
  f_Ty_symbols_J43 v0 v2 v3 x5 v2 ((-1) : Int32) σ))))
def f_Ty_symbols  (v0 : Int64) (σ : Mem) : Option (Int32 × Mem) :=
  lt_ (1 : Int32) fun (x7 : Int32) =>
  lt_ (0 : Int32) fun (x8 : Int32) =>
  loopF (fun (q : (Int32 × Int32 × Mem)) => f_Ty_symbols_L4 v0 q.1 q.2.1 q.2.2) FU (x7, x8, σ)
set_option maxHeartbeats 4000000 in
set_option maxRecDepth 100000 in
theorem c_Ty_symbols (l : Launch) (g : Gw) (hg : wInj g) {v0 : Int64} {r0 : Int32} {σ σ0 : Mem} (h : f_Ty_symbols v0 σ = some (r0, σ0)) : KI l yTy_symbols cTy_symbols 5 (some .int) 0 g [.long v0] σ r0 σ0 := by
  refine q_met g hg (own := "TermBench$Types") rfl rfl (Nat.le_of_ble_eq_true rfl) (fun p e s m args below meth c R Q cx hRk hr hQ H locs ls hP hS hl => ?_)
  have hx := cx.1
  have hb := cx.2.1
  have hown := cx.2.2.2.1
  have hts := cx.2.2.2.2.1
  have hl : lv_has ls 5 [(0, .long v0)] := hl
  have J60 : ∀ (v0 : Int64) (v2 : Int32) (v3 : Int32) (u0 : Int32) (σ : Mem), f_Ty_symbols_J60 v0 v2 v3 u0 σ = some (r0, σ0) → ∀ (H : Heap) (locs : List Loc) (ls : Array Slot), lv_has ls 5 [(0, .long v0), (2, .int v2), (3, .int v3)] → Wd g σ H → va_S (wA g) s.heap H locs → W p l e R s m args below meth c H locs 0 0 Q (F0 m 60 ls [.int u0]) := by
    intro v0 v2 v3 u0 σ h H locs ls hl hP hS
    unfold f_Ty_symbols_J60 at h
    exact q_ri cx hr rfl hP hS hQ h dTy_symbols_60
  have J51 : ∀ (v0 : Int64) (v2 : Int32) (v3 : Int32) (σ : Mem), f_Ty_symbols_J51 v0 v2 v3 σ = some (r0, σ0) → ∀ (H : Heap) (locs : List Loc) (ls : Array Slot), lv_has ls 5 [(0, .long v0), (2, .int v2), (3, .int v3)] → Wd g σ H → va_S (wA g) s.heap H locs → W p l e R s m args below meth c H locs 0 0 Q (F0 m 51 ls []) := by
    intro v0 v2 v3 σ h H locs ls hl hP hS
    unfold f_Ty_symbols_J51 at h
    refine lv_iload_n hx hb dTy_symbols_51 rfl (lv_at hl 1 rfl) ?_
    refine lv_if_ne (tgt := 59) hx hb dTy_symbols_52 (by decide) (fun hc => ?_) (fun hc => ?_)
    · replace h := if_f h hc
      refine lv_iconst (v := 0) hx hb dTy_symbols_59 (by decide) ?_
      exact J60 _ _ _ _ _ h _ _ _ (lv_sub hl [0, 1, 2] rfl) hP hS
    · replace h := if_t h hc
      refine lv_iload_n hx hb dTy_symbols_55 rfl (lv_at hl 2 rfl) ?_
      refine lv_goto (tgt := 60) hx hb dTy_symbols_56 (by decide) ?_
      exact J60 _ _ _ _ _ h _ _ _ (lv_sub hl [0, 1, 2] rfl) hP hS
  unfold f_Ty_symbols at h
  refine lv_iconst (v := 1) hx hb dTy_symbols_0 (by decide) ?_
  obtain ⟨x7, ex7, h⟩ := lt_some h
  refine q_nmi ex7 ?_
  refine lv_istore_n (lv' := [(2, .int x7), (0, .long v0)]) hx hb dTy_symbols_1 rfl hl (Nat.le_of_ble_eq_true rfl) rfl (fun ls hl => ?_)
  refine lv_iconst (v := 0) hx hb dTy_symbols_2 (by decide) ?_
  obtain ⟨x8, ex8, h⟩ := lt_some h
  refine q_nmi ex8 ?_
  refine lv_istore_n (lv' := [(3, .int x8), (2, .int x7), (0, .long v0)]) hx hb dTy_symbols_3 rfl hl (Nat.le_of_ble_eq_true rfl) rfl (fun ls hl => ?_)
  have L4 : ∀ (n : Nat) (v0 : Int64) (v2 : Int32) (v3 : Int32) (σ : Mem), loopF (fun (q : (Int32 × Int32 × Mem)) => f_Ty_symbols_L4 v0 q.1 q.2.1 q.2.2) n (v2, v3, σ) = some (r0, σ0) → ∀ (H : Heap) (locs : List Loc) (ls : Array Slot), lv_has ls 5 [(0, .long v0), (2, .int v2), (3, .int v3)] → Wd g σ H → va_S (wA g) s.heap H locs → W p l e R s m args below meth c H locs 0 0 Q (F0 m 4 ls []) := by
    intro n
    induction n with
    | zero => intro v0 v2 v3 σ h; exact (loopF_zero h).elim
    | succ n ih4 =>
      intro v0 v2 v3 σ h H locs ls hl hP hS
      obtain ⟨o4, h, K4, E4⟩ := loopF_succ h
      have h : f_Ty_symbols_L4 v0 v2 v3 σ = some o4 := h
      have J43 : ∀ (v2 : Int32) (v3 : Int32) (v4 : Int32) (u0 : Int32) (u1 : Int32) (σ : Mem), f_Ty_symbols_J43 v0 v2 v3 v4 u0 u1 σ = some o4 → ∀ (H : Heap) (locs : List Loc) (ls : Array Slot), lv_has ls 5 [(0, .long v0), (2, .int v2), (3, .int v3), (4, .int v4)] → Wd g σ H → va_S (wA g) s.heap H locs → W p l e R s m args below meth c H locs 0 0 Q (F0 m 43 ls [.int u1, .int u0]) := by
        intro v2 v3 v4 u0 u1 σ h H locs ls hl hP hS
        unfold f_Ty_symbols_J43 at h
        refine lv_iadd hx hb dTy_symbols_43 ?_
        obtain ⟨x1, ex1, h⟩ := lt_some h
        refine q_nmi ex1 ?_
        refine lv_istore_n (lv' := [(2, .int x1), (0, .long v0), (3, .int v3), (4, .int v4)]) hx hb dTy_symbols_44 rfl hl (Nat.le_of_ble_eq_true rfl) rfl (fun ls hl => ?_)
        obtain ⟨x2, ex2, h⟩ := lt_some h
        refine lv_iinc (lv' := [(3, .int x2), (2, .int x1), (0, .long v0), (4, .int v4)]) hx hb dTy_symbols_45 hl (k := 2) rfl (q_inc ex2 (by decide)) (Nat.le_of_ble_eq_true rfl) rfl (fun ls hl => ?_)
        refine lv_goto (tgt := 4) hx hb dTy_symbols_48 (by decide) ?_
        exact ih4 _ _ _ _ (K4 _ (Option.some.inj h).symm) _ _ _ (lv_sub hl [2, 1, 0] rfl) hP hS
      unfold f_Ty_symbols_L4 at h
      refine lv_iload_n hx hb dTy_symbols_4 rfl (lv_at hl 1 rfl) ?_
      refine lv_if_le (tgt := 51) hx hb dTy_symbols_5 (by decide) (fun hc => ?_) (fun hc => ?_)
      · replace h := if_t h hc
        obtain ⟨z3, h, ez3⟩ := inrM_some h
        rw [E4 z3 ez3] at h
        exact J51 _ _ _ _ h _ _ _ (lv_sub hl [0, 1, 2] rfl) hP hS
      · replace h := if_f h hc
        refine lv_iload_n hx hb dTy_symbols_8 rfl (lv_at hl 2 rfl) ?_
        refine lv_bipush (v := 27) hx hb dTy_symbols_9 (by decide) ?_
        refine lv_icmp_ge (tgt := 51) hx hb dTy_symbols_11 (by decide) (fun hc => ?_) (fun hc => ?_)
        · replace h := if_t h hc
          obtain ⟨z4, h, ez4⟩ := inrM_some h
          rw [E4 z4 ez4] at h
          exact J51 _ _ _ _ h _ _ _ (lv_sub hl [0, 1, 2] rfl) hP hS
        · replace h := if_f h hc
          refine lv_lload_n hx hb dTy_symbols_14 rfl (lv_at hl 0 rfl) ?_
          refine lv_iconst (v := 2) hx hb dTy_symbols_15 (by decide) ?_
          refine lv_iload_n hx hb dTy_symbols_16 rfl (lv_at hl 2 rfl) ?_
          refine lv_imul hx hb dTy_symbols_17 ?_
          refine lv_lushr hx hb dTy_symbols_18 rfl ?_
          refine lv_l2i hx hb dTy_symbols_19 rfl ?_
          refine lv_iconst (v := 3) hx hb dTy_symbols_20 (by decide) ?_
          refine lv_iand hx hb dTy_symbols_21 ?_
          obtain ⟨x5, ex5, h⟩ := lt_some h
          refine q_nmi ex5 ?_
          refine lv_istore (lv' := [(4, .int x5), (0, .long v0), (2, .int v2), (3, .int v3)]) hx hb dTy_symbols_22 hl (Nat.le_of_ble_eq_true rfl) rfl (fun ls hl => ?_)
          refine lv_iload hx hb dTy_symbols_24 (lv_at hl 0 rfl) ?_
          refine lv_if_ne (tgt := 31) hx hb dTy_symbols_26 (by decide) (fun hc => ?_) (fun hc => ?_)
          · replace h := if_f h hc
            refine lv_iload_n hx hb dTy_symbols_31 rfl (lv_at hl 2 rfl) ?_
            refine lv_iload hx hb dTy_symbols_32 (lv_at hl 0 rfl) ?_
            refine lv_iconst (v := 3) hx hb dTy_symbols_34 (by decide) ?_
            refine lv_icmp_ne (tgt := 42) hx hb dTy_symbols_35 (by decide) (fun hc => ?_) (fun hc => ?_)
            · replace h := if_f h hc
              refine lv_iconst (v := (-1)) hx hb dTy_symbols_42 (by decide) ?_
              exact J43 _ _ _ _ _ _ h _ _ _ (lv_sub hl [1, 2, 3, 0] rfl) hP hS
            · replace h := if_t h hc
              refine lv_iconst (v := 1) hx hb dTy_symbols_38 (by decide) ?_
              refine lv_goto (tgt := 43) hx hb dTy_symbols_39 (by decide) ?_
              exact J43 _ _ _ _ _ _ h _ _ _ (lv_sub hl [1, 2, 3, 0] rfl) hP hS
          · replace h := if_t h hc
            obtain ⟨z6, h, ez6⟩ := inrM_some h
            rw [E4 z6 ez6] at h
            refine lv_iconst (v := 0) hx hb dTy_symbols_29 (by decide) ?_
            exact q_ri cx hr rfl hP hS hQ h dTy_symbols_30
  exact L4 _ _ _ _ _ h _ _ _ (lv_sub hl [2, 1, 0] rfl) hP hS
theorem dTy_isType_0 : decode cTy_isType 0 = .ok (.lload_n 0, 1) := by decide +kernel
theorem dTy_isType_1 : decode cTy_isType 1 = .ok (.invokestatic 11, 3) := by decide +kernel
theorem dTy_isType_4 : decode cTy_isType 4 = .ok (.istore_n 2, 1) := by decide +kernel
theorem dTy_isType_5 : decode cTy_isType 5 = .ok (.iload_n 2, 1) := by decide +kernel
theorem dTy_isType_6 : decode cTy_isType 6 = .ok (.ifCond .le 17, 3) := by decide +kernel
theorem dTy_isType_9 : decode cTy_isType 9 = .ok (.lload_n 0, 1) := by decide +kernel
theorem dTy_isType_10 : decode cTy_isType 10 = .ok (.iconst 2, 1) := by decide +kernel
theorem dTy_isType_11 : decode cTy_isType 11 = .ok (.iload_n 2, 1) := by decide +kernel
theorem dTy_isType_12 : decode cTy_isType 12 = .ok (.imul, 1) := by decide +kernel
theorem dTy_isType_13 : decode cTy_isType 13 = .ok (.lushr, 1) := by decide +kernel
theorem dTy_isType_14 : decode cTy_isType 14 = .ok (.lconst 0, 1) := by decide +kernel
theorem dTy_isType_15 : decode cTy_isType 15 = .ok (.lcmp, 1) := by decide +kernel
theorem dTy_isType_16 : decode cTy_isType 16 = .ok (.ifCond .ne 7, 3) := by decide +kernel
theorem dTy_isType_19 : decode cTy_isType 19 = .ok (.iconst 1, 1) := by decide +kernel
theorem dTy_isType_20 : decode cTy_isType 20 = .ok (.goto 4, 3) := by decide +kernel
theorem dTy_isType_23 : decode cTy_isType 23 = .ok (.iconst 0, 1) := by decide +kernel
theorem dTy_isType_24 : decode cTy_isType 24 = .ok (.ireturn, 1) := by decide +kernel
def f_Ty_isType_J24  (v0 : Int64) (v2 : Int32) (u0 : Int32) (σ : Mem) : Option (Int32 × Mem) :=
  gd (isB u0) (some (u0, σ))
def f_Ty_isType_J23  (v0 : Int64) (v2 : Int32) (σ : Mem) : Option (Int32 × Mem) :=
  f_Ty_isType_J24 v0 v2 (0 : Int32) σ
def f_Ty_isType  (v0 : Int64) (σ : Mem) : Option (Int32 × Mem) :=
  bn (f_Ty_symbols v0 σ) fun (r4 : Int32) (σ3 : Mem) =>
  if r4 ≤ 0 then (
  f_Ty_isType_J23 v0 r4 σ3)
  else (
  if (lg_cmp ((v0.toUInt64 >>> (((2 : Int32) * r4).toInt64.toUInt64 &&& Int64.toUInt64 63)).toInt64) (0 : Int64)) = 0 then (
  f_Ty_isType_J24 v0 r4 (1 : Int32) σ3)
  else (
  f_Ty_isType_J23 v0 r4 σ3))
set_option maxHeartbeats 4000000 in
set_option maxRecDepth 100000 in
theorem c_Ty_isType (l : Launch) (g : Gw) (hg : wInj g) {v0 : Int64} {r0 : Int32} {σ σ0 : Mem} (h : f_Ty_isType v0 σ = some (r0, σ0)) : KI l yTy_isType cTy_isType 3 (some .boolean) 1 g [.long v0] σ r0 σ0 := by
  refine q_met g hg (own := "TermBench$Types") rfl rfl (Nat.le_of_ble_eq_true rfl) (fun p e s m args below meth c R Q cx hRk hr hQ H locs ls hP hS hl => ?_)
  have hx := cx.1
  have hb := cx.2.1
  have hown := cx.2.2.2.1
  have hts := cx.2.2.2.2.1
  have hl : lv_has ls 3 [(0, .long v0)] := hl
  have J24 : ∀ (v0 : Int64) (v2 : Int32) (u0 : Int32) (σ : Mem), f_Ty_isType_J24 v0 v2 u0 σ = some (r0, σ0) → ∀ (H : Heap) (locs : List Loc) (ls : Array Slot), lv_has ls 3 [(0, .long v0), (2, .int v2)] → Wd g σ H → va_S (wA g) s.heap H locs → W p l e R s m args below meth c H locs 0 0 Q (F0 m 24 ls [.int u0]) := by
    intro v0 v2 u0 σ h H locs ls hl hP hS
    unfold f_Ty_isType_J24 at h
    obtain ⟨b1, h⟩ := gd_some h
    exact q_ri cx hr (isB_n b1) hP hS hQ h dTy_isType_24
  have J23 : ∀ (v0 : Int64) (v2 : Int32) (σ : Mem), f_Ty_isType_J23 v0 v2 σ = some (r0, σ0) → ∀ (H : Heap) (locs : List Loc) (ls : Array Slot), lv_has ls 3 [(0, .long v0), (2, .int v2)] → Wd g σ H → va_S (wA g) s.heap H locs → W p l e R s m args below meth c H locs 0 0 Q (F0 m 23 ls []) := by
    intro v0 v2 σ h H locs ls hl hP hS
    unfold f_Ty_isType_J23 at h
    refine lv_iconst (v := 0) hx hb dTy_isType_23 (by decide) ?_
    exact J24 _ _ _ _ h _ _ _ (lv_sub hl [0, 1] rfl) hP hS
  unfold f_Ty_isType at h
  refine lv_lload_n hx hb dTy_isType_0 rfl (lv_at hl 0 rfl) ?_
  obtain ⟨r4, σ3, h2, h⟩ := bn_some h
  refine q_cSi (rest := []) (As := [.long v0]) cx hP hS hRk (c_Ty_symbols l g hg h2) Y_Ty_symbols S_Ty_symbols t_266 (by decide) rfl hl.1 rfl (Nat.le_of_ble_eq_true rfl) dTy_isType_1 (fun H locs hP hS => ?_)
  refine lv_istore_n (lv' := [(2, .int r4), (0, .long v0)]) hx hb dTy_isType_4 rfl hl (Nat.le_of_ble_eq_true rfl) rfl (fun ls hl => ?_)
  refine lv_iload_n hx hb dTy_isType_5 rfl (lv_at hl 0 rfl) ?_
  refine lv_if_le (tgt := 23) hx hb dTy_isType_6 (by decide) (fun hc => ?_) (fun hc => ?_)
  · replace h := if_t h hc
    exact J23 _ _ _ h _ _ _ (lv_sub hl [1, 0] rfl) hP hS
  · replace h := if_f h hc
    refine lv_lload_n hx hb dTy_isType_9 rfl (lv_at hl 1 rfl) ?_
    refine lv_iconst (v := 2) hx hb dTy_isType_10 (by decide) ?_
    refine lv_iload_n hx hb dTy_isType_11 rfl (lv_at hl 0 rfl) ?_
    refine lv_imul hx hb dTy_isType_12 ?_
    refine lv_lushr hx hb dTy_isType_13 rfl ?_
    refine lv_lconst (v := 0) hx hb dTy_isType_14 rfl ?_
    refine W.lcmp hx hb dTy_isType_15 ?_
    refine lv_if_ne (tgt := 23) hx hb dTy_isType_16 (by decide) (fun hc => ?_) (fun hc => ?_)
    · replace h := if_f h hc
      exact J23 _ _ _ h _ _ _ (lv_sub hl [1, 0] rfl) hP hS
    · replace h := if_t h hc
      refine lv_iconst (v := 1) hx hb dTy_isType_19 (by decide) ?_
      refine lv_goto (tgt := 24) hx hb dTy_isType_20 (by decide) ?_
      exact J24 _ _ _ _ h _ _ _ (lv_sub hl [1, 0] rfl) hP hS
theorem dTy_isFrom_0 : decode cTy_isFrom 0 = .ok (.lload_n 0, 1) := by decide +kernel
theorem dTy_isFrom_1 : decode cTy_isFrom 1 = .ok (.ldc2_w 15, 3) := by decide +kernel
theorem dTy_isFrom_4 : decode cTy_isFrom 4 = .ok (.land, 1) := by decide +kernel
theorem dTy_isFrom_5 : decode cTy_isFrom 5 = .ok (.ldc2_w 15, 3) := by decide +kernel
theorem dTy_isFrom_8 : decode cTy_isFrom 8 = .ok (.lcmp, 1) := by decide +kernel
theorem dTy_isFrom_9 : decode cTy_isFrom 9 = .ok (.ifCond .ne 7, 3) := by decide +kernel
theorem dTy_isFrom_12 : decode cTy_isFrom 12 = .ok (.iconst 1, 1) := by decide +kernel
theorem dTy_isFrom_13 : decode cTy_isFrom 13 = .ok (.goto 4, 3) := by decide +kernel
theorem dTy_isFrom_16 : decode cTy_isFrom 16 = .ok (.iconst 0, 1) := by decide +kernel
theorem dTy_isFrom_17 : decode cTy_isFrom 17 = .ok (.ireturn, 1) := by decide +kernel
def f_Ty_isFrom_J17  (v0 : Int64) (u0 : Int32) (σ : Mem) : Option (Int32 × Mem) :=
  gd (isB u0) (some (u0, σ))
def f_Ty_isFrom  (v0 : Int64) (σ : Mem) : Option (Int32 × Mem) :=
  if (lg_cmp (v0 &&& (3 : Int64)) (3 : Int64)) = 0 then (
  f_Ty_isFrom_J17 v0 (1 : Int32) σ)
  else (
  f_Ty_isFrom_J17 v0 (0 : Int32) σ)
set_option maxHeartbeats 4000000 in
set_option maxRecDepth 100000 in
theorem c_Ty_isFrom (l : Launch) (g : Gw) (hg : wInj g) {v0 : Int64} {r0 : Int32} {σ σ0 : Mem} (h : f_Ty_isFrom v0 σ = some (r0, σ0)) : KI l yTy_isFrom cTy_isFrom 2 (some .boolean) 0 g [.long v0] σ r0 σ0 := by
  refine q_met g hg (own := "TermBench$Types") rfl rfl (Nat.le_of_ble_eq_true rfl) (fun p e s m args below meth c R Q cx hRk hr hQ H locs ls hP hS hl => ?_)
  have hx := cx.1
  have hb := cx.2.1
  have hown := cx.2.2.2.1
  have hts := cx.2.2.2.2.1
  have hl : lv_has ls 2 [(0, .long v0)] := hl
  have J17 : ∀ (v0 : Int64) (u0 : Int32) (σ : Mem), f_Ty_isFrom_J17 v0 u0 σ = some (r0, σ0) → ∀ (H : Heap) (locs : List Loc) (ls : Array Slot), lv_has ls 2 [(0, .long v0)] → Wd g σ H → va_S (wA g) s.heap H locs → W p l e R s m args below meth c H locs 0 0 Q (F0 m 17 ls [.int u0]) := by
    intro v0 u0 σ h H locs ls hl hP hS
    unfold f_Ty_isFrom_J17 at h
    obtain ⟨b1, h⟩ := gd_some h
    exact q_ri cx hr (isB_n b1) hP hS hQ h dTy_isFrom_17
  unfold f_Ty_isFrom at h
  refine lv_lload_n hx hb dTy_isFrom_0 rfl (lv_at hl 0 rfl) ?_
  refine lv_ldc2 (own := "TermBench$Types") (index := 15) (v := 3) hx hb hown (hts _ t_374) dTy_isFrom_1 ?_
  refine lv_land hx hb dTy_isFrom_4 ?_
  refine lv_ldc2 (own := "TermBench$Types") (index := 15) (v := 3) hx hb hown (hts _ t_374) dTy_isFrom_5 ?_
  refine W.lcmp hx hb dTy_isFrom_8 ?_
  refine lv_if_ne (tgt := 16) hx hb dTy_isFrom_9 (by decide) (fun hc => ?_) (fun hc => ?_)
  · replace h := if_f h hc
    refine lv_iconst (v := 0) hx hb dTy_isFrom_16 (by decide) ?_
    exact J17 _ _ _ h _ _ _ (lv_sub hl [0] rfl) hP hS
  · replace h := if_t h hc
    refine lv_iconst (v := 1) hx hb dTy_isFrom_12 (by decide) ?_
    refine lv_goto (tgt := 17) hx hb dTy_isFrom_13 (by decide) ?_
    exact J17 _ _ _ h _ _ _ (lv_sub hl [0] rfl) hP hS
theorem dTy_taken_0 : decode cTy_taken 0 = .ok (.lload_n 0, 1) := by decide +kernel
theorem dTy_taken_1 : decode cTy_taken 1 = .ok (.iconst 2, 1) := by decide +kernel
theorem dTy_taken_2 : decode cTy_taken 2 = .ok (.lushr, 1) := by decide +kernel
theorem dTy_taken_3 : decode cTy_taken 3 = .ok (.lstore_n 2, 1) := by decide +kernel
theorem dTy_taken_4 : decode cTy_taken 4 = .ok (.lload_n 2, 1) := by decide +kernel
theorem dTy_taken_5 : decode cTy_taken 5 = .ok (.lconst 1, 1) := by decide +kernel
theorem dTy_taken_6 : decode cTy_taken 6 = .ok (.iconst 2, 1) := by decide +kernel
theorem dTy_taken_7 : decode cTy_taken 7 = .ok (.lload_n 2, 1) := by decide +kernel
theorem dTy_taken_8 : decode cTy_taken 8 = .ok (.invokestatic 11, 3) := by decide +kernel
theorem dTy_taken_11 : decode cTy_taken 11 = .ok (.imul, 1) := by decide +kernel
theorem dTy_taken_12 : decode cTy_taken 12 = .ok (.lshl, 1) := by decide +kernel
theorem dTy_taken_13 : decode cTy_taken 13 = .ok (.lconst 1, 1) := by decide +kernel
theorem dTy_taken_14 : decode cTy_taken 14 = .ok (.lsub, 1) := by decide +kernel
theorem dTy_taken_15 : decode cTy_taken 15 = .ok (.land, 1) := by decide +kernel
theorem dTy_taken_16 : decode cTy_taken 16 = .ok (.lreturn, 1) := by decide +kernel
def f_Ty_taken  (v0 : Int64) (σ : Mem) : Option (Int64 × Mem) :=
  lt_ ((v0.toUInt64 >>> ((2 : Int32).toInt64.toUInt64 &&& Int64.toUInt64 63)).toInt64) fun (x1 : Int64) =>
  bn (f_Ty_symbols x1 σ) fun (r4 : Int32) (σ3 : Mem) =>
  some (x1 &&& (((1 : Int64) <<< (((2 : Int32) * r4).toInt64 &&& 63)) - (1 : Int64)), σ3)
set_option maxHeartbeats 4000000 in
set_option maxRecDepth 100000 in
theorem c_Ty_taken (l : Launch) (g : Gw) (hg : wInj g) {v0 : Int64} {r0 : Int64} {σ σ0 : Mem} (h : f_Ty_taken v0 σ = some (r0, σ0)) : KL l yTy_taken cTy_taken 4 (some .long) 1 g [.long v0] σ r0 σ0 := by
  refine q_met g hg (own := "TermBench$Types") rfl rfl (Nat.le_of_ble_eq_true rfl) (fun p e s m args below meth c R Q cx hRk hr hQ H locs ls hP hS hl => ?_)
  have hx := cx.1
  have hb := cx.2.1
  have hown := cx.2.2.2.1
  have hts := cx.2.2.2.2.1
  have hl : lv_has ls 4 [(0, .long v0)] := hl
  unfold f_Ty_taken at h
  refine lv_lload_n hx hb dTy_taken_0 rfl (lv_at hl 0 rfl) ?_
  refine lv_iconst (v := 2) hx hb dTy_taken_1 (by decide) ?_
  refine lv_lushr hx hb dTy_taken_2 rfl ?_
  obtain ⟨x1, ex1, h⟩ := lt_some h
  refine q_nml ex1 ?_
  refine lv_lstore_n (lv' := [(2, .long x1), (0, .long v0)]) hx hb dTy_taken_3 rfl hl (Nat.le_of_ble_eq_true rfl) rfl (fun ls hl => ?_)
  refine lv_lload_n hx hb dTy_taken_4 rfl (lv_at hl 0 rfl) ?_
  refine lv_lconst (v := 1) hx hb dTy_taken_5 rfl ?_
  refine lv_iconst (v := 2) hx hb dTy_taken_6 (by decide) ?_
  refine lv_lload_n hx hb dTy_taken_7 rfl (lv_at hl 0 rfl) ?_
  obtain ⟨r4, σ3, h2, h⟩ := bn_some h
  refine q_cSi (rest := [.int (2 : Int32), .long (1 : Int64), .long x1]) (As := [.long x1]) cx hP hS hRk (c_Ty_symbols l g hg h2) Y_Ty_symbols S_Ty_symbols t_266 (by decide) rfl hl.1 rfl (Nat.le_of_ble_eq_true rfl) dTy_taken_8 (fun H locs hP hS => ?_)
  refine lv_imul hx hb dTy_taken_11 ?_
  refine lv_lshl hx hb dTy_taken_12 rfl ?_
  refine lv_lconst (v := 1) hx hb dTy_taken_13 rfl ?_
  refine lv_lsub hx hb dTy_taken_14 ?_
  refine lv_land hx hb dTy_taken_15 ?_
  exact q_rl cx hr hP hS hQ h dTy_taken_16
theorem dTy_given_0 : decode cTy_given 0 = .ok (.lload_n 0, 1) := by decide +kernel
theorem dTy_given_1 : decode cTy_given 1 = .ok (.iconst 2, 1) := by decide +kernel
theorem dTy_given_2 : decode cTy_given 2 = .ok (.lushr, 1) := by decide +kernel
theorem dTy_given_3 : decode cTy_given 3 = .ok (.lstore_n 2, 1) := by decide +kernel
theorem dTy_given_4 : decode cTy_given 4 = .ok (.lload_n 2, 1) := by decide +kernel
theorem dTy_given_5 : decode cTy_given 5 = .ok (.iconst 2, 1) := by decide +kernel
theorem dTy_given_6 : decode cTy_given 6 = .ok (.lload_n 2, 1) := by decide +kernel
theorem dTy_given_7 : decode cTy_given 7 = .ok (.invokestatic 11, 3) := by decide +kernel
theorem dTy_given_10 : decode cTy_given 10 = .ok (.imul, 1) := by decide +kernel
theorem dTy_given_11 : decode cTy_given 11 = .ok (.lushr, 1) := by decide +kernel
theorem dTy_given_12 : decode cTy_given 12 = .ok (.lreturn, 1) := by decide +kernel
def f_Ty_given  (v0 : Int64) (σ : Mem) : Option (Int64 × Mem) :=
  lt_ ((v0.toUInt64 >>> ((2 : Int32).toInt64.toUInt64 &&& Int64.toUInt64 63)).toInt64) fun (x1 : Int64) =>
  bn (f_Ty_symbols x1 σ) fun (r4 : Int32) (σ3 : Mem) =>
  some ((x1.toUInt64 >>> (((2 : Int32) * r4).toInt64.toUInt64 &&& Int64.toUInt64 63)).toInt64, σ3)
set_option maxHeartbeats 4000000 in
set_option maxRecDepth 100000 in
theorem c_Ty_given (l : Launch) (g : Gw) (hg : wInj g) {v0 : Int64} {r0 : Int64} {σ σ0 : Mem} (h : f_Ty_given v0 σ = some (r0, σ0)) : KL l yTy_given cTy_given 4 (some .long) 1 g [.long v0] σ r0 σ0 := by
  refine q_met g hg (own := "TermBench$Types") rfl rfl (Nat.le_of_ble_eq_true rfl) (fun p e s m args below meth c R Q cx hRk hr hQ H locs ls hP hS hl => ?_)
  have hx := cx.1
  have hb := cx.2.1
  have hown := cx.2.2.2.1
  have hts := cx.2.2.2.2.1
  have hl : lv_has ls 4 [(0, .long v0)] := hl
  unfold f_Ty_given at h
  refine lv_lload_n hx hb dTy_given_0 rfl (lv_at hl 0 rfl) ?_
  refine lv_iconst (v := 2) hx hb dTy_given_1 (by decide) ?_
  refine lv_lushr hx hb dTy_given_2 rfl ?_
  obtain ⟨x1, ex1, h⟩ := lt_some h
  refine q_nml ex1 ?_
  refine lv_lstore_n (lv' := [(2, .long x1), (0, .long v0)]) hx hb dTy_given_3 rfl hl (Nat.le_of_ble_eq_true rfl) rfl (fun ls hl => ?_)
  refine lv_lload_n hx hb dTy_given_4 rfl (lv_at hl 0 rfl) ?_
  refine lv_iconst (v := 2) hx hb dTy_given_5 (by decide) ?_
  refine lv_lload_n hx hb dTy_given_6 rfl (lv_at hl 0 rfl) ?_
  obtain ⟨r4, σ3, h2, h⟩ := bn_some h
  refine q_cSi (rest := [.int (2 : Int32), .long x1]) (As := [.long x1]) cx hP hS hRk (c_Ty_symbols l g hg h2) Y_Ty_symbols S_Ty_symbols t_266 (by decide) rfl hl.1 rfl (Nat.le_of_ble_eq_true rfl) dTy_given_7 (fun H locs hP hS => ?_)
  refine lv_imul hx hb dTy_given_10 ?_
  refine lv_lushr hx hb dTy_given_11 rfl ?_
  exact q_rl cx hr hP hS hQ h dTy_given_12
theorem dTy_consistent_0 : decode cTy_consistent 0 = .ok (.lload_n 0, 1) := by decide +kernel
theorem dTy_consistent_1 : decode cTy_consistent 1 = .ok (.lconst 1, 1) := by decide +kernel
theorem dTy_consistent_2 : decode cTy_consistent 2 = .ok (.lcmp, 1) := by decide +kernel
theorem dTy_consistent_3 : decode cTy_consistent 3 = .ok (.ifCond .eq 16, 3) := by decide +kernel
theorem dTy_consistent_6 : decode cTy_consistent 6 = .ok (.lload_n 2, 1) := by decide +kernel
theorem dTy_consistent_7 : decode cTy_consistent 7 = .ok (.lconst 1, 1) := by decide +kernel
theorem dTy_consistent_8 : decode cTy_consistent 8 = .ok (.lcmp, 1) := by decide +kernel
theorem dTy_consistent_9 : decode cTy_consistent 9 = .ok (.ifCond .eq 10, 3) := by decide +kernel
theorem dTy_consistent_12 : decode cTy_consistent 12 = .ok (.iload 4, 2) := by decide +kernel
theorem dTy_consistent_14 : decode cTy_consistent 14 = .ok (.bipush 27, 2) := by decide +kernel
theorem dTy_consistent_16 : decode cTy_consistent 16 = .ok (.if_icmp .lt 5, 3) := by decide +kernel
theorem dTy_consistent_19 : decode cTy_consistent 19 = .ok (.iconst 1, 1) := by decide +kernel
theorem dTy_consistent_20 : decode cTy_consistent 20 = .ok (.ireturn, 1) := by decide +kernel
theorem dTy_consistent_21 : decode cTy_consistent 21 = .ok (.lload_n 0, 1) := by decide +kernel
theorem dTy_consistent_22 : decode cTy_consistent 22 = .ok (.invokestatic 17, 3) := by decide +kernel
theorem dTy_consistent_25 : decode cTy_consistent 25 = .ok (.ifCond .eq 10, 3) := by decide +kernel
theorem dTy_consistent_28 : decode cTy_consistent 28 = .ok (.lload_n 2, 1) := by decide +kernel
theorem dTy_consistent_29 : decode cTy_consistent 29 = .ok (.invokestatic 17, 3) := by decide +kernel
theorem dTy_consistent_32 : decode cTy_consistent 32 = .ok (.ifCond .ne 15, 3) := by decide +kernel
theorem dTy_consistent_35 : decode cTy_consistent 35 = .ok (.lload_n 0, 1) := by decide +kernel
theorem dTy_consistent_36 : decode cTy_consistent 36 = .ok (.lload_n 2, 1) := by decide +kernel
theorem dTy_consistent_37 : decode cTy_consistent 37 = .ok (.lcmp, 1) := by decide +kernel
theorem dTy_consistent_38 : decode cTy_consistent 38 = .ok (.ifCond .ne 7, 3) := by decide +kernel
theorem dTy_consistent_41 : decode cTy_consistent 41 = .ok (.iconst 1, 1) := by decide +kernel
theorem dTy_consistent_42 : decode cTy_consistent 42 = .ok (.goto 4, 3) := by decide +kernel
theorem dTy_consistent_45 : decode cTy_consistent 45 = .ok (.iconst 0, 1) := by decide +kernel
theorem dTy_consistent_46 : decode cTy_consistent 46 = .ok (.ireturn, 1) := by decide +kernel
theorem dTy_consistent_47 : decode cTy_consistent 47 = .ok (.lload_n 0, 1) := by decide +kernel
theorem dTy_consistent_48 : decode cTy_consistent 48 = .ok (.invokestatic 21, 3) := by decide +kernel
theorem dTy_consistent_51 : decode cTy_consistent 51 = .ok (.lload_n 2, 1) := by decide +kernel
theorem dTy_consistent_52 : decode cTy_consistent 52 = .ok (.invokestatic 21, 3) := by decide +kernel
theorem dTy_consistent_55 : decode cTy_consistent 55 = .ok (.iload 4, 2) := by decide +kernel
theorem dTy_consistent_57 : decode cTy_consistent 57 = .ok (.iconst 1, 1) := by decide +kernel
theorem dTy_consistent_58 : decode cTy_consistent 58 = .ok (.iadd, 1) := by decide +kernel
theorem dTy_consistent_59 : decode cTy_consistent 59 = .ok (.invokestatic 25, 3) := by decide +kernel
theorem dTy_consistent_62 : decode cTy_consistent 62 = .ok (.ifCond .eq 25, 3) := by decide +kernel
theorem dTy_consistent_65 : decode cTy_consistent 65 = .ok (.lload_n 0, 1) := by decide +kernel
theorem dTy_consistent_66 : decode cTy_consistent 66 = .ok (.invokestatic 29, 3) := by decide +kernel
theorem dTy_consistent_69 : decode cTy_consistent 69 = .ok (.lload_n 2, 1) := by decide +kernel
theorem dTy_consistent_70 : decode cTy_consistent 70 = .ok (.invokestatic 29, 3) := by decide +kernel
theorem dTy_consistent_73 : decode cTy_consistent 73 = .ok (.iload 4, 2) := by decide +kernel
theorem dTy_consistent_75 : decode cTy_consistent 75 = .ok (.iconst 1, 1) := by decide +kernel
theorem dTy_consistent_76 : decode cTy_consistent 76 = .ok (.iadd, 1) := by decide +kernel
theorem dTy_consistent_77 : decode cTy_consistent 77 = .ok (.invokestatic 25, 3) := by decide +kernel
theorem dTy_consistent_80 : decode cTy_consistent 80 = .ok (.ifCond .eq 7, 3) := by decide +kernel
theorem dTy_consistent_83 : decode cTy_consistent 83 = .ok (.iconst 1, 1) := by decide +kernel
theorem dTy_consistent_84 : decode cTy_consistent 84 = .ok (.goto 4, 3) := by decide +kernel
theorem dTy_consistent_87 : decode cTy_consistent 87 = .ok (.iconst 0, 1) := by decide +kernel
theorem dTy_consistent_88 : decode cTy_consistent 88 = .ok (.ireturn, 1) := by decide +kernel
def f_Ty_consistent_J88 (rc : Int64 → Int64 → Int32 → Mem → Option (Int32 × Mem))  (v0 : Int64) (v2 : Int64) (v4 : Int32) (u0 : Int32) (σ : Mem) : Option (Int32 × Mem) :=
  gd (isB u0) (some (u0, σ))
def f_Ty_consistent_J87 (rc : Int64 → Int64 → Int32 → Mem → Option (Int32 × Mem))  (v0 : Int64) (v2 : Int64) (v4 : Int32) (σ : Mem) : Option (Int32 × Mem) :=
  f_Ty_consistent_J88 rc v0 v2 v4 (0 : Int32) σ
def f_Ty_consistent_J46 (rc : Int64 → Int64 → Int32 → Mem → Option (Int32 × Mem))  (v0 : Int64) (v2 : Int64) (v4 : Int32) (u0 : Int32) (σ : Mem) : Option (Int32 × Mem) :=
  gd (isB u0) (some (u0, σ))
def f_Ty_consistent_J35 (rc : Int64 → Int64 → Int32 → Mem → Option (Int32 × Mem))  (v0 : Int64) (v2 : Int64) (v4 : Int32) (σ : Mem) : Option (Int32 × Mem) :=
  if (lg_cmp v0 v2) = 0 then (
  f_Ty_consistent_J46 rc v0 v2 v4 (1 : Int32) σ)
  else (
  f_Ty_consistent_J46 rc v0 v2 v4 (0 : Int32) σ)
def f_Ty_consistent_J19 (rc : Int64 → Int64 → Int32 → Mem → Option (Int32 × Mem))  (v0 : Int64) (v2 : Int64) (v4 : Int32) (σ : Mem) : Option (Int32 × Mem) :=
  some ((1 : Int32), σ)
def f_Ty_consistent (rc : Int64 → Int64 → Int32 → Mem → Option (Int32 × Mem))  (v0 : Int64) (v2 : Int64) (v4 : Int32) (σ : Mem) : Option (Int32 × Mem) :=
  if (lg_cmp v0 (1 : Int64)) = 0 then (
  f_Ty_consistent_J19 rc v0 v2 v4 σ)
  else (
  if (lg_cmp v2 (1 : Int64)) = 0 then (
  f_Ty_consistent_J19 rc v0 v2 v4 σ)
  else (
  if v4 < (27 : Int32) then (
  bn (f_Ty_isFrom v0 σ) fun (r5 : Int32) (σ4 : Mem) =>
  if r5 = 0 then (
  f_Ty_consistent_J35 rc v0 v2 v4 σ4)
  else (
  bn (f_Ty_isFrom v2 σ4) fun (r8 : Int32) (σ7 : Mem) =>
  if r8 = 0 then (
  f_Ty_consistent_J35 rc v0 v2 v4 σ7)
  else (
  bn (f_Ty_taken v0 σ7) fun (r11 : Int64) (σ10 : Mem) =>
  bn (f_Ty_taken v2 σ10) fun (r14 : Int64) (σ13 : Mem) =>
  bn (rc r11 r14 (v4 + (1 : Int32)) σ13) fun (r17 : Int32) (σ16 : Mem) =>
  if r17 = 0 then (
  f_Ty_consistent_J87 rc v0 v2 v4 σ16)
  else (
  bn (f_Ty_given v0 σ16) fun (r20 : Int64) (σ19 : Mem) =>
  bn (f_Ty_given v2 σ19) fun (r23 : Int64) (σ22 : Mem) =>
  bn (rc r20 r23 (v4 + (1 : Int32)) σ22) fun (r26 : Int32) (σ25 : Mem) =>
  if r26 = 0 then (
  f_Ty_consistent_J87 rc v0 v2 v4 σ25)
  else (
  f_Ty_consistent_J88 rc v0 v2 v4 (1 : Int32) σ25)))))
  else (
  f_Ty_consistent_J19 rc v0 v2 v4 σ)))
set_option maxHeartbeats 4000000 in
set_option maxRecDepth 100000 in
theorem c_Ty_consistent (l : Launch) (g : Gw) (hg : wInj g) {rc : Int64 → Int64 → Int32 → Mem → Option (Int32 × Mem)} {d0 : Nat} (hd0 : 2 ≤ d0) (hrc : ∀ {v0 : Int64} {v2 : Int64} {v4 : Int32} {r0 : Int32} {σ σ0 : Mem}, rc v0 v2 v4 σ = some (r0, σ0) → KI l yTy_consistent cTy_consistent 5 (some .boolean) d0 g [.long v0, .long v2, .int v4] σ r0 σ0) {v0 : Int64} {v2 : Int64} {v4 : Int32} {r0 : Int32} {σ σ0 : Mem} (h : f_Ty_consistent rc v0 v2 v4 σ = some (r0, σ0)) : KI l yTy_consistent cTy_consistent 5 (some .boolean) (d0 + 1) g [.long v0, .long v2, .int v4] σ r0 σ0 := by
  refine q_met g hg (own := "TermBench$Types") rfl rfl (Nat.le_of_ble_eq_true rfl) (fun p e s m args below meth c R Q cx hRk hr hQ H locs ls hP hS hl => ?_)
  have hx := cx.1
  have hb := cx.2.1
  have hown := cx.2.2.2.1
  have hts := cx.2.2.2.2.1
  have hl : lv_has ls 5 [(0, .long v0), (2, .long v2), (4, .int v4)] := hl
  have J88 : ∀ (v0 : Int64) (v2 : Int64) (v4 : Int32) (u0 : Int32) (σ : Mem), f_Ty_consistent_J88 rc v0 v2 v4 u0 σ = some (r0, σ0) → ∀ (H : Heap) (locs : List Loc) (ls : Array Slot), lv_has ls 5 [(0, .long v0), (2, .long v2), (4, .int v4)] → Wd g σ H → va_S (wA g) s.heap H locs → W p l e R s m args below meth c H locs 0 0 Q (F0 m 88 ls [.int u0]) := by
    intro v0 v2 v4 u0 σ h H locs ls hl hP hS
    unfold f_Ty_consistent_J88 at h
    obtain ⟨b1, h⟩ := gd_some h
    exact q_ri cx hr (isB_n b1) hP hS hQ h dTy_consistent_88
  have J87 : ∀ (v0 : Int64) (v2 : Int64) (v4 : Int32) (σ : Mem), f_Ty_consistent_J87 rc v0 v2 v4 σ = some (r0, σ0) → ∀ (H : Heap) (locs : List Loc) (ls : Array Slot), lv_has ls 5 [(0, .long v0), (2, .long v2), (4, .int v4)] → Wd g σ H → va_S (wA g) s.heap H locs → W p l e R s m args below meth c H locs 0 0 Q (F0 m 87 ls []) := by
    intro v0 v2 v4 σ h H locs ls hl hP hS
    unfold f_Ty_consistent_J87 at h
    refine lv_iconst (v := 0) hx hb dTy_consistent_87 (by decide) ?_
    exact J88 _ _ _ _ _ h _ _ _ (lv_sub hl [0, 1, 2] rfl) hP hS
  have J46 : ∀ (v0 : Int64) (v2 : Int64) (v4 : Int32) (u0 : Int32) (σ : Mem), f_Ty_consistent_J46 rc v0 v2 v4 u0 σ = some (r0, σ0) → ∀ (H : Heap) (locs : List Loc) (ls : Array Slot), lv_has ls 5 [(0, .long v0), (2, .long v2), (4, .int v4)] → Wd g σ H → va_S (wA g) s.heap H locs → W p l e R s m args below meth c H locs 0 0 Q (F0 m 46 ls [.int u0]) := by
    intro v0 v2 v4 u0 σ h H locs ls hl hP hS
    unfold f_Ty_consistent_J46 at h
    obtain ⟨b2, h⟩ := gd_some h
    exact q_ri cx hr (isB_n b2) hP hS hQ h dTy_consistent_46
  have J35 : ∀ (v0 : Int64) (v2 : Int64) (v4 : Int32) (σ : Mem), f_Ty_consistent_J35 rc v0 v2 v4 σ = some (r0, σ0) → ∀ (H : Heap) (locs : List Loc) (ls : Array Slot), lv_has ls 5 [(0, .long v0), (2, .long v2), (4, .int v4)] → Wd g σ H → va_S (wA g) s.heap H locs → W p l e R s m args below meth c H locs 0 0 Q (F0 m 35 ls []) := by
    intro v0 v2 v4 σ h H locs ls hl hP hS
    unfold f_Ty_consistent_J35 at h
    refine lv_lload_n hx hb dTy_consistent_35 rfl (lv_at hl 0 rfl) ?_
    refine lv_lload_n hx hb dTy_consistent_36 rfl (lv_at hl 1 rfl) ?_
    refine W.lcmp hx hb dTy_consistent_37 ?_
    refine lv_if_ne (tgt := 45) hx hb dTy_consistent_38 (by decide) (fun hc => ?_) (fun hc => ?_)
    · replace h := if_f h hc
      refine lv_iconst (v := 0) hx hb dTy_consistent_45 (by decide) ?_
      exact J46 _ _ _ _ _ h _ _ _ (lv_sub hl [0, 1, 2] rfl) hP hS
    · replace h := if_t h hc
      refine lv_iconst (v := 1) hx hb dTy_consistent_41 (by decide) ?_
      refine lv_goto (tgt := 46) hx hb dTy_consistent_42 (by decide) ?_
      exact J46 _ _ _ _ _ h _ _ _ (lv_sub hl [0, 1, 2] rfl) hP hS
  have J19 : ∀ (v0 : Int64) (v2 : Int64) (v4 : Int32) (σ : Mem), f_Ty_consistent_J19 rc v0 v2 v4 σ = some (r0, σ0) → ∀ (H : Heap) (locs : List Loc) (ls : Array Slot), lv_has ls 5 [(0, .long v0), (2, .long v2), (4, .int v4)] → Wd g σ H → va_S (wA g) s.heap H locs → W p l e R s m args below meth c H locs 0 0 Q (F0 m 19 ls []) := by
    intro v0 v2 v4 σ h H locs ls hl hP hS
    unfold f_Ty_consistent_J19 at h
    refine lv_iconst (v := 1) hx hb dTy_consistent_19 (by decide) ?_
    exact q_ri cx hr rfl hP hS hQ h dTy_consistent_20
  unfold f_Ty_consistent at h
  refine lv_lload_n hx hb dTy_consistent_0 rfl (lv_at hl 0 rfl) ?_
  refine lv_lconst (v := 1) hx hb dTy_consistent_1 rfl ?_
  refine W.lcmp hx hb dTy_consistent_2 ?_
  refine lv_if_eq (tgt := 19) hx hb dTy_consistent_3 (by decide) (fun hc => ?_) (fun hc => ?_)
  · replace h := if_t h hc
    exact J19 _ _ _ _ h _ _ _ (lv_sub hl [0, 1, 2] rfl) hP hS
  · replace h := if_f h hc
    refine lv_lload_n hx hb dTy_consistent_6 rfl (lv_at hl 1 rfl) ?_
    refine lv_lconst (v := 1) hx hb dTy_consistent_7 rfl ?_
    refine W.lcmp hx hb dTy_consistent_8 ?_
    refine lv_if_eq (tgt := 19) hx hb dTy_consistent_9 (by decide) (fun hc => ?_) (fun hc => ?_)
    · replace h := if_t h hc
      exact J19 _ _ _ _ h _ _ _ (lv_sub hl [0, 1, 2] rfl) hP hS
    · replace h := if_f h hc
      refine lv_iload hx hb dTy_consistent_12 (lv_at hl 2 rfl) ?_
      refine lv_bipush (v := 27) hx hb dTy_consistent_14 (by decide) ?_
      refine lv_icmp_lt (tgt := 21) hx hb dTy_consistent_16 (by decide) (fun hc => ?_) (fun hc => ?_)
      · replace h := if_t h hc
        refine lv_lload_n hx hb dTy_consistent_21 rfl (lv_at hl 0 rfl) ?_
        obtain ⟨r5, σ4, h3, h⟩ := bn_some h
        refine q_cSi (rest := []) (As := [.long v0]) cx hP hS hRk (c_Ty_isFrom l g hg h3) Y_Ty_isFrom S_Ty_isFrom t_443 (by omega) rfl hl.1 rfl (Nat.le_of_ble_eq_true rfl) dTy_consistent_22 (fun H locs hP hS => ?_)
        refine lv_if_eq (tgt := 35) hx hb dTy_consistent_25 (by decide) (fun hc => ?_) (fun hc => ?_)
        · replace h := if_t h hc
          exact J35 _ _ _ _ h _ _ _ (lv_sub hl [0, 1, 2] rfl) hP hS
        · replace h := if_f h hc
          refine lv_lload_n hx hb dTy_consistent_28 rfl (lv_at hl 1 rfl) ?_
          obtain ⟨r8, σ7, h6, h⟩ := bn_some h
          refine q_cSi (rest := []) (As := [.long v2]) cx hP hS hRk (c_Ty_isFrom l g hg h6) Y_Ty_isFrom S_Ty_isFrom t_443 (by omega) rfl hl.1 rfl (Nat.le_of_ble_eq_true rfl) dTy_consistent_29 (fun H locs hP hS => ?_)
          refine lv_if_ne (tgt := 47) hx hb dTy_consistent_32 (by decide) (fun hc => ?_) (fun hc => ?_)
          · replace h := if_f h hc
            refine lv_lload_n hx hb dTy_consistent_47 rfl (lv_at hl 0 rfl) ?_
            obtain ⟨r11, σ10, h9, h⟩ := bn_some h
            refine q_cSl (rest := []) (As := [.long v0]) cx hP hS hRk (c_Ty_taken l g hg h9) Y_Ty_taken S_Ty_taken t_444 (by omega) rfl hl.1 rfl (Nat.le_of_ble_eq_true rfl) dTy_consistent_48 (fun H locs hP hS => ?_)
            refine lv_lload_n hx hb dTy_consistent_51 rfl (lv_at hl 1 rfl) ?_
            obtain ⟨r14, σ13, h12, h⟩ := bn_some h
            refine q_cSl (rest := [.long r11]) (As := [.long v2]) cx hP hS hRk (c_Ty_taken l g hg h12) Y_Ty_taken S_Ty_taken t_444 (by omega) rfl hl.1 rfl (Nat.le_of_ble_eq_true rfl) dTy_consistent_52 (fun H locs hP hS => ?_)
            refine lv_iload hx hb dTy_consistent_55 (lv_at hl 2 rfl) ?_
            refine lv_iconst (v := 1) hx hb dTy_consistent_57 (by decide) ?_
            refine lv_iadd hx hb dTy_consistent_58 ?_
            obtain ⟨r17, σ16, h15, h⟩ := bn_some h
            refine q_cSi (rest := []) (As := [.long r11, .long r14, .int (v4 + (1 : Int32))]) cx hP hS hRk (hrc h15) Y_Ty_consistent S_Ty_consistent t_445 (by omega) rfl hl.1 rfl (Nat.le_of_ble_eq_true rfl) dTy_consistent_59 (fun H locs hP hS => ?_)
            refine lv_if_eq (tgt := 87) hx hb dTy_consistent_62 (by decide) (fun hc => ?_) (fun hc => ?_)
            · replace h := if_t h hc
              exact J87 _ _ _ _ h _ _ _ (lv_sub hl [0, 1, 2] rfl) hP hS
            · replace h := if_f h hc
              refine lv_lload_n hx hb dTy_consistent_65 rfl (lv_at hl 0 rfl) ?_
              obtain ⟨r20, σ19, h18, h⟩ := bn_some h
              refine q_cSl (rest := []) (As := [.long v0]) cx hP hS hRk (c_Ty_given l g hg h18) Y_Ty_given S_Ty_given t_446 (by omega) rfl hl.1 rfl (Nat.le_of_ble_eq_true rfl) dTy_consistent_66 (fun H locs hP hS => ?_)
              refine lv_lload_n hx hb dTy_consistent_69 rfl (lv_at hl 1 rfl) ?_
              obtain ⟨r23, σ22, h21, h⟩ := bn_some h
              refine q_cSl (rest := [.long r20]) (As := [.long v2]) cx hP hS hRk (c_Ty_given l g hg h21) Y_Ty_given S_Ty_given t_446 (by omega) rfl hl.1 rfl (Nat.le_of_ble_eq_true rfl) dTy_consistent_70 (fun H locs hP hS => ?_)
              refine lv_iload hx hb dTy_consistent_73 (lv_at hl 2 rfl) ?_
              refine lv_iconst (v := 1) hx hb dTy_consistent_75 (by decide) ?_
              refine lv_iadd hx hb dTy_consistent_76 ?_
              obtain ⟨r26, σ25, h24, h⟩ := bn_some h
              refine q_cSi (rest := []) (As := [.long r20, .long r23, .int (v4 + (1 : Int32))]) cx hP hS hRk (hrc h24) Y_Ty_consistent S_Ty_consistent t_445 (by omega) rfl hl.1 rfl (Nat.le_of_ble_eq_true rfl) dTy_consistent_77 (fun H locs hP hS => ?_)
              refine lv_if_eq (tgt := 87) hx hb dTy_consistent_80 (by decide) (fun hc => ?_) (fun hc => ?_)
              · replace h := if_t h hc
                exact J87 _ _ _ _ h _ _ _ (lv_sub hl [0, 1, 2] rfl) hP hS
              · replace h := if_f h hc
                refine lv_iconst (v := 1) hx hb dTy_consistent_83 (by decide) ?_
                refine lv_goto (tgt := 88) hx hb dTy_consistent_84 (by decide) ?_
                exact J88 _ _ _ _ _ h _ _ _ (lv_sub hl [0, 1, 2] rfl) hP hS
          · replace h := if_t h hc
            exact J35 _ _ _ _ h _ _ _ (lv_sub hl [0, 1, 2] rfl) hP hS
      · replace h := if_f h hc
        exact J19 _ _ _ _ h _ _ _ (lv_sub hl [0, 1, 2] rfl) hP hS
def F_Ty_consistent : Nat → Int64 → Int64 → Int32 → Mem → Option (Int32 × Mem)
  | 0 => fun _ _ _ _ => none
  | n + 1 => fun a0 a1 a2 a3 => f_Ty_consistent (F_Ty_consistent n) a0 a1 a2 a3
theorem C_Ty_consistent (l : Launch) (g : Gw) (hg : wInj g) : ∀ (n : Nat) {v0 : Int64} {v2 : Int64} {v4 : Int32} {r0 : Int32} {σ σ0 : Mem}, F_Ty_consistent n v0 v2 v4 σ = some (r0, σ0) → KI l yTy_consistent cTy_consistent 5 (some .boolean) (2 + 1 * n) g [.long v0, .long v2, .int v4] σ r0 σ0 := by
  intro n
  induction n with
  | zero => intros; rename_i h; simp [F_Ty_consistent] at h
  | succ n ih =>
    intros
    rename_i h
    exact c_Ty_consistent l g hg (d0 := 2 + 1 * n) (Nat.le_add_right _ _) ih  h
theorem dTy_from_0 : decode cTy_from 0 = .ok (.lload_n 0, 1) := by decide +kernel
theorem dTy_from_1 : decode cTy_from 1 = .ok (.invokestatic 11, 3) := by decide +kernel
theorem dTy_from_4 : decode cTy_from 4 = .ok (.istore 4, 2) := by decide +kernel
theorem dTy_from_6 : decode cTy_from 6 = .ok (.iconst 1, 1) := by decide +kernel
theorem dTy_from_7 : decode cTy_from 7 = .ok (.iload 4, 2) := by decide +kernel
theorem dTy_from_9 : decode cTy_from 9 = .ok (.iadd, 1) := by decide +kernel
theorem dTy_from_10 : decode cTy_from 10 = .ok (.lload_n 2, 1) := by decide +kernel
theorem dTy_from_11 : decode cTy_from 11 = .ok (.invokestatic 11, 3) := by decide +kernel
theorem dTy_from_14 : decode cTy_from 14 = .ok (.iadd, 1) := by decide +kernel
theorem dTy_from_15 : decode cTy_from 15 = .ok (.bipush 27, 2) := by decide +kernel
theorem dTy_from_17 : decode cTy_from 17 = .ok (.if_icmp .le 5, 3) := by decide +kernel
theorem dTy_from_20 : decode cTy_from 20 = .ok (.lconst 1, 1) := by decide +kernel
theorem dTy_from_21 : decode cTy_from 21 = .ok (.lreturn, 1) := by decide +kernel
theorem dTy_from_22 : decode cTy_from 22 = .ok (.ldc2_w 15, 3) := by decide +kernel
theorem dTy_from_25 : decode cTy_from 25 = .ok (.lload_n 0, 1) := by decide +kernel
theorem dTy_from_26 : decode cTy_from 26 = .ok (.iconst 2, 1) := by decide +kernel
theorem dTy_from_27 : decode cTy_from 27 = .ok (.lshl, 1) := by decide +kernel
theorem dTy_from_28 : decode cTy_from 28 = .ok (.lor, 1) := by decide +kernel
theorem dTy_from_29 : decode cTy_from 29 = .ok (.lload_n 2, 1) := by decide +kernel
theorem dTy_from_30 : decode cTy_from 30 = .ok (.iconst 2, 1) := by decide +kernel
theorem dTy_from_31 : decode cTy_from 31 = .ok (.iconst 2, 1) := by decide +kernel
theorem dTy_from_32 : decode cTy_from 32 = .ok (.iload 4, 2) := by decide +kernel
theorem dTy_from_34 : decode cTy_from 34 = .ok (.imul, 1) := by decide +kernel
theorem dTy_from_35 : decode cTy_from 35 = .ok (.iadd, 1) := by decide +kernel
theorem dTy_from_36 : decode cTy_from 36 = .ok (.lshl, 1) := by decide +kernel
theorem dTy_from_37 : decode cTy_from 37 = .ok (.lor, 1) := by decide +kernel
theorem dTy_from_38 : decode cTy_from 38 = .ok (.lreturn, 1) := by decide +kernel
def f_Ty_from  (v0 : Int64) (v2 : Int64) (σ : Mem) : Option (Int64 × Mem) :=
  bn (f_Ty_symbols v0 σ) fun (r3 : Int32) (σ2 : Mem) =>
  bn (f_Ty_symbols v2 σ2) fun (r6 : Int32) (σ5 : Mem) =>
  if (((1 : Int32) + r3) + r6) ≤ (27 : Int32) then (
  some (((3 : Int64) ||| (v0 <<< ((2 : Int32).toInt64 &&& 63))) ||| (v2 <<< (((2 : Int32) + ((2 : Int32) * r3)).toInt64 &&& 63)), σ5))
  else (
  some ((1 : Int64), σ5))
set_option maxHeartbeats 4000000 in
set_option maxRecDepth 100000 in
theorem c_Ty_from (l : Launch) (g : Gw) (hg : wInj g) {v0 : Int64} {v2 : Int64} {r0 : Int64} {σ σ0 : Mem} (h : f_Ty_from v0 v2 σ = some (r0, σ0)) : KL l yTy_from cTy_from 5 (some .long) 1 g [.long v0, .long v2] σ r0 σ0 := by
  refine q_met g hg (own := "TermBench$Types") rfl rfl (Nat.le_of_ble_eq_true rfl) (fun p e s m args below meth c R Q cx hRk hr hQ H locs ls hP hS hl => ?_)
  have hx := cx.1
  have hb := cx.2.1
  have hown := cx.2.2.2.1
  have hts := cx.2.2.2.2.1
  have hl : lv_has ls 5 [(0, .long v0), (2, .long v2)] := hl
  unfold f_Ty_from at h
  refine lv_lload_n hx hb dTy_from_0 rfl (lv_at hl 0 rfl) ?_
  obtain ⟨r3, σ2, h1, h⟩ := bn_some h
  refine q_cSi (rest := []) (As := [.long v0]) cx hP hS hRk (c_Ty_symbols l g hg h1) Y_Ty_symbols S_Ty_symbols t_266 (by decide) rfl hl.1 rfl (Nat.le_of_ble_eq_true rfl) dTy_from_1 (fun H locs hP hS => ?_)
  refine lv_istore (lv' := [(4, .int r3), (0, .long v0), (2, .long v2)]) hx hb dTy_from_4 hl (Nat.le_of_ble_eq_true rfl) rfl (fun ls hl => ?_)
  refine lv_iconst (v := 1) hx hb dTy_from_6 (by decide) ?_
  refine lv_iload hx hb dTy_from_7 (lv_at hl 0 rfl) ?_
  refine lv_iadd hx hb dTy_from_9 ?_
  refine lv_lload_n hx hb dTy_from_10 rfl (lv_at hl 2 rfl) ?_
  obtain ⟨r6, σ5, h4, h⟩ := bn_some h
  refine q_cSi (rest := [.int ((1 : Int32) + r3)]) (As := [.long v2]) cx hP hS hRk (c_Ty_symbols l g hg h4) Y_Ty_symbols S_Ty_symbols t_266 (by decide) rfl hl.1 rfl (Nat.le_of_ble_eq_true rfl) dTy_from_11 (fun H locs hP hS => ?_)
  refine lv_iadd hx hb dTy_from_14 ?_
  refine lv_bipush (v := 27) hx hb dTy_from_15 (by decide) ?_
  refine lv_icmp_le (tgt := 22) hx hb dTy_from_17 (by decide) (fun hc => ?_) (fun hc => ?_)
  · replace h := if_t h hc
    refine lv_ldc2 (own := "TermBench$Types") (index := 15) (v := 3) hx hb hown (hts _ t_374) dTy_from_22 ?_
    refine lv_lload_n hx hb dTy_from_25 rfl (lv_at hl 1 rfl) ?_
    refine lv_iconst (v := 2) hx hb dTy_from_26 (by decide) ?_
    refine lv_lshl hx hb dTy_from_27 rfl ?_
    refine lv_lor hx hb dTy_from_28 ?_
    refine lv_lload_n hx hb dTy_from_29 rfl (lv_at hl 2 rfl) ?_
    refine lv_iconst (v := 2) hx hb dTy_from_30 (by decide) ?_
    refine lv_iconst (v := 2) hx hb dTy_from_31 (by decide) ?_
    refine lv_iload hx hb dTy_from_32 (lv_at hl 0 rfl) ?_
    refine lv_imul hx hb dTy_from_34 ?_
    refine lv_iadd hx hb dTy_from_35 ?_
    refine lv_lshl hx hb dTy_from_36 rfl ?_
    refine lv_lor hx hb dTy_from_37 ?_
    exact q_rl cx hr hP hS hQ h dTy_from_38
  · replace h := if_f h hc
    refine lv_lconst (v := 1) hx hb dTy_from_20 rfl ?_
    exact q_rl cx hr hP hS hQ h dTy_from_21
end
section
/-! 21.program, by program: pure functions and contracts -/
theorem dPr_isOnHole_0 : decode cPr_isOnHole 0 = .ok (.aload_n 0, 1) := by decide +kernel
theorem dPr_isOnHole_1 : decode cPr_isOnHole 1 = .ok (.getfield 9, 3) := by decide +kernel
theorem dPr_isOnHole_4 : decode cPr_isOnHole 4 = .ok (.aload_n 0, 1) := by decide +kernel
theorem dPr_isOnHole_5 : decode cPr_isOnHole 5 = .ok (.getfield 29, 3) := by decide +kernel
theorem dPr_isOnHole_8 : decode cPr_isOnHole 8 = .ok (.iaload, 1) := by decide +kernel
theorem dPr_isOnHole_9 : decode cPr_isOnHole 9 = .ok (.ifCond .ne 7, 3) := by decide +kernel
theorem dPr_isOnHole_12 : decode cPr_isOnHole 12 = .ok (.iconst 1, 1) := by decide +kernel
theorem dPr_isOnHole_13 : decode cPr_isOnHole 13 = .ok (.goto 4, 3) := by decide +kernel
theorem dPr_isOnHole_16 : decode cPr_isOnHole 16 = .ok (.iconst 0, 1) := by decide +kernel
theorem dPr_isOnHole_17 : decode cPr_isOnHole 17 = .ok (.ireturn, 1) := by decide +kernel
def f_Pr_isOnHole_J17 (i : Nat) (u0 : Int32) (σ : Mem) : Option (Int32 × Mem) :=
  gd (isB u0) (some (u0, σ))
def f_Pr_isOnHole (i : Nat)  (σ : Mem) : Option (Int32 × Mem) :=
  gd (inb (σ.1 (cP i) 5) 40) (
  if (σ.1 (cPk i) (σ.1 (cP i) 5).toNatClampNeg) = 0 then (
  f_Pr_isOnHole_J17 i (1 : Int32) σ)
  else (
  f_Pr_isOnHole_J17 i (0 : Int32) σ))
set_option maxHeartbeats 4000000 in
set_option maxRecDepth 100000 in
theorem c_Pr_isOnHole (l : Launch) (g : Gw) (hg : wInj g) {i : Nat} (hi : i < 17) {r0 : Int32} {σ σ0 : Mem} (h : f_Pr_isOnHole i σ = some (r0, σ0)) : KI l yPr_isOnHole cPr_isOnHole 1 (some .boolean) 0 g [.ref (ad g (cP i))] σ r0 σ0 := by
  refine q_met g hg (own := "TermBench$Program") rfl rfl (Nat.le_of_ble_eq_true rfl) (fun p e s m args below meth c R Q cx hRk hr hQ H locs ls hP hS hl => ?_)
  have hx := cx.1
  have hb := cx.2.1
  have hown := cx.2.2.2.1
  have hts := cx.2.2.2.2.1
  have hl : lv_has ls 1 [(0, .ref (ad g (cP i)))] := hl
  have J17 : ∀ (u0 : Int32) (σ : Mem), f_Pr_isOnHole_J17 i u0 σ = some (r0, σ0) → ∀ (H : Heap) (locs : List Loc) (ls : Array Slot), lv_has ls 1 [(0, .ref (ad g (cP i)))] → Wd g σ H → va_S (wA g) s.heap H locs → W p l e R s m args below meth c H locs 0 0 Q (F0 m 17 ls [.int u0]) := by
    intro u0 σ h H locs ls hl hP hS
    unfold f_Pr_isOnHole_J17 at h
    obtain ⟨b1, h⟩ := gd_some h
    exact q_ri cx hr (isB_n b1) hP hS hQ h dPr_isOnHole_17
  unfold f_Pr_isOnHole at h
  refine lv_aload_n hx hb dPr_isOnHole_0 rfl (lv_at hl 0 rfl) ?_
  refine g_Pr_kinds cx hP hi  t_33 dPr_isOnHole_1 ?_
  refine lv_aload_n hx hb dPr_isOnHole_4 rfl (lv_at hl 0 rfl) ?_
  refine g_Pr_cursor cx hP hi  t_48 dPr_isOnHole_5 ?_
  obtain ⟨b2, h⟩ := gd_some h
  refine q_iald cx hP (l_cPk hi) (e_cPk g hi) b2 dPr_isOnHole_8 ?_
  refine lv_if_ne (tgt := 16) hx hb dPr_isOnHole_9 (by decide) (fun hc => ?_) (fun hc => ?_)
  · replace h := if_f h hc
    refine lv_iconst (v := 0) hx hb dPr_isOnHole_16 (by decide) ?_
    exact J17 _ _ h _ _ _ (lv_sub hl [0] rfl) hP hS
  · replace h := if_t h hc
    refine lv_iconst (v := 1) hx hb dPr_isOnHole_12 (by decide) ?_
    refine lv_goto (tgt := 17) hx hb dPr_isOnHole_13 (by decide) ?_
    exact J17 _ _ h _ _ _ (lv_sub hl [0] rfl) hP hS
theorem dPr_copy_0 : decode cPr_copy 0 = .ok (.aload_n 0, 1) := by decide +kernel
theorem dPr_copy_1 : decode cPr_copy 1 = .ok (.aload_n 1, 1) := by decide +kernel
theorem dPr_copy_2 : decode cPr_copy 2 = .ok (.getfield 25, 3) := by decide +kernel
theorem dPr_copy_5 : decode cPr_copy 5 = .ok (.putfield 25, 3) := by decide +kernel
theorem dPr_copy_8 : decode cPr_copy 8 = .ok (.aload_n 0, 1) := by decide +kernel
theorem dPr_copy_9 : decode cPr_copy 9 = .ok (.aload_n 1, 1) := by decide +kernel
theorem dPr_copy_10 : decode cPr_copy 10 = .ok (.getfield 29, 3) := by decide +kernel
theorem dPr_copy_13 : decode cPr_copy 13 = .ok (.putfield 29, 3) := by decide +kernel
theorem dPr_copy_16 : decode cPr_copy 16 = .ok (.aload_n 1, 1) := by decide +kernel
theorem dPr_copy_17 : decode cPr_copy 17 = .ok (.getfield 9, 3) := by decide +kernel
theorem dPr_copy_20 : decode cPr_copy 20 = .ok (.iconst 0, 1) := by decide +kernel
theorem dPr_copy_21 : decode cPr_copy 21 = .ok (.aload_n 0, 1) := by decide +kernel
theorem dPr_copy_22 : decode cPr_copy 22 = .ok (.getfield 9, 3) := by decide +kernel
theorem dPr_copy_25 : decode cPr_copy 25 = .ok (.iconst 0, 1) := by decide +kernel
theorem dPr_copy_26 : decode cPr_copy 26 = .ok (.aload_n 0, 1) := by decide +kernel
theorem dPr_copy_27 : decode cPr_copy 27 = .ok (.getfield 25, 3) := by decide +kernel
theorem dPr_copy_30 : decode cPr_copy 30 = .ok (.invokestatic 32, 3) := by decide +kernel
theorem dPr_copy_33 : decode cPr_copy 33 = .ok (.aload_n 1, 1) := by decide +kernel
theorem dPr_copy_34 : decode cPr_copy 34 = .ok (.getfield 15, 3) := by decide +kernel
theorem dPr_copy_37 : decode cPr_copy 37 = .ok (.iconst 0, 1) := by decide +kernel
theorem dPr_copy_38 : decode cPr_copy 38 = .ok (.aload_n 0, 1) := by decide +kernel
theorem dPr_copy_39 : decode cPr_copy 39 = .ok (.getfield 15, 3) := by decide +kernel
theorem dPr_copy_42 : decode cPr_copy 42 = .ok (.iconst 0, 1) := by decide +kernel
theorem dPr_copy_43 : decode cPr_copy 43 = .ok (.aload_n 0, 1) := by decide +kernel
theorem dPr_copy_44 : decode cPr_copy 44 = .ok (.getfield 25, 3) := by decide +kernel
theorem dPr_copy_47 : decode cPr_copy 47 = .ok (.invokestatic 32, 3) := by decide +kernel
theorem dPr_copy_50 : decode cPr_copy 50 = .ok (.aload_n 1, 1) := by decide +kernel
theorem dPr_copy_51 : decode cPr_copy 51 = .ok (.getfield 18, 3) := by decide +kernel
theorem dPr_copy_54 : decode cPr_copy 54 = .ok (.iconst 0, 1) := by decide +kernel
theorem dPr_copy_55 : decode cPr_copy 55 = .ok (.aload_n 0, 1) := by decide +kernel
theorem dPr_copy_56 : decode cPr_copy 56 = .ok (.getfield 18, 3) := by decide +kernel
theorem dPr_copy_59 : decode cPr_copy 59 = .ok (.iconst 0, 1) := by decide +kernel
theorem dPr_copy_60 : decode cPr_copy 60 = .ok (.aload_n 0, 1) := by decide +kernel
theorem dPr_copy_61 : decode cPr_copy 61 = .ok (.getfield 25, 3) := by decide +kernel
theorem dPr_copy_64 : decode cPr_copy 64 = .ok (.invokestatic 32, 3) := by decide +kernel
theorem dPr_copy_67 : decode cPr_copy 67 = .ok (.aload_n 1, 1) := by decide +kernel
theorem dPr_copy_68 : decode cPr_copy 68 = .ok (.getfield 22, 3) := by decide +kernel
theorem dPr_copy_71 : decode cPr_copy 71 = .ok (.iconst 0, 1) := by decide +kernel
theorem dPr_copy_72 : decode cPr_copy 72 = .ok (.aload_n 0, 1) := by decide +kernel
theorem dPr_copy_73 : decode cPr_copy 73 = .ok (.getfield 22, 3) := by decide +kernel
theorem dPr_copy_76 : decode cPr_copy 76 = .ok (.iconst 0, 1) := by decide +kernel
theorem dPr_copy_77 : decode cPr_copy 77 = .ok (.aload_n 0, 1) := by decide +kernel
theorem dPr_copy_78 : decode cPr_copy 78 = .ok (.getfield 25, 3) := by decide +kernel
theorem dPr_copy_81 : decode cPr_copy 81 = .ok (.invokestatic 32, 3) := by decide +kernel
theorem dPr_copy_84 : decode cPr_copy 84 = .ok (.return_, 1) := by decide +kernel
def f_Pr_copy (i : Nat) (j : Nat)  (σ : Mem) : Option (Unit × Mem) :=
  lt_ (sI σ (cP i) 4 (σ.1 (cP j) 4)) fun (σ1 : Mem) =>
  lt_ (sI σ1 (cP i) 5 (σ1.1 (cP j) 5)) fun (σ2 : Mem) =>
  gd (cpOk (0 : Int32) (0 : Int32) (σ2.1 (cP i) 4) 40 40) (lt_ (rI σ2 (cPk i) (va_cpy (σ2.1 (cPk j)) (σ2.1 (cPk i)) (0 : Int32).toNatClampNeg (0 : Int32).toNatClampNeg (σ2.1 (cP i) 4).toNatClampNeg)) fun (σ4 : Mem) =>
  gd (cpOk (0 : Int32) (0 : Int32) (σ4.1 (cP i) 4) 40 40) (lt_ (rI σ4 (cPf i) (va_cpy (σ4.1 (cPf j)) (σ4.1 (cPf i)) (0 : Int32).toNatClampNeg (0 : Int32).toNatClampNeg (σ4.1 (cP i) 4).toNatClampNeg)) fun (σ6 : Mem) =>
  gd (cpOk (0 : Int32) (0 : Int32) (σ6.1 (cP i) 4) 40 40) (lt_ (rL σ6 (cPt i) (va_cpy (σ6.2 (cPt j)) (σ6.2 (cPt i)) (0 : Int32).toNatClampNeg (0 : Int32).toNatClampNeg (σ6.1 (cP i) 4).toNatClampNeg)) fun (σ8 : Mem) =>
  gd (cpOk (0 : Int32) (0 : Int32) (σ8.1 (cP i) 4) 40 40) (lt_ (rI σ8 (cPl i) (va_cpy (σ8.1 (cPl j)) (σ8.1 (cPl i)) (0 : Int32).toNatClampNeg (0 : Int32).toNatClampNeg (σ8.1 (cP i) 4).toNatClampNeg)) fun (σ10 : Mem) =>
  some ((), σ10)))))
set_option maxHeartbeats 4000000 in
set_option maxRecDepth 100000 in
theorem c_Pr_copy (l : Launch) (g : Gw) (hg : wInj g) {i : Nat} (hi : i < 17) {j : Nat} (hj : j < 17) {σ σ0 : Mem} (h : f_Pr_copy i j σ = some ((), σ0)) : KV l yPr_copy cPr_copy 2 none 1 g [.ref (ad g (cP i)), .ref (ad g (cP j))] σ σ0 := by
  refine q_met g hg (own := "TermBench$Program") rfl rfl (Nat.le_of_ble_eq_true rfl) (fun p e s m args below meth c R Q cx hRk hr hQ H locs ls hP hS hl => ?_)
  have hx := cx.1
  have hb := cx.2.1
  have hown := cx.2.2.2.1
  have hts := cx.2.2.2.2.1
  have hl : lv_has ls 2 [(0, .ref (ad g (cP i))), (1, .ref (ad g (cP j)))] := hl
  unfold f_Pr_copy at h
  refine lv_aload_n hx hb dPr_copy_0 rfl (lv_at hl 0 rfl) ?_
  refine lv_aload_n hx hb dPr_copy_1 rfl (lv_at hl 1 rfl) ?_
  refine g_Pr_size cx hP hj  t_45 dPr_copy_2 ?_
  obtain ⟨σ1, eσ1, h⟩ := lt_some h
  refine p_Pr_size cx hP hS hi t_45 dPr_copy_5 eσ1 (fun H locs hP hS => ?_)
  refine lv_aload_n hx hb dPr_copy_8 rfl (lv_at hl 0 rfl) ?_
  refine lv_aload_n hx hb dPr_copy_9 rfl (lv_at hl 1 rfl) ?_
  refine g_Pr_cursor cx hP hj  t_48 dPr_copy_10 ?_
  obtain ⟨σ2, eσ2, h⟩ := lt_some h
  refine p_Pr_cursor cx hP hS hi t_48 dPr_copy_13 eσ2 (fun H locs hP hS => ?_)
  refine lv_aload_n hx hb dPr_copy_16 rfl (lv_at hl 1 rfl) ?_
  refine g_Pr_kinds cx hP hj  t_33 dPr_copy_17 ?_
  refine lv_iconst (v := 0) hx hb dPr_copy_20 (by decide) ?_
  refine lv_aload_n hx hb dPr_copy_21 rfl (lv_at hl 0 rfl) ?_
  refine g_Pr_kinds cx hP hi  t_33 dPr_copy_22 ?_
  refine lv_iconst (v := 0) hx hb dPr_copy_25 (by decide) ?_
  refine lv_aload_n hx hb dPr_copy_26 rfl (lv_at hl 0 rfl) ?_
  refine g_Pr_size cx hP hi  t_45 dPr_copy_27 ?_
  obtain ⟨b3, h⟩ := gd_some h
  obtain ⟨σ4, eσ4, h⟩ := lt_some h
  refine q_copyi cx hP hS hRk t_198 N_copy (by omega) (l_cPk hj) (e_cPk g hj) (l_cPk hi) (e_cPk g hi) b3 hl.1 (Nat.le_of_ble_eq_true rfl) dPr_copy_30 eσ4 (fun H locs hP hS => ?_)
  refine lv_aload_n hx hb dPr_copy_33 rfl (lv_at hl 1 rfl) ?_
  refine g_Pr_figures cx hP hj  t_38 dPr_copy_34 ?_
  refine lv_iconst (v := 0) hx hb dPr_copy_37 (by decide) ?_
  refine lv_aload_n hx hb dPr_copy_38 rfl (lv_at hl 0 rfl) ?_
  refine g_Pr_figures cx hP hi  t_38 dPr_copy_39 ?_
  refine lv_iconst (v := 0) hx hb dPr_copy_42 (by decide) ?_
  refine lv_aload_n hx hb dPr_copy_43 rfl (lv_at hl 0 rfl) ?_
  refine g_Pr_size cx hP hi  t_45 dPr_copy_44 ?_
  obtain ⟨b5, h⟩ := gd_some h
  obtain ⟨σ6, eσ6, h⟩ := lt_some h
  refine q_copyi cx hP hS hRk t_198 N_copy (by omega) (l_cPf hj) (e_cPf g hj) (l_cPf hi) (e_cPf g hi) b5 hl.1 (Nat.le_of_ble_eq_true rfl) dPr_copy_47 eσ6 (fun H locs hP hS => ?_)
  refine lv_aload_n hx hb dPr_copy_50 rfl (lv_at hl 1 rfl) ?_
  refine g_Pr_types cx hP hj  t_41 dPr_copy_51 ?_
  refine lv_iconst (v := 0) hx hb dPr_copy_54 (by decide) ?_
  refine lv_aload_n hx hb dPr_copy_55 rfl (lv_at hl 0 rfl) ?_
  refine g_Pr_types cx hP hi  t_41 dPr_copy_56 ?_
  refine lv_iconst (v := 0) hx hb dPr_copy_59 (by decide) ?_
  refine lv_aload_n hx hb dPr_copy_60 rfl (lv_at hl 0 rfl) ?_
  refine g_Pr_size cx hP hi  t_45 dPr_copy_61 ?_
  obtain ⟨b7, h⟩ := gd_some h
  obtain ⟨σ8, eσ8, h⟩ := lt_some h
  refine q_copyl cx hP hS hRk t_198 N_copy (by omega) (l_cPt hj) (e_cPt g hj) (l_cPt hi) (e_cPt g hi) b7 hl.1 (Nat.le_of_ble_eq_true rfl) dPr_copy_64 eσ8 (fun H locs hP hS => ?_)
  refine lv_aload_n hx hb dPr_copy_67 rfl (lv_at hl 1 rfl) ?_
  refine g_Pr_levels cx hP hj  t_44 dPr_copy_68 ?_
  refine lv_iconst (v := 0) hx hb dPr_copy_71 (by decide) ?_
  refine lv_aload_n hx hb dPr_copy_72 rfl (lv_at hl 0 rfl) ?_
  refine g_Pr_levels cx hP hi  t_44 dPr_copy_73 ?_
  refine lv_iconst (v := 0) hx hb dPr_copy_76 (by decide) ?_
  refine lv_aload_n hx hb dPr_copy_77 rfl (lv_at hl 0 rfl) ?_
  refine g_Pr_size cx hP hi  t_45 dPr_copy_78 ?_
  obtain ⟨b9, h⟩ := gd_some h
  obtain ⟨σ10, eσ10, h⟩ := lt_some h
  refine q_copyi cx hP hS hRk t_198 N_copy (by omega) (l_cPl hj) (e_cPl g hj) (l_cPl hi) (e_cPl g hi) b9 hl.1 (Nat.le_of_ble_eq_true rfl) dPr_copy_81 eσ10 (fun H locs hP hS => ?_)
  exact q_rv cx hr hP hS hQ h dPr_copy_84
theorem dPr_write_0 : decode cPr_write 0 = .ok (.aload_n 0, 1) := by decide +kernel
theorem dPr_write_1 : decode cPr_write 1 = .ok (.getfield 9, 3) := by decide +kernel
theorem dPr_write_4 : decode cPr_write 4 = .ok (.iload_n 1, 1) := by decide +kernel
theorem dPr_write_5 : decode cPr_write 5 = .ok (.iload_n 2, 1) := by decide +kernel
theorem dPr_write_6 : decode cPr_write 6 = .ok (.iastore, 1) := by decide +kernel
theorem dPr_write_7 : decode cPr_write 7 = .ok (.aload_n 0, 1) := by decide +kernel
theorem dPr_write_8 : decode cPr_write 8 = .ok (.getfield 15, 3) := by decide +kernel
theorem dPr_write_11 : decode cPr_write 11 = .ok (.iload_n 1, 1) := by decide +kernel
theorem dPr_write_12 : decode cPr_write 12 = .ok (.iload_n 3, 1) := by decide +kernel
theorem dPr_write_13 : decode cPr_write 13 = .ok (.iastore, 1) := by decide +kernel
theorem dPr_write_14 : decode cPr_write 14 = .ok (.aload_n 0, 1) := by decide +kernel
theorem dPr_write_15 : decode cPr_write 15 = .ok (.getfield 18, 3) := by decide +kernel
theorem dPr_write_18 : decode cPr_write 18 = .ok (.iload_n 1, 1) := by decide +kernel
theorem dPr_write_19 : decode cPr_write 19 = .ok (.lload 4, 2) := by decide +kernel
theorem dPr_write_21 : decode cPr_write 21 = .ok (.lastore, 1) := by decide +kernel
theorem dPr_write_22 : decode cPr_write 22 = .ok (.return_, 1) := by decide +kernel
def f_Pr_write (i : Nat) (v1 : Int32) (v2 : Int32) (v3 : Int32) (v4 : Int64) (σ : Mem) : Option (Unit × Mem) :=
  gd (inb v1 40) (lt_ (sI σ (cPk i) v1.toNatClampNeg v2) fun (σ2 : Mem) =>
  gd (inb v1 40) (lt_ (sI σ2 (cPf i) v1.toNatClampNeg v3) fun (σ4 : Mem) =>
  gd (inb v1 40) (lt_ (sL σ4 (cPt i) v1.toNatClampNeg v4) fun (σ6 : Mem) =>
  some ((), σ6))))
set_option maxHeartbeats 4000000 in
set_option maxRecDepth 100000 in
theorem c_Pr_write (l : Launch) (g : Gw) (hg : wInj g) {i : Nat} (hi : i < 17) {v1 : Int32} {v2 : Int32} {v3 : Int32} {v4 : Int64} {σ σ0 : Mem} (h : f_Pr_write i v1 v2 v3 v4 σ = some ((), σ0)) : KV l yPr_write cPr_write 6 none 0 g [.ref (ad g (cP i)), .int v1, .int v2, .int v3, .long v4] σ σ0 := by
  refine q_met g hg (own := "TermBench$Program") rfl rfl (Nat.le_of_ble_eq_true rfl) (fun p e s m args below meth c R Q cx hRk hr hQ H locs ls hP hS hl => ?_)
  have hx := cx.1
  have hb := cx.2.1
  have hown := cx.2.2.2.1
  have hts := cx.2.2.2.2.1
  have hl : lv_has ls 6 [(0, .ref (ad g (cP i))), (1, .int v1), (2, .int v2), (3, .int v3), (4, .long v4)] := hl
  unfold f_Pr_write at h
  refine lv_aload_n hx hb dPr_write_0 rfl (lv_at hl 0 rfl) ?_
  refine g_Pr_kinds cx hP hi  t_33 dPr_write_1 ?_
  refine lv_iload_n hx hb dPr_write_4 rfl (lv_at hl 1 rfl) ?_
  refine lv_iload_n hx hb dPr_write_5 rfl (lv_at hl 2 rfl) ?_
  obtain ⟨b1, h⟩ := gd_some h
  obtain ⟨σ2, eσ2, h⟩ := lt_some h
  refine q_iast cx hP hS (l_cPk hi) (e_cPk g hi) b1 dPr_write_6 eσ2 (fun H locs hP hS => ?_)
  refine lv_aload_n hx hb dPr_write_7 rfl (lv_at hl 0 rfl) ?_
  refine g_Pr_figures cx hP hi  t_38 dPr_write_8 ?_
  refine lv_iload_n hx hb dPr_write_11 rfl (lv_at hl 1 rfl) ?_
  refine lv_iload_n hx hb dPr_write_12 rfl (lv_at hl 3 rfl) ?_
  obtain ⟨b3, h⟩ := gd_some h
  obtain ⟨σ4, eσ4, h⟩ := lt_some h
  refine q_iast cx hP hS (l_cPf hi) (e_cPf g hi) b3 dPr_write_13 eσ4 (fun H locs hP hS => ?_)
  refine lv_aload_n hx hb dPr_write_14 rfl (lv_at hl 0 rfl) ?_
  refine g_Pr_types cx hP hi  t_41 dPr_write_15 ?_
  refine lv_iload_n hx hb dPr_write_18 rfl (lv_at hl 1 rfl) ?_
  refine lv_lload hx hb dPr_write_19 (lv_at hl 4 rfl) ?_
  obtain ⟨b5, h⟩ := gd_some h
  obtain ⟨σ6, eσ6, h⟩ := lt_some h
  refine q_last cx hP hS (l_cPt hi) (e_cPt g hi) b5 dPr_write_21 eσ6 (fun H locs hP hS => ?_)
  exact q_rv cx hr hP hS hQ h dPr_write_22
theorem dPr_fill_0 : decode cPr_fill 0 = .ok (.aload_n 0, 1) := by decide +kernel
theorem dPr_fill_1 : decode cPr_fill 1 = .ok (.aload_n 0, 1) := by decide +kernel
theorem dPr_fill_2 : decode cPr_fill 2 = .ok (.getfield 29, 3) := by decide +kernel
theorem dPr_fill_5 : decode cPr_fill 5 = .ok (.iload_n 1, 1) := by decide +kernel
theorem dPr_fill_6 : decode cPr_fill 6 = .ok (.iload_n 2, 1) := by decide +kernel
theorem dPr_fill_7 : decode cPr_fill 7 = .ok (.lconst 0, 1) := by decide +kernel
theorem dPr_fill_8 : decode cPr_fill 8 = .ok (.invokevirtual 48, 3) := by decide +kernel
theorem dPr_fill_11 : decode cPr_fill 11 = .ok (.return_, 1) := by decide +kernel
def f_Pr_fill (i : Nat) (v1 : Int32) (v2 : Int32) (σ : Mem) : Option (Unit × Mem) :=
  bn (f_Pr_write i (σ.1 (cP i) 5) v1 v2 (0 : Int64) σ) fun (_ : Unit) (σ2 : Mem) =>
  some ((), σ2)
set_option maxHeartbeats 4000000 in
set_option maxRecDepth 100000 in
theorem c_Pr_fill (l : Launch) (g : Gw) (hg : wInj g) {i : Nat} (hi : i < 17) {v1 : Int32} {v2 : Int32} {σ σ0 : Mem} (h : f_Pr_fill i v1 v2 σ = some ((), σ0)) : KV l yPr_fill cPr_fill 3 none 1 g [.ref (ad g (cP i)), .int v1, .int v2] σ σ0 := by
  refine q_met g hg (own := "TermBench$Program") rfl rfl (Nat.le_of_ble_eq_true rfl) (fun p e s m args below meth c R Q cx hRk hr hQ H locs ls hP hS hl => ?_)
  have hx := cx.1
  have hb := cx.2.1
  have hown := cx.2.2.2.1
  have hts := cx.2.2.2.2.1
  have hl : lv_has ls 3 [(0, .ref (ad g (cP i))), (1, .int v1), (2, .int v2)] := hl
  unfold f_Pr_fill at h
  refine lv_aload_n hx hb dPr_fill_0 rfl (lv_at hl 0 rfl) ?_
  refine lv_aload_n hx hb dPr_fill_1 rfl (lv_at hl 0 rfl) ?_
  refine g_Pr_cursor cx hP hi  t_48 dPr_fill_2 ?_
  refine lv_iload_n hx hb dPr_fill_5 rfl (lv_at hl 1 rfl) ?_
  refine lv_iload_n hx hb dPr_fill_6 rfl (lv_at hl 2 rfl) ?_
  refine lv_lconst (v := 0) hx hb dPr_fill_7 rfl ?_
  obtain ⟨rh1, σ2, h1, h⟩ := bn_some h
  refine q_cVv (rest := []) (As := [.int (σ.1 (cP i) 5), .int v1, .int v2, .long (0 : Int64)]) cx hP hS hRk (c_Pr_write l g hg hi h1) Y_Pr_write V_Pr_write t_205 (by decide) (l_cP hi) (e_cP g hi _ _) rfl rfl hl.1 rfl (Nat.le_of_ble_eq_true rfl) dPr_fill_8 (fun H locs hP hS => ?_)
  exact q_rv cx hr hP hS hQ h dPr_fill_11
theorem dPr_end_0 : decode cPr_end 0 = .ok (.iload_n 1, 1) := by decide +kernel
theorem dPr_end_1 : decode cPr_end 1 = .ok (.iconst 1, 1) := by decide +kernel
theorem dPr_end_2 : decode cPr_end 2 = .ok (.iadd, 1) := by decide +kernel
theorem dPr_end_3 : decode cPr_end 3 = .ok (.istore_n 2, 1) := by decide +kernel
theorem dPr_end_4 : decode cPr_end 4 = .ok (.iload_n 2, 1) := by decide +kernel
theorem dPr_end_5 : decode cPr_end 5 = .ok (.aload_n 0, 1) := by decide +kernel
theorem dPr_end_6 : decode cPr_end 6 = .ok (.getfield 25, 3) := by decide +kernel
theorem dPr_end_9 : decode cPr_end 9 = .ok (.if_icmp .ge 24, 3) := by decide +kernel
theorem dPr_end_12 : decode cPr_end 12 = .ok (.aload_n 0, 1) := by decide +kernel
theorem dPr_end_13 : decode cPr_end 13 = .ok (.getfield 22, 3) := by decide +kernel
theorem dPr_end_16 : decode cPr_end 16 = .ok (.iload_n 2, 1) := by decide +kernel
theorem dPr_end_17 : decode cPr_end 17 = .ok (.iaload, 1) := by decide +kernel
theorem dPr_end_18 : decode cPr_end 18 = .ok (.aload_n 0, 1) := by decide +kernel
theorem dPr_end_19 : decode cPr_end 19 = .ok (.getfield 22, 3) := by decide +kernel
theorem dPr_end_22 : decode cPr_end 22 = .ok (.iload_n 1, 1) := by decide +kernel
theorem dPr_end_23 : decode cPr_end 23 = .ok (.iaload, 1) := by decide +kernel
theorem dPr_end_24 : decode cPr_end 24 = .ok (.if_icmp .le 9, 3) := by decide +kernel
theorem dPr_end_27 : decode cPr_end 27 = .ok (.iinc 2 1, 3) := by decide +kernel
theorem dPr_end_30 : decode cPr_end 30 = .ok (.goto (-26), 3) := by decide +kernel
theorem dPr_end_33 : decode cPr_end 33 = .ok (.iload_n 2, 1) := by decide +kernel
theorem dPr_end_34 : decode cPr_end 34 = .ok (.ireturn, 1) := by decide +kernel
def f_Pr_end_J33 (i : Nat) (v1 : Int32) (v2 : Int32) (σ : Mem) : Option (Int32 × Mem) :=
  some (v2, σ)
def f_Pr_end_L4 (i : Nat) (v1 : Int32) (v2 : Int32) (σ : Mem) : Option ((Int32 × Mem) ⊕ (Int32 × Mem)) :=
  if (σ.1 (cP i) 4) ≤ v2 then (
  inrM (f_Pr_end_J33 i v1 v2 σ))
  else (
  gd (inb v2 40) (
  gd (inb v1 40) (
  if (σ.1 (cPl i) v2.toNatClampNeg) ≤ (σ.1 (cPl i) v1.toNatClampNeg) then (
  inrM (f_Pr_end_J33 i v1 v2 σ))
  else (
  lt_ (v2 + 1) fun (x5 : Int32) =>
  some (.inl (x5, σ))))))
def f_Pr_end (i : Nat) (v1 : Int32) (σ : Mem) : Option (Int32 × Mem) :=
  lt_ (v1 + (1 : Int32)) fun (x6 : Int32) =>
  loopF (fun (q : (Int32 × Mem)) => f_Pr_end_L4 i v1 q.1 q.2) FU (x6, σ)
set_option maxHeartbeats 4000000 in
set_option maxRecDepth 100000 in
theorem c_Pr_end (l : Launch) (g : Gw) (hg : wInj g) {i : Nat} (hi : i < 17) {v1 : Int32} {r0 : Int32} {σ σ0 : Mem} (h : f_Pr_end i v1 σ = some (r0, σ0)) : KI l yPr_end cPr_end 3 (some .int) 0 g [.ref (ad g (cP i)), .int v1] σ r0 σ0 := by
  refine q_met g hg (own := "TermBench$Program") rfl rfl (Nat.le_of_ble_eq_true rfl) (fun p e s m args below meth c R Q cx hRk hr hQ H locs ls hP hS hl => ?_)
  have hx := cx.1
  have hb := cx.2.1
  have hown := cx.2.2.2.1
  have hts := cx.2.2.2.2.1
  have hl : lv_has ls 3 [(0, .ref (ad g (cP i))), (1, .int v1)] := hl
  have J33 : ∀ (v1 : Int32) (v2 : Int32) (σ : Mem), f_Pr_end_J33 i v1 v2 σ = some (r0, σ0) → ∀ (H : Heap) (locs : List Loc) (ls : Array Slot), lv_has ls 3 [(0, .ref (ad g (cP i))), (1, .int v1), (2, .int v2)] → Wd g σ H → va_S (wA g) s.heap H locs → W p l e R s m args below meth c H locs 0 0 Q (F0 m 33 ls []) := by
    intro v1 v2 σ h H locs ls hl hP hS
    unfold f_Pr_end_J33 at h
    refine lv_iload_n hx hb dPr_end_33 rfl (lv_at hl 2 rfl) ?_
    exact q_ri cx hr rfl hP hS hQ h dPr_end_34
  unfold f_Pr_end at h
  refine lv_iload_n hx hb dPr_end_0 rfl (lv_at hl 1 rfl) ?_
  refine lv_iconst (v := 1) hx hb dPr_end_1 (by decide) ?_
  refine lv_iadd hx hb dPr_end_2 ?_
  obtain ⟨x6, ex6, h⟩ := lt_some h
  refine q_nmi ex6 ?_
  refine lv_istore_n (lv' := [(2, .int x6), (0, .ref (ad g (cP i))), (1, .int v1)]) hx hb dPr_end_3 rfl hl (Nat.le_of_ble_eq_true rfl) rfl (fun ls hl => ?_)
  have L4 : ∀ (n : Nat) (v1 : Int32) (v2 : Int32) (σ : Mem), loopF (fun (q : (Int32 × Mem)) => f_Pr_end_L4 i v1 q.1 q.2) n (v2, σ) = some (r0, σ0) → ∀ (H : Heap) (locs : List Loc) (ls : Array Slot), lv_has ls 3 [(0, .ref (ad g (cP i))), (1, .int v1), (2, .int v2)] → Wd g σ H → va_S (wA g) s.heap H locs → W p l e R s m args below meth c H locs 0 0 Q (F0 m 4 ls []) := by
    intro n
    induction n with
    | zero => intro v1 v2 σ h; exact (loopF_zero h).elim
    | succ n ih4 =>
      intro v1 v2 σ h H locs ls hl hP hS
      obtain ⟨o4, h, K4, E4⟩ := loopF_succ h
      have h : f_Pr_end_L4 i v1 v2 σ = some o4 := h
      unfold f_Pr_end_L4 at h
      refine lv_iload_n hx hb dPr_end_4 rfl (lv_at hl 2 rfl) ?_
      refine lv_aload_n hx hb dPr_end_5 rfl (lv_at hl 0 rfl) ?_
      refine g_Pr_size cx hP hi  t_45 dPr_end_6 ?_
      refine lv_icmp_ge (tgt := 33) hx hb dPr_end_9 (by decide) (fun hc => ?_) (fun hc => ?_)
      · replace h := if_t h hc
        obtain ⟨z1, h, ez1⟩ := inrM_some h
        rw [E4 z1 ez1] at h
        exact J33 _ _ _ h _ _ _ (lv_sub hl [0, 1, 2] rfl) hP hS
      · replace h := if_f h hc
        refine lv_aload_n hx hb dPr_end_12 rfl (lv_at hl 0 rfl) ?_
        refine g_Pr_levels cx hP hi  t_44 dPr_end_13 ?_
        refine lv_iload_n hx hb dPr_end_16 rfl (lv_at hl 2 rfl) ?_
        obtain ⟨b2, h⟩ := gd_some h
        refine q_iald cx hP (l_cPl hi) (e_cPl g hi) b2 dPr_end_17 ?_
        refine lv_aload_n hx hb dPr_end_18 rfl (lv_at hl 0 rfl) ?_
        refine g_Pr_levels cx hP hi  t_44 dPr_end_19 ?_
        refine lv_iload_n hx hb dPr_end_22 rfl (lv_at hl 1 rfl) ?_
        obtain ⟨b3, h⟩ := gd_some h
        refine q_iald cx hP (l_cPl hi) (e_cPl g hi) b3 dPr_end_23 ?_
        refine lv_icmp_le (tgt := 33) hx hb dPr_end_24 (by decide) (fun hc => ?_) (fun hc => ?_)
        · replace h := if_t h hc
          obtain ⟨z4, h, ez4⟩ := inrM_some h
          rw [E4 z4 ez4] at h
          exact J33 _ _ _ h _ _ _ (lv_sub hl [0, 1, 2] rfl) hP hS
        · replace h := if_f h hc
          obtain ⟨x5, ex5, h⟩ := lt_some h
          refine lv_iinc (lv' := [(2, .int x5), (0, .ref (ad g (cP i))), (1, .int v1)]) hx hb dPr_end_27 hl (k := 2) rfl (q_inc ex5 (by decide)) (Nat.le_of_ble_eq_true rfl) rfl (fun ls hl => ?_)
          refine lv_goto (tgt := 4) hx hb dPr_end_30 (by decide) ?_
          exact ih4 _ _ _ (K4 _ (Option.some.inj h).symm) _ _ _ (lv_sub hl [1, 2, 0] rfl) hP hS
  exact L4 _ _ _ _ h _ _ _ (lv_sub hl [1, 2, 0] rfl) hP hS
theorem dPr_hasRoomAround_0 : decode cPr_hasRoomAround 0 = .ok (.aload_n 0, 1) := by decide +kernel
theorem dPr_hasRoomAround_1 : decode cPr_hasRoomAround 1 = .ok (.getfield 22, 3) := by decide +kernel
theorem dPr_hasRoomAround_4 : decode cPr_hasRoomAround 4 = .ok (.aload_n 0, 1) := by decide +kernel
theorem dPr_hasRoomAround_5 : decode cPr_hasRoomAround 5 = .ok (.getfield 29, 3) := by decide +kernel
theorem dPr_hasRoomAround_8 : decode cPr_hasRoomAround 8 = .ok (.iaload, 1) := by decide +kernel
theorem dPr_hasRoomAround_9 : decode cPr_hasRoomAround 9 = .ok (.istore_n 2, 1) := by decide +kernel
theorem dPr_hasRoomAround_10 : decode cPr_hasRoomAround 10 = .ok (.aload_n 0, 1) := by decide +kernel
theorem dPr_hasRoomAround_11 : decode cPr_hasRoomAround 11 = .ok (.aload_n 0, 1) := by decide +kernel
theorem dPr_hasRoomAround_12 : decode cPr_hasRoomAround 12 = .ok (.getfield 29, 3) := by decide +kernel
theorem dPr_hasRoomAround_15 : decode cPr_hasRoomAround 15 = .ok (.invokevirtual 38, 3) := by decide +kernel
theorem dPr_hasRoomAround_18 : decode cPr_hasRoomAround 18 = .ok (.istore_n 3, 1) := by decide +kernel
theorem dPr_hasRoomAround_19 : decode cPr_hasRoomAround 19 = .ok (.aload_n 0, 1) := by decide +kernel
theorem dPr_hasRoomAround_20 : decode cPr_hasRoomAround 20 = .ok (.getfield 29, 3) := by decide +kernel
theorem dPr_hasRoomAround_23 : decode cPr_hasRoomAround 23 = .ok (.istore 4, 2) := by decide +kernel
theorem dPr_hasRoomAround_25 : decode cPr_hasRoomAround 25 = .ok (.iload 4, 2) := by decide +kernel
theorem dPr_hasRoomAround_27 : decode cPr_hasRoomAround 27 = .ok (.iload_n 3, 1) := by decide +kernel
theorem dPr_hasRoomAround_28 : decode cPr_hasRoomAround 28 = .ok (.if_icmp .ge 21, 3) := by decide +kernel
theorem dPr_hasRoomAround_31 : decode cPr_hasRoomAround 31 = .ok (.iload_n 2, 1) := by decide +kernel
theorem dPr_hasRoomAround_32 : decode cPr_hasRoomAround 32 = .ok (.aload_n 0, 1) := by decide +kernel
theorem dPr_hasRoomAround_33 : decode cPr_hasRoomAround 33 = .ok (.getfield 22, 3) := by decide +kernel
theorem dPr_hasRoomAround_36 : decode cPr_hasRoomAround 36 = .ok (.iload 4, 2) := by decide +kernel
theorem dPr_hasRoomAround_38 : decode cPr_hasRoomAround 38 = .ok (.iaload, 1) := by decide +kernel
theorem dPr_hasRoomAround_39 : decode cPr_hasRoomAround 39 = .ok (.invokestatic 42, 3) := by decide +kernel
theorem dPr_hasRoomAround_42 : decode cPr_hasRoomAround 42 = .ok (.istore_n 2, 1) := by decide +kernel
theorem dPr_hasRoomAround_43 : decode cPr_hasRoomAround 43 = .ok (.iinc 4 1, 3) := by decide +kernel
theorem dPr_hasRoomAround_46 : decode cPr_hasRoomAround 46 = .ok (.goto (-21), 3) := by decide +kernel
theorem dPr_hasRoomAround_49 : decode cPr_hasRoomAround 49 = .ok (.aload_n 0, 1) := by decide +kernel
theorem dPr_hasRoomAround_50 : decode cPr_hasRoomAround 50 = .ok (.getfield 25, 3) := by decide +kernel
theorem dPr_hasRoomAround_53 : decode cPr_hasRoomAround 53 = .ok (.iload_n 1, 1) := by decide +kernel
theorem dPr_hasRoomAround_54 : decode cPr_hasRoomAround 54 = .ok (.iadd, 1) := by decide +kernel
theorem dPr_hasRoomAround_55 : decode cPr_hasRoomAround 55 = .ok (.bipush 40, 2) := by decide +kernel
theorem dPr_hasRoomAround_57 : decode cPr_hasRoomAround 57 = .ok (.if_icmp .gt 15, 3) := by decide +kernel
theorem dPr_hasRoomAround_60 : decode cPr_hasRoomAround 60 = .ok (.iload_n 2, 1) := by decide +kernel
theorem dPr_hasRoomAround_61 : decode cPr_hasRoomAround 61 = .ok (.iconst 1, 1) := by decide +kernel
theorem dPr_hasRoomAround_62 : decode cPr_hasRoomAround 62 = .ok (.iadd, 1) := by decide +kernel
theorem dPr_hasRoomAround_63 : decode cPr_hasRoomAround 63 = .ok (.bipush 12, 2) := by decide +kernel
theorem dPr_hasRoomAround_65 : decode cPr_hasRoomAround 65 = .ok (.if_icmp .ge 7, 3) := by decide +kernel
theorem dPr_hasRoomAround_68 : decode cPr_hasRoomAround 68 = .ok (.iconst 1, 1) := by decide +kernel
theorem dPr_hasRoomAround_69 : decode cPr_hasRoomAround 69 = .ok (.goto 4, 3) := by decide +kernel
theorem dPr_hasRoomAround_72 : decode cPr_hasRoomAround 72 = .ok (.iconst 0, 1) := by decide +kernel
theorem dPr_hasRoomAround_73 : decode cPr_hasRoomAround 73 = .ok (.ireturn, 1) := by decide +kernel
def f_Pr_hasRoomAround_J73 (i : Nat) (v1 : Int32) (v2 : Int32) (v3 : Int32) (v4 : Int32) (u0 : Int32) (σ : Mem) : Option (Int32 × Mem) :=
  gd (isB u0) (some (u0, σ))
def f_Pr_hasRoomAround_J72 (i : Nat) (v1 : Int32) (v2 : Int32) (v3 : Int32) (v4 : Int32) (σ : Mem) : Option (Int32 × Mem) :=
  f_Pr_hasRoomAround_J73 i v1 v2 v3 v4 (0 : Int32) σ
def f_Pr_hasRoomAround_L25 (i : Nat) (v1 : Int32) (v3 : Int32) (v2 : Int32) (v4 : Int32) (σ : Mem) : Option ((Int32 × Int32 × Mem) ⊕ (Int32 × Mem)) :=
  if v3 ≤ v4 then (
  inrM (if (40 : Int32) < ((σ.1 (cP i) 4) + v1) then (
  f_Pr_hasRoomAround_J72 i v1 v2 v3 v4 σ)
  else (
  if (12 : Int32) ≤ (v2 + (1 : Int32)) then (
  f_Pr_hasRoomAround_J72 i v1 v2 v3 v4 σ)
  else (
  f_Pr_hasRoomAround_J73 i v1 v2 v3 v4 (1 : Int32) σ))))
  else (
  gd (inb v4 40) (
  lt_ (if v2 < (σ.1 (cPl i) v4.toNatClampNeg) then (σ.1 (cPl i) v4.toNatClampNeg) else v2) fun (x4 : Int32) =>
  lt_ (v4 + 1) fun (x5 : Int32) =>
  some (.inl (x4, x5, σ))))
def f_Pr_hasRoomAround (i : Nat) (v1 : Int32) (σ : Mem) : Option (Int32 × Mem) :=
  gd (inb (σ.1 (cP i) 5) 40) (
  lt_ (σ.1 (cPl i) (σ.1 (cP i) 5).toNatClampNeg) fun (x7 : Int32) =>
  bn (f_Pr_end i (σ.1 (cP i) 5) σ) fun (r10 : Int32) (σ9 : Mem) =>
  lt_ (σ9.1 (cP i) 5) fun (x11 : Int32) =>
  loopF (fun (q : (Int32 × Int32 × Mem)) => f_Pr_hasRoomAround_L25 i v1 r10 q.1 q.2.1 q.2.2) FU (x7, x11, σ9))
set_option maxHeartbeats 4000000 in
set_option maxRecDepth 100000 in
theorem c_Pr_hasRoomAround (l : Launch) (g : Gw) (hg : wInj g) {i : Nat} (hi : i < 17) {v1 : Int32} {r0 : Int32} {σ σ0 : Mem} (h : f_Pr_hasRoomAround i v1 σ = some (r0, σ0)) : KI l yPr_hasRoomAround cPr_hasRoomAround 5 (some .boolean) 1 g [.ref (ad g (cP i)), .int v1] σ r0 σ0 := by
  refine q_met g hg (own := "TermBench$Program") rfl rfl (Nat.le_of_ble_eq_true rfl) (fun p e s m args below meth c R Q cx hRk hr hQ H locs ls hP hS hl => ?_)
  have hx := cx.1
  have hb := cx.2.1
  have hown := cx.2.2.2.1
  have hts := cx.2.2.2.2.1
  have hl : lv_has ls 5 [(0, .ref (ad g (cP i))), (1, .int v1)] := hl
  have J73 : ∀ (v1 : Int32) (v2 : Int32) (v3 : Int32) (v4 : Int32) (u0 : Int32) (σ : Mem), f_Pr_hasRoomAround_J73 i v1 v2 v3 v4 u0 σ = some (r0, σ0) → ∀ (H : Heap) (locs : List Loc) (ls : Array Slot), lv_has ls 5 [(0, .ref (ad g (cP i))), (1, .int v1), (2, .int v2), (3, .int v3), (4, .int v4)] → Wd g σ H → va_S (wA g) s.heap H locs → W p l e R s m args below meth c H locs 0 0 Q (F0 m 73 ls [.int u0]) := by
    intro v1 v2 v3 v4 u0 σ h H locs ls hl hP hS
    unfold f_Pr_hasRoomAround_J73 at h
    obtain ⟨b1, h⟩ := gd_some h
    exact q_ri cx hr (isB_n b1) hP hS hQ h dPr_hasRoomAround_73
  have J72 : ∀ (v1 : Int32) (v2 : Int32) (v3 : Int32) (v4 : Int32) (σ : Mem), f_Pr_hasRoomAround_J72 i v1 v2 v3 v4 σ = some (r0, σ0) → ∀ (H : Heap) (locs : List Loc) (ls : Array Slot), lv_has ls 5 [(0, .ref (ad g (cP i))), (1, .int v1), (2, .int v2), (3, .int v3), (4, .int v4)] → Wd g σ H → va_S (wA g) s.heap H locs → W p l e R s m args below meth c H locs 0 0 Q (F0 m 72 ls []) := by
    intro v1 v2 v3 v4 σ h H locs ls hl hP hS
    unfold f_Pr_hasRoomAround_J72 at h
    refine lv_iconst (v := 0) hx hb dPr_hasRoomAround_72 (by decide) ?_
    exact J73 _ _ _ _ _ _ h _ _ _ (lv_sub hl [0, 1, 2, 3, 4] rfl) hP hS
  unfold f_Pr_hasRoomAround at h
  refine lv_aload_n hx hb dPr_hasRoomAround_0 rfl (lv_at hl 0 rfl) ?_
  refine g_Pr_levels cx hP hi  t_44 dPr_hasRoomAround_1 ?_
  refine lv_aload_n hx hb dPr_hasRoomAround_4 rfl (lv_at hl 0 rfl) ?_
  refine g_Pr_cursor cx hP hi  t_48 dPr_hasRoomAround_5 ?_
  obtain ⟨b6, h⟩ := gd_some h
  refine q_iald cx hP (l_cPl hi) (e_cPl g hi) b6 dPr_hasRoomAround_8 ?_
  obtain ⟨x7, ex7, h⟩ := lt_some h
  refine q_nmi ex7 ?_
  refine lv_istore_n (lv' := [(2, .int x7), (0, .ref (ad g (cP i))), (1, .int v1)]) hx hb dPr_hasRoomAround_9 rfl hl (Nat.le_of_ble_eq_true rfl) rfl (fun ls hl => ?_)
  refine lv_aload_n hx hb dPr_hasRoomAround_10 rfl (lv_at hl 1 rfl) ?_
  refine lv_aload_n hx hb dPr_hasRoomAround_11 rfl (lv_at hl 1 rfl) ?_
  refine g_Pr_cursor cx hP hi  t_48 dPr_hasRoomAround_12 ?_
  obtain ⟨r10, σ9, h8, h⟩ := bn_some h
  refine q_cVi (rest := []) (As := [.int (σ.1 (cP i) 5)]) cx hP hS hRk (c_Pr_end l g hg hi h8) Y_Pr_end V_Pr_end t_228 (by decide) (l_cP hi) (e_cP g hi _ _) rfl rfl hl.1 rfl (Nat.le_of_ble_eq_true rfl) dPr_hasRoomAround_15 (fun H locs hP hS => ?_)
  refine lv_istore_n (lv' := [(3, .int r10), (2, .int x7), (0, .ref (ad g (cP i))), (1, .int v1)]) hx hb dPr_hasRoomAround_18 rfl hl (Nat.le_of_ble_eq_true rfl) rfl (fun ls hl => ?_)
  refine lv_aload_n hx hb dPr_hasRoomAround_19 rfl (lv_at hl 2 rfl) ?_
  refine g_Pr_cursor cx hP hi  t_48 dPr_hasRoomAround_20 ?_
  obtain ⟨x11, ex11, h⟩ := lt_some h
  refine q_nmi ex11 ?_
  refine lv_istore (lv' := [(4, .int x11), (3, .int r10), (2, .int x7), (0, .ref (ad g (cP i))), (1, .int v1)]) hx hb dPr_hasRoomAround_23 hl (Nat.le_of_ble_eq_true rfl) rfl (fun ls hl => ?_)
  have L25 : ∀ (n : Nat) (v1 : Int32) (v2 : Int32) (v3 : Int32) (v4 : Int32) (σ : Mem), loopF (fun (q : (Int32 × Int32 × Mem)) => f_Pr_hasRoomAround_L25 i v1 v3 q.1 q.2.1 q.2.2) n (v2, v4, σ) = some (r0, σ0) → ∀ (H : Heap) (locs : List Loc) (ls : Array Slot), lv_has ls 5 [(0, .ref (ad g (cP i))), (1, .int v1), (2, .int v2), (3, .int v3), (4, .int v4)] → Wd g σ H → va_S (wA g) s.heap H locs → W p l e R s m args below meth c H locs 0 0 Q (F0 m 25 ls []) := by
    intro n
    induction n with
    | zero => intro v1 v2 v3 v4 σ h; exact (loopF_zero h).elim
    | succ n ih25 =>
      intro v1 v2 v3 v4 σ h H locs ls hl hP hS
      obtain ⟨o25, h, K25, E25⟩ := loopF_succ h
      have h : f_Pr_hasRoomAround_L25 i v1 v3 v2 v4 σ = some o25 := h
      unfold f_Pr_hasRoomAround_L25 at h
      refine lv_iload hx hb dPr_hasRoomAround_25 (lv_at hl 4 rfl) ?_
      refine lv_iload_n hx hb dPr_hasRoomAround_27 rfl (lv_at hl 3 rfl) ?_
      refine lv_icmp_ge (tgt := 49) hx hb dPr_hasRoomAround_28 (by decide) (fun hc => ?_) (fun hc => ?_)
      · replace h := if_t h hc
        obtain ⟨z2, h, ez2⟩ := inrM_some h
        rw [E25 z2 ez2] at h
        refine lv_aload_n hx hb dPr_hasRoomAround_49 rfl (lv_at hl 0 rfl) ?_
        refine g_Pr_size cx hP hi  t_45 dPr_hasRoomAround_50 ?_
        refine lv_iload_n hx hb dPr_hasRoomAround_53 rfl (lv_at hl 1 rfl) ?_
        refine lv_iadd hx hb dPr_hasRoomAround_54 ?_
        refine lv_bipush (v := 40) hx hb dPr_hasRoomAround_55 (by decide) ?_
        refine lv_icmp_gt (tgt := 72) hx hb dPr_hasRoomAround_57 (by decide) (fun hc => ?_) (fun hc => ?_)
        · replace h := if_t h hc
          exact J72 _ _ _ _ _ h _ _ _ (lv_sub hl [0, 1, 2, 3, 4] rfl) hP hS
        · replace h := if_f h hc
          refine lv_iload_n hx hb dPr_hasRoomAround_60 rfl (lv_at hl 2 rfl) ?_
          refine lv_iconst (v := 1) hx hb dPr_hasRoomAround_61 (by decide) ?_
          refine lv_iadd hx hb dPr_hasRoomAround_62 ?_
          refine lv_bipush (v := 12) hx hb dPr_hasRoomAround_63 (by decide) ?_
          refine lv_icmp_ge (tgt := 72) hx hb dPr_hasRoomAround_65 (by decide) (fun hc => ?_) (fun hc => ?_)
          · replace h := if_t h hc
            exact J72 _ _ _ _ _ h _ _ _ (lv_sub hl [0, 1, 2, 3, 4] rfl) hP hS
          · replace h := if_f h hc
            refine lv_iconst (v := 1) hx hb dPr_hasRoomAround_68 (by decide) ?_
            refine lv_goto (tgt := 73) hx hb dPr_hasRoomAround_69 (by decide) ?_
            exact J73 _ _ _ _ _ _ h _ _ _ (lv_sub hl [0, 1, 2, 3, 4] rfl) hP hS
      · replace h := if_f h hc
        refine lv_iload_n hx hb dPr_hasRoomAround_31 rfl (lv_at hl 2 rfl) ?_
        refine lv_aload_n hx hb dPr_hasRoomAround_32 rfl (lv_at hl 0 rfl) ?_
        refine g_Pr_levels cx hP hi  t_44 dPr_hasRoomAround_33 ?_
        refine lv_iload hx hb dPr_hasRoomAround_36 (lv_at hl 4 rfl) ?_
        obtain ⟨b3, h⟩ := gd_some h
        refine q_iald cx hP (l_cPl hi) (e_cPl g hi) b3 dPr_hasRoomAround_38 ?_
        refine q_max cx hRk t_232 N_max (by omega) hl.1 (Nat.le_of_ble_eq_true rfl) dPr_hasRoomAround_39 ?_
        obtain ⟨x4, ex4, h⟩ := lt_some h
        refine q_nmi ex4 ?_
        refine lv_istore_n (lv' := [(2, .int x4), (0, .ref (ad g (cP i))), (1, .int v1), (3, .int v3), (4, .int v4)]) hx hb dPr_hasRoomAround_42 rfl hl (Nat.le_of_ble_eq_true rfl) rfl (fun ls hl => ?_)
        obtain ⟨x5, ex5, h⟩ := lt_some h
        refine lv_iinc (lv' := [(4, .int x5), (2, .int x4), (0, .ref (ad g (cP i))), (1, .int v1), (3, .int v3)]) hx hb dPr_hasRoomAround_43 hl (k := 4) rfl (q_inc ex5 (by decide)) (Nat.le_of_ble_eq_true rfl) rfl (fun ls hl => ?_)
        refine lv_goto (tgt := 25) hx hb dPr_hasRoomAround_46 (by decide) ?_
        exact ih25 _ _ _ _ _ (K25 _ (Option.some.inj h).symm) _ _ _ (lv_sub hl [2, 3, 1, 4, 0] rfl) hP hS
  exact L25 _ _ _ _ _ _ h _ _ _ (lv_sub hl [3, 4, 2, 1, 0] rfl) hP hS
theorem dPr_shiftLevels_0 : decode cPr_shiftLevels 0 = .ok (.iload_n 1, 1) := by decide +kernel
theorem dPr_shiftLevels_1 : decode cPr_shiftLevels 1 = .ok (.istore 4, 2) := by decide +kernel
theorem dPr_shiftLevels_3 : decode cPr_shiftLevels 3 = .ok (.iload 4, 2) := by decide +kernel
theorem dPr_shiftLevels_5 : decode cPr_shiftLevels 5 = .ok (.iload_n 2, 1) := by decide +kernel
theorem dPr_shiftLevels_6 : decode cPr_shiftLevels 6 = .ok (.if_icmp .ge 20, 3) := by decide +kernel
theorem dPr_shiftLevels_9 : decode cPr_shiftLevels 9 = .ok (.aload_n 0, 1) := by decide +kernel
theorem dPr_shiftLevels_10 : decode cPr_shiftLevels 10 = .ok (.getfield 22, 3) := by decide +kernel
theorem dPr_shiftLevels_13 : decode cPr_shiftLevels 13 = .ok (.iload 4, 2) := by decide +kernel
theorem dPr_shiftLevels_15 : decode cPr_shiftLevels 15 = .ok (.dup2, 1) := by decide +kernel
theorem dPr_shiftLevels_16 : decode cPr_shiftLevels 16 = .ok (.iaload, 1) := by decide +kernel
theorem dPr_shiftLevels_17 : decode cPr_shiftLevels 17 = .ok (.iload_n 3, 1) := by decide +kernel
theorem dPr_shiftLevels_18 : decode cPr_shiftLevels 18 = .ok (.iadd, 1) := by decide +kernel
theorem dPr_shiftLevels_19 : decode cPr_shiftLevels 19 = .ok (.iastore, 1) := by decide +kernel
theorem dPr_shiftLevels_20 : decode cPr_shiftLevels 20 = .ok (.iinc 4 1, 3) := by decide +kernel
theorem dPr_shiftLevels_23 : decode cPr_shiftLevels 23 = .ok (.goto (-20), 3) := by decide +kernel
theorem dPr_shiftLevels_26 : decode cPr_shiftLevels 26 = .ok (.return_, 1) := by decide +kernel
def f_Pr_shiftLevels_L3 (i : Nat) (v1 : Int32) (v2 : Int32) (v3 : Int32) (v4 : Int32) (σ : Mem) : Option ((Int32 × Mem) ⊕ (Unit × Mem)) :=
  if v2 ≤ v4 then (
  inrM (some ((), σ)))
  else (
  gd (inb v4 40) (
  gd (inb v4 40) (lt_ (sI σ (cPl i) v4.toNatClampNeg ((σ.1 (cPl i) v4.toNatClampNeg) + v3)) fun (σ4 : Mem) =>
  lt_ (v4 + 1) fun (x5 : Int32) =>
  some (.inl (x5, σ4)))))
def f_Pr_shiftLevels (i : Nat) (v1 : Int32) (v2 : Int32) (v3 : Int32) (σ : Mem) : Option (Unit × Mem) :=
  loopF (fun (q : (Int32 × Mem)) => f_Pr_shiftLevels_L3 i v1 v2 v3 q.1 q.2) FU (v1, σ)
set_option maxHeartbeats 4000000 in
set_option maxRecDepth 100000 in
theorem c_Pr_shiftLevels (l : Launch) (g : Gw) (hg : wInj g) {i : Nat} (hi : i < 17) {v1 : Int32} {v2 : Int32} {v3 : Int32} {σ σ0 : Mem} (h : f_Pr_shiftLevels i v1 v2 v3 σ = some ((), σ0)) : KV l yPr_shiftLevels cPr_shiftLevels 5 none 0 g [.ref (ad g (cP i)), .int v1, .int v2, .int v3] σ σ0 := by
  refine q_met g hg (own := "TermBench$Program") rfl rfl (Nat.le_of_ble_eq_true rfl) (fun p e s m args below meth c R Q cx hRk hr hQ H locs ls hP hS hl => ?_)
  have hx := cx.1
  have hb := cx.2.1
  have hown := cx.2.2.2.1
  have hts := cx.2.2.2.2.1
  have hl : lv_has ls 5 [(0, .ref (ad g (cP i))), (1, .int v1), (2, .int v2), (3, .int v3)] := hl
  unfold f_Pr_shiftLevels at h
  refine lv_iload_n hx hb dPr_shiftLevels_0 rfl (lv_at hl 1 rfl) ?_
  refine lv_istore (lv' := [(4, .int v1), (0, .ref (ad g (cP i))), (1, .int v1), (2, .int v2), (3, .int v3)]) hx hb dPr_shiftLevels_1 hl (Nat.le_of_ble_eq_true rfl) rfl (fun ls hl => ?_)
  have L3 : ∀ (n : Nat) (v1 : Int32) (v2 : Int32) (v3 : Int32) (v4 : Int32) (σ : Mem), loopF (fun (q : (Int32 × Mem)) => f_Pr_shiftLevels_L3 i v1 v2 v3 q.1 q.2) n (v4, σ) = some ((), σ0) → ∀ (H : Heap) (locs : List Loc) (ls : Array Slot), lv_has ls 5 [(0, .ref (ad g (cP i))), (1, .int v1), (2, .int v2), (3, .int v3), (4, .int v4)] → Wd g σ H → va_S (wA g) s.heap H locs → W p l e R s m args below meth c H locs 0 0 Q (F0 m 3 ls []) := by
    intro n
    induction n with
    | zero => intro v1 v2 v3 v4 σ h; exact (loopF_zero h).elim
    | succ n ih3 =>
      intro v1 v2 v3 v4 σ h H locs ls hl hP hS
      obtain ⟨o3, h, K3, E3⟩ := loopF_succ h
      have h : f_Pr_shiftLevels_L3 i v1 v2 v3 v4 σ = some o3 := h
      unfold f_Pr_shiftLevels_L3 at h
      refine lv_iload hx hb dPr_shiftLevels_3 (lv_at hl 4 rfl) ?_
      refine lv_iload_n hx hb dPr_shiftLevels_5 rfl (lv_at hl 2 rfl) ?_
      refine lv_icmp_ge (tgt := 26) hx hb dPr_shiftLevels_6 (by decide) (fun hc => ?_) (fun hc => ?_)
      · replace h := if_t h hc
        obtain ⟨z1, h, ez1⟩ := inrM_some h
        rw [E3 z1 ez1] at h
        exact q_rv cx hr hP hS hQ h dPr_shiftLevels_26
      · replace h := if_f h hc
        refine lv_aload_n hx hb dPr_shiftLevels_9 rfl (lv_at hl 0 rfl) ?_
        refine g_Pr_levels cx hP hi  t_44 dPr_shiftLevels_10 ?_
        refine lv_iload hx hb dPr_shiftLevels_13 (lv_at hl 4 rfl) ?_
        refine lv_dup2_11 hx hb dPr_shiftLevels_15 rfl rfl ?_
        obtain ⟨b2, h⟩ := gd_some h
        refine q_iald cx hP (l_cPl hi) (e_cPl g hi) b2 dPr_shiftLevels_16 ?_
        refine lv_iload_n hx hb dPr_shiftLevels_17 rfl (lv_at hl 3 rfl) ?_
        refine lv_iadd hx hb dPr_shiftLevels_18 ?_
        obtain ⟨b3, h⟩ := gd_some h
        obtain ⟨σ4, eσ4, h⟩ := lt_some h
        refine q_iast cx hP hS (l_cPl hi) (e_cPl g hi) b3 dPr_shiftLevels_19 eσ4 (fun H locs hP hS => ?_)
        obtain ⟨x5, ex5, h⟩ := lt_some h
        refine lv_iinc (lv' := [(4, .int x5), (0, .ref (ad g (cP i))), (1, .int v1), (2, .int v2), (3, .int v3)]) hx hb dPr_shiftLevels_20 hl (k := 4) rfl (q_inc ex5 (by decide)) (Nat.le_of_ble_eq_true rfl) rfl (fun ls hl => ?_)
        refine lv_goto (tgt := 3) hx hb dPr_shiftLevels_23 (by decide) ?_
        exact ih3 _ _ _ _ _ (K3 _ (Option.some.inj h).symm) _ _ _ (lv_sub hl [1, 2, 3, 4, 0] rfl) hP hS
  exact L3 _ _ _ _ _ _ h _ _ _ (lv_sub hl [1, 2, 3, 4, 0] rfl) hP hS
theorem dPr_moveTail_0 : decode cPr_moveTail 0 = .ok (.aload_n 0, 1) := by decide +kernel
theorem dPr_moveTail_1 : decode cPr_moveTail 1 = .ok (.getfield 25, 3) := by decide +kernel
theorem dPr_moveTail_4 : decode cPr_moveTail 4 = .ok (.iload_n 1, 1) := by decide +kernel
theorem dPr_moveTail_5 : decode cPr_moveTail 5 = .ok (.isub, 1) := by decide +kernel
theorem dPr_moveTail_6 : decode cPr_moveTail 6 = .ok (.istore_n 3, 1) := by decide +kernel
theorem dPr_moveTail_7 : decode cPr_moveTail 7 = .ok (.aload_n 0, 1) := by decide +kernel
theorem dPr_moveTail_8 : decode cPr_moveTail 8 = .ok (.getfield 9, 3) := by decide +kernel
theorem dPr_moveTail_11 : decode cPr_moveTail 11 = .ok (.iload_n 1, 1) := by decide +kernel
theorem dPr_moveTail_12 : decode cPr_moveTail 12 = .ok (.aload_n 0, 1) := by decide +kernel
theorem dPr_moveTail_13 : decode cPr_moveTail 13 = .ok (.getfield 9, 3) := by decide +kernel
theorem dPr_moveTail_16 : decode cPr_moveTail 16 = .ok (.iload_n 2, 1) := by decide +kernel
theorem dPr_moveTail_17 : decode cPr_moveTail 17 = .ok (.iload_n 3, 1) := by decide +kernel
theorem dPr_moveTail_18 : decode cPr_moveTail 18 = .ok (.invokestatic 32, 3) := by decide +kernel
theorem dPr_moveTail_21 : decode cPr_moveTail 21 = .ok (.aload_n 0, 1) := by decide +kernel
theorem dPr_moveTail_22 : decode cPr_moveTail 22 = .ok (.getfield 15, 3) := by decide +kernel
theorem dPr_moveTail_25 : decode cPr_moveTail 25 = .ok (.iload_n 1, 1) := by decide +kernel
theorem dPr_moveTail_26 : decode cPr_moveTail 26 = .ok (.aload_n 0, 1) := by decide +kernel
theorem dPr_moveTail_27 : decode cPr_moveTail 27 = .ok (.getfield 15, 3) := by decide +kernel
theorem dPr_moveTail_30 : decode cPr_moveTail 30 = .ok (.iload_n 2, 1) := by decide +kernel
theorem dPr_moveTail_31 : decode cPr_moveTail 31 = .ok (.iload_n 3, 1) := by decide +kernel
theorem dPr_moveTail_32 : decode cPr_moveTail 32 = .ok (.invokestatic 32, 3) := by decide +kernel
theorem dPr_moveTail_35 : decode cPr_moveTail 35 = .ok (.aload_n 0, 1) := by decide +kernel
theorem dPr_moveTail_36 : decode cPr_moveTail 36 = .ok (.getfield 18, 3) := by decide +kernel
theorem dPr_moveTail_39 : decode cPr_moveTail 39 = .ok (.iload_n 1, 1) := by decide +kernel
theorem dPr_moveTail_40 : decode cPr_moveTail 40 = .ok (.aload_n 0, 1) := by decide +kernel
theorem dPr_moveTail_41 : decode cPr_moveTail 41 = .ok (.getfield 18, 3) := by decide +kernel
theorem dPr_moveTail_44 : decode cPr_moveTail 44 = .ok (.iload_n 2, 1) := by decide +kernel
theorem dPr_moveTail_45 : decode cPr_moveTail 45 = .ok (.iload_n 3, 1) := by decide +kernel
theorem dPr_moveTail_46 : decode cPr_moveTail 46 = .ok (.invokestatic 32, 3) := by decide +kernel
theorem dPr_moveTail_49 : decode cPr_moveTail 49 = .ok (.aload_n 0, 1) := by decide +kernel
theorem dPr_moveTail_50 : decode cPr_moveTail 50 = .ok (.getfield 22, 3) := by decide +kernel
theorem dPr_moveTail_53 : decode cPr_moveTail 53 = .ok (.iload_n 1, 1) := by decide +kernel
theorem dPr_moveTail_54 : decode cPr_moveTail 54 = .ok (.aload_n 0, 1) := by decide +kernel
theorem dPr_moveTail_55 : decode cPr_moveTail 55 = .ok (.getfield 22, 3) := by decide +kernel
theorem dPr_moveTail_58 : decode cPr_moveTail 58 = .ok (.iload_n 2, 1) := by decide +kernel
theorem dPr_moveTail_59 : decode cPr_moveTail 59 = .ok (.iload_n 3, 1) := by decide +kernel
theorem dPr_moveTail_60 : decode cPr_moveTail 60 = .ok (.invokestatic 32, 3) := by decide +kernel
theorem dPr_moveTail_63 : decode cPr_moveTail 63 = .ok (.aload_n 0, 1) := by decide +kernel
theorem dPr_moveTail_64 : decode cPr_moveTail 64 = .ok (.dup, 1) := by decide +kernel
theorem dPr_moveTail_65 : decode cPr_moveTail 65 = .ok (.getfield 25, 3) := by decide +kernel
theorem dPr_moveTail_68 : decode cPr_moveTail 68 = .ok (.iload_n 2, 1) := by decide +kernel
theorem dPr_moveTail_69 : decode cPr_moveTail 69 = .ok (.iload_n 1, 1) := by decide +kernel
theorem dPr_moveTail_70 : decode cPr_moveTail 70 = .ok (.isub, 1) := by decide +kernel
theorem dPr_moveTail_71 : decode cPr_moveTail 71 = .ok (.iadd, 1) := by decide +kernel
theorem dPr_moveTail_72 : decode cPr_moveTail 72 = .ok (.putfield 25, 3) := by decide +kernel
theorem dPr_moveTail_75 : decode cPr_moveTail 75 = .ok (.return_, 1) := by decide +kernel
def f_Pr_moveTail (i : Nat) (v1 : Int32) (v2 : Int32) (σ : Mem) : Option (Unit × Mem) :=
  lt_ ((σ.1 (cP i) 4) - v1) fun (x1 : Int32) =>
  gd (cpOk v1 v2 x1 40 40) (lt_ (rI σ (cPk i) (va_cpy (σ.1 (cPk i)) (σ.1 (cPk i)) v1.toNatClampNeg v2.toNatClampNeg x1.toNatClampNeg)) fun (σ3 : Mem) =>
  gd (cpOk v1 v2 x1 40 40) (lt_ (rI σ3 (cPf i) (va_cpy (σ3.1 (cPf i)) (σ3.1 (cPf i)) v1.toNatClampNeg v2.toNatClampNeg x1.toNatClampNeg)) fun (σ5 : Mem) =>
  gd (cpOk v1 v2 x1 40 40) (lt_ (rL σ5 (cPt i) (va_cpy (σ5.2 (cPt i)) (σ5.2 (cPt i)) v1.toNatClampNeg v2.toNatClampNeg x1.toNatClampNeg)) fun (σ7 : Mem) =>
  gd (cpOk v1 v2 x1 40 40) (lt_ (rI σ7 (cPl i) (va_cpy (σ7.1 (cPl i)) (σ7.1 (cPl i)) v1.toNatClampNeg v2.toNatClampNeg x1.toNatClampNeg)) fun (σ9 : Mem) =>
  lt_ (sI σ9 (cP i) 4 ((σ9.1 (cP i) 4) + (v2 - v1))) fun (σ10 : Mem) =>
  some ((), σ10)))))
set_option maxHeartbeats 4000000 in
set_option maxRecDepth 100000 in
theorem c_Pr_moveTail (l : Launch) (g : Gw) (hg : wInj g) {i : Nat} (hi : i < 17) {v1 : Int32} {v2 : Int32} {σ σ0 : Mem} (h : f_Pr_moveTail i v1 v2 σ = some ((), σ0)) : KV l yPr_moveTail cPr_moveTail 4 none 1 g [.ref (ad g (cP i)), .int v1, .int v2] σ σ0 := by
  refine q_met g hg (own := "TermBench$Program") rfl rfl (Nat.le_of_ble_eq_true rfl) (fun p e s m args below meth c R Q cx hRk hr hQ H locs ls hP hS hl => ?_)
  have hx := cx.1
  have hb := cx.2.1
  have hown := cx.2.2.2.1
  have hts := cx.2.2.2.2.1
  have hl : lv_has ls 4 [(0, .ref (ad g (cP i))), (1, .int v1), (2, .int v2)] := hl
  unfold f_Pr_moveTail at h
  refine lv_aload_n hx hb dPr_moveTail_0 rfl (lv_at hl 0 rfl) ?_
  refine g_Pr_size cx hP hi  t_45 dPr_moveTail_1 ?_
  refine lv_iload_n hx hb dPr_moveTail_4 rfl (lv_at hl 1 rfl) ?_
  refine lv_isub hx hb dPr_moveTail_5 ?_
  obtain ⟨x1, ex1, h⟩ := lt_some h
  refine q_nmi ex1 ?_
  refine lv_istore_n (lv' := [(3, .int x1), (0, .ref (ad g (cP i))), (1, .int v1), (2, .int v2)]) hx hb dPr_moveTail_6 rfl hl (Nat.le_of_ble_eq_true rfl) rfl (fun ls hl => ?_)
  refine lv_aload_n hx hb dPr_moveTail_7 rfl (lv_at hl 1 rfl) ?_
  refine g_Pr_kinds cx hP hi  t_33 dPr_moveTail_8 ?_
  refine lv_iload_n hx hb dPr_moveTail_11 rfl (lv_at hl 2 rfl) ?_
  refine lv_aload_n hx hb dPr_moveTail_12 rfl (lv_at hl 1 rfl) ?_
  refine g_Pr_kinds cx hP hi  t_33 dPr_moveTail_13 ?_
  refine lv_iload_n hx hb dPr_moveTail_16 rfl (lv_at hl 3 rfl) ?_
  refine lv_iload_n hx hb dPr_moveTail_17 rfl (lv_at hl 0 rfl) ?_
  obtain ⟨b2, h⟩ := gd_some h
  obtain ⟨σ3, eσ3, h⟩ := lt_some h
  refine q_copyi cx hP hS hRk t_198 N_copy (by omega) (l_cPk hi) (e_cPk g hi) (l_cPk hi) (e_cPk g hi) b2 hl.1 (Nat.le_of_ble_eq_true rfl) dPr_moveTail_18 eσ3 (fun H locs hP hS => ?_)
  refine lv_aload_n hx hb dPr_moveTail_21 rfl (lv_at hl 1 rfl) ?_
  refine g_Pr_figures cx hP hi  t_38 dPr_moveTail_22 ?_
  refine lv_iload_n hx hb dPr_moveTail_25 rfl (lv_at hl 2 rfl) ?_
  refine lv_aload_n hx hb dPr_moveTail_26 rfl (lv_at hl 1 rfl) ?_
  refine g_Pr_figures cx hP hi  t_38 dPr_moveTail_27 ?_
  refine lv_iload_n hx hb dPr_moveTail_30 rfl (lv_at hl 3 rfl) ?_
  refine lv_iload_n hx hb dPr_moveTail_31 rfl (lv_at hl 0 rfl) ?_
  obtain ⟨b4, h⟩ := gd_some h
  obtain ⟨σ5, eσ5, h⟩ := lt_some h
  refine q_copyi cx hP hS hRk t_198 N_copy (by omega) (l_cPf hi) (e_cPf g hi) (l_cPf hi) (e_cPf g hi) b4 hl.1 (Nat.le_of_ble_eq_true rfl) dPr_moveTail_32 eσ5 (fun H locs hP hS => ?_)
  refine lv_aload_n hx hb dPr_moveTail_35 rfl (lv_at hl 1 rfl) ?_
  refine g_Pr_types cx hP hi  t_41 dPr_moveTail_36 ?_
  refine lv_iload_n hx hb dPr_moveTail_39 rfl (lv_at hl 2 rfl) ?_
  refine lv_aload_n hx hb dPr_moveTail_40 rfl (lv_at hl 1 rfl) ?_
  refine g_Pr_types cx hP hi  t_41 dPr_moveTail_41 ?_
  refine lv_iload_n hx hb dPr_moveTail_44 rfl (lv_at hl 3 rfl) ?_
  refine lv_iload_n hx hb dPr_moveTail_45 rfl (lv_at hl 0 rfl) ?_
  obtain ⟨b6, h⟩ := gd_some h
  obtain ⟨σ7, eσ7, h⟩ := lt_some h
  refine q_copyl cx hP hS hRk t_198 N_copy (by omega) (l_cPt hi) (e_cPt g hi) (l_cPt hi) (e_cPt g hi) b6 hl.1 (Nat.le_of_ble_eq_true rfl) dPr_moveTail_46 eσ7 (fun H locs hP hS => ?_)
  refine lv_aload_n hx hb dPr_moveTail_49 rfl (lv_at hl 1 rfl) ?_
  refine g_Pr_levels cx hP hi  t_44 dPr_moveTail_50 ?_
  refine lv_iload_n hx hb dPr_moveTail_53 rfl (lv_at hl 2 rfl) ?_
  refine lv_aload_n hx hb dPr_moveTail_54 rfl (lv_at hl 1 rfl) ?_
  refine g_Pr_levels cx hP hi  t_44 dPr_moveTail_55 ?_
  refine lv_iload_n hx hb dPr_moveTail_58 rfl (lv_at hl 3 rfl) ?_
  refine lv_iload_n hx hb dPr_moveTail_59 rfl (lv_at hl 0 rfl) ?_
  obtain ⟨b8, h⟩ := gd_some h
  obtain ⟨σ9, eσ9, h⟩ := lt_some h
  refine q_copyi cx hP hS hRk t_198 N_copy (by omega) (l_cPl hi) (e_cPl g hi) (l_cPl hi) (e_cPl g hi) b8 hl.1 (Nat.le_of_ble_eq_true rfl) dPr_moveTail_60 eσ9 (fun H locs hP hS => ?_)
  refine lv_aload_n hx hb dPr_moveTail_63 rfl (lv_at hl 1 rfl) ?_
  refine lv_dup hx hb dPr_moveTail_64 rfl ?_
  refine g_Pr_size cx hP hi  t_45 dPr_moveTail_65 ?_
  refine lv_iload_n hx hb dPr_moveTail_68 rfl (lv_at hl 3 rfl) ?_
  refine lv_iload_n hx hb dPr_moveTail_69 rfl (lv_at hl 2 rfl) ?_
  refine lv_isub hx hb dPr_moveTail_70 ?_
  refine lv_iadd hx hb dPr_moveTail_71 ?_
  obtain ⟨σ10, eσ10, h⟩ := lt_some h
  refine p_Pr_size cx hP hS hi t_45 dPr_moveTail_72 eσ10 (fun H locs hP hS => ?_)
  exact q_rv cx hr hP hS hQ h dPr_moveTail_75
theorem dPr_wrap_0 : decode cPr_wrap 0 = .ok (.aload_n 0, 1) := by decide +kernel
theorem dPr_wrap_1 : decode cPr_wrap 1 = .ok (.aload_n 0, 1) := by decide +kernel
theorem dPr_wrap_2 : decode cPr_wrap 2 = .ok (.getfield 29, 3) := by decide +kernel
theorem dPr_wrap_5 : decode cPr_wrap 5 = .ok (.aload_n 0, 1) := by decide +kernel
theorem dPr_wrap_6 : decode cPr_wrap 6 = .ok (.aload_n 0, 1) := by decide +kernel
theorem dPr_wrap_7 : decode cPr_wrap 7 = .ok (.getfield 29, 3) := by decide +kernel
theorem dPr_wrap_10 : decode cPr_wrap 10 = .ok (.invokevirtual 38, 3) := by decide +kernel
theorem dPr_wrap_13 : decode cPr_wrap 13 = .ok (.iconst 1, 1) := by decide +kernel
theorem dPr_wrap_14 : decode cPr_wrap 14 = .ok (.invokevirtual 52, 3) := by decide +kernel
theorem dPr_wrap_17 : decode cPr_wrap 17 = .ok (.aload_n 0, 1) := by decide +kernel
theorem dPr_wrap_18 : decode cPr_wrap 18 = .ok (.getfield 22, 3) := by decide +kernel
theorem dPr_wrap_21 : decode cPr_wrap 21 = .ok (.aload_n 0, 1) := by decide +kernel
theorem dPr_wrap_22 : decode cPr_wrap 22 = .ok (.getfield 29, 3) := by decide +kernel
theorem dPr_wrap_25 : decode cPr_wrap 25 = .ok (.iaload, 1) := by decide +kernel
theorem dPr_wrap_26 : decode cPr_wrap 26 = .ok (.iconst 1, 1) := by decide +kernel
theorem dPr_wrap_27 : decode cPr_wrap 27 = .ok (.isub, 1) := by decide +kernel
theorem dPr_wrap_28 : decode cPr_wrap 28 = .ok (.istore 5, 2) := by decide +kernel
theorem dPr_wrap_30 : decode cPr_wrap 30 = .ok (.aload_n 0, 1) := by decide +kernel
theorem dPr_wrap_31 : decode cPr_wrap 31 = .ok (.aload_n 0, 1) := by decide +kernel
theorem dPr_wrap_32 : decode cPr_wrap 32 = .ok (.getfield 29, 3) := by decide +kernel
theorem dPr_wrap_35 : decode cPr_wrap 35 = .ok (.aload_n 0, 1) := by decide +kernel
theorem dPr_wrap_36 : decode cPr_wrap 36 = .ok (.getfield 29, 3) := by decide +kernel
theorem dPr_wrap_39 : decode cPr_wrap 39 = .ok (.iconst 1, 1) := by decide +kernel
theorem dPr_wrap_40 : decode cPr_wrap 40 = .ok (.iadd, 1) := by decide +kernel
theorem dPr_wrap_41 : decode cPr_wrap 41 = .ok (.invokevirtual 56, 3) := by decide +kernel
theorem dPr_wrap_44 : decode cPr_wrap 44 = .ok (.aload_n 0, 1) := by decide +kernel
theorem dPr_wrap_45 : decode cPr_wrap 45 = .ok (.aload_n 0, 1) := by decide +kernel
theorem dPr_wrap_46 : decode cPr_wrap 46 = .ok (.getfield 29, 3) := by decide +kernel
theorem dPr_wrap_49 : decode cPr_wrap 49 = .ok (.iload_n 1, 1) := by decide +kernel
theorem dPr_wrap_50 : decode cPr_wrap 50 = .ok (.iload_n 2, 1) := by decide +kernel
theorem dPr_wrap_51 : decode cPr_wrap 51 = .ok (.lload_n 3, 1) := by decide +kernel
theorem dPr_wrap_52 : decode cPr_wrap 52 = .ok (.invokevirtual 48, 3) := by decide +kernel
theorem dPr_wrap_55 : decode cPr_wrap 55 = .ok (.aload_n 0, 1) := by decide +kernel
theorem dPr_wrap_56 : decode cPr_wrap 56 = .ok (.getfield 22, 3) := by decide +kernel
theorem dPr_wrap_59 : decode cPr_wrap 59 = .ok (.aload_n 0, 1) := by decide +kernel
theorem dPr_wrap_60 : decode cPr_wrap 60 = .ok (.getfield 29, 3) := by decide +kernel
theorem dPr_wrap_63 : decode cPr_wrap 63 = .ok (.iload 5, 2) := by decide +kernel
theorem dPr_wrap_65 : decode cPr_wrap 65 = .ok (.iastore, 1) := by decide +kernel
theorem dPr_wrap_66 : decode cPr_wrap 66 = .ok (.aload_n 0, 1) := by decide +kernel
theorem dPr_wrap_67 : decode cPr_wrap 67 = .ok (.dup, 1) := by decide +kernel
theorem dPr_wrap_68 : decode cPr_wrap 68 = .ok (.getfield 29, 3) := by decide +kernel
theorem dPr_wrap_71 : decode cPr_wrap 71 = .ok (.iconst 1, 1) := by decide +kernel
theorem dPr_wrap_72 : decode cPr_wrap 72 = .ok (.iadd, 1) := by decide +kernel
theorem dPr_wrap_73 : decode cPr_wrap 73 = .ok (.putfield 29, 3) := by decide +kernel
theorem dPr_wrap_76 : decode cPr_wrap 76 = .ok (.return_, 1) := by decide +kernel
def f_Pr_wrap (i : Nat) (v1 : Int32) (v2 : Int32) (v3 : Int64) (σ : Mem) : Option (Unit × Mem) :=
  bn (f_Pr_end i (σ.1 (cP i) 5) σ) fun (r3 : Int32) (σ2 : Mem) =>
  bn (f_Pr_shiftLevels i (σ.1 (cP i) 5) r3 (1 : Int32) σ2) fun (_ : Unit) (σ5 : Mem) =>
  gd (inb (σ5.1 (cP i) 5) 40) (
  lt_ ((σ5.1 (cPl i) (σ5.1 (cP i) 5).toNatClampNeg) - (1 : Int32)) fun (x7 : Int32) =>
  bn (f_Pr_moveTail i (σ5.1 (cP i) 5) ((σ5.1 (cP i) 5) + (1 : Int32)) σ5) fun (_ : Unit) (σ9 : Mem) =>
  bn (f_Pr_write i (σ9.1 (cP i) 5) v1 v2 v3 σ9) fun (_ : Unit) (σ11 : Mem) =>
  gd (inb (σ11.1 (cP i) 5) 40) (lt_ (sI σ11 (cPl i) (σ11.1 (cP i) 5).toNatClampNeg x7) fun (σ13 : Mem) =>
  lt_ (sI σ13 (cP i) 5 ((σ13.1 (cP i) 5) + (1 : Int32))) fun (σ14 : Mem) =>
  some ((), σ14)))
set_option maxHeartbeats 4000000 in
set_option maxRecDepth 100000 in
theorem c_Pr_wrap (l : Launch) (g : Gw) (hg : wInj g) {i : Nat} (hi : i < 17) {v1 : Int32} {v2 : Int32} {v3 : Int64} {σ σ0 : Mem} (h : f_Pr_wrap i v1 v2 v3 σ = some ((), σ0)) : KV l yPr_wrap cPr_wrap 6 none 2 g [.ref (ad g (cP i)), .int v1, .int v2, .long v3] σ σ0 := by
  refine q_met g hg (own := "TermBench$Program") rfl rfl (Nat.le_of_ble_eq_true rfl) (fun p e s m args below meth c R Q cx hRk hr hQ H locs ls hP hS hl => ?_)
  have hx := cx.1
  have hb := cx.2.1
  have hown := cx.2.2.2.1
  have hts := cx.2.2.2.2.1
  have hl : lv_has ls 6 [(0, .ref (ad g (cP i))), (1, .int v1), (2, .int v2), (3, .long v3)] := hl
  unfold f_Pr_wrap at h
  refine lv_aload_n hx hb dPr_wrap_0 rfl (lv_at hl 0 rfl) ?_
  refine lv_aload_n hx hb dPr_wrap_1 rfl (lv_at hl 0 rfl) ?_
  refine g_Pr_cursor cx hP hi  t_48 dPr_wrap_2 ?_
  refine lv_aload_n hx hb dPr_wrap_5 rfl (lv_at hl 0 rfl) ?_
  refine lv_aload_n hx hb dPr_wrap_6 rfl (lv_at hl 0 rfl) ?_
  refine g_Pr_cursor cx hP hi  t_48 dPr_wrap_7 ?_
  obtain ⟨r3, σ2, h1, h⟩ := bn_some h
  refine q_cVi (rest := [.int (σ.1 (cP i) 5), .ref (ad g (cP i))]) (As := [.int (σ.1 (cP i) 5)]) cx hP hS hRk (c_Pr_end l g hg hi h1) Y_Pr_end V_Pr_end t_228 (by decide) (l_cP hi) (e_cP g hi _ _) rfl rfl hl.1 rfl (Nat.le_of_ble_eq_true rfl) dPr_wrap_10 (fun H locs hP hS => ?_)
  refine lv_iconst (v := 1) hx hb dPr_wrap_13 (by decide) ?_
  obtain ⟨rh4, σ5, h4, h⟩ := bn_some h
  refine q_cVv (rest := []) (As := [.int (σ.1 (cP i) 5), .int r3, .int (1 : Int32)]) cx hP hS hRk (c_Pr_shiftLevels l g hg hi h4) Y_Pr_shiftLevels V_Pr_shiftLevels t_243 (by decide) (l_cP hi) (e_cP g hi _ _) rfl rfl hl.1 rfl (Nat.le_of_ble_eq_true rfl) dPr_wrap_14 (fun H locs hP hS => ?_)
  refine lv_aload_n hx hb dPr_wrap_17 rfl (lv_at hl 0 rfl) ?_
  refine g_Pr_levels cx hP hi  t_44 dPr_wrap_18 ?_
  refine lv_aload_n hx hb dPr_wrap_21 rfl (lv_at hl 0 rfl) ?_
  refine g_Pr_cursor cx hP hi  t_48 dPr_wrap_22 ?_
  obtain ⟨b6, h⟩ := gd_some h
  refine q_iald cx hP (l_cPl hi) (e_cPl g hi) b6 dPr_wrap_25 ?_
  refine lv_iconst (v := 1) hx hb dPr_wrap_26 (by decide) ?_
  refine lv_isub hx hb dPr_wrap_27 ?_
  obtain ⟨x7, ex7, h⟩ := lt_some h
  refine q_nmi ex7 ?_
  refine lv_istore (lv' := [(5, .int x7), (0, .ref (ad g (cP i))), (1, .int v1), (2, .int v2), (3, .long v3)]) hx hb dPr_wrap_28 hl (Nat.le_of_ble_eq_true rfl) rfl (fun ls hl => ?_)
  refine lv_aload_n hx hb dPr_wrap_30 rfl (lv_at hl 1 rfl) ?_
  refine lv_aload_n hx hb dPr_wrap_31 rfl (lv_at hl 1 rfl) ?_
  refine g_Pr_cursor cx hP hi  t_48 dPr_wrap_32 ?_
  refine lv_aload_n hx hb dPr_wrap_35 rfl (lv_at hl 1 rfl) ?_
  refine g_Pr_cursor cx hP hi  t_48 dPr_wrap_36 ?_
  refine lv_iconst (v := 1) hx hb dPr_wrap_39 (by decide) ?_
  refine lv_iadd hx hb dPr_wrap_40 ?_
  obtain ⟨rh8, σ9, h8, h⟩ := bn_some h
  refine q_cVv (rest := []) (As := [.int (σ5.1 (cP i) 5), .int ((σ5.1 (cP i) 5) + (1 : Int32))]) cx hP hS hRk (c_Pr_moveTail l g hg hi h8) Y_Pr_moveTail V_Pr_moveTail t_247 (by decide) (l_cP hi) (e_cP g hi _ _) rfl rfl hl.1 rfl (Nat.le_of_ble_eq_true rfl) dPr_wrap_41 (fun H locs hP hS => ?_)
  refine lv_aload_n hx hb dPr_wrap_44 rfl (lv_at hl 1 rfl) ?_
  refine lv_aload_n hx hb dPr_wrap_45 rfl (lv_at hl 1 rfl) ?_
  refine g_Pr_cursor cx hP hi  t_48 dPr_wrap_46 ?_
  refine lv_iload_n hx hb dPr_wrap_49 rfl (lv_at hl 2 rfl) ?_
  refine lv_iload_n hx hb dPr_wrap_50 rfl (lv_at hl 3 rfl) ?_
  refine lv_lload_n hx hb dPr_wrap_51 rfl (lv_at hl 4 rfl) ?_
  obtain ⟨rh10, σ11, h10, h⟩ := bn_some h
  refine q_cVv (rest := []) (As := [.int (σ9.1 (cP i) 5), .int v1, .int v2, .long v3]) cx hP hS hRk (c_Pr_write l g hg hi h10) Y_Pr_write V_Pr_write t_205 (by decide) (l_cP hi) (e_cP g hi _ _) rfl rfl hl.1 rfl (Nat.le_of_ble_eq_true rfl) dPr_wrap_52 (fun H locs hP hS => ?_)
  refine lv_aload_n hx hb dPr_wrap_55 rfl (lv_at hl 1 rfl) ?_
  refine g_Pr_levels cx hP hi  t_44 dPr_wrap_56 ?_
  refine lv_aload_n hx hb dPr_wrap_59 rfl (lv_at hl 1 rfl) ?_
  refine g_Pr_cursor cx hP hi  t_48 dPr_wrap_60 ?_
  refine lv_iload hx hb dPr_wrap_63 (lv_at hl 0 rfl) ?_
  obtain ⟨b12, h⟩ := gd_some h
  obtain ⟨σ13, eσ13, h⟩ := lt_some h
  refine q_iast cx hP hS (l_cPl hi) (e_cPl g hi) b12 dPr_wrap_65 eσ13 (fun H locs hP hS => ?_)
  refine lv_aload_n hx hb dPr_wrap_66 rfl (lv_at hl 1 rfl) ?_
  refine lv_dup hx hb dPr_wrap_67 rfl ?_
  refine g_Pr_cursor cx hP hi  t_48 dPr_wrap_68 ?_
  refine lv_iconst (v := 1) hx hb dPr_wrap_71 (by decide) ?_
  refine lv_iadd hx hb dPr_wrap_72 ?_
  obtain ⟨σ14, eσ14, h⟩ := lt_some h
  refine p_Pr_cursor cx hP hS hi t_48 dPr_wrap_73 eσ14 (fun H locs hP hS => ?_)
  exact q_rv cx hr hP hS hQ h dPr_wrap_76
theorem dPr_join_0 : decode cPr_join 0 = .ok (.aload_n 0, 1) := by decide +kernel
theorem dPr_join_1 : decode cPr_join 1 = .ok (.getfield 29, 3) := by decide +kernel
theorem dPr_join_4 : decode cPr_join 4 = .ok (.istore_n 3, 1) := by decide +kernel
theorem dPr_join_5 : decode cPr_join 5 = .ok (.aload_n 0, 1) := by decide +kernel
theorem dPr_join_6 : decode cPr_join 6 = .ok (.iload_n 1, 1) := by decide +kernel
theorem dPr_join_7 : decode cPr_join 7 = .ok (.iconst 0, 1) := by decide +kernel
theorem dPr_join_8 : decode cPr_join 8 = .ok (.lconst 0, 1) := by decide +kernel
theorem dPr_join_9 : decode cPr_join 9 = .ok (.invokevirtual 60, 3) := by decide +kernel
theorem dPr_join_12 : decode cPr_join 12 = .ok (.iload_n 2, 1) := by decide +kernel
theorem dPr_join_13 : decode cPr_join 13 = .ok (.ifCond .eq 9, 3) := by decide +kernel
theorem dPr_join_16 : decode cPr_join 16 = .ok (.iload_n 3, 1) := by decide +kernel
theorem dPr_join_17 : decode cPr_join 17 = .ok (.iconst 1, 1) := by decide +kernel
theorem dPr_join_18 : decode cPr_join 18 = .ok (.iadd, 1) := by decide +kernel
theorem dPr_join_19 : decode cPr_join 19 = .ok (.goto 8, 3) := by decide +kernel
theorem dPr_join_22 : decode cPr_join 22 = .ok (.aload_n 0, 1) := by decide +kernel
theorem dPr_join_23 : decode cPr_join 23 = .ok (.iload_n 3, 1) := by decide +kernel
theorem dPr_join_24 : decode cPr_join 24 = .ok (.invokevirtual 38, 3) := by decide +kernel
theorem dPr_join_27 : decode cPr_join 27 = .ok (.istore 4, 2) := by decide +kernel
theorem dPr_join_29 : decode cPr_join 29 = .ok (.aload_n 0, 1) := by decide +kernel
theorem dPr_join_30 : decode cPr_join 30 = .ok (.iload 4, 2) := by decide +kernel
theorem dPr_join_32 : decode cPr_join 32 = .ok (.iload 4, 2) := by decide +kernel
theorem dPr_join_34 : decode cPr_join 34 = .ok (.iconst 1, 1) := by decide +kernel
theorem dPr_join_35 : decode cPr_join 35 = .ok (.iadd, 1) := by decide +kernel
theorem dPr_join_36 : decode cPr_join 36 = .ok (.invokevirtual 56, 3) := by decide +kernel
theorem dPr_join_39 : decode cPr_join 39 = .ok (.aload_n 0, 1) := by decide +kernel
theorem dPr_join_40 : decode cPr_join 40 = .ok (.iload 4, 2) := by decide +kernel
theorem dPr_join_42 : decode cPr_join 42 = .ok (.iconst 0, 1) := by decide +kernel
theorem dPr_join_43 : decode cPr_join 43 = .ok (.iconst 0, 1) := by decide +kernel
theorem dPr_join_44 : decode cPr_join 44 = .ok (.lconst 0, 1) := by decide +kernel
theorem dPr_join_45 : decode cPr_join 45 = .ok (.invokevirtual 48, 3) := by decide +kernel
theorem dPr_join_48 : decode cPr_join 48 = .ok (.aload_n 0, 1) := by decide +kernel
theorem dPr_join_49 : decode cPr_join 49 = .ok (.getfield 22, 3) := by decide +kernel
theorem dPr_join_52 : decode cPr_join 52 = .ok (.iload 4, 2) := by decide +kernel
theorem dPr_join_54 : decode cPr_join 54 = .ok (.aload_n 0, 1) := by decide +kernel
theorem dPr_join_55 : decode cPr_join 55 = .ok (.getfield 22, 3) := by decide +kernel
theorem dPr_join_58 : decode cPr_join 58 = .ok (.iload_n 3, 1) := by decide +kernel
theorem dPr_join_59 : decode cPr_join 59 = .ok (.iaload, 1) := by decide +kernel
theorem dPr_join_60 : decode cPr_join 60 = .ok (.iconst 1, 1) := by decide +kernel
theorem dPr_join_61 : decode cPr_join 61 = .ok (.iadd, 1) := by decide +kernel
theorem dPr_join_62 : decode cPr_join 62 = .ok (.iastore, 1) := by decide +kernel
theorem dPr_join_63 : decode cPr_join 63 = .ok (.aload_n 0, 1) := by decide +kernel
theorem dPr_join_64 : decode cPr_join 64 = .ok (.iload 4, 2) := by decide +kernel
theorem dPr_join_66 : decode cPr_join 66 = .ok (.putfield 29, 3) := by decide +kernel
theorem dPr_join_69 : decode cPr_join 69 = .ok (.return_, 1) := by decide +kernel
def f_Pr_join_J27 (i : Nat) (v1 : Int32) (v2 : Int32) (v3 : Int32) (u0 : Int32) (σ : Mem) : Option (Unit × Mem) :=
  bn (f_Pr_moveTail i u0 (u0 + (1 : Int32)) σ) fun (_ : Unit) (σ2 : Mem) =>
  bn (f_Pr_write i u0 (0 : Int32) (0 : Int32) (0 : Int64) σ2) fun (_ : Unit) (σ4 : Mem) =>
  gd (inb v3 40) (
  gd (inb u0 40) (lt_ (sI σ4 (cPl i) u0.toNatClampNeg ((σ4.1 (cPl i) v3.toNatClampNeg) + (1 : Int32))) fun (σ7 : Mem) =>
  lt_ (sI σ7 (cP i) 5 u0) fun (σ8 : Mem) =>
  some ((), σ8)))
def f_Pr_join (i : Nat) (v1 : Int32) (v2 : Int32) (σ : Mem) : Option (Unit × Mem) :=
  lt_ (σ.1 (cP i) 5) fun (x9 : Int32) =>
  bn (f_Pr_wrap i v1 (0 : Int32) (0 : Int64) σ) fun (_ : Unit) (σ11 : Mem) =>
  if v2 = 0 then (
  bn (f_Pr_end i x9 σ11) fun (r14 : Int32) (σ13 : Mem) =>
  f_Pr_join_J27 i v1 v2 x9 r14 σ13)
  else (
  f_Pr_join_J27 i v1 v2 x9 (x9 + (1 : Int32)) σ11)
set_option maxHeartbeats 4000000 in
set_option maxRecDepth 100000 in
theorem c_Pr_join (l : Launch) (g : Gw) (hg : wInj g) {i : Nat} (hi : i < 17) {v1 : Int32} {v2 : Int32} {σ σ0 : Mem} (h : f_Pr_join i v1 v2 σ = some ((), σ0)) : KV l yPr_join cPr_join 5 none 3 g [.ref (ad g (cP i)), .int v1, .int v2] σ σ0 := by
  refine q_met g hg (own := "TermBench$Program") rfl rfl (Nat.le_of_ble_eq_true rfl) (fun p e s m args below meth c R Q cx hRk hr hQ H locs ls hP hS hl => ?_)
  have hx := cx.1
  have hb := cx.2.1
  have hown := cx.2.2.2.1
  have hts := cx.2.2.2.2.1
  have hl : lv_has ls 5 [(0, .ref (ad g (cP i))), (1, .int v1), (2, .int v2)] := hl
  have J27 : ∀ (v1 : Int32) (v2 : Int32) (v3 : Int32) (u0 : Int32) (σ : Mem), f_Pr_join_J27 i v1 v2 v3 u0 σ = some ((), σ0) → ∀ (H : Heap) (locs : List Loc) (ls : Array Slot), lv_has ls 5 [(0, .ref (ad g (cP i))), (1, .int v1), (2, .int v2), (3, .int v3)] → Wd g σ H → va_S (wA g) s.heap H locs → W p l e R s m args below meth c H locs 0 0 Q (F0 m 27 ls [.int u0]) := by
    intro v1 v2 v3 u0 σ h H locs ls hl hP hS
    unfold f_Pr_join_J27 at h
    refine lv_istore (lv' := [(4, .int u0), (0, .ref (ad g (cP i))), (1, .int v1), (2, .int v2), (3, .int v3)]) hx hb dPr_join_27 hl (Nat.le_of_ble_eq_true rfl) rfl (fun ls hl => ?_)
    refine lv_aload_n hx hb dPr_join_29 rfl (lv_at hl 1 rfl) ?_
    refine lv_iload hx hb dPr_join_30 (lv_at hl 0 rfl) ?_
    refine lv_iload hx hb dPr_join_32 (lv_at hl 0 rfl) ?_
    refine lv_iconst (v := 1) hx hb dPr_join_34 (by decide) ?_
    refine lv_iadd hx hb dPr_join_35 ?_
    obtain ⟨rh1, σ2, h1, h⟩ := bn_some h
    refine q_cVv (rest := []) (As := [.int u0, .int (u0 + (1 : Int32))]) cx hP hS hRk (c_Pr_moveTail l g hg hi h1) Y_Pr_moveTail V_Pr_moveTail t_247 (by decide) (l_cP hi) (e_cP g hi _ _) rfl rfl hl.1 rfl (Nat.le_of_ble_eq_true rfl) dPr_join_36 (fun H locs hP hS => ?_)
    refine lv_aload_n hx hb dPr_join_39 rfl (lv_at hl 1 rfl) ?_
    refine lv_iload hx hb dPr_join_40 (lv_at hl 0 rfl) ?_
    refine lv_iconst (v := 0) hx hb dPr_join_42 (by decide) ?_
    refine lv_iconst (v := 0) hx hb dPr_join_43 (by decide) ?_
    refine lv_lconst (v := 0) hx hb dPr_join_44 rfl ?_
    obtain ⟨rh3, σ4, h3, h⟩ := bn_some h
    refine q_cVv (rest := []) (As := [.int u0, .int (0 : Int32), .int (0 : Int32), .long (0 : Int64)]) cx hP hS hRk (c_Pr_write l g hg hi h3) Y_Pr_write V_Pr_write t_205 (by decide) (l_cP hi) (e_cP g hi _ _) rfl rfl hl.1 rfl (Nat.le_of_ble_eq_true rfl) dPr_join_45 (fun H locs hP hS => ?_)
    refine lv_aload_n hx hb dPr_join_48 rfl (lv_at hl 1 rfl) ?_
    refine g_Pr_levels cx hP hi  t_44 dPr_join_49 ?_
    refine lv_iload hx hb dPr_join_52 (lv_at hl 0 rfl) ?_
    refine lv_aload_n hx hb dPr_join_54 rfl (lv_at hl 1 rfl) ?_
    refine g_Pr_levels cx hP hi  t_44 dPr_join_55 ?_
    refine lv_iload_n hx hb dPr_join_58 rfl (lv_at hl 4 rfl) ?_
    obtain ⟨b5, h⟩ := gd_some h
    refine q_iald cx hP (l_cPl hi) (e_cPl g hi) b5 dPr_join_59 ?_
    refine lv_iconst (v := 1) hx hb dPr_join_60 (by decide) ?_
    refine lv_iadd hx hb dPr_join_61 ?_
    obtain ⟨b6, h⟩ := gd_some h
    obtain ⟨σ7, eσ7, h⟩ := lt_some h
    refine q_iast cx hP hS (l_cPl hi) (e_cPl g hi) b6 dPr_join_62 eσ7 (fun H locs hP hS => ?_)
    refine lv_aload_n hx hb dPr_join_63 rfl (lv_at hl 1 rfl) ?_
    refine lv_iload hx hb dPr_join_64 (lv_at hl 0 rfl) ?_
    obtain ⟨σ8, eσ8, h⟩ := lt_some h
    refine p_Pr_cursor cx hP hS hi t_48 dPr_join_66 eσ8 (fun H locs hP hS => ?_)
    exact q_rv cx hr hP hS hQ h dPr_join_69
  unfold f_Pr_join at h
  refine lv_aload_n hx hb dPr_join_0 rfl (lv_at hl 0 rfl) ?_
  refine g_Pr_cursor cx hP hi  t_48 dPr_join_1 ?_
  obtain ⟨x9, ex9, h⟩ := lt_some h
  refine q_nmi ex9 ?_
  refine lv_istore_n (lv' := [(3, .int x9), (0, .ref (ad g (cP i))), (1, .int v1), (2, .int v2)]) hx hb dPr_join_4 rfl hl (Nat.le_of_ble_eq_true rfl) rfl (fun ls hl => ?_)
  refine lv_aload_n hx hb dPr_join_5 rfl (lv_at hl 1 rfl) ?_
  refine lv_iload_n hx hb dPr_join_6 rfl (lv_at hl 2 rfl) ?_
  refine lv_iconst (v := 0) hx hb dPr_join_7 (by decide) ?_
  refine lv_lconst (v := 0) hx hb dPr_join_8 rfl ?_
  obtain ⟨rh10, σ11, h10, h⟩ := bn_some h
  refine q_cVv (rest := []) (As := [.int v1, .int (0 : Int32), .long (0 : Int64)]) cx hP hS hRk (c_Pr_wrap l g hg hi h10) Y_Pr_wrap V_Pr_wrap t_239 (by decide) (l_cP hi) (e_cP g hi _ _) rfl rfl hl.1 rfl (Nat.le_of_ble_eq_true rfl) dPr_join_9 (fun H locs hP hS => ?_)
  refine lv_iload_n hx hb dPr_join_12 rfl (lv_at hl 3 rfl) ?_
  refine lv_if_eq (tgt := 22) hx hb dPr_join_13 (by decide) (fun hc => ?_) (fun hc => ?_)
  · replace h := if_t h hc
    refine lv_aload_n hx hb dPr_join_22 rfl (lv_at hl 1 rfl) ?_
    refine lv_iload_n hx hb dPr_join_23 rfl (lv_at hl 0 rfl) ?_
    obtain ⟨r14, σ13, h12, h⟩ := bn_some h
    refine q_cVi (rest := []) (As := [.int x9]) cx hP hS hRk (c_Pr_end l g hg hi h12) Y_Pr_end V_Pr_end t_228 (by decide) (l_cP hi) (e_cP g hi _ _) rfl rfl hl.1 rfl (Nat.le_of_ble_eq_true rfl) dPr_join_24 (fun H locs hP hS => ?_)
    exact J27 _ _ _ _ _ h _ _ _ (lv_sub hl [1, 2, 3, 0] rfl) hP hS
  · replace h := if_f h hc
    refine lv_iload_n hx hb dPr_join_16 rfl (lv_at hl 0 rfl) ?_
    refine lv_iconst (v := 1) hx hb dPr_join_17 (by decide) ?_
    refine lv_iadd hx hb dPr_join_18 ?_
    refine lv_goto (tgt := 27) hx hb dPr_join_19 (by decide) ?_
    exact J27 _ _ _ _ _ h _ _ _ (lv_sub hl [1, 2, 3, 0] rfl) hP hS
theorem dPr_empty_0 : decode cPr_empty 0 = .ok (.aload_n 0, 1) := by decide +kernel
theorem dPr_empty_1 : decode cPr_empty 1 = .ok (.aload_n 0, 1) := by decide +kernel
theorem dPr_empty_2 : decode cPr_empty 2 = .ok (.aload_n 0, 1) := by decide +kernel
theorem dPr_empty_3 : decode cPr_empty 3 = .ok (.getfield 29, 3) := by decide +kernel
theorem dPr_empty_6 : decode cPr_empty 6 = .ok (.invokevirtual 38, 3) := by decide +kernel
theorem dPr_empty_9 : decode cPr_empty 9 = .ok (.aload_n 0, 1) := by decide +kernel
theorem dPr_empty_10 : decode cPr_empty 10 = .ok (.getfield 29, 3) := by decide +kernel
theorem dPr_empty_13 : decode cPr_empty 13 = .ok (.iconst 1, 1) := by decide +kernel
theorem dPr_empty_14 : decode cPr_empty 14 = .ok (.iadd, 1) := by decide +kernel
theorem dPr_empty_15 : decode cPr_empty 15 = .ok (.invokevirtual 56, 3) := by decide +kernel
theorem dPr_empty_18 : decode cPr_empty 18 = .ok (.aload_n 0, 1) := by decide +kernel
theorem dPr_empty_19 : decode cPr_empty 19 = .ok (.aload_n 0, 1) := by decide +kernel
theorem dPr_empty_20 : decode cPr_empty 20 = .ok (.getfield 29, 3) := by decide +kernel
theorem dPr_empty_23 : decode cPr_empty 23 = .ok (.iconst 0, 1) := by decide +kernel
theorem dPr_empty_24 : decode cPr_empty 24 = .ok (.iconst 0, 1) := by decide +kernel
theorem dPr_empty_25 : decode cPr_empty 25 = .ok (.lconst 0, 1) := by decide +kernel
theorem dPr_empty_26 : decode cPr_empty 26 = .ok (.invokevirtual 48, 3) := by decide +kernel
theorem dPr_empty_29 : decode cPr_empty 29 = .ok (.return_, 1) := by decide +kernel
def f_Pr_empty (i : Nat)  (σ : Mem) : Option (Unit × Mem) :=
  bn (f_Pr_end i (σ.1 (cP i) 5) σ) fun (r3 : Int32) (σ2 : Mem) =>
  bn (f_Pr_moveTail i r3 ((σ2.1 (cP i) 5) + (1 : Int32)) σ2) fun (_ : Unit) (σ5 : Mem) =>
  bn (f_Pr_write i (σ5.1 (cP i) 5) (0 : Int32) (0 : Int32) (0 : Int64) σ5) fun (_ : Unit) (σ7 : Mem) =>
  some ((), σ7)
set_option maxHeartbeats 4000000 in
set_option maxRecDepth 100000 in
theorem c_Pr_empty (l : Launch) (g : Gw) (hg : wInj g) {i : Nat} (hi : i < 17) {σ σ0 : Mem} (h : f_Pr_empty i σ = some ((), σ0)) : KV l yPr_empty cPr_empty 1 none 2 g [.ref (ad g (cP i))] σ σ0 := by
  refine q_met g hg (own := "TermBench$Program") rfl rfl (Nat.le_of_ble_eq_true rfl) (fun p e s m args below meth c R Q cx hRk hr hQ H locs ls hP hS hl => ?_)
  have hx := cx.1
  have hb := cx.2.1
  have hown := cx.2.2.2.1
  have hts := cx.2.2.2.2.1
  have hl : lv_has ls 1 [(0, .ref (ad g (cP i)))] := hl
  unfold f_Pr_empty at h
  refine lv_aload_n hx hb dPr_empty_0 rfl (lv_at hl 0 rfl) ?_
  refine lv_aload_n hx hb dPr_empty_1 rfl (lv_at hl 0 rfl) ?_
  refine lv_aload_n hx hb dPr_empty_2 rfl (lv_at hl 0 rfl) ?_
  refine g_Pr_cursor cx hP hi  t_48 dPr_empty_3 ?_
  obtain ⟨r3, σ2, h1, h⟩ := bn_some h
  refine q_cVi (rest := [.ref (ad g (cP i))]) (As := [.int (σ.1 (cP i) 5)]) cx hP hS hRk (c_Pr_end l g hg hi h1) Y_Pr_end V_Pr_end t_228 (by decide) (l_cP hi) (e_cP g hi _ _) rfl rfl hl.1 rfl (Nat.le_of_ble_eq_true rfl) dPr_empty_6 (fun H locs hP hS => ?_)
  refine lv_aload_n hx hb dPr_empty_9 rfl (lv_at hl 0 rfl) ?_
  refine g_Pr_cursor cx hP hi  t_48 dPr_empty_10 ?_
  refine lv_iconst (v := 1) hx hb dPr_empty_13 (by decide) ?_
  refine lv_iadd hx hb dPr_empty_14 ?_
  obtain ⟨rh4, σ5, h4, h⟩ := bn_some h
  refine q_cVv (rest := []) (As := [.int r3, .int ((σ2.1 (cP i) 5) + (1 : Int32))]) cx hP hS hRk (c_Pr_moveTail l g hg hi h4) Y_Pr_moveTail V_Pr_moveTail t_247 (by decide) (l_cP hi) (e_cP g hi _ _) rfl rfl hl.1 rfl (Nat.le_of_ble_eq_true rfl) dPr_empty_15 (fun H locs hP hS => ?_)
  refine lv_aload_n hx hb dPr_empty_18 rfl (lv_at hl 0 rfl) ?_
  refine lv_aload_n hx hb dPr_empty_19 rfl (lv_at hl 0 rfl) ?_
  refine g_Pr_cursor cx hP hi  t_48 dPr_empty_20 ?_
  refine lv_iconst (v := 0) hx hb dPr_empty_23 (by decide) ?_
  refine lv_iconst (v := 0) hx hb dPr_empty_24 (by decide) ?_
  refine lv_lconst (v := 0) hx hb dPr_empty_25 rfl ?_
  obtain ⟨rh6, σ7, h6, h⟩ := bn_some h
  refine q_cVv (rest := []) (As := [.int (σ5.1 (cP i) 5), .int (0 : Int32), .int (0 : Int32), .long (0 : Int64)]) cx hP hS hRk (c_Pr_write l g hg hi h6) Y_Pr_write V_Pr_write t_205 (by decide) (l_cP hi) (e_cP g hi _ _) rfl rfl hl.1 rfl (Nat.le_of_ble_eq_true rfl) dPr_empty_26 (fun H locs hP hS => ?_)
  exact q_rv cx hr hP hS hQ h dPr_empty_29
theorem dPr_parent_0 : decode cPr_parent 0 = .ok (.iload_n 1, 1) := by decide +kernel
theorem dPr_parent_1 : decode cPr_parent 1 = .ok (.iconst 1, 1) := by decide +kernel
theorem dPr_parent_2 : decode cPr_parent 2 = .ok (.isub, 1) := by decide +kernel
theorem dPr_parent_3 : decode cPr_parent 3 = .ok (.istore_n 2, 1) := by decide +kernel
theorem dPr_parent_4 : decode cPr_parent 4 = .ok (.iload_n 2, 1) := by decide +kernel
theorem dPr_parent_5 : decode cPr_parent 5 = .ok (.ifCond .lt 26, 3) := by decide +kernel
theorem dPr_parent_8 : decode cPr_parent 8 = .ok (.aload_n 0, 1) := by decide +kernel
theorem dPr_parent_9 : decode cPr_parent 9 = .ok (.getfield 22, 3) := by decide +kernel
theorem dPr_parent_12 : decode cPr_parent 12 = .ok (.iload_n 2, 1) := by decide +kernel
theorem dPr_parent_13 : decode cPr_parent 13 = .ok (.iaload, 1) := by decide +kernel
theorem dPr_parent_14 : decode cPr_parent 14 = .ok (.aload_n 0, 1) := by decide +kernel
theorem dPr_parent_15 : decode cPr_parent 15 = .ok (.getfield 22, 3) := by decide +kernel
theorem dPr_parent_18 : decode cPr_parent 18 = .ok (.iload_n 1, 1) := by decide +kernel
theorem dPr_parent_19 : decode cPr_parent 19 = .ok (.iaload, 1) := by decide +kernel
theorem dPr_parent_20 : decode cPr_parent 20 = .ok (.if_icmp .ge 5, 3) := by decide +kernel
theorem dPr_parent_23 : decode cPr_parent 23 = .ok (.iload_n 2, 1) := by decide +kernel
theorem dPr_parent_24 : decode cPr_parent 24 = .ok (.ireturn, 1) := by decide +kernel
theorem dPr_parent_25 : decode cPr_parent 25 = .ok (.iinc 2 (-1), 3) := by decide +kernel
theorem dPr_parent_28 : decode cPr_parent 28 = .ok (.goto (-24), 3) := by decide +kernel
theorem dPr_parent_31 : decode cPr_parent 31 = .ok (.iconst (-1), 1) := by decide +kernel
theorem dPr_parent_32 : decode cPr_parent 32 = .ok (.ireturn, 1) := by decide +kernel
def f_Pr_parent_L4 (i : Nat) (v1 : Int32) (v2 : Int32) (σ : Mem) : Option ((Int32 × Mem) ⊕ (Int32 × Mem)) :=
  if v2 < 0 then (
  inrM (some (((-1) : Int32), σ)))
  else (
  gd (inb v2 40) (
  gd (inb v1 40) (
  if (σ.1 (cPl i) v1.toNatClampNeg) ≤ (σ.1 (cPl i) v2.toNatClampNeg) then (
  lt_ (v2 + (-1)) fun (x4 : Int32) =>
  some (.inl (x4, σ)))
  else (
  inrM (some (v2, σ))))))
def f_Pr_parent (i : Nat) (v1 : Int32) (σ : Mem) : Option (Int32 × Mem) :=
  lt_ (v1 - (1 : Int32)) fun (x6 : Int32) =>
  loopF (fun (q : (Int32 × Mem)) => f_Pr_parent_L4 i v1 q.1 q.2) FU (x6, σ)
set_option maxHeartbeats 4000000 in
set_option maxRecDepth 100000 in
theorem c_Pr_parent (l : Launch) (g : Gw) (hg : wInj g) {i : Nat} (hi : i < 17) {v1 : Int32} {r0 : Int32} {σ σ0 : Mem} (h : f_Pr_parent i v1 σ = some (r0, σ0)) : KI l yPr_parent cPr_parent 3 (some .int) 0 g [.ref (ad g (cP i)), .int v1] σ r0 σ0 := by
  refine q_met g hg (own := "TermBench$Program") rfl rfl (Nat.le_of_ble_eq_true rfl) (fun p e s m args below meth c R Q cx hRk hr hQ H locs ls hP hS hl => ?_)
  have hx := cx.1
  have hb := cx.2.1
  have hown := cx.2.2.2.1
  have hts := cx.2.2.2.2.1
  have hl : lv_has ls 3 [(0, .ref (ad g (cP i))), (1, .int v1)] := hl
  unfold f_Pr_parent at h
  refine lv_iload_n hx hb dPr_parent_0 rfl (lv_at hl 1 rfl) ?_
  refine lv_iconst (v := 1) hx hb dPr_parent_1 (by decide) ?_
  refine lv_isub hx hb dPr_parent_2 ?_
  obtain ⟨x6, ex6, h⟩ := lt_some h
  refine q_nmi ex6 ?_
  refine lv_istore_n (lv' := [(2, .int x6), (0, .ref (ad g (cP i))), (1, .int v1)]) hx hb dPr_parent_3 rfl hl (Nat.le_of_ble_eq_true rfl) rfl (fun ls hl => ?_)
  have L4 : ∀ (n : Nat) (v1 : Int32) (v2 : Int32) (σ : Mem), loopF (fun (q : (Int32 × Mem)) => f_Pr_parent_L4 i v1 q.1 q.2) n (v2, σ) = some (r0, σ0) → ∀ (H : Heap) (locs : List Loc) (ls : Array Slot), lv_has ls 3 [(0, .ref (ad g (cP i))), (1, .int v1), (2, .int v2)] → Wd g σ H → va_S (wA g) s.heap H locs → W p l e R s m args below meth c H locs 0 0 Q (F0 m 4 ls []) := by
    intro n
    induction n with
    | zero => intro v1 v2 σ h; exact (loopF_zero h).elim
    | succ n ih4 =>
      intro v1 v2 σ h H locs ls hl hP hS
      obtain ⟨o4, h, K4, E4⟩ := loopF_succ h
      have h : f_Pr_parent_L4 i v1 v2 σ = some o4 := h
      unfold f_Pr_parent_L4 at h
      refine lv_iload_n hx hb dPr_parent_4 rfl (lv_at hl 2 rfl) ?_
      refine lv_if_lt (tgt := 31) hx hb dPr_parent_5 (by decide) (fun hc => ?_) (fun hc => ?_)
      · replace h := if_t h hc
        obtain ⟨z1, h, ez1⟩ := inrM_some h
        rw [E4 z1 ez1] at h
        refine lv_iconst (v := (-1)) hx hb dPr_parent_31 (by decide) ?_
        exact q_ri cx hr rfl hP hS hQ h dPr_parent_32
      · replace h := if_f h hc
        refine lv_aload_n hx hb dPr_parent_8 rfl (lv_at hl 0 rfl) ?_
        refine g_Pr_levels cx hP hi  t_44 dPr_parent_9 ?_
        refine lv_iload_n hx hb dPr_parent_12 rfl (lv_at hl 2 rfl) ?_
        obtain ⟨b2, h⟩ := gd_some h
        refine q_iald cx hP (l_cPl hi) (e_cPl g hi) b2 dPr_parent_13 ?_
        refine lv_aload_n hx hb dPr_parent_14 rfl (lv_at hl 0 rfl) ?_
        refine g_Pr_levels cx hP hi  t_44 dPr_parent_15 ?_
        refine lv_iload_n hx hb dPr_parent_18 rfl (lv_at hl 1 rfl) ?_
        obtain ⟨b3, h⟩ := gd_some h
        refine q_iald cx hP (l_cPl hi) (e_cPl g hi) b3 dPr_parent_19 ?_
        refine lv_icmp_ge (tgt := 25) hx hb dPr_parent_20 (by decide) (fun hc => ?_) (fun hc => ?_)
        · replace h := if_t h hc
          obtain ⟨x4, ex4, h⟩ := lt_some h
          refine lv_iinc (lv' := [(2, .int x4), (0, .ref (ad g (cP i))), (1, .int v1)]) hx hb dPr_parent_25 hl (k := 2) rfl (q_inc ex4 (by decide)) (Nat.le_of_ble_eq_true rfl) rfl (fun ls hl => ?_)
          refine lv_goto (tgt := 4) hx hb dPr_parent_28 (by decide) ?_
          exact ih4 _ _ _ (K4 _ (Option.some.inj h).symm) _ _ _ (lv_sub hl [1, 2, 0] rfl) hP hS
        · replace h := if_f h hc
          obtain ⟨z5, h, ez5⟩ := inrM_some h
          rw [E4 z5 ez5] at h
          refine lv_iload_n hx hb dPr_parent_23 rfl (lv_at hl 2 rfl) ?_
          exact q_ri cx hr rfl hP hS hQ h dPr_parent_24
  exact L4 _ _ _ _ h _ _ _ (lv_sub hl [1, 2, 0] rfl) hP hS
theorem dPr_raise_0 : decode cPr_raise 0 = .ok (.aload_n 0, 1) := by decide +kernel
theorem dPr_raise_1 : decode cPr_raise 1 = .ok (.aload_n 0, 1) := by decide +kernel
theorem dPr_raise_2 : decode cPr_raise 2 = .ok (.getfield 29, 3) := by decide +kernel
theorem dPr_raise_5 : decode cPr_raise 5 = .ok (.invokevirtual 64, 3) := by decide +kernel
theorem dPr_raise_8 : decode cPr_raise 8 = .ok (.istore_n 1, 1) := by decide +kernel
theorem dPr_raise_9 : decode cPr_raise 9 = .ok (.iload_n 1, 1) := by decide +kernel
theorem dPr_raise_10 : decode cPr_raise 10 = .ok (.ifCond .ge 4, 3) := by decide +kernel
theorem dPr_raise_13 : decode cPr_raise 13 = .ok (.return_, 1) := by decide +kernel
theorem dPr_raise_14 : decode cPr_raise 14 = .ok (.aload_n 0, 1) := by decide +kernel
theorem dPr_raise_15 : decode cPr_raise 15 = .ok (.aload_n 0, 1) := by decide +kernel
theorem dPr_raise_16 : decode cPr_raise 16 = .ok (.getfield 29, 3) := by decide +kernel
theorem dPr_raise_19 : decode cPr_raise 19 = .ok (.invokevirtual 38, 3) := by decide +kernel
theorem dPr_raise_22 : decode cPr_raise 22 = .ok (.istore_n 2, 1) := by decide +kernel
theorem dPr_raise_23 : decode cPr_raise 23 = .ok (.aload_n 0, 1) := by decide +kernel
theorem dPr_raise_24 : decode cPr_raise 24 = .ok (.aload_n 0, 1) := by decide +kernel
theorem dPr_raise_25 : decode cPr_raise 25 = .ok (.iload_n 1, 1) := by decide +kernel
theorem dPr_raise_26 : decode cPr_raise 26 = .ok (.invokevirtual 38, 3) := by decide +kernel
theorem dPr_raise_29 : decode cPr_raise 29 = .ok (.iload_n 2, 1) := by decide +kernel
theorem dPr_raise_30 : decode cPr_raise 30 = .ok (.invokevirtual 56, 3) := by decide +kernel
theorem dPr_raise_33 : decode cPr_raise 33 = .ok (.aload_n 0, 1) := by decide +kernel
theorem dPr_raise_34 : decode cPr_raise 34 = .ok (.aload_n 0, 1) := by decide +kernel
theorem dPr_raise_35 : decode cPr_raise 35 = .ok (.getfield 29, 3) := by decide +kernel
theorem dPr_raise_38 : decode cPr_raise 38 = .ok (.iload_n 2, 1) := by decide +kernel
theorem dPr_raise_39 : decode cPr_raise 39 = .ok (.iconst (-1), 1) := by decide +kernel
theorem dPr_raise_40 : decode cPr_raise 40 = .ok (.invokevirtual 52, 3) := by decide +kernel
theorem dPr_raise_43 : decode cPr_raise 43 = .ok (.aload_n 0, 1) := by decide +kernel
theorem dPr_raise_44 : decode cPr_raise 44 = .ok (.aload_n 0, 1) := by decide +kernel
theorem dPr_raise_45 : decode cPr_raise 45 = .ok (.getfield 29, 3) := by decide +kernel
theorem dPr_raise_48 : decode cPr_raise 48 = .ok (.iload_n 1, 1) := by decide +kernel
theorem dPr_raise_49 : decode cPr_raise 49 = .ok (.invokevirtual 56, 3) := by decide +kernel
theorem dPr_raise_52 : decode cPr_raise 52 = .ok (.aload_n 0, 1) := by decide +kernel
theorem dPr_raise_53 : decode cPr_raise 53 = .ok (.iload_n 1, 1) := by decide +kernel
theorem dPr_raise_54 : decode cPr_raise 54 = .ok (.putfield 29, 3) := by decide +kernel
theorem dPr_raise_57 : decode cPr_raise 57 = .ok (.return_, 1) := by decide +kernel
def f_Pr_raise (i : Nat)  (σ : Mem) : Option (Unit × Mem) :=
  bn (f_Pr_parent i (σ.1 (cP i) 5) σ) fun (r3 : Int32) (σ2 : Mem) =>
  if 0 ≤ r3 then (
  bn (f_Pr_end i (σ2.1 (cP i) 5) σ2) fun (r6 : Int32) (σ5 : Mem) =>
  bn (f_Pr_end i r3 σ5) fun (r9 : Int32) (σ8 : Mem) =>
  bn (f_Pr_moveTail i r9 r6 σ8) fun (_ : Unit) (σ11 : Mem) =>
  bn (f_Pr_shiftLevels i (σ11.1 (cP i) 5) r6 ((-1) : Int32) σ11) fun (_ : Unit) (σ13 : Mem) =>
  bn (f_Pr_moveTail i (σ13.1 (cP i) 5) r3 σ13) fun (_ : Unit) (σ15 : Mem) =>
  lt_ (sI σ15 (cP i) 5 r3) fun (σ16 : Mem) =>
  some ((), σ16))
  else (
  some ((), σ2))
set_option maxHeartbeats 4000000 in
set_option maxRecDepth 100000 in
theorem c_Pr_raise (l : Launch) (g : Gw) (hg : wInj g) {i : Nat} (hi : i < 17) {σ σ0 : Mem} (h : f_Pr_raise i σ = some ((), σ0)) : KV l yPr_raise cPr_raise 3 none 2 g [.ref (ad g (cP i))] σ σ0 := by
  refine q_met g hg (own := "TermBench$Program") rfl rfl (Nat.le_of_ble_eq_true rfl) (fun p e s m args below meth c R Q cx hRk hr hQ H locs ls hP hS hl => ?_)
  have hx := cx.1
  have hb := cx.2.1
  have hown := cx.2.2.2.1
  have hts := cx.2.2.2.2.1
  have hl : lv_has ls 3 [(0, .ref (ad g (cP i)))] := hl
  unfold f_Pr_raise at h
  refine lv_aload_n hx hb dPr_raise_0 rfl (lv_at hl 0 rfl) ?_
  refine lv_aload_n hx hb dPr_raise_1 rfl (lv_at hl 0 rfl) ?_
  refine g_Pr_cursor cx hP hi  t_48 dPr_raise_2 ?_
  obtain ⟨r3, σ2, h1, h⟩ := bn_some h
  refine q_cVi (rest := []) (As := [.int (σ.1 (cP i) 5)]) cx hP hS hRk (c_Pr_parent l g hg hi h1) Y_Pr_parent V_Pr_parent t_290 (by decide) (l_cP hi) (e_cP g hi _ _) rfl rfl hl.1 rfl (Nat.le_of_ble_eq_true rfl) dPr_raise_5 (fun H locs hP hS => ?_)
  refine lv_istore_n (lv' := [(1, .int r3), (0, .ref (ad g (cP i)))]) hx hb dPr_raise_8 rfl hl (Nat.le_of_ble_eq_true rfl) rfl (fun ls hl => ?_)
  refine lv_iload_n hx hb dPr_raise_9 rfl (lv_at hl 0 rfl) ?_
  refine lv_if_ge (tgt := 14) hx hb dPr_raise_10 (by decide) (fun hc => ?_) (fun hc => ?_)
  · replace h := if_t h hc
    refine lv_aload_n hx hb dPr_raise_14 rfl (lv_at hl 1 rfl) ?_
    refine lv_aload_n hx hb dPr_raise_15 rfl (lv_at hl 1 rfl) ?_
    refine g_Pr_cursor cx hP hi  t_48 dPr_raise_16 ?_
    obtain ⟨r6, σ5, h4, h⟩ := bn_some h
    refine q_cVi (rest := []) (As := [.int (σ2.1 (cP i) 5)]) cx hP hS hRk (c_Pr_end l g hg hi h4) Y_Pr_end V_Pr_end t_228 (by decide) (l_cP hi) (e_cP g hi _ _) rfl rfl hl.1 rfl (Nat.le_of_ble_eq_true rfl) dPr_raise_19 (fun H locs hP hS => ?_)
    refine lv_istore_n (lv' := [(2, .int r6), (1, .int r3), (0, .ref (ad g (cP i)))]) hx hb dPr_raise_22 rfl hl (Nat.le_of_ble_eq_true rfl) rfl (fun ls hl => ?_)
    refine lv_aload_n hx hb dPr_raise_23 rfl (lv_at hl 2 rfl) ?_
    refine lv_aload_n hx hb dPr_raise_24 rfl (lv_at hl 2 rfl) ?_
    refine lv_iload_n hx hb dPr_raise_25 rfl (lv_at hl 1 rfl) ?_
    obtain ⟨r9, σ8, h7, h⟩ := bn_some h
    refine q_cVi (rest := [.ref (ad g (cP i))]) (As := [.int r3]) cx hP hS hRk (c_Pr_end l g hg hi h7) Y_Pr_end V_Pr_end t_228 (by decide) (l_cP hi) (e_cP g hi _ _) rfl rfl hl.1 rfl (Nat.le_of_ble_eq_true rfl) dPr_raise_26 (fun H locs hP hS => ?_)
    refine lv_iload_n hx hb dPr_raise_29 rfl (lv_at hl 0 rfl) ?_
    obtain ⟨rh10, σ11, h10, h⟩ := bn_some h
    refine q_cVv (rest := []) (As := [.int r9, .int r6]) cx hP hS hRk (c_Pr_moveTail l g hg hi h10) Y_Pr_moveTail V_Pr_moveTail t_247 (by decide) (l_cP hi) (e_cP g hi _ _) rfl rfl hl.1 rfl (Nat.le_of_ble_eq_true rfl) dPr_raise_30 (fun H locs hP hS => ?_)
    refine lv_aload_n hx hb dPr_raise_33 rfl (lv_at hl 2 rfl) ?_
    refine lv_aload_n hx hb dPr_raise_34 rfl (lv_at hl 2 rfl) ?_
    refine g_Pr_cursor cx hP hi  t_48 dPr_raise_35 ?_
    refine lv_iload_n hx hb dPr_raise_38 rfl (lv_at hl 0 rfl) ?_
    refine lv_iconst (v := (-1)) hx hb dPr_raise_39 (by decide) ?_
    obtain ⟨rh12, σ13, h12, h⟩ := bn_some h
    refine q_cVv (rest := []) (As := [.int (σ11.1 (cP i) 5), .int r6, .int ((-1) : Int32)]) cx hP hS hRk (c_Pr_shiftLevels l g hg hi h12) Y_Pr_shiftLevels V_Pr_shiftLevels t_243 (by decide) (l_cP hi) (e_cP g hi _ _) rfl rfl hl.1 rfl (Nat.le_of_ble_eq_true rfl) dPr_raise_40 (fun H locs hP hS => ?_)
    refine lv_aload_n hx hb dPr_raise_43 rfl (lv_at hl 2 rfl) ?_
    refine lv_aload_n hx hb dPr_raise_44 rfl (lv_at hl 2 rfl) ?_
    refine g_Pr_cursor cx hP hi  t_48 dPr_raise_45 ?_
    refine lv_iload_n hx hb dPr_raise_48 rfl (lv_at hl 1 rfl) ?_
    obtain ⟨rh14, σ15, h14, h⟩ := bn_some h
    refine q_cVv (rest := []) (As := [.int (σ13.1 (cP i) 5), .int r3]) cx hP hS hRk (c_Pr_moveTail l g hg hi h14) Y_Pr_moveTail V_Pr_moveTail t_247 (by decide) (l_cP hi) (e_cP g hi _ _) rfl rfl hl.1 rfl (Nat.le_of_ble_eq_true rfl) dPr_raise_49 (fun H locs hP hS => ?_)
    refine lv_aload_n hx hb dPr_raise_52 rfl (lv_at hl 2 rfl) ?_
    refine lv_iload_n hx hb dPr_raise_53 rfl (lv_at hl 1 rfl) ?_
    obtain ⟨σ16, eσ16, h⟩ := lt_some h
    refine p_Pr_cursor cx hP hS hi t_48 dPr_raise_54 eσ16 (fun H locs hP hS => ?_)
    exact q_rv cx hr hP hS hQ h dPr_raise_57
  · replace h := if_f h hc
    exact q_rv cx hr hP hS hQ h dPr_raise_13
theorem dPr_part_0 : decode cPr_part 0 = .ok (.iconst 0, 1) := by decide +kernel
theorem dPr_part_1 : decode cPr_part 1 = .ok (.istore_n 3, 1) := by decide +kernel
theorem dPr_part_2 : decode cPr_part 2 = .ok (.iload_n 1, 1) := by decide +kernel
theorem dPr_part_3 : decode cPr_part 3 = .ok (.iconst 1, 1) := by decide +kernel
theorem dPr_part_4 : decode cPr_part 4 = .ok (.iadd, 1) := by decide +kernel
theorem dPr_part_5 : decode cPr_part 5 = .ok (.istore 4, 2) := by decide +kernel
theorem dPr_part_7 : decode cPr_part 7 = .ok (.iload 4, 2) := by decide +kernel
theorem dPr_part_9 : decode cPr_part 9 = .ok (.aload_n 0, 1) := by decide +kernel
theorem dPr_part_10 : decode cPr_part 10 = .ok (.getfield 25, 3) := by decide +kernel
theorem dPr_part_13 : decode cPr_part 13 = .ok (.if_icmp .ge 54, 3) := by decide +kernel
theorem dPr_part_16 : decode cPr_part 16 = .ok (.aload_n 0, 1) := by decide +kernel
theorem dPr_part_17 : decode cPr_part 17 = .ok (.getfield 22, 3) := by decide +kernel
theorem dPr_part_20 : decode cPr_part 20 = .ok (.iload 4, 2) := by decide +kernel
theorem dPr_part_22 : decode cPr_part 22 = .ok (.iaload, 1) := by decide +kernel
theorem dPr_part_23 : decode cPr_part 23 = .ok (.aload_n 0, 1) := by decide +kernel
theorem dPr_part_24 : decode cPr_part 24 = .ok (.getfield 22, 3) := by decide +kernel
theorem dPr_part_27 : decode cPr_part 27 = .ok (.iload_n 1, 1) := by decide +kernel
theorem dPr_part_28 : decode cPr_part 28 = .ok (.iaload, 1) := by decide +kernel
theorem dPr_part_29 : decode cPr_part 29 = .ok (.if_icmp .le 38, 3) := by decide +kernel
theorem dPr_part_32 : decode cPr_part 32 = .ok (.aload_n 0, 1) := by decide +kernel
theorem dPr_part_33 : decode cPr_part 33 = .ok (.getfield 22, 3) := by decide +kernel
theorem dPr_part_36 : decode cPr_part 36 = .ok (.iload 4, 2) := by decide +kernel
theorem dPr_part_38 : decode cPr_part 38 = .ok (.iaload, 1) := by decide +kernel
theorem dPr_part_39 : decode cPr_part 39 = .ok (.aload_n 0, 1) := by decide +kernel
theorem dPr_part_40 : decode cPr_part 40 = .ok (.getfield 22, 3) := by decide +kernel
theorem dPr_part_43 : decode cPr_part 43 = .ok (.iload_n 1, 1) := by decide +kernel
theorem dPr_part_44 : decode cPr_part 44 = .ok (.iaload, 1) := by decide +kernel
theorem dPr_part_45 : decode cPr_part 45 = .ok (.iconst 1, 1) := by decide +kernel
theorem dPr_part_46 : decode cPr_part 46 = .ok (.iadd, 1) := by decide +kernel
theorem dPr_part_47 : decode cPr_part 47 = .ok (.if_icmp .ne 14, 3) := by decide +kernel
theorem dPr_part_50 : decode cPr_part 50 = .ok (.iload_n 3, 1) := by decide +kernel
theorem dPr_part_51 : decode cPr_part 51 = .ok (.iload_n 2, 1) := by decide +kernel
theorem dPr_part_52 : decode cPr_part 52 = .ok (.if_icmp .ne 6, 3) := by decide +kernel
theorem dPr_part_55 : decode cPr_part 55 = .ok (.iload 4, 2) := by decide +kernel
theorem dPr_part_57 : decode cPr_part 57 = .ok (.ireturn, 1) := by decide +kernel
theorem dPr_part_58 : decode cPr_part 58 = .ok (.iinc 3 1, 3) := by decide +kernel
theorem dPr_part_61 : decode cPr_part 61 = .ok (.iinc 4 1, 3) := by decide +kernel
theorem dPr_part_64 : decode cPr_part 64 = .ok (.goto (-57), 3) := by decide +kernel
theorem dPr_part_67 : decode cPr_part 67 = .ok (.iconst (-1), 1) := by decide +kernel
theorem dPr_part_68 : decode cPr_part 68 = .ok (.ireturn, 1) := by decide +kernel
def f_Pr_part_J67 (i : Nat) (v1 : Int32) (v2 : Int32) (v3 : Int32) (v4 : Int32) (σ : Mem) : Option (Int32 × Mem) :=
  some (((-1) : Int32), σ)
def f_Pr_part_J61 (i : Nat) (v1 : Int32) (v2 : Int32) (v3 : Int32) (v4 : Int32) (σ : Mem) : Option ((Int32 × Int32 × Mem) ⊕ (Int32 × Mem)) :=
  lt_ (v4 + 1) fun (x1 : Int32) =>
  some (.inl (v3, x1, σ))
def f_Pr_part_L7 (i : Nat) (v1 : Int32) (v2 : Int32) (v3 : Int32) (v4 : Int32) (σ : Mem) : Option ((Int32 × Int32 × Mem) ⊕ (Int32 × Mem)) :=
  if (σ.1 (cP i) 4) ≤ v4 then (
  inrM (f_Pr_part_J67 i v1 v2 v3 v4 σ))
  else (
  gd (inb v4 40) (
  gd (inb v1 40) (
  if (σ.1 (cPl i) v4.toNatClampNeg) ≤ (σ.1 (cPl i) v1.toNatClampNeg) then (
  inrM (f_Pr_part_J67 i v1 v2 v3 v4 σ))
  else (
  gd (inb v4 40) (
  gd (inb v1 40) (
  if (σ.1 (cPl i) v4.toNatClampNeg) = ((σ.1 (cPl i) v1.toNatClampNeg) + (1 : Int32)) then (
  if v3 = v2 then (
  inrM (some (v4, σ)))
  else (
  lt_ (v3 + 1) fun (x8 : Int32) =>
  f_Pr_part_J61 i v1 v2 x8 v4 σ))
  else (
  f_Pr_part_J61 i v1 v2 v3 v4 σ)))))))
def f_Pr_part (i : Nat) (v1 : Int32) (v2 : Int32) (σ : Mem) : Option (Int32 × Mem) :=
  lt_ (0 : Int32) fun (x10 : Int32) =>
  lt_ (v1 + (1 : Int32)) fun (x11 : Int32) =>
  loopF (fun (q : (Int32 × Int32 × Mem)) => f_Pr_part_L7 i v1 v2 q.1 q.2.1 q.2.2) FU (x10, x11, σ)
set_option maxHeartbeats 4000000 in
set_option maxRecDepth 100000 in
theorem c_Pr_part (l : Launch) (g : Gw) (hg : wInj g) {i : Nat} (hi : i < 17) {v1 : Int32} {v2 : Int32} {r0 : Int32} {σ σ0 : Mem} (h : f_Pr_part i v1 v2 σ = some (r0, σ0)) : KI l yPr_part cPr_part 5 (some .int) 0 g [.ref (ad g (cP i)), .int v1, .int v2] σ r0 σ0 := by
  refine q_met g hg (own := "TermBench$Program") rfl rfl (Nat.le_of_ble_eq_true rfl) (fun p e s m args below meth c R Q cx hRk hr hQ H locs ls hP hS hl => ?_)
  have hx := cx.1
  have hb := cx.2.1
  have hown := cx.2.2.2.1
  have hts := cx.2.2.2.2.1
  have hl : lv_has ls 5 [(0, .ref (ad g (cP i))), (1, .int v1), (2, .int v2)] := hl
  have J67 : ∀ (v1 : Int32) (v2 : Int32) (v3 : Int32) (v4 : Int32) (σ : Mem), f_Pr_part_J67 i v1 v2 v3 v4 σ = some (r0, σ0) → ∀ (H : Heap) (locs : List Loc) (ls : Array Slot), lv_has ls 5 [(0, .ref (ad g (cP i))), (1, .int v1), (2, .int v2), (3, .int v3), (4, .int v4)] → Wd g σ H → va_S (wA g) s.heap H locs → W p l e R s m args below meth c H locs 0 0 Q (F0 m 67 ls []) := by
    intro v1 v2 v3 v4 σ h H locs ls hl hP hS
    unfold f_Pr_part_J67 at h
    refine lv_iconst (v := (-1)) hx hb dPr_part_67 (by decide) ?_
    exact q_ri cx hr rfl hP hS hQ h dPr_part_68
  unfold f_Pr_part at h
  refine lv_iconst (v := 0) hx hb dPr_part_0 (by decide) ?_
  obtain ⟨x10, ex10, h⟩ := lt_some h
  refine q_nmi ex10 ?_
  refine lv_istore_n (lv' := [(3, .int x10), (0, .ref (ad g (cP i))), (1, .int v1), (2, .int v2)]) hx hb dPr_part_1 rfl hl (Nat.le_of_ble_eq_true rfl) rfl (fun ls hl => ?_)
  refine lv_iload_n hx hb dPr_part_2 rfl (lv_at hl 2 rfl) ?_
  refine lv_iconst (v := 1) hx hb dPr_part_3 (by decide) ?_
  refine lv_iadd hx hb dPr_part_4 ?_
  obtain ⟨x11, ex11, h⟩ := lt_some h
  refine q_nmi ex11 ?_
  refine lv_istore (lv' := [(4, .int x11), (3, .int x10), (0, .ref (ad g (cP i))), (1, .int v1), (2, .int v2)]) hx hb dPr_part_5 hl (Nat.le_of_ble_eq_true rfl) rfl (fun ls hl => ?_)
  have L7 : ∀ (n : Nat) (v1 : Int32) (v2 : Int32) (v3 : Int32) (v4 : Int32) (σ : Mem), loopF (fun (q : (Int32 × Int32 × Mem)) => f_Pr_part_L7 i v1 v2 q.1 q.2.1 q.2.2) n (v3, v4, σ) = some (r0, σ0) → ∀ (H : Heap) (locs : List Loc) (ls : Array Slot), lv_has ls 5 [(0, .ref (ad g (cP i))), (1, .int v1), (2, .int v2), (3, .int v3), (4, .int v4)] → Wd g σ H → va_S (wA g) s.heap H locs → W p l e R s m args below meth c H locs 0 0 Q (F0 m 7 ls []) := by
    intro n
    induction n with
    | zero => intro v1 v2 v3 v4 σ h; exact (loopF_zero h).elim
    | succ n ih7 =>
      intro v1 v2 v3 v4 σ h H locs ls hl hP hS
      obtain ⟨o7, h, K7, E7⟩ := loopF_succ h
      have h : f_Pr_part_L7 i v1 v2 v3 v4 σ = some o7 := h
      have J61 : ∀ (v3 : Int32) (v4 : Int32) (σ : Mem), f_Pr_part_J61 i v1 v2 v3 v4 σ = some o7 → ∀ (H : Heap) (locs : List Loc) (ls : Array Slot), lv_has ls 5 [(0, .ref (ad g (cP i))), (1, .int v1), (2, .int v2), (3, .int v3), (4, .int v4)] → Wd g σ H → va_S (wA g) s.heap H locs → W p l e R s m args below meth c H locs 0 0 Q (F0 m 61 ls []) := by
        intro v3 v4 σ h H locs ls hl hP hS
        unfold f_Pr_part_J61 at h
        obtain ⟨x1, ex1, h⟩ := lt_some h
        refine lv_iinc (lv' := [(4, .int x1), (0, .ref (ad g (cP i))), (1, .int v1), (2, .int v2), (3, .int v3)]) hx hb dPr_part_61 hl (k := 4) rfl (q_inc ex1 (by decide)) (Nat.le_of_ble_eq_true rfl) rfl (fun ls hl => ?_)
        refine lv_goto (tgt := 7) hx hb dPr_part_64 (by decide) ?_
        exact ih7 _ _ _ _ _ (K7 _ (Option.some.inj h).symm) _ _ _ (lv_sub hl [1, 2, 3, 4, 0] rfl) hP hS
      unfold f_Pr_part_L7 at h
      refine lv_iload hx hb dPr_part_7 (lv_at hl 4 rfl) ?_
      refine lv_aload_n hx hb dPr_part_9 rfl (lv_at hl 0 rfl) ?_
      refine g_Pr_size cx hP hi  t_45 dPr_part_10 ?_
      refine lv_icmp_ge (tgt := 67) hx hb dPr_part_13 (by decide) (fun hc => ?_) (fun hc => ?_)
      · replace h := if_t h hc
        obtain ⟨z2, h, ez2⟩ := inrM_some h
        rw [E7 z2 ez2] at h
        exact J67 _ _ _ _ _ h _ _ _ (lv_sub hl [0, 1, 2, 3, 4] rfl) hP hS
      · replace h := if_f h hc
        refine lv_aload_n hx hb dPr_part_16 rfl (lv_at hl 0 rfl) ?_
        refine g_Pr_levels cx hP hi  t_44 dPr_part_17 ?_
        refine lv_iload hx hb dPr_part_20 (lv_at hl 4 rfl) ?_
        obtain ⟨b3, h⟩ := gd_some h
        refine q_iald cx hP (l_cPl hi) (e_cPl g hi) b3 dPr_part_22 ?_
        refine lv_aload_n hx hb dPr_part_23 rfl (lv_at hl 0 rfl) ?_
        refine g_Pr_levels cx hP hi  t_44 dPr_part_24 ?_
        refine lv_iload_n hx hb dPr_part_27 rfl (lv_at hl 1 rfl) ?_
        obtain ⟨b4, h⟩ := gd_some h
        refine q_iald cx hP (l_cPl hi) (e_cPl g hi) b4 dPr_part_28 ?_
        refine lv_icmp_le (tgt := 67) hx hb dPr_part_29 (by decide) (fun hc => ?_) (fun hc => ?_)
        · replace h := if_t h hc
          obtain ⟨z5, h, ez5⟩ := inrM_some h
          rw [E7 z5 ez5] at h
          exact J67 _ _ _ _ _ h _ _ _ (lv_sub hl [0, 1, 2, 3, 4] rfl) hP hS
        · replace h := if_f h hc
          refine lv_aload_n hx hb dPr_part_32 rfl (lv_at hl 0 rfl) ?_
          refine g_Pr_levels cx hP hi  t_44 dPr_part_33 ?_
          refine lv_iload hx hb dPr_part_36 (lv_at hl 4 rfl) ?_
          obtain ⟨b6, h⟩ := gd_some h
          refine q_iald cx hP (l_cPl hi) (e_cPl g hi) b6 dPr_part_38 ?_
          refine lv_aload_n hx hb dPr_part_39 rfl (lv_at hl 0 rfl) ?_
          refine g_Pr_levels cx hP hi  t_44 dPr_part_40 ?_
          refine lv_iload_n hx hb dPr_part_43 rfl (lv_at hl 1 rfl) ?_
          obtain ⟨b7, h⟩ := gd_some h
          refine q_iald cx hP (l_cPl hi) (e_cPl g hi) b7 dPr_part_44 ?_
          refine lv_iconst (v := 1) hx hb dPr_part_45 (by decide) ?_
          refine lv_iadd hx hb dPr_part_46 ?_
          refine lv_icmp_ne (tgt := 61) hx hb dPr_part_47 (by decide) (fun hc => ?_) (fun hc => ?_)
          · replace h := if_f h hc
            exact J61 _ _ _ h _ _ _ (lv_sub hl [0, 1, 2, 3, 4] rfl) hP hS
          · replace h := if_t h hc
            refine lv_iload_n hx hb dPr_part_50 rfl (lv_at hl 3 rfl) ?_
            refine lv_iload_n hx hb dPr_part_51 rfl (lv_at hl 2 rfl) ?_
            refine lv_icmp_ne (tgt := 58) hx hb dPr_part_52 (by decide) (fun hc => ?_) (fun hc => ?_)
            · replace h := if_f h hc
              obtain ⟨x8, ex8, h⟩ := lt_some h
              refine lv_iinc (lv' := [(3, .int x8), (0, .ref (ad g (cP i))), (1, .int v1), (2, .int v2), (4, .int v4)]) hx hb dPr_part_58 hl (k := 3) rfl (q_inc ex8 (by decide)) (Nat.le_of_ble_eq_true rfl) rfl (fun ls hl => ?_)
              exact J61 _ _ _ h _ _ _ (lv_sub hl [1, 2, 3, 0, 4] rfl) hP hS
            · replace h := if_t h hc
              obtain ⟨z9, h, ez9⟩ := inrM_some h
              rw [E7 z9 ez9] at h
              refine lv_iload hx hb dPr_part_55 (lv_at hl 4 rfl) ?_
              exact q_ri cx hr rfl hP hS hQ h dPr_part_57
  exact L7 _ _ _ _ _ _ h _ _ _ (lv_sub hl [2, 3, 4, 1, 0] rfl) hP hS
theorem dPr_binder_0 : decode cPr_binder 0 = .ok (.aload_n 0, 1) := by decide +kernel
theorem dPr_binder_1 : decode cPr_binder 1 = .ok (.getfield 22, 3) := by decide +kernel
theorem dPr_binder_4 : decode cPr_binder 4 = .ok (.iload_n 1, 1) := by decide +kernel
theorem dPr_binder_5 : decode cPr_binder 5 = .ok (.iaload, 1) := by decide +kernel
theorem dPr_binder_6 : decode cPr_binder 6 = .ok (.istore_n 2, 1) := by decide +kernel
theorem dPr_binder_7 : decode cPr_binder 7 = .ok (.iload_n 1, 1) := by decide +kernel
theorem dPr_binder_8 : decode cPr_binder 8 = .ok (.iconst 1, 1) := by decide +kernel
theorem dPr_binder_9 : decode cPr_binder 9 = .ok (.isub, 1) := by decide +kernel
theorem dPr_binder_10 : decode cPr_binder 10 = .ok (.istore_n 3, 1) := by decide +kernel
theorem dPr_binder_11 : decode cPr_binder 11 = .ok (.iload_n 3, 1) := by decide +kernel
theorem dPr_binder_12 : decode cPr_binder 12 = .ok (.ifCond .lt 53, 3) := by decide +kernel
theorem dPr_binder_15 : decode cPr_binder 15 = .ok (.aload_n 0, 1) := by decide +kernel
theorem dPr_binder_16 : decode cPr_binder 16 = .ok (.getfield 22, 3) := by decide +kernel
theorem dPr_binder_19 : decode cPr_binder 19 = .ok (.iload_n 3, 1) := by decide +kernel
theorem dPr_binder_20 : decode cPr_binder 20 = .ok (.iaload, 1) := by decide +kernel
theorem dPr_binder_21 : decode cPr_binder 21 = .ok (.iload_n 2, 1) := by decide +kernel
theorem dPr_binder_22 : decode cPr_binder 22 = .ok (.if_icmp .ge 37, 3) := by decide +kernel
theorem dPr_binder_25 : decode cPr_binder 25 = .ok (.aload_n 0, 1) := by decide +kernel
theorem dPr_binder_26 : decode cPr_binder 26 = .ok (.getfield 22, 3) := by decide +kernel
theorem dPr_binder_29 : decode cPr_binder 29 = .ok (.iload_n 3, 1) := by decide +kernel
theorem dPr_binder_30 : decode cPr_binder 30 = .ok (.iaload, 1) := by decide +kernel
theorem dPr_binder_31 : decode cPr_binder 31 = .ok (.istore_n 2, 1) := by decide +kernel
theorem dPr_binder_32 : decode cPr_binder 32 = .ok (.aload_n 0, 1) := by decide +kernel
theorem dPr_binder_33 : decode cPr_binder 33 = .ok (.getfield 9, 3) := by decide +kernel
theorem dPr_binder_36 : decode cPr_binder 36 = .ok (.iload_n 3, 1) := by decide +kernel
theorem dPr_binder_37 : decode cPr_binder 37 = .ok (.iaload, 1) := by decide +kernel
theorem dPr_binder_38 : decode cPr_binder 38 = .ok (.iconst 5, 1) := by decide +kernel
theorem dPr_binder_39 : decode cPr_binder 39 = .ok (.if_icmp .ne 20, 3) := by decide +kernel
theorem dPr_binder_42 : decode cPr_binder 42 = .ok (.aload_n 0, 1) := by decide +kernel
theorem dPr_binder_43 : decode cPr_binder 43 = .ok (.getfield 15, 3) := by decide +kernel
theorem dPr_binder_46 : decode cPr_binder 46 = .ok (.iload_n 3, 1) := by decide +kernel
theorem dPr_binder_47 : decode cPr_binder 47 = .ok (.iaload, 1) := by decide +kernel
theorem dPr_binder_48 : decode cPr_binder 48 = .ok (.aload_n 0, 1) := by decide +kernel
theorem dPr_binder_49 : decode cPr_binder 49 = .ok (.getfield 15, 3) := by decide +kernel
theorem dPr_binder_52 : decode cPr_binder 52 = .ok (.iload_n 1, 1) := by decide +kernel
theorem dPr_binder_53 : decode cPr_binder 53 = .ok (.iaload, 1) := by decide +kernel
theorem dPr_binder_54 : decode cPr_binder 54 = .ok (.if_icmp .ne 5, 3) := by decide +kernel
theorem dPr_binder_57 : decode cPr_binder 57 = .ok (.iload_n 3, 1) := by decide +kernel
theorem dPr_binder_58 : decode cPr_binder 58 = .ok (.ireturn, 1) := by decide +kernel
theorem dPr_binder_59 : decode cPr_binder 59 = .ok (.iinc 3 (-1), 3) := by decide +kernel
theorem dPr_binder_62 : decode cPr_binder 62 = .ok (.goto (-51), 3) := by decide +kernel
theorem dPr_binder_65 : decode cPr_binder 65 = .ok (.iconst (-1), 1) := by decide +kernel
theorem dPr_binder_66 : decode cPr_binder 66 = .ok (.ireturn, 1) := by decide +kernel
def f_Pr_binder_J59 (i : Nat) (v1 : Int32) (v2 : Int32) (v3 : Int32) (σ : Mem) : Option ((Int32 × Int32 × Mem) ⊕ (Int32 × Mem)) :=
  lt_ (v3 + (-1)) fun (x1 : Int32) =>
  some (.inl (v2, x1, σ))
def f_Pr_binder_L11 (i : Nat) (v1 : Int32) (v2 : Int32) (v3 : Int32) (σ : Mem) : Option ((Int32 × Int32 × Mem) ⊕ (Int32 × Mem)) :=
  if v3 < 0 then (
  inrM (some (((-1) : Int32), σ)))
  else (
  gd (inb v3 40) (
  if v2 ≤ (σ.1 (cPl i) v3.toNatClampNeg) then (
  f_Pr_binder_J59 i v1 v2 v3 σ)
  else (
  gd (inb v3 40) (
  lt_ (σ.1 (cPl i) v3.toNatClampNeg) fun (x5 : Int32) =>
  gd (inb v3 40) (
  if (σ.1 (cPk i) v3.toNatClampNeg) = (5 : Int32) then (
  gd (inb v3 40) (
  gd (inb v1 40) (
  if (σ.1 (cPf i) v3.toNatClampNeg) = (σ.1 (cPf i) v1.toNatClampNeg) then (
  inrM (some (v3, σ)))
  else (
  f_Pr_binder_J59 i v1 x5 v3 σ))))
  else (
  f_Pr_binder_J59 i v1 x5 v3 σ))))))
def f_Pr_binder (i : Nat) (v1 : Int32) (σ : Mem) : Option (Int32 × Mem) :=
  gd (inb v1 40) (
  lt_ (σ.1 (cPl i) v1.toNatClampNeg) fun (x11 : Int32) =>
  lt_ (v1 - (1 : Int32)) fun (x12 : Int32) =>
  loopF (fun (q : (Int32 × Int32 × Mem)) => f_Pr_binder_L11 i v1 q.1 q.2.1 q.2.2) FU (x11, x12, σ))
set_option maxHeartbeats 4000000 in
set_option maxRecDepth 100000 in
theorem c_Pr_binder (l : Launch) (g : Gw) (hg : wInj g) {i : Nat} (hi : i < 17) {v1 : Int32} {r0 : Int32} {σ σ0 : Mem} (h : f_Pr_binder i v1 σ = some (r0, σ0)) : KI l yPr_binder cPr_binder 4 (some .int) 0 g [.ref (ad g (cP i)), .int v1] σ r0 σ0 := by
  refine q_met g hg (own := "TermBench$Program") rfl rfl (Nat.le_of_ble_eq_true rfl) (fun p e s m args below meth c R Q cx hRk hr hQ H locs ls hP hS hl => ?_)
  have hx := cx.1
  have hb := cx.2.1
  have hown := cx.2.2.2.1
  have hts := cx.2.2.2.2.1
  have hl : lv_has ls 4 [(0, .ref (ad g (cP i))), (1, .int v1)] := hl
  unfold f_Pr_binder at h
  refine lv_aload_n hx hb dPr_binder_0 rfl (lv_at hl 0 rfl) ?_
  refine g_Pr_levels cx hP hi  t_44 dPr_binder_1 ?_
  refine lv_iload_n hx hb dPr_binder_4 rfl (lv_at hl 1 rfl) ?_
  obtain ⟨b10, h⟩ := gd_some h
  refine q_iald cx hP (l_cPl hi) (e_cPl g hi) b10 dPr_binder_5 ?_
  obtain ⟨x11, ex11, h⟩ := lt_some h
  refine q_nmi ex11 ?_
  refine lv_istore_n (lv' := [(2, .int x11), (0, .ref (ad g (cP i))), (1, .int v1)]) hx hb dPr_binder_6 rfl hl (Nat.le_of_ble_eq_true rfl) rfl (fun ls hl => ?_)
  refine lv_iload_n hx hb dPr_binder_7 rfl (lv_at hl 2 rfl) ?_
  refine lv_iconst (v := 1) hx hb dPr_binder_8 (by decide) ?_
  refine lv_isub hx hb dPr_binder_9 ?_
  obtain ⟨x12, ex12, h⟩ := lt_some h
  refine q_nmi ex12 ?_
  refine lv_istore_n (lv' := [(3, .int x12), (2, .int x11), (0, .ref (ad g (cP i))), (1, .int v1)]) hx hb dPr_binder_10 rfl hl (Nat.le_of_ble_eq_true rfl) rfl (fun ls hl => ?_)
  have L11 : ∀ (n : Nat) (v1 : Int32) (v2 : Int32) (v3 : Int32) (σ : Mem), loopF (fun (q : (Int32 × Int32 × Mem)) => f_Pr_binder_L11 i v1 q.1 q.2.1 q.2.2) n (v2, v3, σ) = some (r0, σ0) → ∀ (H : Heap) (locs : List Loc) (ls : Array Slot), lv_has ls 4 [(0, .ref (ad g (cP i))), (1, .int v1), (2, .int v2), (3, .int v3)] → Wd g σ H → va_S (wA g) s.heap H locs → W p l e R s m args below meth c H locs 0 0 Q (F0 m 11 ls []) := by
    intro n
    induction n with
    | zero => intro v1 v2 v3 σ h; exact (loopF_zero h).elim
    | succ n ih11 =>
      intro v1 v2 v3 σ h H locs ls hl hP hS
      obtain ⟨o11, h, K11, E11⟩ := loopF_succ h
      have h : f_Pr_binder_L11 i v1 v2 v3 σ = some o11 := h
      have J59 : ∀ (v2 : Int32) (v3 : Int32) (σ : Mem), f_Pr_binder_J59 i v1 v2 v3 σ = some o11 → ∀ (H : Heap) (locs : List Loc) (ls : Array Slot), lv_has ls 4 [(0, .ref (ad g (cP i))), (1, .int v1), (2, .int v2), (3, .int v3)] → Wd g σ H → va_S (wA g) s.heap H locs → W p l e R s m args below meth c H locs 0 0 Q (F0 m 59 ls []) := by
        intro v2 v3 σ h H locs ls hl hP hS
        unfold f_Pr_binder_J59 at h
        obtain ⟨x1, ex1, h⟩ := lt_some h
        refine lv_iinc (lv' := [(3, .int x1), (0, .ref (ad g (cP i))), (1, .int v1), (2, .int v2)]) hx hb dPr_binder_59 hl (k := 3) rfl (q_inc ex1 (by decide)) (Nat.le_of_ble_eq_true rfl) rfl (fun ls hl => ?_)
        refine lv_goto (tgt := 11) hx hb dPr_binder_62 (by decide) ?_
        exact ih11 _ _ _ _ (K11 _ (Option.some.inj h).symm) _ _ _ (lv_sub hl [1, 2, 3, 0] rfl) hP hS
      unfold f_Pr_binder_L11 at h
      refine lv_iload_n hx hb dPr_binder_11 rfl (lv_at hl 3 rfl) ?_
      refine lv_if_lt (tgt := 65) hx hb dPr_binder_12 (by decide) (fun hc => ?_) (fun hc => ?_)
      · replace h := if_t h hc
        obtain ⟨z2, h, ez2⟩ := inrM_some h
        rw [E11 z2 ez2] at h
        refine lv_iconst (v := (-1)) hx hb dPr_binder_65 (by decide) ?_
        exact q_ri cx hr rfl hP hS hQ h dPr_binder_66
      · replace h := if_f h hc
        refine lv_aload_n hx hb dPr_binder_15 rfl (lv_at hl 0 rfl) ?_
        refine g_Pr_levels cx hP hi  t_44 dPr_binder_16 ?_
        refine lv_iload_n hx hb dPr_binder_19 rfl (lv_at hl 3 rfl) ?_
        obtain ⟨b3, h⟩ := gd_some h
        refine q_iald cx hP (l_cPl hi) (e_cPl g hi) b3 dPr_binder_20 ?_
        refine lv_iload_n hx hb dPr_binder_21 rfl (lv_at hl 2 rfl) ?_
        refine lv_icmp_ge (tgt := 59) hx hb dPr_binder_22 (by decide) (fun hc => ?_) (fun hc => ?_)
        · replace h := if_t h hc
          exact J59 _ _ _ h _ _ _ (lv_sub hl [0, 1, 2, 3] rfl) hP hS
        · replace h := if_f h hc
          refine lv_aload_n hx hb dPr_binder_25 rfl (lv_at hl 0 rfl) ?_
          refine g_Pr_levels cx hP hi  t_44 dPr_binder_26 ?_
          refine lv_iload_n hx hb dPr_binder_29 rfl (lv_at hl 3 rfl) ?_
          obtain ⟨b4, h⟩ := gd_some h
          refine q_iald cx hP (l_cPl hi) (e_cPl g hi) b4 dPr_binder_30 ?_
          obtain ⟨x5, ex5, h⟩ := lt_some h
          refine q_nmi ex5 ?_
          refine lv_istore_n (lv' := [(2, .int x5), (0, .ref (ad g (cP i))), (1, .int v1), (3, .int v3)]) hx hb dPr_binder_31 rfl hl (Nat.le_of_ble_eq_true rfl) rfl (fun ls hl => ?_)
          refine lv_aload_n hx hb dPr_binder_32 rfl (lv_at hl 1 rfl) ?_
          refine g_Pr_kinds cx hP hi  t_33 dPr_binder_33 ?_
          refine lv_iload_n hx hb dPr_binder_36 rfl (lv_at hl 3 rfl) ?_
          obtain ⟨b6, h⟩ := gd_some h
          refine q_iald cx hP (l_cPk hi) (e_cPk g hi) b6 dPr_binder_37 ?_
          refine lv_iconst (v := 5) hx hb dPr_binder_38 (by decide) ?_
          refine lv_icmp_ne (tgt := 59) hx hb dPr_binder_39 (by decide) (fun hc => ?_) (fun hc => ?_)
          · replace h := if_f h hc
            exact J59 _ _ _ h _ _ _ (lv_sub hl [1, 2, 0, 3] rfl) hP hS
          · replace h := if_t h hc
            refine lv_aload_n hx hb dPr_binder_42 rfl (lv_at hl 1 rfl) ?_
            refine g_Pr_figures cx hP hi  t_38 dPr_binder_43 ?_
            refine lv_iload_n hx hb dPr_binder_46 rfl (lv_at hl 3 rfl) ?_
            obtain ⟨b7, h⟩ := gd_some h
            refine q_iald cx hP (l_cPf hi) (e_cPf g hi) b7 dPr_binder_47 ?_
            refine lv_aload_n hx hb dPr_binder_48 rfl (lv_at hl 1 rfl) ?_
            refine g_Pr_figures cx hP hi  t_38 dPr_binder_49 ?_
            refine lv_iload_n hx hb dPr_binder_52 rfl (lv_at hl 2 rfl) ?_
            obtain ⟨b8, h⟩ := gd_some h
            refine q_iald cx hP (l_cPf hi) (e_cPf g hi) b8 dPr_binder_53 ?_
            refine lv_icmp_ne (tgt := 59) hx hb dPr_binder_54 (by decide) (fun hc => ?_) (fun hc => ?_)
            · replace h := if_f h hc
              exact J59 _ _ _ h _ _ _ (lv_sub hl [1, 2, 0, 3] rfl) hP hS
            · replace h := if_t h hc
              obtain ⟨z9, h, ez9⟩ := inrM_some h
              rw [E11 z9 ez9] at h
              refine lv_iload_n hx hb dPr_binder_57 rfl (lv_at hl 3 rfl) ?_
              exact q_ri cx hr rfl hP hS hQ h dPr_binder_58
  exact L11 _ _ _ _ _ h _ _ _ (lv_sub hl [2, 3, 1, 0] rfl) hP hS
end
section
/-! 22.history, by program: pure functions and contracts -/
theorem dHi_present_0 : decode cHi_present 0 = .ok (.aload_n 0, 1) := by decide +kernel
theorem dHi_present_1 : decode cHi_present 1 = .ok (.getfield 13, 3) := by decide +kernel
theorem dHi_present_4 : decode cHi_present 4 = .ok (.aload_n 0, 1) := by decide +kernel
theorem dHi_present_5 : decode cHi_present 5 = .ok (.getfield 17, 3) := by decide +kernel
theorem dHi_present_8 : decode cHi_present 8 = .ok (.aaload, 1) := by decide +kernel
theorem dHi_present_9 : decode cHi_present 9 = .ok (.areturn, 1) := by decide +kernel
def f_Hi_present   (σ : Mem) : Option (Nat × Mem) :=
  gd (inb (σ.1 1 1) 17) (lt_ (σ.1 1 1).toNatClampNeg fun (i2 : Nat) =>
  some (i2, σ))
set_option maxHeartbeats 4000000 in
set_option maxRecDepth 100000 in
theorem c_Hi_present (l : Launch) (g : Gw) (hg : wInj g) {r0 : Nat} {σ σ0 : Mem} (h : f_Hi_present σ = some (r0, σ0)) : KR l yHi_present cHi_present 1 (some (.object "TermBench$Program")) 0 g [.ref (ad g 1)] σ (cP r0) σ0 := by
  refine q_met g hg (own := "TermBench$History") rfl rfl (Nat.le_of_ble_eq_true rfl) (fun p e s m args below meth c R Q cx hRk hr hQ H locs ls hP hS hl => ?_)
  have hx := cx.1
  have hb := cx.2.1
  have hown := cx.2.2.2.1
  have hts := cx.2.2.2.2.1
  have hl : lv_has ls 1 [(0, .ref (ad g 1))] := hl
  unfold f_Hi_present at h
  refine lv_aload_n hx hb dHi_present_0 rfl (lv_at hl 0 rfl) ?_
  refine g_Hi_ring cx hP  t_66 dHi_present_1 ?_
  refine lv_aload_n hx hb dHi_present_4 rfl (lv_at hl 0 rfl) ?_
  refine g_Hi_place cx hP  t_67 dHi_present_5 ?_
  obtain ⟨b1, h⟩ := gd_some h
  obtain ⟨i2, ei2, h⟩ := lt_some h
  have hi2 : i2 < 17 := by rw [ei2]; exact inb_lt b1
  refine q_aald (b := ad g (cP i2)) cx hP (by decide) (e_2 g) b1 (by rw [← ei2]; exact if_pos hi2) dHi_present_8 ?_
  exact q_rr cx hr hP hS hQ (q_rP h) dHi_present_9
theorem dHi_keep_0 : decode cHi_keep 0 = .ok (.aload_n 0, 1) := by decide +kernel
theorem dHi_keep_1 : decode cHi_keep 1 = .ok (.invokevirtual 31, 3) := by decide +kernel
theorem dHi_keep_4 : decode cHi_keep 4 = .ok (.astore_n 1, 1) := by decide +kernel
theorem dHi_keep_5 : decode cHi_keep 5 = .ok (.aload_n 0, 1) := by decide +kernel
theorem dHi_keep_6 : decode cHi_keep 6 = .ok (.aload_n 0, 1) := by decide +kernel
theorem dHi_keep_7 : decode cHi_keep 7 = .ok (.getfield 17, 3) := by decide +kernel
theorem dHi_keep_10 : decode cHi_keep 10 = .ok (.iconst 1, 1) := by decide +kernel
theorem dHi_keep_11 : decode cHi_keep 11 = .ok (.iadd, 1) := by decide +kernel
theorem dHi_keep_12 : decode cHi_keep 12 = .ok (.bipush 17, 2) := by decide +kernel
theorem dHi_keep_14 : decode cHi_keep 14 = .ok (.irem, 1) := by decide +kernel
theorem dHi_keep_15 : decode cHi_keep 15 = .ok (.putfield 17, 3) := by decide +kernel
theorem dHi_keep_18 : decode cHi_keep 18 = .ok (.aload_n 0, 1) := by decide +kernel
theorem dHi_keep_19 : decode cHi_keep 19 = .ok (.aload_n 0, 1) := by decide +kernel
theorem dHi_keep_20 : decode cHi_keep 20 = .ok (.getfield 21, 3) := by decide +kernel
theorem dHi_keep_23 : decode cHi_keep 23 = .ok (.iconst 1, 1) := by decide +kernel
theorem dHi_keep_24 : decode cHi_keep 24 = .ok (.iadd, 1) := by decide +kernel
theorem dHi_keep_25 : decode cHi_keep 25 = .ok (.bipush 16, 2) := by decide +kernel
theorem dHi_keep_27 : decode cHi_keep 27 = .ok (.invokestatic 35, 3) := by decide +kernel
theorem dHi_keep_30 : decode cHi_keep 30 = .ok (.putfield 21, 3) := by decide +kernel
theorem dHi_keep_33 : decode cHi_keep 33 = .ok (.aload_n 0, 1) := by decide +kernel
theorem dHi_keep_34 : decode cHi_keep 34 = .ok (.iconst 0, 1) := by decide +kernel
theorem dHi_keep_35 : decode cHi_keep 35 = .ok (.putfield 24, 3) := by decide +kernel
theorem dHi_keep_38 : decode cHi_keep 38 = .ok (.aload_n 0, 1) := by decide +kernel
theorem dHi_keep_39 : decode cHi_keep 39 = .ok (.dup, 1) := by decide +kernel
theorem dHi_keep_40 : decode cHi_keep 40 = .ok (.getfield 27, 3) := by decide +kernel
theorem dHi_keep_43 : decode cHi_keep 43 = .ok (.iconst 1, 1) := by decide +kernel
theorem dHi_keep_44 : decode cHi_keep 44 = .ok (.iadd, 1) := by decide +kernel
theorem dHi_keep_45 : decode cHi_keep 45 = .ok (.putfield 27, 3) := by decide +kernel
theorem dHi_keep_48 : decode cHi_keep 48 = .ok (.aload_n 0, 1) := by decide +kernel
theorem dHi_keep_49 : decode cHi_keep 49 = .ok (.invokevirtual 31, 3) := by decide +kernel
theorem dHi_keep_52 : decode cHi_keep 52 = .ok (.aload_n 1, 1) := by decide +kernel
theorem dHi_keep_53 : decode cHi_keep 53 = .ok (.invokevirtual 41, 3) := by decide +kernel
theorem dHi_keep_56 : decode cHi_keep 56 = .ok (.aload_n 0, 1) := by decide +kernel
theorem dHi_keep_57 : decode cHi_keep 57 = .ok (.invokevirtual 31, 3) := by decide +kernel
theorem dHi_keep_60 : decode cHi_keep 60 = .ok (.areturn, 1) := by decide +kernel
def f_Hi_keep   (σ : Mem) : Option (Nat × Mem) :=
  bn (f_Hi_present σ) fun (i3 : Nat) (σ2 : Mem) =>
  gd (decide (i3 < 17)) (
  lt_ (sI σ2 1 1 (((σ2.1 1 1) + (1 : Int32)) - ((σ2.1 1 1) + (1 : Int32)) / (17 : Int32) * (17 : Int32))) fun (σ5 : Mem) =>
  lt_ (sI σ5 1 2 (if (16 : Int32) < ((σ5.1 1 2) + (1 : Int32)) then (16 : Int32) else ((σ5.1 1 2) + (1 : Int32)))) fun (σ6 : Mem) =>
  lt_ (sI σ6 1 3 (0 : Int32)) fun (σ7 : Mem) =>
  lt_ (sI σ7 1 4 ((σ7.1 1 4) + (1 : Int32))) fun (σ8 : Mem) =>
  bn (f_Hi_present σ8) fun (i11 : Nat) (σ10 : Mem) =>
  gd (decide (i11 < 17)) (
  bn (f_Pr_copy i11 i3 σ10) fun (_ : Unit) (σ14 : Mem) =>
  bn (f_Hi_present σ14) fun (i17 : Nat) (σ16 : Mem) =>
  gd (decide (i17 < 17)) (
  some (i17, σ16))))
set_option maxHeartbeats 4000000 in
set_option maxRecDepth 100000 in
theorem c_Hi_keep (l : Launch) (g : Gw) (hg : wInj g) {r0 : Nat} {σ σ0 : Mem} (h : f_Hi_keep σ = some (r0, σ0)) : KR l yHi_keep cHi_keep 2 (some (.object "TermBench$Program")) 2 g [.ref (ad g 1)] σ (cP r0) σ0 := by
  refine q_met g hg (own := "TermBench$History") rfl rfl (Nat.le_of_ble_eq_true rfl) (fun p e s m args below meth c R Q cx hRk hr hQ H locs ls hP hS hl => ?_)
  have hx := cx.1
  have hb := cx.2.1
  have hown := cx.2.2.2.1
  have hts := cx.2.2.2.2.1
  have hl : lv_has ls 2 [(0, .ref (ad g 1))] := hl
  unfold f_Hi_keep at h
  refine lv_aload_n hx hb dHi_keep_0 rfl (lv_at hl 0 rfl) ?_
  obtain ⟨i3, σ2, h1, h⟩ := bn_some h
  obtain ⟨b4, h⟩ := gd_some h
  have hi3 : i3 < 17 := of_decide_eq_true b4
  refine q_cVr (rest := []) (As := []) cx hP hS hRk (c_Hi_present l g hg h1) Y_Hi_present V_Hi_present t_190 (by decide) (by decide) (e_1 g _ _) rfl rfl hl.1 rfl (Nat.le_of_ble_eq_true rfl) dHi_keep_1 (fun H locs hP hS => ?_)
  refine lv_astore_n (lv' := [(1, .ref (ad g (cP i3))), (0, .ref (ad g 1))]) hx hb dHi_keep_4 rfl hl (Nat.le_of_ble_eq_true rfl) rfl (fun ls hl => ?_)
  refine lv_aload_n hx hb dHi_keep_5 rfl (lv_at hl 1 rfl) ?_
  refine lv_aload_n hx hb dHi_keep_6 rfl (lv_at hl 1 rfl) ?_
  refine g_Hi_place cx hP  t_67 dHi_keep_7 ?_
  refine lv_iconst (v := 1) hx hb dHi_keep_10 (by decide) ?_
  refine lv_iadd hx hb dHi_keep_11 ?_
  refine lv_bipush (v := 17) hx hb dHi_keep_12 (by decide) ?_
  refine lv_irem hx hb dHi_keep_14 (by decide) ?_
  obtain ⟨σ5, eσ5, h⟩ := lt_some h
  refine p_Hi_place cx hP hS t_67 dHi_keep_15 eσ5 (fun H locs hP hS => ?_)
  refine lv_aload_n hx hb dHi_keep_18 rfl (lv_at hl 1 rfl) ?_
  refine lv_aload_n hx hb dHi_keep_19 rfl (lv_at hl 1 rfl) ?_
  refine g_Hi_kept cx hP  t_68 dHi_keep_20 ?_
  refine lv_iconst (v := 1) hx hb dHi_keep_23 (by decide) ?_
  refine lv_iadd hx hb dHi_keep_24 ?_
  refine lv_bipush (v := 16) hx hb dHi_keep_25 (by decide) ?_
  refine q_min cx hRk t_191 N_min (by omega) hl.1 (Nat.le_of_ble_eq_true rfl) dHi_keep_27 ?_
  obtain ⟨σ6, eσ6, h⟩ := lt_some h
  refine p_Hi_kept cx hP hS t_68 dHi_keep_30 eσ6 (fun H locs hP hS => ?_)
  refine lv_aload_n hx hb dHi_keep_33 rfl (lv_at hl 1 rfl) ?_
  refine lv_iconst (v := 0) hx hb dHi_keep_34 (by decide) ?_
  obtain ⟨σ7, eσ7, h⟩ := lt_some h
  refine p_Hi_putBy cx hP hS t_69 dHi_keep_35 eσ7 (fun H locs hP hS => ?_)
  refine lv_aload_n hx hb dHi_keep_38 rfl (lv_at hl 1 rfl) ?_
  refine lv_dup hx hb dHi_keep_39 rfl ?_
  refine g_Hi_change cx hP  t_70 dHi_keep_40 ?_
  refine lv_iconst (v := 1) hx hb dHi_keep_43 (by decide) ?_
  refine lv_iadd hx hb dHi_keep_44 ?_
  obtain ⟨σ8, eσ8, h⟩ := lt_some h
  refine p_Hi_change cx hP hS t_70 dHi_keep_45 eσ8 (fun H locs hP hS => ?_)
  refine lv_aload_n hx hb dHi_keep_48 rfl (lv_at hl 1 rfl) ?_
  obtain ⟨i11, σ10, h9, h⟩ := bn_some h
  obtain ⟨b12, h⟩ := gd_some h
  have hi11 : i11 < 17 := of_decide_eq_true b12
  refine q_cVr (rest := []) (As := []) cx hP hS hRk (c_Hi_present l g hg h9) Y_Hi_present V_Hi_present t_190 (by decide) (by decide) (e_1 g _ _) rfl rfl hl.1 rfl (Nat.le_of_ble_eq_true rfl) dHi_keep_49 (fun H locs hP hS => ?_)
  refine lv_aload_n hx hb dHi_keep_52 rfl (lv_at hl 0 rfl) ?_
  obtain ⟨rh13, σ14, h13, h⟩ := bn_some h
  refine q_cVv (rest := []) (As := [.ref (ad g (cP i3))]) cx hP hS hRk (c_Pr_copy l g hg hi11 hi3 h13) Y_Pr_copy V_Pr_copy t_194 (by decide) (l_cP hi11) (e_cP g hi11 _ _) rfl rfl hl.1 rfl (Nat.le_of_ble_eq_true rfl) dHi_keep_53 (fun H locs hP hS => ?_)
  refine lv_aload_n hx hb dHi_keep_56 rfl (lv_at hl 1 rfl) ?_
  obtain ⟨i17, σ16, h15, h⟩ := bn_some h
  obtain ⟨b18, h⟩ := gd_some h
  have hi17 : i17 < 17 := of_decide_eq_true b18
  refine q_cVr (rest := []) (As := []) cx hP hS hRk (c_Hi_present l g hg h15) Y_Hi_present V_Hi_present t_190 (by decide) (by decide) (e_1 g _ _) rfl rfl hl.1 rfl (Nat.le_of_ble_eq_true rfl) dHi_keep_57 (fun H locs hP hS => ?_)
  exact q_rr cx hr hP hS hQ (q_rP h) dHi_keep_60
theorem dHi_stepBack_0 : decode cHi_stepBack 0 = .ok (.aload_n 0, 1) := by decide +kernel
theorem dHi_stepBack_1 : decode cHi_stepBack 1 = .ok (.getfield 21, 3) := by decide +kernel
theorem dHi_stepBack_4 : decode cHi_stepBack 4 = .ok (.ifCond .ne 5, 3) := by decide +kernel
theorem dHi_stepBack_7 : decode cHi_stepBack 7 = .ok (.iconst 0, 1) := by decide +kernel
theorem dHi_stepBack_8 : decode cHi_stepBack 8 = .ok (.ireturn, 1) := by decide +kernel
theorem dHi_stepBack_9 : decode cHi_stepBack 9 = .ok (.aload_n 0, 1) := by decide +kernel
theorem dHi_stepBack_10 : decode cHi_stepBack 10 = .ok (.aload_n 0, 1) := by decide +kernel
theorem dHi_stepBack_11 : decode cHi_stepBack 11 = .ok (.getfield 17, 3) := by decide +kernel
theorem dHi_stepBack_14 : decode cHi_stepBack 14 = .ok (.bipush 17, 2) := by decide +kernel
theorem dHi_stepBack_16 : decode cHi_stepBack 16 = .ok (.iadd, 1) := by decide +kernel
theorem dHi_stepBack_17 : decode cHi_stepBack 17 = .ok (.iconst 1, 1) := by decide +kernel
theorem dHi_stepBack_18 : decode cHi_stepBack 18 = .ok (.isub, 1) := by decide +kernel
theorem dHi_stepBack_19 : decode cHi_stepBack 19 = .ok (.bipush 17, 2) := by decide +kernel
theorem dHi_stepBack_21 : decode cHi_stepBack 21 = .ok (.irem, 1) := by decide +kernel
theorem dHi_stepBack_22 : decode cHi_stepBack 22 = .ok (.putfield 17, 3) := by decide +kernel
theorem dHi_stepBack_25 : decode cHi_stepBack 25 = .ok (.aload_n 0, 1) := by decide +kernel
theorem dHi_stepBack_26 : decode cHi_stepBack 26 = .ok (.dup, 1) := by decide +kernel
theorem dHi_stepBack_27 : decode cHi_stepBack 27 = .ok (.getfield 21, 3) := by decide +kernel
theorem dHi_stepBack_30 : decode cHi_stepBack 30 = .ok (.iconst 1, 1) := by decide +kernel
theorem dHi_stepBack_31 : decode cHi_stepBack 31 = .ok (.isub, 1) := by decide +kernel
theorem dHi_stepBack_32 : decode cHi_stepBack 32 = .ok (.putfield 21, 3) := by decide +kernel
theorem dHi_stepBack_35 : decode cHi_stepBack 35 = .ok (.aload_n 0, 1) := by decide +kernel
theorem dHi_stepBack_36 : decode cHi_stepBack 36 = .ok (.dup, 1) := by decide +kernel
theorem dHi_stepBack_37 : decode cHi_stepBack 37 = .ok (.getfield 24, 3) := by decide +kernel
theorem dHi_stepBack_40 : decode cHi_stepBack 40 = .ok (.iconst 1, 1) := by decide +kernel
theorem dHi_stepBack_41 : decode cHi_stepBack 41 = .ok (.iadd, 1) := by decide +kernel
theorem dHi_stepBack_42 : decode cHi_stepBack 42 = .ok (.putfield 24, 3) := by decide +kernel
theorem dHi_stepBack_45 : decode cHi_stepBack 45 = .ok (.aload_n 0, 1) := by decide +kernel
theorem dHi_stepBack_46 : decode cHi_stepBack 46 = .ok (.dup, 1) := by decide +kernel
theorem dHi_stepBack_47 : decode cHi_stepBack 47 = .ok (.getfield 27, 3) := by decide +kernel
theorem dHi_stepBack_50 : decode cHi_stepBack 50 = .ok (.iconst 1, 1) := by decide +kernel
theorem dHi_stepBack_51 : decode cHi_stepBack 51 = .ok (.iadd, 1) := by decide +kernel
theorem dHi_stepBack_52 : decode cHi_stepBack 52 = .ok (.putfield 27, 3) := by decide +kernel
theorem dHi_stepBack_55 : decode cHi_stepBack 55 = .ok (.iconst 1, 1) := by decide +kernel
theorem dHi_stepBack_56 : decode cHi_stepBack 56 = .ok (.ireturn, 1) := by decide +kernel
def f_Hi_stepBack   (σ : Mem) : Option (Int32 × Mem) :=
  if (σ.1 1 2) = 0 then (
  some ((0 : Int32), σ))
  else (
  lt_ (sI σ 1 1 ((((σ.1 1 1) + (17 : Int32)) - (1 : Int32)) - (((σ.1 1 1) + (17 : Int32)) - (1 : Int32)) / (17 : Int32) * (17 : Int32))) fun (σ1 : Mem) =>
  lt_ (sI σ1 1 2 ((σ1.1 1 2) - (1 : Int32))) fun (σ2 : Mem) =>
  lt_ (sI σ2 1 3 ((σ2.1 1 3) + (1 : Int32))) fun (σ3 : Mem) =>
  lt_ (sI σ3 1 4 ((σ3.1 1 4) + (1 : Int32))) fun (σ4 : Mem) =>
  some ((1 : Int32), σ4))
set_option maxHeartbeats 4000000 in
set_option maxRecDepth 100000 in
theorem c_Hi_stepBack (l : Launch) (g : Gw) (hg : wInj g) {r0 : Int32} {σ σ0 : Mem} (h : f_Hi_stepBack σ = some (r0, σ0)) : KI l yHi_stepBack cHi_stepBack 1 (some .boolean) 0 g [.ref (ad g 1)] σ r0 σ0 := by
  refine q_met g hg (own := "TermBench$History") rfl rfl (Nat.le_of_ble_eq_true rfl) (fun p e s m args below meth c R Q cx hRk hr hQ H locs ls hP hS hl => ?_)
  have hx := cx.1
  have hb := cx.2.1
  have hown := cx.2.2.2.1
  have hts := cx.2.2.2.2.1
  have hl : lv_has ls 1 [(0, .ref (ad g 1))] := hl
  unfold f_Hi_stepBack at h
  refine lv_aload_n hx hb dHi_stepBack_0 rfl (lv_at hl 0 rfl) ?_
  refine g_Hi_kept cx hP  t_68 dHi_stepBack_1 ?_
  refine lv_if_ne (tgt := 9) hx hb dHi_stepBack_4 (by decide) (fun hc => ?_) (fun hc => ?_)
  · replace h := if_f h hc
    refine lv_aload_n hx hb dHi_stepBack_9 rfl (lv_at hl 0 rfl) ?_
    refine lv_aload_n hx hb dHi_stepBack_10 rfl (lv_at hl 0 rfl) ?_
    refine g_Hi_place cx hP  t_67 dHi_stepBack_11 ?_
    refine lv_bipush (v := 17) hx hb dHi_stepBack_14 (by decide) ?_
    refine lv_iadd hx hb dHi_stepBack_16 ?_
    refine lv_iconst (v := 1) hx hb dHi_stepBack_17 (by decide) ?_
    refine lv_isub hx hb dHi_stepBack_18 ?_
    refine lv_bipush (v := 17) hx hb dHi_stepBack_19 (by decide) ?_
    refine lv_irem hx hb dHi_stepBack_21 (by decide) ?_
    obtain ⟨σ1, eσ1, h⟩ := lt_some h
    refine p_Hi_place cx hP hS t_67 dHi_stepBack_22 eσ1 (fun H locs hP hS => ?_)
    refine lv_aload_n hx hb dHi_stepBack_25 rfl (lv_at hl 0 rfl) ?_
    refine lv_dup hx hb dHi_stepBack_26 rfl ?_
    refine g_Hi_kept cx hP  t_68 dHi_stepBack_27 ?_
    refine lv_iconst (v := 1) hx hb dHi_stepBack_30 (by decide) ?_
    refine lv_isub hx hb dHi_stepBack_31 ?_
    obtain ⟨σ2, eσ2, h⟩ := lt_some h
    refine p_Hi_kept cx hP hS t_68 dHi_stepBack_32 eσ2 (fun H locs hP hS => ?_)
    refine lv_aload_n hx hb dHi_stepBack_35 rfl (lv_at hl 0 rfl) ?_
    refine lv_dup hx hb dHi_stepBack_36 rfl ?_
    refine g_Hi_putBy cx hP  t_69 dHi_stepBack_37 ?_
    refine lv_iconst (v := 1) hx hb dHi_stepBack_40 (by decide) ?_
    refine lv_iadd hx hb dHi_stepBack_41 ?_
    obtain ⟨σ3, eσ3, h⟩ := lt_some h
    refine p_Hi_putBy cx hP hS t_69 dHi_stepBack_42 eσ3 (fun H locs hP hS => ?_)
    refine lv_aload_n hx hb dHi_stepBack_45 rfl (lv_at hl 0 rfl) ?_
    refine lv_dup hx hb dHi_stepBack_46 rfl ?_
    refine g_Hi_change cx hP  t_70 dHi_stepBack_47 ?_
    refine lv_iconst (v := 1) hx hb dHi_stepBack_50 (by decide) ?_
    refine lv_iadd hx hb dHi_stepBack_51 ?_
    obtain ⟨σ4, eσ4, h⟩ := lt_some h
    refine p_Hi_change cx hP hS t_70 dHi_stepBack_52 eσ4 (fun H locs hP hS => ?_)
    refine lv_iconst (v := 1) hx hb dHi_stepBack_55 (by decide) ?_
    exact q_ri cx hr rfl hP hS hQ h dHi_stepBack_56
  · replace h := if_t h hc
    refine lv_iconst (v := 0) hx hb dHi_stepBack_7 (by decide) ?_
    exact q_ri cx hr rfl hP hS hQ h dHi_stepBack_8
theorem dHi_stepForth_0 : decode cHi_stepForth 0 = .ok (.aload_n 0, 1) := by decide +kernel
theorem dHi_stepForth_1 : decode cHi_stepForth 1 = .ok (.getfield 24, 3) := by decide +kernel
theorem dHi_stepForth_4 : decode cHi_stepForth 4 = .ok (.ifCond .ne 5, 3) := by decide +kernel
theorem dHi_stepForth_7 : decode cHi_stepForth 7 = .ok (.iconst 0, 1) := by decide +kernel
theorem dHi_stepForth_8 : decode cHi_stepForth 8 = .ok (.ireturn, 1) := by decide +kernel
theorem dHi_stepForth_9 : decode cHi_stepForth 9 = .ok (.aload_n 0, 1) := by decide +kernel
theorem dHi_stepForth_10 : decode cHi_stepForth 10 = .ok (.aload_n 0, 1) := by decide +kernel
theorem dHi_stepForth_11 : decode cHi_stepForth 11 = .ok (.getfield 17, 3) := by decide +kernel
theorem dHi_stepForth_14 : decode cHi_stepForth 14 = .ok (.iconst 1, 1) := by decide +kernel
theorem dHi_stepForth_15 : decode cHi_stepForth 15 = .ok (.iadd, 1) := by decide +kernel
theorem dHi_stepForth_16 : decode cHi_stepForth 16 = .ok (.bipush 17, 2) := by decide +kernel
theorem dHi_stepForth_18 : decode cHi_stepForth 18 = .ok (.irem, 1) := by decide +kernel
theorem dHi_stepForth_19 : decode cHi_stepForth 19 = .ok (.putfield 17, 3) := by decide +kernel
theorem dHi_stepForth_22 : decode cHi_stepForth 22 = .ok (.aload_n 0, 1) := by decide +kernel
theorem dHi_stepForth_23 : decode cHi_stepForth 23 = .ok (.dup, 1) := by decide +kernel
theorem dHi_stepForth_24 : decode cHi_stepForth 24 = .ok (.getfield 21, 3) := by decide +kernel
theorem dHi_stepForth_27 : decode cHi_stepForth 27 = .ok (.iconst 1, 1) := by decide +kernel
theorem dHi_stepForth_28 : decode cHi_stepForth 28 = .ok (.iadd, 1) := by decide +kernel
theorem dHi_stepForth_29 : decode cHi_stepForth 29 = .ok (.putfield 21, 3) := by decide +kernel
theorem dHi_stepForth_32 : decode cHi_stepForth 32 = .ok (.aload_n 0, 1) := by decide +kernel
theorem dHi_stepForth_33 : decode cHi_stepForth 33 = .ok (.dup, 1) := by decide +kernel
theorem dHi_stepForth_34 : decode cHi_stepForth 34 = .ok (.getfield 24, 3) := by decide +kernel
theorem dHi_stepForth_37 : decode cHi_stepForth 37 = .ok (.iconst 1, 1) := by decide +kernel
theorem dHi_stepForth_38 : decode cHi_stepForth 38 = .ok (.isub, 1) := by decide +kernel
theorem dHi_stepForth_39 : decode cHi_stepForth 39 = .ok (.putfield 24, 3) := by decide +kernel
theorem dHi_stepForth_42 : decode cHi_stepForth 42 = .ok (.aload_n 0, 1) := by decide +kernel
theorem dHi_stepForth_43 : decode cHi_stepForth 43 = .ok (.dup, 1) := by decide +kernel
theorem dHi_stepForth_44 : decode cHi_stepForth 44 = .ok (.getfield 27, 3) := by decide +kernel
theorem dHi_stepForth_47 : decode cHi_stepForth 47 = .ok (.iconst 1, 1) := by decide +kernel
theorem dHi_stepForth_48 : decode cHi_stepForth 48 = .ok (.iadd, 1) := by decide +kernel
theorem dHi_stepForth_49 : decode cHi_stepForth 49 = .ok (.putfield 27, 3) := by decide +kernel
theorem dHi_stepForth_52 : decode cHi_stepForth 52 = .ok (.iconst 1, 1) := by decide +kernel
theorem dHi_stepForth_53 : decode cHi_stepForth 53 = .ok (.ireturn, 1) := by decide +kernel
def f_Hi_stepForth   (σ : Mem) : Option (Int32 × Mem) :=
  if (σ.1 1 3) = 0 then (
  some ((0 : Int32), σ))
  else (
  lt_ (sI σ 1 1 (((σ.1 1 1) + (1 : Int32)) - ((σ.1 1 1) + (1 : Int32)) / (17 : Int32) * (17 : Int32))) fun (σ1 : Mem) =>
  lt_ (sI σ1 1 2 ((σ1.1 1 2) + (1 : Int32))) fun (σ2 : Mem) =>
  lt_ (sI σ2 1 3 ((σ2.1 1 3) - (1 : Int32))) fun (σ3 : Mem) =>
  lt_ (sI σ3 1 4 ((σ3.1 1 4) + (1 : Int32))) fun (σ4 : Mem) =>
  some ((1 : Int32), σ4))
set_option maxHeartbeats 4000000 in
set_option maxRecDepth 100000 in
theorem c_Hi_stepForth (l : Launch) (g : Gw) (hg : wInj g) {r0 : Int32} {σ σ0 : Mem} (h : f_Hi_stepForth σ = some (r0, σ0)) : KI l yHi_stepForth cHi_stepForth 1 (some .boolean) 0 g [.ref (ad g 1)] σ r0 σ0 := by
  refine q_met g hg (own := "TermBench$History") rfl rfl (Nat.le_of_ble_eq_true rfl) (fun p e s m args below meth c R Q cx hRk hr hQ H locs ls hP hS hl => ?_)
  have hx := cx.1
  have hb := cx.2.1
  have hown := cx.2.2.2.1
  have hts := cx.2.2.2.2.1
  have hl : lv_has ls 1 [(0, .ref (ad g 1))] := hl
  unfold f_Hi_stepForth at h
  refine lv_aload_n hx hb dHi_stepForth_0 rfl (lv_at hl 0 rfl) ?_
  refine g_Hi_putBy cx hP  t_69 dHi_stepForth_1 ?_
  refine lv_if_ne (tgt := 9) hx hb dHi_stepForth_4 (by decide) (fun hc => ?_) (fun hc => ?_)
  · replace h := if_f h hc
    refine lv_aload_n hx hb dHi_stepForth_9 rfl (lv_at hl 0 rfl) ?_
    refine lv_aload_n hx hb dHi_stepForth_10 rfl (lv_at hl 0 rfl) ?_
    refine g_Hi_place cx hP  t_67 dHi_stepForth_11 ?_
    refine lv_iconst (v := 1) hx hb dHi_stepForth_14 (by decide) ?_
    refine lv_iadd hx hb dHi_stepForth_15 ?_
    refine lv_bipush (v := 17) hx hb dHi_stepForth_16 (by decide) ?_
    refine lv_irem hx hb dHi_stepForth_18 (by decide) ?_
    obtain ⟨σ1, eσ1, h⟩ := lt_some h
    refine p_Hi_place cx hP hS t_67 dHi_stepForth_19 eσ1 (fun H locs hP hS => ?_)
    refine lv_aload_n hx hb dHi_stepForth_22 rfl (lv_at hl 0 rfl) ?_
    refine lv_dup hx hb dHi_stepForth_23 rfl ?_
    refine g_Hi_kept cx hP  t_68 dHi_stepForth_24 ?_
    refine lv_iconst (v := 1) hx hb dHi_stepForth_27 (by decide) ?_
    refine lv_iadd hx hb dHi_stepForth_28 ?_
    obtain ⟨σ2, eσ2, h⟩ := lt_some h
    refine p_Hi_kept cx hP hS t_68 dHi_stepForth_29 eσ2 (fun H locs hP hS => ?_)
    refine lv_aload_n hx hb dHi_stepForth_32 rfl (lv_at hl 0 rfl) ?_
    refine lv_dup hx hb dHi_stepForth_33 rfl ?_
    refine g_Hi_putBy cx hP  t_69 dHi_stepForth_34 ?_
    refine lv_iconst (v := 1) hx hb dHi_stepForth_37 (by decide) ?_
    refine lv_isub hx hb dHi_stepForth_38 ?_
    obtain ⟨σ3, eσ3, h⟩ := lt_some h
    refine p_Hi_putBy cx hP hS t_69 dHi_stepForth_39 eσ3 (fun H locs hP hS => ?_)
    refine lv_aload_n hx hb dHi_stepForth_42 rfl (lv_at hl 0 rfl) ?_
    refine lv_dup hx hb dHi_stepForth_43 rfl ?_
    refine g_Hi_change cx hP  t_70 dHi_stepForth_44 ?_
    refine lv_iconst (v := 1) hx hb dHi_stepForth_47 (by decide) ?_
    refine lv_iadd hx hb dHi_stepForth_48 ?_
    obtain ⟨σ4, eσ4, h⟩ := lt_some h
    refine p_Hi_change cx hP hS t_70 dHi_stepForth_49 eσ4 (fun H locs hP hS => ?_)
    refine lv_iconst (v := 1) hx hb dHi_stepForth_52 (by decide) ?_
    exact q_ri cx hr rfl hP hS hQ h dHi_stepForth_53
  · replace h := if_t h hc
    refine lv_iconst (v := 0) hx hb dHi_stepForth_7 (by decide) ?_
    exact q_ri cx hr rfl hP hS hQ h dHi_stepForth_8
end
section
/-! 23.typing, by program: pure functions and contracts -/
theorem dTg_typeName_0 : decode cTg_typeName 0 = .ok (.aload_n 1, 1) := by decide +kernel
theorem dTg_typeName_1 : decode cTg_typeName 1 = .ok (.iload_n 2, 1) := by decide +kernel
theorem dTg_typeName_2 : decode cTg_typeName 2 = .ok (.invokevirtual 64, 3) := by decide +kernel
theorem dTg_typeName_5 : decode cTg_typeName 5 = .ok (.istore_n 3, 1) := by decide +kernel
theorem dTg_typeName_6 : decode cTg_typeName 6 = .ok (.iload_n 3, 1) := by decide +kernel
theorem dTg_typeName_7 : decode cTg_typeName 7 = .ok (.ifCond .ge 12, 3) := by decide +kernel
theorem dTg_typeName_10 : decode cTg_typeName 10 = .ok (.aload_n 0, 1) := by decide +kernel
theorem dTg_typeName_11 : decode cTg_typeName 11 = .ok (.getfield 18, 3) := by decide +kernel
theorem dTg_typeName_14 : decode cTg_typeName 14 = .ok (.iload_n 2, 1) := by decide +kernel
theorem dTg_typeName_15 : decode cTg_typeName 15 = .ok (.iconst 1, 1) := by decide +kernel
theorem dTg_typeName_16 : decode cTg_typeName 16 = .ok (.iastore, 1) := by decide +kernel
theorem dTg_typeName_17 : decode cTg_typeName 17 = .ok (.lconst 1, 1) := by decide +kernel
theorem dTg_typeName_18 : decode cTg_typeName 18 = .ok (.lreturn, 1) := by decide +kernel
theorem dTg_typeName_19 : decode cTg_typeName 19 = .ok (.aload_n 1, 1) := by decide +kernel
theorem dTg_typeName_20 : decode cTg_typeName 20 = .ok (.getfield 61, 3) := by decide +kernel
theorem dTg_typeName_23 : decode cTg_typeName 23 = .ok (.iload_n 3, 1) := by decide +kernel
theorem dTg_typeName_24 : decode cTg_typeName 24 = .ok (.laload, 1) := by decide +kernel
theorem dTg_typeName_25 : decode cTg_typeName 25 = .ok (.lreturn, 1) := by decide +kernel
def f_Tg_typeName (i : Nat) (v2 : Int32) (σ : Mem) : Option (Int64 × Mem) :=
  bn (f_Pr_binder i v2 σ) fun (r3 : Int32) (σ2 : Mem) =>
  if 0 ≤ r3 then (
  gd (inb r3 40) (
  some (σ2.2 (cPt i) r3.toNatClampNeg, σ2)))
  else (
  gd (inb v2 40) (lt_ (sI σ2 6 v2.toNatClampNeg (1 : Int32)) fun (σ6 : Mem) =>
  some ((1 : Int64), σ6)))
set_option maxHeartbeats 4000000 in
set_option maxRecDepth 100000 in
theorem c_Tg_typeName (l : Launch) (g : Gw) (hg : wInj g) {i : Nat} (hi : i < 17) {v2 : Int32} {r0 : Int64} {σ σ0 : Mem} (h : f_Tg_typeName i v2 σ = some (r0, σ0)) : KL l yTg_typeName cTg_typeName 4 (some .long) 1 g [.ref (ad g 3), .ref (ad g (cP i)), .int v2] σ r0 σ0 := by
  refine q_met g hg (own := "TermBench$Typing") rfl rfl (Nat.le_of_ble_eq_true rfl) (fun p e s m args below meth c R Q cx hRk hr hQ H locs ls hP hS hl => ?_)
  have hx := cx.1
  have hb := cx.2.1
  have hown := cx.2.2.2.1
  have hts := cx.2.2.2.2.1
  have hl : lv_has ls 4 [(0, .ref (ad g 3)), (1, .ref (ad g (cP i))), (2, .int v2)] := hl
  unfold f_Tg_typeName at h
  refine lv_aload_n hx hb dTg_typeName_0 rfl (lv_at hl 1 rfl) ?_
  refine lv_iload_n hx hb dTg_typeName_1 rfl (lv_at hl 2 rfl) ?_
  obtain ⟨r3, σ2, h1, h⟩ := bn_some h
  refine q_cVi (rest := []) (As := [.int v2]) cx hP hS hRk (c_Pr_binder l g hg hi h1) Y_Pr_binder V_Pr_binder t_423 (by decide) (l_cP hi) (e_cP g hi _ _) rfl rfl hl.1 rfl (Nat.le_of_ble_eq_true rfl) dTg_typeName_2 (fun H locs hP hS => ?_)
  refine lv_istore_n (lv' := [(3, .int r3), (0, .ref (ad g 3)), (1, .ref (ad g (cP i))), (2, .int v2)]) hx hb dTg_typeName_5 rfl hl (Nat.le_of_ble_eq_true rfl) rfl (fun ls hl => ?_)
  refine lv_iload_n hx hb dTg_typeName_6 rfl (lv_at hl 0 rfl) ?_
  refine lv_if_ge (tgt := 19) hx hb dTg_typeName_7 (by decide) (fun hc => ?_) (fun hc => ?_)
  · replace h := if_t h hc
    refine lv_aload_n hx hb dTg_typeName_19 rfl (lv_at hl 2 rfl) ?_
    refine g_Pr_types cx hP hi  t_42 dTg_typeName_20 ?_
    refine lv_iload_n hx hb dTg_typeName_23 rfl (lv_at hl 0 rfl) ?_
    obtain ⟨b4, h⟩ := gd_some h
    refine q_lald cx hP (l_cPt hi) (e_cPt g hi) b4 dTg_typeName_24 ?_
    exact q_rl cx hr hP hS hQ h dTg_typeName_25
  · replace h := if_f h hc
    refine lv_aload_n hx hb dTg_typeName_10 rfl (lv_at hl 1 rfl) ?_
    refine g_Tg_marks cx hP  t_93 dTg_typeName_11 ?_
    refine lv_iload_n hx hb dTg_typeName_14 rfl (lv_at hl 3 rfl) ?_
    refine lv_iconst (v := 1) hx hb dTg_typeName_15 (by decide) ?_
    obtain ⟨b5, h⟩ := gd_some h
    obtain ⟨σ6, eσ6, h⟩ := lt_some h
    refine q_iast cx hP hS (by decide) (e_6 g) b5 dTg_typeName_16 eσ6 (fun H locs hP hS => ?_)
    refine lv_lconst (v := 1) hx hb dTg_typeName_17 rfl ?_
    exact q_rl cx hr hP hS hQ h dTg_typeName_18
theorem dTg_typeCall_0 : decode cTg_typeCall 0 = .ok (.aload_n 0, 1) := by decide +kernel
theorem dTg_typeCall_1 : decode cTg_typeCall 1 = .ok (.aload_n 1, 1) := by decide +kernel
theorem dTg_typeCall_2 : decode cTg_typeCall 2 = .ok (.aload_n 1, 1) := by decide +kernel
theorem dTg_typeCall_3 : decode cTg_typeCall 3 = .ok (.iload_n 2, 1) := by decide +kernel
theorem dTg_typeCall_4 : decode cTg_typeCall 4 = .ok (.iconst 0, 1) := by decide +kernel
theorem dTg_typeCall_5 : decode cTg_typeCall 5 = .ok (.invokevirtual 47, 3) := by decide +kernel
theorem dTg_typeCall_8 : decode cTg_typeCall 8 = .ok (.lconst 0, 1) := by decide +kernel
theorem dTg_typeCall_9 : decode cTg_typeCall 9 = .ok (.iload_n 3, 1) := by decide +kernel
theorem dTg_typeCall_10 : decode cTg_typeCall 10 = .ok (.iconst 1, 1) := by decide +kernel
theorem dTg_typeCall_11 : decode cTg_typeCall 11 = .ok (.iadd, 1) := by decide +kernel
theorem dTg_typeCall_12 : decode cTg_typeCall 12 = .ok (.invokevirtual 51, 3) := by decide +kernel
theorem dTg_typeCall_15 : decode cTg_typeCall 15 = .ok (.lstore 4, 2) := by decide +kernel
theorem dTg_typeCall_17 : decode cTg_typeCall 17 = .ok (.lload 4, 2) := by decide +kernel
theorem dTg_typeCall_19 : decode cTg_typeCall 19 = .ok (.invokestatic 68, 3) := by decide +kernel
theorem dTg_typeCall_22 : decode cTg_typeCall 22 = .ok (.istore 6, 2) := by decide +kernel
theorem dTg_typeCall_24 : decode cTg_typeCall 24 = .ok (.iload 6, 2) := by decide +kernel
theorem dTg_typeCall_26 : decode cTg_typeCall 26 = .ok (.ifCond .eq 11, 3) := by decide +kernel
theorem dTg_typeCall_29 : decode cTg_typeCall 29 = .ok (.lload 4, 2) := by decide +kernel
theorem dTg_typeCall_31 : decode cTg_typeCall 31 = .ok (.invokestatic 72, 3) := by decide +kernel
theorem dTg_typeCall_34 : decode cTg_typeCall 34 = .ok (.goto 4, 3) := by decide +kernel
theorem dTg_typeCall_37 : decode cTg_typeCall 37 = .ok (.lconst 1, 1) := by decide +kernel
theorem dTg_typeCall_38 : decode cTg_typeCall 38 = .ok (.lstore 7, 2) := by decide +kernel
theorem dTg_typeCall_40 : decode cTg_typeCall 40 = .ok (.aload_n 0, 1) := by decide +kernel
theorem dTg_typeCall_41 : decode cTg_typeCall 41 = .ok (.aload_n 1, 1) := by decide +kernel
theorem dTg_typeCall_42 : decode cTg_typeCall 42 = .ok (.aload_n 1, 1) := by decide +kernel
theorem dTg_typeCall_43 : decode cTg_typeCall 43 = .ok (.iload_n 2, 1) := by decide +kernel
theorem dTg_typeCall_44 : decode cTg_typeCall 44 = .ok (.iconst 1, 1) := by decide +kernel
theorem dTg_typeCall_45 : decode cTg_typeCall 45 = .ok (.invokevirtual 47, 3) := by decide +kernel
theorem dTg_typeCall_48 : decode cTg_typeCall 48 = .ok (.lload 7, 2) := by decide +kernel
theorem dTg_typeCall_50 : decode cTg_typeCall 50 = .ok (.iload_n 3, 1) := by decide +kernel
theorem dTg_typeCall_51 : decode cTg_typeCall 51 = .ok (.iconst 1, 1) := by decide +kernel
theorem dTg_typeCall_52 : decode cTg_typeCall 52 = .ok (.iadd, 1) := by decide +kernel
theorem dTg_typeCall_53 : decode cTg_typeCall 53 = .ok (.invokevirtual 51, 3) := by decide +kernel
theorem dTg_typeCall_56 : decode cTg_typeCall 56 = .ok (.pop2, 1) := by decide +kernel
theorem dTg_typeCall_57 : decode cTg_typeCall 57 = .ok (.lload 4, 2) := by decide +kernel
theorem dTg_typeCall_59 : decode cTg_typeCall 59 = .ok (.ldc2_w 41, 3) := by decide +kernel
theorem dTg_typeCall_62 : decode cTg_typeCall 62 = .ok (.lcmp, 1) := by decide +kernel
theorem dTg_typeCall_63 : decode cTg_typeCall 63 = .ok (.ifCond .ne 10, 3) := by decide +kernel
theorem dTg_typeCall_66 : decode cTg_typeCall 66 = .ok (.aload_n 0, 1) := by decide +kernel
theorem dTg_typeCall_67 : decode cTg_typeCall 67 = .ok (.getfield 18, 3) := by decide +kernel
theorem dTg_typeCall_70 : decode cTg_typeCall 70 = .ok (.iload_n 2, 1) := by decide +kernel
theorem dTg_typeCall_71 : decode cTg_typeCall 71 = .ok (.iconst 2, 1) := by decide +kernel
theorem dTg_typeCall_72 : decode cTg_typeCall 72 = .ok (.iastore, 1) := by decide +kernel
theorem dTg_typeCall_73 : decode cTg_typeCall 73 = .ok (.iload 6, 2) := by decide +kernel
theorem dTg_typeCall_75 : decode cTg_typeCall 75 = .ok (.ifCond .eq 11, 3) := by decide +kernel
theorem dTg_typeCall_78 : decode cTg_typeCall 78 = .ok (.lload 4, 2) := by decide +kernel
theorem dTg_typeCall_80 : decode cTg_typeCall 80 = .ok (.invokestatic 76, 3) := by decide +kernel
theorem dTg_typeCall_83 : decode cTg_typeCall 83 = .ok (.goto 4, 3) := by decide +kernel
theorem dTg_typeCall_86 : decode cTg_typeCall 86 = .ok (.lconst 1, 1) := by decide +kernel
theorem dTg_typeCall_87 : decode cTg_typeCall 87 = .ok (.lreturn, 1) := by decide +kernel
def f_Tg_typeCall_J87 (rc : Nat → Int32 → Int64 → Int32 → Mem → Option (Int64 × Mem)) (i : Nat) (v2 : Int32) (v3 : Int32) (v4 : Int64) (v6 : Int32) (v7 : Int64) (u0 : Int64) (σ : Mem) : Option (Int64 × Mem) :=
  some (u0, σ)
def f_Tg_typeCall_J73 (rc : Nat → Int32 → Int64 → Int32 → Mem → Option (Int64 × Mem)) (i : Nat) (v2 : Int32) (v3 : Int32) (v4 : Int64) (v6 : Int32) (v7 : Int64) (σ : Mem) : Option (Int64 × Mem) :=
  if v6 = 0 then (
  f_Tg_typeCall_J87 rc i v2 v3 v4 v6 v7 (1 : Int64) σ)
  else (
  bn (f_Ty_given v4 σ) fun (r3 : Int64) (σ2 : Mem) =>
  f_Tg_typeCall_J87 rc i v2 v3 v4 v6 v7 r3 σ2)
def f_Tg_typeCall_J38 (rc : Nat → Int32 → Int64 → Int32 → Mem → Option (Int64 × Mem)) (i : Nat) (v2 : Int32) (v3 : Int32) (v4 : Int64) (v6 : Int32) (u0 : Int64) (σ : Mem) : Option (Int64 × Mem) :=
  bn (f_Pr_part i v2 (1 : Int32) σ) fun (r6 : Int32) (σ5 : Mem) =>
  bn (rc i r6 u0 (v3 + (1 : Int32)) σ5) fun (r9 : Int64) (σ8 : Mem) =>
  if (lg_cmp v4 (2 : Int64)) = 0 then (
  gd (inb v2 40) (lt_ (sI σ8 6 v2.toNatClampNeg (2 : Int32)) fun (σ11 : Mem) =>
  f_Tg_typeCall_J73 rc i v2 v3 v4 v6 u0 σ11))
  else (
  f_Tg_typeCall_J73 rc i v2 v3 v4 v6 u0 σ8)
def f_Tg_typeCall (rc : Nat → Int32 → Int64 → Int32 → Mem → Option (Int64 × Mem)) (i : Nat) (v2 : Int32) (v3 : Int32) (σ : Mem) : Option (Int64 × Mem) :=
  bn (f_Pr_part i v2 (0 : Int32) σ) fun (r14 : Int32) (σ13 : Mem) =>
  bn (rc i r14 (0 : Int64) (v3 + (1 : Int32)) σ13) fun (r17 : Int64) (σ16 : Mem) =>
  bn (f_Ty_isFrom r17 σ16) fun (r20 : Int32) (σ19 : Mem) =>
  if r20 = 0 then (
  f_Tg_typeCall_J38 rc i v2 v3 r17 r20 (1 : Int64) σ19)
  else (
  bn (f_Ty_taken r17 σ19) fun (r23 : Int64) (σ22 : Mem) =>
  f_Tg_typeCall_J38 rc i v2 v3 r17 r20 r23 σ22)
set_option maxHeartbeats 4000000 in
set_option maxRecDepth 100000 in
theorem c_Tg_typeCall (l : Launch) (g : Gw) (hg : wInj g) {rc : Nat → Int32 → Int64 → Int32 → Mem → Option (Int64 × Mem)} {d0 : Nat} (hd0 : 31 ≤ d0) (hrc : ∀ {i : Nat} (hi : i < 17) {v2 : Int32} {v3 : Int64} {v5 : Int32} {r0 : Int64} {σ σ0 : Mem}, rc i v2 v3 v5 σ = some (r0, σ0) → KL l yTg_typeTerm cTg_typeTerm 8 (some .long) d0 g [.ref (ad g 3), .ref (ad g (cP i)), .int v2, .long v3, .int v5] σ r0 σ0) {i : Nat} (hi : i < 17) {v2 : Int32} {v3 : Int32} {r0 : Int64} {σ σ0 : Mem} (h : f_Tg_typeCall rc i v2 v3 σ = some (r0, σ0)) : KL l yTg_typeCall cTg_typeCall 9 (some .long) (d0 + 1) g [.ref (ad g 3), .ref (ad g (cP i)), .int v2, .int v3] σ r0 σ0 := by
  refine q_met g hg (own := "TermBench$Typing") rfl rfl (Nat.le_of_ble_eq_true rfl) (fun p e s m args below meth c R Q cx hRk hr hQ H locs ls hP hS hl => ?_)
  have hx := cx.1
  have hb := cx.2.1
  have hown := cx.2.2.2.1
  have hts := cx.2.2.2.2.1
  have hl : lv_has ls 9 [(0, .ref (ad g 3)), (1, .ref (ad g (cP i))), (2, .int v2), (3, .int v3)] := hl
  have J87 : ∀ (v2 : Int32) (v3 : Int32) (v4 : Int64) (v6 : Int32) (v7 : Int64) (u0 : Int64) (σ : Mem), f_Tg_typeCall_J87 rc i v2 v3 v4 v6 v7 u0 σ = some (r0, σ0) → ∀ (H : Heap) (locs : List Loc) (ls : Array Slot), lv_has ls 9 [(0, .ref (ad g 3)), (1, .ref (ad g (cP i))), (2, .int v2), (3, .int v3), (4, .long v4), (6, .int v6), (7, .long v7)] → Wd g σ H → va_S (wA g) s.heap H locs → W p l e R s m args below meth c H locs 0 0 Q (F0 m 87 ls [.long u0]) := by
    intro v2 v3 v4 v6 v7 u0 σ h H locs ls hl hP hS
    unfold f_Tg_typeCall_J87 at h
    exact q_rl cx hr hP hS hQ h dTg_typeCall_87
  have J73 : ∀ (v2 : Int32) (v3 : Int32) (v4 : Int64) (v6 : Int32) (v7 : Int64) (σ : Mem), f_Tg_typeCall_J73 rc i v2 v3 v4 v6 v7 σ = some (r0, σ0) → ∀ (H : Heap) (locs : List Loc) (ls : Array Slot), lv_has ls 9 [(0, .ref (ad g 3)), (1, .ref (ad g (cP i))), (2, .int v2), (3, .int v3), (4, .long v4), (6, .int v6), (7, .long v7)] → Wd g σ H → va_S (wA g) s.heap H locs → W p l e R s m args below meth c H locs 0 0 Q (F0 m 73 ls []) := by
    intro v2 v3 v4 v6 v7 σ h H locs ls hl hP hS
    unfold f_Tg_typeCall_J73 at h
    refine lv_iload hx hb dTg_typeCall_73 (lv_at hl 5 rfl) ?_
    refine lv_if_eq (tgt := 86) hx hb dTg_typeCall_75 (by decide) (fun hc => ?_) (fun hc => ?_)
    · replace h := if_t h hc
      refine lv_lconst (v := 1) hx hb dTg_typeCall_86 rfl ?_
      exact J87 _ _ _ _ _ _ _ h _ _ _ (lv_sub hl [0, 1, 2, 3, 4, 5, 6] rfl) hP hS
    · replace h := if_f h hc
      refine lv_lload hx hb dTg_typeCall_78 (lv_at hl 4 rfl) ?_
      obtain ⟨r3, σ2, h1, h⟩ := bn_some h
      refine q_cSl (rest := []) (As := [.long v4]) cx hP hS hRk (c_Ty_given l g hg h1) Y_Ty_given S_Ty_given t_435 (by omega) rfl hl.1 rfl (Nat.le_of_ble_eq_true rfl) dTg_typeCall_80 (fun H locs hP hS => ?_)
      refine lv_goto (tgt := 87) hx hb dTg_typeCall_83 (by decide) ?_
      exact J87 _ _ _ _ _ _ _ h _ _ _ (lv_sub hl [0, 1, 2, 3, 4, 5, 6] rfl) hP hS
  have J38 : ∀ (v2 : Int32) (v3 : Int32) (v4 : Int64) (v6 : Int32) (u0 : Int64) (σ : Mem), f_Tg_typeCall_J38 rc i v2 v3 v4 v6 u0 σ = some (r0, σ0) → ∀ (H : Heap) (locs : List Loc) (ls : Array Slot), lv_has ls 9 [(0, .ref (ad g 3)), (1, .ref (ad g (cP i))), (2, .int v2), (3, .int v3), (4, .long v4), (6, .int v6)] → Wd g σ H → va_S (wA g) s.heap H locs → W p l e R s m args below meth c H locs 0 0 Q (F0 m 38 ls [.long u0]) := by
    intro v2 v3 v4 v6 u0 σ h H locs ls hl hP hS
    unfold f_Tg_typeCall_J38 at h
    refine lv_lstore (lv' := [(7, .long u0), (0, .ref (ad g 3)), (1, .ref (ad g (cP i))), (2, .int v2), (3, .int v3), (4, .long v4), (6, .int v6)]) hx hb dTg_typeCall_38 hl (Nat.le_of_ble_eq_true rfl) rfl (fun ls hl => ?_)
    refine lv_aload_n hx hb dTg_typeCall_40 rfl (lv_at hl 1 rfl) ?_
    refine lv_aload_n hx hb dTg_typeCall_41 rfl (lv_at hl 2 rfl) ?_
    refine lv_aload_n hx hb dTg_typeCall_42 rfl (lv_at hl 2 rfl) ?_
    refine lv_iload_n hx hb dTg_typeCall_43 rfl (lv_at hl 3 rfl) ?_
    refine lv_iconst (v := 1) hx hb dTg_typeCall_44 (by decide) ?_
    obtain ⟨r6, σ5, h4, h⟩ := bn_some h
    refine q_cVi (rest := [.ref (ad g (cP i)), .ref (ad g 3)]) (As := [.int v2, .int (1 : Int32)]) cx hP hS hRk (c_Pr_part l g hg hi h4) Y_Pr_part V_Pr_part t_427 (by omega) (l_cP hi) (e_cP g hi _ _) rfl rfl hl.1 rfl (Nat.le_of_ble_eq_true rfl) dTg_typeCall_45 (fun H locs hP hS => ?_)
    refine lv_lload hx hb dTg_typeCall_48 (lv_at hl 0 rfl) ?_
    refine lv_iload_n hx hb dTg_typeCall_50 rfl (lv_at hl 4 rfl) ?_
    refine lv_iconst (v := 1) hx hb dTg_typeCall_51 (by decide) ?_
    refine lv_iadd hx hb dTg_typeCall_52 ?_
    obtain ⟨r9, σ8, h7, h⟩ := bn_some h
    refine q_cVl (rest := []) (As := [.ref (ad g (cP i)), .int r6, .long u0, .int (v3 + (1 : Int32))]) cx hP hS hRk (hrc hi h7) Y_Tg_typeTerm V_Tg_typeTerm t_428 (by omega) (by decide) (e_3 g _ _) rfl rfl hl.1 rfl (Nat.le_of_ble_eq_true rfl) dTg_typeCall_53 (fun H locs hP hS => ?_)
    refine lv_pop2_2 hx hb dTg_typeCall_56 rfl ?_
    refine lv_lload hx hb dTg_typeCall_57 (lv_at hl 5 rfl) ?_
    refine lv_ldc2 (own := "TermBench$Typing") (index := 41) (v := 2) hx hb hown (hts _ t_418) dTg_typeCall_59 ?_
    refine W.lcmp hx hb dTg_typeCall_62 ?_
    refine lv_if_ne (tgt := 73) hx hb dTg_typeCall_63 (by decide) (fun hc => ?_) (fun hc => ?_)
    · replace h := if_f h hc
      exact J73 _ _ _ _ _ _ h _ _ _ (lv_sub hl [1, 2, 3, 4, 5, 6, 0] rfl) hP hS
    · replace h := if_t h hc
      refine lv_aload_n hx hb dTg_typeCall_66 rfl (lv_at hl 1 rfl) ?_
      refine g_Tg_marks cx hP  t_93 dTg_typeCall_67 ?_
      refine lv_iload_n hx hb dTg_typeCall_70 rfl (lv_at hl 3 rfl) ?_
      refine lv_iconst (v := 2) hx hb dTg_typeCall_71 (by decide) ?_
      obtain ⟨b10, h⟩ := gd_some h
      obtain ⟨σ11, eσ11, h⟩ := lt_some h
      refine q_iast cx hP hS (by decide) (e_6 g) b10 dTg_typeCall_72 eσ11 (fun H locs hP hS => ?_)
      exact J73 _ _ _ _ _ _ h _ _ _ (lv_sub hl [1, 2, 3, 4, 5, 6, 0] rfl) hP hS
  unfold f_Tg_typeCall at h
  refine lv_aload_n hx hb dTg_typeCall_0 rfl (lv_at hl 0 rfl) ?_
  refine lv_aload_n hx hb dTg_typeCall_1 rfl (lv_at hl 1 rfl) ?_
  refine lv_aload_n hx hb dTg_typeCall_2 rfl (lv_at hl 1 rfl) ?_
  refine lv_iload_n hx hb dTg_typeCall_3 rfl (lv_at hl 2 rfl) ?_
  refine lv_iconst (v := 0) hx hb dTg_typeCall_4 (by decide) ?_
  obtain ⟨r14, σ13, h12, h⟩ := bn_some h
  refine q_cVi (rest := [.ref (ad g (cP i)), .ref (ad g 3)]) (As := [.int v2, .int (0 : Int32)]) cx hP hS hRk (c_Pr_part l g hg hi h12) Y_Pr_part V_Pr_part t_427 (by omega) (l_cP hi) (e_cP g hi _ _) rfl rfl hl.1 rfl (Nat.le_of_ble_eq_true rfl) dTg_typeCall_5 (fun H locs hP hS => ?_)
  refine lv_lconst (v := 0) hx hb dTg_typeCall_8 rfl ?_
  refine lv_iload_n hx hb dTg_typeCall_9 rfl (lv_at hl 3 rfl) ?_
  refine lv_iconst (v := 1) hx hb dTg_typeCall_10 (by decide) ?_
  refine lv_iadd hx hb dTg_typeCall_11 ?_
  obtain ⟨r17, σ16, h15, h⟩ := bn_some h
  refine q_cVl (rest := []) (As := [.ref (ad g (cP i)), .int r14, .long (0 : Int64), .int (v3 + (1 : Int32))]) cx hP hS hRk (hrc hi h15) Y_Tg_typeTerm V_Tg_typeTerm t_428 (by omega) (by decide) (e_3 g _ _) rfl rfl hl.1 rfl (Nat.le_of_ble_eq_true rfl) dTg_typeCall_12 (fun H locs hP hS => ?_)
  refine lv_lstore (lv' := [(4, .long r17), (0, .ref (ad g 3)), (1, .ref (ad g (cP i))), (2, .int v2), (3, .int v3)]) hx hb dTg_typeCall_15 hl (Nat.le_of_ble_eq_true rfl) rfl (fun ls hl => ?_)
  refine lv_lload hx hb dTg_typeCall_17 (lv_at hl 0 rfl) ?_
  obtain ⟨r20, σ19, h18, h⟩ := bn_some h
  refine q_cSi (rest := []) (As := [.long r17]) cx hP hS hRk (c_Ty_isFrom l g hg h18) Y_Ty_isFrom S_Ty_isFrom t_433 (by omega) rfl hl.1 rfl (Nat.le_of_ble_eq_true rfl) dTg_typeCall_19 (fun H locs hP hS => ?_)
  refine lv_istore (lv' := [(6, .int r20), (4, .long r17), (0, .ref (ad g 3)), (1, .ref (ad g (cP i))), (2, .int v2), (3, .int v3)]) hx hb dTg_typeCall_22 hl (Nat.le_of_ble_eq_true rfl) rfl (fun ls hl => ?_)
  refine lv_iload hx hb dTg_typeCall_24 (lv_at hl 0 rfl) ?_
  refine lv_if_eq (tgt := 37) hx hb dTg_typeCall_26 (by decide) (fun hc => ?_) (fun hc => ?_)
  · replace h := if_t h hc
    refine lv_lconst (v := 1) hx hb dTg_typeCall_37 rfl ?_
    exact J38 _ _ _ _ _ _ h _ _ _ (lv_sub hl [2, 3, 4, 5, 1, 0] rfl) hP hS
  · replace h := if_f h hc
    refine lv_lload hx hb dTg_typeCall_29 (lv_at hl 1 rfl) ?_
    obtain ⟨r23, σ22, h21, h⟩ := bn_some h
    refine q_cSl (rest := []) (As := [.long r17]) cx hP hS hRk (c_Ty_taken l g hg h21) Y_Ty_taken S_Ty_taken t_434 (by omega) rfl hl.1 rfl (Nat.le_of_ble_eq_true rfl) dTg_typeCall_31 (fun H locs hP hS => ?_)
    refine lv_goto (tgt := 38) hx hb dTg_typeCall_34 (by decide) ?_
    exact J38 _ _ _ _ _ _ h _ _ _ (lv_sub hl [2, 3, 4, 5, 1, 0] rfl) hP hS
theorem dTg_typeFunction_0 : decode cTg_typeFunction 0 = .ok (.aload_n 1, 1) := by decide +kernel
theorem dTg_typeFunction_1 : decode cTg_typeFunction 1 = .ok (.getfield 61, 3) := by decide +kernel
theorem dTg_typeFunction_4 : decode cTg_typeFunction 4 = .ok (.iload_n 2, 1) := by decide +kernel
theorem dTg_typeFunction_5 : decode cTg_typeFunction 5 = .ok (.laload, 1) := by decide +kernel
theorem dTg_typeFunction_6 : decode cTg_typeFunction 6 = .ok (.lstore 6, 2) := by decide +kernel
theorem dTg_typeFunction_8 : decode cTg_typeFunction 8 = .ok (.lload_n 3, 1) := by decide +kernel
theorem dTg_typeFunction_9 : decode cTg_typeFunction 9 = .ok (.lconst 1, 1) := by decide +kernel
theorem dTg_typeFunction_10 : decode cTg_typeFunction 10 = .ok (.lcmp, 1) := by decide +kernel
theorem dTg_typeFunction_11 : decode cTg_typeFunction 11 = .ok (.ifCond .ne 7, 3) := by decide +kernel
theorem dTg_typeFunction_14 : decode cTg_typeFunction 14 = .ok (.lconst 1, 1) := by decide +kernel
theorem dTg_typeFunction_15 : decode cTg_typeFunction 15 = .ok (.goto 4, 3) := by decide +kernel
theorem dTg_typeFunction_18 : decode cTg_typeFunction 18 = .ok (.lconst 0, 1) := by decide +kernel
theorem dTg_typeFunction_19 : decode cTg_typeFunction 19 = .ok (.lstore 8, 2) := by decide +kernel
theorem dTg_typeFunction_21 : decode cTg_typeFunction 21 = .ok (.lload_n 3, 1) := by decide +kernel
theorem dTg_typeFunction_22 : decode cTg_typeFunction 22 = .ok (.invokestatic 68, 3) := by decide +kernel
theorem dTg_typeFunction_25 : decode cTg_typeFunction 25 = .ok (.ifCond .eq 29, 3) := by decide +kernel
theorem dTg_typeFunction_28 : decode cTg_typeFunction 28 = .ok (.lload_n 3, 1) := by decide +kernel
theorem dTg_typeFunction_29 : decode cTg_typeFunction 29 = .ok (.invokestatic 76, 3) := by decide +kernel
theorem dTg_typeFunction_32 : decode cTg_typeFunction 32 = .ok (.lstore 8, 2) := by decide +kernel
theorem dTg_typeFunction_34 : decode cTg_typeFunction 34 = .ok (.lload 6, 2) := by decide +kernel
theorem dTg_typeFunction_36 : decode cTg_typeFunction 36 = .ok (.lload_n 3, 1) := by decide +kernel
theorem dTg_typeFunction_37 : decode cTg_typeFunction 37 = .ok (.invokestatic 72, 3) := by decide +kernel
theorem dTg_typeFunction_40 : decode cTg_typeFunction 40 = .ok (.iconst 0, 1) := by decide +kernel
theorem dTg_typeFunction_41 : decode cTg_typeFunction 41 = .ok (.invokestatic 30, 3) := by decide +kernel
theorem dTg_typeFunction_44 : decode cTg_typeFunction 44 = .ok (.ifCond .ne 10, 3) := by decide +kernel
theorem dTg_typeFunction_47 : decode cTg_typeFunction 47 = .ok (.aload_n 0, 1) := by decide +kernel
theorem dTg_typeFunction_48 : decode cTg_typeFunction 48 = .ok (.getfield 18, 3) := by decide +kernel
theorem dTg_typeFunction_51 : decode cTg_typeFunction 51 = .ok (.iload_n 2, 1) := by decide +kernel
theorem dTg_typeFunction_52 : decode cTg_typeFunction 52 = .ok (.iconst 3, 1) := by decide +kernel
theorem dTg_typeFunction_53 : decode cTg_typeFunction 53 = .ok (.iastore, 1) := by decide +kernel
theorem dTg_typeFunction_54 : decode cTg_typeFunction 54 = .ok (.lload 6, 2) := by decide +kernel
theorem dTg_typeFunction_56 : decode cTg_typeFunction 56 = .ok (.aload_n 0, 1) := by decide +kernel
theorem dTg_typeFunction_57 : decode cTg_typeFunction 57 = .ok (.aload_n 1, 1) := by decide +kernel
theorem dTg_typeFunction_58 : decode cTg_typeFunction 58 = .ok (.aload_n 1, 1) := by decide +kernel
theorem dTg_typeFunction_59 : decode cTg_typeFunction 59 = .ok (.iload_n 2, 1) := by decide +kernel
theorem dTg_typeFunction_60 : decode cTg_typeFunction 60 = .ok (.iconst 0, 1) := by decide +kernel
theorem dTg_typeFunction_61 : decode cTg_typeFunction 61 = .ok (.invokevirtual 47, 3) := by decide +kernel
theorem dTg_typeFunction_64 : decode cTg_typeFunction 64 = .ok (.lload 8, 2) := by decide +kernel
theorem dTg_typeFunction_66 : decode cTg_typeFunction 66 = .ok (.iload 5, 2) := by decide +kernel
theorem dTg_typeFunction_68 : decode cTg_typeFunction 68 = .ok (.iconst 1, 1) := by decide +kernel
theorem dTg_typeFunction_69 : decode cTg_typeFunction 69 = .ok (.iadd, 1) := by decide +kernel
theorem dTg_typeFunction_70 : decode cTg_typeFunction 70 = .ok (.invokevirtual 51, 3) := by decide +kernel
theorem dTg_typeFunction_73 : decode cTg_typeFunction 73 = .ok (.invokestatic 79, 3) := by decide +kernel
theorem dTg_typeFunction_76 : decode cTg_typeFunction 76 = .ok (.lreturn, 1) := by decide +kernel
def f_Tg_typeFunction_J54 (rc : Nat → Int32 → Int64 → Int32 → Mem → Option (Int64 × Mem)) (i : Nat) (v2 : Int32) (v3 : Int64) (v5 : Int32) (v6 : Int64) (v8 : Int64) (σ : Mem) : Option (Int64 × Mem) :=
  bn (f_Pr_part i v2 (0 : Int32) σ) fun (r3 : Int32) (σ2 : Mem) =>
  bn (rc i r3 v8 (v5 + (1 : Int32)) σ2) fun (r6 : Int64) (σ5 : Mem) =>
  bn (f_Ty_from v6 r6 σ5) fun (r9 : Int64) (σ8 : Mem) =>
  some (r9, σ8)
def f_Tg_typeFunction_J19 (rc : Nat → Int32 → Int64 → Int32 → Mem → Option (Int64 × Mem)) (i : Nat) (v2 : Int32) (v3 : Int64) (v5 : Int32) (v6 : Int64) (u0 : Int64) (σ : Mem) : Option (Int64 × Mem) :=
  bn (f_Ty_isFrom v3 σ) fun (r12 : Int32) (σ11 : Mem) =>
  if r12 = 0 then (
  f_Tg_typeFunction_J54 rc i v2 v3 v5 v6 u0 σ11)
  else (
  bn (f_Ty_given v3 σ11) fun (r15 : Int64) (σ14 : Mem) =>
  bn (f_Ty_taken v3 σ14) fun (r18 : Int64) (σ17 : Mem) =>
  bn (F_Ty_consistent 28 v6 r18 (0 : Int32) σ17) fun (r21 : Int32) (σ20 : Mem) =>
  if r21 = 0 then (
  gd (inb v2 40) (lt_ (sI σ20 6 v2.toNatClampNeg (3 : Int32)) fun (σ23 : Mem) =>
  f_Tg_typeFunction_J54 rc i v2 v3 v5 v6 r15 σ23))
  else (
  f_Tg_typeFunction_J54 rc i v2 v3 v5 v6 r15 σ20))
def f_Tg_typeFunction (rc : Nat → Int32 → Int64 → Int32 → Mem → Option (Int64 × Mem)) (i : Nat) (v2 : Int32) (v3 : Int64) (v5 : Int32) (σ : Mem) : Option (Int64 × Mem) :=
  gd (inb v2 40) (
  lt_ (σ.2 (cPt i) v2.toNatClampNeg) fun (x25 : Int64) =>
  if (lg_cmp v3 (1 : Int64)) = 0 then (
  f_Tg_typeFunction_J19 rc i v2 v3 v5 x25 (1 : Int64) σ)
  else (
  f_Tg_typeFunction_J19 rc i v2 v3 v5 x25 (0 : Int64) σ))
set_option maxHeartbeats 4000000 in
set_option maxRecDepth 100000 in
theorem c_Tg_typeFunction (l : Launch) (g : Gw) (hg : wInj g) {rc : Nat → Int32 → Int64 → Int32 → Mem → Option (Int64 × Mem)} {d0 : Nat} (hd0 : 31 ≤ d0) (hrc : ∀ {i : Nat} (hi : i < 17) {v2 : Int32} {v3 : Int64} {v5 : Int32} {r0 : Int64} {σ σ0 : Mem}, rc i v2 v3 v5 σ = some (r0, σ0) → KL l yTg_typeTerm cTg_typeTerm 8 (some .long) d0 g [.ref (ad g 3), .ref (ad g (cP i)), .int v2, .long v3, .int v5] σ r0 σ0) {i : Nat} (hi : i < 17) {v2 : Int32} {v3 : Int64} {v5 : Int32} {r0 : Int64} {σ σ0 : Mem} (h : f_Tg_typeFunction rc i v2 v3 v5 σ = some (r0, σ0)) : KL l yTg_typeFunction cTg_typeFunction 10 (some .long) (d0 + 1) g [.ref (ad g 3), .ref (ad g (cP i)), .int v2, .long v3, .int v5] σ r0 σ0 := by
  refine q_met g hg (own := "TermBench$Typing") rfl rfl (Nat.le_of_ble_eq_true rfl) (fun p e s m args below meth c R Q cx hRk hr hQ H locs ls hP hS hl => ?_)
  have hx := cx.1
  have hb := cx.2.1
  have hown := cx.2.2.2.1
  have hts := cx.2.2.2.2.1
  have hl : lv_has ls 10 [(0, .ref (ad g 3)), (1, .ref (ad g (cP i))), (2, .int v2), (3, .long v3), (5, .int v5)] := hl
  have J54 : ∀ (v2 : Int32) (v3 : Int64) (v5 : Int32) (v6 : Int64) (v8 : Int64) (σ : Mem), f_Tg_typeFunction_J54 rc i v2 v3 v5 v6 v8 σ = some (r0, σ0) → ∀ (H : Heap) (locs : List Loc) (ls : Array Slot), lv_has ls 10 [(0, .ref (ad g 3)), (1, .ref (ad g (cP i))), (2, .int v2), (3, .long v3), (5, .int v5), (6, .long v6), (8, .long v8)] → Wd g σ H → va_S (wA g) s.heap H locs → W p l e R s m args below meth c H locs 0 0 Q (F0 m 54 ls []) := by
    intro v2 v3 v5 v6 v8 σ h H locs ls hl hP hS
    unfold f_Tg_typeFunction_J54 at h
    refine lv_lload hx hb dTg_typeFunction_54 (lv_at hl 5 rfl) ?_
    refine lv_aload_n hx hb dTg_typeFunction_56 rfl (lv_at hl 0 rfl) ?_
    refine lv_aload_n hx hb dTg_typeFunction_57 rfl (lv_at hl 1 rfl) ?_
    refine lv_aload_n hx hb dTg_typeFunction_58 rfl (lv_at hl 1 rfl) ?_
    refine lv_iload_n hx hb dTg_typeFunction_59 rfl (lv_at hl 2 rfl) ?_
    refine lv_iconst (v := 0) hx hb dTg_typeFunction_60 (by decide) ?_
    obtain ⟨r3, σ2, h1, h⟩ := bn_some h
    refine q_cVi (rest := [.ref (ad g (cP i)), .ref (ad g 3), .long v6]) (As := [.int v2, .int (0 : Int32)]) cx hP hS hRk (c_Pr_part l g hg hi h1) Y_Pr_part V_Pr_part t_427 (by omega) (l_cP hi) (e_cP g hi _ _) rfl rfl hl.1 rfl (Nat.le_of_ble_eq_true rfl) dTg_typeFunction_61 (fun H locs hP hS => ?_)
    refine lv_lload hx hb dTg_typeFunction_64 (lv_at hl 6 rfl) ?_
    refine lv_iload hx hb dTg_typeFunction_66 (lv_at hl 4 rfl) ?_
    refine lv_iconst (v := 1) hx hb dTg_typeFunction_68 (by decide) ?_
    refine lv_iadd hx hb dTg_typeFunction_69 ?_
    obtain ⟨r6, σ5, h4, h⟩ := bn_some h
    refine q_cVl (rest := [.long v6]) (As := [.ref (ad g (cP i)), .int r3, .long v8, .int (v5 + (1 : Int32))]) cx hP hS hRk (hrc hi h4) Y_Tg_typeTerm V_Tg_typeTerm t_428 (by omega) (by decide) (e_3 g _ _) rfl rfl hl.1 rfl (Nat.le_of_ble_eq_true rfl) dTg_typeFunction_70 (fun H locs hP hS => ?_)
    obtain ⟨r9, σ8, h7, h⟩ := bn_some h
    refine q_cSl (rest := []) (As := [.long v6, .long r6]) cx hP hS hRk (c_Ty_from l g hg h7) Y_Ty_from S_Ty_from t_447 (by omega) rfl hl.1 rfl (Nat.le_of_ble_eq_true rfl) dTg_typeFunction_73 (fun H locs hP hS => ?_)
    exact q_rl cx hr hP hS hQ h dTg_typeFunction_76
  have J19 : ∀ (v2 : Int32) (v3 : Int64) (v5 : Int32) (v6 : Int64) (u0 : Int64) (σ : Mem), f_Tg_typeFunction_J19 rc i v2 v3 v5 v6 u0 σ = some (r0, σ0) → ∀ (H : Heap) (locs : List Loc) (ls : Array Slot), lv_has ls 10 [(0, .ref (ad g 3)), (1, .ref (ad g (cP i))), (2, .int v2), (3, .long v3), (5, .int v5), (6, .long v6)] → Wd g σ H → va_S (wA g) s.heap H locs → W p l e R s m args below meth c H locs 0 0 Q (F0 m 19 ls [.long u0]) := by
    intro v2 v3 v5 v6 u0 σ h H locs ls hl hP hS
    unfold f_Tg_typeFunction_J19 at h
    refine lv_lstore (lv' := [(8, .long u0), (0, .ref (ad g 3)), (1, .ref (ad g (cP i))), (2, .int v2), (3, .long v3), (5, .int v5), (6, .long v6)]) hx hb dTg_typeFunction_19 hl (Nat.le_of_ble_eq_true rfl) rfl (fun ls hl => ?_)
    refine lv_lload_n hx hb dTg_typeFunction_21 rfl (lv_at hl 4 rfl) ?_
    obtain ⟨r12, σ11, h10, h⟩ := bn_some h
    refine q_cSi (rest := []) (As := [.long v3]) cx hP hS hRk (c_Ty_isFrom l g hg h10) Y_Ty_isFrom S_Ty_isFrom t_433 (by omega) rfl hl.1 rfl (Nat.le_of_ble_eq_true rfl) dTg_typeFunction_22 (fun H locs hP hS => ?_)
    refine lv_if_eq (tgt := 54) hx hb dTg_typeFunction_25 (by decide) (fun hc => ?_) (fun hc => ?_)
    · replace h := if_t h hc
      exact J54 _ _ _ _ _ _ h _ _ _ (lv_sub hl [1, 2, 3, 4, 5, 6, 0] rfl) hP hS
    · replace h := if_f h hc
      refine lv_lload_n hx hb dTg_typeFunction_28 rfl (lv_at hl 4 rfl) ?_
      obtain ⟨r15, σ14, h13, h⟩ := bn_some h
      refine q_cSl (rest := []) (As := [.long v3]) cx hP hS hRk (c_Ty_given l g hg h13) Y_Ty_given S_Ty_given t_435 (by omega) rfl hl.1 rfl (Nat.le_of_ble_eq_true rfl) dTg_typeFunction_29 (fun H locs hP hS => ?_)
      refine lv_lstore (lv' := [(8, .long r15), (0, .ref (ad g 3)), (1, .ref (ad g (cP i))), (2, .int v2), (3, .long v3), (5, .int v5), (6, .long v6)]) hx hb dTg_typeFunction_32 hl (Nat.le_of_ble_eq_true rfl) rfl (fun ls hl => ?_)
      refine lv_lload hx hb dTg_typeFunction_34 (lv_at hl 6 rfl) ?_
      refine lv_lload_n hx hb dTg_typeFunction_36 rfl (lv_at hl 4 rfl) ?_
      obtain ⟨r18, σ17, h16, h⟩ := bn_some h
      refine q_cSl (rest := [.long v6]) (As := [.long v3]) cx hP hS hRk (c_Ty_taken l g hg h16) Y_Ty_taken S_Ty_taken t_434 (by omega) rfl hl.1 rfl (Nat.le_of_ble_eq_true rfl) dTg_typeFunction_37 (fun H locs hP hS => ?_)
      refine lv_iconst (v := 0) hx hb dTg_typeFunction_40 (by decide) ?_
      obtain ⟨r21, σ20, h19, h⟩ := bn_some h
      refine q_cSi (rest := []) (As := [.long v6, .long r18, .int (0 : Int32)]) cx hP hS hRk (C_Ty_consistent l g hg 28 h19) Y_Ty_consistent S_Ty_consistent t_440 (by omega) rfl hl.1 rfl (Nat.le_of_ble_eq_true rfl) dTg_typeFunction_41 (fun H locs hP hS => ?_)
      refine lv_if_ne (tgt := 54) hx hb dTg_typeFunction_44 (by decide) (fun hc => ?_) (fun hc => ?_)
      · replace h := if_f h hc
        exact J54 _ _ _ _ _ _ h _ _ _ (lv_sub hl [1, 2, 3, 4, 5, 6, 0] rfl) hP hS
      · replace h := if_t h hc
        refine lv_aload_n hx hb dTg_typeFunction_47 rfl (lv_at hl 1 rfl) ?_
        refine g_Tg_marks cx hP  t_93 dTg_typeFunction_48 ?_
        refine lv_iload_n hx hb dTg_typeFunction_51 rfl (lv_at hl 3 rfl) ?_
        refine lv_iconst (v := 3) hx hb dTg_typeFunction_52 (by decide) ?_
        obtain ⟨b22, h⟩ := gd_some h
        obtain ⟨σ23, eσ23, h⟩ := lt_some h
        refine q_iast cx hP hS (by decide) (e_6 g) b22 dTg_typeFunction_53 eσ23 (fun H locs hP hS => ?_)
        exact J54 _ _ _ _ _ _ h _ _ _ (lv_sub hl [1, 2, 3, 4, 5, 6, 0] rfl) hP hS
  unfold f_Tg_typeFunction at h
  refine lv_aload_n hx hb dTg_typeFunction_0 rfl (lv_at hl 1 rfl) ?_
  refine g_Pr_types cx hP hi  t_42 dTg_typeFunction_1 ?_
  refine lv_iload_n hx hb dTg_typeFunction_4 rfl (lv_at hl 2 rfl) ?_
  obtain ⟨b24, h⟩ := gd_some h
  refine q_lald cx hP (l_cPt hi) (e_cPt g hi) b24 dTg_typeFunction_5 ?_
  obtain ⟨x25, ex25, h⟩ := lt_some h
  refine q_nml ex25 ?_
  refine lv_lstore (lv' := [(6, .long x25), (0, .ref (ad g 3)), (1, .ref (ad g (cP i))), (2, .int v2), (3, .long v3), (5, .int v5)]) hx hb dTg_typeFunction_6 hl (Nat.le_of_ble_eq_true rfl) rfl (fun ls hl => ?_)
  refine lv_lload_n hx hb dTg_typeFunction_8 rfl (lv_at hl 4 rfl) ?_
  refine lv_lconst (v := 1) hx hb dTg_typeFunction_9 rfl ?_
  refine W.lcmp hx hb dTg_typeFunction_10 ?_
  refine lv_if_ne (tgt := 18) hx hb dTg_typeFunction_11 (by decide) (fun hc => ?_) (fun hc => ?_)
  · replace h := if_f h hc
    refine lv_lconst (v := 0) hx hb dTg_typeFunction_18 rfl ?_
    exact J19 _ _ _ _ _ _ h _ _ _ (lv_sub hl [1, 2, 3, 4, 5, 0] rfl) hP hS
  · replace h := if_t h hc
    refine lv_lconst (v := 1) hx hb dTg_typeFunction_14 rfl ?_
    refine lv_goto (tgt := 19) hx hb dTg_typeFunction_15 (by decide) ?_
    exact J19 _ _ _ _ _ _ h _ _ _ (lv_sub hl [1, 2, 3, 4, 5, 0] rfl) hP hS
theorem dTg_typeByKind_0 : decode cTg_typeByKind 0 = .ok (.aload_n 1, 1) := by decide +kernel
theorem dTg_typeByKind_1 : decode cTg_typeByKind 1 = .ok (.getfield 36, 3) := by decide +kernel
theorem dTg_typeByKind_4 : decode cTg_typeByKind 4 = .ok (.iload_n 2, 1) := by decide +kernel
theorem dTg_typeByKind_5 : decode cTg_typeByKind 5 = .ok (.iaload, 1) := by decide +kernel
theorem dTg_typeByKind_6 : decode cTg_typeByKind 6 = .ok (.tableswitch 139 1 6 #[38, 42, 49, 91, 100, 110], 38) := by decide +kernel
theorem dTg_typeByKind_44 : decode cTg_typeByKind 44 = .ok (.ldc2_w 41, 3) := by decide +kernel
theorem dTg_typeByKind_47 : decode cTg_typeByKind 47 = .ok (.lreturn, 1) := by decide +kernel
theorem dTg_typeByKind_48 : decode cTg_typeByKind 48 = .ok (.aload_n 0, 1) := by decide +kernel
theorem dTg_typeByKind_49 : decode cTg_typeByKind 49 = .ok (.aload_n 1, 1) := by decide +kernel
theorem dTg_typeByKind_50 : decode cTg_typeByKind 50 = .ok (.iload_n 2, 1) := by decide +kernel
theorem dTg_typeByKind_51 : decode cTg_typeByKind 51 = .ok (.invokevirtual 43, 3) := by decide +kernel
theorem dTg_typeByKind_54 : decode cTg_typeByKind 54 = .ok (.lreturn, 1) := by decide +kernel
theorem dTg_typeByKind_55 : decode cTg_typeByKind 55 = .ok (.aload_n 0, 1) := by decide +kernel
theorem dTg_typeByKind_56 : decode cTg_typeByKind 56 = .ok (.aload_n 1, 1) := by decide +kernel
theorem dTg_typeByKind_57 : decode cTg_typeByKind 57 = .ok (.aload_n 1, 1) := by decide +kernel
theorem dTg_typeByKind_58 : decode cTg_typeByKind 58 = .ok (.iload_n 2, 1) := by decide +kernel
theorem dTg_typeByKind_59 : decode cTg_typeByKind 59 = .ok (.iconst 0, 1) := by decide +kernel
theorem dTg_typeByKind_60 : decode cTg_typeByKind 60 = .ok (.invokevirtual 47, 3) := by decide +kernel
theorem dTg_typeByKind_63 : decode cTg_typeByKind 63 = .ok (.ldc2_w 41, 3) := by decide +kernel
theorem dTg_typeByKind_66 : decode cTg_typeByKind 66 = .ok (.iload 5, 2) := by decide +kernel
theorem dTg_typeByKind_68 : decode cTg_typeByKind 68 = .ok (.iconst 1, 1) := by decide +kernel
theorem dTg_typeByKind_69 : decode cTg_typeByKind 69 = .ok (.iadd, 1) := by decide +kernel
theorem dTg_typeByKind_70 : decode cTg_typeByKind 70 = .ok (.invokevirtual 51, 3) := by decide +kernel
theorem dTg_typeByKind_73 : decode cTg_typeByKind 73 = .ok (.pop2, 1) := by decide +kernel
theorem dTg_typeByKind_74 : decode cTg_typeByKind 74 = .ok (.aload_n 0, 1) := by decide +kernel
theorem dTg_typeByKind_75 : decode cTg_typeByKind 75 = .ok (.aload_n 1, 1) := by decide +kernel
theorem dTg_typeByKind_76 : decode cTg_typeByKind 76 = .ok (.aload_n 1, 1) := by decide +kernel
theorem dTg_typeByKind_77 : decode cTg_typeByKind 77 = .ok (.iload_n 2, 1) := by decide +kernel
theorem dTg_typeByKind_78 : decode cTg_typeByKind 78 = .ok (.iconst 1, 1) := by decide +kernel
theorem dTg_typeByKind_79 : decode cTg_typeByKind 79 = .ok (.invokevirtual 47, 3) := by decide +kernel
theorem dTg_typeByKind_82 : decode cTg_typeByKind 82 = .ok (.ldc2_w 41, 3) := by decide +kernel
theorem dTg_typeByKind_85 : decode cTg_typeByKind 85 = .ok (.iload 5, 2) := by decide +kernel
theorem dTg_typeByKind_87 : decode cTg_typeByKind 87 = .ok (.iconst 1, 1) := by decide +kernel
theorem dTg_typeByKind_88 : decode cTg_typeByKind 88 = .ok (.iadd, 1) := by decide +kernel
theorem dTg_typeByKind_89 : decode cTg_typeByKind 89 = .ok (.invokevirtual 51, 3) := by decide +kernel
theorem dTg_typeByKind_92 : decode cTg_typeByKind 92 = .ok (.pop2, 1) := by decide +kernel
theorem dTg_typeByKind_93 : decode cTg_typeByKind 93 = .ok (.ldc2_w 41, 3) := by decide +kernel
theorem dTg_typeByKind_96 : decode cTg_typeByKind 96 = .ok (.lreturn, 1) := by decide +kernel
theorem dTg_typeByKind_97 : decode cTg_typeByKind 97 = .ok (.aload_n 0, 1) := by decide +kernel
theorem dTg_typeByKind_98 : decode cTg_typeByKind 98 = .ok (.aload_n 1, 1) := by decide +kernel
theorem dTg_typeByKind_99 : decode cTg_typeByKind 99 = .ok (.iload_n 2, 1) := by decide +kernel
theorem dTg_typeByKind_100 : decode cTg_typeByKind 100 = .ok (.iload 5, 2) := by decide +kernel
theorem dTg_typeByKind_102 : decode cTg_typeByKind 102 = .ok (.invokevirtual 54, 3) := by decide +kernel
theorem dTg_typeByKind_105 : decode cTg_typeByKind 105 = .ok (.lreturn, 1) := by decide +kernel
theorem dTg_typeByKind_106 : decode cTg_typeByKind 106 = .ok (.aload_n 0, 1) := by decide +kernel
theorem dTg_typeByKind_107 : decode cTg_typeByKind 107 = .ok (.aload_n 1, 1) := by decide +kernel
theorem dTg_typeByKind_108 : decode cTg_typeByKind 108 = .ok (.iload_n 2, 1) := by decide +kernel
theorem dTg_typeByKind_109 : decode cTg_typeByKind 109 = .ok (.lload_n 3, 1) := by decide +kernel
theorem dTg_typeByKind_110 : decode cTg_typeByKind 110 = .ok (.iload 5, 2) := by decide +kernel
theorem dTg_typeByKind_112 : decode cTg_typeByKind 112 = .ok (.invokevirtual 58, 3) := by decide +kernel
theorem dTg_typeByKind_115 : decode cTg_typeByKind 115 = .ok (.lreturn, 1) := by decide +kernel
theorem dTg_typeByKind_116 : decode cTg_typeByKind 116 = .ok (.aload_n 0, 1) := by decide +kernel
theorem dTg_typeByKind_117 : decode cTg_typeByKind 117 = .ok (.aload_n 1, 1) := by decide +kernel
theorem dTg_typeByKind_118 : decode cTg_typeByKind 118 = .ok (.aload_n 1, 1) := by decide +kernel
theorem dTg_typeByKind_119 : decode cTg_typeByKind 119 = .ok (.iload_n 2, 1) := by decide +kernel
theorem dTg_typeByKind_120 : decode cTg_typeByKind 120 = .ok (.iconst 0, 1) := by decide +kernel
theorem dTg_typeByKind_121 : decode cTg_typeByKind 121 = .ok (.invokevirtual 47, 3) := by decide +kernel
theorem dTg_typeByKind_124 : decode cTg_typeByKind 124 = .ok (.aload_n 1, 1) := by decide +kernel
theorem dTg_typeByKind_125 : decode cTg_typeByKind 125 = .ok (.getfield 61, 3) := by decide +kernel
theorem dTg_typeByKind_128 : decode cTg_typeByKind 128 = .ok (.iload_n 2, 1) := by decide +kernel
theorem dTg_typeByKind_129 : decode cTg_typeByKind 129 = .ok (.laload, 1) := by decide +kernel
theorem dTg_typeByKind_130 : decode cTg_typeByKind 130 = .ok (.iload 5, 2) := by decide +kernel
theorem dTg_typeByKind_132 : decode cTg_typeByKind 132 = .ok (.iconst 1, 1) := by decide +kernel
theorem dTg_typeByKind_133 : decode cTg_typeByKind 133 = .ok (.iadd, 1) := by decide +kernel
theorem dTg_typeByKind_134 : decode cTg_typeByKind 134 = .ok (.invokevirtual 51, 3) := by decide +kernel
theorem dTg_typeByKind_137 : decode cTg_typeByKind 137 = .ok (.pop2, 1) := by decide +kernel
theorem dTg_typeByKind_138 : decode cTg_typeByKind 138 = .ok (.aload_n 1, 1) := by decide +kernel
theorem dTg_typeByKind_139 : decode cTg_typeByKind 139 = .ok (.getfield 61, 3) := by decide +kernel
theorem dTg_typeByKind_142 : decode cTg_typeByKind 142 = .ok (.iload_n 2, 1) := by decide +kernel
theorem dTg_typeByKind_143 : decode cTg_typeByKind 143 = .ok (.laload, 1) := by decide +kernel
theorem dTg_typeByKind_144 : decode cTg_typeByKind 144 = .ok (.lreturn, 1) := by decide +kernel
theorem dTg_typeByKind_145 : decode cTg_typeByKind 145 = .ok (.lconst 1, 1) := by decide +kernel
theorem dTg_typeByKind_146 : decode cTg_typeByKind 146 = .ok (.lreturn, 1) := by decide +kernel
def f_Tg_typeByKind (rc : Nat → Int32 → Int64 → Int32 → Mem → Option (Int64 × Mem)) (i : Nat) (v2 : Int32) (v3 : Int64) (v5 : Int32) (σ : Mem) : Option (Int64 × Mem) :=
  gd (inb v2 40) (
  if (σ.1 (cPk i) v2.toNatClampNeg) = (1 : Int32) then (
  some ((2 : Int64), σ))
  else (
  if (σ.1 (cPk i) v2.toNatClampNeg) = (2 : Int32) then (
  bn (f_Tg_typeName i v2 σ) fun (r4 : Int64) (σ3 : Mem) =>
  some (r4, σ3))
  else (
  if (σ.1 (cPk i) v2.toNatClampNeg) = (3 : Int32) then (
  bn (f_Pr_part i v2 (0 : Int32) σ) fun (r7 : Int32) (σ6 : Mem) =>
  bn (rc i r7 (2 : Int64) (v5 + (1 : Int32)) σ6) fun (r10 : Int64) (σ9 : Mem) =>
  bn (f_Pr_part i v2 (1 : Int32) σ9) fun (r13 : Int32) (σ12 : Mem) =>
  bn (rc i r13 (2 : Int64) (v5 + (1 : Int32)) σ12) fun (r16 : Int64) (σ15 : Mem) =>
  some ((2 : Int64), σ15))
  else (
  if (σ.1 (cPk i) v2.toNatClampNeg) = (4 : Int32) then (
  bn (f_Tg_typeCall rc i v2 v5 σ) fun (r19 : Int64) (σ18 : Mem) =>
  some (r19, σ18))
  else (
  if (σ.1 (cPk i) v2.toNatClampNeg) = (5 : Int32) then (
  bn (f_Tg_typeFunction rc i v2 v3 v5 σ) fun (r22 : Int64) (σ21 : Mem) =>
  some (r22, σ21))
  else (
  if (σ.1 (cPk i) v2.toNatClampNeg) = (6 : Int32) then (
  bn (f_Pr_part i v2 (0 : Int32) σ) fun (r25 : Int32) (σ24 : Mem) =>
  gd (inb v2 40) (
  bn (rc i r25 (σ24.2 (cPt i) v2.toNatClampNeg) (v5 + (1 : Int32)) σ24) fun (r29 : Int64) (σ28 : Mem) =>
  gd (inb v2 40) (
  some (σ28.2 (cPt i) v2.toNatClampNeg, σ28))))
  else (
  some ((1 : Int64), σ))))))))
set_option maxHeartbeats 4000000 in
set_option maxRecDepth 100000 in
theorem c_Tg_typeByKind (l : Launch) (g : Gw) (hg : wInj g) {rc : Nat → Int32 → Int64 → Int32 → Mem → Option (Int64 × Mem)} {d0 : Nat} (hd0 : 31 ≤ d0) (hrc : ∀ {i : Nat} (hi : i < 17) {v2 : Int32} {v3 : Int64} {v5 : Int32} {r0 : Int64} {σ σ0 : Mem}, rc i v2 v3 v5 σ = some (r0, σ0) → KL l yTg_typeTerm cTg_typeTerm 8 (some .long) d0 g [.ref (ad g 3), .ref (ad g (cP i)), .int v2, .long v3, .int v5] σ r0 σ0) {i : Nat} (hi : i < 17) {v2 : Int32} {v3 : Int64} {v5 : Int32} {r0 : Int64} {σ σ0 : Mem} (h : f_Tg_typeByKind rc i v2 v3 v5 σ = some (r0, σ0)) : KL l yTg_typeByKind cTg_typeByKind 6 (some .long) (d0 + 2) g [.ref (ad g 3), .ref (ad g (cP i)), .int v2, .long v3, .int v5] σ r0 σ0 := by
  refine q_met g hg (own := "TermBench$Typing") rfl rfl (Nat.le_of_ble_eq_true rfl) (fun p e s m args below meth c R Q cx hRk hr hQ H locs ls hP hS hl => ?_)
  have hx := cx.1
  have hb := cx.2.1
  have hown := cx.2.2.2.1
  have hts := cx.2.2.2.2.1
  have hl : lv_has ls 6 [(0, .ref (ad g 3)), (1, .ref (ad g (cP i))), (2, .int v2), (3, .long v3), (5, .int v5)] := hl
  unfold f_Tg_typeByKind at h
  refine lv_aload_n hx hb dTg_typeByKind_0 rfl (lv_at hl 1 rfl) ?_
  refine g_Pr_kinds cx hP hi  t_34 dTg_typeByKind_1 ?_
  refine lv_iload_n hx hb dTg_typeByKind_4 rfl (lv_at hl 2 rfl) ?_
  obtain ⟨b1, h⟩ := gd_some h
  refine q_iald cx hP (l_cPk hi) (e_cPk g hi) b1 dTg_typeByKind_5 ?_
  rcases Decidable.em (σ.1 (cPk i) v2.toNatClampNeg = (1 : Int32)) with hc1 | hc1
  · replace h := if_t h hc1
    refine lv_tableIn (tgt := 44) hx hb dTg_typeByKind_6 (by rw [hc1]; decide) (by rw [hc1]; decide) (by rw [hc1]; rfl) (by decide) ?_
    refine lv_ldc2 (own := "TermBench$Typing") (index := 41) (v := 2) hx hb hown (hts _ t_418) dTg_typeByKind_44 ?_
    exact q_rl cx hr hP hS hQ h dTg_typeByKind_47
  · replace h := if_f h hc1
    rcases Decidable.em (σ.1 (cPk i) v2.toNatClampNeg = (2 : Int32)) with hc2 | hc2
    · replace h := if_t h hc2
      refine lv_tableIn (tgt := 48) hx hb dTg_typeByKind_6 (by rw [hc2]; decide) (by rw [hc2]; decide) (by rw [hc2]; rfl) (by decide) ?_
      refine lv_aload_n hx hb dTg_typeByKind_48 rfl (lv_at hl 0 rfl) ?_
      refine lv_aload_n hx hb dTg_typeByKind_49 rfl (lv_at hl 1 rfl) ?_
      refine lv_iload_n hx hb dTg_typeByKind_50 rfl (lv_at hl 2 rfl) ?_
      obtain ⟨r4, σ3, h2, h⟩ := bn_some h
      refine q_cVl (rest := []) (As := [.ref (ad g (cP i)), .int v2]) cx hP hS hRk (c_Tg_typeName l g hg hi h2) Y_Tg_typeName V_Tg_typeName t_419 (by omega) (by decide) (e_3 g _ _) rfl rfl hl.1 rfl (Nat.le_of_ble_eq_true rfl) dTg_typeByKind_51 (fun H locs hP hS => ?_)
      exact q_rl cx hr hP hS hQ h dTg_typeByKind_54
    · replace h := if_f h hc2
      rcases Decidable.em (σ.1 (cPk i) v2.toNatClampNeg = (3 : Int32)) with hc3 | hc3
      · replace h := if_t h hc3
        refine lv_tableIn (tgt := 55) hx hb dTg_typeByKind_6 (by rw [hc3]; decide) (by rw [hc3]; decide) (by rw [hc3]; rfl) (by decide) ?_
        refine lv_aload_n hx hb dTg_typeByKind_55 rfl (lv_at hl 0 rfl) ?_
        refine lv_aload_n hx hb dTg_typeByKind_56 rfl (lv_at hl 1 rfl) ?_
        refine lv_aload_n hx hb dTg_typeByKind_57 rfl (lv_at hl 1 rfl) ?_
        refine lv_iload_n hx hb dTg_typeByKind_58 rfl (lv_at hl 2 rfl) ?_
        refine lv_iconst (v := 0) hx hb dTg_typeByKind_59 (by decide) ?_
        obtain ⟨r7, σ6, h5, h⟩ := bn_some h
        refine q_cVi (rest := [.ref (ad g (cP i)), .ref (ad g 3)]) (As := [.int v2, .int (0 : Int32)]) cx hP hS hRk (c_Pr_part l g hg hi h5) Y_Pr_part V_Pr_part t_427 (by omega) (l_cP hi) (e_cP g hi _ _) rfl rfl hl.1 rfl (Nat.le_of_ble_eq_true rfl) dTg_typeByKind_60 (fun H locs hP hS => ?_)
        refine lv_ldc2 (own := "TermBench$Typing") (index := 41) (v := 2) hx hb hown (hts _ t_418) dTg_typeByKind_63 ?_
        refine lv_iload hx hb dTg_typeByKind_66 (lv_at hl 4 rfl) ?_
        refine lv_iconst (v := 1) hx hb dTg_typeByKind_68 (by decide) ?_
        refine lv_iadd hx hb dTg_typeByKind_69 ?_
        obtain ⟨r10, σ9, h8, h⟩ := bn_some h
        refine q_cVl (rest := []) (As := [.ref (ad g (cP i)), .int r7, .long (2 : Int64), .int (v5 + (1 : Int32))]) cx hP hS hRk (hrc hi h8) Y_Tg_typeTerm V_Tg_typeTerm t_428 (by omega) (by decide) (e_3 g _ _) rfl rfl hl.1 rfl (Nat.le_of_ble_eq_true rfl) dTg_typeByKind_70 (fun H locs hP hS => ?_)
        refine lv_pop2_2 hx hb dTg_typeByKind_73 rfl ?_
        refine lv_aload_n hx hb dTg_typeByKind_74 rfl (lv_at hl 0 rfl) ?_
        refine lv_aload_n hx hb dTg_typeByKind_75 rfl (lv_at hl 1 rfl) ?_
        refine lv_aload_n hx hb dTg_typeByKind_76 rfl (lv_at hl 1 rfl) ?_
        refine lv_iload_n hx hb dTg_typeByKind_77 rfl (lv_at hl 2 rfl) ?_
        refine lv_iconst (v := 1) hx hb dTg_typeByKind_78 (by decide) ?_
        obtain ⟨r13, σ12, h11, h⟩ := bn_some h
        refine q_cVi (rest := [.ref (ad g (cP i)), .ref (ad g 3)]) (As := [.int v2, .int (1 : Int32)]) cx hP hS hRk (c_Pr_part l g hg hi h11) Y_Pr_part V_Pr_part t_427 (by omega) (l_cP hi) (e_cP g hi _ _) rfl rfl hl.1 rfl (Nat.le_of_ble_eq_true rfl) dTg_typeByKind_79 (fun H locs hP hS => ?_)
        refine lv_ldc2 (own := "TermBench$Typing") (index := 41) (v := 2) hx hb hown (hts _ t_418) dTg_typeByKind_82 ?_
        refine lv_iload hx hb dTg_typeByKind_85 (lv_at hl 4 rfl) ?_
        refine lv_iconst (v := 1) hx hb dTg_typeByKind_87 (by decide) ?_
        refine lv_iadd hx hb dTg_typeByKind_88 ?_
        obtain ⟨r16, σ15, h14, h⟩ := bn_some h
        refine q_cVl (rest := []) (As := [.ref (ad g (cP i)), .int r13, .long (2 : Int64), .int (v5 + (1 : Int32))]) cx hP hS hRk (hrc hi h14) Y_Tg_typeTerm V_Tg_typeTerm t_428 (by omega) (by decide) (e_3 g _ _) rfl rfl hl.1 rfl (Nat.le_of_ble_eq_true rfl) dTg_typeByKind_89 (fun H locs hP hS => ?_)
        refine lv_pop2_2 hx hb dTg_typeByKind_92 rfl ?_
        refine lv_ldc2 (own := "TermBench$Typing") (index := 41) (v := 2) hx hb hown (hts _ t_418) dTg_typeByKind_93 ?_
        exact q_rl cx hr hP hS hQ h dTg_typeByKind_96
      · replace h := if_f h hc3
        rcases Decidable.em (σ.1 (cPk i) v2.toNatClampNeg = (4 : Int32)) with hc4 | hc4
        · replace h := if_t h hc4
          refine lv_tableIn (tgt := 97) hx hb dTg_typeByKind_6 (by rw [hc4]; decide) (by rw [hc4]; decide) (by rw [hc4]; rfl) (by decide) ?_
          refine lv_aload_n hx hb dTg_typeByKind_97 rfl (lv_at hl 0 rfl) ?_
          refine lv_aload_n hx hb dTg_typeByKind_98 rfl (lv_at hl 1 rfl) ?_
          refine lv_iload_n hx hb dTg_typeByKind_99 rfl (lv_at hl 2 rfl) ?_
          refine lv_iload hx hb dTg_typeByKind_100 (lv_at hl 4 rfl) ?_
          obtain ⟨r19, σ18, h17, h⟩ := bn_some h
          refine q_cVl (rest := []) (As := [.ref (ad g (cP i)), .int v2, .int v5]) cx hP hS hRk (c_Tg_typeCall l g hg hd0 hrc hi h17) Y_Tg_typeCall V_Tg_typeCall t_429 (by omega) (by decide) (e_3 g _ _) rfl rfl hl.1 rfl (Nat.le_of_ble_eq_true rfl) dTg_typeByKind_102 (fun H locs hP hS => ?_)
          exact q_rl cx hr hP hS hQ h dTg_typeByKind_105
        · replace h := if_f h hc4
          rcases Decidable.em (σ.1 (cPk i) v2.toNatClampNeg = (5 : Int32)) with hc5 | hc5
          · replace h := if_t h hc5
            refine lv_tableIn (tgt := 106) hx hb dTg_typeByKind_6 (by rw [hc5]; decide) (by rw [hc5]; decide) (by rw [hc5]; rfl) (by decide) ?_
            refine lv_aload_n hx hb dTg_typeByKind_106 rfl (lv_at hl 0 rfl) ?_
            refine lv_aload_n hx hb dTg_typeByKind_107 rfl (lv_at hl 1 rfl) ?_
            refine lv_iload_n hx hb dTg_typeByKind_108 rfl (lv_at hl 2 rfl) ?_
            refine lv_lload_n hx hb dTg_typeByKind_109 rfl (lv_at hl 3 rfl) ?_
            refine lv_iload hx hb dTg_typeByKind_110 (lv_at hl 4 rfl) ?_
            obtain ⟨r22, σ21, h20, h⟩ := bn_some h
            refine q_cVl (rest := []) (As := [.ref (ad g (cP i)), .int v2, .long v3, .int v5]) cx hP hS hRk (c_Tg_typeFunction l g hg hd0 hrc hi h20) Y_Tg_typeFunction V_Tg_typeFunction t_436 (by omega) (by decide) (e_3 g _ _) rfl rfl hl.1 rfl (Nat.le_of_ble_eq_true rfl) dTg_typeByKind_112 (fun H locs hP hS => ?_)
            exact q_rl cx hr hP hS hQ h dTg_typeByKind_115
          · replace h := if_f h hc5
            rcases Decidable.em (σ.1 (cPk i) v2.toNatClampNeg = (6 : Int32)) with hc6 | hc6
            · replace h := if_t h hc6
              refine lv_tableIn (tgt := 116) hx hb dTg_typeByKind_6 (by rw [hc6]; decide) (by rw [hc6]; decide) (by rw [hc6]; rfl) (by decide) ?_
              refine lv_aload_n hx hb dTg_typeByKind_116 rfl (lv_at hl 0 rfl) ?_
              refine lv_aload_n hx hb dTg_typeByKind_117 rfl (lv_at hl 1 rfl) ?_
              refine lv_aload_n hx hb dTg_typeByKind_118 rfl (lv_at hl 1 rfl) ?_
              refine lv_iload_n hx hb dTg_typeByKind_119 rfl (lv_at hl 2 rfl) ?_
              refine lv_iconst (v := 0) hx hb dTg_typeByKind_120 (by decide) ?_
              obtain ⟨r25, σ24, h23, h⟩ := bn_some h
              refine q_cVi (rest := [.ref (ad g (cP i)), .ref (ad g 3)]) (As := [.int v2, .int (0 : Int32)]) cx hP hS hRk (c_Pr_part l g hg hi h23) Y_Pr_part V_Pr_part t_427 (by omega) (l_cP hi) (e_cP g hi _ _) rfl rfl hl.1 rfl (Nat.le_of_ble_eq_true rfl) dTg_typeByKind_121 (fun H locs hP hS => ?_)
              refine lv_aload_n hx hb dTg_typeByKind_124 rfl (lv_at hl 1 rfl) ?_
              refine g_Pr_types cx hP hi  t_42 dTg_typeByKind_125 ?_
              refine lv_iload_n hx hb dTg_typeByKind_128 rfl (lv_at hl 2 rfl) ?_
              obtain ⟨b26, h⟩ := gd_some h
              refine q_lald cx hP (l_cPt hi) (e_cPt g hi) b26 dTg_typeByKind_129 ?_
              refine lv_iload hx hb dTg_typeByKind_130 (lv_at hl 4 rfl) ?_
              refine lv_iconst (v := 1) hx hb dTg_typeByKind_132 (by decide) ?_
              refine lv_iadd hx hb dTg_typeByKind_133 ?_
              obtain ⟨r29, σ28, h27, h⟩ := bn_some h
              refine q_cVl (rest := []) (As := [.ref (ad g (cP i)), .int r25, .long (σ24.2 (cPt i) v2.toNatClampNeg), .int (v5 + (1 : Int32))]) cx hP hS hRk (hrc hi h27) Y_Tg_typeTerm V_Tg_typeTerm t_428 (by omega) (by decide) (e_3 g _ _) rfl rfl hl.1 rfl (Nat.le_of_ble_eq_true rfl) dTg_typeByKind_134 (fun H locs hP hS => ?_)
              refine lv_pop2_2 hx hb dTg_typeByKind_137 rfl ?_
              refine lv_aload_n hx hb dTg_typeByKind_138 rfl (lv_at hl 1 rfl) ?_
              refine g_Pr_types cx hP hi  t_42 dTg_typeByKind_139 ?_
              refine lv_iload_n hx hb dTg_typeByKind_142 rfl (lv_at hl 2 rfl) ?_
              obtain ⟨b30, h⟩ := gd_some h
              refine q_lald cx hP (l_cPt hi) (e_cPt g hi) b30 dTg_typeByKind_143 ?_
              exact q_rl cx hr hP hS hQ h dTg_typeByKind_144
            · replace h := if_f h hc6
              have hsw : (σ.1 (cPk i) v2.toNatClampNeg).toInt < 1 ∨ 6 < (σ.1 (cPk i) v2.toNatClampNeg).toInt := by
                have n1 := lv_neT (k := 1) (a := 1) hc1 rfl
                have n2 := lv_neT (k := 2) (a := 2) hc2 rfl
                have n3 := lv_neT (k := 3) (a := 3) hc3 rfl
                have n4 := lv_neT (k := 4) (a := 4) hc4 rfl
                have n5 := lv_neT (k := 5) (a := 5) hc5 rfl
                have n6 := lv_neT (k := 6) (a := 6) hc6 rfl
                omega
              refine lv_tableOut (tgt := 145) hx hb dTg_typeByKind_6 hsw (by decide) ?_
              refine lv_lconst (v := 1) hx hb dTg_typeByKind_145 rfl ?_
              exact q_rl cx hr hP hS hQ h dTg_typeByKind_146
theorem dTg_typeTerm_0 : decode cTg_typeTerm 0 = .ok (.iload_n 2, 1) := by decide +kernel
theorem dTg_typeTerm_1 : decode cTg_typeTerm 1 = .ok (.ifCond .lt 10, 3) := by decide +kernel
theorem dTg_typeTerm_4 : decode cTg_typeTerm 4 = .ok (.iload 5, 2) := by decide +kernel
theorem dTg_typeTerm_6 : decode cTg_typeTerm 6 = .ok (.bipush 12, 2) := by decide +kernel
theorem dTg_typeTerm_8 : decode cTg_typeTerm 8 = .ok (.if_icmp .lt 5, 3) := by decide +kernel
theorem dTg_typeTerm_11 : decode cTg_typeTerm 11 = .ok (.lconst 1, 1) := by decide +kernel
theorem dTg_typeTerm_12 : decode cTg_typeTerm 12 = .ok (.lreturn, 1) := by decide +kernel
theorem dTg_typeTerm_13 : decode cTg_typeTerm 13 = .ok (.aload_n 0, 1) := by decide +kernel
theorem dTg_typeTerm_14 : decode cTg_typeTerm 14 = .ok (.getfield 15, 3) := by decide +kernel
theorem dTg_typeTerm_17 : decode cTg_typeTerm 17 = .ok (.iload_n 2, 1) := by decide +kernel
theorem dTg_typeTerm_18 : decode cTg_typeTerm 18 = .ok (.lload_n 3, 1) := by decide +kernel
theorem dTg_typeTerm_19 : decode cTg_typeTerm 19 = .ok (.lastore, 1) := by decide +kernel
theorem dTg_typeTerm_20 : decode cTg_typeTerm 20 = .ok (.aload_n 0, 1) := by decide +kernel
theorem dTg_typeTerm_21 : decode cTg_typeTerm 21 = .ok (.getfield 18, 3) := by decide +kernel
theorem dTg_typeTerm_24 : decode cTg_typeTerm 24 = .ok (.iload_n 2, 1) := by decide +kernel
theorem dTg_typeTerm_25 : decode cTg_typeTerm 25 = .ok (.iconst 0, 1) := by decide +kernel
theorem dTg_typeTerm_26 : decode cTg_typeTerm 26 = .ok (.iastore, 1) := by decide +kernel
theorem dTg_typeTerm_27 : decode cTg_typeTerm 27 = .ok (.aload_n 0, 1) := by decide +kernel
theorem dTg_typeTerm_28 : decode cTg_typeTerm 28 = .ok (.aload_n 1, 1) := by decide +kernel
theorem dTg_typeTerm_29 : decode cTg_typeTerm 29 = .ok (.iload_n 2, 1) := by decide +kernel
theorem dTg_typeTerm_30 : decode cTg_typeTerm 30 = .ok (.lload_n 3, 1) := by decide +kernel
theorem dTg_typeTerm_31 : decode cTg_typeTerm 31 = .ok (.iload 5, 2) := by decide +kernel
theorem dTg_typeTerm_33 : decode cTg_typeTerm 33 = .ok (.invokevirtual 26, 3) := by decide +kernel
theorem dTg_typeTerm_36 : decode cTg_typeTerm 36 = .ok (.lstore 6, 2) := by decide +kernel
theorem dTg_typeTerm_38 : decode cTg_typeTerm 38 = .ok (.aload_n 0, 1) := by decide +kernel
theorem dTg_typeTerm_39 : decode cTg_typeTerm 39 = .ok (.getfield 9, 3) := by decide +kernel
theorem dTg_typeTerm_42 : decode cTg_typeTerm 42 = .ok (.iload_n 2, 1) := by decide +kernel
theorem dTg_typeTerm_43 : decode cTg_typeTerm 43 = .ok (.lload 6, 2) := by decide +kernel
theorem dTg_typeTerm_45 : decode cTg_typeTerm 45 = .ok (.lastore, 1) := by decide +kernel
theorem dTg_typeTerm_46 : decode cTg_typeTerm 46 = .ok (.aload_n 0, 1) := by decide +kernel
theorem dTg_typeTerm_47 : decode cTg_typeTerm 47 = .ok (.getfield 18, 3) := by decide +kernel
theorem dTg_typeTerm_50 : decode cTg_typeTerm 50 = .ok (.iload_n 2, 1) := by decide +kernel
theorem dTg_typeTerm_51 : decode cTg_typeTerm 51 = .ok (.iaload, 1) := by decide +kernel
theorem dTg_typeTerm_52 : decode cTg_typeTerm 52 = .ok (.ifCond .ne 26, 3) := by decide +kernel
theorem dTg_typeTerm_55 : decode cTg_typeTerm 55 = .ok (.lload_n 3, 1) := by decide +kernel
theorem dTg_typeTerm_56 : decode cTg_typeTerm 56 = .ok (.lconst 0, 1) := by decide +kernel
theorem dTg_typeTerm_57 : decode cTg_typeTerm 57 = .ok (.lcmp, 1) := by decide +kernel
theorem dTg_typeTerm_58 : decode cTg_typeTerm 58 = .ok (.ifCond .eq 20, 3) := by decide +kernel
theorem dTg_typeTerm_61 : decode cTg_typeTerm 61 = .ok (.lload 6, 2) := by decide +kernel
theorem dTg_typeTerm_63 : decode cTg_typeTerm 63 = .ok (.lload_n 3, 1) := by decide +kernel
theorem dTg_typeTerm_64 : decode cTg_typeTerm 64 = .ok (.iconst 0, 1) := by decide +kernel
theorem dTg_typeTerm_65 : decode cTg_typeTerm 65 = .ok (.invokestatic 30, 3) := by decide +kernel
theorem dTg_typeTerm_68 : decode cTg_typeTerm 68 = .ok (.ifCond .ne 10, 3) := by decide +kernel
theorem dTg_typeTerm_71 : decode cTg_typeTerm 71 = .ok (.aload_n 0, 1) := by decide +kernel
theorem dTg_typeTerm_72 : decode cTg_typeTerm 72 = .ok (.getfield 18, 3) := by decide +kernel
theorem dTg_typeTerm_75 : decode cTg_typeTerm 75 = .ok (.iload_n 2, 1) := by decide +kernel
theorem dTg_typeTerm_76 : decode cTg_typeTerm 76 = .ok (.iconst 4, 1) := by decide +kernel
theorem dTg_typeTerm_77 : decode cTg_typeTerm 77 = .ok (.iastore, 1) := by decide +kernel
theorem dTg_typeTerm_78 : decode cTg_typeTerm 78 = .ok (.aload_n 0, 1) := by decide +kernel
theorem dTg_typeTerm_79 : decode cTg_typeTerm 79 = .ok (.getfield 18, 3) := by decide +kernel
theorem dTg_typeTerm_82 : decode cTg_typeTerm 82 = .ok (.iload_n 2, 1) := by decide +kernel
theorem dTg_typeTerm_83 : decode cTg_typeTerm 83 = .ok (.iaload, 1) := by decide +kernel
theorem dTg_typeTerm_84 : decode cTg_typeTerm 84 = .ok (.ifCond .ne 8, 3) := by decide +kernel
theorem dTg_typeTerm_87 : decode cTg_typeTerm 87 = .ok (.lload 6, 2) := by decide +kernel
theorem dTg_typeTerm_89 : decode cTg_typeTerm 89 = .ok (.goto 4, 3) := by decide +kernel
theorem dTg_typeTerm_92 : decode cTg_typeTerm 92 = .ok (.lconst 1, 1) := by decide +kernel
theorem dTg_typeTerm_93 : decode cTg_typeTerm 93 = .ok (.lreturn, 1) := by decide +kernel
def f_Tg_typeTerm_J93 (rc : Nat → Int32 → Int64 → Int32 → Mem → Option (Int64 × Mem)) (i : Nat) (v2 : Int32) (v3 : Int64) (v5 : Int32) (v6 : Int64) (u0 : Int64) (σ : Mem) : Option (Int64 × Mem) :=
  some (u0, σ)
def f_Tg_typeTerm_J78 (rc : Nat → Int32 → Int64 → Int32 → Mem → Option (Int64 × Mem)) (i : Nat) (v2 : Int32) (v3 : Int64) (v5 : Int32) (v6 : Int64) (σ : Mem) : Option (Int64 × Mem) :=
  gd (inb v2 40) (
  if (σ.1 6 v2.toNatClampNeg) = 0 then (
  f_Tg_typeTerm_J93 rc i v2 v3 v5 v6 v6 σ)
  else (
  f_Tg_typeTerm_J93 rc i v2 v3 v5 v6 (1 : Int64) σ))
def f_Tg_typeTerm_J11 (rc : Nat → Int32 → Int64 → Int32 → Mem → Option (Int64 × Mem)) (i : Nat) (v2 : Int32) (v3 : Int64) (v5 : Int32) (σ : Mem) : Option (Int64 × Mem) :=
  some ((1 : Int64), σ)
def f_Tg_typeTerm (rc : Nat → Int32 → Int64 → Int32 → Mem → Option (Int64 × Mem)) (i : Nat) (v2 : Int32) (v3 : Int64) (v5 : Int32) (σ : Mem) : Option (Int64 × Mem) :=
  if v2 < 0 then (
  f_Tg_typeTerm_J11 rc i v2 v3 v5 σ)
  else (
  if v5 < (12 : Int32) then (
  gd (inb v2 40) (lt_ (sL σ 5 v2.toNatClampNeg v3) fun (σ3 : Mem) =>
  gd (inb v2 40) (lt_ (sI σ3 6 v2.toNatClampNeg (0 : Int32)) fun (σ5 : Mem) =>
  bn (f_Tg_typeByKind rc i v2 v3 v5 σ5) fun (r8 : Int64) (σ7 : Mem) =>
  gd (inb v2 40) (lt_ (sL σ7 4 v2.toNatClampNeg r8) fun (σ10 : Mem) =>
  gd (inb v2 40) (
  if (σ10.1 6 v2.toNatClampNeg) = 0 then (
  if (lg_cmp v3 (0 : Int64)) = 0 then (
  f_Tg_typeTerm_J78 rc i v2 v3 v5 r8 σ10)
  else (
  bn (F_Ty_consistent 28 r8 v3 (0 : Int32) σ10) fun (r14 : Int32) (σ13 : Mem) =>
  if r14 = 0 then (
  gd (inb v2 40) (lt_ (sI σ13 6 v2.toNatClampNeg (4 : Int32)) fun (σ16 : Mem) =>
  f_Tg_typeTerm_J78 rc i v2 v3 v5 r8 σ16))
  else (
  f_Tg_typeTerm_J78 rc i v2 v3 v5 r8 σ13)))
  else (
  f_Tg_typeTerm_J78 rc i v2 v3 v5 r8 σ10))))))
  else (
  f_Tg_typeTerm_J11 rc i v2 v3 v5 σ))
set_option maxHeartbeats 4000000 in
set_option maxRecDepth 100000 in
theorem c_Tg_typeTerm (l : Launch) (g : Gw) (hg : wInj g) {rc : Nat → Int32 → Int64 → Int32 → Mem → Option (Int64 × Mem)} {d0 : Nat} (hd0 : 31 ≤ d0) (hrc : ∀ {i : Nat} (hi : i < 17) {v2 : Int32} {v3 : Int64} {v5 : Int32} {r0 : Int64} {σ σ0 : Mem}, rc i v2 v3 v5 σ = some (r0, σ0) → KL l yTg_typeTerm cTg_typeTerm 8 (some .long) d0 g [.ref (ad g 3), .ref (ad g (cP i)), .int v2, .long v3, .int v5] σ r0 σ0) {i : Nat} (hi : i < 17) {v2 : Int32} {v3 : Int64} {v5 : Int32} {r0 : Int64} {σ σ0 : Mem} (h : f_Tg_typeTerm rc i v2 v3 v5 σ = some (r0, σ0)) : KL l yTg_typeTerm cTg_typeTerm 8 (some .long) (d0 + 3) g [.ref (ad g 3), .ref (ad g (cP i)), .int v2, .long v3, .int v5] σ r0 σ0 := by
  refine q_met g hg (own := "TermBench$Typing") rfl rfl (Nat.le_of_ble_eq_true rfl) (fun p e s m args below meth c R Q cx hRk hr hQ H locs ls hP hS hl => ?_)
  have hx := cx.1
  have hb := cx.2.1
  have hown := cx.2.2.2.1
  have hts := cx.2.2.2.2.1
  have hl : lv_has ls 8 [(0, .ref (ad g 3)), (1, .ref (ad g (cP i))), (2, .int v2), (3, .long v3), (5, .int v5)] := hl
  have J93 : ∀ (v2 : Int32) (v3 : Int64) (v5 : Int32) (v6 : Int64) (u0 : Int64) (σ : Mem), f_Tg_typeTerm_J93 rc i v2 v3 v5 v6 u0 σ = some (r0, σ0) → ∀ (H : Heap) (locs : List Loc) (ls : Array Slot), lv_has ls 8 [(0, .ref (ad g 3)), (1, .ref (ad g (cP i))), (2, .int v2), (3, .long v3), (5, .int v5), (6, .long v6)] → Wd g σ H → va_S (wA g) s.heap H locs → W p l e R s m args below meth c H locs 0 0 Q (F0 m 93 ls [.long u0]) := by
    intro v2 v3 v5 v6 u0 σ h H locs ls hl hP hS
    unfold f_Tg_typeTerm_J93 at h
    exact q_rl cx hr hP hS hQ h dTg_typeTerm_93
  have J78 : ∀ (v2 : Int32) (v3 : Int64) (v5 : Int32) (v6 : Int64) (σ : Mem), f_Tg_typeTerm_J78 rc i v2 v3 v5 v6 σ = some (r0, σ0) → ∀ (H : Heap) (locs : List Loc) (ls : Array Slot), lv_has ls 8 [(0, .ref (ad g 3)), (1, .ref (ad g (cP i))), (2, .int v2), (3, .long v3), (5, .int v5), (6, .long v6)] → Wd g σ H → va_S (wA g) s.heap H locs → W p l e R s m args below meth c H locs 0 0 Q (F0 m 78 ls []) := by
    intro v2 v3 v5 v6 σ h H locs ls hl hP hS
    unfold f_Tg_typeTerm_J78 at h
    refine lv_aload_n hx hb dTg_typeTerm_78 rfl (lv_at hl 0 rfl) ?_
    refine g_Tg_marks cx hP  t_93 dTg_typeTerm_79 ?_
    refine lv_iload_n hx hb dTg_typeTerm_82 rfl (lv_at hl 2 rfl) ?_
    obtain ⟨b1, h⟩ := gd_some h
    refine q_iald cx hP (by decide) (e_6 g) b1 dTg_typeTerm_83 ?_
    refine lv_if_ne (tgt := 92) hx hb dTg_typeTerm_84 (by decide) (fun hc => ?_) (fun hc => ?_)
    · replace h := if_f h hc
      refine lv_lconst (v := 1) hx hb dTg_typeTerm_92 rfl ?_
      exact J93 _ _ _ _ _ _ h _ _ _ (lv_sub hl [0, 1, 2, 3, 4, 5] rfl) hP hS
    · replace h := if_t h hc
      refine lv_lload hx hb dTg_typeTerm_87 (lv_at hl 5 rfl) ?_
      refine lv_goto (tgt := 93) hx hb dTg_typeTerm_89 (by decide) ?_
      exact J93 _ _ _ _ _ _ h _ _ _ (lv_sub hl [0, 1, 2, 3, 4, 5] rfl) hP hS
  have J11 : ∀ (v2 : Int32) (v3 : Int64) (v5 : Int32) (σ : Mem), f_Tg_typeTerm_J11 rc i v2 v3 v5 σ = some (r0, σ0) → ∀ (H : Heap) (locs : List Loc) (ls : Array Slot), lv_has ls 8 [(0, .ref (ad g 3)), (1, .ref (ad g (cP i))), (2, .int v2), (3, .long v3), (5, .int v5)] → Wd g σ H → va_S (wA g) s.heap H locs → W p l e R s m args below meth c H locs 0 0 Q (F0 m 11 ls []) := by
    intro v2 v3 v5 σ h H locs ls hl hP hS
    unfold f_Tg_typeTerm_J11 at h
    refine lv_lconst (v := 1) hx hb dTg_typeTerm_11 rfl ?_
    exact q_rl cx hr hP hS hQ h dTg_typeTerm_12
  unfold f_Tg_typeTerm at h
  refine lv_iload_n hx hb dTg_typeTerm_0 rfl (lv_at hl 2 rfl) ?_
  refine lv_if_lt (tgt := 11) hx hb dTg_typeTerm_1 (by decide) (fun hc => ?_) (fun hc => ?_)
  · replace h := if_t h hc
    exact J11 _ _ _ _ h _ _ _ (lv_sub hl [0, 1, 2, 3, 4] rfl) hP hS
  · replace h := if_f h hc
    refine lv_iload hx hb dTg_typeTerm_4 (lv_at hl 4 rfl) ?_
    refine lv_bipush (v := 12) hx hb dTg_typeTerm_6 (by decide) ?_
    refine lv_icmp_lt (tgt := 13) hx hb dTg_typeTerm_8 (by decide) (fun hc => ?_) (fun hc => ?_)
    · replace h := if_t h hc
      refine lv_aload_n hx hb dTg_typeTerm_13 rfl (lv_at hl 0 rfl) ?_
      refine g_Tg_expectedTypes cx hP  t_91 dTg_typeTerm_14 ?_
      refine lv_iload_n hx hb dTg_typeTerm_17 rfl (lv_at hl 2 rfl) ?_
      refine lv_lload_n hx hb dTg_typeTerm_18 rfl (lv_at hl 3 rfl) ?_
      obtain ⟨b2, h⟩ := gd_some h
      obtain ⟨σ3, eσ3, h⟩ := lt_some h
      refine q_last cx hP hS (by decide) (e_5 g) b2 dTg_typeTerm_19 eσ3 (fun H locs hP hS => ?_)
      refine lv_aload_n hx hb dTg_typeTerm_20 rfl (lv_at hl 0 rfl) ?_
      refine g_Tg_marks cx hP  t_93 dTg_typeTerm_21 ?_
      refine lv_iload_n hx hb dTg_typeTerm_24 rfl (lv_at hl 2 rfl) ?_
      refine lv_iconst (v := 0) hx hb dTg_typeTerm_25 (by decide) ?_
      obtain ⟨b4, h⟩ := gd_some h
      obtain ⟨σ5, eσ5, h⟩ := lt_some h
      refine q_iast cx hP hS (by decide) (e_6 g) b4 dTg_typeTerm_26 eσ5 (fun H locs hP hS => ?_)
      refine lv_aload_n hx hb dTg_typeTerm_27 rfl (lv_at hl 0 rfl) ?_
      refine lv_aload_n hx hb dTg_typeTerm_28 rfl (lv_at hl 1 rfl) ?_
      refine lv_iload_n hx hb dTg_typeTerm_29 rfl (lv_at hl 2 rfl) ?_
      refine lv_lload_n hx hb dTg_typeTerm_30 rfl (lv_at hl 3 rfl) ?_
      refine lv_iload hx hb dTg_typeTerm_31 (lv_at hl 4 rfl) ?_
      obtain ⟨r8, σ7, h6, h⟩ := bn_some h
      refine q_cVl (rest := []) (As := [.ref (ad g (cP i)), .int v2, .long v3, .int v5]) cx hP hS hRk (c_Tg_typeByKind l g hg hd0 hrc hi h6) Y_Tg_typeByKind V_Tg_typeByKind t_414 (by omega) (by decide) (e_3 g _ _) rfl rfl hl.1 rfl (Nat.le_of_ble_eq_true rfl) dTg_typeTerm_33 (fun H locs hP hS => ?_)
      refine lv_lstore (lv' := [(6, .long r8), (0, .ref (ad g 3)), (1, .ref (ad g (cP i))), (2, .int v2), (3, .long v3), (5, .int v5)]) hx hb dTg_typeTerm_36 hl (Nat.le_of_ble_eq_true rfl) rfl (fun ls hl => ?_)
      refine lv_aload_n hx hb dTg_typeTerm_38 rfl (lv_at hl 1 rfl) ?_
      refine g_Tg_gotTypes cx hP  t_89 dTg_typeTerm_39 ?_
      refine lv_iload_n hx hb dTg_typeTerm_42 rfl (lv_at hl 3 rfl) ?_
      refine lv_lload hx hb dTg_typeTerm_43 (lv_at hl 0 rfl) ?_
      obtain ⟨b9, h⟩ := gd_some h
      obtain ⟨σ10, eσ10, h⟩ := lt_some h
      refine q_last cx hP hS (by decide) (e_4 g) b9 dTg_typeTerm_45 eσ10 (fun H locs hP hS => ?_)
      refine lv_aload_n hx hb dTg_typeTerm_46 rfl (lv_at hl 1 rfl) ?_
      refine g_Tg_marks cx hP  t_93 dTg_typeTerm_47 ?_
      refine lv_iload_n hx hb dTg_typeTerm_50 rfl (lv_at hl 3 rfl) ?_
      obtain ⟨b11, h⟩ := gd_some h
      refine q_iald cx hP (by decide) (e_6 g) b11 dTg_typeTerm_51 ?_
      refine lv_if_ne (tgt := 78) hx hb dTg_typeTerm_52 (by decide) (fun hc => ?_) (fun hc => ?_)
      · replace h := if_f h hc
        exact J78 _ _ _ _ _ h _ _ _ (lv_sub hl [1, 2, 3, 4, 5, 0] rfl) hP hS
      · replace h := if_t h hc
        refine lv_lload_n hx hb dTg_typeTerm_55 rfl (lv_at hl 4 rfl) ?_
        refine lv_lconst (v := 0) hx hb dTg_typeTerm_56 rfl ?_
        refine W.lcmp hx hb dTg_typeTerm_57 ?_
        refine lv_if_eq (tgt := 78) hx hb dTg_typeTerm_58 (by decide) (fun hc => ?_) (fun hc => ?_)
        · replace h := if_t h hc
          exact J78 _ _ _ _ _ h _ _ _ (lv_sub hl [1, 2, 3, 4, 5, 0] rfl) hP hS
        · replace h := if_f h hc
          refine lv_lload hx hb dTg_typeTerm_61 (lv_at hl 0 rfl) ?_
          refine lv_lload_n hx hb dTg_typeTerm_63 rfl (lv_at hl 4 rfl) ?_
          refine lv_iconst (v := 0) hx hb dTg_typeTerm_64 (by decide) ?_
          obtain ⟨r14, σ13, h12, h⟩ := bn_some h
          refine q_cSi (rest := []) (As := [.long r8, .long v3, .int (0 : Int32)]) cx hP hS hRk (C_Ty_consistent l g hg 28 h12) Y_Ty_consistent S_Ty_consistent t_440 (by omega) rfl hl.1 rfl (Nat.le_of_ble_eq_true rfl) dTg_typeTerm_65 (fun H locs hP hS => ?_)
          refine lv_if_ne (tgt := 78) hx hb dTg_typeTerm_68 (by decide) (fun hc => ?_) (fun hc => ?_)
          · replace h := if_f h hc
            exact J78 _ _ _ _ _ h _ _ _ (lv_sub hl [1, 2, 3, 4, 5, 0] rfl) hP hS
          · replace h := if_t h hc
            refine lv_aload_n hx hb dTg_typeTerm_71 rfl (lv_at hl 1 rfl) ?_
            refine g_Tg_marks cx hP  t_93 dTg_typeTerm_72 ?_
            refine lv_iload_n hx hb dTg_typeTerm_75 rfl (lv_at hl 3 rfl) ?_
            refine lv_iconst (v := 4) hx hb dTg_typeTerm_76 (by decide) ?_
            obtain ⟨b15, h⟩ := gd_some h
            obtain ⟨σ16, eσ16, h⟩ := lt_some h
            refine q_iast cx hP hS (by decide) (e_6 g) b15 dTg_typeTerm_77 eσ16 (fun H locs hP hS => ?_)
            exact J78 _ _ _ _ _ h _ _ _ (lv_sub hl [1, 2, 3, 4, 5, 0] rfl) hP hS
    · replace h := if_f h hc
      exact J11 _ _ _ _ h _ _ _ (lv_sub hl [0, 1, 2, 3, 4] rfl) hP hS
def F_Tg_typeTerm : Nat → Nat → Int32 → Int64 → Int32 → Mem → Option (Int64 × Mem)
  | 0 => fun _ _ _ _ _ => none
  | n + 1 => fun a0 a1 a2 a3 a4 => f_Tg_typeTerm (F_Tg_typeTerm n) a0 a1 a2 a3 a4
theorem C_Tg_typeTerm (l : Launch) (g : Gw) (hg : wInj g) : ∀ (n : Nat) {i : Nat} (hi : i < 17) {v2 : Int32} {v3 : Int64} {v5 : Int32} {r0 : Int64} {σ σ0 : Mem}, F_Tg_typeTerm n i v2 v3 v5 σ = some (r0, σ0) → KL l yTg_typeTerm cTg_typeTerm 8 (some .long) (31 + 3 * n) g [.ref (ad g 3), .ref (ad g (cP i)), .int v2, .long v3, .int v5] σ r0 σ0 := by
  intro n
  induction n with
  | zero => intros; rename_i h; simp [F_Tg_typeTerm] at h
  | succ n ih =>
    intros
    rename_i h
    exact c_Tg_typeTerm l g hg (d0 := 31 + 3 * n) (Nat.le_add_right _ _) ih (by assumption) h
theorem dTg_countMarks_0 : decode cTg_countMarks 0 = .ok (.iconst 0, 1) := by decide +kernel
theorem dTg_countMarks_1 : decode cTg_countMarks 1 = .ok (.istore_n 2, 1) := by decide +kernel
theorem dTg_countMarks_2 : decode cTg_countMarks 2 = .ok (.iconst 0, 1) := by decide +kernel
theorem dTg_countMarks_3 : decode cTg_countMarks 3 = .ok (.istore_n 3, 1) := by decide +kernel
theorem dTg_countMarks_4 : decode cTg_countMarks 4 = .ok (.iload_n 3, 1) := by decide +kernel
theorem dTg_countMarks_5 : decode cTg_countMarks 5 = .ok (.iload_n 1, 1) := by decide +kernel
theorem dTg_countMarks_6 : decode cTg_countMarks 6 = .ok (.if_icmp .ge 21, 3) := by decide +kernel
theorem dTg_countMarks_9 : decode cTg_countMarks 9 = .ok (.aload_n 0, 1) := by decide +kernel
theorem dTg_countMarks_10 : decode cTg_countMarks 10 = .ok (.getfield 18, 3) := by decide +kernel
theorem dTg_countMarks_13 : decode cTg_countMarks 13 = .ok (.iload_n 3, 1) := by decide +kernel
theorem dTg_countMarks_14 : decode cTg_countMarks 14 = .ok (.iaload, 1) := by decide +kernel
theorem dTg_countMarks_15 : decode cTg_countMarks 15 = .ok (.ifCond .eq 6, 3) := by decide +kernel
theorem dTg_countMarks_18 : decode cTg_countMarks 18 = .ok (.iinc 2 1, 3) := by decide +kernel
theorem dTg_countMarks_21 : decode cTg_countMarks 21 = .ok (.iinc 3 1, 3) := by decide +kernel
theorem dTg_countMarks_24 : decode cTg_countMarks 24 = .ok (.goto (-20), 3) := by decide +kernel
theorem dTg_countMarks_27 : decode cTg_countMarks 27 = .ok (.iload_n 2, 1) := by decide +kernel
theorem dTg_countMarks_28 : decode cTg_countMarks 28 = .ok (.ireturn, 1) := by decide +kernel
def f_Tg_countMarks_J21  (v1 : Int32) (v2 : Int32) (v3 : Int32) (σ : Mem) : Option ((Int32 × Int32 × Mem) ⊕ (Int32 × Mem)) :=
  lt_ (v3 + 1) fun (x1 : Int32) =>
  some (.inl (v2, x1, σ))
def f_Tg_countMarks_L4  (v1 : Int32) (v2 : Int32) (v3 : Int32) (σ : Mem) : Option ((Int32 × Int32 × Mem) ⊕ (Int32 × Mem)) :=
  if v1 ≤ v3 then (
  inrM (some (v2, σ)))
  else (
  gd (inb v3 40) (
  if (σ.1 6 v3.toNatClampNeg) = 0 then (
  f_Tg_countMarks_J21 v1 v2 v3 σ)
  else (
  lt_ (v2 + 1) fun (x4 : Int32) =>
  f_Tg_countMarks_J21 v1 x4 v3 σ)))
def f_Tg_countMarks  (v1 : Int32) (σ : Mem) : Option (Int32 × Mem) :=
  lt_ (0 : Int32) fun (x5 : Int32) =>
  lt_ (0 : Int32) fun (x6 : Int32) =>
  loopF (fun (q : (Int32 × Int32 × Mem)) => f_Tg_countMarks_L4 v1 q.1 q.2.1 q.2.2) FU (x5, x6, σ)
set_option maxHeartbeats 4000000 in
set_option maxRecDepth 100000 in
theorem c_Tg_countMarks (l : Launch) (g : Gw) (hg : wInj g) {v1 : Int32} {r0 : Int32} {σ σ0 : Mem} (h : f_Tg_countMarks v1 σ = some (r0, σ0)) : KI l yTg_countMarks cTg_countMarks 4 (some .int) 0 g [.ref (ad g 3), .int v1] σ r0 σ0 := by
  refine q_met g hg (own := "TermBench$Typing") rfl rfl (Nat.le_of_ble_eq_true rfl) (fun p e s m args below meth c R Q cx hRk hr hQ H locs ls hP hS hl => ?_)
  have hx := cx.1
  have hb := cx.2.1
  have hown := cx.2.2.2.1
  have hts := cx.2.2.2.2.1
  have hl : lv_has ls 4 [(0, .ref (ad g 3)), (1, .int v1)] := hl
  unfold f_Tg_countMarks at h
  refine lv_iconst (v := 0) hx hb dTg_countMarks_0 (by decide) ?_
  obtain ⟨x5, ex5, h⟩ := lt_some h
  refine q_nmi ex5 ?_
  refine lv_istore_n (lv' := [(2, .int x5), (0, .ref (ad g 3)), (1, .int v1)]) hx hb dTg_countMarks_1 rfl hl (Nat.le_of_ble_eq_true rfl) rfl (fun ls hl => ?_)
  refine lv_iconst (v := 0) hx hb dTg_countMarks_2 (by decide) ?_
  obtain ⟨x6, ex6, h⟩ := lt_some h
  refine q_nmi ex6 ?_
  refine lv_istore_n (lv' := [(3, .int x6), (2, .int x5), (0, .ref (ad g 3)), (1, .int v1)]) hx hb dTg_countMarks_3 rfl hl (Nat.le_of_ble_eq_true rfl) rfl (fun ls hl => ?_)
  have L4 : ∀ (n : Nat) (v1 : Int32) (v2 : Int32) (v3 : Int32) (σ : Mem), loopF (fun (q : (Int32 × Int32 × Mem)) => f_Tg_countMarks_L4 v1 q.1 q.2.1 q.2.2) n (v2, v3, σ) = some (r0, σ0) → ∀ (H : Heap) (locs : List Loc) (ls : Array Slot), lv_has ls 4 [(0, .ref (ad g 3)), (1, .int v1), (2, .int v2), (3, .int v3)] → Wd g σ H → va_S (wA g) s.heap H locs → W p l e R s m args below meth c H locs 0 0 Q (F0 m 4 ls []) := by
    intro n
    induction n with
    | zero => intro v1 v2 v3 σ h; exact (loopF_zero h).elim
    | succ n ih4 =>
      intro v1 v2 v3 σ h H locs ls hl hP hS
      obtain ⟨o4, h, K4, E4⟩ := loopF_succ h
      have h : f_Tg_countMarks_L4 v1 v2 v3 σ = some o4 := h
      have J21 : ∀ (v2 : Int32) (v3 : Int32) (σ : Mem), f_Tg_countMarks_J21 v1 v2 v3 σ = some o4 → ∀ (H : Heap) (locs : List Loc) (ls : Array Slot), lv_has ls 4 [(0, .ref (ad g 3)), (1, .int v1), (2, .int v2), (3, .int v3)] → Wd g σ H → va_S (wA g) s.heap H locs → W p l e R s m args below meth c H locs 0 0 Q (F0 m 21 ls []) := by
        intro v2 v3 σ h H locs ls hl hP hS
        unfold f_Tg_countMarks_J21 at h
        obtain ⟨x1, ex1, h⟩ := lt_some h
        refine lv_iinc (lv' := [(3, .int x1), (0, .ref (ad g 3)), (1, .int v1), (2, .int v2)]) hx hb dTg_countMarks_21 hl (k := 3) rfl (q_inc ex1 (by decide)) (Nat.le_of_ble_eq_true rfl) rfl (fun ls hl => ?_)
        refine lv_goto (tgt := 4) hx hb dTg_countMarks_24 (by decide) ?_
        exact ih4 _ _ _ _ (K4 _ (Option.some.inj h).symm) _ _ _ (lv_sub hl [1, 2, 3, 0] rfl) hP hS
      unfold f_Tg_countMarks_L4 at h
      refine lv_iload_n hx hb dTg_countMarks_4 rfl (lv_at hl 3 rfl) ?_
      refine lv_iload_n hx hb dTg_countMarks_5 rfl (lv_at hl 1 rfl) ?_
      refine lv_icmp_ge (tgt := 27) hx hb dTg_countMarks_6 (by decide) (fun hc => ?_) (fun hc => ?_)
      · replace h := if_t h hc
        obtain ⟨z2, h, ez2⟩ := inrM_some h
        rw [E4 z2 ez2] at h
        refine lv_iload_n hx hb dTg_countMarks_27 rfl (lv_at hl 2 rfl) ?_
        exact q_ri cx hr rfl hP hS hQ h dTg_countMarks_28
      · replace h := if_f h hc
        refine lv_aload_n hx hb dTg_countMarks_9 rfl (lv_at hl 0 rfl) ?_
        refine g_Tg_marks cx hP  t_93 dTg_countMarks_10 ?_
        refine lv_iload_n hx hb dTg_countMarks_13 rfl (lv_at hl 3 rfl) ?_
        obtain ⟨b3, h⟩ := gd_some h
        refine q_iald cx hP (by decide) (e_6 g) b3 dTg_countMarks_14 ?_
        refine lv_if_eq (tgt := 21) hx hb dTg_countMarks_15 (by decide) (fun hc => ?_) (fun hc => ?_)
        · replace h := if_t h hc
          exact J21 _ _ _ h _ _ _ (lv_sub hl [0, 1, 2, 3] rfl) hP hS
        · replace h := if_f h hc
          obtain ⟨x4, ex4, h⟩ := lt_some h
          refine lv_iinc (lv' := [(2, .int x4), (0, .ref (ad g 3)), (1, .int v1), (3, .int v3)]) hx hb dTg_countMarks_18 hl (k := 2) rfl (q_inc ex4 (by decide)) (Nat.le_of_ble_eq_true rfl) rfl (fun ls hl => ?_)
          exact J21 _ _ _ h _ _ _ (lv_sub hl [1, 2, 0, 3] rfl) hP hS
  exact L4 _ _ _ _ _ h _ _ _ (lv_sub hl [2, 3, 1, 0] rfl) hP hS
end
section
/-! 24.page, by program: pure functions and contracts -/
theorem dPa_clear_0 : decode cPa_clear 0 = .ok (.aload_n 0, 1) := by decide +kernel
theorem dPa_clear_1 : decode cPa_clear 1 = .ok (.getfield 11, 3) := by decide +kernel
theorem dPa_clear_4 : decode cPa_clear 4 = .ok (.lconst 0, 1) := by decide +kernel
theorem dPa_clear_5 : decode cPa_clear 5 = .ok (.invokestatic 29, 3) := by decide +kernel
theorem dPa_clear_8 : decode cPa_clear 8 = .ok (.aload_n 0, 1) := by decide +kernel
theorem dPa_clear_9 : decode cPa_clear 9 = .ok (.iconst 0, 1) := by decide +kernel
theorem dPa_clear_10 : decode cPa_clear 10 = .ok (.putfield 22, 3) := by decide +kernel
theorem dPa_clear_13 : decode cPa_clear 13 = .ok (.return_, 1) := by decide +kernel
def f_Pa_clear   (σ : Mem) : Option (Unit × Mem) :=
  bn (f_Ar_fill (0 : Int64) σ) fun (_ : Unit) (σ2 : Mem) =>
  lt_ (sI σ2 7 3 (0 : Int32)) fun (σ3 : Mem) =>
  some ((), σ3)
set_option maxHeartbeats 4000000 in
set_option maxRecDepth 100000 in
theorem c_Pa_clear (l : Launch) (g : Gw) (hg : wInj g) {σ σ0 : Mem} (h : f_Pa_clear σ = some ((), σ0)) : KV l yPa_clear cPa_clear 1 none 1 g [.ref (ad g 7)] σ σ0 := by
  refine q_met g hg (own := "TermBench$Page") rfl rfl (Nat.le_of_ble_eq_true rfl) (fun p e s m args below meth c R Q cx hRk hr hQ H locs ls hP hS hl => ?_)
  have hx := cx.1
  have hb := cx.2.1
  have hown := cx.2.2.2.1
  have hts := cx.2.2.2.2.1
  have hl : lv_has ls 1 [(0, .ref (ad g 7))] := hl
  unfold f_Pa_clear at h
  refine lv_aload_n hx hb dPa_clear_0 rfl (lv_at hl 0 rfl) ?_
  refine g_Pa_words cx hP  t_112 dPa_clear_1 ?_
  refine lv_lconst (v := 0) hx hb dPa_clear_4 rfl ?_
  obtain ⟨rh1, σ2, h1, h⟩ := bn_some h
  refine q_cSv (rest := []) (As := [.ref (ad g 8), .long (0 : Int64)]) cx hP hS hRk (c_Ar_fill l g hg h1) Y_Ar_fill S_Ar_fill t_339 (by decide) rfl hl.1 rfl (Nat.le_of_ble_eq_true rfl) dPa_clear_5 (fun H locs hP hS => ?_)
  refine lv_aload_n hx hb dPa_clear_8 rfl (lv_at hl 0 rfl) ?_
  refine lv_iconst (v := 0) hx hb dPa_clear_9 (by decide) ?_
  obtain ⟨σ3, eσ3, h⟩ := lt_some h
  refine p_Pa_length cx hP hS t_116 dPa_clear_10 eσ3 (fun H locs hP hS => ?_)
  exact q_rv cx hr hP hS hQ h dPa_clear_13
theorem dPa_writeSign_0 : decode cPa_writeSign 0 = .ok (.aload_n 0, 1) := by decide +kernel
theorem dPa_writeSign_1 : decode cPa_writeSign 1 = .ok (.getfield 22, 3) := by decide +kernel
theorem dPa_writeSign_4 : decode cPa_writeSign 4 = .ok (.sipush 1760, 3) := by decide +kernel
theorem dPa_writeSign_7 : decode cPa_writeSign 7 = .ok (.if_icmp .lt 4, 3) := by decide +kernel
theorem dPa_writeSign_10 : decode cPa_writeSign 10 = .ok (.return_, 1) := by decide +kernel
theorem dPa_writeSign_11 : decode cPa_writeSign 11 = .ok (.aload_n 0, 1) := by decide +kernel
theorem dPa_writeSign_12 : decode cPa_writeSign 12 = .ok (.getfield 11, 3) := by decide +kernel
theorem dPa_writeSign_15 : decode cPa_writeSign 15 = .ok (.aload_n 0, 1) := by decide +kernel
theorem dPa_writeSign_16 : decode cPa_writeSign 16 = .ok (.getfield 22, 3) := by decide +kernel
theorem dPa_writeSign_19 : decode cPa_writeSign 19 = .ok (.bipush 8, 2) := by decide +kernel
theorem dPa_writeSign_21 : decode cPa_writeSign 21 = .ok (.idiv, 1) := by decide +kernel
theorem dPa_writeSign_22 : decode cPa_writeSign 22 = .ok (.dup2, 1) := by decide +kernel
theorem dPa_writeSign_23 : decode cPa_writeSign 23 = .ok (.laload, 1) := by decide +kernel
theorem dPa_writeSign_24 : decode cPa_writeSign 24 = .ok (.iload_n 1, 1) := by decide +kernel
theorem dPa_writeSign_25 : decode cPa_writeSign 25 = .ok (.i2l, 1) := by decide +kernel
theorem dPa_writeSign_26 : decode cPa_writeSign 26 = .ok (.bipush 8, 2) := by decide +kernel
theorem dPa_writeSign_28 : decode cPa_writeSign 28 = .ok (.aload_n 0, 1) := by decide +kernel
theorem dPa_writeSign_29 : decode cPa_writeSign 29 = .ok (.getfield 22, 3) := by decide +kernel
theorem dPa_writeSign_32 : decode cPa_writeSign 32 = .ok (.bipush 8, 2) := by decide +kernel
theorem dPa_writeSign_34 : decode cPa_writeSign 34 = .ok (.irem, 1) := by decide +kernel
theorem dPa_writeSign_35 : decode cPa_writeSign 35 = .ok (.imul, 1) := by decide +kernel
theorem dPa_writeSign_36 : decode cPa_writeSign 36 = .ok (.lshl, 1) := by decide +kernel
theorem dPa_writeSign_37 : decode cPa_writeSign 37 = .ok (.lor, 1) := by decide +kernel
theorem dPa_writeSign_38 : decode cPa_writeSign 38 = .ok (.lastore, 1) := by decide +kernel
theorem dPa_writeSign_39 : decode cPa_writeSign 39 = .ok (.aload_n 0, 1) := by decide +kernel
theorem dPa_writeSign_40 : decode cPa_writeSign 40 = .ok (.dup, 1) := by decide +kernel
theorem dPa_writeSign_41 : decode cPa_writeSign 41 = .ok (.getfield 22, 3) := by decide +kernel
theorem dPa_writeSign_44 : decode cPa_writeSign 44 = .ok (.iconst 1, 1) := by decide +kernel
theorem dPa_writeSign_45 : decode cPa_writeSign 45 = .ok (.iadd, 1) := by decide +kernel
theorem dPa_writeSign_46 : decode cPa_writeSign 46 = .ok (.putfield 22, 3) := by decide +kernel
theorem dPa_writeSign_49 : decode cPa_writeSign 49 = .ok (.return_, 1) := by decide +kernel
def f_Pa_writeSign  (v1 : Int32) (σ : Mem) : Option (Unit × Mem) :=
  if (σ.1 7 3) < (1760 : Int32) then (
  gd (inb ((σ.1 7 3) / (8 : Int32)) 220) (
  gd (inb ((σ.1 7 3) / (8 : Int32)) 220) (lt_ (sL σ 8 ((σ.1 7 3) / (8 : Int32)).toNatClampNeg ((σ.2 8 ((σ.1 7 3) / (8 : Int32)).toNatClampNeg) ||| (v1.toInt64 <<< (((8 : Int32) * ((σ.1 7 3) - (σ.1 7 3) / (8 : Int32) * (8 : Int32))).toInt64 &&& 63)))) fun (σ3 : Mem) =>
  lt_ (sI σ3 7 3 ((σ3.1 7 3) + (1 : Int32))) fun (σ4 : Mem) =>
  some ((), σ4))))
  else (
  some ((), σ))
set_option maxHeartbeats 4000000 in
set_option maxRecDepth 100000 in
theorem c_Pa_writeSign (l : Launch) (g : Gw) (hg : wInj g) {v1 : Int32} {σ σ0 : Mem} (h : f_Pa_writeSign v1 σ = some ((), σ0)) : KV l yPa_writeSign cPa_writeSign 2 none 0 g [.ref (ad g 7), .int v1] σ σ0 := by
  refine q_met g hg (own := "TermBench$Page") rfl rfl (Nat.le_of_ble_eq_true rfl) (fun p e s m args below meth c R Q cx hRk hr hQ H locs ls hP hS hl => ?_)
  have hx := cx.1
  have hb := cx.2.1
  have hown := cx.2.2.2.1
  have hts := cx.2.2.2.2.1
  have hl : lv_has ls 2 [(0, .ref (ad g 7)), (1, .int v1)] := hl
  unfold f_Pa_writeSign at h
  refine lv_aload_n hx hb dPa_writeSign_0 rfl (lv_at hl 0 rfl) ?_
  refine g_Pa_length cx hP  t_116 dPa_writeSign_1 ?_
  refine lv_sipush (v := 1760) hx hb dPa_writeSign_4 (by decide) ?_
  refine lv_icmp_lt (tgt := 11) hx hb dPa_writeSign_7 (by decide) (fun hc => ?_) (fun hc => ?_)
  · replace h := if_t h hc
    refine lv_aload_n hx hb dPa_writeSign_11 rfl (lv_at hl 0 rfl) ?_
    refine g_Pa_words cx hP  t_112 dPa_writeSign_12 ?_
    refine lv_aload_n hx hb dPa_writeSign_15 rfl (lv_at hl 0 rfl) ?_
    refine g_Pa_length cx hP  t_116 dPa_writeSign_16 ?_
    refine lv_bipush (v := 8) hx hb dPa_writeSign_19 (by decide) ?_
    refine lv_idiv hx hb dPa_writeSign_21 (by decide) ?_
    refine lv_dup2_11 hx hb dPa_writeSign_22 rfl rfl ?_
    obtain ⟨b1, h⟩ := gd_some h
    refine q_lald cx hP (by decide) (e_8 g) b1 dPa_writeSign_23 ?_
    refine lv_iload_n hx hb dPa_writeSign_24 rfl (lv_at hl 1 rfl) ?_
    refine lv_i2l hx hb dPa_writeSign_25 rfl ?_
    refine lv_bipush (v := 8) hx hb dPa_writeSign_26 (by decide) ?_
    refine lv_aload_n hx hb dPa_writeSign_28 rfl (lv_at hl 0 rfl) ?_
    refine g_Pa_length cx hP  t_116 dPa_writeSign_29 ?_
    refine lv_bipush (v := 8) hx hb dPa_writeSign_32 (by decide) ?_
    refine lv_irem hx hb dPa_writeSign_34 (by decide) ?_
    refine lv_imul hx hb dPa_writeSign_35 ?_
    refine lv_lshl hx hb dPa_writeSign_36 rfl ?_
    refine lv_lor hx hb dPa_writeSign_37 ?_
    obtain ⟨b2, h⟩ := gd_some h
    obtain ⟨σ3, eσ3, h⟩ := lt_some h
    refine q_last cx hP hS (by decide) (e_8 g) b2 dPa_writeSign_38 eσ3 (fun H locs hP hS => ?_)
    refine lv_aload_n hx hb dPa_writeSign_39 rfl (lv_at hl 0 rfl) ?_
    refine lv_dup hx hb dPa_writeSign_40 rfl ?_
    refine g_Pa_length cx hP  t_116 dPa_writeSign_41 ?_
    refine lv_iconst (v := 1) hx hb dPa_writeSign_44 (by decide) ?_
    refine lv_iadd hx hb dPa_writeSign_45 ?_
    obtain ⟨σ4, eσ4, h⟩ := lt_some h
    refine p_Pa_length cx hP hS t_116 dPa_writeSign_46 eσ4 (fun H locs hP hS => ?_)
    exact q_rv cx hr hP hS hQ h dPa_writeSign_49
  · replace h := if_f h hc
    exact q_rv cx hr hP hS hQ h dPa_writeSign_10
theorem dPa_writeName_0 : decode cPa_writeName 0 = .ok (.aload_n 0, 1) := by decide +kernel
theorem dPa_writeName_1 : decode cPa_writeName 1 = .ok (.bipush 97, 2) := by decide +kernel
theorem dPa_writeName_3 : decode cPa_writeName 3 = .ok (.iload_n 1, 1) := by decide +kernel
theorem dPa_writeName_4 : decode cPa_writeName 4 = .ok (.iadd, 1) := by decide +kernel
theorem dPa_writeName_5 : decode cPa_writeName 5 = .ok (.invokevirtual 56, 3) := by decide +kernel
theorem dPa_writeName_8 : decode cPa_writeName 8 = .ok (.return_, 1) := by decide +kernel
def f_Pa_writeName  (v1 : Int32) (σ : Mem) : Option (Unit × Mem) :=
  bn (f_Pa_writeSign ((97 : Int32) + v1) σ) fun (_ : Unit) (σ2 : Mem) =>
  some ((), σ2)
set_option maxHeartbeats 4000000 in
set_option maxRecDepth 100000 in
theorem c_Pa_writeName (l : Launch) (g : Gw) (hg : wInj g) {v1 : Int32} {σ σ0 : Mem} (h : f_Pa_writeName v1 σ = some ((), σ0)) : KV l yPa_writeName cPa_writeName 2 none 1 g [.ref (ad g 7), .int v1] σ σ0 := by
  refine q_met g hg (own := "TermBench$Page") rfl rfl (Nat.le_of_ble_eq_true rfl) (fun p e s m args below meth c R Q cx hRk hr hQ H locs ls hP hS hl => ?_)
  have hx := cx.1
  have hb := cx.2.1
  have hown := cx.2.2.2.1
  have hts := cx.2.2.2.2.1
  have hl : lv_has ls 2 [(0, .ref (ad g 7)), (1, .int v1)] := hl
  unfold f_Pa_writeName at h
  refine lv_aload_n hx hb dPa_writeName_0 rfl (lv_at hl 0 rfl) ?_
  refine lv_bipush (v := 97) hx hb dPa_writeName_1 (by decide) ?_
  refine lv_iload_n hx hb dPa_writeName_3 rfl (lv_at hl 1 rfl) ?_
  refine lv_iadd hx hb dPa_writeName_4 ?_
  obtain ⟨rh1, σ2, h1, h⟩ := bn_some h
  refine q_cVv (rest := []) (As := [.int ((97 : Int32) + v1)]) cx hP hS hRk (c_Pa_writeSign l g hg h1) Y_Pa_writeSign V_Pa_writeSign t_353 (by decide) (by decide) (e_7 g _ _) rfl rfl hl.1 rfl (Nat.le_of_ble_eq_true rfl) dPa_writeName_5 (fun H locs hP hS => ?_)
  exact q_rv cx hr hP hS hQ h dPa_writeName_8
theorem dPa_writeType_0 : decode cPa_writeType 0 = .ok (.iload_n 3, 1) := by decide +kernel
theorem dPa_writeType_1 : decode cPa_writeType 1 = .ok (.bipush 27, 2) := by decide +kernel
theorem dPa_writeType_3 : decode cPa_writeType 3 = .ok (.if_icmp .lt 4, 3) := by decide +kernel
theorem dPa_writeType_6 : decode cPa_writeType 6 = .ok (.return_, 1) := by decide +kernel
theorem dPa_writeType_7 : decode cPa_writeType 7 = .ok (.lload_n 1, 1) := by decide +kernel
theorem dPa_writeType_8 : decode cPa_writeType 8 = .ok (.invokestatic 79, 3) := by decide +kernel
theorem dPa_writeType_11 : decode cPa_writeType 11 = .ok (.ifCond .ne 23, 3) := by decide +kernel
theorem dPa_writeType_14 : decode cPa_writeType 14 = .ok (.aload_n 0, 1) := by decide +kernel
theorem dPa_writeType_15 : decode cPa_writeType 15 = .ok (.lload_n 1, 1) := by decide +kernel
theorem dPa_writeType_16 : decode cPa_writeType 16 = .ok (.ldc2_w 83, 3) := by decide +kernel
theorem dPa_writeType_19 : decode cPa_writeType 19 = .ok (.lcmp, 1) := by decide +kernel
theorem dPa_writeType_20 : decode cPa_writeType 20 = .ok (.ifCond .ne 8, 3) := by decide +kernel
theorem dPa_writeType_23 : decode cPa_writeType 23 = .ok (.bipush 35, 2) := by decide +kernel
theorem dPa_writeType_25 : decode cPa_writeType 25 = .ok (.goto 5, 3) := by decide +kernel
theorem dPa_writeType_28 : decode cPa_writeType 28 = .ok (.bipush 42, 2) := by decide +kernel
theorem dPa_writeType_30 : decode cPa_writeType 30 = .ok (.invokevirtual 56, 3) := by decide +kernel
theorem dPa_writeType_33 : decode cPa_writeType 33 = .ok (.return_, 1) := by decide +kernel
theorem dPa_writeType_34 : decode cPa_writeType 34 = .ok (.aload_n 0, 1) := by decide +kernel
theorem dPa_writeType_35 : decode cPa_writeType 35 = .ok (.bipush 60, 2) := by decide +kernel
theorem dPa_writeType_37 : decode cPa_writeType 37 = .ok (.invokevirtual 56, 3) := by decide +kernel
theorem dPa_writeType_40 : decode cPa_writeType 40 = .ok (.aload_n 0, 1) := by decide +kernel
theorem dPa_writeType_41 : decode cPa_writeType 41 = .ok (.lload_n 1, 1) := by decide +kernel
theorem dPa_writeType_42 : decode cPa_writeType 42 = .ok (.invokestatic 85, 3) := by decide +kernel
theorem dPa_writeType_45 : decode cPa_writeType 45 = .ok (.iload_n 3, 1) := by decide +kernel
theorem dPa_writeType_46 : decode cPa_writeType 46 = .ok (.iconst 1, 1) := by decide +kernel
theorem dPa_writeType_47 : decode cPa_writeType 47 = .ok (.iadd, 1) := by decide +kernel
theorem dPa_writeType_48 : decode cPa_writeType 48 = .ok (.invokevirtual 73, 3) := by decide +kernel
theorem dPa_writeType_51 : decode cPa_writeType 51 = .ok (.aload_n 0, 1) := by decide +kernel
theorem dPa_writeType_52 : decode cPa_writeType 52 = .ok (.lload_n 1, 1) := by decide +kernel
theorem dPa_writeType_53 : decode cPa_writeType 53 = .ok (.invokestatic 89, 3) := by decide +kernel
theorem dPa_writeType_56 : decode cPa_writeType 56 = .ok (.iload_n 3, 1) := by decide +kernel
theorem dPa_writeType_57 : decode cPa_writeType 57 = .ok (.iconst 1, 1) := by decide +kernel
theorem dPa_writeType_58 : decode cPa_writeType 58 = .ok (.iadd, 1) := by decide +kernel
theorem dPa_writeType_59 : decode cPa_writeType 59 = .ok (.invokevirtual 73, 3) := by decide +kernel
theorem dPa_writeType_62 : decode cPa_writeType 62 = .ok (.aload_n 0, 1) := by decide +kernel
theorem dPa_writeType_63 : decode cPa_writeType 63 = .ok (.bipush 62, 2) := by decide +kernel
theorem dPa_writeType_65 : decode cPa_writeType 65 = .ok (.invokevirtual 56, 3) := by decide +kernel
theorem dPa_writeType_68 : decode cPa_writeType 68 = .ok (.return_, 1) := by decide +kernel
def f_Pa_writeType_J30 (rc : Int64 → Int32 → Mem → Option (Unit × Mem))  (v1 : Int64) (v3 : Int32) (u1 : Int32) (σ : Mem) : Option (Unit × Mem) :=
  bn (f_Pa_writeSign u1 σ) fun (_ : Unit) (σ2 : Mem) =>
  some ((), σ2)
def f_Pa_writeType (rc : Int64 → Int32 → Mem → Option (Unit × Mem))  (v1 : Int64) (v3 : Int32) (σ : Mem) : Option (Unit × Mem) :=
  if v3 < (27 : Int32) then (
  bn (f_Ty_isFrom v1 σ) fun (r5 : Int32) (σ4 : Mem) =>
  if r5 = 0 then (
  if (lg_cmp v1 (2 : Int64)) = 0 then (
  f_Pa_writeType_J30 rc v1 v3 (35 : Int32) σ4)
  else (
  f_Pa_writeType_J30 rc v1 v3 (42 : Int32) σ4))
  else (
  bn (f_Pa_writeSign (60 : Int32) σ4) fun (_ : Unit) (σ7 : Mem) =>
  bn (f_Ty_taken v1 σ7) fun (r10 : Int64) (σ9 : Mem) =>
  bn (rc r10 (v3 + (1 : Int32)) σ9) fun (_ : Unit) (σ12 : Mem) =>
  bn (f_Ty_given v1 σ12) fun (r15 : Int64) (σ14 : Mem) =>
  bn (rc r15 (v3 + (1 : Int32)) σ14) fun (_ : Unit) (σ17 : Mem) =>
  bn (f_Pa_writeSign (62 : Int32) σ17) fun (_ : Unit) (σ19 : Mem) =>
  some ((), σ19)))
  else (
  some ((), σ))
set_option maxHeartbeats 4000000 in
set_option maxRecDepth 100000 in
theorem c_Pa_writeType (l : Launch) (g : Gw) (hg : wInj g) {rc : Int64 → Int32 → Mem → Option (Unit × Mem)} {d0 : Nat} (hd0 : 2 ≤ d0) (hrc : ∀ {v1 : Int64} {v3 : Int32} {σ σ0 : Mem}, rc v1 v3 σ = some ((), σ0) → KV l yPa_writeType cPa_writeType 4 none d0 g [.ref (ad g 7), .long v1, .int v3] σ σ0) {v1 : Int64} {v3 : Int32} {σ σ0 : Mem} (h : f_Pa_writeType rc v1 v3 σ = some ((), σ0)) : KV l yPa_writeType cPa_writeType 4 none (d0 + 1) g [.ref (ad g 7), .long v1, .int v3] σ σ0 := by
  refine q_met g hg (own := "TermBench$Page") rfl rfl (Nat.le_of_ble_eq_true rfl) (fun p e s m args below meth c R Q cx hRk hr hQ H locs ls hP hS hl => ?_)
  have hx := cx.1
  have hb := cx.2.1
  have hown := cx.2.2.2.1
  have hts := cx.2.2.2.2.1
  have hl : lv_has ls 4 [(0, .ref (ad g 7)), (1, .long v1), (3, .int v3)] := hl
  have J30 : ∀ (v1 : Int64) (v3 : Int32) (u1 : Int32) (σ : Mem), f_Pa_writeType_J30 rc v1 v3 u1 σ = some ((), σ0) → ∀ (H : Heap) (locs : List Loc) (ls : Array Slot), lv_has ls 4 [(0, .ref (ad g 7)), (1, .long v1), (3, .int v3)] → Wd g σ H → va_S (wA g) s.heap H locs → W p l e R s m args below meth c H locs 0 0 Q (F0 m 30 ls [.int u1, .ref (ad g 7)]) := by
    intro v1 v3 u1 σ h H locs ls hl hP hS
    unfold f_Pa_writeType_J30 at h
    obtain ⟨rh1, σ2, h1, h⟩ := bn_some h
    refine q_cVv (rest := []) (As := [.int u1]) cx hP hS hRk (c_Pa_writeSign l g hg h1) Y_Pa_writeSign V_Pa_writeSign t_353 (by omega) (by decide) (e_7 g _ _) rfl rfl hl.1 rfl (Nat.le_of_ble_eq_true rfl) dPa_writeType_30 (fun H locs hP hS => ?_)
    exact q_rv cx hr hP hS hQ h dPa_writeType_33
  unfold f_Pa_writeType at h
  refine lv_iload_n hx hb dPa_writeType_0 rfl (lv_at hl 2 rfl) ?_
  refine lv_bipush (v := 27) hx hb dPa_writeType_1 (by decide) ?_
  refine lv_icmp_lt (tgt := 7) hx hb dPa_writeType_3 (by decide) (fun hc => ?_) (fun hc => ?_)
  · replace h := if_t h hc
    refine lv_lload_n hx hb dPa_writeType_7 rfl (lv_at hl 1 rfl) ?_
    obtain ⟨r5, σ4, h3, h⟩ := bn_some h
    refine q_cSi (rest := []) (As := [.long v1]) cx hP hS hRk (c_Ty_isFrom l g hg h3) Y_Ty_isFrom S_Ty_isFrom t_371 (by omega) rfl hl.1 rfl (Nat.le_of_ble_eq_true rfl) dPa_writeType_8 (fun H locs hP hS => ?_)
    refine lv_if_ne (tgt := 34) hx hb dPa_writeType_11 (by decide) (fun hc => ?_) (fun hc => ?_)
    · replace h := if_f h hc
      refine lv_aload_n hx hb dPa_writeType_34 rfl (lv_at hl 0 rfl) ?_
      refine lv_bipush (v := 60) hx hb dPa_writeType_35 (by decide) ?_
      obtain ⟨rh6, σ7, h6, h⟩ := bn_some h
      refine q_cVv (rest := []) (As := [.int (60 : Int32)]) cx hP hS hRk (c_Pa_writeSign l g hg h6) Y_Pa_writeSign V_Pa_writeSign t_353 (by omega) (by decide) (e_7 g _ _) rfl rfl hl.1 rfl (Nat.le_of_ble_eq_true rfl) dPa_writeType_37 (fun H locs hP hS => ?_)
      refine lv_aload_n hx hb dPa_writeType_40 rfl (lv_at hl 0 rfl) ?_
      refine lv_lload_n hx hb dPa_writeType_41 rfl (lv_at hl 1 rfl) ?_
      obtain ⟨r10, σ9, h8, h⟩ := bn_some h
      refine q_cSl (rest := [.ref (ad g 7)]) (As := [.long v1]) cx hP hS hRk (c_Ty_taken l g hg h8) Y_Ty_taken S_Ty_taken t_376 (by omega) rfl hl.1 rfl (Nat.le_of_ble_eq_true rfl) dPa_writeType_42 (fun H locs hP hS => ?_)
      refine lv_iload_n hx hb dPa_writeType_45 rfl (lv_at hl 2 rfl) ?_
      refine lv_iconst (v := 1) hx hb dPa_writeType_46 (by decide) ?_
      refine lv_iadd hx hb dPa_writeType_47 ?_
      obtain ⟨rh11, σ12, h11, h⟩ := bn_some h
      refine q_cVv (rest := []) (As := [.long r10, .int (v3 + (1 : Int32))]) cx hP hS hRk (hrc h11) Y_Pa_writeType V_Pa_writeType t_367 (by omega) (by decide) (e_7 g _ _) rfl rfl hl.1 rfl (Nat.le_of_ble_eq_true rfl) dPa_writeType_48 (fun H locs hP hS => ?_)
      refine lv_aload_n hx hb dPa_writeType_51 rfl (lv_at hl 0 rfl) ?_
      refine lv_lload_n hx hb dPa_writeType_52 rfl (lv_at hl 1 rfl) ?_
      obtain ⟨r15, σ14, h13, h⟩ := bn_some h
      refine q_cSl (rest := [.ref (ad g 7)]) (As := [.long v1]) cx hP hS hRk (c_Ty_given l g hg h13) Y_Ty_given S_Ty_given t_379 (by omega) rfl hl.1 rfl (Nat.le_of_ble_eq_true rfl) dPa_writeType_53 (fun H locs hP hS => ?_)
      refine lv_iload_n hx hb dPa_writeType_56 rfl (lv_at hl 2 rfl) ?_
      refine lv_iconst (v := 1) hx hb dPa_writeType_57 (by decide) ?_
      refine lv_iadd hx hb dPa_writeType_58 ?_
      obtain ⟨rh16, σ17, h16, h⟩ := bn_some h
      refine q_cVv (rest := []) (As := [.long r15, .int (v3 + (1 : Int32))]) cx hP hS hRk (hrc h16) Y_Pa_writeType V_Pa_writeType t_367 (by omega) (by decide) (e_7 g _ _) rfl rfl hl.1 rfl (Nat.le_of_ble_eq_true rfl) dPa_writeType_59 (fun H locs hP hS => ?_)
      refine lv_aload_n hx hb dPa_writeType_62 rfl (lv_at hl 0 rfl) ?_
      refine lv_bipush (v := 62) hx hb dPa_writeType_63 (by decide) ?_
      obtain ⟨rh18, σ19, h18, h⟩ := bn_some h
      refine q_cVv (rest := []) (As := [.int (62 : Int32)]) cx hP hS hRk (c_Pa_writeSign l g hg h18) Y_Pa_writeSign V_Pa_writeSign t_353 (by omega) (by decide) (e_7 g _ _) rfl rfl hl.1 rfl (Nat.le_of_ble_eq_true rfl) dPa_writeType_65 (fun H locs hP hS => ?_)
      exact q_rv cx hr hP hS hQ h dPa_writeType_68
    · replace h := if_t h hc
      refine lv_aload_n hx hb dPa_writeType_14 rfl (lv_at hl 0 rfl) ?_
      refine lv_lload_n hx hb dPa_writeType_15 rfl (lv_at hl 1 rfl) ?_
      refine lv_ldc2 (own := "TermBench$Page") (index := 83) (v := 2) hx hb hown (hts _ t_375) dPa_writeType_16 ?_
      refine W.lcmp hx hb dPa_writeType_19 ?_
      refine lv_if_ne (tgt := 28) hx hb dPa_writeType_20 (by decide) (fun hc => ?_) (fun hc => ?_)
      · replace h := if_f h hc
        refine lv_bipush (v := 42) hx hb dPa_writeType_28 (by decide) ?_
        exact J30 _ _ _ _ h _ _ _ (lv_sub hl [0, 1, 2] rfl) hP hS
      · replace h := if_t h hc
        refine lv_bipush (v := 35) hx hb dPa_writeType_23 (by decide) ?_
        refine lv_goto (tgt := 30) hx hb dPa_writeType_25 (by decide) ?_
        exact J30 _ _ _ _ h _ _ _ (lv_sub hl [0, 1, 2] rfl) hP hS
  · replace h := if_f h hc
    exact q_rv cx hr hP hS hQ h dPa_writeType_6
def F_Pa_writeType : Nat → Int64 → Int32 → Mem → Option (Unit × Mem)
  | 0 => fun _ _ _ => none
  | n + 1 => fun a0 a1 a2 => f_Pa_writeType (F_Pa_writeType n) a0 a1 a2
theorem C_Pa_writeType (l : Launch) (g : Gw) (hg : wInj g) : ∀ (n : Nat) {v1 : Int64} {v3 : Int32} {σ σ0 : Mem}, F_Pa_writeType n v1 v3 σ = some ((), σ0) → KV l yPa_writeType cPa_writeType 4 none (2 + 1 * n) g [.ref (ad g 7), .long v1, .int v3] σ σ0 := by
  intro n
  induction n with
  | zero => intros; rename_i h; simp [F_Pa_writeType] at h
  | succ n ih =>
    intros
    rename_i h
    exact c_Pa_writeType l g hg (d0 := 2 + 1 * n) (Nat.le_add_right _ _) ih  h
theorem dPa_writeNumber_0 : decode cPa_writeNumber 0 = .ok (.iload_n 1, 1) := by decide +kernel
theorem dPa_writeNumber_1 : decode cPa_writeNumber 1 = .ok (.invokestatic 92, 3) := by decide +kernel
theorem dPa_writeNumber_4 : decode cPa_writeNumber 4 = .ok (.istore_n 2, 1) := by decide +kernel
theorem dPa_writeNumber_5 : decode cPa_writeNumber 5 = .ok (.iload_n 1, 1) := by decide +kernel
theorem dPa_writeNumber_6 : decode cPa_writeNumber 6 = .ok (.ifCond .ge 9, 3) := by decide +kernel
theorem dPa_writeNumber_9 : decode cPa_writeNumber 9 = .ok (.aload_n 0, 1) := by decide +kernel
theorem dPa_writeNumber_10 : decode cPa_writeNumber 10 = .ok (.bipush 45, 2) := by decide +kernel
theorem dPa_writeNumber_12 : decode cPa_writeNumber 12 = .ok (.invokevirtual 56, 3) := by decide +kernel
theorem dPa_writeNumber_15 : decode cPa_writeNumber 15 = .ok (.iload_n 2, 1) := by decide +kernel
theorem dPa_writeNumber_16 : decode cPa_writeNumber 16 = .ok (.bipush 100, 2) := by decide +kernel
theorem dPa_writeNumber_18 : decode cPa_writeNumber 18 = .ok (.if_icmp .lt 14, 3) := by decide +kernel
theorem dPa_writeNumber_21 : decode cPa_writeNumber 21 = .ok (.aload_n 0, 1) := by decide +kernel
theorem dPa_writeNumber_22 : decode cPa_writeNumber 22 = .ok (.bipush 48, 2) := by decide +kernel
theorem dPa_writeNumber_24 : decode cPa_writeNumber 24 = .ok (.iload_n 2, 1) := by decide +kernel
theorem dPa_writeNumber_25 : decode cPa_writeNumber 25 = .ok (.bipush 100, 2) := by decide +kernel
theorem dPa_writeNumber_27 : decode cPa_writeNumber 27 = .ok (.idiv, 1) := by decide +kernel
theorem dPa_writeNumber_28 : decode cPa_writeNumber 28 = .ok (.iadd, 1) := by decide +kernel
theorem dPa_writeNumber_29 : decode cPa_writeNumber 29 = .ok (.invokevirtual 56, 3) := by decide +kernel
theorem dPa_writeNumber_32 : decode cPa_writeNumber 32 = .ok (.iload_n 2, 1) := by decide +kernel
theorem dPa_writeNumber_33 : decode cPa_writeNumber 33 = .ok (.bipush 10, 2) := by decide +kernel
theorem dPa_writeNumber_35 : decode cPa_writeNumber 35 = .ok (.if_icmp .lt 17, 3) := by decide +kernel
theorem dPa_writeNumber_38 : decode cPa_writeNumber 38 = .ok (.aload_n 0, 1) := by decide +kernel
theorem dPa_writeNumber_39 : decode cPa_writeNumber 39 = .ok (.bipush 48, 2) := by decide +kernel
theorem dPa_writeNumber_41 : decode cPa_writeNumber 41 = .ok (.iload_n 2, 1) := by decide +kernel
theorem dPa_writeNumber_42 : decode cPa_writeNumber 42 = .ok (.bipush 10, 2) := by decide +kernel
theorem dPa_writeNumber_44 : decode cPa_writeNumber 44 = .ok (.idiv, 1) := by decide +kernel
theorem dPa_writeNumber_45 : decode cPa_writeNumber 45 = .ok (.bipush 10, 2) := by decide +kernel
theorem dPa_writeNumber_47 : decode cPa_writeNumber 47 = .ok (.irem, 1) := by decide +kernel
theorem dPa_writeNumber_48 : decode cPa_writeNumber 48 = .ok (.iadd, 1) := by decide +kernel
theorem dPa_writeNumber_49 : decode cPa_writeNumber 49 = .ok (.invokevirtual 56, 3) := by decide +kernel
theorem dPa_writeNumber_52 : decode cPa_writeNumber 52 = .ok (.aload_n 0, 1) := by decide +kernel
theorem dPa_writeNumber_53 : decode cPa_writeNumber 53 = .ok (.bipush 48, 2) := by decide +kernel
theorem dPa_writeNumber_55 : decode cPa_writeNumber 55 = .ok (.iload_n 2, 1) := by decide +kernel
theorem dPa_writeNumber_56 : decode cPa_writeNumber 56 = .ok (.bipush 10, 2) := by decide +kernel
theorem dPa_writeNumber_58 : decode cPa_writeNumber 58 = .ok (.irem, 1) := by decide +kernel
theorem dPa_writeNumber_59 : decode cPa_writeNumber 59 = .ok (.iadd, 1) := by decide +kernel
theorem dPa_writeNumber_60 : decode cPa_writeNumber 60 = .ok (.invokevirtual 56, 3) := by decide +kernel
theorem dPa_writeNumber_63 : decode cPa_writeNumber 63 = .ok (.return_, 1) := by decide +kernel
def f_Pa_writeNumber_J52  (v1 : Int32) (v2 : Int32) (σ : Mem) : Option (Unit × Mem) :=
  bn (f_Pa_writeSign ((48 : Int32) + (v2 - v2 / (10 : Int32) * (10 : Int32))) σ) fun (_ : Unit) (σ2 : Mem) =>
  some ((), σ2)
def f_Pa_writeNumber_J32  (v1 : Int32) (v2 : Int32) (σ : Mem) : Option (Unit × Mem) :=
  if v2 < (10 : Int32) then (
  f_Pa_writeNumber_J52 v1 v2 σ)
  else (
  bn (f_Pa_writeSign ((48 : Int32) + ((v2 / (10 : Int32)) - (v2 / (10 : Int32)) / (10 : Int32) * (10 : Int32))) σ) fun (_ : Unit) (σ4 : Mem) =>
  f_Pa_writeNumber_J52 v1 v2 σ4)
def f_Pa_writeNumber_J15  (v1 : Int32) (v2 : Int32) (σ : Mem) : Option (Unit × Mem) :=
  if v2 < (100 : Int32) then (
  f_Pa_writeNumber_J32 v1 v2 σ)
  else (
  bn (f_Pa_writeSign ((48 : Int32) + (v2 / (100 : Int32))) σ) fun (_ : Unit) (σ6 : Mem) =>
  f_Pa_writeNumber_J32 v1 v2 σ6)
def f_Pa_writeNumber  (v1 : Int32) (σ : Mem) : Option (Unit × Mem) :=
  lt_ (if 0 ≤ v1 then v1 else 0 - v1) fun (x7 : Int32) =>
  if 0 ≤ v1 then (
  f_Pa_writeNumber_J15 v1 x7 σ)
  else (
  bn (f_Pa_writeSign (45 : Int32) σ) fun (_ : Unit) (σ9 : Mem) =>
  f_Pa_writeNumber_J15 v1 x7 σ9)
set_option maxHeartbeats 4000000 in
set_option maxRecDepth 100000 in
theorem c_Pa_writeNumber (l : Launch) (g : Gw) (hg : wInj g) {v1 : Int32} {σ σ0 : Mem} (h : f_Pa_writeNumber v1 σ = some ((), σ0)) : KV l yPa_writeNumber cPa_writeNumber 3 none 1 g [.ref (ad g 7), .int v1] σ σ0 := by
  refine q_met g hg (own := "TermBench$Page") rfl rfl (Nat.le_of_ble_eq_true rfl) (fun p e s m args below meth c R Q cx hRk hr hQ H locs ls hP hS hl => ?_)
  have hx := cx.1
  have hb := cx.2.1
  have hown := cx.2.2.2.1
  have hts := cx.2.2.2.2.1
  have hl : lv_has ls 3 [(0, .ref (ad g 7)), (1, .int v1)] := hl
  have J52 : ∀ (v1 : Int32) (v2 : Int32) (σ : Mem), f_Pa_writeNumber_J52 v1 v2 σ = some ((), σ0) → ∀ (H : Heap) (locs : List Loc) (ls : Array Slot), lv_has ls 3 [(0, .ref (ad g 7)), (1, .int v1), (2, .int v2)] → Wd g σ H → va_S (wA g) s.heap H locs → W p l e R s m args below meth c H locs 0 0 Q (F0 m 52 ls []) := by
    intro v1 v2 σ h H locs ls hl hP hS
    unfold f_Pa_writeNumber_J52 at h
    refine lv_aload_n hx hb dPa_writeNumber_52 rfl (lv_at hl 0 rfl) ?_
    refine lv_bipush (v := 48) hx hb dPa_writeNumber_53 (by decide) ?_
    refine lv_iload_n hx hb dPa_writeNumber_55 rfl (lv_at hl 2 rfl) ?_
    refine lv_bipush (v := 10) hx hb dPa_writeNumber_56 (by decide) ?_
    refine lv_irem hx hb dPa_writeNumber_58 (by decide) ?_
    refine lv_iadd hx hb dPa_writeNumber_59 ?_
    obtain ⟨rh1, σ2, h1, h⟩ := bn_some h
    refine q_cVv (rest := []) (As := [.int ((48 : Int32) + (v2 - v2 / (10 : Int32) * (10 : Int32)))]) cx hP hS hRk (c_Pa_writeSign l g hg h1) Y_Pa_writeSign V_Pa_writeSign t_353 (by decide) (by decide) (e_7 g _ _) rfl rfl hl.1 rfl (Nat.le_of_ble_eq_true rfl) dPa_writeNumber_60 (fun H locs hP hS => ?_)
    exact q_rv cx hr hP hS hQ h dPa_writeNumber_63
  have J32 : ∀ (v1 : Int32) (v2 : Int32) (σ : Mem), f_Pa_writeNumber_J32 v1 v2 σ = some ((), σ0) → ∀ (H : Heap) (locs : List Loc) (ls : Array Slot), lv_has ls 3 [(0, .ref (ad g 7)), (1, .int v1), (2, .int v2)] → Wd g σ H → va_S (wA g) s.heap H locs → W p l e R s m args below meth c H locs 0 0 Q (F0 m 32 ls []) := by
    intro v1 v2 σ h H locs ls hl hP hS
    unfold f_Pa_writeNumber_J32 at h
    refine lv_iload_n hx hb dPa_writeNumber_32 rfl (lv_at hl 2 rfl) ?_
    refine lv_bipush (v := 10) hx hb dPa_writeNumber_33 (by decide) ?_
    refine lv_icmp_lt (tgt := 52) hx hb dPa_writeNumber_35 (by decide) (fun hc => ?_) (fun hc => ?_)
    · replace h := if_t h hc
      exact J52 _ _ _ h _ _ _ (lv_sub hl [0, 1, 2] rfl) hP hS
    · replace h := if_f h hc
      refine lv_aload_n hx hb dPa_writeNumber_38 rfl (lv_at hl 0 rfl) ?_
      refine lv_bipush (v := 48) hx hb dPa_writeNumber_39 (by decide) ?_
      refine lv_iload_n hx hb dPa_writeNumber_41 rfl (lv_at hl 2 rfl) ?_
      refine lv_bipush (v := 10) hx hb dPa_writeNumber_42 (by decide) ?_
      refine lv_idiv hx hb dPa_writeNumber_44 (by decide) ?_
      refine lv_bipush (v := 10) hx hb dPa_writeNumber_45 (by decide) ?_
      refine lv_irem hx hb dPa_writeNumber_47 (by decide) ?_
      refine lv_iadd hx hb dPa_writeNumber_48 ?_
      obtain ⟨rh3, σ4, h3, h⟩ := bn_some h
      refine q_cVv (rest := []) (As := [.int ((48 : Int32) + ((v2 / (10 : Int32)) - (v2 / (10 : Int32)) / (10 : Int32) * (10 : Int32)))]) cx hP hS hRk (c_Pa_writeSign l g hg h3) Y_Pa_writeSign V_Pa_writeSign t_353 (by decide) (by decide) (e_7 g _ _) rfl rfl hl.1 rfl (Nat.le_of_ble_eq_true rfl) dPa_writeNumber_49 (fun H locs hP hS => ?_)
      exact J52 _ _ _ h _ _ _ (lv_sub hl [0, 1, 2] rfl) hP hS
  have J15 : ∀ (v1 : Int32) (v2 : Int32) (σ : Mem), f_Pa_writeNumber_J15 v1 v2 σ = some ((), σ0) → ∀ (H : Heap) (locs : List Loc) (ls : Array Slot), lv_has ls 3 [(0, .ref (ad g 7)), (1, .int v1), (2, .int v2)] → Wd g σ H → va_S (wA g) s.heap H locs → W p l e R s m args below meth c H locs 0 0 Q (F0 m 15 ls []) := by
    intro v1 v2 σ h H locs ls hl hP hS
    unfold f_Pa_writeNumber_J15 at h
    refine lv_iload_n hx hb dPa_writeNumber_15 rfl (lv_at hl 2 rfl) ?_
    refine lv_bipush (v := 100) hx hb dPa_writeNumber_16 (by decide) ?_
    refine lv_icmp_lt (tgt := 32) hx hb dPa_writeNumber_18 (by decide) (fun hc => ?_) (fun hc => ?_)
    · replace h := if_t h hc
      exact J32 _ _ _ h _ _ _ (lv_sub hl [0, 1, 2] rfl) hP hS
    · replace h := if_f h hc
      refine lv_aload_n hx hb dPa_writeNumber_21 rfl (lv_at hl 0 rfl) ?_
      refine lv_bipush (v := 48) hx hb dPa_writeNumber_22 (by decide) ?_
      refine lv_iload_n hx hb dPa_writeNumber_24 rfl (lv_at hl 2 rfl) ?_
      refine lv_bipush (v := 100) hx hb dPa_writeNumber_25 (by decide) ?_
      refine lv_idiv hx hb dPa_writeNumber_27 (by decide) ?_
      refine lv_iadd hx hb dPa_writeNumber_28 ?_
      obtain ⟨rh5, σ6, h5, h⟩ := bn_some h
      refine q_cVv (rest := []) (As := [.int ((48 : Int32) + (v2 / (100 : Int32)))]) cx hP hS hRk (c_Pa_writeSign l g hg h5) Y_Pa_writeSign V_Pa_writeSign t_353 (by decide) (by decide) (e_7 g _ _) rfl rfl hl.1 rfl (Nat.le_of_ble_eq_true rfl) dPa_writeNumber_29 (fun H locs hP hS => ?_)
      exact J32 _ _ _ h _ _ _ (lv_sub hl [0, 1, 2] rfl) hP hS
  unfold f_Pa_writeNumber at h
  refine lv_iload_n hx hb dPa_writeNumber_0 rfl (lv_at hl 1 rfl) ?_
  refine q_abs cx hRk t_350 N_abs (by omega) hl.1 (Nat.le_of_ble_eq_true rfl) dPa_writeNumber_1 ?_
  obtain ⟨x7, ex7, h⟩ := lt_some h
  refine q_nmi ex7 ?_
  refine lv_istore_n (lv' := [(2, .int x7), (0, .ref (ad g 7)), (1, .int v1)]) hx hb dPa_writeNumber_4 rfl hl (Nat.le_of_ble_eq_true rfl) rfl (fun ls hl => ?_)
  refine lv_iload_n hx hb dPa_writeNumber_5 rfl (lv_at hl 2 rfl) ?_
  refine lv_if_ge (tgt := 15) hx hb dPa_writeNumber_6 (by decide) (fun hc => ?_) (fun hc => ?_)
  · replace h := if_t h hc
    exact J15 _ _ _ h _ _ _ (lv_sub hl [1, 2, 0] rfl) hP hS
  · replace h := if_f h hc
    refine lv_aload_n hx hb dPa_writeNumber_9 rfl (lv_at hl 1 rfl) ?_
    refine lv_bipush (v := 45) hx hb dPa_writeNumber_10 (by decide) ?_
    obtain ⟨rh8, σ9, h8, h⟩ := bn_some h
    refine q_cVv (rest := []) (As := [.int (45 : Int32)]) cx hP hS hRk (c_Pa_writeSign l g hg h8) Y_Pa_writeSign V_Pa_writeSign t_353 (by decide) (by decide) (e_7 g _ _) rfl rfl hl.1 rfl (Nat.le_of_ble_eq_true rfl) dPa_writeNumber_12 (fun H locs hP hS => ?_)
    exact J15 _ _ _ h _ _ _ (lv_sub hl [1, 2, 0] rfl) hP hS
theorem dPa_writeWithParts_0 : decode cPa_writeWithParts 0 = .ok (.aload_n 1, 1) := by decide +kernel
theorem dPa_writeWithParts_1 : decode cPa_writeWithParts 1 = .ok (.iload_n 2, 1) := by decide +kernel
theorem dPa_writeWithParts_2 : decode cPa_writeWithParts 2 = .ok (.iconst 0, 1) := by decide +kernel
theorem dPa_writeWithParts_3 : decode cPa_writeWithParts 3 = .ok (.invokevirtual 63, 3) := by decide +kernel
theorem dPa_writeWithParts_6 : decode cPa_writeWithParts 6 = .ok (.istore 4, 2) := by decide +kernel
theorem dPa_writeWithParts_8 : decode cPa_writeWithParts 8 = .ok (.aload_n 1, 1) := by decide +kernel
theorem dPa_writeWithParts_9 : decode cPa_writeWithParts 9 = .ok (.iload_n 2, 1) := by decide +kernel
theorem dPa_writeWithParts_10 : decode cPa_writeWithParts 10 = .ok (.iconst 1, 1) := by decide +kernel
theorem dPa_writeWithParts_11 : decode cPa_writeWithParts 11 = .ok (.invokevirtual 63, 3) := by decide +kernel
theorem dPa_writeWithParts_14 : decode cPa_writeWithParts 14 = .ok (.istore 5, 2) := by decide +kernel
theorem dPa_writeWithParts_16 : decode cPa_writeWithParts 16 = .ok (.aload_n 1, 1) := by decide +kernel
theorem dPa_writeWithParts_17 : decode cPa_writeWithParts 17 = .ok (.getfield 40, 3) := by decide +kernel
theorem dPa_writeWithParts_20 : decode cPa_writeWithParts 20 = .ok (.iload_n 2, 1) := by decide +kernel
theorem dPa_writeWithParts_21 : decode cPa_writeWithParts 21 = .ok (.iaload, 1) := by decide +kernel
theorem dPa_writeWithParts_22 : decode cPa_writeWithParts 22 = .ok (.tableswitch 154 3 5 #[26, 67, 102], 26) := by decide +kernel
theorem dPa_writeWithParts_48 : decode cPa_writeWithParts 48 = .ok (.aload_n 0, 1) := by decide +kernel
theorem dPa_writeWithParts_49 : decode cPa_writeWithParts 49 = .ok (.bipush 40, 2) := by decide +kernel
theorem dPa_writeWithParts_51 : decode cPa_writeWithParts 51 = .ok (.invokevirtual 56, 3) := by decide +kernel
theorem dPa_writeWithParts_54 : decode cPa_writeWithParts 54 = .ok (.aload_n 0, 1) := by decide +kernel
theorem dPa_writeWithParts_55 : decode cPa_writeWithParts 55 = .ok (.aload_n 1, 1) := by decide +kernel
theorem dPa_writeWithParts_56 : decode cPa_writeWithParts 56 = .ok (.iload 4, 2) := by decide +kernel
theorem dPa_writeWithParts_58 : decode cPa_writeWithParts 58 = .ok (.iload_n 3, 1) := by decide +kernel
theorem dPa_writeWithParts_59 : decode cPa_writeWithParts 59 = .ok (.iconst 1, 1) := by decide +kernel
theorem dPa_writeWithParts_60 : decode cPa_writeWithParts 60 = .ok (.iadd, 1) := by decide +kernel
theorem dPa_writeWithParts_61 : decode cPa_writeWithParts 61 = .ok (.invokevirtual 67, 3) := by decide +kernel
theorem dPa_writeWithParts_64 : decode cPa_writeWithParts 64 = .ok (.aload_n 0, 1) := by decide +kernel
theorem dPa_writeWithParts_65 : decode cPa_writeWithParts 65 = .ok (.bipush 43, 2) := by decide +kernel
theorem dPa_writeWithParts_67 : decode cPa_writeWithParts 67 = .ok (.invokevirtual 56, 3) := by decide +kernel
theorem dPa_writeWithParts_70 : decode cPa_writeWithParts 70 = .ok (.aload_n 0, 1) := by decide +kernel
theorem dPa_writeWithParts_71 : decode cPa_writeWithParts 71 = .ok (.aload_n 1, 1) := by decide +kernel
theorem dPa_writeWithParts_72 : decode cPa_writeWithParts 72 = .ok (.iload 5, 2) := by decide +kernel
theorem dPa_writeWithParts_74 : decode cPa_writeWithParts 74 = .ok (.iload_n 3, 1) := by decide +kernel
theorem dPa_writeWithParts_75 : decode cPa_writeWithParts 75 = .ok (.iconst 1, 1) := by decide +kernel
theorem dPa_writeWithParts_76 : decode cPa_writeWithParts 76 = .ok (.iadd, 1) := by decide +kernel
theorem dPa_writeWithParts_77 : decode cPa_writeWithParts 77 = .ok (.invokevirtual 67, 3) := by decide +kernel
theorem dPa_writeWithParts_80 : decode cPa_writeWithParts 80 = .ok (.aload_n 0, 1) := by decide +kernel
theorem dPa_writeWithParts_81 : decode cPa_writeWithParts 81 = .ok (.bipush 41, 2) := by decide +kernel
theorem dPa_writeWithParts_83 : decode cPa_writeWithParts 83 = .ok (.invokevirtual 56, 3) := by decide +kernel
theorem dPa_writeWithParts_86 : decode cPa_writeWithParts 86 = .ok (.goto 129, 3) := by decide +kernel
theorem dPa_writeWithParts_89 : decode cPa_writeWithParts 89 = .ok (.aload_n 0, 1) := by decide +kernel
theorem dPa_writeWithParts_90 : decode cPa_writeWithParts 90 = .ok (.aload_n 1, 1) := by decide +kernel
theorem dPa_writeWithParts_91 : decode cPa_writeWithParts 91 = .ok (.iload 4, 2) := by decide +kernel
theorem dPa_writeWithParts_93 : decode cPa_writeWithParts 93 = .ok (.iload_n 3, 1) := by decide +kernel
theorem dPa_writeWithParts_94 : decode cPa_writeWithParts 94 = .ok (.iconst 1, 1) := by decide +kernel
theorem dPa_writeWithParts_95 : decode cPa_writeWithParts 95 = .ok (.iadd, 1) := by decide +kernel
theorem dPa_writeWithParts_96 : decode cPa_writeWithParts 96 = .ok (.invokevirtual 67, 3) := by decide +kernel
theorem dPa_writeWithParts_99 : decode cPa_writeWithParts 99 = .ok (.aload_n 0, 1) := by decide +kernel
theorem dPa_writeWithParts_100 : decode cPa_writeWithParts 100 = .ok (.bipush 40, 2) := by decide +kernel
theorem dPa_writeWithParts_102 : decode cPa_writeWithParts 102 = .ok (.invokevirtual 56, 3) := by decide +kernel
theorem dPa_writeWithParts_105 : decode cPa_writeWithParts 105 = .ok (.aload_n 0, 1) := by decide +kernel
theorem dPa_writeWithParts_106 : decode cPa_writeWithParts 106 = .ok (.aload_n 1, 1) := by decide +kernel
theorem dPa_writeWithParts_107 : decode cPa_writeWithParts 107 = .ok (.iload 5, 2) := by decide +kernel
theorem dPa_writeWithParts_109 : decode cPa_writeWithParts 109 = .ok (.iload_n 3, 1) := by decide +kernel
theorem dPa_writeWithParts_110 : decode cPa_writeWithParts 110 = .ok (.iconst 1, 1) := by decide +kernel
theorem dPa_writeWithParts_111 : decode cPa_writeWithParts 111 = .ok (.iadd, 1) := by decide +kernel
theorem dPa_writeWithParts_112 : decode cPa_writeWithParts 112 = .ok (.invokevirtual 67, 3) := by decide +kernel
theorem dPa_writeWithParts_115 : decode cPa_writeWithParts 115 = .ok (.aload_n 0, 1) := by decide +kernel
theorem dPa_writeWithParts_116 : decode cPa_writeWithParts 116 = .ok (.bipush 41, 2) := by decide +kernel
theorem dPa_writeWithParts_118 : decode cPa_writeWithParts 118 = .ok (.invokevirtual 56, 3) := by decide +kernel
theorem dPa_writeWithParts_121 : decode cPa_writeWithParts 121 = .ok (.goto 94, 3) := by decide +kernel
theorem dPa_writeWithParts_124 : decode cPa_writeWithParts 124 = .ok (.aload_n 0, 1) := by decide +kernel
theorem dPa_writeWithParts_125 : decode cPa_writeWithParts 125 = .ok (.bipush 91, 2) := by decide +kernel
theorem dPa_writeWithParts_127 : decode cPa_writeWithParts 127 = .ok (.invokevirtual 56, 3) := by decide +kernel
theorem dPa_writeWithParts_130 : decode cPa_writeWithParts 130 = .ok (.aload_n 0, 1) := by decide +kernel
theorem dPa_writeWithParts_131 : decode cPa_writeWithParts 131 = .ok (.aload_n 1, 1) := by decide +kernel
theorem dPa_writeWithParts_132 : decode cPa_writeWithParts 132 = .ok (.getfield 46, 3) := by decide +kernel
theorem dPa_writeWithParts_135 : decode cPa_writeWithParts 135 = .ok (.iload_n 2, 1) := by decide +kernel
theorem dPa_writeWithParts_136 : decode cPa_writeWithParts 136 = .ok (.iaload, 1) := by decide +kernel
theorem dPa_writeWithParts_137 : decode cPa_writeWithParts 137 = .ok (.invokevirtual 53, 3) := by decide +kernel
theorem dPa_writeWithParts_140 : decode cPa_writeWithParts 140 = .ok (.aload_n 0, 1) := by decide +kernel
theorem dPa_writeWithParts_141 : decode cPa_writeWithParts 141 = .ok (.bipush 58, 2) := by decide +kernel
theorem dPa_writeWithParts_143 : decode cPa_writeWithParts 143 = .ok (.invokevirtual 56, 3) := by decide +kernel
theorem dPa_writeWithParts_146 : decode cPa_writeWithParts 146 = .ok (.aload_n 0, 1) := by decide +kernel
theorem dPa_writeWithParts_147 : decode cPa_writeWithParts 147 = .ok (.aload_n 1, 1) := by decide +kernel
theorem dPa_writeWithParts_148 : decode cPa_writeWithParts 148 = .ok (.getfield 70, 3) := by decide +kernel
theorem dPa_writeWithParts_151 : decode cPa_writeWithParts 151 = .ok (.iload_n 2, 1) := by decide +kernel
theorem dPa_writeWithParts_152 : decode cPa_writeWithParts 152 = .ok (.laload, 1) := by decide +kernel
theorem dPa_writeWithParts_153 : decode cPa_writeWithParts 153 = .ok (.iconst 0, 1) := by decide +kernel
theorem dPa_writeWithParts_154 : decode cPa_writeWithParts 154 = .ok (.invokevirtual 73, 3) := by decide +kernel
theorem dPa_writeWithParts_157 : decode cPa_writeWithParts 157 = .ok (.aload_n 0, 1) := by decide +kernel
theorem dPa_writeWithParts_158 : decode cPa_writeWithParts 158 = .ok (.aload_n 1, 1) := by decide +kernel
theorem dPa_writeWithParts_159 : decode cPa_writeWithParts 159 = .ok (.iload 4, 2) := by decide +kernel
theorem dPa_writeWithParts_161 : decode cPa_writeWithParts 161 = .ok (.iload_n 3, 1) := by decide +kernel
theorem dPa_writeWithParts_162 : decode cPa_writeWithParts 162 = .ok (.iconst 1, 1) := by decide +kernel
theorem dPa_writeWithParts_163 : decode cPa_writeWithParts 163 = .ok (.iadd, 1) := by decide +kernel
theorem dPa_writeWithParts_164 : decode cPa_writeWithParts 164 = .ok (.invokevirtual 67, 3) := by decide +kernel
theorem dPa_writeWithParts_167 : decode cPa_writeWithParts 167 = .ok (.aload_n 0, 1) := by decide +kernel
theorem dPa_writeWithParts_168 : decode cPa_writeWithParts 168 = .ok (.bipush 93, 2) := by decide +kernel
theorem dPa_writeWithParts_170 : decode cPa_writeWithParts 170 = .ok (.invokevirtual 56, 3) := by decide +kernel
theorem dPa_writeWithParts_173 : decode cPa_writeWithParts 173 = .ok (.goto 42, 3) := by decide +kernel
theorem dPa_writeWithParts_176 : decode cPa_writeWithParts 176 = .ok (.aload_n 0, 1) := by decide +kernel
theorem dPa_writeWithParts_177 : decode cPa_writeWithParts 177 = .ok (.bipush 123, 2) := by decide +kernel
theorem dPa_writeWithParts_179 : decode cPa_writeWithParts 179 = .ok (.invokevirtual 56, 3) := by decide +kernel
theorem dPa_writeWithParts_182 : decode cPa_writeWithParts 182 = .ok (.aload_n 0, 1) := by decide +kernel
theorem dPa_writeWithParts_183 : decode cPa_writeWithParts 183 = .ok (.aload_n 1, 1) := by decide +kernel
theorem dPa_writeWithParts_184 : decode cPa_writeWithParts 184 = .ok (.iload 4, 2) := by decide +kernel
theorem dPa_writeWithParts_186 : decode cPa_writeWithParts 186 = .ok (.iload_n 3, 1) := by decide +kernel
theorem dPa_writeWithParts_187 : decode cPa_writeWithParts 187 = .ok (.iconst 1, 1) := by decide +kernel
theorem dPa_writeWithParts_188 : decode cPa_writeWithParts 188 = .ok (.iadd, 1) := by decide +kernel
theorem dPa_writeWithParts_189 : decode cPa_writeWithParts 189 = .ok (.invokevirtual 67, 3) := by decide +kernel
theorem dPa_writeWithParts_192 : decode cPa_writeWithParts 192 = .ok (.aload_n 0, 1) := by decide +kernel
theorem dPa_writeWithParts_193 : decode cPa_writeWithParts 193 = .ok (.bipush 58, 2) := by decide +kernel
theorem dPa_writeWithParts_195 : decode cPa_writeWithParts 195 = .ok (.invokevirtual 56, 3) := by decide +kernel
theorem dPa_writeWithParts_198 : decode cPa_writeWithParts 198 = .ok (.aload_n 0, 1) := by decide +kernel
theorem dPa_writeWithParts_199 : decode cPa_writeWithParts 199 = .ok (.aload_n 1, 1) := by decide +kernel
theorem dPa_writeWithParts_200 : decode cPa_writeWithParts 200 = .ok (.getfield 70, 3) := by decide +kernel
theorem dPa_writeWithParts_203 : decode cPa_writeWithParts 203 = .ok (.iload_n 2, 1) := by decide +kernel
theorem dPa_writeWithParts_204 : decode cPa_writeWithParts 204 = .ok (.laload, 1) := by decide +kernel
theorem dPa_writeWithParts_205 : decode cPa_writeWithParts 205 = .ok (.iconst 0, 1) := by decide +kernel
theorem dPa_writeWithParts_206 : decode cPa_writeWithParts 206 = .ok (.invokevirtual 73, 3) := by decide +kernel
theorem dPa_writeWithParts_209 : decode cPa_writeWithParts 209 = .ok (.aload_n 0, 1) := by decide +kernel
theorem dPa_writeWithParts_210 : decode cPa_writeWithParts 210 = .ok (.bipush 125, 2) := by decide +kernel
theorem dPa_writeWithParts_212 : decode cPa_writeWithParts 212 = .ok (.invokevirtual 56, 3) := by decide +kernel
theorem dPa_writeWithParts_215 : decode cPa_writeWithParts 215 = .ok (.return_, 1) := by decide +kernel
def f_Pa_writeWithParts (rc : Nat → Int32 → Int32 → Mem → Option (Unit × Mem)) (i : Nat) (v2 : Int32) (v3 : Int32) (σ : Mem) : Option (Unit × Mem) :=
  bn (f_Pr_part i v2 (0 : Int32) σ) fun (r3 : Int32) (σ2 : Mem) =>
  bn (f_Pr_part i v2 (1 : Int32) σ2) fun (r6 : Int32) (σ5 : Mem) =>
  gd (inb v2 40) (
  if (σ5.1 (cPk i) v2.toNatClampNeg) = (3 : Int32) then (
  bn (f_Pa_writeSign (40 : Int32) σ5) fun (_ : Unit) (σ9 : Mem) =>
  bn (rc i r3 (v3 + (1 : Int32)) σ9) fun (_ : Unit) (σ11 : Mem) =>
  bn (f_Pa_writeSign (43 : Int32) σ11) fun (_ : Unit) (σ13 : Mem) =>
  bn (rc i r6 (v3 + (1 : Int32)) σ13) fun (_ : Unit) (σ15 : Mem) =>
  bn (f_Pa_writeSign (41 : Int32) σ15) fun (_ : Unit) (σ17 : Mem) =>
  some ((), σ17))
  else (
  if (σ5.1 (cPk i) v2.toNatClampNeg) = (4 : Int32) then (
  bn (rc i r3 (v3 + (1 : Int32)) σ5) fun (_ : Unit) (σ19 : Mem) =>
  bn (f_Pa_writeSign (40 : Int32) σ19) fun (_ : Unit) (σ21 : Mem) =>
  bn (rc i r6 (v3 + (1 : Int32)) σ21) fun (_ : Unit) (σ23 : Mem) =>
  bn (f_Pa_writeSign (41 : Int32) σ23) fun (_ : Unit) (σ25 : Mem) =>
  some ((), σ25))
  else (
  if (σ5.1 (cPk i) v2.toNatClampNeg) = (5 : Int32) then (
  bn (f_Pa_writeSign (91 : Int32) σ5) fun (_ : Unit) (σ27 : Mem) =>
  gd (inb v2 40) (
  bn (f_Pa_writeName (σ27.1 (cPf i) v2.toNatClampNeg) σ27) fun (_ : Unit) (σ30 : Mem) =>
  bn (f_Pa_writeSign (58 : Int32) σ30) fun (_ : Unit) (σ32 : Mem) =>
  gd (inb v2 40) (
  bn (F_Pa_writeType 28 (σ32.2 (cPt i) v2.toNatClampNeg) (0 : Int32) σ32) fun (_ : Unit) (σ35 : Mem) =>
  bn (rc i r3 (v3 + (1 : Int32)) σ35) fun (_ : Unit) (σ37 : Mem) =>
  bn (f_Pa_writeSign (93 : Int32) σ37) fun (_ : Unit) (σ39 : Mem) =>
  some ((), σ39))))
  else (
  bn (f_Pa_writeSign (123 : Int32) σ5) fun (_ : Unit) (σ41 : Mem) =>
  bn (rc i r3 (v3 + (1 : Int32)) σ41) fun (_ : Unit) (σ43 : Mem) =>
  bn (f_Pa_writeSign (58 : Int32) σ43) fun (_ : Unit) (σ45 : Mem) =>
  gd (inb v2 40) (
  bn (F_Pa_writeType 28 (σ45.2 (cPt i) v2.toNatClampNeg) (0 : Int32) σ45) fun (_ : Unit) (σ48 : Mem) =>
  bn (f_Pa_writeSign (125 : Int32) σ48) fun (_ : Unit) (σ50 : Mem) =>
  some ((), σ50))))))
set_option maxHeartbeats 4000000 in
set_option maxRecDepth 100000 in
theorem c_Pa_writeWithParts (l : Launch) (g : Gw) (hg : wInj g) {rc : Nat → Int32 → Int32 → Mem → Option (Unit × Mem)} {d0 : Nat} (hd0 : 31 ≤ d0) (hrc : ∀ {i : Nat} (hi : i < 17) {v2 : Int32} {v3 : Int32} {σ σ0 : Mem}, rc i v2 v3 σ = some ((), σ0) → KV l yPa_writeTerm cPa_writeTerm 4 none d0 g [.ref (ad g 7), .ref (ad g (cP i)), .int v2, .int v3] σ σ0) {i : Nat} (hi : i < 17) {v2 : Int32} {v3 : Int32} {σ σ0 : Mem} (h : f_Pa_writeWithParts rc i v2 v3 σ = some ((), σ0)) : KV l yPa_writeWithParts cPa_writeWithParts 6 none (d0 + 1) g [.ref (ad g 7), .ref (ad g (cP i)), .int v2, .int v3] σ σ0 := by
  refine q_met g hg (own := "TermBench$Page") rfl rfl (Nat.le_of_ble_eq_true rfl) (fun p e s m args below meth c R Q cx hRk hr hQ H locs ls hP hS hl => ?_)
  have hx := cx.1
  have hb := cx.2.1
  have hown := cx.2.2.2.1
  have hts := cx.2.2.2.2.1
  have hl : lv_has ls 6 [(0, .ref (ad g 7)), (1, .ref (ad g (cP i))), (2, .int v2), (3, .int v3)] := hl
  unfold f_Pa_writeWithParts at h
  refine lv_aload_n hx hb dPa_writeWithParts_0 rfl (lv_at hl 1 rfl) ?_
  refine lv_iload_n hx hb dPa_writeWithParts_1 rfl (lv_at hl 2 rfl) ?_
  refine lv_iconst (v := 0) hx hb dPa_writeWithParts_2 (by decide) ?_
  obtain ⟨r3, σ2, h1, h⟩ := bn_some h
  refine q_cVi (rest := []) (As := [.int v2, .int (0 : Int32)]) cx hP hS hRk (c_Pr_part l g hg hi h1) Y_Pr_part V_Pr_part t_365 (by omega) (l_cP hi) (e_cP g hi _ _) rfl rfl hl.1 rfl (Nat.le_of_ble_eq_true rfl) dPa_writeWithParts_3 (fun H locs hP hS => ?_)
  refine lv_istore (lv' := [(4, .int r3), (0, .ref (ad g 7)), (1, .ref (ad g (cP i))), (2, .int v2), (3, .int v3)]) hx hb dPa_writeWithParts_6 hl (Nat.le_of_ble_eq_true rfl) rfl (fun ls hl => ?_)
  refine lv_aload_n hx hb dPa_writeWithParts_8 rfl (lv_at hl 2 rfl) ?_
  refine lv_iload_n hx hb dPa_writeWithParts_9 rfl (lv_at hl 3 rfl) ?_
  refine lv_iconst (v := 1) hx hb dPa_writeWithParts_10 (by decide) ?_
  obtain ⟨r6, σ5, h4, h⟩ := bn_some h
  refine q_cVi (rest := []) (As := [.int v2, .int (1 : Int32)]) cx hP hS hRk (c_Pr_part l g hg hi h4) Y_Pr_part V_Pr_part t_365 (by omega) (l_cP hi) (e_cP g hi _ _) rfl rfl hl.1 rfl (Nat.le_of_ble_eq_true rfl) dPa_writeWithParts_11 (fun H locs hP hS => ?_)
  refine lv_istore (lv' := [(5, .int r6), (4, .int r3), (0, .ref (ad g 7)), (1, .ref (ad g (cP i))), (2, .int v2), (3, .int v3)]) hx hb dPa_writeWithParts_14 hl (Nat.le_of_ble_eq_true rfl) rfl (fun ls hl => ?_)
  refine lv_aload_n hx hb dPa_writeWithParts_16 rfl (lv_at hl 3 rfl) ?_
  refine g_Pr_kinds cx hP hi  t_35 dPa_writeWithParts_17 ?_
  refine lv_iload_n hx hb dPa_writeWithParts_20 rfl (lv_at hl 4 rfl) ?_
  obtain ⟨b7, h⟩ := gd_some h
  refine q_iald cx hP (l_cPk hi) (e_cPk g hi) b7 dPa_writeWithParts_21 ?_
  rcases Decidable.em (σ5.1 (cPk i) v2.toNatClampNeg = (3 : Int32)) with hc3 | hc3
  · replace h := if_t h hc3
    refine lv_tableIn (tgt := 48) hx hb dPa_writeWithParts_22 (by rw [hc3]; decide) (by rw [hc3]; decide) (by rw [hc3]; rfl) (by decide) ?_
    refine lv_aload_n hx hb dPa_writeWithParts_48 rfl (lv_at hl 2 rfl) ?_
    refine lv_bipush (v := 40) hx hb dPa_writeWithParts_49 (by decide) ?_
    obtain ⟨rh8, σ9, h8, h⟩ := bn_some h
    refine q_cVv (rest := []) (As := [.int (40 : Int32)]) cx hP hS hRk (c_Pa_writeSign l g hg h8) Y_Pa_writeSign V_Pa_writeSign t_353 (by omega) (by decide) (e_7 g _ _) rfl rfl hl.1 rfl (Nat.le_of_ble_eq_true rfl) dPa_writeWithParts_51 (fun H locs hP hS => ?_)
    refine lv_aload_n hx hb dPa_writeWithParts_54 rfl (lv_at hl 2 rfl) ?_
    refine lv_aload_n hx hb dPa_writeWithParts_55 rfl (lv_at hl 3 rfl) ?_
    refine lv_iload hx hb dPa_writeWithParts_56 (lv_at hl 1 rfl) ?_
    refine lv_iload_n hx hb dPa_writeWithParts_58 rfl (lv_at hl 5 rfl) ?_
    refine lv_iconst (v := 1) hx hb dPa_writeWithParts_59 (by decide) ?_
    refine lv_iadd hx hb dPa_writeWithParts_60 ?_
    obtain ⟨rh10, σ11, h10, h⟩ := bn_some h
    refine q_cVv (rest := []) (As := [.ref (ad g (cP i)), .int r3, .int (v3 + (1 : Int32))]) cx hP hS hRk (hrc hi h10) Y_Pa_writeTerm V_Pa_writeTerm t_366 (by omega) (by decide) (e_7 g _ _) rfl rfl hl.1 rfl (Nat.le_of_ble_eq_true rfl) dPa_writeWithParts_61 (fun H locs hP hS => ?_)
    refine lv_aload_n hx hb dPa_writeWithParts_64 rfl (lv_at hl 2 rfl) ?_
    refine lv_bipush (v := 43) hx hb dPa_writeWithParts_65 (by decide) ?_
    obtain ⟨rh12, σ13, h12, h⟩ := bn_some h
    refine q_cVv (rest := []) (As := [.int (43 : Int32)]) cx hP hS hRk (c_Pa_writeSign l g hg h12) Y_Pa_writeSign V_Pa_writeSign t_353 (by omega) (by decide) (e_7 g _ _) rfl rfl hl.1 rfl (Nat.le_of_ble_eq_true rfl) dPa_writeWithParts_67 (fun H locs hP hS => ?_)
    refine lv_aload_n hx hb dPa_writeWithParts_70 rfl (lv_at hl 2 rfl) ?_
    refine lv_aload_n hx hb dPa_writeWithParts_71 rfl (lv_at hl 3 rfl) ?_
    refine lv_iload hx hb dPa_writeWithParts_72 (lv_at hl 0 rfl) ?_
    refine lv_iload_n hx hb dPa_writeWithParts_74 rfl (lv_at hl 5 rfl) ?_
    refine lv_iconst (v := 1) hx hb dPa_writeWithParts_75 (by decide) ?_
    refine lv_iadd hx hb dPa_writeWithParts_76 ?_
    obtain ⟨rh14, σ15, h14, h⟩ := bn_some h
    refine q_cVv (rest := []) (As := [.ref (ad g (cP i)), .int r6, .int (v3 + (1 : Int32))]) cx hP hS hRk (hrc hi h14) Y_Pa_writeTerm V_Pa_writeTerm t_366 (by omega) (by decide) (e_7 g _ _) rfl rfl hl.1 rfl (Nat.le_of_ble_eq_true rfl) dPa_writeWithParts_77 (fun H locs hP hS => ?_)
    refine lv_aload_n hx hb dPa_writeWithParts_80 rfl (lv_at hl 2 rfl) ?_
    refine lv_bipush (v := 41) hx hb dPa_writeWithParts_81 (by decide) ?_
    obtain ⟨rh16, σ17, h16, h⟩ := bn_some h
    refine q_cVv (rest := []) (As := [.int (41 : Int32)]) cx hP hS hRk (c_Pa_writeSign l g hg h16) Y_Pa_writeSign V_Pa_writeSign t_353 (by omega) (by decide) (e_7 g _ _) rfl rfl hl.1 rfl (Nat.le_of_ble_eq_true rfl) dPa_writeWithParts_83 (fun H locs hP hS => ?_)
    refine lv_goto (tgt := 215) hx hb dPa_writeWithParts_86 (by decide) ?_
    exact q_rv cx hr hP hS hQ h dPa_writeWithParts_215
  · replace h := if_f h hc3
    rcases Decidable.em (σ5.1 (cPk i) v2.toNatClampNeg = (4 : Int32)) with hc4 | hc4
    · replace h := if_t h hc4
      refine lv_tableIn (tgt := 89) hx hb dPa_writeWithParts_22 (by rw [hc4]; decide) (by rw [hc4]; decide) (by rw [hc4]; rfl) (by decide) ?_
      refine lv_aload_n hx hb dPa_writeWithParts_89 rfl (lv_at hl 2 rfl) ?_
      refine lv_aload_n hx hb dPa_writeWithParts_90 rfl (lv_at hl 3 rfl) ?_
      refine lv_iload hx hb dPa_writeWithParts_91 (lv_at hl 1 rfl) ?_
      refine lv_iload_n hx hb dPa_writeWithParts_93 rfl (lv_at hl 5 rfl) ?_
      refine lv_iconst (v := 1) hx hb dPa_writeWithParts_94 (by decide) ?_
      refine lv_iadd hx hb dPa_writeWithParts_95 ?_
      obtain ⟨rh18, σ19, h18, h⟩ := bn_some h
      refine q_cVv (rest := []) (As := [.ref (ad g (cP i)), .int r3, .int (v3 + (1 : Int32))]) cx hP hS hRk (hrc hi h18) Y_Pa_writeTerm V_Pa_writeTerm t_366 (by omega) (by decide) (e_7 g _ _) rfl rfl hl.1 rfl (Nat.le_of_ble_eq_true rfl) dPa_writeWithParts_96 (fun H locs hP hS => ?_)
      refine lv_aload_n hx hb dPa_writeWithParts_99 rfl (lv_at hl 2 rfl) ?_
      refine lv_bipush (v := 40) hx hb dPa_writeWithParts_100 (by decide) ?_
      obtain ⟨rh20, σ21, h20, h⟩ := bn_some h
      refine q_cVv (rest := []) (As := [.int (40 : Int32)]) cx hP hS hRk (c_Pa_writeSign l g hg h20) Y_Pa_writeSign V_Pa_writeSign t_353 (by omega) (by decide) (e_7 g _ _) rfl rfl hl.1 rfl (Nat.le_of_ble_eq_true rfl) dPa_writeWithParts_102 (fun H locs hP hS => ?_)
      refine lv_aload_n hx hb dPa_writeWithParts_105 rfl (lv_at hl 2 rfl) ?_
      refine lv_aload_n hx hb dPa_writeWithParts_106 rfl (lv_at hl 3 rfl) ?_
      refine lv_iload hx hb dPa_writeWithParts_107 (lv_at hl 0 rfl) ?_
      refine lv_iload_n hx hb dPa_writeWithParts_109 rfl (lv_at hl 5 rfl) ?_
      refine lv_iconst (v := 1) hx hb dPa_writeWithParts_110 (by decide) ?_
      refine lv_iadd hx hb dPa_writeWithParts_111 ?_
      obtain ⟨rh22, σ23, h22, h⟩ := bn_some h
      refine q_cVv (rest := []) (As := [.ref (ad g (cP i)), .int r6, .int (v3 + (1 : Int32))]) cx hP hS hRk (hrc hi h22) Y_Pa_writeTerm V_Pa_writeTerm t_366 (by omega) (by decide) (e_7 g _ _) rfl rfl hl.1 rfl (Nat.le_of_ble_eq_true rfl) dPa_writeWithParts_112 (fun H locs hP hS => ?_)
      refine lv_aload_n hx hb dPa_writeWithParts_115 rfl (lv_at hl 2 rfl) ?_
      refine lv_bipush (v := 41) hx hb dPa_writeWithParts_116 (by decide) ?_
      obtain ⟨rh24, σ25, h24, h⟩ := bn_some h
      refine q_cVv (rest := []) (As := [.int (41 : Int32)]) cx hP hS hRk (c_Pa_writeSign l g hg h24) Y_Pa_writeSign V_Pa_writeSign t_353 (by omega) (by decide) (e_7 g _ _) rfl rfl hl.1 rfl (Nat.le_of_ble_eq_true rfl) dPa_writeWithParts_118 (fun H locs hP hS => ?_)
      refine lv_goto (tgt := 215) hx hb dPa_writeWithParts_121 (by decide) ?_
      exact q_rv cx hr hP hS hQ h dPa_writeWithParts_215
    · replace h := if_f h hc4
      rcases Decidable.em (σ5.1 (cPk i) v2.toNatClampNeg = (5 : Int32)) with hc5 | hc5
      · replace h := if_t h hc5
        refine lv_tableIn (tgt := 124) hx hb dPa_writeWithParts_22 (by rw [hc5]; decide) (by rw [hc5]; decide) (by rw [hc5]; rfl) (by decide) ?_
        refine lv_aload_n hx hb dPa_writeWithParts_124 rfl (lv_at hl 2 rfl) ?_
        refine lv_bipush (v := 91) hx hb dPa_writeWithParts_125 (by decide) ?_
        obtain ⟨rh26, σ27, h26, h⟩ := bn_some h
        refine q_cVv (rest := []) (As := [.int (91 : Int32)]) cx hP hS hRk (c_Pa_writeSign l g hg h26) Y_Pa_writeSign V_Pa_writeSign t_353 (by omega) (by decide) (e_7 g _ _) rfl rfl hl.1 rfl (Nat.le_of_ble_eq_true rfl) dPa_writeWithParts_127 (fun H locs hP hS => ?_)
        refine lv_aload_n hx hb dPa_writeWithParts_130 rfl (lv_at hl 2 rfl) ?_
        refine lv_aload_n hx hb dPa_writeWithParts_131 rfl (lv_at hl 3 rfl) ?_
        refine g_Pr_figures cx hP hi  t_39 dPa_writeWithParts_132 ?_
        refine lv_iload_n hx hb dPa_writeWithParts_135 rfl (lv_at hl 4 rfl) ?_
        obtain ⟨b28, h⟩ := gd_some h
        refine q_iald cx hP (l_cPf hi) (e_cPf g hi) b28 dPa_writeWithParts_136 ?_
        obtain ⟨rh29, σ30, h29, h⟩ := bn_some h
        refine q_cVv (rest := []) (As := [.int (σ27.1 (cPf i) v2.toNatClampNeg)]) cx hP hS hRk (c_Pa_writeName l g hg h29) Y_Pa_writeName V_Pa_writeName t_357 (by omega) (by decide) (e_7 g _ _) rfl rfl hl.1 rfl (Nat.le_of_ble_eq_true rfl) dPa_writeWithParts_137 (fun H locs hP hS => ?_)
        refine lv_aload_n hx hb dPa_writeWithParts_140 rfl (lv_at hl 2 rfl) ?_
        refine lv_bipush (v := 58) hx hb dPa_writeWithParts_141 (by decide) ?_
        obtain ⟨rh31, σ32, h31, h⟩ := bn_some h
        refine q_cVv (rest := []) (As := [.int (58 : Int32)]) cx hP hS hRk (c_Pa_writeSign l g hg h31) Y_Pa_writeSign V_Pa_writeSign t_353 (by omega) (by decide) (e_7 g _ _) rfl rfl hl.1 rfl (Nat.le_of_ble_eq_true rfl) dPa_writeWithParts_143 (fun H locs hP hS => ?_)
        refine lv_aload_n hx hb dPa_writeWithParts_146 rfl (lv_at hl 2 rfl) ?_
        refine lv_aload_n hx hb dPa_writeWithParts_147 rfl (lv_at hl 3 rfl) ?_
        refine g_Pr_types cx hP hi  t_43 dPa_writeWithParts_148 ?_
        refine lv_iload_n hx hb dPa_writeWithParts_151 rfl (lv_at hl 4 rfl) ?_
        obtain ⟨b33, h⟩ := gd_some h
        refine q_lald cx hP (l_cPt hi) (e_cPt g hi) b33 dPa_writeWithParts_152 ?_
        refine lv_iconst (v := 0) hx hb dPa_writeWithParts_153 (by decide) ?_
        obtain ⟨rh34, σ35, h34, h⟩ := bn_some h
        refine q_cVv (rest := []) (As := [.long (σ32.2 (cPt i) v2.toNatClampNeg), .int (0 : Int32)]) cx hP hS hRk (C_Pa_writeType l g hg 28 h34) Y_Pa_writeType V_Pa_writeType t_367 (by omega) (by decide) (e_7 g _ _) rfl rfl hl.1 rfl (Nat.le_of_ble_eq_true rfl) dPa_writeWithParts_154 (fun H locs hP hS => ?_)
        refine lv_aload_n hx hb dPa_writeWithParts_157 rfl (lv_at hl 2 rfl) ?_
        refine lv_aload_n hx hb dPa_writeWithParts_158 rfl (lv_at hl 3 rfl) ?_
        refine lv_iload hx hb dPa_writeWithParts_159 (lv_at hl 1 rfl) ?_
        refine lv_iload_n hx hb dPa_writeWithParts_161 rfl (lv_at hl 5 rfl) ?_
        refine lv_iconst (v := 1) hx hb dPa_writeWithParts_162 (by decide) ?_
        refine lv_iadd hx hb dPa_writeWithParts_163 ?_
        obtain ⟨rh36, σ37, h36, h⟩ := bn_some h
        refine q_cVv (rest := []) (As := [.ref (ad g (cP i)), .int r3, .int (v3 + (1 : Int32))]) cx hP hS hRk (hrc hi h36) Y_Pa_writeTerm V_Pa_writeTerm t_366 (by omega) (by decide) (e_7 g _ _) rfl rfl hl.1 rfl (Nat.le_of_ble_eq_true rfl) dPa_writeWithParts_164 (fun H locs hP hS => ?_)
        refine lv_aload_n hx hb dPa_writeWithParts_167 rfl (lv_at hl 2 rfl) ?_
        refine lv_bipush (v := 93) hx hb dPa_writeWithParts_168 (by decide) ?_
        obtain ⟨rh38, σ39, h38, h⟩ := bn_some h
        refine q_cVv (rest := []) (As := [.int (93 : Int32)]) cx hP hS hRk (c_Pa_writeSign l g hg h38) Y_Pa_writeSign V_Pa_writeSign t_353 (by omega) (by decide) (e_7 g _ _) rfl rfl hl.1 rfl (Nat.le_of_ble_eq_true rfl) dPa_writeWithParts_170 (fun H locs hP hS => ?_)
        refine lv_goto (tgt := 215) hx hb dPa_writeWithParts_173 (by decide) ?_
        exact q_rv cx hr hP hS hQ h dPa_writeWithParts_215
      · replace h := if_f h hc5
        have hsw : (σ5.1 (cPk i) v2.toNatClampNeg).toInt < 3 ∨ 5 < (σ5.1 (cPk i) v2.toNatClampNeg).toInt := by
          have n3 := lv_neT (k := 3) (a := 3) hc3 rfl
          have n4 := lv_neT (k := 4) (a := 4) hc4 rfl
          have n5 := lv_neT (k := 5) (a := 5) hc5 rfl
          omega
        refine lv_tableOut (tgt := 176) hx hb dPa_writeWithParts_22 hsw (by decide) ?_
        refine lv_aload_n hx hb dPa_writeWithParts_176 rfl (lv_at hl 2 rfl) ?_
        refine lv_bipush (v := 123) hx hb dPa_writeWithParts_177 (by decide) ?_
        obtain ⟨rh40, σ41, h40, h⟩ := bn_some h
        refine q_cVv (rest := []) (As := [.int (123 : Int32)]) cx hP hS hRk (c_Pa_writeSign l g hg h40) Y_Pa_writeSign V_Pa_writeSign t_353 (by omega) (by decide) (e_7 g _ _) rfl rfl hl.1 rfl (Nat.le_of_ble_eq_true rfl) dPa_writeWithParts_179 (fun H locs hP hS => ?_)
        refine lv_aload_n hx hb dPa_writeWithParts_182 rfl (lv_at hl 2 rfl) ?_
        refine lv_aload_n hx hb dPa_writeWithParts_183 rfl (lv_at hl 3 rfl) ?_
        refine lv_iload hx hb dPa_writeWithParts_184 (lv_at hl 1 rfl) ?_
        refine lv_iload_n hx hb dPa_writeWithParts_186 rfl (lv_at hl 5 rfl) ?_
        refine lv_iconst (v := 1) hx hb dPa_writeWithParts_187 (by decide) ?_
        refine lv_iadd hx hb dPa_writeWithParts_188 ?_
        obtain ⟨rh42, σ43, h42, h⟩ := bn_some h
        refine q_cVv (rest := []) (As := [.ref (ad g (cP i)), .int r3, .int (v3 + (1 : Int32))]) cx hP hS hRk (hrc hi h42) Y_Pa_writeTerm V_Pa_writeTerm t_366 (by omega) (by decide) (e_7 g _ _) rfl rfl hl.1 rfl (Nat.le_of_ble_eq_true rfl) dPa_writeWithParts_189 (fun H locs hP hS => ?_)
        refine lv_aload_n hx hb dPa_writeWithParts_192 rfl (lv_at hl 2 rfl) ?_
        refine lv_bipush (v := 58) hx hb dPa_writeWithParts_193 (by decide) ?_
        obtain ⟨rh44, σ45, h44, h⟩ := bn_some h
        refine q_cVv (rest := []) (As := [.int (58 : Int32)]) cx hP hS hRk (c_Pa_writeSign l g hg h44) Y_Pa_writeSign V_Pa_writeSign t_353 (by omega) (by decide) (e_7 g _ _) rfl rfl hl.1 rfl (Nat.le_of_ble_eq_true rfl) dPa_writeWithParts_195 (fun H locs hP hS => ?_)
        refine lv_aload_n hx hb dPa_writeWithParts_198 rfl (lv_at hl 2 rfl) ?_
        refine lv_aload_n hx hb dPa_writeWithParts_199 rfl (lv_at hl 3 rfl) ?_
        refine g_Pr_types cx hP hi  t_43 dPa_writeWithParts_200 ?_
        refine lv_iload_n hx hb dPa_writeWithParts_203 rfl (lv_at hl 4 rfl) ?_
        obtain ⟨b46, h⟩ := gd_some h
        refine q_lald cx hP (l_cPt hi) (e_cPt g hi) b46 dPa_writeWithParts_204 ?_
        refine lv_iconst (v := 0) hx hb dPa_writeWithParts_205 (by decide) ?_
        obtain ⟨rh47, σ48, h47, h⟩ := bn_some h
        refine q_cVv (rest := []) (As := [.long (σ45.2 (cPt i) v2.toNatClampNeg), .int (0 : Int32)]) cx hP hS hRk (C_Pa_writeType l g hg 28 h47) Y_Pa_writeType V_Pa_writeType t_367 (by omega) (by decide) (e_7 g _ _) rfl rfl hl.1 rfl (Nat.le_of_ble_eq_true rfl) dPa_writeWithParts_206 (fun H locs hP hS => ?_)
        refine lv_aload_n hx hb dPa_writeWithParts_209 rfl (lv_at hl 2 rfl) ?_
        refine lv_bipush (v := 125) hx hb dPa_writeWithParts_210 (by decide) ?_
        obtain ⟨rh49, σ50, h49, h⟩ := bn_some h
        refine q_cVv (rest := []) (As := [.int (125 : Int32)]) cx hP hS hRk (c_Pa_writeSign l g hg h49) Y_Pa_writeSign V_Pa_writeSign t_353 (by omega) (by decide) (e_7 g _ _) rfl rfl hl.1 rfl (Nat.le_of_ble_eq_true rfl) dPa_writeWithParts_212 (fun H locs hP hS => ?_)
        exact q_rv cx hr hP hS hQ h dPa_writeWithParts_215
theorem dPa_writeTerm_0 : decode cPa_writeTerm 0 = .ok (.iload_n 2, 1) := by decide +kernel
theorem dPa_writeTerm_1 : decode cPa_writeTerm 1 = .ok (.ifCond .lt 9, 3) := by decide +kernel
theorem dPa_writeTerm_4 : decode cPa_writeTerm 4 = .ok (.iload_n 3, 1) := by decide +kernel
theorem dPa_writeTerm_5 : decode cPa_writeTerm 5 = .ok (.bipush 12, 2) := by decide +kernel
theorem dPa_writeTerm_7 : decode cPa_writeTerm 7 = .ok (.if_icmp .lt 4, 3) := by decide +kernel
theorem dPa_writeTerm_10 : decode cPa_writeTerm 10 = .ok (.return_, 1) := by decide +kernel
theorem dPa_writeTerm_11 : decode cPa_writeTerm 11 = .ok (.aload_n 0, 1) := by decide +kernel
theorem dPa_writeTerm_12 : decode cPa_writeTerm 12 = .ok (.getfield 15, 3) := by decide +kernel
theorem dPa_writeTerm_15 : decode cPa_writeTerm 15 = .ok (.iload_n 2, 1) := by decide +kernel
theorem dPa_writeTerm_16 : decode cPa_writeTerm 16 = .ok (.aload_n 0, 1) := by decide +kernel
theorem dPa_writeTerm_17 : decode cPa_writeTerm 17 = .ok (.getfield 22, 3) := by decide +kernel
theorem dPa_writeTerm_20 : decode cPa_writeTerm 20 = .ok (.iastore, 1) := by decide +kernel
theorem dPa_writeTerm_21 : decode cPa_writeTerm 21 = .ok (.aload_n 1, 1) := by decide +kernel
theorem dPa_writeTerm_22 : decode cPa_writeTerm 22 = .ok (.getfield 40, 3) := by decide +kernel
theorem dPa_writeTerm_25 : decode cPa_writeTerm 25 = .ok (.iload_n 2, 1) := by decide +kernel
theorem dPa_writeTerm_26 : decode cPa_writeTerm 26 = .ok (.iaload, 1) := by decide +kernel
theorem dPa_writeTerm_27 : decode cPa_writeTerm 27 = .ok (.iconst 1, 1) := by decide +kernel
theorem dPa_writeTerm_28 : decode cPa_writeTerm 28 = .ok (.if_icmp .ne 16, 3) := by decide +kernel
theorem dPa_writeTerm_31 : decode cPa_writeTerm 31 = .ok (.aload_n 0, 1) := by decide +kernel
theorem dPa_writeTerm_32 : decode cPa_writeTerm 32 = .ok (.aload_n 1, 1) := by decide +kernel
theorem dPa_writeTerm_33 : decode cPa_writeTerm 33 = .ok (.getfield 46, 3) := by decide +kernel
theorem dPa_writeTerm_36 : decode cPa_writeTerm 36 = .ok (.iload_n 2, 1) := by decide +kernel
theorem dPa_writeTerm_37 : decode cPa_writeTerm 37 = .ok (.iaload, 1) := by decide +kernel
theorem dPa_writeTerm_38 : decode cPa_writeTerm 38 = .ok (.invokevirtual 49, 3) := by decide +kernel
theorem dPa_writeTerm_41 : decode cPa_writeTerm 41 = .ok (.goto 51, 3) := by decide +kernel
theorem dPa_writeTerm_44 : decode cPa_writeTerm 44 = .ok (.aload_n 1, 1) := by decide +kernel
theorem dPa_writeTerm_45 : decode cPa_writeTerm 45 = .ok (.getfield 40, 3) := by decide +kernel
theorem dPa_writeTerm_48 : decode cPa_writeTerm 48 = .ok (.iload_n 2, 1) := by decide +kernel
theorem dPa_writeTerm_49 : decode cPa_writeTerm 49 = .ok (.iaload, 1) := by decide +kernel
theorem dPa_writeTerm_50 : decode cPa_writeTerm 50 = .ok (.iconst 2, 1) := by decide +kernel
theorem dPa_writeTerm_51 : decode cPa_writeTerm 51 = .ok (.if_icmp .ne 16, 3) := by decide +kernel
theorem dPa_writeTerm_54 : decode cPa_writeTerm 54 = .ok (.aload_n 0, 1) := by decide +kernel
theorem dPa_writeTerm_55 : decode cPa_writeTerm 55 = .ok (.aload_n 1, 1) := by decide +kernel
theorem dPa_writeTerm_56 : decode cPa_writeTerm 56 = .ok (.getfield 46, 3) := by decide +kernel
theorem dPa_writeTerm_59 : decode cPa_writeTerm 59 = .ok (.iload_n 2, 1) := by decide +kernel
theorem dPa_writeTerm_60 : decode cPa_writeTerm 60 = .ok (.iaload, 1) := by decide +kernel
theorem dPa_writeTerm_61 : decode cPa_writeTerm 61 = .ok (.invokevirtual 53, 3) := by decide +kernel
theorem dPa_writeTerm_64 : decode cPa_writeTerm 64 = .ok (.goto 28, 3) := by decide +kernel
theorem dPa_writeTerm_67 : decode cPa_writeTerm 67 = .ok (.aload_n 1, 1) := by decide +kernel
theorem dPa_writeTerm_68 : decode cPa_writeTerm 68 = .ok (.getfield 40, 3) := by decide +kernel
theorem dPa_writeTerm_71 : decode cPa_writeTerm 71 = .ok (.iload_n 2, 1) := by decide +kernel
theorem dPa_writeTerm_72 : decode cPa_writeTerm 72 = .ok (.iaload, 1) := by decide +kernel
theorem dPa_writeTerm_73 : decode cPa_writeTerm 73 = .ok (.ifCond .ne 12, 3) := by decide +kernel
theorem dPa_writeTerm_76 : decode cPa_writeTerm 76 = .ok (.aload_n 0, 1) := by decide +kernel
theorem dPa_writeTerm_77 : decode cPa_writeTerm 77 = .ok (.bipush 63, 2) := by decide +kernel
theorem dPa_writeTerm_79 : decode cPa_writeTerm 79 = .ok (.invokevirtual 56, 3) := by decide +kernel
theorem dPa_writeTerm_82 : decode cPa_writeTerm 82 = .ok (.goto 10, 3) := by decide +kernel
theorem dPa_writeTerm_85 : decode cPa_writeTerm 85 = .ok (.aload_n 0, 1) := by decide +kernel
theorem dPa_writeTerm_86 : decode cPa_writeTerm 86 = .ok (.aload_n 1, 1) := by decide +kernel
theorem dPa_writeTerm_87 : decode cPa_writeTerm 87 = .ok (.iload_n 2, 1) := by decide +kernel
theorem dPa_writeTerm_88 : decode cPa_writeTerm 88 = .ok (.iload_n 3, 1) := by decide +kernel
theorem dPa_writeTerm_89 : decode cPa_writeTerm 89 = .ok (.invokevirtual 59, 3) := by decide +kernel
theorem dPa_writeTerm_92 : decode cPa_writeTerm 92 = .ok (.aload_n 0, 1) := by decide +kernel
theorem dPa_writeTerm_93 : decode cPa_writeTerm 93 = .ok (.getfield 19, 3) := by decide +kernel
theorem dPa_writeTerm_96 : decode cPa_writeTerm 96 = .ok (.iload_n 2, 1) := by decide +kernel
theorem dPa_writeTerm_97 : decode cPa_writeTerm 97 = .ok (.aload_n 0, 1) := by decide +kernel
theorem dPa_writeTerm_98 : decode cPa_writeTerm 98 = .ok (.getfield 22, 3) := by decide +kernel
theorem dPa_writeTerm_101 : decode cPa_writeTerm 101 = .ok (.iastore, 1) := by decide +kernel
theorem dPa_writeTerm_102 : decode cPa_writeTerm 102 = .ok (.return_, 1) := by decide +kernel
def f_Pa_writeTerm_J92 (rc : Nat → Int32 → Int32 → Mem → Option (Unit × Mem)) (i : Nat) (v2 : Int32) (v3 : Int32) (σ : Mem) : Option (Unit × Mem) :=
  gd (inb v2 40) (lt_ (sI σ 10 v2.toNatClampNeg (σ.1 7 3)) fun (σ2 : Mem) =>
  some ((), σ2))
def f_Pa_writeTerm (rc : Nat → Int32 → Int32 → Mem → Option (Unit × Mem)) (i : Nat) (v2 : Int32) (v3 : Int32) (σ : Mem) : Option (Unit × Mem) :=
  if v2 < 0 then (
  some ((), σ))
  else (
  if v3 < (12 : Int32) then (
  gd (inb v2 40) (lt_ (sI σ 9 v2.toNatClampNeg (σ.1 7 3)) fun (σ4 : Mem) =>
  gd (inb v2 40) (
  if (σ4.1 (cPk i) v2.toNatClampNeg) = (1 : Int32) then (
  gd (inb v2 40) (
  bn (f_Pa_writeNumber (σ4.1 (cPf i) v2.toNatClampNeg) σ4) fun (_ : Unit) (σ17 : Mem) =>
  f_Pa_writeTerm_J92 rc i v2 v3 σ17))
  else (
  gd (inb v2 40) (
  if (σ4.1 (cPk i) v2.toNatClampNeg) = (2 : Int32) then (
  gd (inb v2 40) (
  bn (f_Pa_writeName (σ4.1 (cPf i) v2.toNatClampNeg) σ4) fun (_ : Unit) (σ14 : Mem) =>
  f_Pa_writeTerm_J92 rc i v2 v3 σ14))
  else (
  gd (inb v2 40) (
  if (σ4.1 (cPk i) v2.toNatClampNeg) = 0 then (
  bn (f_Pa_writeSign (63 : Int32) σ4) fun (_ : Unit) (σ11 : Mem) =>
  f_Pa_writeTerm_J92 rc i v2 v3 σ11)
  else (
  bn (f_Pa_writeWithParts rc i v2 v3 σ4) fun (_ : Unit) (σ9 : Mem) =>
  f_Pa_writeTerm_J92 rc i v2 v3 σ9))))))))
  else (
  some ((), σ)))
set_option maxHeartbeats 4000000 in
set_option maxRecDepth 100000 in
theorem c_Pa_writeTerm (l : Launch) (g : Gw) (hg : wInj g) {rc : Nat → Int32 → Int32 → Mem → Option (Unit × Mem)} {d0 : Nat} (hd0 : 31 ≤ d0) (hrc : ∀ {i : Nat} (hi : i < 17) {v2 : Int32} {v3 : Int32} {σ σ0 : Mem}, rc i v2 v3 σ = some ((), σ0) → KV l yPa_writeTerm cPa_writeTerm 4 none d0 g [.ref (ad g 7), .ref (ad g (cP i)), .int v2, .int v3] σ σ0) {i : Nat} (hi : i < 17) {v2 : Int32} {v3 : Int32} {σ σ0 : Mem} (h : f_Pa_writeTerm rc i v2 v3 σ = some ((), σ0)) : KV l yPa_writeTerm cPa_writeTerm 4 none (d0 + 2) g [.ref (ad g 7), .ref (ad g (cP i)), .int v2, .int v3] σ σ0 := by
  refine q_met g hg (own := "TermBench$Page") rfl rfl (Nat.le_of_ble_eq_true rfl) (fun p e s m args below meth c R Q cx hRk hr hQ H locs ls hP hS hl => ?_)
  have hx := cx.1
  have hb := cx.2.1
  have hown := cx.2.2.2.1
  have hts := cx.2.2.2.2.1
  have hl : lv_has ls 4 [(0, .ref (ad g 7)), (1, .ref (ad g (cP i))), (2, .int v2), (3, .int v3)] := hl
  have J92 : ∀ (v2 : Int32) (v3 : Int32) (σ : Mem), f_Pa_writeTerm_J92 rc i v2 v3 σ = some ((), σ0) → ∀ (H : Heap) (locs : List Loc) (ls : Array Slot), lv_has ls 4 [(0, .ref (ad g 7)), (1, .ref (ad g (cP i))), (2, .int v2), (3, .int v3)] → Wd g σ H → va_S (wA g) s.heap H locs → W p l e R s m args below meth c H locs 0 0 Q (F0 m 92 ls []) := by
    intro v2 v3 σ h H locs ls hl hP hS
    unfold f_Pa_writeTerm_J92 at h
    refine lv_aload_n hx hb dPa_writeTerm_92 rfl (lv_at hl 0 rfl) ?_
    refine g_Pa_ends cx hP  t_115 dPa_writeTerm_93 ?_
    refine lv_iload_n hx hb dPa_writeTerm_96 rfl (lv_at hl 2 rfl) ?_
    refine lv_aload_n hx hb dPa_writeTerm_97 rfl (lv_at hl 0 rfl) ?_
    refine g_Pa_length cx hP  t_116 dPa_writeTerm_98 ?_
    obtain ⟨b1, h⟩ := gd_some h
    obtain ⟨σ2, eσ2, h⟩ := lt_some h
    refine q_iast cx hP hS (by decide) (e_10 g) b1 dPa_writeTerm_101 eσ2 (fun H locs hP hS => ?_)
    exact q_rv cx hr hP hS hQ h dPa_writeTerm_102
  unfold f_Pa_writeTerm at h
  refine lv_iload_n hx hb dPa_writeTerm_0 rfl (lv_at hl 2 rfl) ?_
  refine lv_if_lt (tgt := 10) hx hb dPa_writeTerm_1 (by decide) (fun hc => ?_) (fun hc => ?_)
  · replace h := if_t h hc
    exact q_rv cx hr hP hS hQ h dPa_writeTerm_10
  · replace h := if_f h hc
    refine lv_iload_n hx hb dPa_writeTerm_4 rfl (lv_at hl 3 rfl) ?_
    refine lv_bipush (v := 12) hx hb dPa_writeTerm_5 (by decide) ?_
    refine lv_icmp_lt (tgt := 11) hx hb dPa_writeTerm_7 (by decide) (fun hc => ?_) (fun hc => ?_)
    · replace h := if_t h hc
      refine lv_aload_n hx hb dPa_writeTerm_11 rfl (lv_at hl 0 rfl) ?_
      refine g_Pa_begins cx hP  t_113 dPa_writeTerm_12 ?_
      refine lv_iload_n hx hb dPa_writeTerm_15 rfl (lv_at hl 2 rfl) ?_
      refine lv_aload_n hx hb dPa_writeTerm_16 rfl (lv_at hl 0 rfl) ?_
      refine g_Pa_length cx hP  t_116 dPa_writeTerm_17 ?_
      obtain ⟨b3, h⟩ := gd_some h
      obtain ⟨σ4, eσ4, h⟩ := lt_some h
      refine q_iast cx hP hS (by decide) (e_9 g) b3 dPa_writeTerm_20 eσ4 (fun H locs hP hS => ?_)
      refine lv_aload_n hx hb dPa_writeTerm_21 rfl (lv_at hl 1 rfl) ?_
      refine g_Pr_kinds cx hP hi  t_35 dPa_writeTerm_22 ?_
      refine lv_iload_n hx hb dPa_writeTerm_25 rfl (lv_at hl 2 rfl) ?_
      obtain ⟨b5, h⟩ := gd_some h
      refine q_iald cx hP (l_cPk hi) (e_cPk g hi) b5 dPa_writeTerm_26 ?_
      refine lv_iconst (v := 1) hx hb dPa_writeTerm_27 (by decide) ?_
      refine lv_icmp_ne (tgt := 44) hx hb dPa_writeTerm_28 (by decide) (fun hc => ?_) (fun hc => ?_)
      · replace h := if_f h hc
        refine lv_aload_n hx hb dPa_writeTerm_44 rfl (lv_at hl 1 rfl) ?_
        refine g_Pr_kinds cx hP hi  t_35 dPa_writeTerm_45 ?_
        refine lv_iload_n hx hb dPa_writeTerm_48 rfl (lv_at hl 2 rfl) ?_
        obtain ⟨b6, h⟩ := gd_some h
        refine q_iald cx hP (l_cPk hi) (e_cPk g hi) b6 dPa_writeTerm_49 ?_
        refine lv_iconst (v := 2) hx hb dPa_writeTerm_50 (by decide) ?_
        refine lv_icmp_ne (tgt := 67) hx hb dPa_writeTerm_51 (by decide) (fun hc => ?_) (fun hc => ?_)
        · replace h := if_f h hc
          refine lv_aload_n hx hb dPa_writeTerm_67 rfl (lv_at hl 1 rfl) ?_
          refine g_Pr_kinds cx hP hi  t_35 dPa_writeTerm_68 ?_
          refine lv_iload_n hx hb dPa_writeTerm_71 rfl (lv_at hl 2 rfl) ?_
          obtain ⟨b7, h⟩ := gd_some h
          refine q_iald cx hP (l_cPk hi) (e_cPk g hi) b7 dPa_writeTerm_72 ?_
          refine lv_if_ne (tgt := 85) hx hb dPa_writeTerm_73 (by decide) (fun hc => ?_) (fun hc => ?_)
          · replace h := if_f h hc
            refine lv_aload_n hx hb dPa_writeTerm_85 rfl (lv_at hl 0 rfl) ?_
            refine lv_aload_n hx hb dPa_writeTerm_86 rfl (lv_at hl 1 rfl) ?_
            refine lv_iload_n hx hb dPa_writeTerm_87 rfl (lv_at hl 2 rfl) ?_
            refine lv_iload_n hx hb dPa_writeTerm_88 rfl (lv_at hl 3 rfl) ?_
            obtain ⟨rh8, σ9, h8, h⟩ := bn_some h
            refine q_cVv (rest := []) (As := [.ref (ad g (cP i)), .int v2, .int v3]) cx hP hS hRk (c_Pa_writeWithParts l g hg hd0 hrc hi h8) Y_Pa_writeWithParts V_Pa_writeWithParts t_361 (by omega) (by decide) (e_7 g _ _) rfl rfl hl.1 rfl (Nat.le_of_ble_eq_true rfl) dPa_writeTerm_89 (fun H locs hP hS => ?_)
            exact J92 _ _ _ h _ _ _ (lv_sub hl [0, 1, 2, 3] rfl) hP hS
          · replace h := if_t h hc
            refine lv_aload_n hx hb dPa_writeTerm_76 rfl (lv_at hl 0 rfl) ?_
            refine lv_bipush (v := 63) hx hb dPa_writeTerm_77 (by decide) ?_
            obtain ⟨rh10, σ11, h10, h⟩ := bn_some h
            refine q_cVv (rest := []) (As := [.int (63 : Int32)]) cx hP hS hRk (c_Pa_writeSign l g hg h10) Y_Pa_writeSign V_Pa_writeSign t_353 (by omega) (by decide) (e_7 g _ _) rfl rfl hl.1 rfl (Nat.le_of_ble_eq_true rfl) dPa_writeTerm_79 (fun H locs hP hS => ?_)
            refine lv_goto (tgt := 92) hx hb dPa_writeTerm_82 (by decide) ?_
            exact J92 _ _ _ h _ _ _ (lv_sub hl [0, 1, 2, 3] rfl) hP hS
        · replace h := if_t h hc
          refine lv_aload_n hx hb dPa_writeTerm_54 rfl (lv_at hl 0 rfl) ?_
          refine lv_aload_n hx hb dPa_writeTerm_55 rfl (lv_at hl 1 rfl) ?_
          refine g_Pr_figures cx hP hi  t_39 dPa_writeTerm_56 ?_
          refine lv_iload_n hx hb dPa_writeTerm_59 rfl (lv_at hl 2 rfl) ?_
          obtain ⟨b12, h⟩ := gd_some h
          refine q_iald cx hP (l_cPf hi) (e_cPf g hi) b12 dPa_writeTerm_60 ?_
          obtain ⟨rh13, σ14, h13, h⟩ := bn_some h
          refine q_cVv (rest := []) (As := [.int (σ4.1 (cPf i) v2.toNatClampNeg)]) cx hP hS hRk (c_Pa_writeName l g hg h13) Y_Pa_writeName V_Pa_writeName t_357 (by omega) (by decide) (e_7 g _ _) rfl rfl hl.1 rfl (Nat.le_of_ble_eq_true rfl) dPa_writeTerm_61 (fun H locs hP hS => ?_)
          refine lv_goto (tgt := 92) hx hb dPa_writeTerm_64 (by decide) ?_
          exact J92 _ _ _ h _ _ _ (lv_sub hl [0, 1, 2, 3] rfl) hP hS
      · replace h := if_t h hc
        refine lv_aload_n hx hb dPa_writeTerm_31 rfl (lv_at hl 0 rfl) ?_
        refine lv_aload_n hx hb dPa_writeTerm_32 rfl (lv_at hl 1 rfl) ?_
        refine g_Pr_figures cx hP hi  t_39 dPa_writeTerm_33 ?_
        refine lv_iload_n hx hb dPa_writeTerm_36 rfl (lv_at hl 2 rfl) ?_
        obtain ⟨b15, h⟩ := gd_some h
        refine q_iald cx hP (l_cPf hi) (e_cPf g hi) b15 dPa_writeTerm_37 ?_
        obtain ⟨rh16, σ17, h16, h⟩ := bn_some h
        refine q_cVv (rest := []) (As := [.int (σ4.1 (cPf i) v2.toNatClampNeg)]) cx hP hS hRk (c_Pa_writeNumber l g hg h16) Y_Pa_writeNumber V_Pa_writeNumber t_346 (by omega) (by decide) (e_7 g _ _) rfl rfl hl.1 rfl (Nat.le_of_ble_eq_true rfl) dPa_writeTerm_38 (fun H locs hP hS => ?_)
        refine lv_goto (tgt := 92) hx hb dPa_writeTerm_41 (by decide) ?_
        exact J92 _ _ _ h _ _ _ (lv_sub hl [0, 1, 2, 3] rfl) hP hS
    · replace h := if_f h hc
      exact q_rv cx hr hP hS hQ h dPa_writeTerm_10
def F_Pa_writeTerm : Nat → Nat → Int32 → Int32 → Mem → Option (Unit × Mem)
  | 0 => fun _ _ _ _ => none
  | n + 1 => fun a0 a1 a2 a3 => f_Pa_writeTerm (F_Pa_writeTerm n) a0 a1 a2 a3
theorem C_Pa_writeTerm (l : Launch) (g : Gw) (hg : wInj g) : ∀ (n : Nat) {i : Nat} (hi : i < 17) {v2 : Int32} {v3 : Int32} {σ σ0 : Mem}, F_Pa_writeTerm n i v2 v3 σ = some ((), σ0) → KV l yPa_writeTerm cPa_writeTerm 4 none (31 + 2 * n) g [.ref (ad g 7), .ref (ad g (cP i)), .int v2, .int v3] σ σ0 := by
  intro n
  induction n with
  | zero => intros; rename_i h; simp [F_Pa_writeTerm] at h
  | succ n ih =>
    intros
    rename_i h
    exact c_Pa_writeTerm l g hg (d0 := 31 + 2 * n) (Nat.le_add_right _ _) ih (by assumption) h
theorem dPa_nextHole_0 : decode cPa_nextHole 0 = .ok (.iconst (-1), 1) := by decide +kernel
theorem dPa_nextHole_1 : decode cPa_nextHole 1 = .ok (.istore_n 2, 1) := by decide +kernel
theorem dPa_nextHole_2 : decode cPa_nextHole 2 = .ok (.iconst 0, 1) := by decide +kernel
theorem dPa_nextHole_3 : decode cPa_nextHole 3 = .ok (.istore_n 3, 1) := by decide +kernel
theorem dPa_nextHole_4 : decode cPa_nextHole 4 = .ok (.iload_n 3, 1) := by decide +kernel
theorem dPa_nextHole_5 : decode cPa_nextHole 5 = .ok (.aload_n 1, 1) := by decide +kernel
theorem dPa_nextHole_6 : decode cPa_nextHole 6 = .ok (.getfield 35, 3) := by decide +kernel
theorem dPa_nextHole_9 : decode cPa_nextHole 9 = .ok (.if_icmp .ge 48, 3) := by decide +kernel
theorem dPa_nextHole_12 : decode cPa_nextHole 12 = .ok (.aload_n 1, 1) := by decide +kernel
theorem dPa_nextHole_13 : decode cPa_nextHole 13 = .ok (.getfield 40, 3) := by decide +kernel
theorem dPa_nextHole_16 : decode cPa_nextHole 16 = .ok (.iload_n 3, 1) := by decide +kernel
theorem dPa_nextHole_17 : decode cPa_nextHole 17 = .ok (.iaload, 1) := by decide +kernel
theorem dPa_nextHole_18 : decode cPa_nextHole 18 = .ok (.ifCond .ne 33, 3) := by decide +kernel
theorem dPa_nextHole_21 : decode cPa_nextHole 21 = .ok (.aload_n 0, 1) := by decide +kernel
theorem dPa_nextHole_22 : decode cPa_nextHole 22 = .ok (.getfield 15, 3) := by decide +kernel
theorem dPa_nextHole_25 : decode cPa_nextHole 25 = .ok (.iload_n 3, 1) := by decide +kernel
theorem dPa_nextHole_26 : decode cPa_nextHole 26 = .ok (.iaload, 1) := by decide +kernel
theorem dPa_nextHole_27 : decode cPa_nextHole 27 = .ok (.aload_n 0, 1) := by decide +kernel
theorem dPa_nextHole_28 : decode cPa_nextHole 28 = .ok (.getfield 15, 3) := by decide +kernel
theorem dPa_nextHole_31 : decode cPa_nextHole 31 = .ok (.aload_n 1, 1) := by decide +kernel
theorem dPa_nextHole_32 : decode cPa_nextHole 32 = .ok (.getfield 43, 3) := by decide +kernel
theorem dPa_nextHole_35 : decode cPa_nextHole 35 = .ok (.iaload, 1) := by decide +kernel
theorem dPa_nextHole_36 : decode cPa_nextHole 36 = .ok (.if_icmp .le 5, 3) := by decide +kernel
theorem dPa_nextHole_39 : decode cPa_nextHole 39 = .ok (.iload_n 3, 1) := by decide +kernel
theorem dPa_nextHole_40 : decode cPa_nextHole 40 = .ok (.ireturn, 1) := by decide +kernel
theorem dPa_nextHole_41 : decode cPa_nextHole 41 = .ok (.iload_n 2, 1) := by decide +kernel
theorem dPa_nextHole_42 : decode cPa_nextHole 42 = .ok (.ifCond .ge 7, 3) := by decide +kernel
theorem dPa_nextHole_45 : decode cPa_nextHole 45 = .ok (.iload_n 3, 1) := by decide +kernel
theorem dPa_nextHole_46 : decode cPa_nextHole 46 = .ok (.goto 4, 3) := by decide +kernel
theorem dPa_nextHole_49 : decode cPa_nextHole 49 = .ok (.iload_n 2, 1) := by decide +kernel
theorem dPa_nextHole_50 : decode cPa_nextHole 50 = .ok (.istore_n 2, 1) := by decide +kernel
theorem dPa_nextHole_51 : decode cPa_nextHole 51 = .ok (.iinc 3 1, 3) := by decide +kernel
theorem dPa_nextHole_54 : decode cPa_nextHole 54 = .ok (.goto (-50), 3) := by decide +kernel
theorem dPa_nextHole_57 : decode cPa_nextHole 57 = .ok (.iload_n 2, 1) := by decide +kernel
theorem dPa_nextHole_58 : decode cPa_nextHole 58 = .ok (.ireturn, 1) := by decide +kernel
def f_Pa_nextHole_J51 (i : Nat) (v2 : Int32) (v3 : Int32) (σ : Mem) : Option ((Int32 × Int32 × Mem) ⊕ (Int32 × Mem)) :=
  lt_ (v3 + 1) fun (x1 : Int32) =>
  some (.inl (v2, x1, σ))
def f_Pa_nextHole_J50 (i : Nat) (v2 : Int32) (v3 : Int32) (u0 : Int32) (σ : Mem) : Option ((Int32 × Int32 × Mem) ⊕ (Int32 × Mem)) :=
  f_Pa_nextHole_J51 i u0 v3 σ
def f_Pa_nextHole_L4 (i : Nat)  (v2 : Int32) (v3 : Int32) (σ : Mem) : Option ((Int32 × Int32 × Mem) ⊕ (Int32 × Mem)) :=
  if (σ.1 (cP i) 4) ≤ v3 then (
  inrM (some (v2, σ)))
  else (
  gd (inb v3 40) (
  if (σ.1 (cPk i) v3.toNatClampNeg) = 0 then (
  gd (inb v3 40) (
  gd (inb (σ.1 (cP i) 5) 40) (
  if (σ.1 9 v3.toNatClampNeg) ≤ (σ.1 9 (σ.1 (cP i) 5).toNatClampNeg) then (
  if 0 ≤ v2 then (
  f_Pa_nextHole_J50 i v2 v3 v2 σ)
  else (
  f_Pa_nextHole_J50 i v2 v3 v3 σ))
  else (
  inrM (some (v3, σ))))))
  else (
  f_Pa_nextHole_J51 i v2 v3 σ)))
def f_Pa_nextHole (i : Nat)  (σ : Mem) : Option (Int32 × Mem) :=
  lt_ ((-1) : Int32) fun (x7 : Int32) =>
  lt_ (0 : Int32) fun (x8 : Int32) =>
  loopF (fun (q : (Int32 × Int32 × Mem)) => f_Pa_nextHole_L4 i q.1 q.2.1 q.2.2) FU (x7, x8, σ)
set_option maxHeartbeats 4000000 in
set_option maxRecDepth 100000 in
theorem c_Pa_nextHole (l : Launch) (g : Gw) (hg : wInj g) {i : Nat} (hi : i < 17) {r0 : Int32} {σ σ0 : Mem} (h : f_Pa_nextHole i σ = some (r0, σ0)) : KI l yPa_nextHole cPa_nextHole 4 (some .int) 0 g [.ref (ad g 7), .ref (ad g (cP i))] σ r0 σ0 := by
  refine q_met g hg (own := "TermBench$Page") rfl rfl (Nat.le_of_ble_eq_true rfl) (fun p e s m args below meth c R Q cx hRk hr hQ H locs ls hP hS hl => ?_)
  have hx := cx.1
  have hb := cx.2.1
  have hown := cx.2.2.2.1
  have hts := cx.2.2.2.2.1
  have hl : lv_has ls 4 [(0, .ref (ad g 7)), (1, .ref (ad g (cP i)))] := hl
  unfold f_Pa_nextHole at h
  refine lv_iconst (v := (-1)) hx hb dPa_nextHole_0 (by decide) ?_
  obtain ⟨x7, ex7, h⟩ := lt_some h
  refine q_nmi ex7 ?_
  refine lv_istore_n (lv' := [(2, .int x7), (0, .ref (ad g 7)), (1, .ref (ad g (cP i)))]) hx hb dPa_nextHole_1 rfl hl (Nat.le_of_ble_eq_true rfl) rfl (fun ls hl => ?_)
  refine lv_iconst (v := 0) hx hb dPa_nextHole_2 (by decide) ?_
  obtain ⟨x8, ex8, h⟩ := lt_some h
  refine q_nmi ex8 ?_
  refine lv_istore_n (lv' := [(3, .int x8), (2, .int x7), (0, .ref (ad g 7)), (1, .ref (ad g (cP i)))]) hx hb dPa_nextHole_3 rfl hl (Nat.le_of_ble_eq_true rfl) rfl (fun ls hl => ?_)
  have L4 : ∀ (n : Nat) (v2 : Int32) (v3 : Int32) (σ : Mem), loopF (fun (q : (Int32 × Int32 × Mem)) => f_Pa_nextHole_L4 i q.1 q.2.1 q.2.2) n (v2, v3, σ) = some (r0, σ0) → ∀ (H : Heap) (locs : List Loc) (ls : Array Slot), lv_has ls 4 [(0, .ref (ad g 7)), (1, .ref (ad g (cP i))), (2, .int v2), (3, .int v3)] → Wd g σ H → va_S (wA g) s.heap H locs → W p l e R s m args below meth c H locs 0 0 Q (F0 m 4 ls []) := by
    intro n
    induction n with
    | zero => intro v2 v3 σ h; exact (loopF_zero h).elim
    | succ n ih4 =>
      intro v2 v3 σ h H locs ls hl hP hS
      obtain ⟨o4, h, K4, E4⟩ := loopF_succ h
      have h : f_Pa_nextHole_L4 i v2 v3 σ = some o4 := h
      have J51 : ∀ (v2 : Int32) (v3 : Int32) (σ : Mem), f_Pa_nextHole_J51 i v2 v3 σ = some o4 → ∀ (H : Heap) (locs : List Loc) (ls : Array Slot), lv_has ls 4 [(0, .ref (ad g 7)), (1, .ref (ad g (cP i))), (2, .int v2), (3, .int v3)] → Wd g σ H → va_S (wA g) s.heap H locs → W p l e R s m args below meth c H locs 0 0 Q (F0 m 51 ls []) := by
        intro v2 v3 σ h H locs ls hl hP hS
        unfold f_Pa_nextHole_J51 at h
        obtain ⟨x1, ex1, h⟩ := lt_some h
        refine lv_iinc (lv' := [(3, .int x1), (0, .ref (ad g 7)), (1, .ref (ad g (cP i))), (2, .int v2)]) hx hb dPa_nextHole_51 hl (k := 3) rfl (q_inc ex1 (by decide)) (Nat.le_of_ble_eq_true rfl) rfl (fun ls hl => ?_)
        refine lv_goto (tgt := 4) hx hb dPa_nextHole_54 (by decide) ?_
        exact ih4 _ _ _ (K4 _ (Option.some.inj h).symm) _ _ _ (lv_sub hl [1, 2, 3, 0] rfl) hP hS
      have J50 : ∀ (v2 : Int32) (v3 : Int32) (u0 : Int32) (σ : Mem), f_Pa_nextHole_J50 i v2 v3 u0 σ = some o4 → ∀ (H : Heap) (locs : List Loc) (ls : Array Slot), lv_has ls 4 [(0, .ref (ad g 7)), (1, .ref (ad g (cP i))), (2, .int v2), (3, .int v3)] → Wd g σ H → va_S (wA g) s.heap H locs → W p l e R s m args below meth c H locs 0 0 Q (F0 m 50 ls [.int u0]) := by
        intro v2 v3 u0 σ h H locs ls hl hP hS
        unfold f_Pa_nextHole_J50 at h
        refine lv_istore_n (lv' := [(2, .int u0), (0, .ref (ad g 7)), (1, .ref (ad g (cP i))), (3, .int v3)]) hx hb dPa_nextHole_50 rfl hl (Nat.le_of_ble_eq_true rfl) rfl (fun ls hl => ?_)
        exact J51 _ _ _ h _ _ _ (lv_sub hl [1, 2, 0, 3] rfl) hP hS
      unfold f_Pa_nextHole_L4 at h
      refine lv_iload_n hx hb dPa_nextHole_4 rfl (lv_at hl 3 rfl) ?_
      refine lv_aload_n hx hb dPa_nextHole_5 rfl (lv_at hl 1 rfl) ?_
      refine g_Pr_size cx hP hi  t_46 dPa_nextHole_6 ?_
      refine lv_icmp_ge (tgt := 57) hx hb dPa_nextHole_9 (by decide) (fun hc => ?_) (fun hc => ?_)
      · replace h := if_t h hc
        obtain ⟨z2, h, ez2⟩ := inrM_some h
        rw [E4 z2 ez2] at h
        refine lv_iload_n hx hb dPa_nextHole_57 rfl (lv_at hl 2 rfl) ?_
        exact q_ri cx hr rfl hP hS hQ h dPa_nextHole_58
      · replace h := if_f h hc
        refine lv_aload_n hx hb dPa_nextHole_12 rfl (lv_at hl 1 rfl) ?_
        refine g_Pr_kinds cx hP hi  t_35 dPa_nextHole_13 ?_
        refine lv_iload_n hx hb dPa_nextHole_16 rfl (lv_at hl 3 rfl) ?_
        obtain ⟨b3, h⟩ := gd_some h
        refine q_iald cx hP (l_cPk hi) (e_cPk g hi) b3 dPa_nextHole_17 ?_
        refine lv_if_ne (tgt := 51) hx hb dPa_nextHole_18 (by decide) (fun hc => ?_) (fun hc => ?_)
        · replace h := if_f h hc
          exact J51 _ _ _ h _ _ _ (lv_sub hl [0, 1, 2, 3] rfl) hP hS
        · replace h := if_t h hc
          refine lv_aload_n hx hb dPa_nextHole_21 rfl (lv_at hl 0 rfl) ?_
          refine g_Pa_begins cx hP  t_113 dPa_nextHole_22 ?_
          refine lv_iload_n hx hb dPa_nextHole_25 rfl (lv_at hl 3 rfl) ?_
          obtain ⟨b4, h⟩ := gd_some h
          refine q_iald cx hP (by decide) (e_9 g) b4 dPa_nextHole_26 ?_
          refine lv_aload_n hx hb dPa_nextHole_27 rfl (lv_at hl 0 rfl) ?_
          refine g_Pa_begins cx hP  t_113 dPa_nextHole_28 ?_
          refine lv_aload_n hx hb dPa_nextHole_31 rfl (lv_at hl 1 rfl) ?_
          refine g_Pr_cursor cx hP hi  t_49 dPa_nextHole_32 ?_
          obtain ⟨b5, h⟩ := gd_some h
          refine q_iald cx hP (by decide) (e_9 g) b5 dPa_nextHole_35 ?_
          refine lv_icmp_le (tgt := 41) hx hb dPa_nextHole_36 (by decide) (fun hc => ?_) (fun hc => ?_)
          · replace h := if_t h hc
            refine lv_iload_n hx hb dPa_nextHole_41 rfl (lv_at hl 2 rfl) ?_
            refine lv_if_ge (tgt := 49) hx hb dPa_nextHole_42 (by decide) (fun hc => ?_) (fun hc => ?_)
            · replace h := if_t h hc
              refine lv_iload_n hx hb dPa_nextHole_49 rfl (lv_at hl 2 rfl) ?_
              exact J50 _ _ _ _ h _ _ _ (lv_sub hl [0, 1, 2, 3] rfl) hP hS
            · replace h := if_f h hc
              refine lv_iload_n hx hb dPa_nextHole_45 rfl (lv_at hl 3 rfl) ?_
              refine lv_goto (tgt := 50) hx hb dPa_nextHole_46 (by decide) ?_
              exact J50 _ _ _ _ h _ _ _ (lv_sub hl [0, 1, 2, 3] rfl) hP hS
          · replace h := if_f h hc
            obtain ⟨z6, h, ez6⟩ := inrM_some h
            rw [E4 z6 ez6] at h
            refine lv_iload_n hx hb dPa_nextHole_39 rfl (lv_at hl 3 rfl) ?_
            exact q_ri cx hr rfl hP hS hQ h dPa_nextHole_40
  exact L4 _ _ _ _ h _ _ _ (lv_sub hl [2, 3, 1, 0] rfl) hP hS
theorem dPa_innermost_0 : decode cPa_innermost 0 = .ok (.iconst (-1), 1) := by decide +kernel
theorem dPa_innermost_1 : decode cPa_innermost 1 = .ok (.istore_n 3, 1) := by decide +kernel
theorem dPa_innermost_2 : decode cPa_innermost 2 = .ok (.iconst 0, 1) := by decide +kernel
theorem dPa_innermost_3 : decode cPa_innermost 3 = .ok (.istore 4, 2) := by decide +kernel
theorem dPa_innermost_5 : decode cPa_innermost 5 = .ok (.iload 4, 2) := by decide +kernel
theorem dPa_innermost_7 : decode cPa_innermost 7 = .ok (.aload_n 1, 1) := by decide +kernel
theorem dPa_innermost_8 : decode cPa_innermost 8 = .ok (.getfield 35, 3) := by decide +kernel
theorem dPa_innermost_11 : decode cPa_innermost 11 = .ok (.if_icmp .ge 34, 3) := by decide +kernel
theorem dPa_innermost_14 : decode cPa_innermost 14 = .ok (.aload_n 0, 1) := by decide +kernel
theorem dPa_innermost_15 : decode cPa_innermost 15 = .ok (.getfield 15, 3) := by decide +kernel
theorem dPa_innermost_18 : decode cPa_innermost 18 = .ok (.iload 4, 2) := by decide +kernel
theorem dPa_innermost_20 : decode cPa_innermost 20 = .ok (.iaload, 1) := by decide +kernel
theorem dPa_innermost_21 : decode cPa_innermost 21 = .ok (.iload_n 2, 1) := by decide +kernel
theorem dPa_innermost_22 : decode cPa_innermost 22 = .ok (.if_icmp .gt 17, 3) := by decide +kernel
theorem dPa_innermost_25 : decode cPa_innermost 25 = .ok (.iload_n 2, 1) := by decide +kernel
theorem dPa_innermost_26 : decode cPa_innermost 26 = .ok (.aload_n 0, 1) := by decide +kernel
theorem dPa_innermost_27 : decode cPa_innermost 27 = .ok (.getfield 19, 3) := by decide +kernel
theorem dPa_innermost_30 : decode cPa_innermost 30 = .ok (.iload 4, 2) := by decide +kernel
theorem dPa_innermost_32 : decode cPa_innermost 32 = .ok (.iaload, 1) := by decide +kernel
theorem dPa_innermost_33 : decode cPa_innermost 33 = .ok (.if_icmp .ge 6, 3) := by decide +kernel
theorem dPa_innermost_36 : decode cPa_innermost 36 = .ok (.iload 4, 2) := by decide +kernel
theorem dPa_innermost_38 : decode cPa_innermost 38 = .ok (.istore_n 3, 1) := by decide +kernel
theorem dPa_innermost_39 : decode cPa_innermost 39 = .ok (.iinc 4 1, 3) := by decide +kernel
theorem dPa_innermost_42 : decode cPa_innermost 42 = .ok (.goto (-37), 3) := by decide +kernel
theorem dPa_innermost_45 : decode cPa_innermost 45 = .ok (.iload_n 3, 1) := by decide +kernel
theorem dPa_innermost_46 : decode cPa_innermost 46 = .ok (.ireturn, 1) := by decide +kernel
def f_Pa_innermost_J39 (i : Nat) (v2 : Int32) (v3 : Int32) (v4 : Int32) (σ : Mem) : Option ((Int32 × Int32 × Mem) ⊕ (Int32 × Mem)) :=
  lt_ (v4 + 1) fun (x1 : Int32) =>
  some (.inl (v3, x1, σ))
def f_Pa_innermost_L5 (i : Nat) (v2 : Int32) (v3 : Int32) (v4 : Int32) (σ : Mem) : Option ((Int32 × Int32 × Mem) ⊕ (Int32 × Mem)) :=
  if (σ.1 (cP i) 4) ≤ v4 then (
  inrM (some (v3, σ)))
  else (
  gd (inb v4 40) (
  if v2 < (σ.1 9 v4.toNatClampNeg) then (
  f_Pa_innermost_J39 i v2 v3 v4 σ)
  else (
  gd (inb v4 40) (
  if (σ.1 10 v4.toNatClampNeg) ≤ v2 then (
  f_Pa_innermost_J39 i v2 v3 v4 σ)
  else (
  f_Pa_innermost_J39 i v2 v4 v4 σ)))))
def f_Pa_innermost (i : Nat) (v2 : Int32) (σ : Mem) : Option (Int32 × Mem) :=
  lt_ ((-1) : Int32) fun (x5 : Int32) =>
  lt_ (0 : Int32) fun (x6 : Int32) =>
  loopF (fun (q : (Int32 × Int32 × Mem)) => f_Pa_innermost_L5 i v2 q.1 q.2.1 q.2.2) FU (x5, x6, σ)
set_option maxHeartbeats 4000000 in
set_option maxRecDepth 100000 in
theorem c_Pa_innermost (l : Launch) (g : Gw) (hg : wInj g) {i : Nat} (hi : i < 17) {v2 : Int32} {r0 : Int32} {σ σ0 : Mem} (h : f_Pa_innermost i v2 σ = some (r0, σ0)) : KI l yPa_innermost cPa_innermost 5 (some .int) 0 g [.ref (ad g 7), .ref (ad g (cP i)), .int v2] σ r0 σ0 := by
  refine q_met g hg (own := "TermBench$Page") rfl rfl (Nat.le_of_ble_eq_true rfl) (fun p e s m args below meth c R Q cx hRk hr hQ H locs ls hP hS hl => ?_)
  have hx := cx.1
  have hb := cx.2.1
  have hown := cx.2.2.2.1
  have hts := cx.2.2.2.2.1
  have hl : lv_has ls 5 [(0, .ref (ad g 7)), (1, .ref (ad g (cP i))), (2, .int v2)] := hl
  unfold f_Pa_innermost at h
  refine lv_iconst (v := (-1)) hx hb dPa_innermost_0 (by decide) ?_
  obtain ⟨x5, ex5, h⟩ := lt_some h
  refine q_nmi ex5 ?_
  refine lv_istore_n (lv' := [(3, .int x5), (0, .ref (ad g 7)), (1, .ref (ad g (cP i))), (2, .int v2)]) hx hb dPa_innermost_1 rfl hl (Nat.le_of_ble_eq_true rfl) rfl (fun ls hl => ?_)
  refine lv_iconst (v := 0) hx hb dPa_innermost_2 (by decide) ?_
  obtain ⟨x6, ex6, h⟩ := lt_some h
  refine q_nmi ex6 ?_
  refine lv_istore (lv' := [(4, .int x6), (3, .int x5), (0, .ref (ad g 7)), (1, .ref (ad g (cP i))), (2, .int v2)]) hx hb dPa_innermost_3 hl (Nat.le_of_ble_eq_true rfl) rfl (fun ls hl => ?_)
  have L5 : ∀ (n : Nat) (v2 : Int32) (v3 : Int32) (v4 : Int32) (σ : Mem), loopF (fun (q : (Int32 × Int32 × Mem)) => f_Pa_innermost_L5 i v2 q.1 q.2.1 q.2.2) n (v3, v4, σ) = some (r0, σ0) → ∀ (H : Heap) (locs : List Loc) (ls : Array Slot), lv_has ls 5 [(0, .ref (ad g 7)), (1, .ref (ad g (cP i))), (2, .int v2), (3, .int v3), (4, .int v4)] → Wd g σ H → va_S (wA g) s.heap H locs → W p l e R s m args below meth c H locs 0 0 Q (F0 m 5 ls []) := by
    intro n
    induction n with
    | zero => intro v2 v3 v4 σ h; exact (loopF_zero h).elim
    | succ n ih5 =>
      intro v2 v3 v4 σ h H locs ls hl hP hS
      obtain ⟨o5, h, K5, E5⟩ := loopF_succ h
      have h : f_Pa_innermost_L5 i v2 v3 v4 σ = some o5 := h
      have J39 : ∀ (v3 : Int32) (v4 : Int32) (σ : Mem), f_Pa_innermost_J39 i v2 v3 v4 σ = some o5 → ∀ (H : Heap) (locs : List Loc) (ls : Array Slot), lv_has ls 5 [(0, .ref (ad g 7)), (1, .ref (ad g (cP i))), (2, .int v2), (3, .int v3), (4, .int v4)] → Wd g σ H → va_S (wA g) s.heap H locs → W p l e R s m args below meth c H locs 0 0 Q (F0 m 39 ls []) := by
        intro v3 v4 σ h H locs ls hl hP hS
        unfold f_Pa_innermost_J39 at h
        obtain ⟨x1, ex1, h⟩ := lt_some h
        refine lv_iinc (lv' := [(4, .int x1), (0, .ref (ad g 7)), (1, .ref (ad g (cP i))), (2, .int v2), (3, .int v3)]) hx hb dPa_innermost_39 hl (k := 4) rfl (q_inc ex1 (by decide)) (Nat.le_of_ble_eq_true rfl) rfl (fun ls hl => ?_)
        refine lv_goto (tgt := 5) hx hb dPa_innermost_42 (by decide) ?_
        exact ih5 _ _ _ _ (K5 _ (Option.some.inj h).symm) _ _ _ (lv_sub hl [1, 2, 3, 4, 0] rfl) hP hS
      unfold f_Pa_innermost_L5 at h
      refine lv_iload hx hb dPa_innermost_5 (lv_at hl 4 rfl) ?_
      refine lv_aload_n hx hb dPa_innermost_7 rfl (lv_at hl 1 rfl) ?_
      refine g_Pr_size cx hP hi  t_46 dPa_innermost_8 ?_
      refine lv_icmp_ge (tgt := 45) hx hb dPa_innermost_11 (by decide) (fun hc => ?_) (fun hc => ?_)
      · replace h := if_t h hc
        obtain ⟨z2, h, ez2⟩ := inrM_some h
        rw [E5 z2 ez2] at h
        refine lv_iload_n hx hb dPa_innermost_45 rfl (lv_at hl 3 rfl) ?_
        exact q_ri cx hr rfl hP hS hQ h dPa_innermost_46
      · replace h := if_f h hc
        refine lv_aload_n hx hb dPa_innermost_14 rfl (lv_at hl 0 rfl) ?_
        refine g_Pa_begins cx hP  t_113 dPa_innermost_15 ?_
        refine lv_iload hx hb dPa_innermost_18 (lv_at hl 4 rfl) ?_
        obtain ⟨b3, h⟩ := gd_some h
        refine q_iald cx hP (by decide) (e_9 g) b3 dPa_innermost_20 ?_
        refine lv_iload_n hx hb dPa_innermost_21 rfl (lv_at hl 2 rfl) ?_
        refine lv_icmp_gt (tgt := 39) hx hb dPa_innermost_22 (by decide) (fun hc => ?_) (fun hc => ?_)
        · replace h := if_t h hc
          exact J39 _ _ _ h _ _ _ (lv_sub hl [0, 1, 2, 3, 4] rfl) hP hS
        · replace h := if_f h hc
          refine lv_iload_n hx hb dPa_innermost_25 rfl (lv_at hl 2 rfl) ?_
          refine lv_aload_n hx hb dPa_innermost_26 rfl (lv_at hl 0 rfl) ?_
          refine g_Pa_ends cx hP  t_115 dPa_innermost_27 ?_
          refine lv_iload hx hb dPa_innermost_30 (lv_at hl 4 rfl) ?_
          obtain ⟨b4, h⟩ := gd_some h
          refine q_iald cx hP (by decide) (e_10 g) b4 dPa_innermost_32 ?_
          refine lv_icmp_ge (tgt := 39) hx hb dPa_innermost_33 (by decide) (fun hc => ?_) (fun hc => ?_)
          · replace h := if_t h hc
            exact J39 _ _ _ h _ _ _ (lv_sub hl [0, 1, 2, 3, 4] rfl) hP hS
          · replace h := if_f h hc
            refine lv_iload hx hb dPa_innermost_36 (lv_at hl 4 rfl) ?_
            refine lv_istore_n (lv' := [(3, .int v4), (0, .ref (ad g 7)), (1, .ref (ad g (cP i))), (2, .int v2), (4, .int v4)]) hx hb dPa_innermost_38 rfl hl (Nat.le_of_ble_eq_true rfl) rfl (fun ls hl => ?_)
            exact J39 _ _ _ h _ _ _ (lv_sub hl [1, 2, 3, 0, 4] rfl) hP hS
  exact L5 _ _ _ _ _ h _ _ _ (lv_sub hl [2, 3, 4, 1, 0] rfl) hP hS
theorem dPa_eightOf_0 : decode cPa_eightOf 0 = .ok (.iload_n 1, 1) := by decide +kernel
theorem dPa_eightOf_1 : decode cPa_eightOf 1 = .ok (.ifCond .lt 21, 3) := by decide +kernel
theorem dPa_eightOf_4 : decode cPa_eightOf 4 = .ok (.iload_n 1, 1) := by decide +kernel
theorem dPa_eightOf_5 : decode cPa_eightOf 5 = .ok (.aload_n 0, 1) := by decide +kernel
theorem dPa_eightOf_6 : decode cPa_eightOf 6 = .ok (.getfield 11, 3) := by decide +kernel
theorem dPa_eightOf_9 : decode cPa_eightOf 9 = .ok (.arraylength, 1) := by decide +kernel
theorem dPa_eightOf_10 : decode cPa_eightOf 10 = .ok (.if_icmp .ge 12, 3) := by decide +kernel
theorem dPa_eightOf_13 : decode cPa_eightOf 13 = .ok (.aload_n 0, 1) := by decide +kernel
theorem dPa_eightOf_14 : decode cPa_eightOf 14 = .ok (.getfield 11, 3) := by decide +kernel
theorem dPa_eightOf_17 : decode cPa_eightOf 17 = .ok (.iload_n 1, 1) := by decide +kernel
theorem dPa_eightOf_18 : decode cPa_eightOf 18 = .ok (.laload, 1) := by decide +kernel
theorem dPa_eightOf_19 : decode cPa_eightOf 19 = .ok (.goto 4, 3) := by decide +kernel
theorem dPa_eightOf_22 : decode cPa_eightOf 22 = .ok (.lconst 0, 1) := by decide +kernel
theorem dPa_eightOf_23 : decode cPa_eightOf 23 = .ok (.lreturn, 1) := by decide +kernel
def f_Pa_eightOf_J23  (v1 : Int32) (u0 : Int64) (σ : Mem) : Option (Int64 × Mem) :=
  some (u0, σ)
def f_Pa_eightOf_J22  (v1 : Int32) (σ : Mem) : Option (Int64 × Mem) :=
  f_Pa_eightOf_J23 v1 (0 : Int64) σ
def f_Pa_eightOf  (v1 : Int32) (σ : Mem) : Option (Int64 × Mem) :=
  if v1 < 0 then (
  f_Pa_eightOf_J22 v1 σ)
  else (
  if (220 : Int32) ≤ v1 then (
  f_Pa_eightOf_J22 v1 σ)
  else (
  gd (inb v1 220) (
  f_Pa_eightOf_J23 v1 (σ.2 8 v1.toNatClampNeg) σ)))
set_option maxHeartbeats 4000000 in
set_option maxRecDepth 100000 in
theorem c_Pa_eightOf (l : Launch) (g : Gw) (hg : wInj g) {v1 : Int32} {r0 : Int64} {σ σ0 : Mem} (h : f_Pa_eightOf v1 σ = some (r0, σ0)) : KL l yPa_eightOf cPa_eightOf 2 (some .long) 0 g [.ref (ad g 7), .int v1] σ r0 σ0 := by
  refine q_met g hg (own := "TermBench$Page") rfl rfl (Nat.le_of_ble_eq_true rfl) (fun p e s m args below meth c R Q cx hRk hr hQ H locs ls hP hS hl => ?_)
  have hx := cx.1
  have hb := cx.2.1
  have hown := cx.2.2.2.1
  have hts := cx.2.2.2.2.1
  have hl : lv_has ls 2 [(0, .ref (ad g 7)), (1, .int v1)] := hl
  have J23 : ∀ (v1 : Int32) (u0 : Int64) (σ : Mem), f_Pa_eightOf_J23 v1 u0 σ = some (r0, σ0) → ∀ (H : Heap) (locs : List Loc) (ls : Array Slot), lv_has ls 2 [(0, .ref (ad g 7)), (1, .int v1)] → Wd g σ H → va_S (wA g) s.heap H locs → W p l e R s m args below meth c H locs 0 0 Q (F0 m 23 ls [.long u0]) := by
    intro v1 u0 σ h H locs ls hl hP hS
    unfold f_Pa_eightOf_J23 at h
    exact q_rl cx hr hP hS hQ h dPa_eightOf_23
  have J22 : ∀ (v1 : Int32) (σ : Mem), f_Pa_eightOf_J22 v1 σ = some (r0, σ0) → ∀ (H : Heap) (locs : List Loc) (ls : Array Slot), lv_has ls 2 [(0, .ref (ad g 7)), (1, .int v1)] → Wd g σ H → va_S (wA g) s.heap H locs → W p l e R s m args below meth c H locs 0 0 Q (F0 m 22 ls []) := by
    intro v1 σ h H locs ls hl hP hS
    unfold f_Pa_eightOf_J22 at h
    refine lv_lconst (v := 0) hx hb dPa_eightOf_22 rfl ?_
    exact J23 _ _ _ h _ _ _ (lv_sub hl [0, 1] rfl) hP hS
  unfold f_Pa_eightOf at h
  refine lv_iload_n hx hb dPa_eightOf_0 rfl (lv_at hl 1 rfl) ?_
  refine lv_if_lt (tgt := 22) hx hb dPa_eightOf_1 (by decide) (fun hc => ?_) (fun hc => ?_)
  · replace h := if_t h hc
    exact J22 _ _ h _ _ _ (lv_sub hl [0, 1] rfl) hP hS
  · replace h := if_f h hc
    refine lv_iload_n hx hb dPa_eightOf_4 rfl (lv_at hl 1 rfl) ?_
    refine lv_aload_n hx hb dPa_eightOf_5 rfl (lv_at hl 0 rfl) ?_
    refine g_Pa_words cx hP  t_112 dPa_eightOf_6 ?_
    refine q_alenL (v := 220) cx hP (by decide) (e_8 g) rfl dPa_eightOf_9 ?_
    refine lv_icmp_ge (tgt := 22) hx hb dPa_eightOf_10 (by decide) (fun hc => ?_) (fun hc => ?_)
    · replace h := if_t h hc
      exact J22 _ _ h _ _ _ (lv_sub hl [0, 1] rfl) hP hS
    · replace h := if_f h hc
      refine lv_aload_n hx hb dPa_eightOf_13 rfl (lv_at hl 0 rfl) ?_
      refine g_Pa_words cx hP  t_112 dPa_eightOf_14 ?_
      refine lv_iload_n hx hb dPa_eightOf_17 rfl (lv_at hl 1 rfl) ?_
      obtain ⟨b1, h⟩ := gd_some h
      refine q_lald cx hP (by decide) (e_8 g) b1 dPa_eightOf_18 ?_
      refine lv_goto (tgt := 23) hx hb dPa_eightOf_19 (by decide) ?_
      exact J23 _ _ _ h _ _ _ (lv_sub hl [0, 1] rfl) hP hS
end
section
/-! 25.machine, by program: pure functions and contracts -/
theorem dMa_outcome_0 : decode cMa_outcome 0 = .ok (.lload_n 0, 1) := by decide +kernel
theorem dMa_outcome_1 : decode cMa_outcome 1 = .ok (.l2i, 1) := by decide +kernel
theorem dMa_outcome_2 : decode cMa_outcome 2 = .ok (.iconst 3, 1) := by decide +kernel
theorem dMa_outcome_3 : decode cMa_outcome 3 = .ok (.iand, 1) := by decide +kernel
theorem dMa_outcome_4 : decode cMa_outcome 4 = .ok (.ireturn, 1) := by decide +kernel
def f_Ma_outcome  (v0 : Int64) (σ : Mem) : Option (Int32 × Mem) :=
  some (v0.toInt32 &&& (3 : Int32), σ)
set_option maxHeartbeats 4000000 in
set_option maxRecDepth 100000 in
theorem c_Ma_outcome (l : Launch) (g : Gw) (hg : wInj g) {v0 : Int64} {r0 : Int32} {σ σ0 : Mem} (h : f_Ma_outcome v0 σ = some (r0, σ0)) : KI l yMa_outcome cMa_outcome 2 (some .int) 0 g [.long v0] σ r0 σ0 := by
  refine q_met g hg (own := "TermBench$Machine") rfl rfl (Nat.le_of_ble_eq_true rfl) (fun p e s m args below meth c R Q cx hRk hr hQ H locs ls hP hS hl => ?_)
  have hx := cx.1
  have hb := cx.2.1
  have hown := cx.2.2.2.1
  have hts := cx.2.2.2.2.1
  have hl : lv_has ls 2 [(0, .long v0)] := hl
  unfold f_Ma_outcome at h
  refine lv_lload_n hx hb dMa_outcome_0 rfl (lv_at hl 0 rfl) ?_
  refine lv_l2i hx hb dMa_outcome_1 rfl ?_
  refine lv_iconst (v := 3) hx hb dMa_outcome_2 (by decide) ?_
  refine lv_iand hx hb dMa_outcome_3 ?_
  exact q_ri cx hr rfl hP hS hQ h dMa_outcome_4
theorem dMa_value_0 : decode cMa_value 0 = .ok (.iload_n 1, 1) := by decide +kernel
theorem dMa_value_1 : decode cMa_value 1 = .ok (.i2l, 1) := by decide +kernel
theorem dMa_value_2 : decode cMa_value 2 = .ok (.iconst 2, 1) := by decide +kernel
theorem dMa_value_3 : decode cMa_value 3 = .ok (.lshl, 1) := by decide +kernel
theorem dMa_value_4 : decode cMa_value 4 = .ok (.iload_n 0, 1) := by decide +kernel
theorem dMa_value_5 : decode cMa_value 5 = .ok (.i2l, 1) := by decide +kernel
theorem dMa_value_6 : decode cMa_value 6 = .ok (.lor, 1) := by decide +kernel
theorem dMa_value_7 : decode cMa_value 7 = .ok (.lreturn, 1) := by decide +kernel
def f_Ma_value  (v0 : Int32) (v1 : Int32) (σ : Mem) : Option (Int64 × Mem) :=
  some ((v1.toInt64 <<< ((2 : Int32).toInt64 &&& 63)) ||| v0.toInt64, σ)
set_option maxHeartbeats 4000000 in
set_option maxRecDepth 100000 in
theorem c_Ma_value (l : Launch) (g : Gw) (hg : wInj g) {v0 : Int32} {v1 : Int32} {r0 : Int64} {σ σ0 : Mem} (h : f_Ma_value v0 v1 σ = some (r0, σ0)) : KL l yMa_value cMa_value 2 (some .long) 0 g [.int v0, .int v1] σ r0 σ0 := by
  refine q_met g hg (own := "TermBench$Machine") rfl rfl (Nat.le_of_ble_eq_true rfl) (fun p e s m args below meth c R Q cx hRk hr hQ H locs ls hP hS hl => ?_)
  have hx := cx.1
  have hb := cx.2.1
  have hown := cx.2.2.2.1
  have hts := cx.2.2.2.2.1
  have hl : lv_has ls 2 [(0, .int v0), (1, .int v1)] := hl
  unfold f_Ma_value at h
  refine lv_iload_n hx hb dMa_value_0 rfl (lv_at hl 1 rfl) ?_
  refine lv_i2l hx hb dMa_value_1 rfl ?_
  refine lv_iconst (v := 2) hx hb dMa_value_2 (by decide) ?_
  refine lv_lshl hx hb dMa_value_3 rfl ?_
  refine lv_iload_n hx hb dMa_value_4 rfl (lv_at hl 0 rfl) ?_
  refine lv_i2l hx hb dMa_value_5 rfl ?_
  refine lv_lor hx hb dMa_value_6 ?_
  exact q_rl cx hr hP hS hQ h dMa_value_7
theorem dMa_content_0 : decode cMa_content 0 = .ok (.lload_n 0, 1) := by decide +kernel
theorem dMa_content_1 : decode cMa_content 1 = .ok (.iconst 2, 1) := by decide +kernel
theorem dMa_content_2 : decode cMa_content 2 = .ok (.lshr, 1) := by decide +kernel
theorem dMa_content_3 : decode cMa_content 3 = .ok (.l2i, 1) := by decide +kernel
theorem dMa_content_4 : decode cMa_content 4 = .ok (.ireturn, 1) := by decide +kernel
def f_Ma_content  (v0 : Int64) (σ : Mem) : Option (Int32 × Mem) :=
  some ((v0 >>> ((2 : Int32).toInt64 &&& 63)).toInt32, σ)
set_option maxHeartbeats 4000000 in
set_option maxRecDepth 100000 in
theorem c_Ma_content (l : Launch) (g : Gw) (hg : wInj g) {v0 : Int64} {r0 : Int32} {σ σ0 : Mem} (h : f_Ma_content v0 σ = some (r0, σ0)) : KI l yMa_content cMa_content 2 (some .int) 0 g [.long v0] σ r0 σ0 := by
  refine q_met g hg (own := "TermBench$Machine") rfl rfl (Nat.le_of_ble_eq_true rfl) (fun p e s m args below meth c R Q cx hRk hr hQ H locs ls hP hS hl => ?_)
  have hx := cx.1
  have hb := cx.2.1
  have hown := cx.2.2.2.1
  have hts := cx.2.2.2.2.1
  have hl : lv_has ls 2 [(0, .long v0)] := hl
  unfold f_Ma_content at h
  refine lv_lload_n hx hb dMa_content_0 rfl (lv_at hl 0 rfl) ?_
  refine lv_iconst (v := 2) hx hb dMa_content_1 (by decide) ?_
  refine lv_lshr hx hb dMa_content_2 rfl ?_
  refine lv_l2i hx hb dMa_content_3 rfl ?_
  exact q_ri cx hr rfl hP hS hQ h dMa_content_4
theorem dMa_bind_0 : decode cMa_bind 0 = .ok (.aload_n 0, 1) := by decide +kernel
theorem dMa_bind_1 : decode cMa_bind 1 = .ok (.getfield 22, 3) := by decide +kernel
theorem dMa_bind_4 : decode cMa_bind 4 = .ok (.sipush 133, 3) := by decide +kernel
theorem dMa_bind_7 : decode cMa_bind 7 = .ok (.if_icmp .lt 6, 3) := by decide +kernel
theorem dMa_bind_10 : decode cMa_bind 10 = .ok (.iload 4, 2) := by decide +kernel
theorem dMa_bind_12 : decode cMa_bind 12 = .ok (.ireturn, 1) := by decide +kernel
theorem dMa_bind_13 : decode cMa_bind 13 = .ok (.aload_n 0, 1) := by decide +kernel
theorem dMa_bind_14 : decode cMa_bind 14 = .ok (.dup, 1) := by decide +kernel
theorem dMa_bind_15 : decode cMa_bind 15 = .ok (.getfield 22, 3) := by decide +kernel
theorem dMa_bind_18 : decode cMa_bind 18 = .ok (.iconst 1, 1) := by decide +kernel
theorem dMa_bind_19 : decode cMa_bind 19 = .ok (.iadd, 1) := by decide +kernel
theorem dMa_bind_20 : decode cMa_bind 20 = .ok (.putfield 22, 3) := by decide +kernel
theorem dMa_bind_23 : decode cMa_bind 23 = .ok (.aload_n 0, 1) := by decide +kernel
theorem dMa_bind_24 : decode cMa_bind 24 = .ok (.getfield 11, 3) := by decide +kernel
theorem dMa_bind_27 : decode cMa_bind 27 = .ok (.aload_n 0, 1) := by decide +kernel
theorem dMa_bind_28 : decode cMa_bind 28 = .ok (.getfield 22, 3) := by decide +kernel
theorem dMa_bind_31 : decode cMa_bind 31 = .ok (.iload_n 1, 1) := by decide +kernel
theorem dMa_bind_32 : decode cMa_bind 32 = .ok (.iastore, 1) := by decide +kernel
theorem dMa_bind_33 : decode cMa_bind 33 = .ok (.aload_n 0, 1) := by decide +kernel
theorem dMa_bind_34 : decode cMa_bind 34 = .ok (.getfield 15, 3) := by decide +kernel
theorem dMa_bind_37 : decode cMa_bind 37 = .ok (.aload_n 0, 1) := by decide +kernel
theorem dMa_bind_38 : decode cMa_bind 38 = .ok (.getfield 22, 3) := by decide +kernel
theorem dMa_bind_41 : decode cMa_bind 41 = .ok (.lload_n 2, 1) := by decide +kernel
theorem dMa_bind_42 : decode cMa_bind 42 = .ok (.lastore, 1) := by decide +kernel
theorem dMa_bind_43 : decode cMa_bind 43 = .ok (.aload_n 0, 1) := by decide +kernel
theorem dMa_bind_44 : decode cMa_bind 44 = .ok (.getfield 19, 3) := by decide +kernel
theorem dMa_bind_47 : decode cMa_bind 47 = .ok (.aload_n 0, 1) := by decide +kernel
theorem dMa_bind_48 : decode cMa_bind 48 = .ok (.getfield 22, 3) := by decide +kernel
theorem dMa_bind_51 : decode cMa_bind 51 = .ok (.iload 4, 2) := by decide +kernel
theorem dMa_bind_53 : decode cMa_bind 53 = .ok (.iastore, 1) := by decide +kernel
theorem dMa_bind_54 : decode cMa_bind 54 = .ok (.aload_n 0, 1) := by decide +kernel
theorem dMa_bind_55 : decode cMa_bind 55 = .ok (.getfield 22, 3) := by decide +kernel
theorem dMa_bind_58 : decode cMa_bind 58 = .ok (.ireturn, 1) := by decide +kernel
def f_Ma_bind  (v1 : Int32) (v2 : Int64) (v4 : Int32) (σ : Mem) : Option (Int32 × Mem) :=
  if (σ.1 11 3) < (133 : Int32) then (
  lt_ (sI σ 11 3 ((σ.1 11 3) + (1 : Int32))) fun (σ1 : Mem) =>
  gd (inb (σ1.1 11 3) 134) (lt_ (sI σ1 12 (σ1.1 11 3).toNatClampNeg v1) fun (σ3 : Mem) =>
  gd (inb (σ3.1 11 3) 134) (lt_ (sL σ3 13 (σ3.1 11 3).toNatClampNeg v2) fun (σ5 : Mem) =>
  gd (inb (σ5.1 11 3) 134) (lt_ (sI σ5 14 (σ5.1 11 3).toNatClampNeg v4) fun (σ7 : Mem) =>
  some (σ7.1 11 3, σ7)))))
  else (
  some (v4, σ))
set_option maxHeartbeats 4000000 in
set_option maxRecDepth 100000 in
theorem c_Ma_bind (l : Launch) (g : Gw) (hg : wInj g) {v1 : Int32} {v2 : Int64} {v4 : Int32} {r0 : Int32} {σ σ0 : Mem} (h : f_Ma_bind v1 v2 v4 σ = some (r0, σ0)) : KI l yMa_bind cMa_bind 5 (some .int) 0 g [.ref (ad g 11), .int v1, .long v2, .int v4] σ r0 σ0 := by
  refine q_met g hg (own := "TermBench$Machine") rfl rfl (Nat.le_of_ble_eq_true rfl) (fun p e s m args below meth c R Q cx hRk hr hQ H locs ls hP hS hl => ?_)
  have hx := cx.1
  have hb := cx.2.1
  have hown := cx.2.2.2.1
  have hts := cx.2.2.2.2.1
  have hl : lv_has ls 5 [(0, .ref (ad g 11)), (1, .int v1), (2, .long v2), (4, .int v4)] := hl
  unfold f_Ma_bind at h
  refine lv_aload_n hx hb dMa_bind_0 rfl (lv_at hl 0 rfl) ?_
  refine g_Ma_bound cx hP  t_139 dMa_bind_1 ?_
  refine lv_sipush (v := 133) hx hb dMa_bind_4 (by decide) ?_
  refine lv_icmp_lt (tgt := 13) hx hb dMa_bind_7 (by decide) (fun hc => ?_) (fun hc => ?_)
  · replace h := if_t h hc
    refine lv_aload_n hx hb dMa_bind_13 rfl (lv_at hl 0 rfl) ?_
    refine lv_dup hx hb dMa_bind_14 rfl ?_
    refine g_Ma_bound cx hP  t_139 dMa_bind_15 ?_
    refine lv_iconst (v := 1) hx hb dMa_bind_18 (by decide) ?_
    refine lv_iadd hx hb dMa_bind_19 ?_
    obtain ⟨σ1, eσ1, h⟩ := lt_some h
    refine p_Ma_bound cx hP hS t_139 dMa_bind_20 eσ1 (fun H locs hP hS => ?_)
    refine lv_aload_n hx hb dMa_bind_23 rfl (lv_at hl 0 rfl) ?_
    refine g_Ma_boundNames cx hP  t_136 dMa_bind_24 ?_
    refine lv_aload_n hx hb dMa_bind_27 rfl (lv_at hl 0 rfl) ?_
    refine g_Ma_bound cx hP  t_139 dMa_bind_28 ?_
    refine lv_iload_n hx hb dMa_bind_31 rfl (lv_at hl 1 rfl) ?_
    obtain ⟨b2, h⟩ := gd_some h
    obtain ⟨σ3, eσ3, h⟩ := lt_some h
    refine q_iast cx hP hS (by decide) (e_12 g) b2 dMa_bind_32 eσ3 (fun H locs hP hS => ?_)
    refine lv_aload_n hx hb dMa_bind_33 rfl (lv_at hl 0 rfl) ?_
    refine g_Ma_boundValues cx hP  t_137 dMa_bind_34 ?_
    refine lv_aload_n hx hb dMa_bind_37 rfl (lv_at hl 0 rfl) ?_
    refine g_Ma_bound cx hP  t_139 dMa_bind_38 ?_
    refine lv_lload_n hx hb dMa_bind_41 rfl (lv_at hl 2 rfl) ?_
    obtain ⟨b4, h⟩ := gd_some h
    obtain ⟨σ5, eσ5, h⟩ := lt_some h
    refine q_last cx hP hS (by decide) (e_13 g) b4 dMa_bind_42 eσ5 (fun H locs hP hS => ?_)
    refine lv_aload_n hx hb dMa_bind_43 rfl (lv_at hl 0 rfl) ?_
    refine g_Ma_outerScopes cx hP  t_138 dMa_bind_44 ?_
    refine lv_aload_n hx hb dMa_bind_47 rfl (lv_at hl 0 rfl) ?_
    refine g_Ma_bound cx hP  t_139 dMa_bind_48 ?_
    refine lv_iload hx hb dMa_bind_51 (lv_at hl 3 rfl) ?_
    obtain ⟨b6, h⟩ := gd_some h
    obtain ⟨σ7, eσ7, h⟩ := lt_some h
    refine q_iast cx hP hS (by decide) (e_14 g) b6 dMa_bind_53 eσ7 (fun H locs hP hS => ?_)
    refine lv_aload_n hx hb dMa_bind_54 rfl (lv_at hl 0 rfl) ?_
    refine g_Ma_bound cx hP  t_139 dMa_bind_55 ?_
    exact q_ri cx hr rfl hP hS hQ h dMa_bind_58
  · replace h := if_f h hc
    refine lv_iload hx hb dMa_bind_10 (lv_at hl 3 rfl) ?_
    exact q_ri cx hr rfl hP hS hQ h dMa_bind_12
theorem dMa_standsFor_0 : decode cMa_standsFor 0 = .ok (.iload_n 2, 1) := by decide +kernel
theorem dMa_standsFor_1 : decode cMa_standsFor 1 = .ok (.istore_n 3, 1) := by decide +kernel
theorem dMa_standsFor_2 : decode cMa_standsFor 2 = .ok (.iconst 0, 1) := by decide +kernel
theorem dMa_standsFor_3 : decode cMa_standsFor 3 = .ok (.istore 4, 2) := by decide +kernel
theorem dMa_standsFor_5 : decode cMa_standsFor 5 = .ok (.iload 4, 2) := by decide +kernel
theorem dMa_standsFor_7 : decode cMa_standsFor 7 = .ok (.bipush 12, 2) := by decide +kernel
theorem dMa_standsFor_9 : decode cMa_standsFor 9 = .ok (.if_icmp .ge 37, 3) := by decide +kernel
theorem dMa_standsFor_12 : decode cMa_standsFor 12 = .ok (.iload_n 3, 1) := by decide +kernel
theorem dMa_standsFor_13 : decode cMa_standsFor 13 = .ok (.ifCond .le 33, 3) := by decide +kernel
theorem dMa_standsFor_16 : decode cMa_standsFor 16 = .ok (.aload_n 0, 1) := by decide +kernel
theorem dMa_standsFor_17 : decode cMa_standsFor 17 = .ok (.getfield 11, 3) := by decide +kernel
theorem dMa_standsFor_20 : decode cMa_standsFor 20 = .ok (.iload_n 3, 1) := by decide +kernel
theorem dMa_standsFor_21 : decode cMa_standsFor 21 = .ok (.iaload, 1) := by decide +kernel
theorem dMa_standsFor_22 : decode cMa_standsFor 22 = .ok (.iload_n 1, 1) := by decide +kernel
theorem dMa_standsFor_23 : decode cMa_standsFor 23 = .ok (.if_icmp .ne 10, 3) := by decide +kernel
theorem dMa_standsFor_26 : decode cMa_standsFor 26 = .ok (.aload_n 0, 1) := by decide +kernel
theorem dMa_standsFor_27 : decode cMa_standsFor 27 = .ok (.getfield 15, 3) := by decide +kernel
theorem dMa_standsFor_30 : decode cMa_standsFor 30 = .ok (.iload_n 3, 1) := by decide +kernel
theorem dMa_standsFor_31 : decode cMa_standsFor 31 = .ok (.laload, 1) := by decide +kernel
theorem dMa_standsFor_32 : decode cMa_standsFor 32 = .ok (.lreturn, 1) := by decide +kernel
theorem dMa_standsFor_33 : decode cMa_standsFor 33 = .ok (.aload_n 0, 1) := by decide +kernel
theorem dMa_standsFor_34 : decode cMa_standsFor 34 = .ok (.getfield 19, 3) := by decide +kernel
theorem dMa_standsFor_37 : decode cMa_standsFor 37 = .ok (.iload_n 3, 1) := by decide +kernel
theorem dMa_standsFor_38 : decode cMa_standsFor 38 = .ok (.iaload, 1) := by decide +kernel
theorem dMa_standsFor_39 : decode cMa_standsFor 39 = .ok (.istore_n 3, 1) := by decide +kernel
theorem dMa_standsFor_40 : decode cMa_standsFor 40 = .ok (.iinc 4 1, 3) := by decide +kernel
theorem dMa_standsFor_43 : decode cMa_standsFor 43 = .ok (.goto (-38), 3) := by decide +kernel
theorem dMa_standsFor_46 : decode cMa_standsFor 46 = .ok (.iconst 2, 1) := by decide +kernel
theorem dMa_standsFor_47 : decode cMa_standsFor 47 = .ok (.iconst 0, 1) := by decide +kernel
theorem dMa_standsFor_48 : decode cMa_standsFor 48 = .ok (.invokestatic 43, 3) := by decide +kernel
theorem dMa_standsFor_51 : decode cMa_standsFor 51 = .ok (.lreturn, 1) := by decide +kernel
def f_Ma_standsFor_J46  (v1 : Int32) (v2 : Int32) (v3 : Int32) (v4 : Int32) (σ : Mem) : Option (Int64 × Mem) :=
  bn (f_Ma_value (2 : Int32) (0 : Int32) σ) fun (r3 : Int64) (σ2 : Mem) =>
  some (r3, σ2)
def f_Ma_standsFor_L5  (v1 : Int32) (v2 : Int32) (v3 : Int32) (v4 : Int32) (σ : Mem) : Option ((Int32 × Int32 × Mem) ⊕ (Int64 × Mem)) :=
  if (12 : Int32) ≤ v4 then (
  inrM (f_Ma_standsFor_J46 v1 v2 v3 v4 σ))
  else (
  if v3 ≤ 0 then (
  inrM (f_Ma_standsFor_J46 v1 v2 v3 v4 σ))
  else (
  gd (inb v3 134) (
  if (σ.1 12 v3.toNatClampNeg) = v1 then (
  inrM (gd (inb v3 134) (
  some (σ.2 13 v3.toNatClampNeg, σ))))
  else (
  gd (inb v3 134) (
  lt_ (σ.1 14 v3.toNatClampNeg) fun (x8 : Int32) =>
  lt_ (v4 + 1) fun (x9 : Int32) =>
  some (.inl (x8, x9, σ)))))))
def f_Ma_standsFor  (v1 : Int32) (v2 : Int32) (σ : Mem) : Option (Int64 × Mem) :=
  lt_ (0 : Int32) fun (x12 : Int32) =>
  loopF (fun (q : (Int32 × Int32 × Mem)) => f_Ma_standsFor_L5 v1 v2 q.1 q.2.1 q.2.2) FU (v2, x12, σ)
set_option maxHeartbeats 4000000 in
set_option maxRecDepth 100000 in
theorem c_Ma_standsFor (l : Launch) (g : Gw) (hg : wInj g) {v1 : Int32} {v2 : Int32} {r0 : Int64} {σ σ0 : Mem} (h : f_Ma_standsFor v1 v2 σ = some (r0, σ0)) : KL l yMa_standsFor cMa_standsFor 5 (some .long) 1 g [.ref (ad g 11), .int v1, .int v2] σ r0 σ0 := by
  refine q_met g hg (own := "TermBench$Machine") rfl rfl (Nat.le_of_ble_eq_true rfl) (fun p e s m args below meth c R Q cx hRk hr hQ H locs ls hP hS hl => ?_)
  have hx := cx.1
  have hb := cx.2.1
  have hown := cx.2.2.2.1
  have hts := cx.2.2.2.2.1
  have hl : lv_has ls 5 [(0, .ref (ad g 11)), (1, .int v1), (2, .int v2)] := hl
  have J46 : ∀ (v1 : Int32) (v2 : Int32) (v3 : Int32) (v4 : Int32) (σ : Mem), f_Ma_standsFor_J46 v1 v2 v3 v4 σ = some (r0, σ0) → ∀ (H : Heap) (locs : List Loc) (ls : Array Slot), lv_has ls 5 [(0, .ref (ad g 11)), (1, .int v1), (2, .int v2), (3, .int v3), (4, .int v4)] → Wd g σ H → va_S (wA g) s.heap H locs → W p l e R s m args below meth c H locs 0 0 Q (F0 m 46 ls []) := by
    intro v1 v2 v3 v4 σ h H locs ls hl hP hS
    unfold f_Ma_standsFor_J46 at h
    refine lv_iconst (v := 2) hx hb dMa_standsFor_46 (by decide) ?_
    refine lv_iconst (v := 0) hx hb dMa_standsFor_47 (by decide) ?_
    obtain ⟨r3, σ2, h1, h⟩ := bn_some h
    refine q_cSl (rest := []) (As := [.int (2 : Int32), .int (0 : Int32)]) cx hP hS hRk (c_Ma_value l g hg h1) Y_Ma_value S_Ma_value t_490 (by decide) rfl hl.1 rfl (Nat.le_of_ble_eq_true rfl) dMa_standsFor_48 (fun H locs hP hS => ?_)
    exact q_rl cx hr hP hS hQ h dMa_standsFor_51
  unfold f_Ma_standsFor at h
  refine lv_iload_n hx hb dMa_standsFor_0 rfl (lv_at hl 2 rfl) ?_
  refine lv_istore_n (lv' := [(3, .int v2), (0, .ref (ad g 11)), (1, .int v1), (2, .int v2)]) hx hb dMa_standsFor_1 rfl hl (Nat.le_of_ble_eq_true rfl) rfl (fun ls hl => ?_)
  refine lv_iconst (v := 0) hx hb dMa_standsFor_2 (by decide) ?_
  obtain ⟨x12, ex12, h⟩ := lt_some h
  refine q_nmi ex12 ?_
  refine lv_istore (lv' := [(4, .int x12), (3, .int v2), (0, .ref (ad g 11)), (1, .int v1), (2, .int v2)]) hx hb dMa_standsFor_3 hl (Nat.le_of_ble_eq_true rfl) rfl (fun ls hl => ?_)
  have L5 : ∀ (n : Nat) (v1 : Int32) (v2 : Int32) (v3 : Int32) (v4 : Int32) (σ : Mem), loopF (fun (q : (Int32 × Int32 × Mem)) => f_Ma_standsFor_L5 v1 v2 q.1 q.2.1 q.2.2) n (v3, v4, σ) = some (r0, σ0) → ∀ (H : Heap) (locs : List Loc) (ls : Array Slot), lv_has ls 5 [(0, .ref (ad g 11)), (1, .int v1), (2, .int v2), (3, .int v3), (4, .int v4)] → Wd g σ H → va_S (wA g) s.heap H locs → W p l e R s m args below meth c H locs 0 0 Q (F0 m 5 ls []) := by
    intro n
    induction n with
    | zero => intro v1 v2 v3 v4 σ h; exact (loopF_zero h).elim
    | succ n ih5 =>
      intro v1 v2 v3 v4 σ h H locs ls hl hP hS
      obtain ⟨o5, h, K5, E5⟩ := loopF_succ h
      have h : f_Ma_standsFor_L5 v1 v2 v3 v4 σ = some o5 := h
      unfold f_Ma_standsFor_L5 at h
      refine lv_iload hx hb dMa_standsFor_5 (lv_at hl 4 rfl) ?_
      refine lv_bipush (v := 12) hx hb dMa_standsFor_7 (by decide) ?_
      refine lv_icmp_ge (tgt := 46) hx hb dMa_standsFor_9 (by decide) (fun hc => ?_) (fun hc => ?_)
      · replace h := if_t h hc
        obtain ⟨z4, h, ez4⟩ := inrM_some h
        rw [E5 z4 ez4] at h
        exact J46 _ _ _ _ _ h _ _ _ (lv_sub hl [0, 1, 2, 3, 4] rfl) hP hS
      · replace h := if_f h hc
        refine lv_iload_n hx hb dMa_standsFor_12 rfl (lv_at hl 3 rfl) ?_
        refine lv_if_le (tgt := 46) hx hb dMa_standsFor_13 (by decide) (fun hc => ?_) (fun hc => ?_)
        · replace h := if_t h hc
          obtain ⟨z5, h, ez5⟩ := inrM_some h
          rw [E5 z5 ez5] at h
          exact J46 _ _ _ _ _ h _ _ _ (lv_sub hl [0, 1, 2, 3, 4] rfl) hP hS
        · replace h := if_f h hc
          refine lv_aload_n hx hb dMa_standsFor_16 rfl (lv_at hl 0 rfl) ?_
          refine g_Ma_boundNames cx hP  t_136 dMa_standsFor_17 ?_
          refine lv_iload_n hx hb dMa_standsFor_20 rfl (lv_at hl 3 rfl) ?_
          obtain ⟨b6, h⟩ := gd_some h
          refine q_iald cx hP (by decide) (e_12 g) b6 dMa_standsFor_21 ?_
          refine lv_iload_n hx hb dMa_standsFor_22 rfl (lv_at hl 1 rfl) ?_
          refine lv_icmp_ne (tgt := 33) hx hb dMa_standsFor_23 (by decide) (fun hc => ?_) (fun hc => ?_)
          · replace h := if_f h hc
            refine lv_aload_n hx hb dMa_standsFor_33 rfl (lv_at hl 0 rfl) ?_
            refine g_Ma_outerScopes cx hP  t_138 dMa_standsFor_34 ?_
            refine lv_iload_n hx hb dMa_standsFor_37 rfl (lv_at hl 3 rfl) ?_
            obtain ⟨b7, h⟩ := gd_some h
            refine q_iald cx hP (by decide) (e_14 g) b7 dMa_standsFor_38 ?_
            obtain ⟨x8, ex8, h⟩ := lt_some h
            refine q_nmi ex8 ?_
            refine lv_istore_n (lv' := [(3, .int x8), (0, .ref (ad g 11)), (1, .int v1), (2, .int v2), (4, .int v4)]) hx hb dMa_standsFor_39 rfl hl (Nat.le_of_ble_eq_true rfl) rfl (fun ls hl => ?_)
            obtain ⟨x9, ex9, h⟩ := lt_some h
            refine lv_iinc (lv' := [(4, .int x9), (3, .int x8), (0, .ref (ad g 11)), (1, .int v1), (2, .int v2)]) hx hb dMa_standsFor_40 hl (k := 4) rfl (q_inc ex9 (by decide)) (Nat.le_of_ble_eq_true rfl) rfl (fun ls hl => ?_)
            refine lv_goto (tgt := 5) hx hb dMa_standsFor_43 (by decide) ?_
            exact ih5 _ _ _ _ _ (K5 _ (Option.some.inj h).symm) _ _ _ (lv_sub hl [2, 3, 4, 1, 0] rfl) hP hS
          · replace h := if_t h hc
            obtain ⟨z10, h, ez10⟩ := inrM_some h
            rw [E5 z10 ez10] at h
            refine lv_aload_n hx hb dMa_standsFor_26 rfl (lv_at hl 0 rfl) ?_
            refine g_Ma_boundValues cx hP  t_137 dMa_standsFor_27 ?_
            refine lv_iload_n hx hb dMa_standsFor_30 rfl (lv_at hl 3 rfl) ?_
            obtain ⟨b11, h⟩ := gd_some h
            refine q_lald cx hP (by decide) (e_13 g) b11 dMa_standsFor_31 ?_
            exact q_rl cx hr hP hS hQ h dMa_standsFor_32
  exact L5 _ _ _ _ _ _ h _ _ _ (lv_sub hl [2, 3, 4, 1, 0] rfl) hP hS
theorem dMa_runSum_0 : decode cMa_runSum 0 = .ok (.aload_n 0, 1) := by decide +kernel
theorem dMa_runSum_1 : decode cMa_runSum 1 = .ok (.aload_n 1, 1) := by decide +kernel
theorem dMa_runSum_2 : decode cMa_runSum 2 = .ok (.aload_n 2, 1) := by decide +kernel
theorem dMa_runSum_3 : decode cMa_runSum 3 = .ok (.aload_n 1, 1) := by decide +kernel
theorem dMa_runSum_4 : decode cMa_runSum 4 = .ok (.iload_n 3, 1) := by decide +kernel
theorem dMa_runSum_5 : decode cMa_runSum 5 = .ok (.iconst 0, 1) := by decide +kernel
theorem dMa_runSum_6 : decode cMa_runSum 6 = .ok (.invokevirtual 64, 3) := by decide +kernel
theorem dMa_runSum_9 : decode cMa_runSum 9 = .ok (.iload 4, 2) := by decide +kernel
theorem dMa_runSum_11 : decode cMa_runSum 11 = .ok (.iload 5, 2) := by decide +kernel
theorem dMa_runSum_13 : decode cMa_runSum 13 = .ok (.iconst 1, 1) := by decide +kernel
theorem dMa_runSum_14 : decode cMa_runSum 14 = .ok (.iadd, 1) := by decide +kernel
theorem dMa_runSum_15 : decode cMa_runSum 15 = .ok (.invokevirtual 32, 3) := by decide +kernel
theorem dMa_runSum_18 : decode cMa_runSum 18 = .ok (.lstore 6, 2) := by decide +kernel
theorem dMa_runSum_20 : decode cMa_runSum 20 = .ok (.lload 6, 2) := by decide +kernel
theorem dMa_runSum_22 : decode cMa_runSum 22 = .ok (.invokestatic 36, 3) := by decide +kernel
theorem dMa_runSum_25 : decode cMa_runSum 25 = .ok (.iconst 3, 1) := by decide +kernel
theorem dMa_runSum_26 : decode cMa_runSum 26 = .ok (.if_icmp .ne 6, 3) := by decide +kernel
theorem dMa_runSum_29 : decode cMa_runSum 29 = .ok (.lload 6, 2) := by decide +kernel
theorem dMa_runSum_31 : decode cMa_runSum 31 = .ok (.lreturn, 1) := by decide +kernel
theorem dMa_runSum_32 : decode cMa_runSum 32 = .ok (.aload_n 0, 1) := by decide +kernel
theorem dMa_runSum_33 : decode cMa_runSum 33 = .ok (.aload_n 1, 1) := by decide +kernel
theorem dMa_runSum_34 : decode cMa_runSum 34 = .ok (.aload_n 2, 1) := by decide +kernel
theorem dMa_runSum_35 : decode cMa_runSum 35 = .ok (.aload_n 1, 1) := by decide +kernel
theorem dMa_runSum_36 : decode cMa_runSum 36 = .ok (.iload_n 3, 1) := by decide +kernel
theorem dMa_runSum_37 : decode cMa_runSum 37 = .ok (.iconst 1, 1) := by decide +kernel
theorem dMa_runSum_38 : decode cMa_runSum 38 = .ok (.invokevirtual 64, 3) := by decide +kernel
theorem dMa_runSum_41 : decode cMa_runSum 41 = .ok (.iload 4, 2) := by decide +kernel
theorem dMa_runSum_43 : decode cMa_runSum 43 = .ok (.iload 5, 2) := by decide +kernel
theorem dMa_runSum_45 : decode cMa_runSum 45 = .ok (.iconst 1, 1) := by decide +kernel
theorem dMa_runSum_46 : decode cMa_runSum 46 = .ok (.iadd, 1) := by decide +kernel
theorem dMa_runSum_47 : decode cMa_runSum 47 = .ok (.invokevirtual 32, 3) := by decide +kernel
theorem dMa_runSum_50 : decode cMa_runSum 50 = .ok (.lstore 8, 2) := by decide +kernel
theorem dMa_runSum_52 : decode cMa_runSum 52 = .ok (.lload 8, 2) := by decide +kernel
theorem dMa_runSum_54 : decode cMa_runSum 54 = .ok (.invokestatic 36, 3) := by decide +kernel
theorem dMa_runSum_57 : decode cMa_runSum 57 = .ok (.iconst 3, 1) := by decide +kernel
theorem dMa_runSum_58 : decode cMa_runSum 58 = .ok (.if_icmp .ne 6, 3) := by decide +kernel
theorem dMa_runSum_61 : decode cMa_runSum 61 = .ok (.lload 8, 2) := by decide +kernel
theorem dMa_runSum_63 : decode cMa_runSum 63 = .ok (.lreturn, 1) := by decide +kernel
theorem dMa_runSum_64 : decode cMa_runSum 64 = .ok (.lload 6, 2) := by decide +kernel
theorem dMa_runSum_66 : decode cMa_runSum 66 = .ok (.invokestatic 36, 3) := by decide +kernel
theorem dMa_runSum_69 : decode cMa_runSum 69 = .ok (.ifCond .ne 11, 3) := by decide +kernel
theorem dMa_runSum_72 : decode cMa_runSum 72 = .ok (.lload 8, 2) := by decide +kernel
theorem dMa_runSum_74 : decode cMa_runSum 74 = .ok (.invokestatic 36, 3) := by decide +kernel
theorem dMa_runSum_77 : decode cMa_runSum 77 = .ok (.ifCond .eq 9, 3) := by decide +kernel
theorem dMa_runSum_80 : decode cMa_runSum 80 = .ok (.iconst 2, 1) := by decide +kernel
theorem dMa_runSum_81 : decode cMa_runSum 81 = .ok (.iconst 0, 1) := by decide +kernel
theorem dMa_runSum_82 : decode cMa_runSum 82 = .ok (.invokestatic 43, 3) := by decide +kernel
theorem dMa_runSum_85 : decode cMa_runSum 85 = .ok (.lreturn, 1) := by decide +kernel
theorem dMa_runSum_86 : decode cMa_runSum 86 = .ok (.iconst 0, 1) := by decide +kernel
theorem dMa_runSum_87 : decode cMa_runSum 87 = .ok (.lload 6, 2) := by decide +kernel
theorem dMa_runSum_89 : decode cMa_runSum 89 = .ok (.invokestatic 40, 3) := by decide +kernel
theorem dMa_runSum_92 : decode cMa_runSum 92 = .ok (.lload 8, 2) := by decide +kernel
theorem dMa_runSum_94 : decode cMa_runSum 94 = .ok (.invokestatic 40, 3) := by decide +kernel
theorem dMa_runSum_97 : decode cMa_runSum 97 = .ok (.iadd, 1) := by decide +kernel
theorem dMa_runSum_98 : decode cMa_runSum 98 = .ok (.invokestatic 43, 3) := by decide +kernel
theorem dMa_runSum_101 : decode cMa_runSum 101 = .ok (.lreturn, 1) := by decide +kernel
def f_Ma_runSum_J80 (rc : Nat → Int32 → Int32 → Int32 → Mem → Option (Int64 × Mem)) (i : Nat) (v3 : Int32) (v4 : Int32) (v5 : Int32) (v6 : Int64) (v8 : Int64) (σ : Mem) : Option (Int64 × Mem) :=
  bn (f_Ma_value (2 : Int32) (0 : Int32) σ) fun (r3 : Int64) (σ2 : Mem) =>
  some (r3, σ2)
def f_Ma_runSum (rc : Nat → Int32 → Int32 → Int32 → Mem → Option (Int64 × Mem)) (i : Nat) (v3 : Int32) (v4 : Int32) (v5 : Int32) (σ : Mem) : Option (Int64 × Mem) :=
  bn (f_Pr_part i v3 (0 : Int32) σ) fun (r6 : Int32) (σ5 : Mem) =>
  bn (rc i r6 v4 (v5 + (1 : Int32)) σ5) fun (r9 : Int64) (σ8 : Mem) =>
  bn (f_Ma_outcome r9 σ8) fun (r12 : Int32) (σ11 : Mem) =>
  if r12 = (3 : Int32) then (
  some (r9, σ11))
  else (
  bn (f_Pr_part i v3 (1 : Int32) σ11) fun (r15 : Int32) (σ14 : Mem) =>
  bn (rc i r15 v4 (v5 + (1 : Int32)) σ14) fun (r18 : Int64) (σ17 : Mem) =>
  bn (f_Ma_outcome r18 σ17) fun (r21 : Int32) (σ20 : Mem) =>
  if r21 = (3 : Int32) then (
  some (r18, σ20))
  else (
  bn (f_Ma_outcome r9 σ20) fun (r24 : Int32) (σ23 : Mem) =>
  if r24 = 0 then (
  bn (f_Ma_outcome r18 σ23) fun (r27 : Int32) (σ26 : Mem) =>
  if r27 = 0 then (
  bn (f_Ma_content r9 σ26) fun (r30 : Int32) (σ29 : Mem) =>
  bn (f_Ma_content r18 σ29) fun (r33 : Int32) (σ32 : Mem) =>
  bn (f_Ma_value (0 : Int32) (r30 + r33) σ32) fun (r36 : Int64) (σ35 : Mem) =>
  some (r36, σ35))
  else (
  f_Ma_runSum_J80 rc i v3 v4 v5 r9 r18 σ26))
  else (
  f_Ma_runSum_J80 rc i v3 v4 v5 r9 r18 σ23)))
set_option maxHeartbeats 4000000 in
set_option maxRecDepth 100000 in
theorem c_Ma_runSum (l : Launch) (g : Gw) (hg : wInj g) {rc : Nat → Int32 → Int32 → Int32 → Mem → Option (Int64 × Mem)} {d0 : Nat} (hd0 : 2 ≤ d0) (hrc : ∀ {i : Nat} (hi : i < 17) {v3 : Int32} {v4 : Int32} {v5 : Int32} {r0 : Int64} {σ σ0 : Mem}, rc i v3 v4 v5 σ = some (r0, σ0) → KL l yMa_runTerm cMa_runTerm 6 (some .long) d0 g [.ref (ad g 11), .ref (ad g (cP i)), .ref (ad g 6), .int v3, .int v4, .int v5] σ r0 σ0) {i : Nat} (hi : i < 17) {v3 : Int32} {v4 : Int32} {v5 : Int32} {r0 : Int64} {σ σ0 : Mem} (h : f_Ma_runSum rc i v3 v4 v5 σ = some (r0, σ0)) : KL l yMa_runSum cMa_runSum 10 (some .long) (d0 + 1) g [.ref (ad g 11), .ref (ad g (cP i)), .ref (ad g 6), .int v3, .int v4, .int v5] σ r0 σ0 := by
  refine q_met g hg (own := "TermBench$Machine") rfl rfl (Nat.le_of_ble_eq_true rfl) (fun p e s m args below meth c R Q cx hRk hr hQ H locs ls hP hS hl => ?_)
  have hx := cx.1
  have hb := cx.2.1
  have hown := cx.2.2.2.1
  have hts := cx.2.2.2.2.1
  have hl : lv_has ls 10 [(0, .ref (ad g 11)), (1, .ref (ad g (cP i))), (2, .ref (ad g 6)), (3, .int v3), (4, .int v4), (5, .int v5)] := hl
  have J80 : ∀ (v3 : Int32) (v4 : Int32) (v5 : Int32) (v6 : Int64) (v8 : Int64) (σ : Mem), f_Ma_runSum_J80 rc i v3 v4 v5 v6 v8 σ = some (r0, σ0) → ∀ (H : Heap) (locs : List Loc) (ls : Array Slot), lv_has ls 10 [(0, .ref (ad g 11)), (1, .ref (ad g (cP i))), (2, .ref (ad g 6)), (3, .int v3), (4, .int v4), (5, .int v5), (6, .long v6), (8, .long v8)] → Wd g σ H → va_S (wA g) s.heap H locs → W p l e R s m args below meth c H locs 0 0 Q (F0 m 80 ls []) := by
    intro v3 v4 v5 v6 v8 σ h H locs ls hl hP hS
    unfold f_Ma_runSum_J80 at h
    refine lv_iconst (v := 2) hx hb dMa_runSum_80 (by decide) ?_
    refine lv_iconst (v := 0) hx hb dMa_runSum_81 (by decide) ?_
    obtain ⟨r3, σ2, h1, h⟩ := bn_some h
    refine q_cSl (rest := []) (As := [.int (2 : Int32), .int (0 : Int32)]) cx hP hS hRk (c_Ma_value l g hg h1) Y_Ma_value S_Ma_value t_490 (by omega) rfl hl.1 rfl (Nat.le_of_ble_eq_true rfl) dMa_runSum_82 (fun H locs hP hS => ?_)
    exact q_rl cx hr hP hS hQ h dMa_runSum_85
  unfold f_Ma_runSum at h
  refine lv_aload_n hx hb dMa_runSum_0 rfl (lv_at hl 0 rfl) ?_
  refine lv_aload_n hx hb dMa_runSum_1 rfl (lv_at hl 1 rfl) ?_
  refine lv_aload_n hx hb dMa_runSum_2 rfl (lv_at hl 2 rfl) ?_
  refine lv_aload_n hx hb dMa_runSum_3 rfl (lv_at hl 1 rfl) ?_
  refine lv_iload_n hx hb dMa_runSum_4 rfl (lv_at hl 3 rfl) ?_
  refine lv_iconst (v := 0) hx hb dMa_runSum_5 (by decide) ?_
  obtain ⟨r6, σ5, h4, h⟩ := bn_some h
  refine q_cVi (rest := [.ref (ad g 6), .ref (ad g (cP i)), .ref (ad g 11)]) (As := [.int v3, .int (0 : Int32)]) cx hP hS hRk (c_Pr_part l g hg hi h4) Y_Pr_part V_Pr_part t_501 (by omega) (l_cP hi) (e_cP g hi _ _) rfl rfl hl.1 rfl (Nat.le_of_ble_eq_true rfl) dMa_runSum_6 (fun H locs hP hS => ?_)
  refine lv_iload hx hb dMa_runSum_9 (lv_at hl 4 rfl) ?_
  refine lv_iload hx hb dMa_runSum_11 (lv_at hl 5 rfl) ?_
  refine lv_iconst (v := 1) hx hb dMa_runSum_13 (by decide) ?_
  refine lv_iadd hx hb dMa_runSum_14 ?_
  obtain ⟨r9, σ8, h7, h⟩ := bn_some h
  refine q_cVl (rest := []) (As := [.ref (ad g (cP i)), .ref (ad g 6), .int r6, .int v4, .int (v5 + (1 : Int32))]) cx hP hS hRk (hrc hi h7) Y_Ma_runTerm V_Ma_runTerm t_486 (by omega) (by decide) (e_11 g _ _) rfl rfl hl.1 rfl (Nat.le_of_ble_eq_true rfl) dMa_runSum_15 (fun H locs hP hS => ?_)
  refine lv_lstore (lv' := [(6, .long r9), (0, .ref (ad g 11)), (1, .ref (ad g (cP i))), (2, .ref (ad g 6)), (3, .int v3), (4, .int v4), (5, .int v5)]) hx hb dMa_runSum_18 hl (Nat.le_of_ble_eq_true rfl) rfl (fun ls hl => ?_)
  refine lv_lload hx hb dMa_runSum_20 (lv_at hl 0 rfl) ?_
  obtain ⟨r12, σ11, h10, h⟩ := bn_some h
  refine q_cSi (rest := []) (As := [.long r9]) cx hP hS hRk (c_Ma_outcome l g hg h10) Y_Ma_outcome S_Ma_outcome t_502 (by omega) rfl hl.1 rfl (Nat.le_of_ble_eq_true rfl) dMa_runSum_22 (fun H locs hP hS => ?_)
  refine lv_iconst (v := 3) hx hb dMa_runSum_25 (by decide) ?_
  refine lv_icmp_ne (tgt := 32) hx hb dMa_runSum_26 (by decide) (fun hc => ?_) (fun hc => ?_)
  · replace h := if_f h hc
    refine lv_aload_n hx hb dMa_runSum_32 rfl (lv_at hl 1 rfl) ?_
    refine lv_aload_n hx hb dMa_runSum_33 rfl (lv_at hl 2 rfl) ?_
    refine lv_aload_n hx hb dMa_runSum_34 rfl (lv_at hl 3 rfl) ?_
    refine lv_aload_n hx hb dMa_runSum_35 rfl (lv_at hl 2 rfl) ?_
    refine lv_iload_n hx hb dMa_runSum_36 rfl (lv_at hl 4 rfl) ?_
    refine lv_iconst (v := 1) hx hb dMa_runSum_37 (by decide) ?_
    obtain ⟨r15, σ14, h13, h⟩ := bn_some h
    refine q_cVi (rest := [.ref (ad g 6), .ref (ad g (cP i)), .ref (ad g 11)]) (As := [.int v3, .int (1 : Int32)]) cx hP hS hRk (c_Pr_part l g hg hi h13) Y_Pr_part V_Pr_part t_501 (by omega) (l_cP hi) (e_cP g hi _ _) rfl rfl hl.1 rfl (Nat.le_of_ble_eq_true rfl) dMa_runSum_38 (fun H locs hP hS => ?_)
    refine lv_iload hx hb dMa_runSum_41 (lv_at hl 5 rfl) ?_
    refine lv_iload hx hb dMa_runSum_43 (lv_at hl 6 rfl) ?_
    refine lv_iconst (v := 1) hx hb dMa_runSum_45 (by decide) ?_
    refine lv_iadd hx hb dMa_runSum_46 ?_
    obtain ⟨r18, σ17, h16, h⟩ := bn_some h
    refine q_cVl (rest := []) (As := [.ref (ad g (cP i)), .ref (ad g 6), .int r15, .int v4, .int (v5 + (1 : Int32))]) cx hP hS hRk (hrc hi h16) Y_Ma_runTerm V_Ma_runTerm t_486 (by omega) (by decide) (e_11 g _ _) rfl rfl hl.1 rfl (Nat.le_of_ble_eq_true rfl) dMa_runSum_47 (fun H locs hP hS => ?_)
    refine lv_lstore (lv' := [(8, .long r18), (6, .long r9), (0, .ref (ad g 11)), (1, .ref (ad g (cP i))), (2, .ref (ad g 6)), (3, .int v3), (4, .int v4), (5, .int v5)]) hx hb dMa_runSum_50 hl (Nat.le_of_ble_eq_true rfl) rfl (fun ls hl => ?_)
    refine lv_lload hx hb dMa_runSum_52 (lv_at hl 0 rfl) ?_
    obtain ⟨r21, σ20, h19, h⟩ := bn_some h
    refine q_cSi (rest := []) (As := [.long r18]) cx hP hS hRk (c_Ma_outcome l g hg h19) Y_Ma_outcome S_Ma_outcome t_502 (by omega) rfl hl.1 rfl (Nat.le_of_ble_eq_true rfl) dMa_runSum_54 (fun H locs hP hS => ?_)
    refine lv_iconst (v := 3) hx hb dMa_runSum_57 (by decide) ?_
    refine lv_icmp_ne (tgt := 64) hx hb dMa_runSum_58 (by decide) (fun hc => ?_) (fun hc => ?_)
    · replace h := if_f h hc
      refine lv_lload hx hb dMa_runSum_64 (lv_at hl 1 rfl) ?_
      obtain ⟨r24, σ23, h22, h⟩ := bn_some h
      refine q_cSi (rest := []) (As := [.long r9]) cx hP hS hRk (c_Ma_outcome l g hg h22) Y_Ma_outcome S_Ma_outcome t_502 (by omega) rfl hl.1 rfl (Nat.le_of_ble_eq_true rfl) dMa_runSum_66 (fun H locs hP hS => ?_)
      refine lv_if_ne (tgt := 80) hx hb dMa_runSum_69 (by decide) (fun hc => ?_) (fun hc => ?_)
      · replace h := if_f h hc
        exact J80 _ _ _ _ _ _ h _ _ _ (lv_sub hl [2, 3, 4, 5, 6, 7, 1, 0] rfl) hP hS
      · replace h := if_t h hc
        refine lv_lload hx hb dMa_runSum_72 (lv_at hl 0 rfl) ?_
        obtain ⟨r27, σ26, h25, h⟩ := bn_some h
        refine q_cSi (rest := []) (As := [.long r18]) cx hP hS hRk (c_Ma_outcome l g hg h25) Y_Ma_outcome S_Ma_outcome t_502 (by omega) rfl hl.1 rfl (Nat.le_of_ble_eq_true rfl) dMa_runSum_74 (fun H locs hP hS => ?_)
        refine lv_if_eq (tgt := 86) hx hb dMa_runSum_77 (by decide) (fun hc => ?_) (fun hc => ?_)
        · replace h := if_t h hc
          refine lv_iconst (v := 0) hx hb dMa_runSum_86 (by decide) ?_
          refine lv_lload hx hb dMa_runSum_87 (lv_at hl 1 rfl) ?_
          obtain ⟨r30, σ29, h28, h⟩ := bn_some h
          refine q_cSi (rest := [.int (0 : Int32)]) (As := [.long r9]) cx hP hS hRk (c_Ma_content l g hg h28) Y_Ma_content S_Ma_content t_505 (by omega) rfl hl.1 rfl (Nat.le_of_ble_eq_true rfl) dMa_runSum_89 (fun H locs hP hS => ?_)
          refine lv_lload hx hb dMa_runSum_92 (lv_at hl 0 rfl) ?_
          obtain ⟨r33, σ32, h31, h⟩ := bn_some h
          refine q_cSi (rest := [.int r30, .int (0 : Int32)]) (As := [.long r18]) cx hP hS hRk (c_Ma_content l g hg h31) Y_Ma_content S_Ma_content t_505 (by omega) rfl hl.1 rfl (Nat.le_of_ble_eq_true rfl) dMa_runSum_94 (fun H locs hP hS => ?_)
          refine lv_iadd hx hb dMa_runSum_97 ?_
          obtain ⟨r36, σ35, h34, h⟩ := bn_some h
          refine q_cSl (rest := []) (As := [.int (0 : Int32), .int (r30 + r33)]) cx hP hS hRk (c_Ma_value l g hg h34) Y_Ma_value S_Ma_value t_490 (by omega) rfl hl.1 rfl (Nat.le_of_ble_eq_true rfl) dMa_runSum_98 (fun H locs hP hS => ?_)
          exact q_rl cx hr hP hS hQ h dMa_runSum_101
        · replace h := if_f h hc
          exact J80 _ _ _ _ _ _ h _ _ _ (lv_sub hl [2, 3, 4, 5, 6, 7, 1, 0] rfl) hP hS
    · replace h := if_t h hc
      refine lv_lload hx hb dMa_runSum_61 (lv_at hl 0 rfl) ?_
      exact q_rl cx hr hP hS hQ h dMa_runSum_63
  · replace h := if_t h hc
    refine lv_lload hx hb dMa_runSum_29 (lv_at hl 0 rfl) ?_
    exact q_rl cx hr hP hS hQ h dMa_runSum_31
theorem dMa_runCall_0 : decode cMa_runCall 0 = .ok (.aload_n 0, 1) := by decide +kernel
theorem dMa_runCall_1 : decode cMa_runCall 1 = .ok (.aload_n 1, 1) := by decide +kernel
theorem dMa_runCall_2 : decode cMa_runCall 2 = .ok (.aload_n 2, 1) := by decide +kernel
theorem dMa_runCall_3 : decode cMa_runCall 3 = .ok (.aload_n 1, 1) := by decide +kernel
theorem dMa_runCall_4 : decode cMa_runCall 4 = .ok (.iload_n 3, 1) := by decide +kernel
theorem dMa_runCall_5 : decode cMa_runCall 5 = .ok (.iconst 0, 1) := by decide +kernel
theorem dMa_runCall_6 : decode cMa_runCall 6 = .ok (.invokevirtual 64, 3) := by decide +kernel
theorem dMa_runCall_9 : decode cMa_runCall 9 = .ok (.iload 4, 2) := by decide +kernel
theorem dMa_runCall_11 : decode cMa_runCall 11 = .ok (.iload 5, 2) := by decide +kernel
theorem dMa_runCall_13 : decode cMa_runCall 13 = .ok (.iconst 1, 1) := by decide +kernel
theorem dMa_runCall_14 : decode cMa_runCall 14 = .ok (.iadd, 1) := by decide +kernel
theorem dMa_runCall_15 : decode cMa_runCall 15 = .ok (.invokevirtual 32, 3) := by decide +kernel
theorem dMa_runCall_18 : decode cMa_runCall 18 = .ok (.lstore 6, 2) := by decide +kernel
theorem dMa_runCall_20 : decode cMa_runCall 20 = .ok (.lload 6, 2) := by decide +kernel
theorem dMa_runCall_22 : decode cMa_runCall 22 = .ok (.invokestatic 36, 3) := by decide +kernel
theorem dMa_runCall_25 : decode cMa_runCall 25 = .ok (.iconst 3, 1) := by decide +kernel
theorem dMa_runCall_26 : decode cMa_runCall 26 = .ok (.if_icmp .ne 6, 3) := by decide +kernel
theorem dMa_runCall_29 : decode cMa_runCall 29 = .ok (.lload 6, 2) := by decide +kernel
theorem dMa_runCall_31 : decode cMa_runCall 31 = .ok (.lreturn, 1) := by decide +kernel
theorem dMa_runCall_32 : decode cMa_runCall 32 = .ok (.aload_n 0, 1) := by decide +kernel
theorem dMa_runCall_33 : decode cMa_runCall 33 = .ok (.aload_n 1, 1) := by decide +kernel
theorem dMa_runCall_34 : decode cMa_runCall 34 = .ok (.aload_n 2, 1) := by decide +kernel
theorem dMa_runCall_35 : decode cMa_runCall 35 = .ok (.aload_n 1, 1) := by decide +kernel
theorem dMa_runCall_36 : decode cMa_runCall 36 = .ok (.iload_n 3, 1) := by decide +kernel
theorem dMa_runCall_37 : decode cMa_runCall 37 = .ok (.iconst 1, 1) := by decide +kernel
theorem dMa_runCall_38 : decode cMa_runCall 38 = .ok (.invokevirtual 64, 3) := by decide +kernel
theorem dMa_runCall_41 : decode cMa_runCall 41 = .ok (.iload 4, 2) := by decide +kernel
theorem dMa_runCall_43 : decode cMa_runCall 43 = .ok (.iload 5, 2) := by decide +kernel
theorem dMa_runCall_45 : decode cMa_runCall 45 = .ok (.iconst 1, 1) := by decide +kernel
theorem dMa_runCall_46 : decode cMa_runCall 46 = .ok (.iadd, 1) := by decide +kernel
theorem dMa_runCall_47 : decode cMa_runCall 47 = .ok (.invokevirtual 32, 3) := by decide +kernel
theorem dMa_runCall_50 : decode cMa_runCall 50 = .ok (.lstore 8, 2) := by decide +kernel
theorem dMa_runCall_52 : decode cMa_runCall 52 = .ok (.lload 8, 2) := by decide +kernel
theorem dMa_runCall_54 : decode cMa_runCall 54 = .ok (.invokestatic 36, 3) := by decide +kernel
theorem dMa_runCall_57 : decode cMa_runCall 57 = .ok (.iconst 3, 1) := by decide +kernel
theorem dMa_runCall_58 : decode cMa_runCall 58 = .ok (.if_icmp .ne 6, 3) := by decide +kernel
theorem dMa_runCall_61 : decode cMa_runCall 61 = .ok (.lload 8, 2) := by decide +kernel
theorem dMa_runCall_63 : decode cMa_runCall 63 = .ok (.lreturn, 1) := by decide +kernel
theorem dMa_runCall_64 : decode cMa_runCall 64 = .ok (.lload 6, 2) := by decide +kernel
theorem dMa_runCall_66 : decode cMa_runCall 66 = .ok (.invokestatic 36, 3) := by decide +kernel
theorem dMa_runCall_69 : decode cMa_runCall 69 = .ok (.iconst 1, 1) := by decide +kernel
theorem dMa_runCall_70 : decode cMa_runCall 70 = .ok (.if_icmp .eq 9, 3) := by decide +kernel
theorem dMa_runCall_73 : decode cMa_runCall 73 = .ok (.iconst 2, 1) := by decide +kernel
theorem dMa_runCall_74 : decode cMa_runCall 74 = .ok (.iconst 0, 1) := by decide +kernel
theorem dMa_runCall_75 : decode cMa_runCall 75 = .ok (.invokestatic 43, 3) := by decide +kernel
theorem dMa_runCall_78 : decode cMa_runCall 78 = .ok (.lreturn, 1) := by decide +kernel
theorem dMa_runCall_79 : decode cMa_runCall 79 = .ok (.lload 6, 2) := by decide +kernel
theorem dMa_runCall_81 : decode cMa_runCall 81 = .ok (.invokestatic 40, 3) := by decide +kernel
theorem dMa_runCall_84 : decode cMa_runCall 84 = .ok (.bipush 40, 2) := by decide +kernel
theorem dMa_runCall_86 : decode cMa_runCall 86 = .ok (.irem, 1) := by decide +kernel
theorem dMa_runCall_87 : decode cMa_runCall 87 = .ok (.istore 10, 2) := by decide +kernel
theorem dMa_runCall_89 : decode cMa_runCall 89 = .ok (.lload 6, 2) := by decide +kernel
theorem dMa_runCall_91 : decode cMa_runCall 91 = .ok (.invokestatic 40, 3) := by decide +kernel
theorem dMa_runCall_94 : decode cMa_runCall 94 = .ok (.bipush 40, 2) := by decide +kernel
theorem dMa_runCall_96 : decode cMa_runCall 96 = .ok (.idiv, 1) := by decide +kernel
theorem dMa_runCall_97 : decode cMa_runCall 97 = .ok (.istore 11, 2) := by decide +kernel
theorem dMa_runCall_99 : decode cMa_runCall 99 = .ok (.aload_n 0, 1) := by decide +kernel
theorem dMa_runCall_100 : decode cMa_runCall 100 = .ok (.aload_n 1, 1) := by decide +kernel
theorem dMa_runCall_101 : decode cMa_runCall 101 = .ok (.getfield 52, 3) := by decide +kernel
theorem dMa_runCall_104 : decode cMa_runCall 104 = .ok (.iload 10, 2) := by decide +kernel
theorem dMa_runCall_106 : decode cMa_runCall 106 = .ok (.iaload, 1) := by decide +kernel
theorem dMa_runCall_107 : decode cMa_runCall 107 = .ok (.lload 8, 2) := by decide +kernel
theorem dMa_runCall_109 : decode cMa_runCall 109 = .ok (.iload 11, 2) := by decide +kernel
theorem dMa_runCall_111 : decode cMa_runCall 111 = .ok (.invokevirtual 68, 3) := by decide +kernel
theorem dMa_runCall_114 : decode cMa_runCall 114 = .ok (.istore 12, 2) := by decide +kernel
theorem dMa_runCall_116 : decode cMa_runCall 116 = .ok (.aload_n 0, 1) := by decide +kernel
theorem dMa_runCall_117 : decode cMa_runCall 117 = .ok (.aload_n 1, 1) := by decide +kernel
theorem dMa_runCall_118 : decode cMa_runCall 118 = .ok (.aload_n 2, 1) := by decide +kernel
theorem dMa_runCall_119 : decode cMa_runCall 119 = .ok (.aload_n 1, 1) := by decide +kernel
theorem dMa_runCall_120 : decode cMa_runCall 120 = .ok (.iload 10, 2) := by decide +kernel
theorem dMa_runCall_122 : decode cMa_runCall 122 = .ok (.iconst 0, 1) := by decide +kernel
theorem dMa_runCall_123 : decode cMa_runCall 123 = .ok (.invokevirtual 64, 3) := by decide +kernel
theorem dMa_runCall_126 : decode cMa_runCall 126 = .ok (.iload 12, 2) := by decide +kernel
theorem dMa_runCall_128 : decode cMa_runCall 128 = .ok (.iload 5, 2) := by decide +kernel
theorem dMa_runCall_130 : decode cMa_runCall 130 = .ok (.iconst 1, 1) := by decide +kernel
theorem dMa_runCall_131 : decode cMa_runCall 131 = .ok (.iadd, 1) := by decide +kernel
theorem dMa_runCall_132 : decode cMa_runCall 132 = .ok (.invokevirtual 32, 3) := by decide +kernel
theorem dMa_runCall_135 : decode cMa_runCall 135 = .ok (.lreturn, 1) := by decide +kernel
def f_Ma_runCall (rc : Nat → Int32 → Int32 → Int32 → Mem → Option (Int64 × Mem)) (i : Nat) (v3 : Int32) (v4 : Int32) (v5 : Int32) (σ : Mem) : Option (Int64 × Mem) :=
  bn (f_Pr_part i v3 (0 : Int32) σ) fun (r3 : Int32) (σ2 : Mem) =>
  bn (rc i r3 v4 (v5 + (1 : Int32)) σ2) fun (r6 : Int64) (σ5 : Mem) =>
  bn (f_Ma_outcome r6 σ5) fun (r9 : Int32) (σ8 : Mem) =>
  if r9 = (3 : Int32) then (
  some (r6, σ8))
  else (
  bn (f_Pr_part i v3 (1 : Int32) σ8) fun (r12 : Int32) (σ11 : Mem) =>
  bn (rc i r12 v4 (v5 + (1 : Int32)) σ11) fun (r15 : Int64) (σ14 : Mem) =>
  bn (f_Ma_outcome r15 σ14) fun (r18 : Int32) (σ17 : Mem) =>
  if r18 = (3 : Int32) then (
  some (r15, σ17))
  else (
  bn (f_Ma_outcome r6 σ17) fun (r21 : Int32) (σ20 : Mem) =>
  if r21 = (1 : Int32) then (
  bn (f_Ma_content r6 σ20) fun (r24 : Int32) (σ23 : Mem) =>
  lt_ (r24 - r24 / (40 : Int32) * (40 : Int32)) fun (x25 : Int32) =>
  bn (f_Ma_content r6 σ23) fun (r28 : Int32) (σ27 : Mem) =>
  lt_ (r28 / (40 : Int32)) fun (x29 : Int32) =>
  gd (inb x25 40) (
  bn (f_Ma_bind (σ27.1 (cPf i) x25.toNatClampNeg) r15 x29 σ27) fun (r33 : Int32) (σ32 : Mem) =>
  bn (f_Pr_part i x25 (0 : Int32) σ32) fun (r36 : Int32) (σ35 : Mem) =>
  bn (rc i r36 r33 (v5 + (1 : Int32)) σ35) fun (r39 : Int64) (σ38 : Mem) =>
  some (r39, σ38)))
  else (
  bn (f_Ma_value (2 : Int32) (0 : Int32) σ20) fun (r42 : Int64) (σ41 : Mem) =>
  some (r42, σ41))))
set_option maxHeartbeats 4000000 in
set_option maxRecDepth 100000 in
theorem c_Ma_runCall (l : Launch) (g : Gw) (hg : wInj g) {rc : Nat → Int32 → Int32 → Int32 → Mem → Option (Int64 × Mem)} {d0 : Nat} (hd0 : 2 ≤ d0) (hrc : ∀ {i : Nat} (hi : i < 17) {v3 : Int32} {v4 : Int32} {v5 : Int32} {r0 : Int64} {σ σ0 : Mem}, rc i v3 v4 v5 σ = some (r0, σ0) → KL l yMa_runTerm cMa_runTerm 6 (some .long) d0 g [.ref (ad g 11), .ref (ad g (cP i)), .ref (ad g 6), .int v3, .int v4, .int v5] σ r0 σ0) {i : Nat} (hi : i < 17) {v3 : Int32} {v4 : Int32} {v5 : Int32} {r0 : Int64} {σ σ0 : Mem} (h : f_Ma_runCall rc i v3 v4 v5 σ = some (r0, σ0)) : KL l yMa_runCall cMa_runCall 13 (some .long) (d0 + 1) g [.ref (ad g 11), .ref (ad g (cP i)), .ref (ad g 6), .int v3, .int v4, .int v5] σ r0 σ0 := by
  refine q_met g hg (own := "TermBench$Machine") rfl rfl (Nat.le_of_ble_eq_true rfl) (fun p e s m args below meth c R Q cx hRk hr hQ H locs ls hP hS hl => ?_)
  have hx := cx.1
  have hb := cx.2.1
  have hown := cx.2.2.2.1
  have hts := cx.2.2.2.2.1
  have hl : lv_has ls 13 [(0, .ref (ad g 11)), (1, .ref (ad g (cP i))), (2, .ref (ad g 6)), (3, .int v3), (4, .int v4), (5, .int v5)] := hl
  unfold f_Ma_runCall at h
  refine lv_aload_n hx hb dMa_runCall_0 rfl (lv_at hl 0 rfl) ?_
  refine lv_aload_n hx hb dMa_runCall_1 rfl (lv_at hl 1 rfl) ?_
  refine lv_aload_n hx hb dMa_runCall_2 rfl (lv_at hl 2 rfl) ?_
  refine lv_aload_n hx hb dMa_runCall_3 rfl (lv_at hl 1 rfl) ?_
  refine lv_iload_n hx hb dMa_runCall_4 rfl (lv_at hl 3 rfl) ?_
  refine lv_iconst (v := 0) hx hb dMa_runCall_5 (by decide) ?_
  obtain ⟨r3, σ2, h1, h⟩ := bn_some h
  refine q_cVi (rest := [.ref (ad g 6), .ref (ad g (cP i)), .ref (ad g 11)]) (As := [.int v3, .int (0 : Int32)]) cx hP hS hRk (c_Pr_part l g hg hi h1) Y_Pr_part V_Pr_part t_501 (by omega) (l_cP hi) (e_cP g hi _ _) rfl rfl hl.1 rfl (Nat.le_of_ble_eq_true rfl) dMa_runCall_6 (fun H locs hP hS => ?_)
  refine lv_iload hx hb dMa_runCall_9 (lv_at hl 4 rfl) ?_
  refine lv_iload hx hb dMa_runCall_11 (lv_at hl 5 rfl) ?_
  refine lv_iconst (v := 1) hx hb dMa_runCall_13 (by decide) ?_
  refine lv_iadd hx hb dMa_runCall_14 ?_
  obtain ⟨r6, σ5, h4, h⟩ := bn_some h
  refine q_cVl (rest := []) (As := [.ref (ad g (cP i)), .ref (ad g 6), .int r3, .int v4, .int (v5 + (1 : Int32))]) cx hP hS hRk (hrc hi h4) Y_Ma_runTerm V_Ma_runTerm t_486 (by omega) (by decide) (e_11 g _ _) rfl rfl hl.1 rfl (Nat.le_of_ble_eq_true rfl) dMa_runCall_15 (fun H locs hP hS => ?_)
  refine lv_lstore (lv' := [(6, .long r6), (0, .ref (ad g 11)), (1, .ref (ad g (cP i))), (2, .ref (ad g 6)), (3, .int v3), (4, .int v4), (5, .int v5)]) hx hb dMa_runCall_18 hl (Nat.le_of_ble_eq_true rfl) rfl (fun ls hl => ?_)
  refine lv_lload hx hb dMa_runCall_20 (lv_at hl 0 rfl) ?_
  obtain ⟨r9, σ8, h7, h⟩ := bn_some h
  refine q_cSi (rest := []) (As := [.long r6]) cx hP hS hRk (c_Ma_outcome l g hg h7) Y_Ma_outcome S_Ma_outcome t_502 (by omega) rfl hl.1 rfl (Nat.le_of_ble_eq_true rfl) dMa_runCall_22 (fun H locs hP hS => ?_)
  refine lv_iconst (v := 3) hx hb dMa_runCall_25 (by decide) ?_
  refine lv_icmp_ne (tgt := 32) hx hb dMa_runCall_26 (by decide) (fun hc => ?_) (fun hc => ?_)
  · replace h := if_f h hc
    refine lv_aload_n hx hb dMa_runCall_32 rfl (lv_at hl 1 rfl) ?_
    refine lv_aload_n hx hb dMa_runCall_33 rfl (lv_at hl 2 rfl) ?_
    refine lv_aload_n hx hb dMa_runCall_34 rfl (lv_at hl 3 rfl) ?_
    refine lv_aload_n hx hb dMa_runCall_35 rfl (lv_at hl 2 rfl) ?_
    refine lv_iload_n hx hb dMa_runCall_36 rfl (lv_at hl 4 rfl) ?_
    refine lv_iconst (v := 1) hx hb dMa_runCall_37 (by decide) ?_
    obtain ⟨r12, σ11, h10, h⟩ := bn_some h
    refine q_cVi (rest := [.ref (ad g 6), .ref (ad g (cP i)), .ref (ad g 11)]) (As := [.int v3, .int (1 : Int32)]) cx hP hS hRk (c_Pr_part l g hg hi h10) Y_Pr_part V_Pr_part t_501 (by omega) (l_cP hi) (e_cP g hi _ _) rfl rfl hl.1 rfl (Nat.le_of_ble_eq_true rfl) dMa_runCall_38 (fun H locs hP hS => ?_)
    refine lv_iload hx hb dMa_runCall_41 (lv_at hl 5 rfl) ?_
    refine lv_iload hx hb dMa_runCall_43 (lv_at hl 6 rfl) ?_
    refine lv_iconst (v := 1) hx hb dMa_runCall_45 (by decide) ?_
    refine lv_iadd hx hb dMa_runCall_46 ?_
    obtain ⟨r15, σ14, h13, h⟩ := bn_some h
    refine q_cVl (rest := []) (As := [.ref (ad g (cP i)), .ref (ad g 6), .int r12, .int v4, .int (v5 + (1 : Int32))]) cx hP hS hRk (hrc hi h13) Y_Ma_runTerm V_Ma_runTerm t_486 (by omega) (by decide) (e_11 g _ _) rfl rfl hl.1 rfl (Nat.le_of_ble_eq_true rfl) dMa_runCall_47 (fun H locs hP hS => ?_)
    refine lv_lstore (lv' := [(8, .long r15), (6, .long r6), (0, .ref (ad g 11)), (1, .ref (ad g (cP i))), (2, .ref (ad g 6)), (3, .int v3), (4, .int v4), (5, .int v5)]) hx hb dMa_runCall_50 hl (Nat.le_of_ble_eq_true rfl) rfl (fun ls hl => ?_)
    refine lv_lload hx hb dMa_runCall_52 (lv_at hl 0 rfl) ?_
    obtain ⟨r18, σ17, h16, h⟩ := bn_some h
    refine q_cSi (rest := []) (As := [.long r15]) cx hP hS hRk (c_Ma_outcome l g hg h16) Y_Ma_outcome S_Ma_outcome t_502 (by omega) rfl hl.1 rfl (Nat.le_of_ble_eq_true rfl) dMa_runCall_54 (fun H locs hP hS => ?_)
    refine lv_iconst (v := 3) hx hb dMa_runCall_57 (by decide) ?_
    refine lv_icmp_ne (tgt := 64) hx hb dMa_runCall_58 (by decide) (fun hc => ?_) (fun hc => ?_)
    · replace h := if_f h hc
      refine lv_lload hx hb dMa_runCall_64 (lv_at hl 1 rfl) ?_
      obtain ⟨r21, σ20, h19, h⟩ := bn_some h
      refine q_cSi (rest := []) (As := [.long r6]) cx hP hS hRk (c_Ma_outcome l g hg h19) Y_Ma_outcome S_Ma_outcome t_502 (by omega) rfl hl.1 rfl (Nat.le_of_ble_eq_true rfl) dMa_runCall_66 (fun H locs hP hS => ?_)
      refine lv_iconst (v := 1) hx hb dMa_runCall_69 (by decide) ?_
      refine lv_icmp_eq (tgt := 79) hx hb dMa_runCall_70 (by decide) (fun hc => ?_) (fun hc => ?_)
      · replace h := if_t h hc
        refine lv_lload hx hb dMa_runCall_79 (lv_at hl 1 rfl) ?_
        obtain ⟨r24, σ23, h22, h⟩ := bn_some h
        refine q_cSi (rest := []) (As := [.long r6]) cx hP hS hRk (c_Ma_content l g hg h22) Y_Ma_content S_Ma_content t_505 (by omega) rfl hl.1 rfl (Nat.le_of_ble_eq_true rfl) dMa_runCall_81 (fun H locs hP hS => ?_)
        refine lv_bipush (v := 40) hx hb dMa_runCall_84 (by decide) ?_
        refine lv_irem hx hb dMa_runCall_86 (by decide) ?_
        obtain ⟨x25, ex25, h⟩ := lt_some h
        refine q_nmi ex25 ?_
        refine lv_istore (lv' := [(10, .int x25), (8, .long r15), (6, .long r6), (0, .ref (ad g 11)), (1, .ref (ad g (cP i))), (2, .ref (ad g 6)), (3, .int v3), (4, .int v4), (5, .int v5)]) hx hb dMa_runCall_87 hl (Nat.le_of_ble_eq_true rfl) rfl (fun ls hl => ?_)
        refine lv_lload hx hb dMa_runCall_89 (lv_at hl 2 rfl) ?_
        obtain ⟨r28, σ27, h26, h⟩ := bn_some h
        refine q_cSi (rest := []) (As := [.long r6]) cx hP hS hRk (c_Ma_content l g hg h26) Y_Ma_content S_Ma_content t_505 (by omega) rfl hl.1 rfl (Nat.le_of_ble_eq_true rfl) dMa_runCall_91 (fun H locs hP hS => ?_)
        refine lv_bipush (v := 40) hx hb dMa_runCall_94 (by decide) ?_
        refine lv_idiv hx hb dMa_runCall_96 (by decide) ?_
        obtain ⟨x29, ex29, h⟩ := lt_some h
        refine q_nmi ex29 ?_
        refine lv_istore (lv' := [(11, .int x29), (10, .int x25), (8, .long r15), (6, .long r6), (0, .ref (ad g 11)), (1, .ref (ad g (cP i))), (2, .ref (ad g 6)), (3, .int v3), (4, .int v4), (5, .int v5)]) hx hb dMa_runCall_97 hl (Nat.le_of_ble_eq_true rfl) rfl (fun ls hl => ?_)
        refine lv_aload_n hx hb dMa_runCall_99 rfl (lv_at hl 4 rfl) ?_
        refine lv_aload_n hx hb dMa_runCall_100 rfl (lv_at hl 5 rfl) ?_
        refine g_Pr_figures cx hP hi  t_40 dMa_runCall_101 ?_
        refine lv_iload hx hb dMa_runCall_104 (lv_at hl 1 rfl) ?_
        obtain ⟨b30, h⟩ := gd_some h
        refine q_iald cx hP (l_cPf hi) (e_cPf g hi) b30 dMa_runCall_106 ?_
        refine lv_lload hx hb dMa_runCall_107 (lv_at hl 2 rfl) ?_
        refine lv_iload hx hb dMa_runCall_109 (lv_at hl 0 rfl) ?_
        obtain ⟨r33, σ32, h31, h⟩ := bn_some h
        refine q_cVi (rest := []) (As := [.int (σ27.1 (cPf i) x25.toNatClampNeg), .long r15, .int x29]) cx hP hS hRk (c_Ma_bind l g hg h31) Y_Ma_bind V_Ma_bind t_512 (by omega) (by decide) (e_11 g _ _) rfl rfl hl.1 rfl (Nat.le_of_ble_eq_true rfl) dMa_runCall_111 (fun H locs hP hS => ?_)
        refine lv_istore (lv' := [(12, .int r33), (11, .int x29), (10, .int x25), (8, .long r15), (6, .long r6), (0, .ref (ad g 11)), (1, .ref (ad g (cP i))), (2, .ref (ad g 6)), (3, .int v3), (4, .int v4), (5, .int v5)]) hx hb dMa_runCall_114 hl (Nat.le_of_ble_eq_true rfl) rfl (fun ls hl => ?_)
        refine lv_aload_n hx hb dMa_runCall_116 rfl (lv_at hl 5 rfl) ?_
        refine lv_aload_n hx hb dMa_runCall_117 rfl (lv_at hl 6 rfl) ?_
        refine lv_aload_n hx hb dMa_runCall_118 rfl (lv_at hl 7 rfl) ?_
        refine lv_aload_n hx hb dMa_runCall_119 rfl (lv_at hl 6 rfl) ?_
        refine lv_iload hx hb dMa_runCall_120 (lv_at hl 2 rfl) ?_
        refine lv_iconst (v := 0) hx hb dMa_runCall_122 (by decide) ?_
        obtain ⟨r36, σ35, h34, h⟩ := bn_some h
        refine q_cVi (rest := [.ref (ad g 6), .ref (ad g (cP i)), .ref (ad g 11)]) (As := [.int x25, .int (0 : Int32)]) cx hP hS hRk (c_Pr_part l g hg hi h34) Y_Pr_part V_Pr_part t_501 (by omega) (l_cP hi) (e_cP g hi _ _) rfl rfl hl.1 rfl (Nat.le_of_ble_eq_true rfl) dMa_runCall_123 (fun H locs hP hS => ?_)
        refine lv_iload hx hb dMa_runCall_126 (lv_at hl 0 rfl) ?_
        refine lv_iload hx hb dMa_runCall_128 (lv_at hl 10 rfl) ?_
        refine lv_iconst (v := 1) hx hb dMa_runCall_130 (by decide) ?_
        refine lv_iadd hx hb dMa_runCall_131 ?_
        obtain ⟨r39, σ38, h37, h⟩ := bn_some h
        refine q_cVl (rest := []) (As := [.ref (ad g (cP i)), .ref (ad g 6), .int r36, .int r33, .int (v5 + (1 : Int32))]) cx hP hS hRk (hrc hi h37) Y_Ma_runTerm V_Ma_runTerm t_486 (by omega) (by decide) (e_11 g _ _) rfl rfl hl.1 rfl (Nat.le_of_ble_eq_true rfl) dMa_runCall_132 (fun H locs hP hS => ?_)
        exact q_rl cx hr hP hS hQ h dMa_runCall_135
      · replace h := if_f h hc
        refine lv_iconst (v := 2) hx hb dMa_runCall_73 (by decide) ?_
        refine lv_iconst (v := 0) hx hb dMa_runCall_74 (by decide) ?_
        obtain ⟨r42, σ41, h40, h⟩ := bn_some h
        refine q_cSl (rest := []) (As := [.int (2 : Int32), .int (0 : Int32)]) cx hP hS hRk (c_Ma_value l g hg h40) Y_Ma_value S_Ma_value t_490 (by omega) rfl hl.1 rfl (Nat.le_of_ble_eq_true rfl) dMa_runCall_75 (fun H locs hP hS => ?_)
        exact q_rl cx hr hP hS hQ h dMa_runCall_78
    · replace h := if_t h hc
      refine lv_lload hx hb dMa_runCall_61 (lv_at hl 0 rfl) ?_
      exact q_rl cx hr hP hS hQ h dMa_runCall_63
  · replace h := if_t h hc
    refine lv_lload hx hb dMa_runCall_29 (lv_at hl 0 rfl) ?_
    exact q_rl cx hr hP hS hQ h dMa_runCall_31
theorem dMa_runTerm_0 : decode cMa_runTerm 0 = .ok (.iload_n 3, 1) := by decide +kernel
theorem dMa_runTerm_1 : decode cMa_runTerm 1 = .ok (.ifCond .lt 20, 3) := by decide +kernel
theorem dMa_runTerm_4 : decode cMa_runTerm 4 = .ok (.aload_n 0, 1) := by decide +kernel
theorem dMa_runTerm_5 : decode cMa_runTerm 5 = .ok (.getfield 26, 3) := by decide +kernel
theorem dMa_runTerm_8 : decode cMa_runTerm 8 = .ok (.sipush 400, 3) := by decide +kernel
theorem dMa_runTerm_11 : decode cMa_runTerm 11 = .ok (.if_icmp .ge 10, 3) := by decide +kernel
theorem dMa_runTerm_14 : decode cMa_runTerm 14 = .ok (.iload 5, 2) := by decide +kernel
theorem dMa_runTerm_16 : decode cMa_runTerm 16 = .ok (.bipush 60, 2) := by decide +kernel
theorem dMa_runTerm_18 : decode cMa_runTerm 18 = .ok (.if_icmp .lt 9, 3) := by decide +kernel
theorem dMa_runTerm_21 : decode cMa_runTerm 21 = .ok (.iconst 3, 1) := by decide +kernel
theorem dMa_runTerm_22 : decode cMa_runTerm 22 = .ok (.iconst 0, 1) := by decide +kernel
theorem dMa_runTerm_23 : decode cMa_runTerm 23 = .ok (.invokestatic 43, 3) := by decide +kernel
theorem dMa_runTerm_26 : decode cMa_runTerm 26 = .ok (.lreturn, 1) := by decide +kernel
theorem dMa_runTerm_27 : decode cMa_runTerm 27 = .ok (.aload_n 0, 1) := by decide +kernel
theorem dMa_runTerm_28 : decode cMa_runTerm 28 = .ok (.dup, 1) := by decide +kernel
theorem dMa_runTerm_29 : decode cMa_runTerm 29 = .ok (.getfield 26, 3) := by decide +kernel
theorem dMa_runTerm_32 : decode cMa_runTerm 32 = .ok (.iconst 1, 1) := by decide +kernel
theorem dMa_runTerm_33 : decode cMa_runTerm 33 = .ok (.iadd, 1) := by decide +kernel
theorem dMa_runTerm_34 : decode cMa_runTerm 34 = .ok (.putfield 26, 3) := by decide +kernel
theorem dMa_runTerm_37 : decode cMa_runTerm 37 = .ok (.aload_n 2, 1) := by decide +kernel
theorem dMa_runTerm_38 : decode cMa_runTerm 38 = .ok (.iload_n 3, 1) := by decide +kernel
theorem dMa_runTerm_39 : decode cMa_runTerm 39 = .ok (.iaload, 1) := by decide +kernel
theorem dMa_runTerm_40 : decode cMa_runTerm 40 = .ok (.ifCond .eq 9, 3) := by decide +kernel
theorem dMa_runTerm_43 : decode cMa_runTerm 43 = .ok (.iconst 2, 1) := by decide +kernel
theorem dMa_runTerm_44 : decode cMa_runTerm 44 = .ok (.iconst 0, 1) := by decide +kernel
theorem dMa_runTerm_45 : decode cMa_runTerm 45 = .ok (.invokestatic 43, 3) := by decide +kernel
theorem dMa_runTerm_48 : decode cMa_runTerm 48 = .ok (.lreturn, 1) := by decide +kernel
theorem dMa_runTerm_49 : decode cMa_runTerm 49 = .ok (.aload_n 1, 1) := by decide +kernel
theorem dMa_runTerm_50 : decode cMa_runTerm 50 = .ok (.getfield 47, 3) := by decide +kernel
theorem dMa_runTerm_53 : decode cMa_runTerm 53 = .ok (.iload_n 3, 1) := by decide +kernel
theorem dMa_runTerm_54 : decode cMa_runTerm 54 = .ok (.iaload, 1) := by decide +kernel
theorem dMa_runTerm_55 : decode cMa_runTerm 55 = .ok (.tableswitch 116 1 6 #[37, 48, 61, 73, 85, 97], 37) := by decide +kernel
theorem dMa_runTerm_92 : decode cMa_runTerm 92 = .ok (.iconst 0, 1) := by decide +kernel
theorem dMa_runTerm_93 : decode cMa_runTerm 93 = .ok (.aload_n 1, 1) := by decide +kernel
theorem dMa_runTerm_94 : decode cMa_runTerm 94 = .ok (.getfield 52, 3) := by decide +kernel
theorem dMa_runTerm_97 : decode cMa_runTerm 97 = .ok (.iload_n 3, 1) := by decide +kernel
theorem dMa_runTerm_98 : decode cMa_runTerm 98 = .ok (.iaload, 1) := by decide +kernel
theorem dMa_runTerm_99 : decode cMa_runTerm 99 = .ok (.invokestatic 43, 3) := by decide +kernel
theorem dMa_runTerm_102 : decode cMa_runTerm 102 = .ok (.lreturn, 1) := by decide +kernel
theorem dMa_runTerm_103 : decode cMa_runTerm 103 = .ok (.aload_n 0, 1) := by decide +kernel
theorem dMa_runTerm_104 : decode cMa_runTerm 104 = .ok (.aload_n 1, 1) := by decide +kernel
theorem dMa_runTerm_105 : decode cMa_runTerm 105 = .ok (.getfield 52, 3) := by decide +kernel
theorem dMa_runTerm_108 : decode cMa_runTerm 108 = .ok (.iload_n 3, 1) := by decide +kernel
theorem dMa_runTerm_109 : decode cMa_runTerm 109 = .ok (.iaload, 1) := by decide +kernel
theorem dMa_runTerm_110 : decode cMa_runTerm 110 = .ok (.iload 4, 2) := by decide +kernel
theorem dMa_runTerm_112 : decode cMa_runTerm 112 = .ok (.invokevirtual 55, 3) := by decide +kernel
theorem dMa_runTerm_115 : decode cMa_runTerm 115 = .ok (.lreturn, 1) := by decide +kernel
theorem dMa_runTerm_116 : decode cMa_runTerm 116 = .ok (.aload_n 0, 1) := by decide +kernel
theorem dMa_runTerm_117 : decode cMa_runTerm 117 = .ok (.aload_n 1, 1) := by decide +kernel
theorem dMa_runTerm_118 : decode cMa_runTerm 118 = .ok (.aload_n 2, 1) := by decide +kernel
theorem dMa_runTerm_119 : decode cMa_runTerm 119 = .ok (.iload_n 3, 1) := by decide +kernel
theorem dMa_runTerm_120 : decode cMa_runTerm 120 = .ok (.iload 4, 2) := by decide +kernel
theorem dMa_runTerm_122 : decode cMa_runTerm 122 = .ok (.iload 5, 2) := by decide +kernel
theorem dMa_runTerm_124 : decode cMa_runTerm 124 = .ok (.invokevirtual 58, 3) := by decide +kernel
theorem dMa_runTerm_127 : decode cMa_runTerm 127 = .ok (.lreturn, 1) := by decide +kernel
theorem dMa_runTerm_128 : decode cMa_runTerm 128 = .ok (.aload_n 0, 1) := by decide +kernel
theorem dMa_runTerm_129 : decode cMa_runTerm 129 = .ok (.aload_n 1, 1) := by decide +kernel
theorem dMa_runTerm_130 : decode cMa_runTerm 130 = .ok (.aload_n 2, 1) := by decide +kernel
theorem dMa_runTerm_131 : decode cMa_runTerm 131 = .ok (.iload_n 3, 1) := by decide +kernel
theorem dMa_runTerm_132 : decode cMa_runTerm 132 = .ok (.iload 4, 2) := by decide +kernel
theorem dMa_runTerm_134 : decode cMa_runTerm 134 = .ok (.iload 5, 2) := by decide +kernel
theorem dMa_runTerm_136 : decode cMa_runTerm 136 = .ok (.invokevirtual 61, 3) := by decide +kernel
theorem dMa_runTerm_139 : decode cMa_runTerm 139 = .ok (.lreturn, 1) := by decide +kernel
theorem dMa_runTerm_140 : decode cMa_runTerm 140 = .ok (.iconst 1, 1) := by decide +kernel
theorem dMa_runTerm_141 : decode cMa_runTerm 141 = .ok (.iload 4, 2) := by decide +kernel
theorem dMa_runTerm_143 : decode cMa_runTerm 143 = .ok (.bipush 40, 2) := by decide +kernel
theorem dMa_runTerm_145 : decode cMa_runTerm 145 = .ok (.imul, 1) := by decide +kernel
theorem dMa_runTerm_146 : decode cMa_runTerm 146 = .ok (.iload_n 3, 1) := by decide +kernel
theorem dMa_runTerm_147 : decode cMa_runTerm 147 = .ok (.iadd, 1) := by decide +kernel
theorem dMa_runTerm_148 : decode cMa_runTerm 148 = .ok (.invokestatic 43, 3) := by decide +kernel
theorem dMa_runTerm_151 : decode cMa_runTerm 151 = .ok (.lreturn, 1) := by decide +kernel
theorem dMa_runTerm_152 : decode cMa_runTerm 152 = .ok (.aload_n 0, 1) := by decide +kernel
theorem dMa_runTerm_153 : decode cMa_runTerm 153 = .ok (.aload_n 1, 1) := by decide +kernel
theorem dMa_runTerm_154 : decode cMa_runTerm 154 = .ok (.aload_n 2, 1) := by decide +kernel
theorem dMa_runTerm_155 : decode cMa_runTerm 155 = .ok (.aload_n 1, 1) := by decide +kernel
theorem dMa_runTerm_156 : decode cMa_runTerm 156 = .ok (.iload_n 3, 1) := by decide +kernel
theorem dMa_runTerm_157 : decode cMa_runTerm 157 = .ok (.iconst 0, 1) := by decide +kernel
theorem dMa_runTerm_158 : decode cMa_runTerm 158 = .ok (.invokevirtual 64, 3) := by decide +kernel
theorem dMa_runTerm_161 : decode cMa_runTerm 161 = .ok (.iload 4, 2) := by decide +kernel
theorem dMa_runTerm_163 : decode cMa_runTerm 163 = .ok (.iload 5, 2) := by decide +kernel
theorem dMa_runTerm_165 : decode cMa_runTerm 165 = .ok (.iconst 1, 1) := by decide +kernel
theorem dMa_runTerm_166 : decode cMa_runTerm 166 = .ok (.iadd, 1) := by decide +kernel
theorem dMa_runTerm_167 : decode cMa_runTerm 167 = .ok (.invokevirtual 32, 3) := by decide +kernel
theorem dMa_runTerm_170 : decode cMa_runTerm 170 = .ok (.lreturn, 1) := by decide +kernel
theorem dMa_runTerm_171 : decode cMa_runTerm 171 = .ok (.iconst 2, 1) := by decide +kernel
theorem dMa_runTerm_172 : decode cMa_runTerm 172 = .ok (.iconst 0, 1) := by decide +kernel
theorem dMa_runTerm_173 : decode cMa_runTerm 173 = .ok (.invokestatic 43, 3) := by decide +kernel
theorem dMa_runTerm_176 : decode cMa_runTerm 176 = .ok (.lreturn, 1) := by decide +kernel
def f_Ma_runTerm_J21 (rc : Nat → Int32 → Int32 → Int32 → Mem → Option (Int64 × Mem)) (i : Nat) (v3 : Int32) (v4 : Int32) (v5 : Int32) (σ : Mem) : Option (Int64 × Mem) :=
  bn (f_Ma_value (3 : Int32) (0 : Int32) σ) fun (r3 : Int64) (σ2 : Mem) =>
  some (r3, σ2)
def f_Ma_runTerm (rc : Nat → Int32 → Int32 → Int32 → Mem → Option (Int64 × Mem)) (i : Nat) (v3 : Int32) (v4 : Int32) (v5 : Int32) (σ : Mem) : Option (Int64 × Mem) :=
  if v3 < 0 then (
  f_Ma_runTerm_J21 rc i v3 v4 v5 σ)
  else (
  if (400 : Int32) ≤ (σ.1 11 4) then (
  f_Ma_runTerm_J21 rc i v3 v4 v5 σ)
  else (
  if v5 < (60 : Int32) then (
  lt_ (sI σ 11 4 ((σ.1 11 4) + (1 : Int32))) fun (σ4 : Mem) =>
  gd (inb v3 40) (
  if (σ4.1 6 v3.toNatClampNeg) = 0 then (
  gd (inb v3 40) (
  if (σ4.1 (cPk i) v3.toNatClampNeg) = (1 : Int32) then (
  gd (inb v3 40) (
  bn (f_Ma_value (0 : Int32) (σ4.1 (cPf i) v3.toNatClampNeg) σ4) fun (r10 : Int64) (σ9 : Mem) =>
  some (r10, σ9)))
  else (
  if (σ4.1 (cPk i) v3.toNatClampNeg) = (2 : Int32) then (
  gd (inb v3 40) (
  bn (f_Ma_standsFor (σ4.1 (cPf i) v3.toNatClampNeg) v4 σ4) fun (r14 : Int64) (σ13 : Mem) =>
  some (r14, σ13)))
  else (
  if (σ4.1 (cPk i) v3.toNatClampNeg) = (3 : Int32) then (
  bn (f_Ma_runSum rc i v3 v4 v5 σ4) fun (r17 : Int64) (σ16 : Mem) =>
  some (r17, σ16))
  else (
  if (σ4.1 (cPk i) v3.toNatClampNeg) = (4 : Int32) then (
  bn (f_Ma_runCall rc i v3 v4 v5 σ4) fun (r20 : Int64) (σ19 : Mem) =>
  some (r20, σ19))
  else (
  if (σ4.1 (cPk i) v3.toNatClampNeg) = (5 : Int32) then (
  bn (f_Ma_value (1 : Int32) ((v4 * (40 : Int32)) + v3) σ4) fun (r23 : Int64) (σ22 : Mem) =>
  some (r23, σ22))
  else (
  if (σ4.1 (cPk i) v3.toNatClampNeg) = (6 : Int32) then (
  bn (f_Pr_part i v3 (0 : Int32) σ4) fun (r26 : Int32) (σ25 : Mem) =>
  bn (rc i r26 v4 (v5 + (1 : Int32)) σ25) fun (r29 : Int64) (σ28 : Mem) =>
  some (r29, σ28))
  else (
  bn (f_Ma_value (2 : Int32) (0 : Int32) σ4) fun (r32 : Int64) (σ31 : Mem) =>
  some (r32, σ31)))))))))
  else (
  bn (f_Ma_value (2 : Int32) (0 : Int32) σ4) fun (r35 : Int64) (σ34 : Mem) =>
  some (r35, σ34))))
  else (
  f_Ma_runTerm_J21 rc i v3 v4 v5 σ)))
set_option maxHeartbeats 4000000 in
set_option maxRecDepth 100000 in
theorem c_Ma_runTerm (l : Launch) (g : Gw) (hg : wInj g) {rc : Nat → Int32 → Int32 → Int32 → Mem → Option (Int64 × Mem)} {d0 : Nat} (hd0 : 2 ≤ d0) (hrc : ∀ {i : Nat} (hi : i < 17) {v3 : Int32} {v4 : Int32} {v5 : Int32} {r0 : Int64} {σ σ0 : Mem}, rc i v3 v4 v5 σ = some (r0, σ0) → KL l yMa_runTerm cMa_runTerm 6 (some .long) d0 g [.ref (ad g 11), .ref (ad g (cP i)), .ref (ad g 6), .int v3, .int v4, .int v5] σ r0 σ0) {i : Nat} (hi : i < 17) {v3 : Int32} {v4 : Int32} {v5 : Int32} {r0 : Int64} {σ σ0 : Mem} (h : f_Ma_runTerm rc i v3 v4 v5 σ = some (r0, σ0)) : KL l yMa_runTerm cMa_runTerm 6 (some .long) (d0 + 2) g [.ref (ad g 11), .ref (ad g (cP i)), .ref (ad g 6), .int v3, .int v4, .int v5] σ r0 σ0 := by
  refine q_met g hg (own := "TermBench$Machine") rfl rfl (Nat.le_of_ble_eq_true rfl) (fun p e s m args below meth c R Q cx hRk hr hQ H locs ls hP hS hl => ?_)
  have hx := cx.1
  have hb := cx.2.1
  have hown := cx.2.2.2.1
  have hts := cx.2.2.2.2.1
  have hl : lv_has ls 6 [(0, .ref (ad g 11)), (1, .ref (ad g (cP i))), (2, .ref (ad g 6)), (3, .int v3), (4, .int v4), (5, .int v5)] := hl
  have J21 : ∀ (v3 : Int32) (v4 : Int32) (v5 : Int32) (σ : Mem), f_Ma_runTerm_J21 rc i v3 v4 v5 σ = some (r0, σ0) → ∀ (H : Heap) (locs : List Loc) (ls : Array Slot), lv_has ls 6 [(0, .ref (ad g 11)), (1, .ref (ad g (cP i))), (2, .ref (ad g 6)), (3, .int v3), (4, .int v4), (5, .int v5)] → Wd g σ H → va_S (wA g) s.heap H locs → W p l e R s m args below meth c H locs 0 0 Q (F0 m 21 ls []) := by
    intro v3 v4 v5 σ h H locs ls hl hP hS
    unfold f_Ma_runTerm_J21 at h
    refine lv_iconst (v := 3) hx hb dMa_runTerm_21 (by decide) ?_
    refine lv_iconst (v := 0) hx hb dMa_runTerm_22 (by decide) ?_
    obtain ⟨r3, σ2, h1, h⟩ := bn_some h
    refine q_cSl (rest := []) (As := [.int (3 : Int32), .int (0 : Int32)]) cx hP hS hRk (c_Ma_value l g hg h1) Y_Ma_value S_Ma_value t_490 (by omega) rfl hl.1 rfl (Nat.le_of_ble_eq_true rfl) dMa_runTerm_23 (fun H locs hP hS => ?_)
    exact q_rl cx hr hP hS hQ h dMa_runTerm_26
  unfold f_Ma_runTerm at h
  refine lv_iload_n hx hb dMa_runTerm_0 rfl (lv_at hl 3 rfl) ?_
  refine lv_if_lt (tgt := 21) hx hb dMa_runTerm_1 (by decide) (fun hc => ?_) (fun hc => ?_)
  · replace h := if_t h hc
    exact J21 _ _ _ _ h _ _ _ (lv_sub hl [0, 1, 2, 3, 4, 5] rfl) hP hS
  · replace h := if_f h hc
    refine lv_aload_n hx hb dMa_runTerm_4 rfl (lv_at hl 0 rfl) ?_
    refine g_Ma_units cx hP  t_140 dMa_runTerm_5 ?_
    refine lv_sipush (v := 400) hx hb dMa_runTerm_8 (by decide) ?_
    refine lv_icmp_ge (tgt := 21) hx hb dMa_runTerm_11 (by decide) (fun hc => ?_) (fun hc => ?_)
    · replace h := if_t h hc
      exact J21 _ _ _ _ h _ _ _ (lv_sub hl [0, 1, 2, 3, 4, 5] rfl) hP hS
    · replace h := if_f h hc
      refine lv_iload hx hb dMa_runTerm_14 (lv_at hl 5 rfl) ?_
      refine lv_bipush (v := 60) hx hb dMa_runTerm_16 (by decide) ?_
      refine lv_icmp_lt (tgt := 27) hx hb dMa_runTerm_18 (by decide) (fun hc => ?_) (fun hc => ?_)
      · replace h := if_t h hc
        refine lv_aload_n hx hb dMa_runTerm_27 rfl (lv_at hl 0 rfl) ?_
        refine lv_dup hx hb dMa_runTerm_28 rfl ?_
        refine g_Ma_units cx hP  t_140 dMa_runTerm_29 ?_
        refine lv_iconst (v := 1) hx hb dMa_runTerm_32 (by decide) ?_
        refine lv_iadd hx hb dMa_runTerm_33 ?_
        obtain ⟨σ4, eσ4, h⟩ := lt_some h
        refine p_Ma_units cx hP hS t_140 dMa_runTerm_34 eσ4 (fun H locs hP hS => ?_)
        refine lv_aload_n hx hb dMa_runTerm_37 rfl (lv_at hl 2 rfl) ?_
        refine lv_iload_n hx hb dMa_runTerm_38 rfl (lv_at hl 3 rfl) ?_
        obtain ⟨b5, h⟩ := gd_some h
        refine q_iald cx hP (by decide) (e_6 g) b5 dMa_runTerm_39 ?_
        refine lv_if_eq (tgt := 49) hx hb dMa_runTerm_40 (by decide) (fun hc => ?_) (fun hc => ?_)
        · replace h := if_t h hc
          refine lv_aload_n hx hb dMa_runTerm_49 rfl (lv_at hl 1 rfl) ?_
          refine g_Pr_kinds cx hP hi  t_36 dMa_runTerm_50 ?_
          refine lv_iload_n hx hb dMa_runTerm_53 rfl (lv_at hl 3 rfl) ?_
          obtain ⟨b6, h⟩ := gd_some h
          refine q_iald cx hP (l_cPk hi) (e_cPk g hi) b6 dMa_runTerm_54 ?_
          rcases Decidable.em (σ4.1 (cPk i) v3.toNatClampNeg = (1 : Int32)) with hc1 | hc1
          · replace h := if_t h hc1
            refine lv_tableIn (tgt := 92) hx hb dMa_runTerm_55 (by rw [hc1]; decide) (by rw [hc1]; decide) (by rw [hc1]; rfl) (by decide) ?_
            refine lv_iconst (v := 0) hx hb dMa_runTerm_92 (by decide) ?_
            refine lv_aload_n hx hb dMa_runTerm_93 rfl (lv_at hl 1 rfl) ?_
            refine g_Pr_figures cx hP hi  t_40 dMa_runTerm_94 ?_
            refine lv_iload_n hx hb dMa_runTerm_97 rfl (lv_at hl 3 rfl) ?_
            obtain ⟨b7, h⟩ := gd_some h
            refine q_iald cx hP (l_cPf hi) (e_cPf g hi) b7 dMa_runTerm_98 ?_
            obtain ⟨r10, σ9, h8, h⟩ := bn_some h
            refine q_cSl (rest := []) (As := [.int (0 : Int32), .int (σ4.1 (cPf i) v3.toNatClampNeg)]) cx hP hS hRk (c_Ma_value l g hg h8) Y_Ma_value S_Ma_value t_490 (by omega) rfl hl.1 rfl (Nat.le_of_ble_eq_true rfl) dMa_runTerm_99 (fun H locs hP hS => ?_)
            exact q_rl cx hr hP hS hQ h dMa_runTerm_102
          · replace h := if_f h hc1
            rcases Decidable.em (σ4.1 (cPk i) v3.toNatClampNeg = (2 : Int32)) with hc2 | hc2
            · replace h := if_t h hc2
              refine lv_tableIn (tgt := 103) hx hb dMa_runTerm_55 (by rw [hc2]; decide) (by rw [hc2]; decide) (by rw [hc2]; rfl) (by decide) ?_
              refine lv_aload_n hx hb dMa_runTerm_103 rfl (lv_at hl 0 rfl) ?_
              refine lv_aload_n hx hb dMa_runTerm_104 rfl (lv_at hl 1 rfl) ?_
              refine g_Pr_figures cx hP hi  t_40 dMa_runTerm_105 ?_
              refine lv_iload_n hx hb dMa_runTerm_108 rfl (lv_at hl 3 rfl) ?_
              obtain ⟨b11, h⟩ := gd_some h
              refine q_iald cx hP (l_cPf hi) (e_cPf g hi) b11 dMa_runTerm_109 ?_
              refine lv_iload hx hb dMa_runTerm_110 (lv_at hl 4 rfl) ?_
              obtain ⟨r14, σ13, h12, h⟩ := bn_some h
              refine q_cVl (rest := []) (As := [.int (σ4.1 (cPf i) v3.toNatClampNeg), .int v4]) cx hP hS hRk (c_Ma_standsFor l g hg h12) Y_Ma_standsFor V_Ma_standsFor t_493 (by omega) (by decide) (e_11 g _ _) rfl rfl hl.1 rfl (Nat.le_of_ble_eq_true rfl) dMa_runTerm_112 (fun H locs hP hS => ?_)
              exact q_rl cx hr hP hS hQ h dMa_runTerm_115
            · replace h := if_f h hc2
              rcases Decidable.em (σ4.1 (cPk i) v3.toNatClampNeg = (3 : Int32)) with hc3 | hc3
              · replace h := if_t h hc3
                refine lv_tableIn (tgt := 116) hx hb dMa_runTerm_55 (by rw [hc3]; decide) (by rw [hc3]; decide) (by rw [hc3]; rfl) (by decide) ?_
                refine lv_aload_n hx hb dMa_runTerm_116 rfl (lv_at hl 0 rfl) ?_
                refine lv_aload_n hx hb dMa_runTerm_117 rfl (lv_at hl 1 rfl) ?_
                refine lv_aload_n hx hb dMa_runTerm_118 rfl (lv_at hl 2 rfl) ?_
                refine lv_iload_n hx hb dMa_runTerm_119 rfl (lv_at hl 3 rfl) ?_
                refine lv_iload hx hb dMa_runTerm_120 (lv_at hl 4 rfl) ?_
                refine lv_iload hx hb dMa_runTerm_122 (lv_at hl 5 rfl) ?_
                obtain ⟨r17, σ16, h15, h⟩ := bn_some h
                refine q_cVl (rest := []) (As := [.ref (ad g (cP i)), .ref (ad g 6), .int v3, .int v4, .int v5]) cx hP hS hRk (c_Ma_runSum l g hg hd0 hrc hi h15) Y_Ma_runSum V_Ma_runSum t_497 (by omega) (by decide) (e_11 g _ _) rfl rfl hl.1 rfl (Nat.le_of_ble_eq_true rfl) dMa_runTerm_124 (fun H locs hP hS => ?_)
                exact q_rl cx hr hP hS hQ h dMa_runTerm_127
              · replace h := if_f h hc3
                rcases Decidable.em (σ4.1 (cPk i) v3.toNatClampNeg = (4 : Int32)) with hc4 | hc4
                · replace h := if_t h hc4
                  refine lv_tableIn (tgt := 128) hx hb dMa_runTerm_55 (by rw [hc4]; decide) (by rw [hc4]; decide) (by rw [hc4]; rfl) (by decide) ?_
                  refine lv_aload_n hx hb dMa_runTerm_128 rfl (lv_at hl 0 rfl) ?_
                  refine lv_aload_n hx hb dMa_runTerm_129 rfl (lv_at hl 1 rfl) ?_
                  refine lv_aload_n hx hb dMa_runTerm_130 rfl (lv_at hl 2 rfl) ?_
                  refine lv_iload_n hx hb dMa_runTerm_131 rfl (lv_at hl 3 rfl) ?_
                  refine lv_iload hx hb dMa_runTerm_132 (lv_at hl 4 rfl) ?_
                  refine lv_iload hx hb dMa_runTerm_134 (lv_at hl 5 rfl) ?_
                  obtain ⟨r20, σ19, h18, h⟩ := bn_some h
                  refine q_cVl (rest := []) (As := [.ref (ad g (cP i)), .ref (ad g 6), .int v3, .int v4, .int v5]) cx hP hS hRk (c_Ma_runCall l g hg hd0 hrc hi h18) Y_Ma_runCall V_Ma_runCall t_508 (by omega) (by decide) (e_11 g _ _) rfl rfl hl.1 rfl (Nat.le_of_ble_eq_true rfl) dMa_runTerm_136 (fun H locs hP hS => ?_)
                  exact q_rl cx hr hP hS hQ h dMa_runTerm_139
                · replace h := if_f h hc4
                  rcases Decidable.em (σ4.1 (cPk i) v3.toNatClampNeg = (5 : Int32)) with hc5 | hc5
                  · replace h := if_t h hc5
                    refine lv_tableIn (tgt := 140) hx hb dMa_runTerm_55 (by rw [hc5]; decide) (by rw [hc5]; decide) (by rw [hc5]; rfl) (by decide) ?_
                    refine lv_iconst (v := 1) hx hb dMa_runTerm_140 (by decide) ?_
                    refine lv_iload hx hb dMa_runTerm_141 (lv_at hl 4 rfl) ?_
                    refine lv_bipush (v := 40) hx hb dMa_runTerm_143 (by decide) ?_
                    refine lv_imul hx hb dMa_runTerm_145 ?_
                    refine lv_iload_n hx hb dMa_runTerm_146 rfl (lv_at hl 3 rfl) ?_
                    refine lv_iadd hx hb dMa_runTerm_147 ?_
                    obtain ⟨r23, σ22, h21, h⟩ := bn_some h
                    refine q_cSl (rest := []) (As := [.int (1 : Int32), .int ((v4 * (40 : Int32)) + v3)]) cx hP hS hRk (c_Ma_value l g hg h21) Y_Ma_value S_Ma_value t_490 (by omega) rfl hl.1 rfl (Nat.le_of_ble_eq_true rfl) dMa_runTerm_148 (fun H locs hP hS => ?_)
                    exact q_rl cx hr hP hS hQ h dMa_runTerm_151
                  · replace h := if_f h hc5
                    rcases Decidable.em (σ4.1 (cPk i) v3.toNatClampNeg = (6 : Int32)) with hc6 | hc6
                    · replace h := if_t h hc6
                      refine lv_tableIn (tgt := 152) hx hb dMa_runTerm_55 (by rw [hc6]; decide) (by rw [hc6]; decide) (by rw [hc6]; rfl) (by decide) ?_
                      refine lv_aload_n hx hb dMa_runTerm_152 rfl (lv_at hl 0 rfl) ?_
                      refine lv_aload_n hx hb dMa_runTerm_153 rfl (lv_at hl 1 rfl) ?_
                      refine lv_aload_n hx hb dMa_runTerm_154 rfl (lv_at hl 2 rfl) ?_
                      refine lv_aload_n hx hb dMa_runTerm_155 rfl (lv_at hl 1 rfl) ?_
                      refine lv_iload_n hx hb dMa_runTerm_156 rfl (lv_at hl 3 rfl) ?_
                      refine lv_iconst (v := 0) hx hb dMa_runTerm_157 (by decide) ?_
                      obtain ⟨r26, σ25, h24, h⟩ := bn_some h
                      refine q_cVi (rest := [.ref (ad g 6), .ref (ad g (cP i)), .ref (ad g 11)]) (As := [.int v3, .int (0 : Int32)]) cx hP hS hRk (c_Pr_part l g hg hi h24) Y_Pr_part V_Pr_part t_501 (by omega) (l_cP hi) (e_cP g hi _ _) rfl rfl hl.1 rfl (Nat.le_of_ble_eq_true rfl) dMa_runTerm_158 (fun H locs hP hS => ?_)
                      refine lv_iload hx hb dMa_runTerm_161 (lv_at hl 4 rfl) ?_
                      refine lv_iload hx hb dMa_runTerm_163 (lv_at hl 5 rfl) ?_
                      refine lv_iconst (v := 1) hx hb dMa_runTerm_165 (by decide) ?_
                      refine lv_iadd hx hb dMa_runTerm_166 ?_
                      obtain ⟨r29, σ28, h27, h⟩ := bn_some h
                      refine q_cVl (rest := []) (As := [.ref (ad g (cP i)), .ref (ad g 6), .int r26, .int v4, .int (v5 + (1 : Int32))]) cx hP hS hRk (hrc hi h27) Y_Ma_runTerm V_Ma_runTerm t_486 (by omega) (by decide) (e_11 g _ _) rfl rfl hl.1 rfl (Nat.le_of_ble_eq_true rfl) dMa_runTerm_167 (fun H locs hP hS => ?_)
                      exact q_rl cx hr hP hS hQ h dMa_runTerm_170
                    · replace h := if_f h hc6
                      have hsw : (σ4.1 (cPk i) v3.toNatClampNeg).toInt < 1 ∨ 6 < (σ4.1 (cPk i) v3.toNatClampNeg).toInt := by
                        have n1 := lv_neT (k := 1) (a := 1) hc1 rfl
                        have n2 := lv_neT (k := 2) (a := 2) hc2 rfl
                        have n3 := lv_neT (k := 3) (a := 3) hc3 rfl
                        have n4 := lv_neT (k := 4) (a := 4) hc4 rfl
                        have n5 := lv_neT (k := 5) (a := 5) hc5 rfl
                        have n6 := lv_neT (k := 6) (a := 6) hc6 rfl
                        omega
                      refine lv_tableOut (tgt := 171) hx hb dMa_runTerm_55 hsw (by decide) ?_
                      refine lv_iconst (v := 2) hx hb dMa_runTerm_171 (by decide) ?_
                      refine lv_iconst (v := 0) hx hb dMa_runTerm_172 (by decide) ?_
                      obtain ⟨r32, σ31, h30, h⟩ := bn_some h
                      refine q_cSl (rest := []) (As := [.int (2 : Int32), .int (0 : Int32)]) cx hP hS hRk (c_Ma_value l g hg h30) Y_Ma_value S_Ma_value t_490 (by omega) rfl hl.1 rfl (Nat.le_of_ble_eq_true rfl) dMa_runTerm_173 (fun H locs hP hS => ?_)
                      exact q_rl cx hr hP hS hQ h dMa_runTerm_176
        · replace h := if_f h hc
          refine lv_iconst (v := 2) hx hb dMa_runTerm_43 (by decide) ?_
          refine lv_iconst (v := 0) hx hb dMa_runTerm_44 (by decide) ?_
          obtain ⟨r35, σ34, h33, h⟩ := bn_some h
          refine q_cSl (rest := []) (As := [.int (2 : Int32), .int (0 : Int32)]) cx hP hS hRk (c_Ma_value l g hg h33) Y_Ma_value S_Ma_value t_490 (by omega) rfl hl.1 rfl (Nat.le_of_ble_eq_true rfl) dMa_runTerm_45 (fun H locs hP hS => ?_)
          exact q_rl cx hr hP hS hQ h dMa_runTerm_48
      · replace h := if_f h hc
        exact J21 _ _ _ _ h _ _ _ (lv_sub hl [0, 1, 2, 3, 4, 5] rfl) hP hS
def F_Ma_runTerm : Nat → Nat → Int32 → Int32 → Int32 → Mem → Option (Int64 × Mem)
  | 0 => fun _ _ _ _ _ => none
  | n + 1 => fun a0 a1 a2 a3 a4 => f_Ma_runTerm (F_Ma_runTerm n) a0 a1 a2 a3 a4
theorem C_Ma_runTerm (l : Launch) (g : Gw) (hg : wInj g) : ∀ (n : Nat) {i : Nat} (hi : i < 17) {v3 : Int32} {v4 : Int32} {v5 : Int32} {r0 : Int64} {σ σ0 : Mem}, F_Ma_runTerm n i v3 v4 v5 σ = some (r0, σ0) → KL l yMa_runTerm cMa_runTerm 6 (some .long) (2 + 2 * n) g [.ref (ad g 11), .ref (ad g (cP i)), .ref (ad g 6), .int v3, .int v4, .int v5] σ r0 σ0 := by
  intro n
  induction n with
  | zero => intros; rename_i h; simp [F_Ma_runTerm] at h
  | succ n ih =>
    intros
    rename_i h
    exact c_Ma_runTerm l g hg (d0 := 2 + 2 * n) (Nat.le_add_right _ _) ih (by assumption) h
theorem dMa_start_0 : decode cMa_start 0 = .ok (.aload_n 0, 1) := by decide +kernel
theorem dMa_start_1 : decode cMa_start 1 = .ok (.iconst 0, 1) := by decide +kernel
theorem dMa_start_2 : decode cMa_start 2 = .ok (.putfield 22, 3) := by decide +kernel
theorem dMa_start_5 : decode cMa_start 5 = .ok (.aload_n 0, 1) := by decide +kernel
theorem dMa_start_6 : decode cMa_start 6 = .ok (.iconst 0, 1) := by decide +kernel
theorem dMa_start_7 : decode cMa_start 7 = .ok (.putfield 26, 3) := by decide +kernel
theorem dMa_start_10 : decode cMa_start 10 = .ok (.aload_n 0, 1) := by decide +kernel
theorem dMa_start_11 : decode cMa_start 11 = .ok (.aload_n 1, 1) := by decide +kernel
theorem dMa_start_12 : decode cMa_start 12 = .ok (.aload_n 2, 1) := by decide +kernel
theorem dMa_start_13 : decode cMa_start 13 = .ok (.iconst 0, 1) := by decide +kernel
theorem dMa_start_14 : decode cMa_start 14 = .ok (.iconst 0, 1) := by decide +kernel
theorem dMa_start_15 : decode cMa_start 15 = .ok (.iconst 0, 1) := by decide +kernel
theorem dMa_start_16 : decode cMa_start 16 = .ok (.invokevirtual 32, 3) := by decide +kernel
theorem dMa_start_19 : decode cMa_start 19 = .ok (.lstore_n 3, 1) := by decide +kernel
theorem dMa_start_20 : decode cMa_start 20 = .ok (.aload_n 0, 1) := by decide +kernel
theorem dMa_start_21 : decode cMa_start 21 = .ok (.lload_n 3, 1) := by decide +kernel
theorem dMa_start_22 : decode cMa_start 22 = .ok (.invokestatic 36, 3) := by decide +kernel
theorem dMa_start_25 : decode cMa_start 25 = .ok (.ifCond .ne 10, 3) := by decide +kernel
theorem dMa_start_28 : decode cMa_start 28 = .ok (.lload_n 3, 1) := by decide +kernel
theorem dMa_start_29 : decode cMa_start 29 = .ok (.invokestatic 40, 3) := by decide +kernel
theorem dMa_start_32 : decode cMa_start 32 = .ok (.goto 4, 3) := by decide +kernel
theorem dMa_start_35 : decode cMa_start 35 = .ok (.iconst 0, 1) := by decide +kernel
theorem dMa_start_36 : decode cMa_start 36 = .ok (.putfield 29, 3) := by decide +kernel
theorem dMa_start_39 : decode cMa_start 39 = .ok (.lload_n 3, 1) := by decide +kernel
theorem dMa_start_40 : decode cMa_start 40 = .ok (.invokestatic 36, 3) := by decide +kernel
theorem dMa_start_43 : decode cMa_start 43 = .ok (.ireturn, 1) := by decide +kernel
def f_Ma_start_J36 (i : Nat) (v3 : Int64) (u1 : Int32) (σ : Mem) : Option (Int32 × Mem) :=
  lt_ (sI σ 11 5 u1) fun (σ1 : Mem) =>
  bn (f_Ma_outcome v3 σ1) fun (r4 : Int32) (σ3 : Mem) =>
  some (r4, σ3)
def f_Ma_start (i : Nat)  (σ : Mem) : Option (Int32 × Mem) :=
  lt_ (sI σ 11 3 (0 : Int32)) fun (σ5 : Mem) =>
  lt_ (sI σ5 11 4 (0 : Int32)) fun (σ6 : Mem) =>
  bn (F_Ma_runTerm 61 i (0 : Int32) (0 : Int32) (0 : Int32) σ6) fun (r9 : Int64) (σ8 : Mem) =>
  bn (f_Ma_outcome r9 σ8) fun (r12 : Int32) (σ11 : Mem) =>
  if r12 = 0 then (
  bn (f_Ma_content r9 σ11) fun (r15 : Int32) (σ14 : Mem) =>
  f_Ma_start_J36 i r9 r15 σ14)
  else (
  f_Ma_start_J36 i r9 (0 : Int32) σ11)
set_option maxHeartbeats 4000000 in
set_option maxRecDepth 100000 in
theorem c_Ma_start (l : Launch) (g : Gw) (hg : wInj g) {i : Nat} (hi : i < 17) {r0 : Int32} {σ σ0 : Mem} (h : f_Ma_start i σ = some (r0, σ0)) : KI l yMa_start cMa_start 5 (some .int) 125 g [.ref (ad g 11), .ref (ad g (cP i)), .ref (ad g 6)] σ r0 σ0 := by
  refine q_met g hg (own := "TermBench$Machine") rfl rfl (Nat.le_of_ble_eq_true rfl) (fun p e s m args below meth c R Q cx hRk hr hQ H locs ls hP hS hl => ?_)
  have hx := cx.1
  have hb := cx.2.1
  have hown := cx.2.2.2.1
  have hts := cx.2.2.2.2.1
  have hl : lv_has ls 5 [(0, .ref (ad g 11)), (1, .ref (ad g (cP i))), (2, .ref (ad g 6))] := hl
  have J36 : ∀ (v3 : Int64) (u1 : Int32) (σ : Mem), f_Ma_start_J36 i v3 u1 σ = some (r0, σ0) → ∀ (H : Heap) (locs : List Loc) (ls : Array Slot), lv_has ls 5 [(0, .ref (ad g 11)), (1, .ref (ad g (cP i))), (2, .ref (ad g 6)), (3, .long v3)] → Wd g σ H → va_S (wA g) s.heap H locs → W p l e R s m args below meth c H locs 0 0 Q (F0 m 36 ls [.int u1, .ref (ad g 11)]) := by
    intro v3 u1 σ h H locs ls hl hP hS
    unfold f_Ma_start_J36 at h
    obtain ⟨σ1, eσ1, h⟩ := lt_some h
    refine p_Ma_number cx hP hS t_142 dMa_start_36 eσ1 (fun H locs hP hS => ?_)
    refine lv_lload_n hx hb dMa_start_39 rfl (lv_at hl 3 rfl) ?_
    obtain ⟨r4, σ3, h2, h⟩ := bn_some h
    refine q_cSi (rest := []) (As := [.long v3]) cx hP hS hRk (c_Ma_outcome l g hg h2) Y_Ma_outcome S_Ma_outcome t_502 (by decide) rfl hl.1 rfl (Nat.le_of_ble_eq_true rfl) dMa_start_40 (fun H locs hP hS => ?_)
    exact q_ri cx hr rfl hP hS hQ h dMa_start_43
  unfold f_Ma_start at h
  refine lv_aload_n hx hb dMa_start_0 rfl (lv_at hl 0 rfl) ?_
  refine lv_iconst (v := 0) hx hb dMa_start_1 (by decide) ?_
  obtain ⟨σ5, eσ5, h⟩ := lt_some h
  refine p_Ma_bound cx hP hS t_139 dMa_start_2 eσ5 (fun H locs hP hS => ?_)
  refine lv_aload_n hx hb dMa_start_5 rfl (lv_at hl 0 rfl) ?_
  refine lv_iconst (v := 0) hx hb dMa_start_6 (by decide) ?_
  obtain ⟨σ6, eσ6, h⟩ := lt_some h
  refine p_Ma_units cx hP hS t_140 dMa_start_7 eσ6 (fun H locs hP hS => ?_)
  refine lv_aload_n hx hb dMa_start_10 rfl (lv_at hl 0 rfl) ?_
  refine lv_aload_n hx hb dMa_start_11 rfl (lv_at hl 1 rfl) ?_
  refine lv_aload_n hx hb dMa_start_12 rfl (lv_at hl 2 rfl) ?_
  refine lv_iconst (v := 0) hx hb dMa_start_13 (by decide) ?_
  refine lv_iconst (v := 0) hx hb dMa_start_14 (by decide) ?_
  refine lv_iconst (v := 0) hx hb dMa_start_15 (by decide) ?_
  obtain ⟨r9, σ8, h7, h⟩ := bn_some h
  refine q_cVl (rest := []) (As := [.ref (ad g (cP i)), .ref (ad g 6), .int (0 : Int32), .int (0 : Int32), .int (0 : Int32)]) cx hP hS hRk (C_Ma_runTerm l g hg 61 hi h7) Y_Ma_runTerm V_Ma_runTerm t_486 (by decide) (by decide) (e_11 g _ _) rfl rfl hl.1 rfl (Nat.le_of_ble_eq_true rfl) dMa_start_16 (fun H locs hP hS => ?_)
  refine lv_lstore_n (lv' := [(3, .long r9), (0, .ref (ad g 11)), (1, .ref (ad g (cP i))), (2, .ref (ad g 6))]) hx hb dMa_start_19 rfl hl (Nat.le_of_ble_eq_true rfl) rfl (fun ls hl => ?_)
  refine lv_aload_n hx hb dMa_start_20 rfl (lv_at hl 1 rfl) ?_
  refine lv_lload_n hx hb dMa_start_21 rfl (lv_at hl 0 rfl) ?_
  obtain ⟨r12, σ11, h10, h⟩ := bn_some h
  refine q_cSi (rest := [.ref (ad g 11)]) (As := [.long r9]) cx hP hS hRk (c_Ma_outcome l g hg h10) Y_Ma_outcome S_Ma_outcome t_502 (by decide) rfl hl.1 rfl (Nat.le_of_ble_eq_true rfl) dMa_start_22 (fun H locs hP hS => ?_)
  refine lv_if_ne (tgt := 35) hx hb dMa_start_25 (by decide) (fun hc => ?_) (fun hc => ?_)
  · replace h := if_f h hc
    refine lv_iconst (v := 0) hx hb dMa_start_35 (by decide) ?_
    exact J36 _ _ _ h _ _ _ (lv_sub hl [1, 2, 3, 0] rfl) hP hS
  · replace h := if_t h hc
    refine lv_lload_n hx hb dMa_start_28 rfl (lv_at hl 0 rfl) ?_
    obtain ⟨r15, σ14, h13, h⟩ := bn_some h
    refine q_cSi (rest := [.ref (ad g 11)]) (As := [.long r9]) cx hP hS hRk (c_Ma_content l g hg h13) Y_Ma_content S_Ma_content t_505 (by decide) rfl hl.1 rfl (Nat.le_of_ble_eq_true rfl) dMa_start_29 (fun H locs hP hS => ?_)
    refine lv_goto (tgt := 36) hx hb dMa_start_32 (by decide) ?_
    exact J36 _ _ _ h _ _ _ (lv_sub hl [1, 2, 3, 0] rfl) hP hS
end
section
/-! 26.bench, by program: pure functions and contracts -/
theorem dBe_fillHole_0 : decode cBe_fillHole 0 = .ok (.aload_n 0, 1) := by decide +kernel
theorem dBe_fillHole_1 : decode cBe_fillHole 1 = .ok (.getfield 10, 3) := by decide +kernel
theorem dBe_fillHole_4 : decode cBe_fillHole 4 = .ok (.invokevirtual 53, 3) := by decide +kernel
theorem dBe_fillHole_7 : decode cBe_fillHole 7 = .ok (.invokevirtual 57, 3) := by decide +kernel
theorem dBe_fillHole_10 : decode cBe_fillHole 10 = .ok (.ifCond .ne 5, 3) := by decide +kernel
theorem dBe_fillHole_13 : decode cBe_fillHole 13 = .ok (.iconst 0, 1) := by decide +kernel
theorem dBe_fillHole_14 : decode cBe_fillHole 14 = .ok (.ireturn, 1) := by decide +kernel
theorem dBe_fillHole_15 : decode cBe_fillHole 15 = .ok (.aload_n 0, 1) := by decide +kernel
theorem dBe_fillHole_16 : decode cBe_fillHole 16 = .ok (.getfield 10, 3) := by decide +kernel
theorem dBe_fillHole_19 : decode cBe_fillHole 19 = .ok (.invokevirtual 63, 3) := by decide +kernel
theorem dBe_fillHole_22 : decode cBe_fillHole 22 = .ok (.iload_n 1, 1) := by decide +kernel
theorem dBe_fillHole_23 : decode cBe_fillHole 23 = .ok (.iload_n 2, 1) := by decide +kernel
theorem dBe_fillHole_24 : decode cBe_fillHole 24 = .ok (.invokevirtual 146, 3) := by decide +kernel
theorem dBe_fillHole_27 : decode cBe_fillHole 27 = .ok (.iconst 1, 1) := by decide +kernel
theorem dBe_fillHole_28 : decode cBe_fillHole 28 = .ok (.ireturn, 1) := by decide +kernel
def f_Be_fillHole  (v1 : Int32) (v2 : Int32) (σ : Mem) : Option (Int32 × Mem) :=
  bn (f_Hi_present σ) fun (i3 : Nat) (σ2 : Mem) =>
  gd (decide (i3 < 17)) (
  bn (f_Pr_isOnHole i3 σ2) fun (r7 : Int32) (σ6 : Mem) =>
  if r7 = 0 then (
  some ((0 : Int32), σ6))
  else (
  bn (f_Hi_keep σ6) fun (i10 : Nat) (σ9 : Mem) =>
  gd (decide (i10 < 17)) (
  bn (f_Pr_fill i10 v1 v2 σ9) fun (_ : Unit) (σ13 : Mem) =>
  some ((1 : Int32), σ13))))
set_option maxHeartbeats 4000000 in
set_option maxRecDepth 100000 in
theorem c_Be_fillHole (l : Launch) (g : Gw) (hg : wInj g) {v1 : Int32} {v2 : Int32} {r0 : Int32} {σ σ0 : Mem} (h : f_Be_fillHole v1 v2 σ = some (r0, σ0)) : KI l yBe_fillHole cBe_fillHole 3 (some .boolean) 3 g [.ref (ad g 0), .int v1, .int v2] σ r0 σ0 := by
  refine q_met g hg (own := "TermBench") rfl rfl (Nat.le_of_ble_eq_true rfl) (fun p e s m args below meth c R Q cx hRk hr hQ H locs ls hP hS hl => ?_)
  have hx := cx.1
  have hb := cx.2.1
  have hown := cx.2.2.2.1
  have hts := cx.2.2.2.2.1
  have hl : lv_has ls 3 [(0, .ref (ad g 0)), (1, .int v1), (2, .int v2)] := hl
  unfold f_Be_fillHole at h
  refine lv_aload_n hx hb dBe_fillHole_0 rfl (lv_at hl 0 rfl) ?_
  refine g_Be_history cx hP  t_157 dBe_fillHole_1 ?_
  obtain ⟨i3, σ2, h1, h⟩ := bn_some h
  obtain ⟨b4, h⟩ := gd_some h
  have hi3 : i3 < 17 := of_decide_eq_true b4
  refine q_cVr (rest := []) (As := []) cx hP hS hRk (c_Hi_present l g hg h1) Y_Hi_present V_Hi_present t_178 (by decide) (by decide) (e_1 g _ _) rfl rfl hl.1 rfl (Nat.le_of_ble_eq_true rfl) dBe_fillHole_4 (fun H locs hP hS => ?_)
  obtain ⟨r7, σ6, h5, h⟩ := bn_some h
  refine q_cVi (rest := []) (As := []) cx hP hS hRk (c_Pr_isOnHole l g hg hi3 h5) Y_Pr_isOnHole V_Pr_isOnHole t_182 (by decide) (l_cP hi3) (e_cP g hi3 _ _) rfl rfl hl.1 rfl (Nat.le_of_ble_eq_true rfl) dBe_fillHole_7 (fun H locs hP hS => ?_)
  refine lv_if_ne (tgt := 15) hx hb dBe_fillHole_10 (by decide) (fun hc => ?_) (fun hc => ?_)
  · replace h := if_f h hc
    refine lv_aload_n hx hb dBe_fillHole_15 rfl (lv_at hl 0 rfl) ?_
    refine g_Be_history cx hP  t_157 dBe_fillHole_16 ?_
    obtain ⟨i10, σ9, h8, h⟩ := bn_some h
    obtain ⟨b11, h⟩ := gd_some h
    have hi10 : i10 < 17 := of_decide_eq_true b11
    refine q_cVr (rest := []) (As := []) cx hP hS hRk (c_Hi_keep l g hg h8) Y_Hi_keep V_Hi_keep t_186 (by decide) (by decide) (e_1 g _ _) rfl rfl hl.1 rfl (Nat.le_of_ble_eq_true rfl) dBe_fillHole_19 (fun H locs hP hS => ?_)
    refine lv_iload_n hx hb dBe_fillHole_22 rfl (lv_at hl 1 rfl) ?_
    refine lv_iload_n hx hb dBe_fillHole_23 rfl (lv_at hl 2 rfl) ?_
    obtain ⟨rh12, σ13, h12, h⟩ := bn_some h
    refine q_cVv (rest := []) (As := [.int v1, .int v2]) cx hP hS hRk (c_Pr_fill l g hg hi10 h12) Y_Pr_fill V_Pr_fill t_201 (by decide) (l_cP hi10) (e_cP g hi10 _ _) rfl rfl hl.1 rfl (Nat.le_of_ble_eq_true rfl) dBe_fillHole_24 (fun H locs hP hS => ?_)
    refine lv_iconst (v := 1) hx hb dBe_fillHole_27 (by decide) ?_
    exact q_ri cx hr rfl hP hS hQ h dBe_fillHole_28
  · replace h := if_t h hc
    refine lv_iconst (v := 0) hx hb dBe_fillHole_13 (by decide) ?_
    exact q_ri cx hr rfl hP hS hQ h dBe_fillHole_14
theorem dBe_number_0 : decode cBe_number 0 = .ok (.iload_n 1, 1) := by decide +kernel
theorem dBe_number_1 : decode cBe_number 1 = .ok (.sipush (-999), 3) := by decide +kernel
theorem dBe_number_4 : decode cBe_number 4 = .ok (.if_icmp .lt 10, 3) := by decide +kernel
theorem dBe_number_7 : decode cBe_number 7 = .ok (.iload_n 1, 1) := by decide +kernel
theorem dBe_number_8 : decode cBe_number 8 = .ok (.sipush 999, 3) := by decide +kernel
theorem dBe_number_11 : decode cBe_number 11 = .ok (.if_icmp .le 5, 3) := by decide +kernel
theorem dBe_number_14 : decode cBe_number 14 = .ok (.iconst 0, 1) := by decide +kernel
theorem dBe_number_15 : decode cBe_number 15 = .ok (.ireturn, 1) := by decide +kernel
theorem dBe_number_16 : decode cBe_number 16 = .ok (.aload_n 0, 1) := by decide +kernel
theorem dBe_number_17 : decode cBe_number 17 = .ok (.iconst 1, 1) := by decide +kernel
theorem dBe_number_18 : decode cBe_number 18 = .ok (.iload_n 1, 1) := by decide +kernel
theorem dBe_number_19 : decode cBe_number 19 = .ok (.invokevirtual 37, 3) := by decide +kernel
theorem dBe_number_22 : decode cBe_number 22 = .ok (.ireturn, 1) := by decide +kernel
def f_Be_number_J14  (v1 : Int32) (σ : Mem) : Option (Int32 × Mem) :=
  some ((0 : Int32), σ)
def f_Be_number  (v1 : Int32) (σ : Mem) : Option (Int32 × Mem) :=
  if v1 < ((-999) : Int32) then (
  f_Be_number_J14 v1 σ)
  else (
  if v1 ≤ (999 : Int32) then (
  bn (f_Be_fillHole (1 : Int32) v1 σ) fun (r3 : Int32) (σ2 : Mem) =>
  gd (isB r3) (some (r3, σ2)))
  else (
  f_Be_number_J14 v1 σ))
set_option maxHeartbeats 4000000 in
set_option maxRecDepth 100000 in
theorem c_Be_number (l : Launch) (g : Gw) (hg : wInj g) {v1 : Int32} {r0 : Int32} {σ σ0 : Mem} (h : f_Be_number v1 σ = some (r0, σ0)) : KI l yBe_number cBe_number 2 (some .boolean) 4 g [.ref (ad g 0), .int v1] σ r0 σ0 := by
  refine q_met g hg (own := "TermBench") rfl rfl (Nat.le_of_ble_eq_true rfl) (fun p e s m args below meth c R Q cx hRk hr hQ H locs ls hP hS hl => ?_)
  have hx := cx.1
  have hb := cx.2.1
  have hown := cx.2.2.2.1
  have hts := cx.2.2.2.2.1
  have hl : lv_has ls 2 [(0, .ref (ad g 0)), (1, .int v1)] := hl
  have J14 : ∀ (v1 : Int32) (σ : Mem), f_Be_number_J14 v1 σ = some (r0, σ0) → ∀ (H : Heap) (locs : List Loc) (ls : Array Slot), lv_has ls 2 [(0, .ref (ad g 0)), (1, .int v1)] → Wd g σ H → va_S (wA g) s.heap H locs → W p l e R s m args below meth c H locs 0 0 Q (F0 m 14 ls []) := by
    intro v1 σ h H locs ls hl hP hS
    unfold f_Be_number_J14 at h
    refine lv_iconst (v := 0) hx hb dBe_number_14 (by decide) ?_
    exact q_ri cx hr rfl hP hS hQ h dBe_number_15
  unfold f_Be_number at h
  refine lv_iload_n hx hb dBe_number_0 rfl (lv_at hl 1 rfl) ?_
  refine lv_sipush (v := (-999)) hx hb dBe_number_1 (by decide) ?_
  refine lv_icmp_lt (tgt := 14) hx hb dBe_number_4 (by decide) (fun hc => ?_) (fun hc => ?_)
  · replace h := if_t h hc
    exact J14 _ _ h _ _ _ (lv_sub hl [0, 1] rfl) hP hS
  · replace h := if_f h hc
    refine lv_iload_n hx hb dBe_number_7 rfl (lv_at hl 1 rfl) ?_
    refine lv_sipush (v := 999) hx hb dBe_number_8 (by decide) ?_
    refine lv_icmp_le (tgt := 16) hx hb dBe_number_11 (by decide) (fun hc => ?_) (fun hc => ?_)
    · replace h := if_t h hc
      refine lv_aload_n hx hb dBe_number_16 rfl (lv_at hl 0 rfl) ?_
      refine lv_iconst (v := 1) hx hb dBe_number_17 (by decide) ?_
      refine lv_iload_n hx hb dBe_number_18 rfl (lv_at hl 1 rfl) ?_
      obtain ⟨r3, σ2, h1, h⟩ := bn_some h
      refine q_cVi (rest := []) (As := [.int (1 : Int32), .int v1]) cx hP hS hRk (c_Be_fillHole l g hg h1) Y_Be_fillHole V_Be_fillHole t_174 (by decide) (by decide) (e_0 g _ _) rfl rfl hl.1 rfl (Nat.le_of_ble_eq_true rfl) dBe_number_19 (fun H locs hP hS => ?_)
      obtain ⟨b4, h⟩ := gd_some h
      exact q_ri cx hr (isB_n b4) hP hS hQ h dBe_number_22
    · replace h := if_f h hc
      exact J14 _ _ h _ _ _ (lv_sub hl [0, 1] rfl) hP hS
theorem dBe_isName_0 : decode cBe_isName 0 = .ok (.iload_n 0, 1) := by decide +kernel
theorem dBe_isName_1 : decode cBe_isName 1 = .ok (.ifCond .lt 13, 3) := by decide +kernel
theorem dBe_isName_4 : decode cBe_isName 4 = .ok (.iload_n 0, 1) := by decide +kernel
theorem dBe_isName_5 : decode cBe_isName 5 = .ok (.bipush 9, 2) := by decide +kernel
theorem dBe_isName_7 : decode cBe_isName 7 = .ok (.if_icmp .gt 7, 3) := by decide +kernel
theorem dBe_isName_10 : decode cBe_isName 10 = .ok (.iconst 1, 1) := by decide +kernel
theorem dBe_isName_11 : decode cBe_isName 11 = .ok (.goto 4, 3) := by decide +kernel
theorem dBe_isName_14 : decode cBe_isName 14 = .ok (.iconst 0, 1) := by decide +kernel
theorem dBe_isName_15 : decode cBe_isName 15 = .ok (.ireturn, 1) := by decide +kernel
def f_Be_isName_J15  (v0 : Int32) (u0 : Int32) (σ : Mem) : Option (Int32 × Mem) :=
  gd (isB u0) (some (u0, σ))
def f_Be_isName_J14  (v0 : Int32) (σ : Mem) : Option (Int32 × Mem) :=
  f_Be_isName_J15 v0 (0 : Int32) σ
def f_Be_isName  (v0 : Int32) (σ : Mem) : Option (Int32 × Mem) :=
  if v0 < 0 then (
  f_Be_isName_J14 v0 σ)
  else (
  if (9 : Int32) < v0 then (
  f_Be_isName_J14 v0 σ)
  else (
  f_Be_isName_J15 v0 (1 : Int32) σ))
set_option maxHeartbeats 4000000 in
set_option maxRecDepth 100000 in
theorem c_Be_isName (l : Launch) (g : Gw) (hg : wInj g) {v0 : Int32} {r0 : Int32} {σ σ0 : Mem} (h : f_Be_isName v0 σ = some (r0, σ0)) : KI l yBe_isName cBe_isName 1 (some .boolean) 0 g [.int v0] σ r0 σ0 := by
  refine q_met g hg (own := "TermBench") rfl rfl (Nat.le_of_ble_eq_true rfl) (fun p e s m args below meth c R Q cx hRk hr hQ H locs ls hP hS hl => ?_)
  have hx := cx.1
  have hb := cx.2.1
  have hown := cx.2.2.2.1
  have hts := cx.2.2.2.2.1
  have hl : lv_has ls 1 [(0, .int v0)] := hl
  have J15 : ∀ (v0 : Int32) (u0 : Int32) (σ : Mem), f_Be_isName_J15 v0 u0 σ = some (r0, σ0) → ∀ (H : Heap) (locs : List Loc) (ls : Array Slot), lv_has ls 1 [(0, .int v0)] → Wd g σ H → va_S (wA g) s.heap H locs → W p l e R s m args below meth c H locs 0 0 Q (F0 m 15 ls [.int u0]) := by
    intro v0 u0 σ h H locs ls hl hP hS
    unfold f_Be_isName_J15 at h
    obtain ⟨b1, h⟩ := gd_some h
    exact q_ri cx hr (isB_n b1) hP hS hQ h dBe_isName_15
  have J14 : ∀ (v0 : Int32) (σ : Mem), f_Be_isName_J14 v0 σ = some (r0, σ0) → ∀ (H : Heap) (locs : List Loc) (ls : Array Slot), lv_has ls 1 [(0, .int v0)] → Wd g σ H → va_S (wA g) s.heap H locs → W p l e R s m args below meth c H locs 0 0 Q (F0 m 14 ls []) := by
    intro v0 σ h H locs ls hl hP hS
    unfold f_Be_isName_J14 at h
    refine lv_iconst (v := 0) hx hb dBe_isName_14 (by decide) ?_
    exact J15 _ _ _ h _ _ _ (lv_sub hl [0] rfl) hP hS
  unfold f_Be_isName at h
  refine lv_iload_n hx hb dBe_isName_0 rfl (lv_at hl 0 rfl) ?_
  refine lv_if_lt (tgt := 14) hx hb dBe_isName_1 (by decide) (fun hc => ?_) (fun hc => ?_)
  · replace h := if_t h hc
    exact J14 _ _ h _ _ _ (lv_sub hl [0] rfl) hP hS
  · replace h := if_f h hc
    refine lv_iload_n hx hb dBe_isName_4 rfl (lv_at hl 0 rfl) ?_
    refine lv_bipush (v := 9) hx hb dBe_isName_5 (by decide) ?_
    refine lv_icmp_gt (tgt := 14) hx hb dBe_isName_7 (by decide) (fun hc => ?_) (fun hc => ?_)
    · replace h := if_t h hc
      exact J14 _ _ h _ _ _ (lv_sub hl [0] rfl) hP hS
    · replace h := if_f h hc
      refine lv_iconst (v := 1) hx hb dBe_isName_10 (by decide) ?_
      refine lv_goto (tgt := 15) hx hb dBe_isName_11 (by decide) ?_
      exact J15 _ _ _ h _ _ _ (lv_sub hl [0] rfl) hP hS
theorem dBe_name_0 : decode cBe_name 0 = .ok (.iload_n 1, 1) := by decide +kernel
theorem dBe_name_1 : decode cBe_name 1 = .ok (.invokestatic 41, 3) := by decide +kernel
theorem dBe_name_4 : decode cBe_name 4 = .ok (.ifCond .ne 5, 3) := by decide +kernel
theorem dBe_name_7 : decode cBe_name 7 = .ok (.iconst 0, 1) := by decide +kernel
theorem dBe_name_8 : decode cBe_name 8 = .ok (.ireturn, 1) := by decide +kernel
theorem dBe_name_9 : decode cBe_name 9 = .ok (.aload_n 0, 1) := by decide +kernel
theorem dBe_name_10 : decode cBe_name 10 = .ok (.iconst 2, 1) := by decide +kernel
theorem dBe_name_11 : decode cBe_name 11 = .ok (.iload_n 1, 1) := by decide +kernel
theorem dBe_name_12 : decode cBe_name 12 = .ok (.invokevirtual 37, 3) := by decide +kernel
theorem dBe_name_15 : decode cBe_name 15 = .ok (.ireturn, 1) := by decide +kernel
def f_Be_name  (v1 : Int32) (σ : Mem) : Option (Int32 × Mem) :=
  bn (f_Be_isName v1 σ) fun (r3 : Int32) (σ2 : Mem) =>
  if r3 = 0 then (
  some ((0 : Int32), σ2))
  else (
  bn (f_Be_fillHole (2 : Int32) v1 σ2) fun (r6 : Int32) (σ5 : Mem) =>
  gd (isB r6) (some (r6, σ5)))
set_option maxHeartbeats 4000000 in
set_option maxRecDepth 100000 in
theorem c_Be_name (l : Launch) (g : Gw) (hg : wInj g) {v1 : Int32} {r0 : Int32} {σ σ0 : Mem} (h : f_Be_name v1 σ = some (r0, σ0)) : KI l yBe_name cBe_name 2 (some .boolean) 4 g [.ref (ad g 0), .int v1] σ r0 σ0 := by
  refine q_met g hg (own := "TermBench") rfl rfl (Nat.le_of_ble_eq_true rfl) (fun p e s m args below meth c R Q cx hRk hr hQ H locs ls hP hS hl => ?_)
  have hx := cx.1
  have hb := cx.2.1
  have hown := cx.2.2.2.1
  have hts := cx.2.2.2.2.1
  have hl : lv_has ls 2 [(0, .ref (ad g 0)), (1, .int v1)] := hl
  unfold f_Be_name at h
  refine lv_iload_n hx hb dBe_name_0 rfl (lv_at hl 1 rfl) ?_
  obtain ⟨r3, σ2, h1, h⟩ := bn_some h
  refine q_cSi (rest := []) (As := [.int v1]) cx hP hS hRk (c_Be_isName l g hg h1) Y_Be_isName S_Be_isName t_213 (by decide) rfl hl.1 rfl (Nat.le_of_ble_eq_true rfl) dBe_name_1 (fun H locs hP hS => ?_)
  refine lv_if_ne (tgt := 9) hx hb dBe_name_4 (by decide) (fun hc => ?_) (fun hc => ?_)
  · replace h := if_f h hc
    refine lv_aload_n hx hb dBe_name_9 rfl (lv_at hl 0 rfl) ?_
    refine lv_iconst (v := 2) hx hb dBe_name_10 (by decide) ?_
    refine lv_iload_n hx hb dBe_name_11 rfl (lv_at hl 1 rfl) ?_
    obtain ⟨r6, σ5, h4, h⟩ := bn_some h
    refine q_cVi (rest := []) (As := [.int (2 : Int32), .int v1]) cx hP hS hRk (c_Be_fillHole l g hg h4) Y_Be_fillHole V_Be_fillHole t_174 (by decide) (by decide) (e_0 g _ _) rfl rfl hl.1 rfl (Nat.le_of_ble_eq_true rfl) dBe_name_12 (fun H locs hP hS => ?_)
    obtain ⟨b7, h⟩ := gd_some h
    exact q_ri cx hr (isB_n b7) hP hS hQ h dBe_name_15
  · replace h := if_t h hc
    refine lv_iconst (v := 0) hx hb dBe_name_7 (by decide) ?_
    exact q_ri cx hr rfl hP hS hQ h dBe_name_8
theorem dBe_joinHole_0 : decode cBe_joinHole 0 = .ok (.aload_n 0, 1) := by decide +kernel
theorem dBe_joinHole_1 : decode cBe_joinHole 1 = .ok (.getfield 10, 3) := by decide +kernel
theorem dBe_joinHole_4 : decode cBe_joinHole 4 = .ok (.invokevirtual 53, 3) := by decide +kernel
theorem dBe_joinHole_7 : decode cBe_joinHole 7 = .ok (.iconst 2, 1) := by decide +kernel
theorem dBe_joinHole_8 : decode cBe_joinHole 8 = .ok (.invokevirtual 150, 3) := by decide +kernel
theorem dBe_joinHole_11 : decode cBe_joinHole 11 = .ok (.ifCond .ne 5, 3) := by decide +kernel
theorem dBe_joinHole_14 : decode cBe_joinHole 14 = .ok (.iconst 0, 1) := by decide +kernel
theorem dBe_joinHole_15 : decode cBe_joinHole 15 = .ok (.ireturn, 1) := by decide +kernel
theorem dBe_joinHole_16 : decode cBe_joinHole 16 = .ok (.aload_n 0, 1) := by decide +kernel
theorem dBe_joinHole_17 : decode cBe_joinHole 17 = .ok (.getfield 10, 3) := by decide +kernel
theorem dBe_joinHole_20 : decode cBe_joinHole 20 = .ok (.invokevirtual 63, 3) := by decide +kernel
theorem dBe_joinHole_23 : decode cBe_joinHole 23 = .ok (.iload_n 1, 1) := by decide +kernel
theorem dBe_joinHole_24 : decode cBe_joinHole 24 = .ok (.iload_n 2, 1) := by decide +kernel
theorem dBe_joinHole_25 : decode cBe_joinHole 25 = .ok (.invokevirtual 153, 3) := by decide +kernel
theorem dBe_joinHole_28 : decode cBe_joinHole 28 = .ok (.iconst 1, 1) := by decide +kernel
theorem dBe_joinHole_29 : decode cBe_joinHole 29 = .ok (.ireturn, 1) := by decide +kernel
def f_Be_joinHole  (v1 : Int32) (v2 : Int32) (σ : Mem) : Option (Int32 × Mem) :=
  bn (f_Hi_present σ) fun (i3 : Nat) (σ2 : Mem) =>
  gd (decide (i3 < 17)) (
  bn (f_Pr_hasRoomAround i3 (2 : Int32) σ2) fun (r7 : Int32) (σ6 : Mem) =>
  if r7 = 0 then (
  some ((0 : Int32), σ6))
  else (
  bn (f_Hi_keep σ6) fun (i10 : Nat) (σ9 : Mem) =>
  gd (decide (i10 < 17)) (
  bn (f_Pr_join i10 v1 v2 σ9) fun (_ : Unit) (σ13 : Mem) =>
  some ((1 : Int32), σ13))))
set_option maxHeartbeats 4000000 in
set_option maxRecDepth 100000 in
theorem c_Be_joinHole (l : Launch) (g : Gw) (hg : wInj g) {v1 : Int32} {v2 : Int32} {r0 : Int32} {σ σ0 : Mem} (h : f_Be_joinHole v1 v2 σ = some (r0, σ0)) : KI l yBe_joinHole cBe_joinHole 3 (some .boolean) 4 g [.ref (ad g 0), .int v1, .int v2] σ r0 σ0 := by
  refine q_met g hg (own := "TermBench") rfl rfl (Nat.le_of_ble_eq_true rfl) (fun p e s m args below meth c R Q cx hRk hr hQ H locs ls hP hS hl => ?_)
  have hx := cx.1
  have hb := cx.2.1
  have hown := cx.2.2.2.1
  have hts := cx.2.2.2.2.1
  have hl : lv_has ls 3 [(0, .ref (ad g 0)), (1, .int v1), (2, .int v2)] := hl
  unfold f_Be_joinHole at h
  refine lv_aload_n hx hb dBe_joinHole_0 rfl (lv_at hl 0 rfl) ?_
  refine g_Be_history cx hP  t_157 dBe_joinHole_1 ?_
  obtain ⟨i3, σ2, h1, h⟩ := bn_some h
  obtain ⟨b4, h⟩ := gd_some h
  have hi3 : i3 < 17 := of_decide_eq_true b4
  refine q_cVr (rest := []) (As := []) cx hP hS hRk (c_Hi_present l g hg h1) Y_Hi_present V_Hi_present t_178 (by decide) (by decide) (e_1 g _ _) rfl rfl hl.1 rfl (Nat.le_of_ble_eq_true rfl) dBe_joinHole_4 (fun H locs hP hS => ?_)
  refine lv_iconst (v := 2) hx hb dBe_joinHole_7 (by decide) ?_
  obtain ⟨r7, σ6, h5, h⟩ := bn_some h
  refine q_cVi (rest := []) (As := [.int (2 : Int32)]) cx hP hS hRk (c_Pr_hasRoomAround l g hg hi3 h5) Y_Pr_hasRoomAround V_Pr_hasRoomAround t_224 (by decide) (l_cP hi3) (e_cP g hi3 _ _) rfl rfl hl.1 rfl (Nat.le_of_ble_eq_true rfl) dBe_joinHole_8 (fun H locs hP hS => ?_)
  refine lv_if_ne (tgt := 16) hx hb dBe_joinHole_11 (by decide) (fun hc => ?_) (fun hc => ?_)
  · replace h := if_f h hc
    refine lv_aload_n hx hb dBe_joinHole_16 rfl (lv_at hl 0 rfl) ?_
    refine g_Be_history cx hP  t_157 dBe_joinHole_17 ?_
    obtain ⟨i10, σ9, h8, h⟩ := bn_some h
    obtain ⟨b11, h⟩ := gd_some h
    have hi10 : i10 < 17 := of_decide_eq_true b11
    refine q_cVr (rest := []) (As := []) cx hP hS hRk (c_Hi_keep l g hg h8) Y_Hi_keep V_Hi_keep t_186 (by decide) (by decide) (e_1 g _ _) rfl rfl hl.1 rfl (Nat.le_of_ble_eq_true rfl) dBe_joinHole_20 (fun H locs hP hS => ?_)
    refine lv_iload_n hx hb dBe_joinHole_23 rfl (lv_at hl 1 rfl) ?_
    refine lv_iload_n hx hb dBe_joinHole_24 rfl (lv_at hl 2 rfl) ?_
    obtain ⟨rh12, σ13, h12, h⟩ := bn_some h
    refine q_cVv (rest := []) (As := [.int v1, .int v2]) cx hP hS hRk (c_Pr_join l g hg hi10 h12) Y_Pr_join V_Pr_join t_235 (by decide) (l_cP hi10) (e_cP g hi10 _ _) rfl rfl hl.1 rfl (Nat.le_of_ble_eq_true rfl) dBe_joinHole_25 (fun H locs hP hS => ?_)
    refine lv_iconst (v := 1) hx hb dBe_joinHole_28 (by decide) ?_
    exact q_ri cx hr rfl hP hS hQ h dBe_joinHole_29
  · replace h := if_t h hc
    refine lv_iconst (v := 0) hx hb dBe_joinHole_14 (by decide) ?_
    exact q_ri cx hr rfl hP hS hQ h dBe_joinHole_15
theorem dBe_sum_0 : decode cBe_sum 0 = .ok (.aload_n 0, 1) := by decide +kernel
theorem dBe_sum_1 : decode cBe_sum 1 = .ok (.iconst 3, 1) := by decide +kernel
theorem dBe_sum_2 : decode cBe_sum 2 = .ok (.iload_n 1, 1) := by decide +kernel
theorem dBe_sum_3 : decode cBe_sum 3 = .ok (.invokevirtual 45, 3) := by decide +kernel
theorem dBe_sum_6 : decode cBe_sum 6 = .ok (.ireturn, 1) := by decide +kernel
def f_Be_sum  (v1 : Int32) (σ : Mem) : Option (Int32 × Mem) :=
  bn (f_Be_joinHole (3 : Int32) v1 σ) fun (r3 : Int32) (σ2 : Mem) =>
  gd (isB r3) (some (r3, σ2))
set_option maxHeartbeats 4000000 in
set_option maxRecDepth 100000 in
theorem c_Be_sum (l : Launch) (g : Gw) (hg : wInj g) {v1 : Int32} {r0 : Int32} {σ σ0 : Mem} (h : f_Be_sum v1 σ = some (r0, σ0)) : KI l yBe_sum cBe_sum 2 (some .boolean) 5 g [.ref (ad g 0), .int v1] σ r0 σ0 := by
  refine q_met g hg (own := "TermBench") rfl rfl (Nat.le_of_ble_eq_true rfl) (fun p e s m args below meth c R Q cx hRk hr hQ H locs ls hP hS hl => ?_)
  have hx := cx.1
  have hb := cx.2.1
  have hown := cx.2.2.2.1
  have hts := cx.2.2.2.2.1
  have hl : lv_has ls 2 [(0, .ref (ad g 0)), (1, .int v1)] := hl
  unfold f_Be_sum at h
  refine lv_aload_n hx hb dBe_sum_0 rfl (lv_at hl 0 rfl) ?_
  refine lv_iconst (v := 3) hx hb dBe_sum_1 (by decide) ?_
  refine lv_iload_n hx hb dBe_sum_2 rfl (lv_at hl 1 rfl) ?_
  obtain ⟨r3, σ2, h1, h⟩ := bn_some h
  refine q_cVi (rest := []) (As := [.int (3 : Int32), .int v1]) cx hP hS hRk (c_Be_joinHole l g hg h1) Y_Be_joinHole V_Be_joinHole t_220 (by decide) (by decide) (e_0 g _ _) rfl rfl hl.1 rfl (Nat.le_of_ble_eq_true rfl) dBe_sum_3 (fun H locs hP hS => ?_)
  obtain ⟨b4, h⟩ := gd_some h
  exact q_ri cx hr (isB_n b4) hP hS hQ h dBe_sum_6
theorem dBe_call_0 : decode cBe_call 0 = .ok (.aload_n 0, 1) := by decide +kernel
theorem dBe_call_1 : decode cBe_call 1 = .ok (.iconst 4, 1) := by decide +kernel
theorem dBe_call_2 : decode cBe_call 2 = .ok (.iload_n 1, 1) := by decide +kernel
theorem dBe_call_3 : decode cBe_call 3 = .ok (.invokevirtual 45, 3) := by decide +kernel
theorem dBe_call_6 : decode cBe_call 6 = .ok (.ireturn, 1) := by decide +kernel
def f_Be_call  (v1 : Int32) (σ : Mem) : Option (Int32 × Mem) :=
  bn (f_Be_joinHole (4 : Int32) v1 σ) fun (r3 : Int32) (σ2 : Mem) =>
  gd (isB r3) (some (r3, σ2))
set_option maxHeartbeats 4000000 in
set_option maxRecDepth 100000 in
theorem c_Be_call (l : Launch) (g : Gw) (hg : wInj g) {v1 : Int32} {r0 : Int32} {σ σ0 : Mem} (h : f_Be_call v1 σ = some (r0, σ0)) : KI l yBe_call cBe_call 2 (some .boolean) 5 g [.ref (ad g 0), .int v1] σ r0 σ0 := by
  refine q_met g hg (own := "TermBench") rfl rfl (Nat.le_of_ble_eq_true rfl) (fun p e s m args below meth c R Q cx hRk hr hQ H locs ls hP hS hl => ?_)
  have hx := cx.1
  have hb := cx.2.1
  have hown := cx.2.2.2.1
  have hts := cx.2.2.2.2.1
  have hl : lv_has ls 2 [(0, .ref (ad g 0)), (1, .int v1)] := hl
  unfold f_Be_call at h
  refine lv_aload_n hx hb dBe_call_0 rfl (lv_at hl 0 rfl) ?_
  refine lv_iconst (v := 4) hx hb dBe_call_1 (by decide) ?_
  refine lv_iload_n hx hb dBe_call_2 rfl (lv_at hl 1 rfl) ?_
  obtain ⟨r3, σ2, h1, h⟩ := bn_some h
  refine q_cVi (rest := []) (As := [.int (4 : Int32), .int v1]) cx hP hS hRk (c_Be_joinHole l g hg h1) Y_Be_joinHole V_Be_joinHole t_220 (by decide) (by decide) (e_0 g _ _) rfl rfl hl.1 rfl (Nat.le_of_ble_eq_true rfl) dBe_call_3 (fun H locs hP hS => ?_)
  obtain ⟨b4, h⟩ := gd_some h
  exact q_ri cx hr (isB_n b4) hP hS hQ h dBe_call_6
theorem dBe_wrapTyped_0 : decode cBe_wrapTyped 0 = .ok (.lload_n 3, 1) := by decide +kernel
theorem dBe_wrapTyped_1 : decode cBe_wrapTyped 1 = .ok (.invokestatic 157, 3) := by decide +kernel
theorem dBe_wrapTyped_4 : decode cBe_wrapTyped 4 = .ok (.ifCond .eq 17, 3) := by decide +kernel
theorem dBe_wrapTyped_7 : decode cBe_wrapTyped 7 = .ok (.aload_n 0, 1) := by decide +kernel
theorem dBe_wrapTyped_8 : decode cBe_wrapTyped 8 = .ok (.getfield 10, 3) := by decide +kernel
theorem dBe_wrapTyped_11 : decode cBe_wrapTyped 11 = .ok (.invokevirtual 53, 3) := by decide +kernel
theorem dBe_wrapTyped_14 : decode cBe_wrapTyped 14 = .ok (.iconst 1, 1) := by decide +kernel
theorem dBe_wrapTyped_15 : decode cBe_wrapTyped 15 = .ok (.invokevirtual 150, 3) := by decide +kernel
theorem dBe_wrapTyped_18 : decode cBe_wrapTyped 18 = .ok (.ifCond .ne 5, 3) := by decide +kernel
theorem dBe_wrapTyped_21 : decode cBe_wrapTyped 21 = .ok (.iconst 0, 1) := by decide +kernel
theorem dBe_wrapTyped_22 : decode cBe_wrapTyped 22 = .ok (.ireturn, 1) := by decide +kernel
theorem dBe_wrapTyped_23 : decode cBe_wrapTyped 23 = .ok (.aload_n 0, 1) := by decide +kernel
theorem dBe_wrapTyped_24 : decode cBe_wrapTyped 24 = .ok (.getfield 10, 3) := by decide +kernel
theorem dBe_wrapTyped_27 : decode cBe_wrapTyped 27 = .ok (.invokevirtual 63, 3) := by decide +kernel
theorem dBe_wrapTyped_30 : decode cBe_wrapTyped 30 = .ok (.iload_n 1, 1) := by decide +kernel
theorem dBe_wrapTyped_31 : decode cBe_wrapTyped 31 = .ok (.iload_n 2, 1) := by decide +kernel
theorem dBe_wrapTyped_32 : decode cBe_wrapTyped 32 = .ok (.lload_n 3, 1) := by decide +kernel
theorem dBe_wrapTyped_33 : decode cBe_wrapTyped 33 = .ok (.invokevirtual 163, 3) := by decide +kernel
theorem dBe_wrapTyped_36 : decode cBe_wrapTyped 36 = .ok (.iconst 1, 1) := by decide +kernel
theorem dBe_wrapTyped_37 : decode cBe_wrapTyped 37 = .ok (.ireturn, 1) := by decide +kernel
def f_Be_wrapTyped_J21  (v1 : Int32) (v2 : Int32) (v3 : Int64) (σ : Mem) : Option (Int32 × Mem) :=
  some ((0 : Int32), σ)
def f_Be_wrapTyped  (v1 : Int32) (v2 : Int32) (v3 : Int64) (σ : Mem) : Option (Int32 × Mem) :=
  bn (f_Ty_isType v3 σ) fun (r3 : Int32) (σ2 : Mem) =>
  if r3 = 0 then (
  f_Be_wrapTyped_J21 v1 v2 v3 σ2)
  else (
  bn (f_Hi_present σ2) fun (i6 : Nat) (σ5 : Mem) =>
  gd (decide (i6 < 17)) (
  bn (f_Pr_hasRoomAround i6 (1 : Int32) σ5) fun (r10 : Int32) (σ9 : Mem) =>
  if r10 = 0 then (
  f_Be_wrapTyped_J21 v1 v2 v3 σ9)
  else (
  bn (f_Hi_keep σ9) fun (i13 : Nat) (σ12 : Mem) =>
  gd (decide (i13 < 17)) (
  bn (f_Pr_wrap i13 v1 v2 v3 σ12) fun (_ : Unit) (σ16 : Mem) =>
  some ((1 : Int32), σ16)))))
set_option maxHeartbeats 4000000 in
set_option maxRecDepth 100000 in
theorem c_Be_wrapTyped (l : Launch) (g : Gw) (hg : wInj g) {v1 : Int32} {v2 : Int32} {v3 : Int64} {r0 : Int32} {σ σ0 : Mem} (h : f_Be_wrapTyped v1 v2 v3 σ = some (r0, σ0)) : KI l yBe_wrapTyped cBe_wrapTyped 5 (some .boolean) 3 g [.ref (ad g 0), .int v1, .int v2, .long v3] σ r0 σ0 := by
  refine q_met g hg (own := "TermBench") rfl rfl (Nat.le_of_ble_eq_true rfl) (fun p e s m args below meth c R Q cx hRk hr hQ H locs ls hP hS hl => ?_)
  have hx := cx.1
  have hb := cx.2.1
  have hown := cx.2.2.2.1
  have hts := cx.2.2.2.2.1
  have hl : lv_has ls 5 [(0, .ref (ad g 0)), (1, .int v1), (2, .int v2), (3, .long v3)] := hl
  have J21 : ∀ (v1 : Int32) (v2 : Int32) (v3 : Int64) (σ : Mem), f_Be_wrapTyped_J21 v1 v2 v3 σ = some (r0, σ0) → ∀ (H : Heap) (locs : List Loc) (ls : Array Slot), lv_has ls 5 [(0, .ref (ad g 0)), (1, .int v1), (2, .int v2), (3, .long v3)] → Wd g σ H → va_S (wA g) s.heap H locs → W p l e R s m args below meth c H locs 0 0 Q (F0 m 21 ls []) := by
    intro v1 v2 v3 σ h H locs ls hl hP hS
    unfold f_Be_wrapTyped_J21 at h
    refine lv_iconst (v := 0) hx hb dBe_wrapTyped_21 (by decide) ?_
    exact q_ri cx hr rfl hP hS hQ h dBe_wrapTyped_22
  unfold f_Be_wrapTyped at h
  refine lv_lload_n hx hb dBe_wrapTyped_0 rfl (lv_at hl 3 rfl) ?_
  obtain ⟨r3, σ2, h1, h⟩ := bn_some h
  refine q_cSi (rest := []) (As := [.long v3]) cx hP hS hRk (c_Ty_isType l g hg h1) Y_Ty_isType S_Ty_isType t_263 (by decide) rfl hl.1 rfl (Nat.le_of_ble_eq_true rfl) dBe_wrapTyped_1 (fun H locs hP hS => ?_)
  refine lv_if_eq (tgt := 21) hx hb dBe_wrapTyped_4 (by decide) (fun hc => ?_) (fun hc => ?_)
  · replace h := if_t h hc
    exact J21 _ _ _ _ h _ _ _ (lv_sub hl [0, 1, 2, 3] rfl) hP hS
  · replace h := if_f h hc
    refine lv_aload_n hx hb dBe_wrapTyped_7 rfl (lv_at hl 0 rfl) ?_
    refine g_Be_history cx hP  t_157 dBe_wrapTyped_8 ?_
    obtain ⟨i6, σ5, h4, h⟩ := bn_some h
    obtain ⟨b7, h⟩ := gd_some h
    have hi6 : i6 < 17 := of_decide_eq_true b7
    refine q_cVr (rest := []) (As := []) cx hP hS hRk (c_Hi_present l g hg h4) Y_Hi_present V_Hi_present t_178 (by decide) (by decide) (e_1 g _ _) rfl rfl hl.1 rfl (Nat.le_of_ble_eq_true rfl) dBe_wrapTyped_11 (fun H locs hP hS => ?_)
    refine lv_iconst (v := 1) hx hb dBe_wrapTyped_14 (by decide) ?_
    obtain ⟨r10, σ9, h8, h⟩ := bn_some h
    refine q_cVi (rest := []) (As := [.int (1 : Int32)]) cx hP hS hRk (c_Pr_hasRoomAround l g hg hi6 h8) Y_Pr_hasRoomAround V_Pr_hasRoomAround t_224 (by decide) (l_cP hi6) (e_cP g hi6 _ _) rfl rfl hl.1 rfl (Nat.le_of_ble_eq_true rfl) dBe_wrapTyped_15 (fun H locs hP hS => ?_)
    refine lv_if_ne (tgt := 23) hx hb dBe_wrapTyped_18 (by decide) (fun hc => ?_) (fun hc => ?_)
    · replace h := if_f h hc
      refine lv_aload_n hx hb dBe_wrapTyped_23 rfl (lv_at hl 0 rfl) ?_
      refine g_Be_history cx hP  t_157 dBe_wrapTyped_24 ?_
      obtain ⟨i13, σ12, h11, h⟩ := bn_some h
      obtain ⟨b14, h⟩ := gd_some h
      have hi13 : i13 < 17 := of_decide_eq_true b14
      refine q_cVr (rest := []) (As := []) cx hP hS hRk (c_Hi_keep l g hg h11) Y_Hi_keep V_Hi_keep t_186 (by decide) (by decide) (e_1 g _ _) rfl rfl hl.1 rfl (Nat.le_of_ble_eq_true rfl) dBe_wrapTyped_27 (fun H locs hP hS => ?_)
      refine lv_iload_n hx hb dBe_wrapTyped_30 rfl (lv_at hl 1 rfl) ?_
      refine lv_iload_n hx hb dBe_wrapTyped_31 rfl (lv_at hl 2 rfl) ?_
      refine lv_lload_n hx hb dBe_wrapTyped_32 rfl (lv_at hl 3 rfl) ?_
      obtain ⟨rh15, σ16, h15, h⟩ := bn_some h
      refine q_cVv (rest := []) (As := [.int v1, .int v2, .long v3]) cx hP hS hRk (c_Pr_wrap l g hg hi13 h15) Y_Pr_wrap V_Pr_wrap t_269 (by decide) (l_cP hi13) (e_cP g hi13 _ _) rfl rfl hl.1 rfl (Nat.le_of_ble_eq_true rfl) dBe_wrapTyped_33 (fun H locs hP hS => ?_)
      refine lv_iconst (v := 1) hx hb dBe_wrapTyped_36 (by decide) ?_
      exact q_ri cx hr rfl hP hS hQ h dBe_wrapTyped_37
    · replace h := if_t h hc
      exact J21 _ _ _ _ h _ _ _ (lv_sub hl [0, 1, 2, 3] rfl) hP hS
theorem dBe_function_0 : decode cBe_function 0 = .ok (.iload_n 1, 1) := by decide +kernel
theorem dBe_function_1 : decode cBe_function 1 = .ok (.invokestatic 41, 3) := by decide +kernel
theorem dBe_function_4 : decode cBe_function 4 = .ok (.ifCond .ne 5, 3) := by decide +kernel
theorem dBe_function_7 : decode cBe_function 7 = .ok (.iconst 0, 1) := by decide +kernel
theorem dBe_function_8 : decode cBe_function 8 = .ok (.ireturn, 1) := by decide +kernel
theorem dBe_function_9 : decode cBe_function 9 = .ok (.aload_n 0, 1) := by decide +kernel
theorem dBe_function_10 : decode cBe_function 10 = .ok (.iconst 5, 1) := by decide +kernel
theorem dBe_function_11 : decode cBe_function 11 = .ok (.iload_n 1, 1) := by decide +kernel
theorem dBe_function_12 : decode cBe_function 12 = .ok (.lload_n 2, 1) := by decide +kernel
theorem dBe_function_13 : decode cBe_function 13 = .ok (.invokevirtual 49, 3) := by decide +kernel
theorem dBe_function_16 : decode cBe_function 16 = .ok (.ireturn, 1) := by decide +kernel
def f_Be_function  (v1 : Int32) (v2 : Int64) (σ : Mem) : Option (Int32 × Mem) :=
  bn (f_Be_isName v1 σ) fun (r3 : Int32) (σ2 : Mem) =>
  if r3 = 0 then (
  some ((0 : Int32), σ2))
  else (
  bn (f_Be_wrapTyped (5 : Int32) v1 v2 σ2) fun (r6 : Int32) (σ5 : Mem) =>
  gd (isB r6) (some (r6, σ5)))
set_option maxHeartbeats 4000000 in
set_option maxRecDepth 100000 in
theorem c_Be_function (l : Launch) (g : Gw) (hg : wInj g) {v1 : Int32} {v2 : Int64} {r0 : Int32} {σ σ0 : Mem} (h : f_Be_function v1 v2 σ = some (r0, σ0)) : KI l yBe_function cBe_function 4 (some .boolean) 4 g [.ref (ad g 0), .int v1, .long v2] σ r0 σ0 := by
  refine q_met g hg (own := "TermBench") rfl rfl (Nat.le_of_ble_eq_true rfl) (fun p e s m args below meth c R Q cx hRk hr hQ H locs ls hP hS hl => ?_)
  have hx := cx.1
  have hb := cx.2.1
  have hown := cx.2.2.2.1
  have hts := cx.2.2.2.2.1
  have hl : lv_has ls 4 [(0, .ref (ad g 0)), (1, .int v1), (2, .long v2)] := hl
  unfold f_Be_function at h
  refine lv_iload_n hx hb dBe_function_0 rfl (lv_at hl 1 rfl) ?_
  obtain ⟨r3, σ2, h1, h⟩ := bn_some h
  refine q_cSi (rest := []) (As := [.int v1]) cx hP hS hRk (c_Be_isName l g hg h1) Y_Be_isName S_Be_isName t_213 (by decide) rfl hl.1 rfl (Nat.le_of_ble_eq_true rfl) dBe_function_1 (fun H locs hP hS => ?_)
  refine lv_if_ne (tgt := 9) hx hb dBe_function_4 (by decide) (fun hc => ?_) (fun hc => ?_)
  · replace h := if_f h hc
    refine lv_aload_n hx hb dBe_function_9 rfl (lv_at hl 0 rfl) ?_
    refine lv_iconst (v := 5) hx hb dBe_function_10 (by decide) ?_
    refine lv_iload_n hx hb dBe_function_11 rfl (lv_at hl 1 rfl) ?_
    refine lv_lload_n hx hb dBe_function_12 rfl (lv_at hl 2 rfl) ?_
    obtain ⟨r6, σ5, h4, h⟩ := bn_some h
    refine q_cVi (rest := []) (As := [.int (5 : Int32), .int v1, .long v2]) cx hP hS hRk (c_Be_wrapTyped l g hg h4) Y_Be_wrapTyped V_Be_wrapTyped t_259 (by decide) (by decide) (e_0 g _ _) rfl rfl hl.1 rfl (Nat.le_of_ble_eq_true rfl) dBe_function_13 (fun H locs hP hS => ?_)
    obtain ⟨b7, h⟩ := gd_some h
    exact q_ri cx hr (isB_n b7) hP hS hQ h dBe_function_16
  · replace h := if_t h hc
    refine lv_iconst (v := 0) hx hb dBe_function_7 (by decide) ?_
    exact q_ri cx hr rfl hP hS hQ h dBe_function_8
theorem dBe_claim_0 : decode cBe_claim 0 = .ok (.aload_n 0, 1) := by decide +kernel
theorem dBe_claim_1 : decode cBe_claim 1 = .ok (.bipush 6, 2) := by decide +kernel
theorem dBe_claim_3 : decode cBe_claim 3 = .ok (.iconst 0, 1) := by decide +kernel
theorem dBe_claim_4 : decode cBe_claim 4 = .ok (.lload_n 1, 1) := by decide +kernel
theorem dBe_claim_5 : decode cBe_claim 5 = .ok (.invokevirtual 49, 3) := by decide +kernel
theorem dBe_claim_8 : decode cBe_claim 8 = .ok (.ireturn, 1) := by decide +kernel
def f_Be_claim  (v1 : Int64) (σ : Mem) : Option (Int32 × Mem) :=
  bn (f_Be_wrapTyped (6 : Int32) (0 : Int32) v1 σ) fun (r3 : Int32) (σ2 : Mem) =>
  gd (isB r3) (some (r3, σ2))
set_option maxHeartbeats 4000000 in
set_option maxRecDepth 100000 in
theorem c_Be_claim (l : Launch) (g : Gw) (hg : wInj g) {v1 : Int64} {r0 : Int32} {σ σ0 : Mem} (h : f_Be_claim v1 σ = some (r0, σ0)) : KI l yBe_claim cBe_claim 3 (some .boolean) 4 g [.ref (ad g 0), .long v1] σ r0 σ0 := by
  refine q_met g hg (own := "TermBench") rfl rfl (Nat.le_of_ble_eq_true rfl) (fun p e s m args below meth c R Q cx hRk hr hQ H locs ls hP hS hl => ?_)
  have hx := cx.1
  have hb := cx.2.1
  have hown := cx.2.2.2.1
  have hts := cx.2.2.2.2.1
  have hl : lv_has ls 3 [(0, .ref (ad g 0)), (1, .long v1)] := hl
  unfold f_Be_claim at h
  refine lv_aload_n hx hb dBe_claim_0 rfl (lv_at hl 0 rfl) ?_
  refine lv_bipush (v := 6) hx hb dBe_claim_1 (by decide) ?_
  refine lv_iconst (v := 0) hx hb dBe_claim_3 (by decide) ?_
  refine lv_lload_n hx hb dBe_claim_4 rfl (lv_at hl 1 rfl) ?_
  obtain ⟨r3, σ2, h1, h⟩ := bn_some h
  refine q_cVi (rest := []) (As := [.int (6 : Int32), .int (0 : Int32), .long v1]) cx hP hS hRk (c_Be_wrapTyped l g hg h1) Y_Be_wrapTyped V_Be_wrapTyped t_259 (by decide) (by decide) (e_0 g _ _) rfl rfl hl.1 rfl (Nat.le_of_ble_eq_true rfl) dBe_claim_5 (fun H locs hP hS => ?_)
  obtain ⟨b4, h⟩ := gd_some h
  exact q_ri cx hr (isB_n b4) hP hS hQ h dBe_claim_8
theorem dBe_remove_0 : decode cBe_remove 0 = .ok (.aload_n 0, 1) := by decide +kernel
theorem dBe_remove_1 : decode cBe_remove 1 = .ok (.getfield 10, 3) := by decide +kernel
theorem dBe_remove_4 : decode cBe_remove 4 = .ok (.invokevirtual 53, 3) := by decide +kernel
theorem dBe_remove_7 : decode cBe_remove 7 = .ok (.invokevirtual 57, 3) := by decide +kernel
theorem dBe_remove_10 : decode cBe_remove 10 = .ok (.ifCond .eq 5, 3) := by decide +kernel
theorem dBe_remove_13 : decode cBe_remove 13 = .ok (.iconst 0, 1) := by decide +kernel
theorem dBe_remove_14 : decode cBe_remove 14 = .ok (.ireturn, 1) := by decide +kernel
theorem dBe_remove_15 : decode cBe_remove 15 = .ok (.aload_n 0, 1) := by decide +kernel
theorem dBe_remove_16 : decode cBe_remove 16 = .ok (.getfield 10, 3) := by decide +kernel
theorem dBe_remove_19 : decode cBe_remove 19 = .ok (.invokevirtual 63, 3) := by decide +kernel
theorem dBe_remove_22 : decode cBe_remove 22 = .ok (.invokevirtual 66, 3) := by decide +kernel
theorem dBe_remove_25 : decode cBe_remove 25 = .ok (.iconst 1, 1) := by decide +kernel
theorem dBe_remove_26 : decode cBe_remove 26 = .ok (.ireturn, 1) := by decide +kernel
def f_Be_remove   (σ : Mem) : Option (Int32 × Mem) :=
  bn (f_Hi_present σ) fun (i3 : Nat) (σ2 : Mem) =>
  gd (decide (i3 < 17)) (
  bn (f_Pr_isOnHole i3 σ2) fun (r7 : Int32) (σ6 : Mem) =>
  if r7 = 0 then (
  bn (f_Hi_keep σ6) fun (i10 : Nat) (σ9 : Mem) =>
  gd (decide (i10 < 17)) (
  bn (f_Pr_empty i10 σ9) fun (_ : Unit) (σ13 : Mem) =>
  some ((1 : Int32), σ13)))
  else (
  some ((0 : Int32), σ6)))
set_option maxHeartbeats 4000000 in
set_option maxRecDepth 100000 in
theorem c_Be_remove (l : Launch) (g : Gw) (hg : wInj g) {r0 : Int32} {σ σ0 : Mem} (h : f_Be_remove σ = some (r0, σ0)) : KI l yBe_remove cBe_remove 1 (some .boolean) 3 g [.ref (ad g 0)] σ r0 σ0 := by
  refine q_met g hg (own := "TermBench") rfl rfl (Nat.le_of_ble_eq_true rfl) (fun p e s m args below meth c R Q cx hRk hr hQ H locs ls hP hS hl => ?_)
  have hx := cx.1
  have hb := cx.2.1
  have hown := cx.2.2.2.1
  have hts := cx.2.2.2.2.1
  have hl : lv_has ls 1 [(0, .ref (ad g 0))] := hl
  unfold f_Be_remove at h
  refine lv_aload_n hx hb dBe_remove_0 rfl (lv_at hl 0 rfl) ?_
  refine g_Be_history cx hP  t_157 dBe_remove_1 ?_
  obtain ⟨i3, σ2, h1, h⟩ := bn_some h
  obtain ⟨b4, h⟩ := gd_some h
  have hi3 : i3 < 17 := of_decide_eq_true b4
  refine q_cVr (rest := []) (As := []) cx hP hS hRk (c_Hi_present l g hg h1) Y_Hi_present V_Hi_present t_178 (by decide) (by decide) (e_1 g _ _) rfl rfl hl.1 rfl (Nat.le_of_ble_eq_true rfl) dBe_remove_4 (fun H locs hP hS => ?_)
  obtain ⟨r7, σ6, h5, h⟩ := bn_some h
  refine q_cVi (rest := []) (As := []) cx hP hS hRk (c_Pr_isOnHole l g hg hi3 h5) Y_Pr_isOnHole V_Pr_isOnHole t_182 (by decide) (l_cP hi3) (e_cP g hi3 _ _) rfl rfl hl.1 rfl (Nat.le_of_ble_eq_true rfl) dBe_remove_7 (fun H locs hP hS => ?_)
  refine lv_if_eq (tgt := 15) hx hb dBe_remove_10 (by decide) (fun hc => ?_) (fun hc => ?_)
  · replace h := if_t h hc
    refine lv_aload_n hx hb dBe_remove_15 rfl (lv_at hl 0 rfl) ?_
    refine g_Be_history cx hP  t_157 dBe_remove_16 ?_
    obtain ⟨i10, σ9, h8, h⟩ := bn_some h
    obtain ⟨b11, h⟩ := gd_some h
    have hi10 : i10 < 17 := of_decide_eq_true b11
    refine q_cVr (rest := []) (As := []) cx hP hS hRk (c_Hi_keep l g hg h8) Y_Hi_keep V_Hi_keep t_186 (by decide) (by decide) (e_1 g _ _) rfl rfl hl.1 rfl (Nat.le_of_ble_eq_true rfl) dBe_remove_19 (fun H locs hP hS => ?_)
    obtain ⟨rh12, σ13, h12, h⟩ := bn_some h
    refine q_cVv (rest := []) (As := []) cx hP hS hRk (c_Pr_empty l g hg hi10 h12) Y_Pr_empty V_Pr_empty t_278 (by decide) (l_cP hi10) (e_cP g hi10 _ _) rfl rfl hl.1 rfl (Nat.le_of_ble_eq_true rfl) dBe_remove_22 (fun H locs hP hS => ?_)
    refine lv_iconst (v := 1) hx hb dBe_remove_25 (by decide) ?_
    exact q_ri cx hr rfl hP hS hQ h dBe_remove_26
  · replace h := if_f h hc
    refine lv_iconst (v := 0) hx hb dBe_remove_13 (by decide) ?_
    exact q_ri cx hr rfl hP hS hQ h dBe_remove_14
theorem dBe_lift_0 : decode cBe_lift 0 = .ok (.aload_n 0, 1) := by decide +kernel
theorem dBe_lift_1 : decode cBe_lift 1 = .ok (.getfield 10, 3) := by decide +kernel
theorem dBe_lift_4 : decode cBe_lift 4 = .ok (.invokevirtual 53, 3) := by decide +kernel
theorem dBe_lift_7 : decode cBe_lift 7 = .ok (.getfield 69, 3) := by decide +kernel
theorem dBe_lift_10 : decode cBe_lift 10 = .ok (.ifCond .ne 5, 3) := by decide +kernel
theorem dBe_lift_13 : decode cBe_lift 13 = .ok (.iconst 0, 1) := by decide +kernel
theorem dBe_lift_14 : decode cBe_lift 14 = .ok (.ireturn, 1) := by decide +kernel
theorem dBe_lift_15 : decode cBe_lift 15 = .ok (.aload_n 0, 1) := by decide +kernel
theorem dBe_lift_16 : decode cBe_lift 16 = .ok (.getfield 10, 3) := by decide +kernel
theorem dBe_lift_19 : decode cBe_lift 19 = .ok (.invokevirtual 63, 3) := by decide +kernel
theorem dBe_lift_22 : decode cBe_lift 22 = .ok (.invokevirtual 73, 3) := by decide +kernel
theorem dBe_lift_25 : decode cBe_lift 25 = .ok (.iconst 1, 1) := by decide +kernel
theorem dBe_lift_26 : decode cBe_lift 26 = .ok (.ireturn, 1) := by decide +kernel
def f_Be_lift   (σ : Mem) : Option (Int32 × Mem) :=
  bn (f_Hi_present σ) fun (i3 : Nat) (σ2 : Mem) =>
  gd (decide (i3 < 17)) (
  if (σ2.1 (cP i3) 5) = 0 then (
  some ((0 : Int32), σ2))
  else (
  bn (f_Hi_keep σ2) fun (i7 : Nat) (σ6 : Mem) =>
  gd (decide (i7 < 17)) (
  bn (f_Pr_raise i7 σ6) fun (_ : Unit) (σ10 : Mem) =>
  some ((1 : Int32), σ10))))
set_option maxHeartbeats 4000000 in
set_option maxRecDepth 100000 in
theorem c_Be_lift (l : Launch) (g : Gw) (hg : wInj g) {r0 : Int32} {σ σ0 : Mem} (h : f_Be_lift σ = some (r0, σ0)) : KI l yBe_lift cBe_lift 1 (some .boolean) 3 g [.ref (ad g 0)] σ r0 σ0 := by
  refine q_met g hg (own := "TermBench") rfl rfl (Nat.le_of_ble_eq_true rfl) (fun p e s m args below meth c R Q cx hRk hr hQ H locs ls hP hS hl => ?_)
  have hx := cx.1
  have hb := cx.2.1
  have hown := cx.2.2.2.1
  have hts := cx.2.2.2.2.1
  have hl : lv_has ls 1 [(0, .ref (ad g 0))] := hl
  unfold f_Be_lift at h
  refine lv_aload_n hx hb dBe_lift_0 rfl (lv_at hl 0 rfl) ?_
  refine g_Be_history cx hP  t_157 dBe_lift_1 ?_
  obtain ⟨i3, σ2, h1, h⟩ := bn_some h
  obtain ⟨b4, h⟩ := gd_some h
  have hi3 : i3 < 17 := of_decide_eq_true b4
  refine q_cVr (rest := []) (As := []) cx hP hS hRk (c_Hi_present l g hg h1) Y_Hi_present V_Hi_present t_178 (by decide) (by decide) (e_1 g _ _) rfl rfl hl.1 rfl (Nat.le_of_ble_eq_true rfl) dBe_lift_4 (fun H locs hP hS => ?_)
  refine g_Pr_cursor cx hP hi3  t_50 dBe_lift_7 ?_
  refine lv_if_ne (tgt := 15) hx hb dBe_lift_10 (by decide) (fun hc => ?_) (fun hc => ?_)
  · replace h := if_f h hc
    refine lv_aload_n hx hb dBe_lift_15 rfl (lv_at hl 0 rfl) ?_
    refine g_Be_history cx hP  t_157 dBe_lift_16 ?_
    obtain ⟨i7, σ6, h5, h⟩ := bn_some h
    obtain ⟨b8, h⟩ := gd_some h
    have hi7 : i7 < 17 := of_decide_eq_true b8
    refine q_cVr (rest := []) (As := []) cx hP hS hRk (c_Hi_keep l g hg h5) Y_Hi_keep V_Hi_keep t_186 (by decide) (by decide) (e_1 g _ _) rfl rfl hl.1 rfl (Nat.le_of_ble_eq_true rfl) dBe_lift_19 (fun H locs hP hS => ?_)
    obtain ⟨rh9, σ10, h9, h⟩ := bn_some h
    refine q_cVv (rest := []) (As := []) cx hP hS hRk (c_Pr_raise l g hg hi7 h9) Y_Pr_raise V_Pr_raise t_286 (by decide) (l_cP hi7) (e_cP g hi7 _ _) rfl rfl hl.1 rfl (Nat.le_of_ble_eq_true rfl) dBe_lift_22 (fun H locs hP hS => ?_)
    refine lv_iconst (v := 1) hx hb dBe_lift_25 (by decide) ?_
    exact q_ri cx hr rfl hP hS hQ h dBe_lift_26
  · replace h := if_t h hc
    refine lv_iconst (v := 0) hx hb dBe_lift_13 (by decide) ?_
    exact q_ri cx hr rfl hP hS hQ h dBe_lift_14
theorem dBe_undo_0 : decode cBe_undo 0 = .ok (.aload_n 0, 1) := by decide +kernel
theorem dBe_undo_1 : decode cBe_undo 1 = .ok (.getfield 10, 3) := by decide +kernel
theorem dBe_undo_4 : decode cBe_undo 4 = .ok (.invokevirtual 76, 3) := by decide +kernel
theorem dBe_undo_7 : decode cBe_undo 7 = .ok (.ireturn, 1) := by decide +kernel
def f_Be_undo   (σ : Mem) : Option (Int32 × Mem) :=
  bn (f_Hi_stepBack σ) fun (r3 : Int32) (σ2 : Mem) =>
  gd (isB r3) (some (r3, σ2))
set_option maxHeartbeats 4000000 in
set_option maxRecDepth 100000 in
theorem c_Be_undo (l : Launch) (g : Gw) (hg : wInj g) {r0 : Int32} {σ σ0 : Mem} (h : f_Be_undo σ = some (r0, σ0)) : KI l yBe_undo cBe_undo 1 (some .boolean) 1 g [.ref (ad g 0)] σ r0 σ0 := by
  refine q_met g hg (own := "TermBench") rfl rfl (Nat.le_of_ble_eq_true rfl) (fun p e s m args below meth c R Q cx hRk hr hQ H locs ls hP hS hl => ?_)
  have hx := cx.1
  have hb := cx.2.1
  have hown := cx.2.2.2.1
  have hts := cx.2.2.2.2.1
  have hl : lv_has ls 1 [(0, .ref (ad g 0))] := hl
  unfold f_Be_undo at h
  refine lv_aload_n hx hb dBe_undo_0 rfl (lv_at hl 0 rfl) ?_
  refine g_Be_history cx hP  t_157 dBe_undo_1 ?_
  obtain ⟨r3, σ2, h1, h⟩ := bn_some h
  refine q_cVi (rest := []) (As := []) cx hP hS hRk (c_Hi_stepBack l g hg h1) Y_Hi_stepBack V_Hi_stepBack t_298 (by decide) (by decide) (e_1 g _ _) rfl rfl hl.1 rfl (Nat.le_of_ble_eq_true rfl) dBe_undo_4 (fun H locs hP hS => ?_)
  obtain ⟨b4, h⟩ := gd_some h
  exact q_ri cx hr (isB_n b4) hP hS hQ h dBe_undo_7
theorem dBe_redo_0 : decode cBe_redo 0 = .ok (.aload_n 0, 1) := by decide +kernel
theorem dBe_redo_1 : decode cBe_redo 1 = .ok (.getfield 10, 3) := by decide +kernel
theorem dBe_redo_4 : decode cBe_redo 4 = .ok (.invokevirtual 79, 3) := by decide +kernel
theorem dBe_redo_7 : decode cBe_redo 7 = .ok (.ireturn, 1) := by decide +kernel
def f_Be_redo   (σ : Mem) : Option (Int32 × Mem) :=
  bn (f_Hi_stepForth σ) fun (r3 : Int32) (σ2 : Mem) =>
  gd (isB r3) (some (r3, σ2))
set_option maxHeartbeats 4000000 in
set_option maxRecDepth 100000 in
theorem c_Be_redo (l : Launch) (g : Gw) (hg : wInj g) {r0 : Int32} {σ σ0 : Mem} (h : f_Be_redo σ = some (r0, σ0)) : KI l yBe_redo cBe_redo 1 (some .boolean) 1 g [.ref (ad g 0)] σ r0 σ0 := by
  refine q_met g hg (own := "TermBench") rfl rfl (Nat.le_of_ble_eq_true rfl) (fun p e s m args below meth c R Q cx hRk hr hQ H locs ls hP hS hl => ?_)
  have hx := cx.1
  have hb := cx.2.1
  have hown := cx.2.2.2.1
  have hts := cx.2.2.2.2.1
  have hl : lv_has ls 1 [(0, .ref (ad g 0))] := hl
  unfold f_Be_redo at h
  refine lv_aload_n hx hb dBe_redo_0 rfl (lv_at hl 0 rfl) ?_
  refine g_Be_history cx hP  t_157 dBe_redo_1 ?_
  obtain ⟨r3, σ2, h1, h⟩ := bn_some h
  refine q_cVi (rest := []) (As := []) cx hP hS hRk (c_Hi_stepForth l g hg h1) Y_Hi_stepForth V_Hi_stepForth t_306 (by decide) (by decide) (e_1 g _ _) rfl rfl hl.1 rfl (Nat.le_of_ble_eq_true rfl) dBe_redo_4 (fun H locs hP hS => ?_)
  obtain ⟨b4, h⟩ := gd_some h
  exact q_ri cx hr (isB_n b4) hP hS hQ h dBe_redo_7
theorem dBe_moveTo_0 : decode cBe_moveTo 0 = .ok (.iload_n 1, 1) := by decide +kernel
theorem dBe_moveTo_1 : decode cBe_moveTo 1 = .ok (.ifCond .ge 5, 3) := by decide +kernel
theorem dBe_moveTo_4 : decode cBe_moveTo 4 = .ok (.iconst 0, 1) := by decide +kernel
theorem dBe_moveTo_5 : decode cBe_moveTo 5 = .ok (.ireturn, 1) := by decide +kernel
theorem dBe_moveTo_6 : decode cBe_moveTo 6 = .ok (.aload_n 0, 1) := by decide +kernel
theorem dBe_moveTo_7 : decode cBe_moveTo 7 = .ok (.getfield 10, 3) := by decide +kernel
theorem dBe_moveTo_10 : decode cBe_moveTo 10 = .ok (.invokevirtual 53, 3) := by decide +kernel
theorem dBe_moveTo_13 : decode cBe_moveTo 13 = .ok (.iload_n 1, 1) := by decide +kernel
theorem dBe_moveTo_14 : decode cBe_moveTo 14 = .ok (.putfield 69, 3) := by decide +kernel
theorem dBe_moveTo_17 : decode cBe_moveTo 17 = .ok (.iconst 1, 1) := by decide +kernel
theorem dBe_moveTo_18 : decode cBe_moveTo 18 = .ok (.ireturn, 1) := by decide +kernel
def f_Be_moveTo  (v1 : Int32) (σ : Mem) : Option (Int32 × Mem) :=
  if 0 ≤ v1 then (
  bn (f_Hi_present σ) fun (i3 : Nat) (σ2 : Mem) =>
  gd (decide (i3 < 17)) (
  lt_ (sI σ2 (cP i3) 5 v1) fun (σ5 : Mem) =>
  some ((1 : Int32), σ5)))
  else (
  some ((0 : Int32), σ))
set_option maxHeartbeats 4000000 in
set_option maxRecDepth 100000 in
theorem c_Be_moveTo (l : Launch) (g : Gw) (hg : wInj g) {v1 : Int32} {r0 : Int32} {σ σ0 : Mem} (h : f_Be_moveTo v1 σ = some (r0, σ0)) : KI l yBe_moveTo cBe_moveTo 2 (some .boolean) 1 g [.ref (ad g 0), .int v1] σ r0 σ0 := by
  refine q_met g hg (own := "TermBench") rfl rfl (Nat.le_of_ble_eq_true rfl) (fun p e s m args below meth c R Q cx hRk hr hQ H locs ls hP hS hl => ?_)
  have hx := cx.1
  have hb := cx.2.1
  have hown := cx.2.2.2.1
  have hts := cx.2.2.2.2.1
  have hl : lv_has ls 2 [(0, .ref (ad g 0)), (1, .int v1)] := hl
  unfold f_Be_moveTo at h
  refine lv_iload_n hx hb dBe_moveTo_0 rfl (lv_at hl 1 rfl) ?_
  refine lv_if_ge (tgt := 6) hx hb dBe_moveTo_1 (by decide) (fun hc => ?_) (fun hc => ?_)
  · replace h := if_t h hc
    refine lv_aload_n hx hb dBe_moveTo_6 rfl (lv_at hl 0 rfl) ?_
    refine g_Be_history cx hP  t_157 dBe_moveTo_7 ?_
    obtain ⟨i3, σ2, h1, h⟩ := bn_some h
    obtain ⟨b4, h⟩ := gd_some h
    have hi3 : i3 < 17 := of_decide_eq_true b4
    refine q_cVr (rest := []) (As := []) cx hP hS hRk (c_Hi_present l g hg h1) Y_Hi_present V_Hi_present t_178 (by decide) (by decide) (e_1 g _ _) rfl rfl hl.1 rfl (Nat.le_of_ble_eq_true rfl) dBe_moveTo_10 (fun H locs hP hS => ?_)
    refine lv_iload_n hx hb dBe_moveTo_13 rfl (lv_at hl 1 rfl) ?_
    obtain ⟨σ5, eσ5, h⟩ := lt_some h
    refine p_Pr_cursor cx hP hS hi3 t_50 dBe_moveTo_14 eσ5 (fun H locs hP hS => ?_)
    refine lv_iconst (v := 1) hx hb dBe_moveTo_17 (by decide) ?_
    exact q_ri cx hr rfl hP hS hQ h dBe_moveTo_18
  · replace h := if_f h hc
    refine lv_iconst (v := 0) hx hb dBe_moveTo_4 (by decide) ?_
    exact q_ri cx hr rfl hP hS hQ h dBe_moveTo_5
theorem dBe_up_0 : decode cBe_up 0 = .ok (.aload_n 0, 1) := by decide +kernel
theorem dBe_up_1 : decode cBe_up 1 = .ok (.getfield 10, 3) := by decide +kernel
theorem dBe_up_4 : decode cBe_up 4 = .ok (.invokevirtual 53, 3) := by decide +kernel
theorem dBe_up_7 : decode cBe_up 7 = .ok (.astore_n 1, 1) := by decide +kernel
theorem dBe_up_8 : decode cBe_up 8 = .ok (.aload_n 0, 1) := by decide +kernel
theorem dBe_up_9 : decode cBe_up 9 = .ok (.aload_n 1, 1) := by decide +kernel
theorem dBe_up_10 : decode cBe_up 10 = .ok (.aload_n 1, 1) := by decide +kernel
theorem dBe_up_11 : decode cBe_up 11 = .ok (.getfield 69, 3) := by decide +kernel
theorem dBe_up_14 : decode cBe_up 14 = .ok (.invokevirtual 82, 3) := by decide +kernel
theorem dBe_up_17 : decode cBe_up 17 = .ok (.invokevirtual 86, 3) := by decide +kernel
theorem dBe_up_20 : decode cBe_up 20 = .ok (.ireturn, 1) := by decide +kernel
def f_Be_up   (σ : Mem) : Option (Int32 × Mem) :=
  bn (f_Hi_present σ) fun (i3 : Nat) (σ2 : Mem) =>
  gd (decide (i3 < 17)) (
  bn (f_Pr_parent i3 (σ2.1 (cP i3) 5) σ2) fun (r7 : Int32) (σ6 : Mem) =>
  bn (f_Be_moveTo r7 σ6) fun (r10 : Int32) (σ9 : Mem) =>
  gd (isB r10) (some (r10, σ9)))
set_option maxHeartbeats 4000000 in
set_option maxRecDepth 100000 in
theorem c_Be_up (l : Launch) (g : Gw) (hg : wInj g) {r0 : Int32} {σ σ0 : Mem} (h : f_Be_up σ = some (r0, σ0)) : KI l yBe_up cBe_up 2 (some .boolean) 2 g [.ref (ad g 0)] σ r0 σ0 := by
  refine q_met g hg (own := "TermBench") rfl rfl (Nat.le_of_ble_eq_true rfl) (fun p e s m args below meth c R Q cx hRk hr hQ H locs ls hP hS hl => ?_)
  have hx := cx.1
  have hb := cx.2.1
  have hown := cx.2.2.2.1
  have hts := cx.2.2.2.2.1
  have hl : lv_has ls 2 [(0, .ref (ad g 0))] := hl
  unfold f_Be_up at h
  refine lv_aload_n hx hb dBe_up_0 rfl (lv_at hl 0 rfl) ?_
  refine g_Be_history cx hP  t_157 dBe_up_1 ?_
  obtain ⟨i3, σ2, h1, h⟩ := bn_some h
  obtain ⟨b4, h⟩ := gd_some h
  have hi3 : i3 < 17 := of_decide_eq_true b4
  refine q_cVr (rest := []) (As := []) cx hP hS hRk (c_Hi_present l g hg h1) Y_Hi_present V_Hi_present t_178 (by decide) (by decide) (e_1 g _ _) rfl rfl hl.1 rfl (Nat.le_of_ble_eq_true rfl) dBe_up_4 (fun H locs hP hS => ?_)
  refine lv_astore_n (lv' := [(1, .ref (ad g (cP i3))), (0, .ref (ad g 0))]) hx hb dBe_up_7 rfl hl (Nat.le_of_ble_eq_true rfl) rfl (fun ls hl => ?_)
  refine lv_aload_n hx hb dBe_up_8 rfl (lv_at hl 1 rfl) ?_
  refine lv_aload_n hx hb dBe_up_9 rfl (lv_at hl 0 rfl) ?_
  refine lv_aload_n hx hb dBe_up_10 rfl (lv_at hl 0 rfl) ?_
  refine g_Pr_cursor cx hP hi3  t_50 dBe_up_11 ?_
  obtain ⟨r7, σ6, h5, h⟩ := bn_some h
  refine q_cVi (rest := [.ref (ad g 0)]) (As := [.int (σ2.1 (cP i3) 5)]) cx hP hS hRk (c_Pr_parent l g hg hi3 h5) Y_Pr_parent V_Pr_parent t_314 (by decide) (l_cP hi3) (e_cP g hi3 _ _) rfl rfl hl.1 rfl (Nat.le_of_ble_eq_true rfl) dBe_up_14 (fun H locs hP hS => ?_)
  obtain ⟨r10, σ9, h8, h⟩ := bn_some h
  refine q_cVi (rest := []) (As := [.int r7]) cx hP hS hRk (c_Be_moveTo l g hg h8) Y_Be_moveTo V_Be_moveTo t_315 (by decide) (by decide) (e_0 g _ _) rfl rfl hl.1 rfl (Nat.le_of_ble_eq_true rfl) dBe_up_17 (fun H locs hP hS => ?_)
  obtain ⟨b11, h⟩ := gd_some h
  exact q_ri cx hr (isB_n b11) hP hS hQ h dBe_up_20
theorem dBe_down_0 : decode cBe_down 0 = .ok (.aload_n 0, 1) := by decide +kernel
theorem dBe_down_1 : decode cBe_down 1 = .ok (.getfield 10, 3) := by decide +kernel
theorem dBe_down_4 : decode cBe_down 4 = .ok (.invokevirtual 53, 3) := by decide +kernel
theorem dBe_down_7 : decode cBe_down 7 = .ok (.astore_n 2, 1) := by decide +kernel
theorem dBe_down_8 : decode cBe_down 8 = .ok (.aload_n 0, 1) := by decide +kernel
theorem dBe_down_9 : decode cBe_down 9 = .ok (.aload_n 2, 1) := by decide +kernel
theorem dBe_down_10 : decode cBe_down 10 = .ok (.aload_n 2, 1) := by decide +kernel
theorem dBe_down_11 : decode cBe_down 11 = .ok (.getfield 69, 3) := by decide +kernel
theorem dBe_down_14 : decode cBe_down 14 = .ok (.iload_n 1, 1) := by decide +kernel
theorem dBe_down_15 : decode cBe_down 15 = .ok (.invokevirtual 89, 3) := by decide +kernel
theorem dBe_down_18 : decode cBe_down 18 = .ok (.invokevirtual 86, 3) := by decide +kernel
theorem dBe_down_21 : decode cBe_down 21 = .ok (.ireturn, 1) := by decide +kernel
def f_Be_down  (v1 : Int32) (σ : Mem) : Option (Int32 × Mem) :=
  bn (f_Hi_present σ) fun (i3 : Nat) (σ2 : Mem) =>
  gd (decide (i3 < 17)) (
  bn (f_Pr_part i3 (σ2.1 (cP i3) 5) v1 σ2) fun (r7 : Int32) (σ6 : Mem) =>
  bn (f_Be_moveTo r7 σ6) fun (r10 : Int32) (σ9 : Mem) =>
  gd (isB r10) (some (r10, σ9)))
set_option maxHeartbeats 4000000 in
set_option maxRecDepth 100000 in
theorem c_Be_down (l : Launch) (g : Gw) (hg : wInj g) {v1 : Int32} {r0 : Int32} {σ σ0 : Mem} (h : f_Be_down v1 σ = some (r0, σ0)) : KI l yBe_down cBe_down 3 (some .boolean) 2 g [.ref (ad g 0), .int v1] σ r0 σ0 := by
  refine q_met g hg (own := "TermBench") rfl rfl (Nat.le_of_ble_eq_true rfl) (fun p e s m args below meth c R Q cx hRk hr hQ H locs ls hP hS hl => ?_)
  have hx := cx.1
  have hb := cx.2.1
  have hown := cx.2.2.2.1
  have hts := cx.2.2.2.2.1
  have hl : lv_has ls 3 [(0, .ref (ad g 0)), (1, .int v1)] := hl
  unfold f_Be_down at h
  refine lv_aload_n hx hb dBe_down_0 rfl (lv_at hl 0 rfl) ?_
  refine g_Be_history cx hP  t_157 dBe_down_1 ?_
  obtain ⟨i3, σ2, h1, h⟩ := bn_some h
  obtain ⟨b4, h⟩ := gd_some h
  have hi3 : i3 < 17 := of_decide_eq_true b4
  refine q_cVr (rest := []) (As := []) cx hP hS hRk (c_Hi_present l g hg h1) Y_Hi_present V_Hi_present t_178 (by decide) (by decide) (e_1 g _ _) rfl rfl hl.1 rfl (Nat.le_of_ble_eq_true rfl) dBe_down_4 (fun H locs hP hS => ?_)
  refine lv_astore_n (lv' := [(2, .ref (ad g (cP i3))), (0, .ref (ad g 0)), (1, .int v1)]) hx hb dBe_down_7 rfl hl (Nat.le_of_ble_eq_true rfl) rfl (fun ls hl => ?_)
  refine lv_aload_n hx hb dBe_down_8 rfl (lv_at hl 1 rfl) ?_
  refine lv_aload_n hx hb dBe_down_9 rfl (lv_at hl 0 rfl) ?_
  refine lv_aload_n hx hb dBe_down_10 rfl (lv_at hl 0 rfl) ?_
  refine g_Pr_cursor cx hP hi3  t_50 dBe_down_11 ?_
  refine lv_iload_n hx hb dBe_down_14 rfl (lv_at hl 2 rfl) ?_
  obtain ⟨r7, σ6, h5, h⟩ := bn_some h
  refine q_cVi (rest := [.ref (ad g 0)]) (As := [.int (σ2.1 (cP i3) 5), .int v1]) cx hP hS hRk (c_Pr_part l g hg hi3 h5) Y_Pr_part V_Pr_part t_323 (by decide) (l_cP hi3) (e_cP g hi3 _ _) rfl rfl hl.1 rfl (Nat.le_of_ble_eq_true rfl) dBe_down_15 (fun H locs hP hS => ?_)
  obtain ⟨r10, σ9, h8, h⟩ := bn_some h
  refine q_cVi (rest := []) (As := [.int r7]) cx hP hS hRk (c_Be_moveTo l g hg h8) Y_Be_moveTo V_Be_moveTo t_315 (by decide) (by decide) (e_0 g _ _) rfl rfl hl.1 rfl (Nat.le_of_ble_eq_true rfl) dBe_down_18 (fun H locs hP hS => ?_)
  obtain ⟨b11, h⟩ := gd_some h
  exact q_ri cx hr (isB_n b11) hP hS hQ h dBe_down_21
theorem dBe_written_0 : decode cBe_written 0 = .ok (.aload_n 0, 1) := by decide +kernel
theorem dBe_written_1 : decode cBe_written 1 = .ok (.getfield 26, 3) := by decide +kernel
theorem dBe_written_4 : decode cBe_written 4 = .ok (.getfield 175, 3) := by decide +kernel
theorem dBe_written_7 : decode cBe_written 7 = .ok (.aload_n 0, 1) := by decide +kernel
theorem dBe_written_8 : decode cBe_written 8 = .ok (.getfield 10, 3) := by decide +kernel
theorem dBe_written_11 : decode cBe_written 11 = .ok (.getfield 170, 3) := by decide +kernel
theorem dBe_written_14 : decode cBe_written 14 = .ok (.if_icmp .eq 40, 3) := by decide +kernel
theorem dBe_written_17 : decode cBe_written 17 = .ok (.aload_n 0, 1) := by decide +kernel
theorem dBe_written_18 : decode cBe_written 18 = .ok (.getfield 26, 3) := by decide +kernel
theorem dBe_written_21 : decode cBe_written 21 = .ok (.aload_n 0, 1) := by decide +kernel
theorem dBe_written_22 : decode cBe_written 22 = .ok (.getfield 10, 3) := by decide +kernel
theorem dBe_written_25 : decode cBe_written 25 = .ok (.getfield 170, 3) := by decide +kernel
theorem dBe_written_28 : decode cBe_written 28 = .ok (.putfield 175, 3) := by decide +kernel
theorem dBe_written_31 : decode cBe_written 31 = .ok (.aload_n 0, 1) := by decide +kernel
theorem dBe_written_32 : decode cBe_written 32 = .ok (.getfield 26, 3) := by decide +kernel
theorem dBe_written_35 : decode cBe_written 35 = .ok (.invokevirtual 176, 3) := by decide +kernel
theorem dBe_written_38 : decode cBe_written 38 = .ok (.aload_n 0, 1) := by decide +kernel
theorem dBe_written_39 : decode cBe_written 39 = .ok (.getfield 26, 3) := by decide +kernel
theorem dBe_written_42 : decode cBe_written 42 = .ok (.aload_n 0, 1) := by decide +kernel
theorem dBe_written_43 : decode cBe_written 43 = .ok (.getfield 10, 3) := by decide +kernel
theorem dBe_written_46 : decode cBe_written 46 = .ok (.invokevirtual 53, 3) := by decide +kernel
theorem dBe_written_49 : decode cBe_written 49 = .ok (.iconst 0, 1) := by decide +kernel
theorem dBe_written_50 : decode cBe_written 50 = .ok (.iconst 0, 1) := by decide +kernel
theorem dBe_written_51 : decode cBe_written 51 = .ok (.invokevirtual 179, 3) := by decide +kernel
theorem dBe_written_54 : decode cBe_written 54 = .ok (.aload_n 0, 1) := by decide +kernel
theorem dBe_written_55 : decode cBe_written 55 = .ok (.getfield 26, 3) := by decide +kernel
theorem dBe_written_58 : decode cBe_written 58 = .ok (.areturn, 1) := by decide +kernel
def f_Be_written_J54   (σ : Mem) : Option (Nat × Mem) :=
  some (7, σ)
def f_Be_written   (σ : Mem) : Option (Nat × Mem) :=
  if (σ.1 7 4) = (σ.1 1 4) then (
  f_Be_written_J54 σ)
  else (
  lt_ (sI σ 7 4 (σ.1 1 4)) fun (σ1 : Mem) =>
  bn (f_Pa_clear σ1) fun (_ : Unit) (σ3 : Mem) =>
  bn (f_Hi_present σ3) fun (i6 : Nat) (σ5 : Mem) =>
  gd (decide (i6 < 17)) (
  bn (F_Pa_writeTerm 13 i6 (0 : Int32) (0 : Int32) σ5) fun (_ : Unit) (σ9 : Mem) =>
  f_Be_written_J54 σ9))
set_option maxHeartbeats 4000000 in
set_option maxRecDepth 100000 in
theorem c_Be_written (l : Launch) (g : Gw) (hg : wInj g) {r0 : Nat} {σ σ0 : Mem} (h : f_Be_written σ = some (r0, σ0)) : KR l yBe_written cBe_written 1 (some (.object "TermBench$Page")) 58 g [.ref (ad g 0)] σ 7 σ0 := by
  refine q_met g hg (own := "TermBench") rfl rfl (Nat.le_of_ble_eq_true rfl) (fun p e s m args below meth c R Q cx hRk hr hQ H locs ls hP hS hl => ?_)
  have hx := cx.1
  have hb := cx.2.1
  have hown := cx.2.2.2.1
  have hts := cx.2.2.2.2.1
  have hl : lv_has ls 1 [(0, .ref (ad g 0))] := hl
  have J54 : ∀ (σ : Mem), f_Be_written_J54 σ = some (r0, σ0) → ∀ (H : Heap) (locs : List Loc) (ls : Array Slot), lv_has ls 1 [(0, .ref (ad g 0))] → Wd g σ H → va_S (wA g) s.heap H locs → W p l e R s m args below meth c H locs 0 0 Q (F0 m 54 ls []) := by
    intro  σ h H locs ls hl hP hS
    unfold f_Be_written_J54 at h
    refine lv_aload_n hx hb dBe_written_54 rfl (lv_at hl 0 rfl) ?_
    refine g_Be_page cx hP  t_159 dBe_written_55 ?_
    exact q_rr cx hr hP hS hQ (q_r1 h) dBe_written_58
  unfold f_Be_written at h
  refine lv_aload_n hx hb dBe_written_0 rfl (lv_at hl 0 rfl) ?_
  refine g_Be_page cx hP  t_159 dBe_written_1 ?_
  refine g_Pa_change cx hP  t_118 dBe_written_4 ?_
  refine lv_aload_n hx hb dBe_written_7 rfl (lv_at hl 0 rfl) ?_
  refine g_Be_history cx hP  t_157 dBe_written_8 ?_
  refine g_Hi_change cx hP  t_71 dBe_written_11 ?_
  refine lv_icmp_eq (tgt := 54) hx hb dBe_written_14 (by decide) (fun hc => ?_) (fun hc => ?_)
  · replace h := if_t h hc
    exact J54 _ h _ _ _ (lv_sub hl [0] rfl) hP hS
  · replace h := if_f h hc
    refine lv_aload_n hx hb dBe_written_17 rfl (lv_at hl 0 rfl) ?_
    refine g_Be_page cx hP  t_159 dBe_written_18 ?_
    refine lv_aload_n hx hb dBe_written_21 rfl (lv_at hl 0 rfl) ?_
    refine g_Be_history cx hP  t_157 dBe_written_22 ?_
    refine g_Hi_change cx hP  t_71 dBe_written_25 ?_
    obtain ⟨σ1, eσ1, h⟩ := lt_some h
    refine p_Pa_change cx hP hS t_118 dBe_written_28 eσ1 (fun H locs hP hS => ?_)
    refine lv_aload_n hx hb dBe_written_31 rfl (lv_at hl 0 rfl) ?_
    refine g_Be_page cx hP  t_159 dBe_written_32 ?_
    obtain ⟨rh2, σ3, h2, h⟩ := bn_some h
    refine q_cVv (rest := []) (As := []) cx hP hS hRk (c_Pa_clear l g hg h2) Y_Pa_clear V_Pa_clear t_335 (by decide) (by decide) (e_7 g _ _) rfl rfl hl.1 rfl (Nat.le_of_ble_eq_true rfl) dBe_written_35 (fun H locs hP hS => ?_)
    refine lv_aload_n hx hb dBe_written_38 rfl (lv_at hl 0 rfl) ?_
    refine g_Be_page cx hP  t_159 dBe_written_39 ?_
    refine lv_aload_n hx hb dBe_written_42 rfl (lv_at hl 0 rfl) ?_
    refine g_Be_history cx hP  t_157 dBe_written_43 ?_
    obtain ⟨i6, σ5, h4, h⟩ := bn_some h
    obtain ⟨b7, h⟩ := gd_some h
    have hi6 : i6 < 17 := of_decide_eq_true b7
    refine q_cVr (rest := [.ref (ad g 7)]) (As := []) cx hP hS hRk (c_Hi_present l g hg h4) Y_Hi_present V_Hi_present t_178 (by decide) (by decide) (e_1 g _ _) rfl rfl hl.1 rfl (Nat.le_of_ble_eq_true rfl) dBe_written_46 (fun H locs hP hS => ?_)
    refine lv_iconst (v := 0) hx hb dBe_written_49 (by decide) ?_
    refine lv_iconst (v := 0) hx hb dBe_written_50 (by decide) ?_
    obtain ⟨rh8, σ9, h8, h⟩ := bn_some h
    refine q_cVv (rest := []) (As := [.ref (ad g (cP i6)), .int (0 : Int32), .int (0 : Int32)]) cx hP hS hRk (C_Pa_writeTerm l g hg 13 hi6 h8) Y_Pa_writeTerm V_Pa_writeTerm t_342 (by decide) (by decide) (e_7 g _ _) rfl rfl hl.1 rfl (Nat.le_of_ble_eq_true rfl) dBe_written_51 (fun H locs hP hS => ?_)
    exact J54 _ h _ _ _ (lv_sub hl [0] rfl) hP hS
theorem dBe_hole_0 : decode cBe_hole 0 = .ok (.aload_n 0, 1) := by decide +kernel
theorem dBe_hole_1 : decode cBe_hole 1 = .ok (.aload_n 0, 1) := by decide +kernel
theorem dBe_hole_2 : decode cBe_hole 2 = .ok (.invokevirtual 93, 3) := by decide +kernel
theorem dBe_hole_5 : decode cBe_hole 5 = .ok (.aload_n 0, 1) := by decide +kernel
theorem dBe_hole_6 : decode cBe_hole 6 = .ok (.getfield 10, 3) := by decide +kernel
theorem dBe_hole_9 : decode cBe_hole 9 = .ok (.invokevirtual 53, 3) := by decide +kernel
theorem dBe_hole_12 : decode cBe_hole 12 = .ok (.invokevirtual 97, 3) := by decide +kernel
theorem dBe_hole_15 : decode cBe_hole 15 = .ok (.invokevirtual 86, 3) := by decide +kernel
theorem dBe_hole_18 : decode cBe_hole 18 = .ok (.ireturn, 1) := by decide +kernel
def f_Be_hole   (σ : Mem) : Option (Int32 × Mem) :=
  bn (f_Be_written σ) fun (_ : Nat) (σ2 : Mem) =>
  bn (f_Hi_present σ2) fun (i5 : Nat) (σ4 : Mem) =>
  gd (decide (i5 < 17)) (
  bn (f_Pa_nextHole i5 σ4) fun (r9 : Int32) (σ8 : Mem) =>
  bn (f_Be_moveTo r9 σ8) fun (r12 : Int32) (σ11 : Mem) =>
  gd (isB r12) (some (r12, σ11)))
set_option maxHeartbeats 4000000 in
set_option maxRecDepth 100000 in
theorem c_Be_hole (l : Launch) (g : Gw) (hg : wInj g) {r0 : Int32} {σ σ0 : Mem} (h : f_Be_hole σ = some (r0, σ0)) : KI l yBe_hole cBe_hole 1 (some .boolean) 59 g [.ref (ad g 0)] σ r0 σ0 := by
  refine q_met g hg (own := "TermBench") rfl rfl (Nat.le_of_ble_eq_true rfl) (fun p e s m args below meth c R Q cx hRk hr hQ H locs ls hP hS hl => ?_)
  have hx := cx.1
  have hb := cx.2.1
  have hown := cx.2.2.2.1
  have hts := cx.2.2.2.2.1
  have hl : lv_has ls 1 [(0, .ref (ad g 0))] := hl
  unfold f_Be_hole at h
  refine lv_aload_n hx hb dBe_hole_0 rfl (lv_at hl 0 rfl) ?_
  refine lv_aload_n hx hb dBe_hole_1 rfl (lv_at hl 0 rfl) ?_
  obtain ⟨rh1, σ2, h1, h⟩ := bn_some h
  refine q_cVr (rest := [.ref (ad g 0)]) (As := []) cx hP hS hRk (c_Be_written l g hg h1) Y_Be_written V_Be_written t_331 (by decide) (by decide) (e_0 g _ _) rfl rfl hl.1 rfl (Nat.le_of_ble_eq_true rfl) dBe_hole_2 (fun H locs hP hS => ?_)
  refine lv_aload_n hx hb dBe_hole_5 rfl (lv_at hl 0 rfl) ?_
  refine g_Be_history cx hP  t_157 dBe_hole_6 ?_
  obtain ⟨i5, σ4, h3, h⟩ := bn_some h
  obtain ⟨b6, h⟩ := gd_some h
  have hi5 : i5 < 17 := of_decide_eq_true b6
  refine q_cVr (rest := [.ref (ad g 7), .ref (ad g 0)]) (As := []) cx hP hS hRk (c_Hi_present l g hg h3) Y_Hi_present V_Hi_present t_178 (by decide) (by decide) (e_1 g _ _) rfl rfl hl.1 rfl (Nat.le_of_ble_eq_true rfl) dBe_hole_9 (fun H locs hP hS => ?_)
  obtain ⟨r9, σ8, h7, h⟩ := bn_some h
  refine q_cVi (rest := [.ref (ad g 0)]) (As := [.ref (ad g (cP i5))]) cx hP hS hRk (c_Pa_nextHole l g hg hi5 h7) Y_Pa_nextHole V_Pa_nextHole t_382 (by decide) (by decide) (e_7 g _ _) rfl rfl hl.1 rfl (Nat.le_of_ble_eq_true rfl) dBe_hole_12 (fun H locs hP hS => ?_)
  obtain ⟨r12, σ11, h10, h⟩ := bn_some h
  refine q_cVi (rest := []) (As := [.int r9]) cx hP hS hRk (c_Be_moveTo l g hg h10) Y_Be_moveTo V_Be_moveTo t_315 (by decide) (by decide) (e_0 g _ _) rfl rfl hl.1 rfl (Nat.le_of_ble_eq_true rfl) dBe_hole_15 (fun H locs hP hS => ?_)
  obtain ⟨b13, h⟩ := gd_some h
  exact q_ri cx hr (isB_n b13) hP hS hQ h dBe_hole_18
theorem dBe_click_0 : decode cBe_click 0 = .ok (.aload_n 0, 1) := by decide +kernel
theorem dBe_click_1 : decode cBe_click 1 = .ok (.aload_n 0, 1) := by decide +kernel
theorem dBe_click_2 : decode cBe_click 2 = .ok (.invokevirtual 93, 3) := by decide +kernel
theorem dBe_click_5 : decode cBe_click 5 = .ok (.aload_n 0, 1) := by decide +kernel
theorem dBe_click_6 : decode cBe_click 6 = .ok (.getfield 10, 3) := by decide +kernel
theorem dBe_click_9 : decode cBe_click 9 = .ok (.invokevirtual 53, 3) := by decide +kernel
theorem dBe_click_12 : decode cBe_click 12 = .ok (.iload_n 1, 1) := by decide +kernel
theorem dBe_click_13 : decode cBe_click 13 = .ok (.invokevirtual 101, 3) := by decide +kernel
theorem dBe_click_16 : decode cBe_click 16 = .ok (.invokevirtual 86, 3) := by decide +kernel
theorem dBe_click_19 : decode cBe_click 19 = .ok (.ireturn, 1) := by decide +kernel
def f_Be_click  (v1 : Int32) (σ : Mem) : Option (Int32 × Mem) :=
  bn (f_Be_written σ) fun (_ : Nat) (σ2 : Mem) =>
  bn (f_Hi_present σ2) fun (i5 : Nat) (σ4 : Mem) =>
  gd (decide (i5 < 17)) (
  bn (f_Pa_innermost i5 v1 σ4) fun (r9 : Int32) (σ8 : Mem) =>
  bn (f_Be_moveTo r9 σ8) fun (r12 : Int32) (σ11 : Mem) =>
  gd (isB r12) (some (r12, σ11)))
set_option maxHeartbeats 4000000 in
set_option maxRecDepth 100000 in
theorem c_Be_click (l : Launch) (g : Gw) (hg : wInj g) {v1 : Int32} {r0 : Int32} {σ σ0 : Mem} (h : f_Be_click v1 σ = some (r0, σ0)) : KI l yBe_click cBe_click 2 (some .boolean) 59 g [.ref (ad g 0), .int v1] σ r0 σ0 := by
  refine q_met g hg (own := "TermBench") rfl rfl (Nat.le_of_ble_eq_true rfl) (fun p e s m args below meth c R Q cx hRk hr hQ H locs ls hP hS hl => ?_)
  have hx := cx.1
  have hb := cx.2.1
  have hown := cx.2.2.2.1
  have hts := cx.2.2.2.2.1
  have hl : lv_has ls 2 [(0, .ref (ad g 0)), (1, .int v1)] := hl
  unfold f_Be_click at h
  refine lv_aload_n hx hb dBe_click_0 rfl (lv_at hl 0 rfl) ?_
  refine lv_aload_n hx hb dBe_click_1 rfl (lv_at hl 0 rfl) ?_
  obtain ⟨rh1, σ2, h1, h⟩ := bn_some h
  refine q_cVr (rest := [.ref (ad g 0)]) (As := []) cx hP hS hRk (c_Be_written l g hg h1) Y_Be_written V_Be_written t_331 (by decide) (by decide) (e_0 g _ _) rfl rfl hl.1 rfl (Nat.le_of_ble_eq_true rfl) dBe_click_2 (fun H locs hP hS => ?_)
  refine lv_aload_n hx hb dBe_click_5 rfl (lv_at hl 0 rfl) ?_
  refine g_Be_history cx hP  t_157 dBe_click_6 ?_
  obtain ⟨i5, σ4, h3, h⟩ := bn_some h
  obtain ⟨b6, h⟩ := gd_some h
  have hi5 : i5 < 17 := of_decide_eq_true b6
  refine q_cVr (rest := [.ref (ad g 7), .ref (ad g 0)]) (As := []) cx hP hS hRk (c_Hi_present l g hg h3) Y_Hi_present V_Hi_present t_178 (by decide) (by decide) (e_1 g _ _) rfl rfl hl.1 rfl (Nat.le_of_ble_eq_true rfl) dBe_click_9 (fun H locs hP hS => ?_)
  refine lv_iload_n hx hb dBe_click_12 rfl (lv_at hl 1 rfl) ?_
  obtain ⟨r9, σ8, h7, h⟩ := bn_some h
  refine q_cVi (rest := [.ref (ad g 0)]) (As := [.ref (ad g (cP i5)), .int v1]) cx hP hS hRk (c_Pa_innermost l g hg hi5 h7) Y_Pa_innermost V_Pa_innermost t_390 (by decide) (by decide) (e_7 g _ _) rfl rfl hl.1 rfl (Nat.le_of_ble_eq_true rfl) dBe_click_13 (fun H locs hP hS => ?_)
  obtain ⟨r12, σ11, h10, h⟩ := bn_some h
  refine q_cVi (rest := []) (As := [.int r9]) cx hP hS hRk (c_Be_moveTo l g hg h10) Y_Be_moveTo V_Be_moveTo t_315 (by decide) (by decide) (e_0 g _ _) rfl rfl hl.1 rfl (Nat.le_of_ble_eq_true rfl) dBe_click_16 (fun H locs hP hS => ?_)
  obtain ⟨b13, h⟩ := gd_some h
  exact q_ri cx hr (isB_n b13) hP hS hQ h dBe_click_19
theorem dBe_column_0 : decode cBe_column 0 = .ok (.aload_n 0, 1) := by decide +kernel
theorem dBe_column_1 : decode cBe_column 1 = .ok (.invokevirtual 93, 3) := by decide +kernel
theorem dBe_column_4 : decode cBe_column 4 = .ok (.getfield 105, 3) := by decide +kernel
theorem dBe_column_7 : decode cBe_column 7 = .ok (.aload_n 0, 1) := by decide +kernel
theorem dBe_column_8 : decode cBe_column 8 = .ok (.getfield 10, 3) := by decide +kernel
theorem dBe_column_11 : decode cBe_column 11 = .ok (.invokevirtual 53, 3) := by decide +kernel
theorem dBe_column_14 : decode cBe_column 14 = .ok (.getfield 69, 3) := by decide +kernel
theorem dBe_column_17 : decode cBe_column 17 = .ok (.iaload, 1) := by decide +kernel
theorem dBe_column_18 : decode cBe_column 18 = .ok (.ireturn, 1) := by decide +kernel
def f_Be_column   (σ : Mem) : Option (Int32 × Mem) :=
  bn (f_Be_written σ) fun (_ : Nat) (σ2 : Mem) =>
  bn (f_Hi_present σ2) fun (i5 : Nat) (σ4 : Mem) =>
  gd (decide (i5 < 17)) (
  gd (inb (σ4.1 (cP i5) 5) 40) (
  some (σ4.1 9 (σ4.1 (cP i5) 5).toNatClampNeg, σ4)))
set_option maxHeartbeats 4000000 in
set_option maxRecDepth 100000 in
theorem c_Be_column (l : Launch) (g : Gw) (hg : wInj g) {r0 : Int32} {σ σ0 : Mem} (h : f_Be_column σ = some (r0, σ0)) : KI l yBe_column cBe_column 1 (some .int) 59 g [.ref (ad g 0)] σ r0 σ0 := by
  refine q_met g hg (own := "TermBench") rfl rfl (Nat.le_of_ble_eq_true rfl) (fun p e s m args below meth c R Q cx hRk hr hQ H locs ls hP hS hl => ?_)
  have hx := cx.1
  have hb := cx.2.1
  have hown := cx.2.2.2.1
  have hts := cx.2.2.2.2.1
  have hl : lv_has ls 1 [(0, .ref (ad g 0))] := hl
  unfold f_Be_column at h
  refine lv_aload_n hx hb dBe_column_0 rfl (lv_at hl 0 rfl) ?_
  obtain ⟨rh1, σ2, h1, h⟩ := bn_some h
  refine q_cVr (rest := []) (As := []) cx hP hS hRk (c_Be_written l g hg h1) Y_Be_written V_Be_written t_331 (by decide) (by decide) (e_0 g _ _) rfl rfl hl.1 rfl (Nat.le_of_ble_eq_true rfl) dBe_column_1 (fun H locs hP hS => ?_)
  refine g_Pa_begins cx hP  t_114 dBe_column_4 ?_
  refine lv_aload_n hx hb dBe_column_7 rfl (lv_at hl 0 rfl) ?_
  refine g_Be_history cx hP  t_157 dBe_column_8 ?_
  obtain ⟨i5, σ4, h3, h⟩ := bn_some h
  obtain ⟨b6, h⟩ := gd_some h
  have hi5 : i5 < 17 := of_decide_eq_true b6
  refine q_cVr (rest := [.ref (ad g 9)]) (As := []) cx hP hS hRk (c_Hi_present l g hg h3) Y_Hi_present V_Hi_present t_178 (by decide) (by decide) (e_1 g _ _) rfl rfl hl.1 rfl (Nat.le_of_ble_eq_true rfl) dBe_column_11 (fun H locs hP hS => ?_)
  refine g_Pr_cursor cx hP hi5  t_50 dBe_column_14 ?_
  obtain ⟨b7, h⟩ := gd_some h
  refine q_iald cx hP (by decide) (e_9 g) b7 dBe_column_17 ?_
  exact q_ri cx hr rfl hP hS hQ h dBe_column_18
theorem dBe_kind_0 : decode cBe_kind 0 = .ok (.aload_n 0, 1) := by decide +kernel
theorem dBe_kind_1 : decode cBe_kind 1 = .ok (.getfield 10, 3) := by decide +kernel
theorem dBe_kind_4 : decode cBe_kind 4 = .ok (.invokevirtual 53, 3) := by decide +kernel
theorem dBe_kind_7 : decode cBe_kind 7 = .ok (.astore_n 1, 1) := by decide +kernel
theorem dBe_kind_8 : decode cBe_kind 8 = .ok (.aload_n 1, 1) := by decide +kernel
theorem dBe_kind_9 : decode cBe_kind 9 = .ok (.getfield 109, 3) := by decide +kernel
theorem dBe_kind_12 : decode cBe_kind 12 = .ok (.aload_n 1, 1) := by decide +kernel
theorem dBe_kind_13 : decode cBe_kind 13 = .ok (.getfield 69, 3) := by decide +kernel
theorem dBe_kind_16 : decode cBe_kind 16 = .ok (.iaload, 1) := by decide +kernel
theorem dBe_kind_17 : decode cBe_kind 17 = .ok (.ireturn, 1) := by decide +kernel
def f_Be_kind   (σ : Mem) : Option (Int32 × Mem) :=
  bn (f_Hi_present σ) fun (i3 : Nat) (σ2 : Mem) =>
  gd (decide (i3 < 17)) (
  gd (inb (σ2.1 (cP i3) 5) 40) (
  some (σ2.1 (cPk i3) (σ2.1 (cP i3) 5).toNatClampNeg, σ2)))
set_option maxHeartbeats 4000000 in
set_option maxRecDepth 100000 in
theorem c_Be_kind (l : Launch) (g : Gw) (hg : wInj g) {r0 : Int32} {σ σ0 : Mem} (h : f_Be_kind σ = some (r0, σ0)) : KI l yBe_kind cBe_kind 2 (some .int) 1 g [.ref (ad g 0)] σ r0 σ0 := by
  refine q_met g hg (own := "TermBench") rfl rfl (Nat.le_of_ble_eq_true rfl) (fun p e s m args below meth c R Q cx hRk hr hQ H locs ls hP hS hl => ?_)
  have hx := cx.1
  have hb := cx.2.1
  have hown := cx.2.2.2.1
  have hts := cx.2.2.2.2.1
  have hl : lv_has ls 2 [(0, .ref (ad g 0))] := hl
  unfold f_Be_kind at h
  refine lv_aload_n hx hb dBe_kind_0 rfl (lv_at hl 0 rfl) ?_
  refine g_Be_history cx hP  t_157 dBe_kind_1 ?_
  obtain ⟨i3, σ2, h1, h⟩ := bn_some h
  obtain ⟨b4, h⟩ := gd_some h
  have hi3 : i3 < 17 := of_decide_eq_true b4
  refine q_cVr (rest := []) (As := []) cx hP hS hRk (c_Hi_present l g hg h1) Y_Hi_present V_Hi_present t_178 (by decide) (by decide) (e_1 g _ _) rfl rfl hl.1 rfl (Nat.le_of_ble_eq_true rfl) dBe_kind_4 (fun H locs hP hS => ?_)
  refine lv_astore_n (lv' := [(1, .ref (ad g (cP i3))), (0, .ref (ad g 0))]) hx hb dBe_kind_7 rfl hl (Nat.le_of_ble_eq_true rfl) rfl (fun ls hl => ?_)
  refine lv_aload_n hx hb dBe_kind_8 rfl (lv_at hl 0 rfl) ?_
  refine g_Pr_kinds cx hP hi3  t_37 dBe_kind_9 ?_
  refine lv_aload_n hx hb dBe_kind_12 rfl (lv_at hl 0 rfl) ?_
  refine g_Pr_cursor cx hP hi3  t_50 dBe_kind_13 ?_
  obtain ⟨b5, h⟩ := gd_some h
  refine q_iald cx hP (l_cPk hi3) (e_cPk g hi3) b5 dBe_kind_16 ?_
  exact q_ri cx hr rfl hP hS hQ h dBe_kind_17
theorem dBe_typed_0 : decode cBe_typed 0 = .ok (.aload_n 0, 1) := by decide +kernel
theorem dBe_typed_1 : decode cBe_typed 1 = .ok (.getfield 19, 3) := by decide +kernel
theorem dBe_typed_4 : decode cBe_typed 4 = .ok (.getfield 167, 3) := by decide +kernel
theorem dBe_typed_7 : decode cBe_typed 7 = .ok (.aload_n 0, 1) := by decide +kernel
theorem dBe_typed_8 : decode cBe_typed 8 = .ok (.getfield 10, 3) := by decide +kernel
theorem dBe_typed_11 : decode cBe_typed 11 = .ok (.getfield 170, 3) := by decide +kernel
theorem dBe_typed_14 : decode cBe_typed 14 = .ok (.if_icmp .eq 35, 3) := by decide +kernel
theorem dBe_typed_17 : decode cBe_typed 17 = .ok (.aload_n 0, 1) := by decide +kernel
theorem dBe_typed_18 : decode cBe_typed 18 = .ok (.getfield 19, 3) := by decide +kernel
theorem dBe_typed_21 : decode cBe_typed 21 = .ok (.aload_n 0, 1) := by decide +kernel
theorem dBe_typed_22 : decode cBe_typed 22 = .ok (.getfield 10, 3) := by decide +kernel
theorem dBe_typed_25 : decode cBe_typed 25 = .ok (.getfield 170, 3) := by decide +kernel
theorem dBe_typed_28 : decode cBe_typed 28 = .ok (.putfield 167, 3) := by decide +kernel
theorem dBe_typed_31 : decode cBe_typed 31 = .ok (.aload_n 0, 1) := by decide +kernel
theorem dBe_typed_32 : decode cBe_typed 32 = .ok (.getfield 19, 3) := by decide +kernel
theorem dBe_typed_35 : decode cBe_typed 35 = .ok (.aload_n 0, 1) := by decide +kernel
theorem dBe_typed_36 : decode cBe_typed 36 = .ok (.getfield 10, 3) := by decide +kernel
theorem dBe_typed_39 : decode cBe_typed 39 = .ok (.invokevirtual 53, 3) := by decide +kernel
theorem dBe_typed_42 : decode cBe_typed 42 = .ok (.iconst 0, 1) := by decide +kernel
theorem dBe_typed_43 : decode cBe_typed 43 = .ok (.lconst 0, 1) := by decide +kernel
theorem dBe_typed_44 : decode cBe_typed 44 = .ok (.iconst 0, 1) := by decide +kernel
theorem dBe_typed_45 : decode cBe_typed 45 = .ok (.invokevirtual 171, 3) := by decide +kernel
theorem dBe_typed_48 : decode cBe_typed 48 = .ok (.pop2, 1) := by decide +kernel
theorem dBe_typed_49 : decode cBe_typed 49 = .ok (.aload_n 0, 1) := by decide +kernel
theorem dBe_typed_50 : decode cBe_typed 50 = .ok (.getfield 19, 3) := by decide +kernel
theorem dBe_typed_53 : decode cBe_typed 53 = .ok (.areturn, 1) := by decide +kernel
def f_Be_typed_J49   (σ : Mem) : Option (Nat × Mem) :=
  some (3, σ)
def f_Be_typed   (σ : Mem) : Option (Nat × Mem) :=
  if (σ.1 3 3) = (σ.1 1 4) then (
  f_Be_typed_J49 σ)
  else (
  lt_ (sI σ 3 3 (σ.1 1 4)) fun (σ1 : Mem) =>
  bn (f_Hi_present σ1) fun (i4 : Nat) (σ3 : Mem) =>
  gd (decide (i4 < 17)) (
  bn (F_Tg_typeTerm 13 i4 (0 : Int32) (0 : Int64) (0 : Int32) σ3) fun (r8 : Int64) (σ7 : Mem) =>
  f_Be_typed_J49 σ7))
set_option maxHeartbeats 4000000 in
set_option maxRecDepth 100000 in
theorem c_Be_typed (l : Launch) (g : Gw) (hg : wInj g) {r0 : Nat} {σ σ0 : Mem} (h : f_Be_typed σ = some (r0, σ0)) : KR l yBe_typed cBe_typed 1 (some (.object "TermBench$Typing")) 71 g [.ref (ad g 0)] σ 3 σ0 := by
  refine q_met g hg (own := "TermBench") rfl rfl (Nat.le_of_ble_eq_true rfl) (fun p e s m args below meth c R Q cx hRk hr hQ H locs ls hP hS hl => ?_)
  have hx := cx.1
  have hb := cx.2.1
  have hown := cx.2.2.2.1
  have hts := cx.2.2.2.2.1
  have hl : lv_has ls 1 [(0, .ref (ad g 0))] := hl
  have J49 : ∀ (σ : Mem), f_Be_typed_J49 σ = some (r0, σ0) → ∀ (H : Heap) (locs : List Loc) (ls : Array Slot), lv_has ls 1 [(0, .ref (ad g 0))] → Wd g σ H → va_S (wA g) s.heap H locs → W p l e R s m args below meth c H locs 0 0 Q (F0 m 49 ls []) := by
    intro  σ h H locs ls hl hP hS
    unfold f_Be_typed_J49 at h
    refine lv_aload_n hx hb dBe_typed_49 rfl (lv_at hl 0 rfl) ?_
    refine g_Be_typing cx hP  t_158 dBe_typed_50 ?_
    exact q_rr cx hr hP hS hQ (q_r1 h) dBe_typed_53
  unfold f_Be_typed at h
  refine lv_aload_n hx hb dBe_typed_0 rfl (lv_at hl 0 rfl) ?_
  refine g_Be_typing cx hP  t_158 dBe_typed_1 ?_
  refine g_Tg_change cx hP  t_96 dBe_typed_4 ?_
  refine lv_aload_n hx hb dBe_typed_7 rfl (lv_at hl 0 rfl) ?_
  refine g_Be_history cx hP  t_157 dBe_typed_8 ?_
  refine g_Hi_change cx hP  t_71 dBe_typed_11 ?_
  refine lv_icmp_eq (tgt := 49) hx hb dBe_typed_14 (by decide) (fun hc => ?_) (fun hc => ?_)
  · replace h := if_t h hc
    exact J49 _ h _ _ _ (lv_sub hl [0] rfl) hP hS
  · replace h := if_f h hc
    refine lv_aload_n hx hb dBe_typed_17 rfl (lv_at hl 0 rfl) ?_
    refine g_Be_typing cx hP  t_158 dBe_typed_18 ?_
    refine lv_aload_n hx hb dBe_typed_21 rfl (lv_at hl 0 rfl) ?_
    refine g_Be_history cx hP  t_157 dBe_typed_22 ?_
    refine g_Hi_change cx hP  t_71 dBe_typed_25 ?_
    obtain ⟨σ1, eσ1, h⟩ := lt_some h
    refine p_Tg_change cx hP hS t_96 dBe_typed_28 eσ1 (fun H locs hP hS => ?_)
    refine lv_aload_n hx hb dBe_typed_31 rfl (lv_at hl 0 rfl) ?_
    refine g_Be_typing cx hP  t_158 dBe_typed_32 ?_
    refine lv_aload_n hx hb dBe_typed_35 rfl (lv_at hl 0 rfl) ?_
    refine g_Be_history cx hP  t_157 dBe_typed_36 ?_
    obtain ⟨i4, σ3, h2, h⟩ := bn_some h
    obtain ⟨b5, h⟩ := gd_some h
    have hi4 : i4 < 17 := of_decide_eq_true b5
    refine q_cVr (rest := [.ref (ad g 3)]) (As := []) cx hP hS hRk (c_Hi_present l g hg h2) Y_Hi_present V_Hi_present t_178 (by decide) (by decide) (e_1 g _ _) rfl rfl hl.1 rfl (Nat.le_of_ble_eq_true rfl) dBe_typed_39 (fun H locs hP hS => ?_)
    refine lv_iconst (v := 0) hx hb dBe_typed_42 (by decide) ?_
    refine lv_lconst (v := 0) hx hb dBe_typed_43 rfl ?_
    refine lv_iconst (v := 0) hx hb dBe_typed_44 (by decide) ?_
    obtain ⟨r8, σ7, h6, h⟩ := bn_some h
    refine q_cVl (rest := []) (As := [.ref (ad g (cP i4)), .int (0 : Int32), .long (0 : Int64), .int (0 : Int32)]) cx hP hS hRk (C_Tg_typeTerm l g hg 13 hi4 h6) Y_Tg_typeTerm V_Tg_typeTerm t_410 (by decide) (by decide) (e_3 g _ _) rfl rfl hl.1 rfl (Nat.le_of_ble_eq_true rfl) dBe_typed_45 (fun H locs hP hS => ?_)
    refine lv_pop2_2 hx hb dBe_typed_48 rfl ?_
    exact J49 _ h _ _ _ (lv_sub hl [0] rfl) hP hS
theorem dBe_mark_0 : decode cBe_mark 0 = .ok (.aload_n 0, 1) := by decide +kernel
theorem dBe_mark_1 : decode cBe_mark 1 = .ok (.invokevirtual 112, 3) := by decide +kernel
theorem dBe_mark_4 : decode cBe_mark 4 = .ok (.getfield 116, 3) := by decide +kernel
theorem dBe_mark_7 : decode cBe_mark 7 = .ok (.aload_n 0, 1) := by decide +kernel
theorem dBe_mark_8 : decode cBe_mark 8 = .ok (.getfield 10, 3) := by decide +kernel
theorem dBe_mark_11 : decode cBe_mark 11 = .ok (.invokevirtual 53, 3) := by decide +kernel
theorem dBe_mark_14 : decode cBe_mark 14 = .ok (.getfield 69, 3) := by decide +kernel
theorem dBe_mark_17 : decode cBe_mark 17 = .ok (.iaload, 1) := by decide +kernel
theorem dBe_mark_18 : decode cBe_mark 18 = .ok (.ireturn, 1) := by decide +kernel
def f_Be_mark   (σ : Mem) : Option (Int32 × Mem) :=
  bn (f_Be_typed σ) fun (_ : Nat) (σ2 : Mem) =>
  bn (f_Hi_present σ2) fun (i5 : Nat) (σ4 : Mem) =>
  gd (decide (i5 < 17)) (
  gd (inb (σ4.1 (cP i5) 5) 40) (
  some (σ4.1 6 (σ4.1 (cP i5) 5).toNatClampNeg, σ4)))
set_option maxHeartbeats 4000000 in
set_option maxRecDepth 100000 in
theorem c_Be_mark (l : Launch) (g : Gw) (hg : wInj g) {r0 : Int32} {σ σ0 : Mem} (h : f_Be_mark σ = some (r0, σ0)) : KI l yBe_mark cBe_mark 1 (some .int) 72 g [.ref (ad g 0)] σ r0 σ0 := by
  refine q_met g hg (own := "TermBench") rfl rfl (Nat.le_of_ble_eq_true rfl) (fun p e s m args below meth c R Q cx hRk hr hQ H locs ls hP hS hl => ?_)
  have hx := cx.1
  have hb := cx.2.1
  have hown := cx.2.2.2.1
  have hts := cx.2.2.2.2.1
  have hl : lv_has ls 1 [(0, .ref (ad g 0))] := hl
  unfold f_Be_mark at h
  refine lv_aload_n hx hb dBe_mark_0 rfl (lv_at hl 0 rfl) ?_
  obtain ⟨rh1, σ2, h1, h⟩ := bn_some h
  refine q_cVr (rest := []) (As := []) cx hP hS hRk (c_Be_typed l g hg h1) Y_Be_typed V_Be_typed t_406 (by decide) (by decide) (e_0 g _ _) rfl rfl hl.1 rfl (Nat.le_of_ble_eq_true rfl) dBe_mark_1 (fun H locs hP hS => ?_)
  refine g_Tg_marks cx hP  t_94 dBe_mark_4 ?_
  refine lv_aload_n hx hb dBe_mark_7 rfl (lv_at hl 0 rfl) ?_
  refine g_Be_history cx hP  t_157 dBe_mark_8 ?_
  obtain ⟨i5, σ4, h3, h⟩ := bn_some h
  obtain ⟨b6, h⟩ := gd_some h
  have hi5 : i5 < 17 := of_decide_eq_true b6
  refine q_cVr (rest := [.ref (ad g 6)]) (As := []) cx hP hS hRk (c_Hi_present l g hg h3) Y_Hi_present V_Hi_present t_178 (by decide) (by decide) (e_1 g _ _) rfl rfl hl.1 rfl (Nat.le_of_ble_eq_true rfl) dBe_mark_11 (fun H locs hP hS => ?_)
  refine g_Pr_cursor cx hP hi5  t_50 dBe_mark_14 ?_
  obtain ⟨b7, h⟩ := gd_some h
  refine q_iald cx hP (by decide) (e_6 g) b7 dBe_mark_17 ?_
  exact q_ri cx hr rfl hP hS hQ h dBe_mark_18
theorem dBe_got_0 : decode cBe_got 0 = .ok (.aload_n 0, 1) := by decide +kernel
theorem dBe_got_1 : decode cBe_got 1 = .ok (.invokevirtual 112, 3) := by decide +kernel
theorem dBe_got_4 : decode cBe_got 4 = .ok (.getfield 119, 3) := by decide +kernel
theorem dBe_got_7 : decode cBe_got 7 = .ok (.aload_n 0, 1) := by decide +kernel
theorem dBe_got_8 : decode cBe_got 8 = .ok (.getfield 10, 3) := by decide +kernel
theorem dBe_got_11 : decode cBe_got 11 = .ok (.invokevirtual 53, 3) := by decide +kernel
theorem dBe_got_14 : decode cBe_got 14 = .ok (.getfield 69, 3) := by decide +kernel
theorem dBe_got_17 : decode cBe_got 17 = .ok (.laload, 1) := by decide +kernel
theorem dBe_got_18 : decode cBe_got 18 = .ok (.lreturn, 1) := by decide +kernel
def f_Be_got   (σ : Mem) : Option (Int64 × Mem) :=
  bn (f_Be_typed σ) fun (_ : Nat) (σ2 : Mem) =>
  bn (f_Hi_present σ2) fun (i5 : Nat) (σ4 : Mem) =>
  gd (decide (i5 < 17)) (
  gd (inb (σ4.1 (cP i5) 5) 40) (
  some (σ4.2 4 (σ4.1 (cP i5) 5).toNatClampNeg, σ4)))
set_option maxHeartbeats 4000000 in
set_option maxRecDepth 100000 in
theorem c_Be_got (l : Launch) (g : Gw) (hg : wInj g) {r0 : Int64} {σ σ0 : Mem} (h : f_Be_got σ = some (r0, σ0)) : KL l yBe_got cBe_got 1 (some .long) 72 g [.ref (ad g 0)] σ r0 σ0 := by
  refine q_met g hg (own := "TermBench") rfl rfl (Nat.le_of_ble_eq_true rfl) (fun p e s m args below meth c R Q cx hRk hr hQ H locs ls hP hS hl => ?_)
  have hx := cx.1
  have hb := cx.2.1
  have hown := cx.2.2.2.1
  have hts := cx.2.2.2.2.1
  have hl : lv_has ls 1 [(0, .ref (ad g 0))] := hl
  unfold f_Be_got at h
  refine lv_aload_n hx hb dBe_got_0 rfl (lv_at hl 0 rfl) ?_
  obtain ⟨rh1, σ2, h1, h⟩ := bn_some h
  refine q_cVr (rest := []) (As := []) cx hP hS hRk (c_Be_typed l g hg h1) Y_Be_typed V_Be_typed t_406 (by decide) (by decide) (e_0 g _ _) rfl rfl hl.1 rfl (Nat.le_of_ble_eq_true rfl) dBe_got_1 (fun H locs hP hS => ?_)
  refine g_Tg_gotTypes cx hP  t_90 dBe_got_4 ?_
  refine lv_aload_n hx hb dBe_got_7 rfl (lv_at hl 0 rfl) ?_
  refine g_Be_history cx hP  t_157 dBe_got_8 ?_
  obtain ⟨i5, σ4, h3, h⟩ := bn_some h
  obtain ⟨b6, h⟩ := gd_some h
  have hi5 : i5 < 17 := of_decide_eq_true b6
  refine q_cVr (rest := [.ref (ad g 4)]) (As := []) cx hP hS hRk (c_Hi_present l g hg h3) Y_Hi_present V_Hi_present t_178 (by decide) (by decide) (e_1 g _ _) rfl rfl hl.1 rfl (Nat.le_of_ble_eq_true rfl) dBe_got_11 (fun H locs hP hS => ?_)
  refine g_Pr_cursor cx hP hi5  t_50 dBe_got_14 ?_
  obtain ⟨b7, h⟩ := gd_some h
  refine q_lald cx hP (by decide) (e_4 g) b7 dBe_got_17 ?_
  exact q_rl cx hr hP hS hQ h dBe_got_18
theorem dBe_expected_0 : decode cBe_expected 0 = .ok (.aload_n 0, 1) := by decide +kernel
theorem dBe_expected_1 : decode cBe_expected 1 = .ok (.invokevirtual 112, 3) := by decide +kernel
theorem dBe_expected_4 : decode cBe_expected 4 = .ok (.getfield 123, 3) := by decide +kernel
theorem dBe_expected_7 : decode cBe_expected 7 = .ok (.aload_n 0, 1) := by decide +kernel
theorem dBe_expected_8 : decode cBe_expected 8 = .ok (.getfield 10, 3) := by decide +kernel
theorem dBe_expected_11 : decode cBe_expected 11 = .ok (.invokevirtual 53, 3) := by decide +kernel
theorem dBe_expected_14 : decode cBe_expected 14 = .ok (.getfield 69, 3) := by decide +kernel
theorem dBe_expected_17 : decode cBe_expected 17 = .ok (.laload, 1) := by decide +kernel
theorem dBe_expected_18 : decode cBe_expected 18 = .ok (.lreturn, 1) := by decide +kernel
def f_Be_expected   (σ : Mem) : Option (Int64 × Mem) :=
  bn (f_Be_typed σ) fun (_ : Nat) (σ2 : Mem) =>
  bn (f_Hi_present σ2) fun (i5 : Nat) (σ4 : Mem) =>
  gd (decide (i5 < 17)) (
  gd (inb (σ4.1 (cP i5) 5) 40) (
  some (σ4.2 5 (σ4.1 (cP i5) 5).toNatClampNeg, σ4)))
set_option maxHeartbeats 4000000 in
set_option maxRecDepth 100000 in
theorem c_Be_expected (l : Launch) (g : Gw) (hg : wInj g) {r0 : Int64} {σ σ0 : Mem} (h : f_Be_expected σ = some (r0, σ0)) : KL l yBe_expected cBe_expected 1 (some .long) 72 g [.ref (ad g 0)] σ r0 σ0 := by
  refine q_met g hg (own := "TermBench") rfl rfl (Nat.le_of_ble_eq_true rfl) (fun p e s m args below meth c R Q cx hRk hr hQ H locs ls hP hS hl => ?_)
  have hx := cx.1
  have hb := cx.2.1
  have hown := cx.2.2.2.1
  have hts := cx.2.2.2.2.1
  have hl : lv_has ls 1 [(0, .ref (ad g 0))] := hl
  unfold f_Be_expected at h
  refine lv_aload_n hx hb dBe_expected_0 rfl (lv_at hl 0 rfl) ?_
  obtain ⟨rh1, σ2, h1, h⟩ := bn_some h
  refine q_cVr (rest := []) (As := []) cx hP hS hRk (c_Be_typed l g hg h1) Y_Be_typed V_Be_typed t_406 (by decide) (by decide) (e_0 g _ _) rfl rfl hl.1 rfl (Nat.le_of_ble_eq_true rfl) dBe_expected_1 (fun H locs hP hS => ?_)
  refine g_Tg_expectedTypes cx hP  t_92 dBe_expected_4 ?_
  refine lv_aload_n hx hb dBe_expected_7 rfl (lv_at hl 0 rfl) ?_
  refine g_Be_history cx hP  t_157 dBe_expected_8 ?_
  obtain ⟨i5, σ4, h3, h⟩ := bn_some h
  obtain ⟨b6, h⟩ := gd_some h
  have hi5 : i5 < 17 := of_decide_eq_true b6
  refine q_cVr (rest := [.ref (ad g 5)]) (As := []) cx hP hS hRk (c_Hi_present l g hg h3) Y_Hi_present V_Hi_present t_178 (by decide) (by decide) (e_1 g _ _) rfl rfl hl.1 rfl (Nat.le_of_ble_eq_true rfl) dBe_expected_11 (fun H locs hP hS => ?_)
  refine g_Pr_cursor cx hP hi5  t_50 dBe_expected_14 ?_
  obtain ⟨b7, h⟩ := gd_some h
  refine q_lald cx hP (by decide) (e_5 g) b7 dBe_expected_17 ?_
  exact q_rl cx hr hP hS hQ h dBe_expected_18
theorem dBe_marks_0 : decode cBe_marks 0 = .ok (.aload_n 0, 1) := by decide +kernel
theorem dBe_marks_1 : decode cBe_marks 1 = .ok (.invokevirtual 112, 3) := by decide +kernel
theorem dBe_marks_4 : decode cBe_marks 4 = .ok (.aload_n 0, 1) := by decide +kernel
theorem dBe_marks_5 : decode cBe_marks 5 = .ok (.getfield 10, 3) := by decide +kernel
theorem dBe_marks_8 : decode cBe_marks 8 = .ok (.invokevirtual 53, 3) := by decide +kernel
theorem dBe_marks_11 : decode cBe_marks 11 = .ok (.getfield 126, 3) := by decide +kernel
theorem dBe_marks_14 : decode cBe_marks 14 = .ok (.invokevirtual 129, 3) := by decide +kernel
theorem dBe_marks_17 : decode cBe_marks 17 = .ok (.ireturn, 1) := by decide +kernel
def f_Be_marks   (σ : Mem) : Option (Int32 × Mem) :=
  bn (f_Be_typed σ) fun (_ : Nat) (σ2 : Mem) =>
  bn (f_Hi_present σ2) fun (i5 : Nat) (σ4 : Mem) =>
  gd (decide (i5 < 17)) (
  bn (f_Tg_countMarks (σ4.1 (cP i5) 4) σ4) fun (r9 : Int32) (σ8 : Mem) =>
  some (r9, σ8))
set_option maxHeartbeats 4000000 in
set_option maxRecDepth 100000 in
theorem c_Be_marks (l : Launch) (g : Gw) (hg : wInj g) {r0 : Int32} {σ σ0 : Mem} (h : f_Be_marks σ = some (r0, σ0)) : KI l yBe_marks cBe_marks 1 (some .int) 72 g [.ref (ad g 0)] σ r0 σ0 := by
  refine q_met g hg (own := "TermBench") rfl rfl (Nat.le_of_ble_eq_true rfl) (fun p e s m args below meth c R Q cx hRk hr hQ H locs ls hP hS hl => ?_)
  have hx := cx.1
  have hb := cx.2.1
  have hown := cx.2.2.2.1
  have hts := cx.2.2.2.2.1
  have hl : lv_has ls 1 [(0, .ref (ad g 0))] := hl
  unfold f_Be_marks at h
  refine lv_aload_n hx hb dBe_marks_0 rfl (lv_at hl 0 rfl) ?_
  obtain ⟨rh1, σ2, h1, h⟩ := bn_some h
  refine q_cVr (rest := []) (As := []) cx hP hS hRk (c_Be_typed l g hg h1) Y_Be_typed V_Be_typed t_406 (by decide) (by decide) (e_0 g _ _) rfl rfl hl.1 rfl (Nat.le_of_ble_eq_true rfl) dBe_marks_1 (fun H locs hP hS => ?_)
  refine lv_aload_n hx hb dBe_marks_4 rfl (lv_at hl 0 rfl) ?_
  refine g_Be_history cx hP  t_157 dBe_marks_5 ?_
  obtain ⟨i5, σ4, h3, h⟩ := bn_some h
  obtain ⟨b6, h⟩ := gd_some h
  have hi5 : i5 < 17 := of_decide_eq_true b6
  refine q_cVr (rest := [.ref (ad g 3)]) (As := []) cx hP hS hRk (c_Hi_present l g hg h3) Y_Hi_present V_Hi_present t_178 (by decide) (by decide) (e_1 g _ _) rfl rfl hl.1 rfl (Nat.le_of_ble_eq_true rfl) dBe_marks_8 (fun H locs hP hS => ?_)
  refine g_Pr_size cx hP hi5  t_47 dBe_marks_11 ?_
  obtain ⟨r9, σ8, h7, h⟩ := bn_some h
  refine q_cVi (rest := []) (As := [.int (σ4.1 (cP i5) 4)]) cx hP hS hRk (c_Tg_countMarks l g hg h7) Y_Tg_countMarks V_Tg_countMarks t_462 (by decide) (by decide) (e_3 g _ _) rfl rfl hl.1 rfl (Nat.le_of_ble_eq_true rfl) dBe_marks_14 (fun H locs hP hS => ?_)
  exact q_ri cx hr rfl hP hS hQ h dBe_marks_17
theorem dBe_terms_0 : decode cBe_terms 0 = .ok (.aload_n 0, 1) := by decide +kernel
theorem dBe_terms_1 : decode cBe_terms 1 = .ok (.getfield 10, 3) := by decide +kernel
theorem dBe_terms_4 : decode cBe_terms 4 = .ok (.invokevirtual 53, 3) := by decide +kernel
theorem dBe_terms_7 : decode cBe_terms 7 = .ok (.getfield 126, 3) := by decide +kernel
theorem dBe_terms_10 : decode cBe_terms 10 = .ok (.ireturn, 1) := by decide +kernel
def f_Be_terms   (σ : Mem) : Option (Int32 × Mem) :=
  bn (f_Hi_present σ) fun (i3 : Nat) (σ2 : Mem) =>
  gd (decide (i3 < 17)) (
  some (σ2.1 (cP i3) 4, σ2))
set_option maxHeartbeats 4000000 in
set_option maxRecDepth 100000 in
theorem c_Be_terms (l : Launch) (g : Gw) (hg : wInj g) {r0 : Int32} {σ σ0 : Mem} (h : f_Be_terms σ = some (r0, σ0)) : KI l yBe_terms cBe_terms 1 (some .int) 1 g [.ref (ad g 0)] σ r0 σ0 := by
  refine q_met g hg (own := "TermBench") rfl rfl (Nat.le_of_ble_eq_true rfl) (fun p e s m args below meth c R Q cx hRk hr hQ H locs ls hP hS hl => ?_)
  have hx := cx.1
  have hb := cx.2.1
  have hown := cx.2.2.2.1
  have hts := cx.2.2.2.2.1
  have hl : lv_has ls 1 [(0, .ref (ad g 0))] := hl
  unfold f_Be_terms at h
  refine lv_aload_n hx hb dBe_terms_0 rfl (lv_at hl 0 rfl) ?_
  refine g_Be_history cx hP  t_157 dBe_terms_1 ?_
  obtain ⟨i3, σ2, h1, h⟩ := bn_some h
  obtain ⟨b4, h⟩ := gd_some h
  have hi3 : i3 < 17 := of_decide_eq_true b4
  refine q_cVr (rest := []) (As := []) cx hP hS hRk (c_Hi_present l g hg h1) Y_Hi_present V_Hi_present t_178 (by decide) (by decide) (e_1 g _ _) rfl rfl hl.1 rfl (Nat.le_of_ble_eq_true rfl) dBe_terms_4 (fun H locs hP hS => ?_)
  refine g_Pr_size cx hP hi3  t_47 dBe_terms_7 ?_
  exact q_ri cx hr rfl hP hS hQ h dBe_terms_10
theorem dBe_text_0 : decode cBe_text 0 = .ok (.aload_n 0, 1) := by decide +kernel
theorem dBe_text_1 : decode cBe_text 1 = .ok (.invokevirtual 93, 3) := by decide +kernel
theorem dBe_text_4 : decode cBe_text 4 = .ok (.iload_n 1, 1) := by decide +kernel
theorem dBe_text_5 : decode cBe_text 5 = .ok (.invokevirtual 132, 3) := by decide +kernel
theorem dBe_text_8 : decode cBe_text 8 = .ok (.lreturn, 1) := by decide +kernel
def f_Be_text  (v1 : Int32) (σ : Mem) : Option (Int64 × Mem) :=
  bn (f_Be_written σ) fun (_ : Nat) (σ2 : Mem) =>
  bn (f_Pa_eightOf v1 σ2) fun (r5 : Int64) (σ4 : Mem) =>
  some (r5, σ4)
set_option maxHeartbeats 4000000 in
set_option maxRecDepth 100000 in
theorem c_Be_text (l : Launch) (g : Gw) (hg : wInj g) {v1 : Int32} {r0 : Int64} {σ σ0 : Mem} (h : f_Be_text v1 σ = some (r0, σ0)) : KL l yBe_text cBe_text 2 (some .long) 59 g [.ref (ad g 0), .int v1] σ r0 σ0 := by
  refine q_met g hg (own := "TermBench") rfl rfl (Nat.le_of_ble_eq_true rfl) (fun p e s m args below meth c R Q cx hRk hr hQ H locs ls hP hS hl => ?_)
  have hx := cx.1
  have hb := cx.2.1
  have hown := cx.2.2.2.1
  have hts := cx.2.2.2.2.1
  have hl : lv_has ls 2 [(0, .ref (ad g 0)), (1, .int v1)] := hl
  unfold f_Be_text at h
  refine lv_aload_n hx hb dBe_text_0 rfl (lv_at hl 0 rfl) ?_
  obtain ⟨rh1, σ2, h1, h⟩ := bn_some h
  refine q_cVr (rest := []) (As := []) cx hP hS hRk (c_Be_written l g hg h1) Y_Be_written V_Be_written t_331 (by decide) (by decide) (e_0 g _ _) rfl rfl hl.1 rfl (Nat.le_of_ble_eq_true rfl) dBe_text_1 (fun H locs hP hS => ?_)
  refine lv_iload_n hx hb dBe_text_4 rfl (lv_at hl 1 rfl) ?_
  obtain ⟨r5, σ4, h3, h⟩ := bn_some h
  refine q_cVl (rest := []) (As := [.int v1]) cx hP hS hRk (c_Pa_eightOf l g hg h3) Y_Pa_eightOf V_Pa_eightOf t_474 (by decide) (by decide) (e_7 g _ _) rfl rfl hl.1 rfl (Nat.le_of_ble_eq_true rfl) dBe_text_5 (fun H locs hP hS => ?_)
  exact q_rl cx hr hP hS hQ h dBe_text_8
theorem dBe_run_0 : decode cBe_run 0 = .ok (.aload_n 0, 1) := by decide +kernel
theorem dBe_run_1 : decode cBe_run 1 = .ok (.getfield 33, 3) := by decide +kernel
theorem dBe_run_4 : decode cBe_run 4 = .ok (.aload_n 0, 1) := by decide +kernel
theorem dBe_run_5 : decode cBe_run 5 = .ok (.getfield 10, 3) := by decide +kernel
theorem dBe_run_8 : decode cBe_run 8 = .ok (.invokevirtual 53, 3) := by decide +kernel
theorem dBe_run_11 : decode cBe_run 11 = .ok (.aload_n 0, 1) := by decide +kernel
theorem dBe_run_12 : decode cBe_run 12 = .ok (.invokevirtual 112, 3) := by decide +kernel
theorem dBe_run_15 : decode cBe_run 15 = .ok (.getfield 116, 3) := by decide +kernel
theorem dBe_run_18 : decode cBe_run 18 = .ok (.invokevirtual 136, 3) := by decide +kernel
theorem dBe_run_21 : decode cBe_run 21 = .ok (.ireturn, 1) := by decide +kernel
def f_Be_run   (σ : Mem) : Option (Int32 × Mem) :=
  bn (f_Hi_present σ) fun (i3 : Nat) (σ2 : Mem) =>
  gd (decide (i3 < 17)) (
  bn (f_Be_typed σ2) fun (_ : Nat) (σ6 : Mem) =>
  bn (f_Ma_start i3 σ6) fun (r9 : Int32) (σ8 : Mem) =>
  some (r9, σ8))
set_option maxHeartbeats 4000000 in
set_option maxRecDepth 100000 in
theorem c_Be_run (l : Launch) (g : Gw) (hg : wInj g) {r0 : Int32} {σ σ0 : Mem} (h : f_Be_run σ = some (r0, σ0)) : KI l yBe_run cBe_run 1 (some .int) 126 g [.ref (ad g 0)] σ r0 σ0 := by
  refine q_met g hg (own := "TermBench") rfl rfl (Nat.le_of_ble_eq_true rfl) (fun p e s m args below meth c R Q cx hRk hr hQ H locs ls hP hS hl => ?_)
  have hx := cx.1
  have hb := cx.2.1
  have hown := cx.2.2.2.1
  have hts := cx.2.2.2.2.1
  have hl : lv_has ls 1 [(0, .ref (ad g 0))] := hl
  unfold f_Be_run at h
  refine lv_aload_n hx hb dBe_run_0 rfl (lv_at hl 0 rfl) ?_
  refine g_Be_machine cx hP  t_160 dBe_run_1 ?_
  refine lv_aload_n hx hb dBe_run_4 rfl (lv_at hl 0 rfl) ?_
  refine g_Be_history cx hP  t_157 dBe_run_5 ?_
  obtain ⟨i3, σ2, h1, h⟩ := bn_some h
  obtain ⟨b4, h⟩ := gd_some h
  have hi3 : i3 < 17 := of_decide_eq_true b4
  refine q_cVr (rest := [.ref (ad g 11)]) (As := []) cx hP hS hRk (c_Hi_present l g hg h1) Y_Hi_present V_Hi_present t_178 (by decide) (by decide) (e_1 g _ _) rfl rfl hl.1 rfl (Nat.le_of_ble_eq_true rfl) dBe_run_8 (fun H locs hP hS => ?_)
  refine lv_aload_n hx hb dBe_run_11 rfl (lv_at hl 0 rfl) ?_
  obtain ⟨rh5, σ6, h5, h⟩ := bn_some h
  refine q_cVr (rest := [.ref (ad g (cP i3)), .ref (ad g 11)]) (As := []) cx hP hS hRk (c_Be_typed l g hg h5) Y_Be_typed V_Be_typed t_406 (by decide) (by decide) (e_0 g _ _) rfl rfl hl.1 rfl (Nat.le_of_ble_eq_true rfl) dBe_run_12 (fun H locs hP hS => ?_)
  refine g_Tg_marks cx hP  t_94 dBe_run_15 ?_
  obtain ⟨r9, σ8, h7, h⟩ := bn_some h
  refine q_cVi (rest := []) (As := [.ref (ad g (cP i3)), .ref (ad g 6)]) cx hP hS hRk (c_Ma_start l g hg hi3 h7) Y_Ma_start V_Ma_start t_482 (by decide) (by decide) (e_11 g _ _) rfl rfl hl.1 rfl (Nat.le_of_ble_eq_true rfl) dBe_run_18 (fun H locs hP hS => ?_)
  exact q_ri cx hr rfl hP hS hQ h dBe_run_21
theorem dBe_result_0 : decode cBe_result 0 = .ok (.aload_n 0, 1) := by decide +kernel
theorem dBe_result_1 : decode cBe_result 1 = .ok (.getfield 33, 3) := by decide +kernel
theorem dBe_result_4 : decode cBe_result 4 = .ok (.getfield 140, 3) := by decide +kernel
theorem dBe_result_7 : decode cBe_result 7 = .ok (.ireturn, 1) := by decide +kernel
def f_Be_result   (σ : Mem) : Option (Int32 × Mem) :=
  some (σ.1 11 5, σ)
set_option maxHeartbeats 4000000 in
set_option maxRecDepth 100000 in
theorem c_Be_result (l : Launch) (g : Gw) (hg : wInj g) {r0 : Int32} {σ σ0 : Mem} (h : f_Be_result σ = some (r0, σ0)) : KI l yBe_result cBe_result 1 (some .int) 0 g [.ref (ad g 0)] σ r0 σ0 := by
  refine q_met g hg (own := "TermBench") rfl rfl (Nat.le_of_ble_eq_true rfl) (fun p e s m args below meth c R Q cx hRk hr hQ H locs ls hP hS hl => ?_)
  have hx := cx.1
  have hb := cx.2.1
  have hown := cx.2.2.2.1
  have hts := cx.2.2.2.2.1
  have hl : lv_has ls 1 [(0, .ref (ad g 0))] := hl
  unfold f_Be_result at h
  refine lv_aload_n hx hb dBe_result_0 rfl (lv_at hl 0 rfl) ?_
  refine g_Be_machine cx hP  t_160 dBe_result_1 ?_
  refine g_Ma_number cx hP  t_143 dBe_result_4 ?_
  exact q_ri cx hr rfl hP hS hQ h dBe_result_7
theorem dBe_units_0 : decode cBe_units 0 = .ok (.aload_n 0, 1) := by decide +kernel
theorem dBe_units_1 : decode cBe_units 1 = .ok (.getfield 33, 3) := by decide +kernel
theorem dBe_units_4 : decode cBe_units 4 = .ok (.getfield 143, 3) := by decide +kernel
theorem dBe_units_7 : decode cBe_units 7 = .ok (.ireturn, 1) := by decide +kernel
def f_Be_units   (σ : Mem) : Option (Int32 × Mem) :=
  some (σ.1 11 4, σ)
set_option maxHeartbeats 4000000 in
set_option maxRecDepth 100000 in
theorem c_Be_units (l : Launch) (g : Gw) (hg : wInj g) {r0 : Int32} {σ σ0 : Mem} (h : f_Be_units σ = some (r0, σ0)) : KI l yBe_units cBe_units 1 (some .int) 0 g [.ref (ad g 0)] σ r0 σ0 := by
  refine q_met g hg (own := "TermBench") rfl rfl (Nat.le_of_ble_eq_true rfl) (fun p e s m args below meth c R Q cx hRk hr hQ H locs ls hP hS hl => ?_)
  have hx := cx.1
  have hb := cx.2.1
  have hown := cx.2.2.2.1
  have hts := cx.2.2.2.2.1
  have hl : lv_has ls 1 [(0, .ref (ad g 0))] := hl
  unfold f_Be_units at h
  refine lv_aload_n hx hb dBe_units_0 rfl (lv_at hl 0 rfl) ?_
  refine g_Be_machine cx hP  t_160 dBe_units_1 ?_
  refine g_Ma_units cx hP  t_141 dBe_units_4 ?_
  exact q_ri cx hr rfl hP hS hQ h dBe_units_7
end
