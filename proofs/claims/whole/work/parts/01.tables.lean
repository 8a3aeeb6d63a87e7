-- ===== PART A: goes FIRST, ahead of the names: the tables' words, and 'selects' of the private methods out of them =====
/-- a private method of a class that the tables say can be made, by its rows of tables_1 -/
def lw_okq (q : MethodName × Nat) : Prop := (q.1.cls ≠ "java/lang/invoke/MethodHandle" ∧ q.1.cls ≠ "java/lang/invoke/VarHandle") ∧ Cond.instantiable q.1.cls q.2 ∈ tables_1 ∧ Cond.privateMethod q.1 ∈ tables_1 ∧ Cond.instanceMethod q.1 ∈ tables_1
theorem lw_p0 : lw_okq (⟨"java/lang/Throwable", "fillInStackTrace", "(I)Ljava/lang/Throwable;"⟩, 6) := ⟨⟨by decide +kernel, by decide +kernel⟩, List.mem_of_getElem? (i := 414) (by decide +kernel), List.mem_of_getElem? (i := 412) (by decide +kernel), List.mem_of_getElem? (i := 413) (by decide +kernel)⟩
theorem lw_p1 : lw_okq (⟨"HostBench$Guest", "stop", "(I)V"⟩, 8) := ⟨⟨by decide +kernel, by decide +kernel⟩, List.mem_of_getElem? (i := 53) (by decide +kernel), List.mem_of_getElem? (i := 563) (by decide +kernel), List.mem_of_getElem? (i := 564) (by decide +kernel)⟩
theorem lw_p2 : lw_okq (⟨"HostBench$Guest", "isMarked", "()Z"⟩, 8) := ⟨⟨by decide +kernel, by decide +kernel⟩, List.mem_of_getElem? (i := 53) (by decide +kernel), List.mem_of_getElem? (i := 574) (by decide +kernel), List.mem_of_getElem? (i := 575) (by decide +kernel)⟩
theorem lw_p3 : lw_okq (⟨"HostBench$Guest", "execute", "(I)I"⟩, 8) := ⟨⟨by decide +kernel, by decide +kernel⟩, List.mem_of_getElem? (i := 53) (by decide +kernel), List.mem_of_getElem? (i := 580) (by decide +kernel), List.mem_of_getElem? (i := 581) (by decide +kernel)⟩
theorem lw_p4 : lw_okq (⟨"HostBench$Guest", "load", "(I)I"⟩, 8) := ⟨⟨by decide +kernel, by decide +kernel⟩, List.mem_of_getElem? (i := 53) (by decide +kernel), List.mem_of_getElem? (i := 584) (by decide +kernel), List.mem_of_getElem? (i := 585) (by decide +kernel)⟩
theorem lw_p5 : lw_okq (⟨"HostBench$Guest", "loaded", "(II)I"⟩, 8) := ⟨⟨by decide +kernel, by decide +kernel⟩, List.mem_of_getElem? (i := 53) (by decide +kernel), List.mem_of_getElem? (i := 595) (by decide +kernel), List.mem_of_getElem? (i := 596) (by decide +kernel)⟩
theorem lw_p6 : lw_okq (⟨"HostBench$Guest", "operateOnNumber", "(I)I"⟩, 8) := ⟨⟨by decide +kernel, by decide +kernel⟩, List.mem_of_getElem? (i := 53) (by decide +kernel), List.mem_of_getElem? (i := 605) (by decide +kernel), List.mem_of_getElem? (i := 606) (by decide +kernel)⟩
theorem lw_p7 : lw_okq (⟨"HostBench$Guest", "store", "(I)I"⟩, 8) := ⟨⟨by decide +kernel, by decide +kernel⟩, List.mem_of_getElem? (i := 53) (by decide +kernel), List.mem_of_getElem? (i := 616) (by decide +kernel), List.mem_of_getElem? (i := 617) (by decide +kernel)⟩
theorem lw_p8 : lw_okq (⟨"HostBench$Guest", "operate", "(I)I"⟩, 8) := ⟨⟨by decide +kernel, by decide +kernel⟩, List.mem_of_getElem? (i := 53) (by decide +kernel), List.mem_of_getElem? (i := 621) (by decide +kernel), List.mem_of_getElem? (i := 622) (by decide +kernel)⟩
theorem lw_p9 : lw_okq (⟨"HostBench$Guest", "branch", "(I)I"⟩, 8) := ⟨⟨by decide +kernel, by decide +kernel⟩, List.mem_of_getElem? (i := 53) (by decide +kernel), List.mem_of_getElem? (i := 631) (by decide +kernel), List.mem_of_getElem? (i := 632) (by decide +kernel)⟩
theorem lw_p10 : lw_okq (⟨"HostBench$Guest", "jump", "(II)I"⟩, 8) := ⟨⟨by decide +kernel, by decide +kernel⟩, List.mem_of_getElem? (i := 53) (by decide +kernel), List.mem_of_getElem? (i := 641) (by decide +kernel), List.mem_of_getElem? (i := 642) (by decide +kernel)⟩
theorem lw_p11 : lw_okq (⟨"HostBench$Host", "hasFields", "(I)Z"⟩, 15) := ⟨⟨by decide +kernel, by decide +kernel⟩, List.mem_of_getElem? (i := 47) (by decide +kernel), List.mem_of_getElem? (i := 660) (by decide +kernel), List.mem_of_getElem? (i := 661) (by decide +kernel)⟩
theorem lw_p12 : lw_okq (⟨"HostBench$Host", "perform", "(I)I"⟩, 15) := ⟨⟨by decide +kernel, by decide +kernel⟩, List.mem_of_getElem? (i := 47) (by decide +kernel), List.mem_of_getElem? (i := 665) (by decide +kernel), List.mem_of_getElem? (i := 666) (by decide +kernel)⟩
theorem lw_p13 : lw_okq (⟨"HostBench$Host", "field", "(I)I"⟩, 15) := ⟨⟨by decide +kernel, by decide +kernel⟩, List.mem_of_getElem? (i := 47) (by decide +kernel), List.mem_of_getElem? (i := 669) (by decide +kernel), List.mem_of_getElem? (i := 670) (by decide +kernel)⟩
theorem lw_p14 : lw_okq (⟨"HostBench$Host", "open", "(III)I"⟩, 15) := ⟨⟨by decide +kernel, by decide +kernel⟩, List.mem_of_getElem? (i := 47) (by decide +kernel), List.mem_of_getElem? (i := 674) (by decide +kernel), List.mem_of_getElem? (i := 675) (by decide +kernel)⟩
theorem lw_p15 : lw_okq (⟨"HostBench$Host", "fail", "(I)I"⟩, 15) := ⟨⟨by decide +kernel, by decide +kernel⟩, List.mem_of_getElem? (i := 47) (by decide +kernel), List.mem_of_getElem? (i := 678) (by decide +kernel), List.mem_of_getElem? (i := 679) (by decide +kernel)⟩
def lw_privs_1 : List (MethodName × Nat) := [(⟨"java/lang/Throwable", "fillInStackTrace", "(I)Ljava/lang/Throwable;"⟩, 6), (⟨"HostBench$Guest", "stop", "(I)V"⟩, 8), (⟨"HostBench$Guest", "isMarked", "()Z"⟩, 8), (⟨"HostBench$Guest", "execute", "(I)I"⟩, 8), (⟨"HostBench$Guest", "load", "(I)I"⟩, 8), (⟨"HostBench$Guest", "loaded", "(II)I"⟩, 8), (⟨"HostBench$Guest", "operateOnNumber", "(I)I"⟩, 8), (⟨"HostBench$Guest", "store", "(I)I"⟩, 8), (⟨"HostBench$Guest", "operate", "(I)I"⟩, 8), (⟨"HostBench$Guest", "branch", "(I)I"⟩, 8), (⟨"HostBench$Guest", "jump", "(II)I"⟩, 8), (⟨"HostBench$Host", "hasFields", "(I)Z"⟩, 15), (⟨"HostBench$Host", "perform", "(I)I"⟩, 15), (⟨"HostBench$Host", "field", "(I)I"⟩, 15), (⟨"HostBench$Host", "open", "(III)I"⟩, 15), (⟨"HostBench$Host", "fail", "(I)I"⟩, 15)]
theorem lw_r1 : ∀ q ∈ lw_privs_1, lw_okq q := List.forall_mem_cons.mpr ⟨lw_p0, List.forall_mem_cons.mpr ⟨lw_p1, List.forall_mem_cons.mpr ⟨lw_p2, List.forall_mem_cons.mpr ⟨lw_p3, List.forall_mem_cons.mpr ⟨lw_p4, List.forall_mem_cons.mpr ⟨lw_p5, List.forall_mem_cons.mpr ⟨lw_p6, List.forall_mem_cons.mpr ⟨lw_p7, List.forall_mem_cons.mpr ⟨lw_p8, List.forall_mem_cons.mpr ⟨lw_p9, List.forall_mem_cons.mpr ⟨lw_p10, List.forall_mem_cons.mpr ⟨lw_p11, List.forall_mem_cons.mpr ⟨lw_p12, List.forall_mem_cons.mpr ⟨lw_p13, List.forall_mem_cons.mpr ⟨lw_p14, List.forall_mem_cons.mpr ⟨lw_p15, fun _ h => absurd h List.not_mem_nil⟩⟩⟩⟩⟩⟩⟩⟩⟩⟩⟩⟩⟩⟩⟩⟩
theorem lw_p16 : lw_okq (⟨"HostBench$Host", "bringName", "(LHostBench$Bytes;II)I"⟩, 15) := ⟨⟨by decide +kernel, by decide +kernel⟩, List.mem_of_getElem? (i := 47) (by decide +kernel), List.mem_of_getElem? (i := 682) (by decide +kernel), List.mem_of_getElem? (i := 683) (by decide +kernel)⟩
theorem lw_p17 : lw_okq (⟨"HostBench$Host", "openFile", "(LHostBench$Handle;I)Z"⟩, 15) := ⟨⟨by decide +kernel, by decide +kernel⟩, List.mem_of_getElem? (i := 47) (by decide +kernel), List.mem_of_getElem? (i := 707) (by decide +kernel), List.mem_of_getElem? (i := 708) (by decide +kernel)⟩
theorem lw_p18 : lw_okq (⟨"HostBench$Host", "close", "(I)I"⟩, 15) := ⟨⟨by decide +kernel, by decide +kernel⟩, List.mem_of_getElem? (i := 47) (by decide +kernel), List.mem_of_getElem? (i := 717) (by decide +kernel), List.mem_of_getElem? (i := 718) (by decide +kernel)⟩
theorem lw_p19 : lw_okq (⟨"HostBench$Host", "writeText", "(I)I"⟩, 15) := ⟨⟨by decide +kernel, by decide +kernel⟩, List.mem_of_getElem? (i := 47) (by decide +kernel), List.mem_of_getElem? (i := 730) (by decide +kernel), List.mem_of_getElem? (i := 731) (by decide +kernel)⟩
theorem lw_p20 : lw_okq (⟨"HostBench$Host", "write", "(III)I"⟩, 15) := ⟨⟨by decide +kernel, by decide +kernel⟩, List.mem_of_getElem? (i := 47) (by decide +kernel), List.mem_of_getElem? (i := 746) (by decide +kernel), List.mem_of_getElem? (i := 747) (by decide +kernel)⟩
theorem lw_p21 : lw_okq (⟨"HostBench$Host", "writeFile", "(LHostBench$Handle;LHostBench$HostFile;II)I"⟩, 15) := ⟨⟨by decide +kernel, by decide +kernel⟩, List.mem_of_getElem? (i := 47) (by decide +kernel), List.mem_of_getElem? (i := 754) (by decide +kernel), List.mem_of_getElem? (i := 755) (by decide +kernel)⟩
theorem lw_p22 : lw_okq (⟨"HostBench$Host", "read", "(III)I"⟩, 15) := ⟨⟨by decide +kernel, by decide +kernel⟩, List.mem_of_getElem? (i := 47) (by decide +kernel), List.mem_of_getElem? (i := 764) (by decide +kernel), List.mem_of_getElem? (i := 765) (by decide +kernel)⟩
theorem lw_p23 : lw_okq (⟨"HostBench$Host", "bringBytes", "(LHostBench$Bytes;III)I"⟩, 15) := ⟨⟨by decide +kernel, by decide +kernel⟩, List.mem_of_getElem? (i := 47) (by decide +kernel), List.mem_of_getElem? (i := 768) (by decide +kernel), List.mem_of_getElem? (i := 769) (by decide +kernel)⟩
theorem lw_p24 : lw_okq (⟨"HostBench$Host", "readByte", "()I"⟩, 15) := ⟨⟨by decide +kernel, by decide +kernel⟩, List.mem_of_getElem? (i := 47) (by decide +kernel), List.mem_of_getElem? (i := 777) (by decide +kernel), List.mem_of_getElem? (i := 778) (by decide +kernel)⟩
theorem lw_p25 : lw_okq (⟨"HostBench$Host", "isConsole", "(I)I"⟩, 15) := ⟨⟨by decide +kernel, by decide +kernel⟩, List.mem_of_getElem? (i := 47) (by decide +kernel), List.mem_of_getElem? (i := 781) (by decide +kernel), List.mem_of_getElem? (i := 782) (by decide +kernel)⟩
theorem lw_p26 : lw_okq (⟨"HostBench$Host", "seek", "(II)I"⟩, 15) := ⟨⟨by decide +kernel, by decide +kernel⟩, List.mem_of_getElem? (i := 47) (by decide +kernel), List.mem_of_getElem? (i := 785) (by decide +kernel), List.mem_of_getElem? (i := 786) (by decide +kernel)⟩
theorem lw_p27 : lw_okq (⟨"HostBench$Host", "length", "(I)I"⟩, 15) := ⟨⟨by decide +kernel, by decide +kernel⟩, List.mem_of_getElem? (i := 47) (by decide +kernel), List.mem_of_getElem? (i := 789) (by decide +kernel), List.mem_of_getElem? (i := 790) (by decide +kernel)⟩
theorem lw_p28 : lw_okq (⟨"HostBench$Host", "temporaryName", "(III)I"⟩, 15) := ⟨⟨by decide +kernel, by decide +kernel⟩, List.mem_of_getElem? (i := 47) (by decide +kernel), List.mem_of_getElem? (i := 793) (by decide +kernel), List.mem_of_getElem? (i := 794) (by decide +kernel)⟩
theorem lw_p29 : lw_okq (⟨"HostBench$Host", "remove", "(II)I"⟩, 15) := ⟨⟨by decide +kernel, by decide +kernel⟩, List.mem_of_getElem? (i := 47) (by decide +kernel), List.mem_of_getElem? (i := 797) (by decide +kernel), List.mem_of_getElem? (i := 798) (by decide +kernel)⟩
theorem lw_p30 : lw_okq (⟨"HostBench$Host", "rename", "()I"⟩, 15) := ⟨⟨by decide +kernel, by decide +kernel⟩, List.mem_of_getElem? (i := 47) (by decide +kernel), List.mem_of_getElem? (i := 810) (by decide +kernel), List.mem_of_getElem? (i := 811) (by decide +kernel)⟩
theorem lw_p31 : lw_okq (⟨"HostBench$Host", "performOther", "(I)I"⟩, 15) := ⟨⟨by decide +kernel, by decide +kernel⟩, List.mem_of_getElem? (i := 47) (by decide +kernel), List.mem_of_getElem? (i := 815) (by decide +kernel), List.mem_of_getElem? (i := 816) (by decide +kernel)⟩
def lw_privs_2 : List (MethodName × Nat) := [(⟨"HostBench$Host", "bringName", "(LHostBench$Bytes;II)I"⟩, 15), (⟨"HostBench$Host", "openFile", "(LHostBench$Handle;I)Z"⟩, 15), (⟨"HostBench$Host", "close", "(I)I"⟩, 15), (⟨"HostBench$Host", "writeText", "(I)I"⟩, 15), (⟨"HostBench$Host", "write", "(III)I"⟩, 15), (⟨"HostBench$Host", "writeFile", "(LHostBench$Handle;LHostBench$HostFile;II)I"⟩, 15), (⟨"HostBench$Host", "read", "(III)I"⟩, 15), (⟨"HostBench$Host", "bringBytes", "(LHostBench$Bytes;III)I"⟩, 15), (⟨"HostBench$Host", "readByte", "()I"⟩, 15), (⟨"HostBench$Host", "isConsole", "(I)I"⟩, 15), (⟨"HostBench$Host", "seek", "(II)I"⟩, 15), (⟨"HostBench$Host", "length", "(I)I"⟩, 15), (⟨"HostBench$Host", "temporaryName", "(III)I"⟩, 15), (⟨"HostBench$Host", "remove", "(II)I"⟩, 15), (⟨"HostBench$Host", "rename", "()I"⟩, 15), (⟨"HostBench$Host", "performOther", "(I)I"⟩, 15)]
theorem lw_r2 : ∀ q ∈ lw_privs_2, lw_okq q := List.forall_mem_cons.mpr ⟨lw_p16, List.forall_mem_cons.mpr ⟨lw_p17, List.forall_mem_cons.mpr ⟨lw_p18, List.forall_mem_cons.mpr ⟨lw_p19, List.forall_mem_cons.mpr ⟨lw_p20, List.forall_mem_cons.mpr ⟨lw_p21, List.forall_mem_cons.mpr ⟨lw_p22, List.forall_mem_cons.mpr ⟨lw_p23, List.forall_mem_cons.mpr ⟨lw_p24, List.forall_mem_cons.mpr ⟨lw_p25, List.forall_mem_cons.mpr ⟨lw_p26, List.forall_mem_cons.mpr ⟨lw_p27, List.forall_mem_cons.mpr ⟨lw_p28, List.forall_mem_cons.mpr ⟨lw_p29, List.forall_mem_cons.mpr ⟨lw_p30, List.forall_mem_cons.mpr ⟨lw_p31, fun _ h => absurd h List.not_mem_nil⟩⟩⟩⟩⟩⟩⟩⟩⟩⟩⟩⟩⟩⟩⟩⟩
theorem lw_p32 : lw_okq (⟨"HostBench$Host", "tellCommand", "(II)I"⟩, 15) := ⟨⟨by decide +kernel, by decide +kernel⟩, List.mem_of_getElem? (i := 47) (by decide +kernel), List.mem_of_getElem? (i := 821) (by decide +kernel), List.mem_of_getElem? (i := 822) (by decide +kernel)⟩
theorem lw_p33 : lw_okq (⟨"HostBench$Host", "tellHeap", "(I)I"⟩, 15) := ⟨⟨by decide +kernel, by decide +kernel⟩, List.mem_of_getElem? (i := 47) (by decide +kernel), List.mem_of_getElem? (i := 830) (by decide +kernel), List.mem_of_getElem? (i := 831) (by decide +kernel)⟩
theorem lw_p34 : lw_okq (⟨"HostBench$Host", "exit", "(II)I"⟩, 15) := ⟨⟨by decide +kernel, by decide +kernel⟩, List.mem_of_getElem? (i := 47) (by decide +kernel), List.mem_of_getElem? (i := 836) (by decide +kernel), List.mem_of_getElem? (i := 837) (by decide +kernel)⟩
theorem lw_p35 : lw_okq (⟨"HostBench$Host", "tellSteps", "()I"⟩, 15) := ⟨⟨by decide +kernel, by decide +kernel⟩, List.mem_of_getElem? (i := 47) (by decide +kernel), List.mem_of_getElem? (i := 845) (by decide +kernel), List.mem_of_getElem? (i := 846) (by decide +kernel)⟩
theorem lw_p36 : lw_okq (⟨"HostBenchModel", "four", "(I)V"⟩, 30) := ⟨⟨by decide +kernel, by decide +kernel⟩, List.mem_of_getElem? (i := 904) (by decide +kernel), List.mem_of_getElem? (i := 1009) (by decide +kernel), List.mem_of_getElem? (i := 1010) (by decide +kernel)⟩
theorem lw_p37 : lw_okq (⟨"HostBenchModel", "use", "()I"⟩, 30) := ⟨⟨by decide +kernel, by decide +kernel⟩, List.mem_of_getElem? (i := 904) (by decide +kernel), List.mem_of_getElem? (i := 1021) (by decide +kernel), List.mem_of_getElem? (i := 1022) (by decide +kernel)⟩
theorem lw_p38 : lw_okq (⟨"HostBenchModel", "isNamed", "(II)Z"⟩, 30) := ⟨⟨by decide +kernel, by decide +kernel⟩, List.mem_of_getElem? (i := 904) (by decide +kernel), List.mem_of_getElem? (i := 1029) (by decide +kernel), List.mem_of_getElem? (i := 1030) (by decide +kernel)⟩
theorem lw_p39 : lw_okq (⟨"HostBenchModel", "openOf", "(I)I"⟩, 30) := ⟨⟨by decide +kernel, by decide +kernel⟩, List.mem_of_getElem? (i := 904) (by decide +kernel), List.mem_of_getElem? (i := 1033) (by decide +kernel), List.mem_of_getElem? (i := 1034) (by decide +kernel)⟩
theorem lw_p40 : lw_okq (⟨"HostBenchModel", "step", "()V"⟩, 30) := ⟨⟨by decide +kernel, by decide +kernel⟩, List.mem_of_getElem? (i := 904) (by decide +kernel), List.mem_of_getElem? (i := 1057) (by decide +kernel), List.mem_of_getElem? (i := 1058) (by decide +kernel)⟩
theorem lw_p41 : lw_okq (⟨"HostBenchModel", "stop", "(I)V"⟩, 30) := ⟨⟨by decide +kernel, by decide +kernel⟩, List.mem_of_getElem? (i := 904) (by decide +kernel), List.mem_of_getElem? (i := 1061) (by decide +kernel), List.mem_of_getElem? (i := 1062) (by decide +kernel)⟩
theorem lw_p42 : lw_okq (⟨"HostBenchModel", "word", "(I)I"⟩, 30) := ⟨⟨by decide +kernel, by decide +kernel⟩, List.mem_of_getElem? (i := 904) (by decide +kernel), List.mem_of_getElem? (i := 1073) (by decide +kernel), List.mem_of_getElem? (i := 1074) (by decide +kernel)⟩
theorem lw_p43 : lw_okq (⟨"HostBenchModel", "comes", "(II)V"⟩, 30) := ⟨⟨by decide +kernel, by decide +kernel⟩, List.mem_of_getElem? (i := 904) (by decide +kernel), List.mem_of_getElem? (i := 1077) (by decide +kernel), List.mem_of_getElem? (i := 1078) (by decide +kernel)⟩
theorem lw_p44 : lw_okq (⟨"HostBenchModel", "jump", "(II)V"⟩, 30) := ⟨⟨by decide +kernel, by decide +kernel⟩, List.mem_of_getElem? (i := 904) (by decide +kernel), List.mem_of_getElem? (i := 1082) (by decide +kernel), List.mem_of_getElem? (i := 1083) (by decide +kernel)⟩
theorem lw_p45 : lw_okq (⟨"HostBenchModel", "branch", "(IIII)V"⟩, 30) := ⟨⟨by decide +kernel, by decide +kernel⟩, List.mem_of_getElem? (i := 904) (by decide +kernel), List.mem_of_getElem? (i := 1086) (by decide +kernel), List.mem_of_getElem? (i := 1087) (by decide +kernel)⟩
theorem lw_p46 : lw_okq (⟨"HostBenchModel", "load", "(III)V"⟩, 30) := ⟨⟨by decide +kernel, by decide +kernel⟩, List.mem_of_getElem? (i := 904) (by decide +kernel), List.mem_of_getElem? (i := 1090) (by decide +kernel), List.mem_of_getElem? (i := 1091) (by decide +kernel)⟩
theorem lw_p47 : lw_okq (⟨"HostBenchModel", "store", "(III)V"⟩, 30) := ⟨⟨by decide +kernel, by decide +kernel⟩, List.mem_of_getElem? (i := 904) (by decide +kernel), List.mem_of_getElem? (i := 1094) (by decide +kernel), List.mem_of_getElem? (i := 1095) (by decide +kernel)⟩
def lw_privs_3 : List (MethodName × Nat) := [(⟨"HostBench$Host", "tellCommand", "(II)I"⟩, 15), (⟨"HostBench$Host", "tellHeap", "(I)I"⟩, 15), (⟨"HostBench$Host", "exit", "(II)I"⟩, 15), (⟨"HostBench$Host", "tellSteps", "()I"⟩, 15), (⟨"HostBenchModel", "four", "(I)V"⟩, 30), (⟨"HostBenchModel", "use", "()I"⟩, 30), (⟨"HostBenchModel", "isNamed", "(II)Z"⟩, 30), (⟨"HostBenchModel", "openOf", "(I)I"⟩, 30), (⟨"HostBenchModel", "step", "()V"⟩, 30), (⟨"HostBenchModel", "stop", "(I)V"⟩, 30), (⟨"HostBenchModel", "word", "(I)I"⟩, 30), (⟨"HostBenchModel", "comes", "(II)V"⟩, 30), (⟨"HostBenchModel", "jump", "(II)V"⟩, 30), (⟨"HostBenchModel", "branch", "(IIII)V"⟩, 30), (⟨"HostBenchModel", "load", "(III)V"⟩, 30), (⟨"HostBenchModel", "store", "(III)V"⟩, 30)]
theorem lw_r3 : ∀ q ∈ lw_privs_3, lw_okq q := List.forall_mem_cons.mpr ⟨lw_p32, List.forall_mem_cons.mpr ⟨lw_p33, List.forall_mem_cons.mpr ⟨lw_p34, List.forall_mem_cons.mpr ⟨lw_p35, List.forall_mem_cons.mpr ⟨lw_p36, List.forall_mem_cons.mpr ⟨lw_p37, List.forall_mem_cons.mpr ⟨lw_p38, List.forall_mem_cons.mpr ⟨lw_p39, List.forall_mem_cons.mpr ⟨lw_p40, List.forall_mem_cons.mpr ⟨lw_p41, List.forall_mem_cons.mpr ⟨lw_p42, List.forall_mem_cons.mpr ⟨lw_p43, List.forall_mem_cons.mpr ⟨lw_p44, List.forall_mem_cons.mpr ⟨lw_p45, List.forall_mem_cons.mpr ⟨lw_p46, List.forall_mem_cons.mpr ⟨lw_p47, fun _ h => absurd h List.not_mem_nil⟩⟩⟩⟩⟩⟩⟩⟩⟩⟩⟩⟩⟩⟩⟩⟩
theorem lw_p48 : lw_okq (⟨"HostBenchModel", "lays", "(III)V"⟩, 30) := ⟨⟨by decide +kernel, by decide +kernel⟩, List.mem_of_getElem? (i := 904) (by decide +kernel), List.mem_of_getElem? (i := 1098) (by decide +kernel), List.mem_of_getElem? (i := 1099) (by decide +kernel)⟩
theorem lw_p49 : lw_okq (⟨"HostBenchModel", "small", "(IIII)V"⟩, 30) := ⟨⟨by decide +kernel, by decide +kernel⟩, List.mem_of_getElem? (i := 904) (by decide +kernel), List.mem_of_getElem? (i := 1102) (by decide +kernel), List.mem_of_getElem? (i := 1103) (by decide +kernel)⟩
theorem lw_p50 : lw_okq (⟨"HostBenchModel", "two", "(IIIII)V"⟩, 30) := ⟨⟨by decide +kernel, by decide +kernel⟩, List.mem_of_getElem? (i := 904) (by decide +kernel), List.mem_of_getElem? (i := 1106) (by decide +kernel), List.mem_of_getElem? (i := 1107) (by decide +kernel)⟩
theorem lw_p51 : lw_okq (⟨"HostBenchModel", "breaks", "()V"⟩, 30) := ⟨⟨by decide +kernel, by decide +kernel⟩, List.mem_of_getElem? (i := 904) (by decide +kernel), List.mem_of_getElem? (i := 1117) (by decide +kernel), List.mem_of_getElem? (i := 1118) (by decide +kernel)⟩
theorem lw_p52 : lw_okq (⟨"HostBenchModel", "call", "(II)V"⟩, 30) := ⟨⟨by decide +kernel, by decide +kernel⟩, List.mem_of_getElem? (i := 904) (by decide +kernel), List.mem_of_getElem? (i := 1123) (by decide +kernel), List.mem_of_getElem? (i := 1124) (by decide +kernel)⟩
theorem lw_p53 : lw_okq (⟨"HostBenchModel", "fails", "(I)V"⟩, 30) := ⟨⟨by decide +kernel, by decide +kernel⟩, List.mem_of_getElem? (i := 904) (by decide +kernel), List.mem_of_getElem? (i := 1130) (by decide +kernel), List.mem_of_getElem? (i := 1131) (by decide +kernel)⟩
theorem lw_p54 : lw_okq (⟨"HostBenchModel", "open", "()V"⟩, 30) := ⟨⟨by decide +kernel, by decide +kernel⟩, List.mem_of_getElem? (i := 904) (by decide +kernel), List.mem_of_getElem? (i := 1134) (by decide +kernel), List.mem_of_getElem? (i := 1135) (by decide +kernel)⟩
theorem lw_p55 : lw_okq (⟨"HostBenchModel", "field", "(I)I"⟩, 30) := ⟨⟨by decide +kernel, by decide +kernel⟩, List.mem_of_getElem? (i := 904) (by decide +kernel), List.mem_of_getElem? (i := 1138) (by decide +kernel), List.mem_of_getElem? (i := 1139) (by decide +kernel)⟩
theorem lw_p56 : lw_okq (⟨"HostBenchModel", "nameFault", "(II)I"⟩, 30) := ⟨⟨by decide +kernel, by decide +kernel⟩, List.mem_of_getElem? (i := 904) (by decide +kernel), List.mem_of_getElem? (i := 1142) (by decide +kernel), List.mem_of_getElem? (i := 1143) (by decide +kernel)⟩
theorem lw_p57 : lw_okq (⟨"HostBenchModel", "opened", "(IIII)V"⟩, 30) := ⟨⟨by decide +kernel, by decide +kernel⟩, List.mem_of_getElem? (i := 904) (by decide +kernel), List.mem_of_getElem? (i := 1146) (by decide +kernel), List.mem_of_getElem? (i := 1147) (by decide +kernel)⟩
theorem lw_p58 : lw_okq (⟨"HostBenchModel", "answer", "(I)V"⟩, 30) := ⟨⟨by decide +kernel, by decide +kernel⟩, List.mem_of_getElem? (i := 904) (by decide +kernel), List.mem_of_getElem? (i := 1150) (by decide +kernel), List.mem_of_getElem? (i := 1151) (by decide +kernel)⟩
theorem lw_p59 : lw_okq (⟨"HostBenchModel", "find", "(II)I"⟩, 30) := ⟨⟨by decide +kernel, by decide +kernel⟩, List.mem_of_getElem? (i := 904) (by decide +kernel), List.mem_of_getElem? (i := 1154) (by decide +kernel), List.mem_of_getElem? (i := 1155) (by decide +kernel)⟩
theorem lw_p60 : lw_okq (⟨"HostBenchModel", "isOpen", "(I)Z"⟩, 30) := ⟨⟨by decide +kernel, by decide +kernel⟩, List.mem_of_getElem? (i := 904) (by decide +kernel), List.mem_of_getElem? (i := 1158) (by decide +kernel), List.mem_of_getElem? (i := 1159) (by decide +kernel)⟩
theorem lw_p61 : lw_okq (⟨"HostBenchModel", "prints", "(II)V"⟩, 30) := ⟨⟨by decide +kernel, by decide +kernel⟩, List.mem_of_getElem? (i := 904) (by decide +kernel), List.mem_of_getElem? (i := 1162) (by decide +kernel), List.mem_of_getElem? (i := 1163) (by decide +kernel)⟩
theorem lw_p62 : lw_okq (⟨"HostBenchModel", "writeUpToZero", "(I)V"⟩, 30) := ⟨⟨by decide +kernel, by decide +kernel⟩, List.mem_of_getElem? (i := 904) (by decide +kernel), List.mem_of_getElem? (i := 1166) (by decide +kernel), List.mem_of_getElem? (i := 1167) (by decide +kernel)⟩
theorem lw_p63 : lw_okq (⟨"HostBenchModel", "write", "(III)V"⟩, 30) := ⟨⟨by decide +kernel, by decide +kernel⟩, List.mem_of_getElem? (i := 904) (by decide +kernel), List.mem_of_getElem? (i := 1170) (by decide +kernel), List.mem_of_getElem? (i := 1171) (by decide +kernel)⟩
def lw_privs_4 : List (MethodName × Nat) := [(⟨"HostBenchModel", "lays", "(III)V"⟩, 30), (⟨"HostBenchModel", "small", "(IIII)V"⟩, 30), (⟨"HostBenchModel", "two", "(IIIII)V"⟩, 30), (⟨"HostBenchModel", "breaks", "()V"⟩, 30), (⟨"HostBenchModel", "call", "(II)V"⟩, 30), (⟨"HostBenchModel", "fails", "(I)V"⟩, 30), (⟨"HostBenchModel", "open", "()V"⟩, 30), (⟨"HostBenchModel", "field", "(I)I"⟩, 30), (⟨"HostBenchModel", "nameFault", "(II)I"⟩, 30), (⟨"HostBenchModel", "opened", "(IIII)V"⟩, 30), (⟨"HostBenchModel", "answer", "(I)V"⟩, 30), (⟨"HostBenchModel", "find", "(II)I"⟩, 30), (⟨"HostBenchModel", "isOpen", "(I)Z"⟩, 30), (⟨"HostBenchModel", "prints", "(II)V"⟩, 30), (⟨"HostBenchModel", "writeUpToZero", "(I)V"⟩, 30), (⟨"HostBenchModel", "write", "(III)V"⟩, 30)]
theorem lw_r4 : ∀ q ∈ lw_privs_4, lw_okq q := List.forall_mem_cons.mpr ⟨lw_p48, List.forall_mem_cons.mpr ⟨lw_p49, List.forall_mem_cons.mpr ⟨lw_p50, List.forall_mem_cons.mpr ⟨lw_p51, List.forall_mem_cons.mpr ⟨lw_p52, List.forall_mem_cons.mpr ⟨lw_p53, List.forall_mem_cons.mpr ⟨lw_p54, List.forall_mem_cons.mpr ⟨lw_p55, List.forall_mem_cons.mpr ⟨lw_p56, List.forall_mem_cons.mpr ⟨lw_p57, List.forall_mem_cons.mpr ⟨lw_p58, List.forall_mem_cons.mpr ⟨lw_p59, List.forall_mem_cons.mpr ⟨lw_p60, List.forall_mem_cons.mpr ⟨lw_p61, List.forall_mem_cons.mpr ⟨lw_p62, List.forall_mem_cons.mpr ⟨lw_p63, fun _ h => absurd h List.not_mem_nil⟩⟩⟩⟩⟩⟩⟩⟩⟩⟩⟩⟩⟩⟩⟩⟩
theorem lw_p64 : lw_okq (⟨"HostBenchModel", "failsWith", "(II)V"⟩, 30) := ⟨⟨by decide +kernel, by decide +kernel⟩, List.mem_of_getElem? (i := 904) (by decide +kernel), List.mem_of_getElem? (i := 1174) (by decide +kernel), List.mem_of_getElem? (i := 1175) (by decide +kernel)⟩
theorem lw_p65 : lw_okq (⟨"HostBenchModel", "read", "(III)V"⟩, 30) := ⟨⟨by decide +kernel, by decide +kernel⟩, List.mem_of_getElem? (i := 904) (by decide +kernel), List.mem_of_getElem? (i := 1178) (by decide +kernel), List.mem_of_getElem? (i := 1179) (by decide +kernel)⟩
theorem lw_p66 : lw_okq (⟨"HostBenchModel", "takeIn", "()I"⟩, 30) := ⟨⟨by decide +kernel, by decide +kernel⟩, List.mem_of_getElem? (i := 904) (by decide +kernel), List.mem_of_getElem? (i := 1182) (by decide +kernel), List.mem_of_getElem? (i := 1183) (by decide +kernel)⟩
theorem lw_p67 : lw_okq (⟨"HostBenchModel", "more", "(II)V"⟩, 30) := ⟨⟨by decide +kernel, by decide +kernel⟩, List.mem_of_getElem? (i := 904) (by decide +kernel), List.mem_of_getElem? (i := 1186) (by decide +kernel), List.mem_of_getElem? (i := 1187) (by decide +kernel)⟩
theorem lw_p68 : lw_okq (⟨"HostBenchModel", "seek", "(II)V"⟩, 30) := ⟨⟨by decide +kernel, by decide +kernel⟩, List.mem_of_getElem? (i := 904) (by decide +kernel), List.mem_of_getElem? (i := 1190) (by decide +kernel), List.mem_of_getElem? (i := 1191) (by decide +kernel)⟩
theorem lw_p69 : lw_okq (⟨"HostBenchModel", "temporary", "(III)V"⟩, 30) := ⟨⟨by decide +kernel, by decide +kernel⟩, List.mem_of_getElem? (i := 904) (by decide +kernel), List.mem_of_getElem? (i := 1194) (by decide +kernel), List.mem_of_getElem? (i := 1195) (by decide +kernel)⟩
theorem lw_p70 : lw_okq (⟨"HostBenchModel", "remove", "(II)V"⟩, 30) := ⟨⟨by decide +kernel, by decide +kernel⟩, List.mem_of_getElem? (i := 904) (by decide +kernel), List.mem_of_getElem? (i := 1201) (by decide +kernel), List.mem_of_getElem? (i := 1202) (by decide +kernel)⟩
theorem lw_p71 : lw_okq (⟨"HostBenchModel", "rename", "(IIII)V"⟩, 30) := ⟨⟨by decide +kernel, by decide +kernel⟩, List.mem_of_getElem? (i := 904) (by decide +kernel), List.mem_of_getElem? (i := 1205) (by decide +kernel), List.mem_of_getElem? (i := 1206) (by decide +kernel)⟩
theorem lw_p72 : lw_okq (⟨"HostBenchModel", "commandTo", "(II)V"⟩, 30) := ⟨⟨by decide +kernel, by decide +kernel⟩, List.mem_of_getElem? (i := 904) (by decide +kernel), List.mem_of_getElem? (i := 1210) (by decide +kernel), List.mem_of_getElem? (i := 1211) (by decide +kernel)⟩
theorem lw_p73 : lw_okq (⟨"HostBenchModel", "heap", "(I)V"⟩, 30) := ⟨⟨by decide +kernel, by decide +kernel⟩, List.mem_of_getElem? (i := 904) (by decide +kernel), List.mem_of_getElem? (i := 1214) (by decide +kernel), List.mem_of_getElem? (i := 1215) (by decide +kernel)⟩
theorem lw_p74 : lw_okq (⟨"HostBenchModel", "elapsed", "(I)V"⟩, 30) := ⟨⟨by decide +kernel, by decide +kernel⟩, List.mem_of_getElem? (i := 904) (by decide +kernel), List.mem_of_getElem? (i := 1219) (by decide +kernel), List.mem_of_getElem? (i := 1220) (by decide +kernel)⟩
def lw_privs_5 : List (MethodName × Nat) := [(⟨"HostBenchModel", "failsWith", "(II)V"⟩, 30), (⟨"HostBenchModel", "read", "(III)V"⟩, 30), (⟨"HostBenchModel", "takeIn", "()I"⟩, 30), (⟨"HostBenchModel", "more", "(II)V"⟩, 30), (⟨"HostBenchModel", "seek", "(II)V"⟩, 30), (⟨"HostBenchModel", "temporary", "(III)V"⟩, 30), (⟨"HostBenchModel", "remove", "(II)V"⟩, 30), (⟨"HostBenchModel", "rename", "(IIII)V"⟩, 30), (⟨"HostBenchModel", "commandTo", "(II)V"⟩, 30), (⟨"HostBenchModel", "heap", "(I)V"⟩, 30), (⟨"HostBenchModel", "elapsed", "(I)V"⟩, 30)]
theorem lw_r5 : ∀ q ∈ lw_privs_5, lw_okq q := List.forall_mem_cons.mpr ⟨lw_p64, List.forall_mem_cons.mpr ⟨lw_p65, List.forall_mem_cons.mpr ⟨lw_p66, List.forall_mem_cons.mpr ⟨lw_p67, List.forall_mem_cons.mpr ⟨lw_p68, List.forall_mem_cons.mpr ⟨lw_p69, List.forall_mem_cons.mpr ⟨lw_p70, List.forall_mem_cons.mpr ⟨lw_p71, List.forall_mem_cons.mpr ⟨lw_p72, List.forall_mem_cons.mpr ⟨lw_p73, List.forall_mem_cons.mpr ⟨lw_p74, fun _ h => absurd h List.not_mem_nil⟩⟩⟩⟩⟩⟩⟩⟩⟩⟩⟩
def lw_privs : List (MethodName × Nat) := lw_privs_1 ++ (lw_privs_2 ++ (lw_privs_3 ++ (lw_privs_4 ++ (lw_privs_5))))
def lw_tbl : List Cond := k2_sels lw_privs ++ tables_1
theorem lw_privs_ok : ∀ q ∈ lw_privs, lw_okq q := by
  show ∀ q ∈ lw_privs_1 ++ (lw_privs_2 ++ (lw_privs_3 ++ (lw_privs_4 ++ (lw_privs_5)))), lw_okq q
  exact List.forall_mem_append.mpr ⟨lw_r1, List.forall_mem_append.mpr ⟨lw_r2, List.forall_mem_append.mpr ⟨lw_r3, List.forall_mem_append.mpr ⟨lw_r4, lw_r5⟩⟩⟩⟩
-- ===== end of PART A =====
/-- the words that every method here is given: those of the tables that stay -/
def tT : List Cond := lw_tbl.filter goodWord
theorem tT_in {w : Cond} (h : w ∈ tT) : w ∈ lw_tbl ∧ goodWord w = true := List.mem_filter.mp h
theorem tw {w : Cond} (h : w ∈ tables_1) (hg : goodWord w = true) : w ∈ tT := List.mem_filter.mpr ⟨List.mem_append_right _ h, hg⟩
theorem tw1 {w : Cond} (i : Nat) (h : tables_1_1[i]? = some w) (hg : goodWord w = true) : w ∈ tT := tw (List.mem_append_left _ (List.mem_of_getElem? h)) hg
theorem tw2 {w : Cond} (i : Nat) (h : tables_1_2[i]? = some w) (hg : goodWord w = true) : w ∈ tT := tw (List.mem_append_right _ (List.mem_append_left _ (List.mem_of_getElem? h))) hg
theorem tw3 {w : Cond} (i : Nat) (h : tables_1_3[i]? = some w) (hg : goodWord w = true) : w ∈ tT := tw (List.mem_append_right _ (List.mem_append_right _ (List.mem_append_left _ (List.mem_of_getElem? h)))) hg
theorem tw4 {w : Cond} (i : Nat) (h : tables_1_4[i]? = some w) (hg : goodWord w = true) : w ∈ tT := tw (List.mem_append_right _ (List.mem_append_right _ (List.mem_append_right _ (List.mem_append_left _ (List.mem_of_getElem? h))))) hg
theorem tw5 {w : Cond} (i : Nat) (h : tables_1_5[i]? = some w) (hg : goodWord w = true) : w ∈ tT := tw (List.mem_append_right _ (List.mem_append_right _ (List.mem_append_right _ (List.mem_append_right _ (List.mem_append_left _ (List.mem_of_getElem? h)))))) hg
theorem tw6 {w : Cond} (i : Nat) (h : tables_1_6[i]? = some w) (hg : goodWord w = true) : w ∈ tT := tw (List.mem_append_right _ (List.mem_append_right _ (List.mem_append_right _ (List.mem_append_right _ (List.mem_append_right _ (List.mem_of_getElem? h)))))) hg
theorem tl1 {w : Cond} (i : Nat) (h : tables_1_1[i]? = some w) : w ∈ tables_1 := (List.mem_append_left _ (List.mem_of_getElem? h))
theorem tl2 {w : Cond} (i : Nat) (h : tables_1_2[i]? = some w) : w ∈ tables_1 := (List.mem_append_right _ (List.mem_append_left _ (List.mem_of_getElem? h)))
theorem tl3 {w : Cond} (i : Nat) (h : tables_1_3[i]? = some w) : w ∈ tables_1 := (List.mem_append_right _ (List.mem_append_right _ (List.mem_append_left _ (List.mem_of_getElem? h))))
theorem tl4 {w : Cond} (i : Nat) (h : tables_1_4[i]? = some w) : w ∈ tables_1 := (List.mem_append_right _ (List.mem_append_right _ (List.mem_append_right _ (List.mem_append_left _ (List.mem_of_getElem? h)))))
theorem tl5 {w : Cond} (i : Nat) (h : tables_1_5[i]? = some w) : w ∈ tables_1 := (List.mem_append_right _ (List.mem_append_right _ (List.mem_append_right _ (List.mem_append_right _ (List.mem_append_left _ (List.mem_of_getElem? h))))))
theorem tl6 {w : Cond} (i : Nat) (h : tables_1_6[i]? = some w) : w ∈ tables_1 := (List.mem_append_right _ (List.mem_append_right _ (List.mem_append_right _ (List.mem_append_right _ (List.mem_append_right _ (List.mem_of_getElem? h))))))
theorem twp {y : MethodName} {n : Nat} (h : (y, n) ∈ lw_privs) : Cond.selects y.cls y y ∈ tT := List.mem_filter.mpr ⟨List.mem_append_left _ (List.mem_map.mpr ⟨_, h, rfl⟩), rfl⟩
def y_HB_init : MethodName := ⟨"HostBench", "<init>", "()V"⟩
def y_Object_init : MethodName := ⟨"java/lang/Object", "<init>", "()V"⟩
def y_Bytes_init : MethodName := ⟨"HostBench$Bytes", "<init>", "(I)V"⟩
def y_Math_max : MethodName := ⟨"java/lang/Math", "max", "(II)I"⟩
def y_Host_init : MethodName := ⟨"HostBench$Host", "<init>", "()V"⟩
def y_Guest_init : MethodName := ⟨"HostBench$Guest", "<init>", "()V"⟩
def y_Memory_init : MethodName := ⟨"HostBench$Memory", "<init>", "()V"⟩
def y_Folder_init : MethodName := ⟨"HostBench$Folder", "<init>", "()V"⟩
def y_HostFile_init : MethodName := ⟨"HostBench$HostFile", "<init>", "()V"⟩
def y_Desk_init : MethodName := ⟨"HostBench$Desk", "<init>", "()V"⟩
def y_Handle_init : MethodName := ⟨"HostBench$Handle", "<init>", "()V"⟩
def y_Output_init : MethodName := ⟨"HostBench$Output", "<init>", "()V"⟩
def y_HB_feed : MethodName := ⟨"HostBench", "feed", "(IIIII)I"⟩
def y_Bytes_spare : MethodName := ⟨"HostBench$Bytes", "spare", "()I"⟩
def y_Bytes_add : MethodName := ⟨"HostBench$Bytes", "add", "(I)V"⟩
def y_Bytes_size : MethodName := ⟨"HostBench$Bytes", "size", "()I"⟩
def y_HB_end : MethodName := ⟨"HostBench", "end", "(I)Z"⟩
def y_Bytes_cut : MethodName := ⟨"HostBench$Bytes", "cut", "(I)V"⟩
def y_HB_clock : MethodName := ⟨"HostBench", "clock", "(I)V"⟩
def y_HB_begin : MethodName := ⟨"HostBench", "begin", "()V"⟩
def y_Guest_restart : MethodName := ⟨"HostBench$Guest", "restart", "()V"⟩
def y_HB_state : MethodName := ⟨"HostBench", "state", "()I"⟩
def y_HB_set : MethodName := ⟨"HostBench", "set", "(II)Z"⟩
def y_Guest_assign : MethodName := ⟨"HostBench$Guest", "assign", "(II)V"⟩
def y_HB_peek : MethodName := ⟨"HostBench", "peek", "(I)I"⟩
def y_Memory_byteAt : MethodName := ⟨"HostBench$Memory", "byteAt", "(I)I"⟩
def y_HB_files : MethodName := ⟨"HostBench", "files", "()I"⟩
def y_HB_fileByte : MethodName := ⟨"HostBench", "fileByte", "(IIZ)I"⟩
def y_Folder_get : MethodName := ⟨"HostBench$Folder", "get", "(I)LHostBench$HostFile;"⟩
def y_Bytes_at : MethodName := ⟨"HostBench$Bytes", "at", "(I)I"⟩
def y_HB_printed : MethodName := ⟨"HostBench", "printed", "(I)I"⟩
def y_HB_print : MethodName := ⟨"HostBench", "print", "(II)I"⟩
def y_L_put : MethodName := ⟨"HostBenchLaw", "put", "(LHostBench;I[J)I"⟩
def y_HB_put : MethodName := ⟨"HostBench", "put", "(I)I"⟩
def y_Memory_hasArea : MethodName := ⟨"HostBench$Memory", "hasArea", "(II)Z"⟩
def y_RuntimeException_init : MethodName := ⟨"java/lang/RuntimeException", "<init>", "()V"⟩
def y_RuntimeException_init2 : MethodName := ⟨"java/lang/RuntimeException", "<init>", "(Ljava/lang/String;)V"⟩
def y_Exception_init : MethodName := ⟨"java/lang/Exception", "<init>", "()V"⟩
def y_Exception_init2 : MethodName := ⟨"java/lang/Exception", "<init>", "(Ljava/lang/String;)V"⟩
def y_Throwable_init : MethodName := ⟨"java/lang/Throwable", "<init>", "()V"⟩
def y_Throwable_init2 : MethodName := ⟨"java/lang/Throwable", "<init>", "(Ljava/lang/String;)V"⟩
def y_Throwable_fillInStackTrace : MethodName := ⟨"java/lang/Throwable", "fillInStackTrace", "(I)Ljava/lang/Throwable;"⟩
def y_Throwable_fillInStackTrace2 : MethodName := ⟨"java/lang/Throwable", "fillInStackTrace", "()Ljava/lang/Throwable;"⟩
def y_IndexOutOfBoundsException_init : MethodName := ⟨"java/lang/IndexOutOfBoundsException", "<init>", "(Ljava/lang/String;)V"⟩
def y_Memory_storeByte : MethodName := ⟨"HostBench$Memory", "storeByte", "(II)V"⟩
def y_L_lay : MethodName := ⟨"HostBenchLaw", "lay", "(LHostBench;[J)I"⟩
def y_HB_lay : MethodName := ⟨"HostBench", "lay", "()I"⟩
def y_Bytes_firstZero : MethodName := ⟨"HostBench$Bytes", "firstZero", "()I"⟩
def y_IllegalArgumentException_init : MethodName := ⟨"java/lang/IllegalArgumentException", "<init>", "(Ljava/lang/String;)V"⟩
def y_Bytes_append : MethodName := ⟨"HostBench$Bytes", "append", "(LHostBench$Bytes;II)V"⟩
def y_Math_min : MethodName := ⟨"java/lang/Math", "min", "(II)I"⟩
def y_Folder_find : MethodName := ⟨"HostBench$Folder", "find", "(LHostBench$Bytes;)LHostBench$HostFile;"⟩
def y_Bytes_same : MethodName := ⟨"HostBench$Bytes", "same", "(LHostBench$Bytes;)Z"⟩
def y_Desk_openOn : MethodName := ⟨"HostBench$Desk", "openOn", "(LHostBench$HostFile;)I"⟩
def y_IllegalStateException_init : MethodName := ⟨"java/lang/IllegalStateException", "<init>", "(Ljava/lang/String;)V"⟩
def y_Folder_make : MethodName := ⟨"HostBench$Folder", "make", "(LHostBench$Bytes;)LHostBench$HostFile;"⟩
def y_UnsupportedOperationException_init : MethodName := ⟨"java/lang/UnsupportedOperationException", "<init>", "(Ljava/lang/String;)V"⟩
def y_L_type : MethodName := ⟨"HostBenchLaw", "type", "(LHostBench;[J)I"⟩
def y_HB_type : MethodName := ⟨"HostBench", "type", "()I"⟩
def y_L_command : MethodName := ⟨"HostBenchLaw", "command", "(LHostBench;[J)I"⟩
def y_HB_command : MethodName := ⟨"HostBench", "command", "()I"⟩
def y_L_run : MethodName := ⟨"HostBenchLaw", "run", "(LHostBench;I[J)I"⟩
def y_HB_run : MethodName := ⟨"HostBench", "run", "(I)I"⟩
def y_Guest_step : MethodName := ⟨"HostBench$Guest", "step", "()Z"⟩
def y_Guest_stop : MethodName := ⟨"HostBench$Guest", "stop", "(I)V"⟩
def y_Memory_wordAt : MethodName := ⟨"HostBench$Memory", "wordAt", "(I)I"⟩
def y_Guest_isMarked : MethodName := ⟨"HostBench$Guest", "isMarked", "()Z"⟩
def y_Guest_execute : MethodName := ⟨"HostBench$Guest", "execute", "(I)I"⟩
def y_Guest_load : MethodName := ⟨"HostBench$Guest", "load", "(I)I"⟩
def y_Guest_funct3 : MethodName := ⟨"HostBench$Guest", "funct3", "(I)I"⟩
def y_Guest_value : MethodName := ⟨"HostBench$Guest", "value", "(I)I"⟩
def y_Guest_loaded : MethodName := ⟨"HostBench$Guest", "loaded", "(II)I"⟩
def y_Memory_halfAt : MethodName := ⟨"HostBench$Memory", "halfAt", "(I)I"⟩
def y_Guest_operateOnNumber : MethodName := ⟨"HostBench$Guest", "operateOnNumber", "(I)I"⟩
def y_Guest_computed : MethodName := ⟨"HostBench$Guest", "computed", "(IIIZ)I"⟩
def y_Guest_isLessWithoutSign : MethodName := ⟨"HostBench$Guest", "isLessWithoutSign", "(II)Z"⟩
def y_Guest_store : MethodName := ⟨"HostBench$Guest", "store", "(I)I"⟩
def y_Guest_operate : MethodName := ⟨"HostBench$Guest", "operate", "(I)I"⟩
def y_Guest_multiplied : MethodName := ⟨"HostBench$Guest", "multiplied", "(III)I"⟩
def y_Guest_divided : MethodName := ⟨"HostBench$Guest", "divided", "(III)I"⟩
def y_Guest_branch : MethodName := ⟨"HostBench$Guest", "branch", "(I)I"⟩
def y_Guest_isTaken : MethodName := ⟨"HostBench$Guest", "isTaken", "(III)Z"⟩
def y_Guest_branchOffset : MethodName := ⟨"HostBench$Guest", "branchOffset", "(I)I"⟩
def y_Guest_jump : MethodName := ⟨"HostBench$Guest", "jump", "(II)I"⟩
def y_Guest_jumpOffset : MethodName := ⟨"HostBench$Guest", "jumpOffset", "(I)I"⟩
def y_Guest_system : MethodName := ⟨"HostBench$Guest", "system", "(I)I"⟩
def y_Host_answerCall : MethodName := ⟨"HostBench$Host", "answerCall", "()V"⟩
def y_Host_fieldsOf : MethodName := ⟨"HostBench$Host", "fieldsOf", "(I)I"⟩
def y_Host_hasFields : MethodName := ⟨"HostBench$Host", "hasFields", "(I)Z"⟩
def y_Host_perform : MethodName := ⟨"HostBench$Host", "perform", "(I)I"⟩
def y_Host_field : MethodName := ⟨"HostBench$Host", "field", "(I)I"⟩
def y_Host_open : MethodName := ⟨"HostBench$Host", "open", "(III)I"⟩
def y_Host_fail : MethodName := ⟨"HostBench$Host", "fail", "(I)I"⟩
def y_Host_bringName : MethodName := ⟨"HostBench$Host", "bringName", "(LHostBench$Bytes;II)I"⟩
def y_Desk_leastShut : MethodName := ⟨"HostBench$Desk", "leastShut", "()I"⟩
def y_Desk_get : MethodName := ⟨"HostBench$Desk", "get", "(I)LHostBench$Handle;"⟩
def y_Host_namesConsole : MethodName := ⟨"HostBench$Host", "namesConsole", "(LHostBench$Bytes;)Z"⟩
def y_Handle_openConsole : MethodName := ⟨"HostBench$Handle", "openConsole", "(I)V"⟩
def y_Host_openFile : MethodName := ⟨"HostBench$Host", "openFile", "(LHostBench$Handle;I)Z"⟩
def y_Handle_openFile : MethodName := ⟨"HostBench$Handle", "openFile", "(LHostBench$HostFile;I)V"⟩
def y_Host_close : MethodName := ⟨"HostBench$Host", "close", "(I)I"⟩
def y_Desk_getOpen : MethodName := ⟨"HostBench$Desk", "getOpen", "(I)LHostBench$Handle;"⟩
def y_Handle_shut : MethodName := ⟨"HostBench$Handle", "shut", "()V"⟩
def y_Host_writeText : MethodName := ⟨"HostBench$Host", "writeText", "(I)I"⟩
def y_Output_receive : MethodName := ⟨"HostBench$Output", "receive", "(LHostBench$Memory;II)V"⟩
def y_Memory_lengthUpToZero : MethodName := ⟨"HostBench$Memory", "lengthUpToZero", "(I)I"⟩
def y_Host_write : MethodName := ⟨"HostBench$Host", "write", "(III)I"⟩
def y_Handle_may : MethodName := ⟨"HostBench$Handle", "may", "(I)Z"⟩
def y_Host_writeFile : MethodName := ⟨"HostBench$Host", "writeFile", "(LHostBench$Handle;LHostBench$HostFile;II)I"⟩
def y_Bytes_change : MethodName := ⟨"HostBench$Bytes", "change", "(II)V"⟩
def y_Host_read : MethodName := ⟨"HostBench$Host", "read", "(III)I"⟩
def y_Host_bringBytes : MethodName := ⟨"HostBench$Host", "bringBytes", "(LHostBench$Bytes;III)I"⟩
def y_Bytes_dropFirst : MethodName := ⟨"HostBench$Bytes", "dropFirst", "(I)V"⟩
def y_Host_readByte : MethodName := ⟨"HostBench$Host", "readByte", "()I"⟩
def y_Host_isConsole : MethodName := ⟨"HostBench$Host", "isConsole", "(I)I"⟩
def y_Host_seek : MethodName := ⟨"HostBench$Host", "seek", "(II)I"⟩
def y_Host_length : MethodName := ⟨"HostBench$Host", "length", "(I)I"⟩
def y_Host_temporaryName : MethodName := ⟨"HostBench$Host", "temporaryName", "(III)I"⟩
def y_Host_remove : MethodName := ⟨"HostBench$Host", "remove", "(II)I"⟩
def y_Folder_remove : MethodName := ⟨"HostBench$Folder", "remove", "(LHostBench$HostFile;)V"⟩
def y_Folder_numberOf : MethodName := ⟨"HostBench$Folder", "numberOf", "(LHostBench$HostFile;)I"⟩
def y_Host_rename : MethodName := ⟨"HostBench$Host", "rename", "()I"⟩
def y_Host_performOther : MethodName := ⟨"HostBench$Host", "performOther", "(I)I"⟩
def y_Host_tellCommand : MethodName := ⟨"HostBench$Host", "tellCommand", "(II)I"⟩
def y_Memory_storeWord : MethodName := ⟨"HostBench$Memory", "storeWord", "(II)V"⟩
def y_Host_tellHeap : MethodName := ⟨"HostBench$Host", "tellHeap", "(I)I"⟩
def y_Host_exit : MethodName := ⟨"HostBench$Host", "exit", "(II)I"⟩
def y_Guest_exit : MethodName := ⟨"HostBench$Guest", "exit", "(I)V"⟩
def y_Host_tellSteps : MethodName := ⟨"HostBench$Host", "tellSteps", "()I"⟩
def y_Guest_goOnBehindCall : MethodName := ⟨"HostBench$Guest", "goOnBehindCall", "(I)V"⟩
def y_L_look : MethodName := ⟨"HostBenchLaw", "look", "(LHostBench;I[J)I"⟩
def y_HB_look : MethodName := ⟨"HostBench", "look", "(I)I"⟩
def y_NoSuchElementException_init : MethodName := ⟨"java/util/NoSuchElementException", "<init>", "(Ljava/lang/String;)V"⟩
def y_L_register : MethodName := ⟨"HostBenchLaw", "register", "(LHostBench;I[J)I"⟩
def y_HB_register : MethodName := ⟨"HostBench", "register", "(I)I"⟩
def y_L_file : MethodName := ⟨"HostBenchLaw", "file", "(LHostBench;II[J)I"⟩
def y_HB_file : MethodName := ⟨"HostBench", "file", "(II)I"⟩
def y_L_handle : MethodName := ⟨"HostBenchLaw", "handle", "(LHostBench;II[J)I"⟩
def y_HB_handle : MethodName := ⟨"HostBench", "handle", "(II)I"⟩
def y_M_init : MethodName := ⟨"HostBenchModel", "<init>", "()V"⟩
def y_M_thrown : MethodName := ⟨"HostBenchModel", "thrown", "()I"⟩
def y_M_feed : MethodName := ⟨"HostBenchModel", "feed", "(IIIII)I"⟩
def y_M_four : MethodName := ⟨"HostBenchModel", "four", "(I)V"⟩
def y_M_end : MethodName := ⟨"HostBenchModel", "end", "(I)Z"⟩
def y_M_put : MethodName := ⟨"HostBenchModel", "put", "(I)I"⟩
def y_M_use : MethodName := ⟨"HostBenchModel", "use", "()I"⟩
def y_M_lay : MethodName := ⟨"HostBenchModel", "lay", "()I"⟩
def y_M_isNamed : MethodName := ⟨"HostBenchModel", "isNamed", "(II)Z"⟩
def y_M_openOf : MethodName := ⟨"HostBenchModel", "openOf", "(I)I"⟩
def y_M_type : MethodName := ⟨"HostBenchModel", "type", "()I"⟩
def y_M_command : MethodName := ⟨"HostBenchModel", "command", "()I"⟩
def y_M_clock : MethodName := ⟨"HostBenchModel", "clock", "(I)V"⟩
def y_M_begin : MethodName := ⟨"HostBenchModel", "begin", "()V"⟩
def y_M_run : MethodName := ⟨"HostBenchModel", "run", "(I)I"⟩
def y_M_step : MethodName := ⟨"HostBenchModel", "step", "()V"⟩
def y_M_stop : MethodName := ⟨"HostBenchModel", "stop", "(I)V"⟩
def y_M_isArea : MethodName := ⟨"HostBenchModel", "isArea", "(II)Z"⟩
def y_M_whole : MethodName := ⟨"HostBenchModel", "whole", "(I)J"⟩
def y_M_word : MethodName := ⟨"HostBenchModel", "word", "(I)I"⟩
def y_M_comes : MethodName := ⟨"HostBenchModel", "comes", "(II)V"⟩
def y_M_jump : MethodName := ⟨"HostBenchModel", "jump", "(II)V"⟩
def y_M_branch : MethodName := ⟨"HostBenchModel", "branch", "(IIII)V"⟩
def y_M_load : MethodName := ⟨"HostBenchModel", "load", "(III)V"⟩
def y_M_store : MethodName := ⟨"HostBenchModel", "store", "(III)V"⟩
def y_M_lays : MethodName := ⟨"HostBenchModel", "lays", "(III)V"⟩
def y_M_small : MethodName := ⟨"HostBenchModel", "small", "(IIII)V"⟩
def y_M_two : MethodName := ⟨"HostBenchModel", "two", "(IIIII)V"⟩
def y_M_times : MethodName := ⟨"HostBenchModel", "times", "(III)I"⟩
def y_M_plain : MethodName := ⟨"HostBenchModel", "plain", "(III)I"⟩
def y_M_breaks : MethodName := ⟨"HostBenchModel", "breaks", "()V"⟩
def y_M_call : MethodName := ⟨"HostBenchModel", "call", "(II)V"⟩
def y_M_fieldsOf : MethodName := ⟨"HostBenchModel", "fieldsOf", "(I)I"⟩
def y_M_fails : MethodName := ⟨"HostBenchModel", "fails", "(I)V"⟩
def y_M_open : MethodName := ⟨"HostBenchModel", "open", "()V"⟩
def y_M_field : MethodName := ⟨"HostBenchModel", "field", "(I)I"⟩
def y_M_nameFault : MethodName := ⟨"HostBenchModel", "nameFault", "(II)I"⟩
def y_M_opened : MethodName := ⟨"HostBenchModel", "opened", "(IIII)V"⟩
def y_M_answer : MethodName := ⟨"HostBenchModel", "answer", "(I)V"⟩
def y_M_find : MethodName := ⟨"HostBenchModel", "find", "(II)I"⟩
def y_M_isOpen : MethodName := ⟨"HostBenchModel", "isOpen", "(I)Z"⟩
def y_M_prints : MethodName := ⟨"HostBenchModel", "prints", "(II)V"⟩
def y_M_writeUpToZero : MethodName := ⟨"HostBenchModel", "writeUpToZero", "(I)V"⟩
def y_M_write : MethodName := ⟨"HostBenchModel", "write", "(III)V"⟩
def y_M_failsWith : MethodName := ⟨"HostBenchModel", "failsWith", "(II)V"⟩
def y_M_read : MethodName := ⟨"HostBenchModel", "read", "(III)V"⟩
def y_M_takeIn : MethodName := ⟨"HostBenchModel", "takeIn", "()I"⟩
def y_M_more : MethodName := ⟨"HostBenchModel", "more", "(II)V"⟩
def y_M_seek : MethodName := ⟨"HostBenchModel", "seek", "(II)V"⟩
def y_M_temporary : MethodName := ⟨"HostBenchModel", "temporary", "(III)V"⟩
def y_M_remove : MethodName := ⟨"HostBenchModel", "remove", "(II)V"⟩
def y_M_rename : MethodName := ⟨"HostBenchModel", "rename", "(IIII)V"⟩
def y_M_commandTo : MethodName := ⟨"HostBenchModel", "commandTo", "(II)V"⟩
def y_M_heap : MethodName := ⟨"HostBenchModel", "heap", "(I)V"⟩
def y_M_elapsed : MethodName := ⟨"HostBenchModel", "elapsed", "(I)V"⟩
def y_M_state : MethodName := ⟨"HostBenchModel", "state", "()I"⟩
def y_M_look : MethodName := ⟨"HostBenchModel", "look", "(I)I"⟩
def y_M_register : MethodName := ⟨"HostBenchModel", "register", "(I)I"⟩
def y_M_set : MethodName := ⟨"HostBenchModel", "set", "(II)Z"⟩
def y_M_peek : MethodName := ⟨"HostBenchModel", "peek", "(I)I"⟩
def y_M_files : MethodName := ⟨"HostBenchModel", "files", "()I"⟩
def y_M_file : MethodName := ⟨"HostBenchModel", "file", "(II)I"⟩
def y_M_fileByte : MethodName := ⟨"HostBenchModel", "fileByte", "(IIZ)I"⟩
def y_M_handle : MethodName := ⟨"HostBenchModel", "handle", "(II)I"⟩
def y_M_printed : MethodName := ⟨"HostBenchModel", "printed", "(I)I"⟩
def y_M_print : MethodName := ⟨"HostBenchModel", "print", "(II)I"⟩
