section
-- ===== PART A: goes FIRST, ahead of the names: the tables' words, and 'selects' of the private methods out of them =====
/-- a private method of a class that the tables say can be made, by its rows of tables_1 -/
def lw_okq (q : MethodName × Nat) : Prop := (q.1.cls ≠ "java/lang/invoke/MethodHandle" ∧ q.1.cls ≠ "java/lang/invoke/VarHandle") ∧ Cond.instantiable q.1.cls q.2 ∈ tables_1 ∧ Cond.privateMethod q.1 ∈ tables_1 ∧ Cond.instanceMethod q.1 ∈ tables_1
theorem lw_p0 : lw_okq (⟨"java/lang/Throwable", "fillInStackTrace", "(I)Ljava/lang/Throwable;"⟩, 6) := ⟨⟨by decide +kernel, by decide +kernel⟩, List.mem_of_getElem? (i := 414) (by decide +kernel), List.mem_of_getElem? (i := 412) (by decide +kernel), List.mem_of_getElem? (i := 413) (by decide +kernel)⟩
theorem lw_p1 : lw_okq (⟨"HostBench$Guest", "stop", "(I)V"⟩, 8) := ⟨⟨by decide +kernel, by decide +kernel⟩, List.mem_of_getElem? (i := 53) (by decide +kernel), List.mem_of_getElem? (i := 563) (by decide +kernel), List.mem_of_getElem? (i := 564) (by decide +kernel)⟩
theorem lw_p2 : lw_okq (⟨"HostBench$Guest", "isMarked", "()Z"⟩, 8) := ⟨⟨by decide +kernel, by decide +kernel⟩, List.mem_of_getElem? (i := 53) (by decide +kernel), List.mem_of_getElem? (i := 574) (by decide +kernel), List.mem_of_getElem? (i := 575) (by decide +kernel)⟩
theorem lw_p3 : lw_okq (⟨"HostBench$Guest", "execute", "(I)I"⟩, 8) := ⟨⟨by decide +kernel, by decide +kernel⟩, List.mem_of_getElem? (i := 53) (by decide +kernel), List.mem_of_getElem? (i := 580) (by decide +kernel), List.mem_of_getElem? (i := 581) (by decide +kernel)⟩
theorem lw_p4 : lw_okq (⟨"HostBench$Guest", "load", "(I)I"⟩, 8) := ⟨⟨by decide +kernel, by decide +kernel⟩, List.mem_of_getElem? (i := 53) (by decide +kernel), List.mem_of_getElem? (i := 584) (by decide +kernel), List.mem_of_getElem? (i := 585) (by decide +kernel)⟩
theorem lw_p5 : lw_okq (⟨"HostBench$Guest", "loaded", "(II)I"⟩, 8) := ⟨⟨by decide +kernel, by decide +kernel⟩, List.mem_of_getElem? (i := 53) (by decide +kernel), List.mem_of_getElem? (i := 595) (by decide +kernel), List.mem_of_getElem? (i := 596) (by decide +kernel)⟩
theorem lw_p6 : lw_okq (⟨"HostBench$Guest", "operateOnNumber", "(I)I"⟩, 8) := ⟨⟨by decide +kernel, by decide +kernel⟩, List.mem_of_getElem? (i := 53) (by decide +kernel), List.mem_of_getElem? (i := 605) (by decide +kernel), List.mem_of_getElem? (i := 606) (by decide +kernel)⟩
theorem lw_p7 : lw_okq (⟨"HostBench$Guest", "store", "(I)I"⟩, 8) := ⟨⟨by decide +kernel, by decide +kernel⟩, List.mem_of_getElem? (i := 53) (by decide +kernel), List.mem_of_getElem? (i := 616) (by decide +kernel), List.mem_of_getElem? (i := 617) (by decide +kernel)⟩
theorem lw_p8 : lw_okq (⟨"HostBench$Guest", "operate", "(I)I"⟩, 8) := ⟨⟨by decide +kernel, by decide +kernel⟩, List.mem_of_getElem? (i := 53) (by decide +kernel), List.mem_of_getElem? (i := 621) (by decide +kernel), List.mem_of_getElem? (i := 622) (by decide +kernel)⟩
theorem lw_p9 : lw_okq (⟨"HostBench$Guest", "branch", "(I)I"⟩, 8) := ⟨⟨by decide +kernel, by decide +kernel⟩, List.mem_of_getElem? (i := 53) (by decide +kernel), List.mem_of_getElem? (i := 631) (by decide +kernel), List.mem_of_getElem? (i := 632) (by decide +kernel)⟩
theorem lw_p10 : lw_okq (⟨"HostBench$Guest", "jump", "(II)I"⟩, 8) := ⟨⟨by decide +kernel, by decide +kernel⟩, List.mem_of_getElem? (i := 53) (by decide +kernel), List.mem_of_getElem? (i := 641) (by decide +kernel), List.mem_of_getElem? (i := 642) (by decide +kernel)⟩
theorem lw_p11 : lw_okq (⟨"HostBench$Host", "hasFields", "(I)Z"⟩, 15) := ⟨⟨by decide +kernel, by decide +kernel⟩, List.mem_of_getElem? (i := 47) (by decide +kernel), List.mem_of_getElem? (i := 660) (by decide +kernel), List.mem_of_getElem? (i := 661) (by decide +kernel)⟩
theorem lw_p12 : lw_okq (⟨"HostBench$Host", "perform", "(I)I"⟩, 15) := ⟨⟨by decide +kernel, by decide +kernel⟩, List.mem_of_getElem? (i := 47) (by decide +kernel), List.mem_of_getElem? (i := 665) (by decide +kernel), List.mem_of_getElem? (i := 666) (by decide +kernel)⟩
theorem lw_p13 : lw_okq (⟨"HostBench$Host", "field", "(I)I"⟩, 15) := ⟨⟨by decide +kernel, by decide +kernel⟩, List.mem_of_getElem? (i := 47) (by decide +kernel), List.mem_of_getElem? (i := 669) (by decide +kernel), List.mem_of_getElem? (i := 670) (by decide +kernel)⟩
theorem lw_p14 : lw_okq (⟨"HostBench$Host", "open", "(III)I"⟩, 15) := ⟨⟨by decide +kernel, by decide +kernel⟩, List.mem_of_getElem? (i := 47) (by decide +kernel), List.mem_of_getElem? (i := 674) (by decide +kernel), List.mem_of_getElem? (i := 675) (by decide +kernel)⟩
theorem lw_p15 : lw_okq (⟨"HostBench$Host", "fail", "(I)I"⟩, 15) := ⟨⟨by decide +kernel, by decide +kernel⟩, List.mem_of_getElem? (i := 47) (by decide +kernel), List.mem_of_getElem? (i := 678) (by decide +kernel), List.mem_of_getElem? (i := 679) (by decide +kernel)⟩
def lw_privs_1 : List (MethodName × Nat) := [(⟨"java/lang/Throwable", "fillInStackTrace", "(I)Ljava/lang/Throwable;"⟩, 6), (⟨"HostBench$Guest", "stop", "(I)V"⟩, 8), (⟨"HostBench$Guest", "isMarked", "()Z"⟩, 8), (⟨"HostBench$Guest", "execute", "(I)I"⟩, 8), (⟨"HostBench$Guest", "load", "(I)I"⟩, 8), (⟨"HostBench$Guest", "loaded", "(II)I"⟩, 8), (⟨"HostBench$Guest", "operateOnNumber", "(I)I"⟩, 8), (⟨"HostBench$Guest", "store", "(I)I"⟩, 8), (⟨"HostBench$Guest", "operate", "(I)I"⟩, 8), (⟨"HostBench$Guest", "branch", "(I)I"⟩, 8), (⟨"HostBench$Guest", "jump", "(II)I"⟩, 8), (⟨"HostBench$Host", "hasFields", "(I)Z"⟩, 15), (⟨"HostBench$Host", "perform", "(I)I"⟩, 15), (⟨"HostBench$Host", "field", "(I)I"⟩, 15), (⟨"HostBench$Host", "open", "(III)I"⟩, 15), (⟨"HostBench$Host", "fail", "(I)I"⟩, 15)]
theorem lw_r1 : ∀ q ∈ lw_privs_1, lw_okq q := List.forall_mem_cons.mpr ⟨lw_p0, List.forall_mem_cons.mpr ⟨lw_p1, List.forall_mem_cons.mpr ⟨lw_p2, List.forall_mem_cons.mpr ⟨lw_p3, List.forall_mem_cons.mpr ⟨lw_p4, List.forall_mem_cons.mpr ⟨lw_p5, List.forall_mem_cons.mpr ⟨lw_p6, List.forall_mem_cons.mpr ⟨lw_p7, List.forall_mem_cons.mpr ⟨lw_p8, List.forall_mem_cons.mpr ⟨lw_p9, List.forall_mem_cons.mpr ⟨lw_p10, List.forall_mem_cons.mpr ⟨lw_p11, List.forall_mem_cons.mpr ⟨lw_p12, List.forall_mem_cons.mpr ⟨lw_p13, List.forall_mem_cons.mpr ⟨lw_p14, List.forall_mem_cons.mpr ⟨lw_p15, fun _ h => absurd h List.not_mem_nil⟩⟩⟩⟩⟩⟩⟩⟩⟩⟩⟩⟩⟩⟩⟩⟩
theorem lw_p16 : lw_okq (⟨"HostBench$Host", "bringName", "(LHostBench$Bytes;II)I"⟩, 15) := ⟨⟨by decide +kernel, by decide +kernel⟩, List.mem_of_getElem? (i := 47) (by decide +kernel), List.mem_of_getElem? (i := 682) (by decide +kernel), List.mem_of_getElem? (i := 683) (by decide +kernel)⟩
theorem lw_p17 : lw_okq (⟨"HostBench$Host", "openFile", "(LHostBench$Handle;I)Z"⟩, 15) := ⟨⟨by decide +kernel, by decide +kernel⟩, List.mem_of_getElem? (i := 47) (by decide +kernel), List.mem_of_getElem? (i := 707) (by decide +kernel), List.mem_of_getElem? (i := 708) (by decide +kernel)⟩
theorem lw_p18 : lw_okq (⟨"HostBench$Host", "close", "(I)I"⟩, 15) := ⟨⟨by decide +kernel, by decide +kernel⟩, List.mem_of_getElem? (i := 47) (by decide +kernel), List.mem_of_getElem? (i := 717) (by decide +kernel), List.mem_of_getElem? (i := 718) (by decide +kernel)⟩
theorem lw_p19 : lw_okq (⟨"HostBench$Host", "writeText", "(I)I"⟩, 15) := ⟨⟨by decide +kernel, by decide +kernel⟩, List.mem_of_getElem? (i := 47) (by decide +kernel), List.mem_of_getElem? (i := 730) (by decide +kernel), List.mem_of_getElem? (i := 731) (by decide +kernel)⟩
theorem lw_p20 : lw_okq (⟨"HostBench$Host", "write", "(III)I"⟩, 15) := ⟨⟨by decide +kernel, by decide +kernel⟩, List.mem_of_getElem? (i := 47) (by decide +kernel), List.mem_of_getElem? (i := 746) (by decide +kernel), List.mem_of_getElem? (i := 747) (by decide +kernel)⟩
theorem lw_p21 : lw_okq (⟨"HostBench$Host", "writeFile", "(LHostBench$Handle;LHostBench$HostFile;II)I"⟩, 15) := ⟨⟨by decide +kernel, by decide +kernel⟩, List.mem_of_getElem? (i := 47) (by decide +kernel), List.mem_of_getElem? (i := 754) (by decide +kernel), List.mem_of_getElem? (i := 755) (by decide +kernel)⟩
theorem lw_p22 : lw_okq (⟨"HostBench$Host", "read", "(III)I"⟩, 15) := ⟨⟨by decide +kernel, by decide +kernel⟩, List.mem_of_getElem? (i := 47) (by decide +kernel), List.mem_of_getElem? (i := 764) (by decide +kernel), List.mem_of_getElem? (i := 765) (by decide +kernel)⟩
theorem lw_p23 : lw_okq (⟨"HostBench$Host", "bringBytes", "(LHostBench$Bytes;III)I"⟩, 15) := ⟨⟨by decide +kernel, by decide +kernel⟩, List.mem_of_getElem? (i := 47) (by decide +kernel), List.mem_of_getElem? (i := 768) (by decide +kernel), List.mem_of_getElem? (i := 769) (by decide +kernel)⟩
theorem lw_p24 : lw_okq (⟨"HostBench$Host", "readByte", "()I"⟩, 15) := ⟨⟨by decide +kernel, by decide +kernel⟩, List.mem_of_getElem? (i := 47) (by decide +kernel), List.mem_of_getElem? (i := 777) (by decide +kernel), List.mem_of_getElem? (i := 778) (by decide +kernel)⟩
theorem lw_p25 : lw_okq (⟨"HostBench$Host", "isConsole", "(I)I"⟩, 15) := ⟨⟨by decide +kernel, by decide +kernel⟩, List.mem_of_getElem? (i := 47) (by decide +kernel), List.mem_of_getElem? (i := 781) (by decide +kernel), List.mem_of_getElem? (i := 782) (by decide +kernel)⟩
theorem lw_p26 : lw_okq (⟨"HostBench$Host", "seek", "(II)I"⟩, 15) := ⟨⟨by decide +kernel, by decide +kernel⟩, List.mem_of_getElem? (i := 47) (by decide +kernel), List.mem_of_getElem? (i := 785) (by decide +kernel), List.mem_of_getElem? (i := 786) (by decide +kernel)⟩
theorem lw_p27 : lw_okq (⟨"HostBench$Host", "length", "(I)I"⟩, 15) := ⟨⟨by decide +kernel, by decide +kernel⟩, List.mem_of_getElem? (i := 47) (by decide +kernel), List.mem_of_getElem? (i := 789) (by decide +kernel), List.mem_of_getElem? (i := 790) (by decide +kernel)⟩
theorem lw_p28 : lw_okq (⟨"HostBench$Host", "temporaryName", "(III)I"⟩, 15) := ⟨⟨by decide +kernel, by decide +kernel⟩, List.mem_of_getElem? (i := 47) (by decide +kernel), List.mem_of_getElem? (i := 793) (by decide +kernel), List.mem_of_getElem? (i := 794) (by decide +kernel)⟩
theorem lw_p29 : lw_okq (⟨"HostBench$Host", "remove", "(II)I"⟩, 15) := ⟨⟨by decide +kernel, by decide +kernel⟩, List.mem_of_getElem? (i := 47) (by decide +kernel), List.mem_of_getElem? (i := 797) (by decide +kernel), List.mem_of_getElem? (i := 798) (by decide +kernel)⟩
theorem lw_p30 : lw_okq (⟨"HostBench$Host", "rename", "()I"⟩, 15) := ⟨⟨by decide +kernel, by decide +kernel⟩, List.mem_of_getElem? (i := 47) (by decide +kernel), List.mem_of_getElem? (i := 810) (by decide +kernel), List.mem_of_getElem? (i := 811) (by decide +kernel)⟩
theorem lw_p31 : lw_okq (⟨"HostBench$Host", "performOther", "(I)I"⟩, 15) := ⟨⟨by decide +kernel, by decide +kernel⟩, List.mem_of_getElem? (i := 47) (by decide +kernel), List.mem_of_getElem? (i := 815) (by decide +kernel), List.mem_of_getElem? (i := 816) (by decide +kernel)⟩
def lw_privs_2 : List (MethodName × Nat) := [(⟨"HostBench$Host", "bringName", "(LHostBench$Bytes;II)I"⟩, 15), (⟨"HostBench$Host", "openFile", "(LHostBench$Handle;I)Z"⟩, 15), (⟨"HostBench$Host", "close", "(I)I"⟩, 15), (⟨"HostBench$Host", "writeText", "(I)I"⟩, 15), (⟨"HostBench$Host", "write", "(III)I"⟩, 15), (⟨"HostBench$Host", "writeFile", "(LHostBench$Handle;LHostBench$HostFile;II)I"⟩, 15), (⟨"HostBench$Host", "read", "(III)I"⟩, 15), (⟨"HostBench$Host", "bringBytes", "(LHostBench$Bytes;III)I"⟩, 15), (⟨"HostBench$Host", "readByte", "()I"⟩, 15), (⟨"HostBench$Host", "isConsole", "(I)I"⟩, 15), (⟨"HostBench$Host", "seek", "(II)I"⟩, 15), (⟨"HostBench$Host", "length", "(I)I"⟩, 15), (⟨"HostBench$Host", "temporaryName", "(III)I"⟩, 15), (⟨"HostBench$Host", "remove", "(II)I"⟩, 15), (⟨"HostBench$Host", "rename", "()I"⟩, 15), (⟨"HostBench$Host", "performOther", "(I)I"⟩, 15)]
theorem lw_r2 : ∀ q ∈ lw_privs_2, lw_okq q := List.forall_mem_cons.mpr ⟨lw_p16, List.forall_mem_cons.mpr ⟨lw_p17, List.forall_mem_cons.mpr ⟨lw_p18, List.forall_mem_cons.mpr ⟨lw_p19, List.forall_mem_cons.mpr ⟨lw_p20, List.forall_mem_cons.mpr ⟨lw_p21, List.forall_mem_cons.mpr ⟨lw_p22, List.forall_mem_cons.mpr ⟨lw_p23, List.forall_mem_cons.mpr ⟨lw_p24, List.forall_mem_cons.mpr ⟨lw_p25, List.forall_mem_cons.mpr ⟨lw_p26, List.forall_mem_cons.mpr ⟨lw_p27, List.forall_mem_cons.mpr ⟨lw_p28, List.forall_mem_cons.mpr ⟨lw_p29, List.forall_mem_cons.mpr ⟨lw_p30, List.forall_mem_cons.mpr ⟨lw_p31, fun _ h => absurd h List.not_mem_nil⟩⟩⟩⟩⟩⟩⟩⟩⟩⟩⟩⟩⟩⟩⟩⟩
theorem lw_p32 : lw_okq (⟨"HostBench$Host", "tellCommand", "(II)I"⟩, 15) := ⟨⟨by decide +kernel, by decide +kernel⟩, List.mem_of_getElem? (i := 47) (by decide +kernel), List.mem_of_getElem? (i := 821) (by decide +kernel), List.mem_of_getElem? (i := 822) (by decide +kernel)⟩
theorem lw_p33 : lw_okq (⟨"HostBench$Host", "tellHeap", "(I)I"⟩, 15) := ⟨⟨by decide +kernel, by decide +kernel⟩, List.mem_of_getElem? (i := 47) (by decide +kernel), List.mem_of_getElem? (i := 830) (by decide +kernel), List.mem_of_getElem? (i := 831) (by decide +kernel)⟩
theorem lw_p34 : lw_okq (⟨"HostBench$Host", "exit", "(II)I"⟩, 15) := ⟨⟨by decide +kernel, by decide +kernel⟩, List.mem_of_getElem? (i := 47) (by decide +kernel), List.mem_of_getElem? (i := 836) (by decide +kernel), List.mem_of_getElem? (i := 837) (by decide +kernel)⟩
theorem lw_p35 : lw_okq (⟨"HostBench$Host", "tellSteps", "()I"⟩, 15) := ⟨⟨by decide +kernel, by decide +kernel⟩, List.mem_of_getElem? (i := 47) (by decide +kernel), List.mem_of_getElem? (i := 845) (by decide +kernel), List.mem_of_getElem? (i := 846) (by decide +kernel)⟩
theorem lw_p36 : lw_okq (⟨"HostBenchModel", "four", "(I)V"⟩, 30) := ⟨⟨by decide +kernel, by decide +kernel⟩, List.mem_of_getElem? (i := 904) (by decide +kernel), List.mem_of_getElem? (i := 1009) (by decide +kernel), List.mem_of_getElem? (i := 1010) (by decide +kernel)⟩
theorem lw_p37 : lw_okq (⟨"HostBenchModel", "use", "()I"⟩, 30) := ⟨⟨by decide +kernel, by decide +kernel⟩, List.mem_of_getElem? (i := 904) (by decide +kernel), List.mem_of_getElem? (i := 1021) (by decide +kernel), List.mem_of_getElem? (i := 1022) (by decide +kernel)⟩
theorem lw_p38 : lw_okq (⟨"HostBenchModel", "isNamed", "(II)Z"⟩, 30) := ⟨⟨by decide +kernel, by decide +kernel⟩, List.mem_of_getElem? (i := 904) (by decide +kernel), List.mem_of_getElem? (i := 1029) (by decide +kernel), List.mem_of_getElem? (i := 1030) (by decide +kernel)⟩
theorem lw_p39 : lw_okq (⟨"HostBenchModel", "openOf", "(I)I"⟩, 30) := ⟨⟨by decide +kernel, by decide +kernel⟩, List.mem_of_getElem? (i := 904) (by decide +kernel), List.mem_of_getElem? (i := 1033) (by decide +kernel), List.mem_of_getElem? (i := 1034) (by decide +kernel)⟩
theorem lw_p40 : lw_okq (⟨"HostBenchModel", "step", "()V"⟩, 30) := ⟨⟨by decide +kernel, by decide +kernel⟩, List.mem_of_getElem? (i := 904) (by decide +kernel), List.mem_of_getElem? (i := 1057) (by decide +kernel), List.mem_of_getElem? (i := 1058) (by decide +kernel)⟩
theorem lw_p41 : lw_okq (⟨"HostBenchModel", "stop", "(I)V"⟩, 30) := ⟨⟨by decide +kernel, by decide +kernel⟩, List.mem_of_getElem? (i := 904) (by decide +kernel), List.mem_of_getElem? (i := 1061) (by decide +kernel), List.mem_of_getElem? (i := 1062) (by decide +kernel)⟩
theorem lw_p42 : lw_okq (⟨"HostBenchModel", "word", "(I)I"⟩, 30) := ⟨⟨by decide +kernel, by decide +kernel⟩, List.mem_of_getElem? (i := 904) (by decide +kernel), List.mem_of_getElem? (i := 1073) (by decide +kernel), List.mem_of_getElem? (i := 1074) (by decide +kernel)⟩
theorem lw_p43 : lw_okq (⟨"HostBenchModel", "comes", "(II)V"⟩, 30) := ⟨⟨by decide +kernel, by decide +kernel⟩, List.mem_of_getElem? (i := 904) (by decide +kernel), List.mem_of_getElem? (i := 1077) (by decide +kernel), List.mem_of_getElem? (i := 1078) (by decide +kernel)⟩
theorem lw_p44 : lw_okq (⟨"HostBenchModel", "jump", "(II)V"⟩, 30) := ⟨⟨by decide +kernel, by decide +kernel⟩, List.mem_of_getElem? (i := 904) (by decide +kernel), List.mem_of_getElem? (i := 1082) (by decide +kernel), List.mem_of_getElem? (i := 1083) (by decide +kernel)⟩
theorem lw_p45 : lw_okq (⟨"HostBenchModel", "branch", "(IIII)V"⟩, 30) := ⟨⟨by decide +kernel, by decide +kernel⟩, List.mem_of_getElem? (i := 904) (by decide +kernel), List.mem_of_getElem? (i := 1086) (by decide +kernel), List.mem_of_getElem? (i := 1087) (by decide +kernel)⟩
theorem lw_p46 : lw_okq (⟨"HostBenchModel", "load", "(III)V"⟩, 30) := ⟨⟨by decide +kernel, by decide +kernel⟩, List.mem_of_getElem? (i := 904) (by decide +kernel), List.mem_of_getElem? (i := 1090) (by decide +kernel), List.mem_of_getElem? (i := 1091) (by decide +kernel)⟩
theorem lw_p47 : lw_okq (⟨"HostBenchModel", "store", "(III)V"⟩, 30) := ⟨⟨by decide +kernel, by decide +kernel⟩, List.mem_of_getElem? (i := 904) (by decide +kernel), List.mem_of_getElem? (i := 1094) (by decide +kernel), List.mem_of_getElem? (i := 1095) (by decide +kernel)⟩
def lw_privs_3 : List (MethodName × Nat) := [(⟨"HostBench$Host", "tellCommand", "(II)I"⟩, 15), (⟨"HostBench$Host", "tellHeap", "(I)I"⟩, 15), (⟨"HostBench$Host", "exit", "(II)I"⟩, 15), (⟨"HostBench$Host", "tellSteps", "()I"⟩, 15), (⟨"HostBenchModel", "four", "(I)V"⟩, 30), (⟨"HostBenchModel", "use", "()I"⟩, 30), (⟨"HostBenchModel", "isNamed", "(II)Z"⟩, 30), (⟨"HostBenchModel", "openOf", "(I)I"⟩, 30), (⟨"HostBenchModel", "step", "()V"⟩, 30), (⟨"HostBenchModel", "stop", "(I)V"⟩, 30), (⟨"HostBenchModel", "word", "(I)I"⟩, 30), (⟨"HostBenchModel", "comes", "(II)V"⟩, 30), (⟨"HostBenchModel", "jump", "(II)V"⟩, 30), (⟨"HostBenchModel", "branch", "(IIII)V"⟩, 30), (⟨"HostBenchModel", "load", "(III)V"⟩, 30), (⟨"HostBenchModel", "store", "(III)V"⟩, 30)]
theorem lw_r3 : ∀ q ∈ lw_privs_3, lw_okq q := List.forall_mem_cons.mpr ⟨lw_p32, List.forall_mem_cons.mpr ⟨lw_p33, List.forall_mem_cons.mpr ⟨lw_p34, List.forall_mem_cons.mpr ⟨lw_p35, List.forall_mem_cons.mpr ⟨lw_p36, List.forall_mem_cons.mpr ⟨lw_p37, List.forall_mem_cons.mpr ⟨lw_p38, List.forall_mem_cons.mpr ⟨lw_p39, List.forall_mem_cons.mpr ⟨lw_p40, List.forall_mem_cons.mpr ⟨lw_p41, List.forall_mem_cons.mpr ⟨lw_p42, List.forall_mem_cons.mpr ⟨lw_p43, List.forall_mem_cons.mpr ⟨lw_p44, List.forall_mem_cons.mpr ⟨lw_p45, List.forall_mem_cons.mpr ⟨lw_p46, List.forall_mem_cons.mpr ⟨lw_p47, fun _ h => absurd h List.not_mem_nil⟩⟩⟩⟩⟩⟩⟩⟩⟩⟩⟩⟩⟩⟩⟩⟩
theorem lw_p48 : lw_okq (⟨"HostBenchModel", "lays", "(III)V"⟩, 30) := ⟨⟨by decide +kernel, by decide +kernel⟩, List.mem_of_getElem? (i := 904) (by decide +kernel), List.mem_of_getElem? (i := 1098) (by decide +kernel), List.mem_of_getElem? (i := 1099) (by decide +kernel)⟩
theorem lw_p49 : lw_okq (⟨"HostBenchModel", "small", "(IIII)V"⟩, 30) := ⟨⟨by decide +kernel, by decide +kernel⟩, List.mem_of_getElem? (i := 904) (by decide +kernel), List.mem_of_getElem? (i := 1102) (by decide +kernel), List.mem_of_getElem? (i := 1103) (by decide +kernel)⟩
theorem lw_p50 : lw_okq (⟨"HostBenchModel", "two", "(IIIII)V"⟩, 30) := ⟨⟨by decide +kernel, by decide +kernel⟩, List.mem_of_getElem? (i := 904) (by decide +kernel), List.mem_of_getElem? (i := 1106) (by decide +kernel), List.mem_of_getElem? (i := 1107) (by decide +kernel)⟩
theorem lw_p51 : lw_okq (⟨"HostBenchModel", "breaks", "()V"⟩, 30) := ⟨⟨by decide +kernel, by decide +kernel⟩, List.mem_of_getElem? (i := 904) (by decide +kernel), List.mem_of_getElem? (i := 1117) (by decide +kernel), List.mem_of_getElem? (i := 1118) (by decide +kernel)⟩
theorem lw_p52 : lw_okq (⟨"HostBenchModel", "call", "(II)V"⟩, 30) := ⟨⟨by decide +kernel, by decide +kernel⟩, List.mem_of_getElem? (i := 904) (by decide +kernel), List.mem_of_getElem? (i := 1123) (by decide +kernel), List.mem_of_getElem? (i := 1124) (by decide +kernel)⟩
theorem lw_p53 : lw_okq (⟨"HostBenchModel", "fails", "(I)V"⟩, 30) := ⟨⟨by decide +kernel, by decide +kernel⟩, List.mem_of_getElem? (i := 904) (by decide +kernel), List.mem_of_getElem? (i := 1130) (by decide +kernel), List.mem_of_getElem? (i := 1131) (by decide +kernel)⟩
theorem lw_p54 : lw_okq (⟨"HostBenchModel", "open", "()V"⟩, 30) := ⟨⟨by decide +kernel, by decide +kernel⟩, List.mem_of_getElem? (i := 904) (by decide +kernel), List.mem_of_getElem? (i := 1134) (by decide +kernel), List.mem_of_getElem? (i := 1135) (by decide +kernel)⟩
theorem lw_p55 : lw_okq (⟨"HostBenchModel", "field", "(I)I"⟩, 30) := ⟨⟨by decide +kernel, by decide +kernel⟩, List.mem_of_getElem? (i := 904) (by decide +kernel), List.mem_of_getElem? (i := 1138) (by decide +kernel), List.mem_of_getElem? (i := 1139) (by decide +kernel)⟩
theorem lw_p56 : lw_okq (⟨"HostBenchModel", "nameFault", "(II)I"⟩, 30) := ⟨⟨by decide +kernel, by decide +kernel⟩, List.mem_of_getElem? (i := 904) (by decide +kernel), List.mem_of_getElem? (i := 1142) (by decide +kernel), List.mem_of_getElem? (i := 1143) (by decide +kernel)⟩
theorem lw_p57 : lw_okq (⟨"HostBenchModel", "opened", "(IIII)V"⟩, 30) := ⟨⟨by decide +kernel, by decide +kernel⟩, List.mem_of_getElem? (i := 904) (by decide +kernel), List.mem_of_getElem? (i := 1146) (by decide +kernel), List.mem_of_getElem? (i := 1147) (by decide +kernel)⟩
theorem lw_p58 : lw_okq (⟨"HostBenchModel", "answer", "(I)V"⟩, 30) := ⟨⟨by decide +kernel, by decide +kernel⟩, List.mem_of_getElem? (i := 904) (by decide +kernel), List.mem_of_getElem? (i := 1150) (by decide +kernel), List.mem_of_getElem? (i := 1151) (by decide +kernel)⟩
theorem lw_p59 : lw_okq (⟨"HostBenchModel", "find", "(II)I"⟩, 30) := ⟨⟨by decide +kernel, by decide +kernel⟩, List.mem_of_getElem? (i := 904) (by decide +kernel), List.mem_of_getElem? (i := 1154) (by decide +kernel), List.mem_of_getElem? (i := 1155) (by decide +kernel)⟩
theorem lw_p60 : lw_okq (⟨"HostBenchModel", "isOpen", "(I)Z"⟩, 30) := ⟨⟨by decide +kernel, by decide +kernel⟩, List.mem_of_getElem? (i := 904) (by decide +kernel), List.mem_of_getElem? (i := 1158) (by decide +kernel), List.mem_of_getElem? (i := 1159) (by decide +kernel)⟩
theorem lw_p61 : lw_okq (⟨"HostBenchModel", "prints", "(II)V"⟩, 30) := ⟨⟨by decide +kernel, by decide +kernel⟩, List.mem_of_getElem? (i := 904) (by decide +kernel), List.mem_of_getElem? (i := 1162) (by decide +kernel), List.mem_of_getElem? (i := 1163) (by decide +kernel)⟩
theorem lw_p62 : lw_okq (⟨"HostBenchModel", "writeUpToZero", "(I)V"⟩, 30) := ⟨⟨by decide +kernel, by decide +kernel⟩, List.mem_of_getElem? (i := 904) (by decide +kernel), List.mem_of_getElem? (i := 1166) (by decide +kernel), List.mem_of_getElem? (i := 1167) (by decide +kernel)⟩
theorem lw_p63 : lw_okq (⟨"HostBenchModel", "write", "(III)V"⟩, 30) := ⟨⟨by decide +kernel, by decide +kernel⟩, List.mem_of_getElem? (i := 904) (by decide +kernel), List.mem_of_getElem? (i := 1170) (by decide +kernel), List.mem_of_getElem? (i := 1171) (by decide +kernel)⟩
def lw_privs_4 : List (MethodName × Nat) := [(⟨"HostBenchModel", "lays", "(III)V"⟩, 30), (⟨"HostBenchModel", "small", "(IIII)V"⟩, 30), (⟨"HostBenchModel", "two", "(IIIII)V"⟩, 30), (⟨"HostBenchModel", "breaks", "()V"⟩, 30), (⟨"HostBenchModel", "call", "(II)V"⟩, 30), (⟨"HostBenchModel", "fails", "(I)V"⟩, 30), (⟨"HostBenchModel", "open", "()V"⟩, 30), (⟨"HostBenchModel", "field", "(I)I"⟩, 30), (⟨"HostBenchModel", "nameFault", "(II)I"⟩, 30), (⟨"HostBenchModel", "opened", "(IIII)V"⟩, 30), (⟨"HostBenchModel", "answer", "(I)V"⟩, 30), (⟨"HostBenchModel", "find", "(II)I"⟩, 30), (⟨"HostBenchModel", "isOpen", "(I)Z"⟩, 30), (⟨"HostBenchModel", "prints", "(II)V"⟩, 30), (⟨"HostBenchModel", "writeUpToZero", "(I)V"⟩, 30), (⟨"HostBenchModel", "write", "(III)V"⟩, 30)]
theorem lw_r4 : ∀ q ∈ lw_privs_4, lw_okq q := List.forall_mem_cons.mpr ⟨lw_p48, List.forall_mem_cons.mpr ⟨lw_p49, List.forall_mem_cons.mpr ⟨lw_p50, List.forall_mem_cons.mpr ⟨lw_p51, List.forall_mem_cons.mpr ⟨lw_p52, List.forall_mem_cons.mpr ⟨lw_p53, List.forall_mem_cons.mpr ⟨lw_p54, List.forall_mem_cons.mpr ⟨lw_p55, List.forall_mem_cons.mpr ⟨lw_p56, List.forall_mem_cons.mpr ⟨lw_p57, List.forall_mem_cons.mpr ⟨lw_p58, List.forall_mem_cons.mpr ⟨lw_p59, List.forall_mem_cons.mpr ⟨lw_p60, List.forall_mem_cons.mpr ⟨lw_p61, List.forall_mem_cons.mpr ⟨lw_p62, List.forall_mem_cons.mpr ⟨lw_p63, fun _ h => absurd h List.not_mem_nil⟩⟩⟩⟩⟩⟩⟩⟩⟩⟩⟩⟩⟩⟩⟩⟩
theorem lw_p64 : lw_okq (⟨"HostBenchModel", "failsWith", "(II)V"⟩, 30) := ⟨⟨by decide +kernel, by decide +kernel⟩, List.mem_of_getElem? (i := 904) (by decide +kernel), List.mem_of_getElem? (i := 1174) (by decide +kernel), List.mem_of_getElem? (i := 1175) (by decide +kernel)⟩
theorem lw_p65 : lw_okq (⟨"HostBenchModel", "read", "(III)V"⟩, 30) := ⟨⟨by decide +kernel, by decide +kernel⟩, List.mem_of_getElem? (i := 904) (by decide +kernel), List.mem_of_getElem? (i := 1178) (by decide +kernel), List.mem_of_getElem? (i := 1179) (by decide +kernel)⟩
theorem lw_p66 : lw_okq (⟨"HostBenchModel", "takeIn", "()I"⟩, 30) := ⟨⟨by decide +kernel, by decide +kernel⟩, List.mem_of_getElem? (i := 904) (by decide +kernel), List.mem_of_getElem? (i := 1182) (by decide +kernel), List.mem_of_getElem? (i := 1183) (by decide +kernel)⟩
theorem lw_p67 : lw_okq (⟨"HostBenchModel", "more", "(II)V"⟩, 30) := ⟨⟨by decide +kernel, by decide +kernel⟩, List.mem_of_getElem? (i := 904) (by decide +kernel), List.mem_of_getElem? (i := 1186) (by decide +kernel), List.mem_of_getElem? (i := 1187) (by decide +kernel)⟩
theorem lw_p68 : lw_okq (⟨"HostBenchModel", "seek", "(II)V"⟩, 30) := ⟨⟨by decide +kernel, by decide +kernel⟩, List.mem_of_getElem? (i := 904) (by decide +kernel), List.mem_of_getElem? (i := 1190) (by decide +kernel), List.mem_of_getElem? (i := 1191) (by decide +kernel)⟩
theorem lw_p69 : lw_okq (⟨"HostBenchModel", "temporary", "(III)V"⟩, 30) := ⟨⟨by decide +kernel, by decide +kernel⟩, List.mem_of_getElem? (i := 904) (by decide +kernel), List.mem_of_getElem? (i := 1194) (by decide +kernel), List.mem_of_getElem? (i := 1195) (by decide +kernel)⟩
theorem lw_p70 : lw_okq (⟨"HostBenchModel", "remove", "(II)V"⟩, 30) := ⟨⟨by decide +kernel, by decide +kernel⟩, List.mem_of_getElem? (i := 904) (by decide +kernel), List.mem_of_getElem? (i := 1201) (by decide +kernel), List.mem_of_getElem? (i := 1202) (by decide +kernel)⟩
theorem lw_p71 : lw_okq (⟨"HostBenchModel", "rename", "(IIII)V"⟩, 30) := ⟨⟨by decide +kernel, by decide +kernel⟩, List.mem_of_getElem? (i := 904) (by decide +kernel), List.mem_of_getElem? (i := 1205) (by decide +kernel), List.mem_of_getElem? (i := 1206) (by decide +kernel)⟩
theorem lw_p72 : lw_okq (⟨"HostBenchModel", "commandTo", "(II)V"⟩, 30) := ⟨⟨by decide +kernel, by decide +kernel⟩, List.mem_of_getElem? (i := 904) (by decide +kernel), List.mem_of_getElem? (i := 1210) (by decide +kernel), List.mem_of_getElem? (i := 1211) (by decide +kernel)⟩
theorem lw_p73 : lw_okq (⟨"HostBenchModel", "heap", "(I)V"⟩, 30) := ⟨⟨by decide +kernel, by decide +kernel⟩, List.mem_of_getElem? (i := 904) (by decide +kernel), List.mem_of_getElem? (i := 1214) (by decide +kernel), List.mem_of_getElem? (i := 1215) (by decide +kernel)⟩
theorem lw_p74 : lw_okq (⟨"HostBenchModel", "elapsed", "(I)V"⟩, 30) := ⟨⟨by decide +kernel, by decide +kernel⟩, List.mem_of_getElem? (i := 904) (by decide +kernel), List.mem_of_getElem? (i := 1219) (by decide +kernel), List.mem_of_getElem? (i := 1220) (by decide +kernel)⟩
def lw_privs_5 : List (MethodName × Nat) := [(⟨"HostBenchModel", "failsWith", "(II)V"⟩, 30), (⟨"HostBenchModel", "read", "(III)V"⟩, 30), (⟨"HostBenchModel", "takeIn", "()I"⟩, 30), (⟨"HostBenchModel", "more", "(II)V"⟩, 30), (⟨"HostBenchModel", "seek", "(II)V"⟩, 30), (⟨"HostBenchModel", "temporary", "(III)V"⟩, 30), (⟨"HostBenchModel", "remove", "(II)V"⟩, 30), (⟨"HostBenchModel", "rename", "(IIII)V"⟩, 30), (⟨"HostBenchModel", "commandTo", "(II)V"⟩, 30), (⟨"HostBenchModel", "heap", "(I)V"⟩, 30), (⟨"HostBenchModel", "elapsed", "(I)V"⟩, 30)]
theorem lw_r5 : ∀ q ∈ lw_privs_5, lw_okq q := List.forall_mem_cons.mpr ⟨lw_p64, List.forall_mem_cons.mpr ⟨lw_p65, List.forall_mem_cons.mpr ⟨lw_p66, List.forall_mem_cons.mpr ⟨lw_p67, List.forall_mem_cons.mpr ⟨lw_p68, List.forall_mem_cons.mpr ⟨lw_p69, List.forall_mem_cons.mpr ⟨lw_p70, List.forall_mem_cons.mpr ⟨lw_p71, List.forall_mem_cons.mpr ⟨lw_p72, List.forall_mem_cons.mpr ⟨lw_p73, List.forall_mem_cons.mpr ⟨lw_p74, fun _ h => absurd h List.not_mem_nil⟩⟩⟩⟩⟩⟩⟩⟩⟩⟩⟩
def lw_privs : List (MethodName × Nat) := lw_privs_1 ++ (lw_privs_2 ++ (lw_privs_3 ++ (lw_privs_4 ++ (lw_privs_5))))
def lw_tbl : List Cond := k2_sels lw_privs ++ tables_1
theorem lw_privs_ok : ∀ q ∈ lw_privs, lw_okq q := by
  show ∀ q ∈ lw_privs_1 ++ (lw_privs_2 ++ (lw_privs_3 ++ (lw_privs_4 ++ (lw_privs_5)))), lw_okq q
  exact List.forall_mem_append.mpr ⟨lw_r1, List.forall_mem_append.mpr ⟨lw_r2, List.forall_mem_append.mpr ⟨lw_r3, List.forall_mem_append.mpr ⟨lw_r4, lw_r5⟩⟩⟩⟩
-- ===== end of PART A =====
/-- the words that every method here is given: those of the tables that stay -/
def tT : List Cond := lw_tbl.filter goodWord
theorem tT_in {w : Cond} (h : w ∈ tT) : w ∈ lw_tbl ∧ goodWord w = true := List.mem_filter.mp h
theorem tw {w : Cond} (h : w ∈ tables_1) (hg : goodWord w = true) : w ∈ tT := List.mem_filter.mpr ⟨List.mem_append_right _ h, hg⟩
theorem tw1 {w : Cond} (i : Nat) (h : tables_1_1[i]? = some w) (hg : goodWord w = true) : w ∈ tT := tw (List.mem_append_left _ (List.mem_of_getElem? h)) hg
theorem tw2 {w : Cond} (i : Nat) (h : tables_1_2[i]? = some w) (hg : goodWord w = true) : w ∈ tT := tw (List.mem_append_right _ (List.mem_append_left _ (List.mem_of_getElem? h))) hg
theorem tw3 {w : Cond} (i : Nat) (h : tables_1_3[i]? = some w) (hg : goodWord w = true) : w ∈ tT := tw (List.mem_append_right _ (List.mem_append_right _ (List.mem_append_left _ (List.mem_of_getElem? h)))) hg
theorem tw4 {w : Cond} (i : Nat) (h : tables_1_4[i]? = some w) (hg : goodWord w = true) : w ∈ tT := tw (List.mem_append_right _ (List.mem_append_right _ (List.mem_append_right _ (List.mem_append_left _ (List.mem_of_getElem? h))))) hg
theorem tw5 {w : Cond} (i : Nat) (h : tables_1_5[i]? = some w) (hg : goodWord w = true) : w ∈ tT := tw (List.mem_append_right _ (List.mem_append_right _ (List.mem_append_right _ (List.mem_append_right _ (List.mem_append_left _ (List.mem_of_getElem? h)))))) hg
theorem tw6 {w : Cond} (i : Nat) (h : tables_1_6[i]? = some w) (hg : goodWord w = true) : w ∈ tT := tw (List.mem_append_right _ (List.mem_append_right _ (List.mem_append_right _ (List.mem_append_right _ (List.mem_append_right _ (List.mem_of_getElem? h)))))) hg
theorem tl1 {w : Cond} (i : Nat) (h : tables_1_1[i]? = some w) : w ∈ tables_1 := (List.mem_append_left _ (List.mem_of_getElem? h))
theorem tl2 {w : Cond} (i : Nat) (h : tables_1_2[i]? = some w) : w ∈ tables_1 := (List.mem_append_right _ (List.mem_append_left _ (List.mem_of_getElem? h)))
theorem tl3 {w : Cond} (i : Nat) (h : tables_1_3[i]? = some w) : w ∈ tables_1 := (List.mem_append_right _ (List.mem_append_right _ (List.mem_append_left _ (List.mem_of_getElem? h))))
theorem tl4 {w : Cond} (i : Nat) (h : tables_1_4[i]? = some w) : w ∈ tables_1 := (List.mem_append_right _ (List.mem_append_right _ (List.mem_append_right _ (List.mem_append_left _ (List.mem_of_getElem? h)))))
theorem tl5 {w : Cond} (i : Nat) (h : tables_1_5[i]? = some w) : w ∈ tables_1 := (List.mem_append_right _ (List.mem_append_right _ (List.mem_append_right _ (List.mem_append_right _ (List.mem_append_left _ (List.mem_of_getElem? h))))))
theorem tl6 {w : Cond} (i : Nat) (h : tables_1_6[i]? = some w) : w ∈ tables_1 := (List.mem_append_right _ (List.mem_append_right _ (List.mem_append_right _ (List.mem_append_right _ (List.mem_append_right _ (List.mem_of_getElem? h))))))
theorem twp {y : MethodName} {n : Nat} (h : (y, n) ∈ lw_privs) : Cond.selects y.cls y y ∈ tT := List.mem_filter.mpr ⟨List.mem_append_left _ (List.mem_map.mpr ⟨_, h, rfl⟩), rfl⟩
def y_HB_init : MethodName := ⟨"HostBench", "<init>", "()V"⟩
def y_Object_init : MethodName := ⟨"java/lang/Object", "<init>", "()V"⟩
def y_Bytes_init : MethodName := ⟨"HostBench$Bytes", "<init>", "(I)V"⟩
def y_Math_max : MethodName := ⟨"java/lang/Math", "max", "(II)I"⟩
def y_Host_init : MethodName := ⟨"HostBench$Host", "<init>", "()V"⟩
def y_Guest_init : MethodName := ⟨"HostBench$Guest", "<init>", "()V"⟩
def y_Memory_init : MethodName := ⟨"HostBench$Memory", "<init>", "()V"⟩
def y_Folder_init : MethodName := ⟨"HostBench$Folder", "<init>", "()V"⟩
def y_HostFile_init : MethodName := ⟨"HostBench$HostFile", "<init>", "()V"⟩
def y_Desk_init : MethodName := ⟨"HostBench$Desk", "<init>", "()V"⟩
def y_Handle_init : MethodName := ⟨"HostBench$Handle", "<init>", "()V"⟩
def y_Output_init : MethodName := ⟨"HostBench$Output", "<init>", "()V"⟩
def y_HB_feed : MethodName := ⟨"HostBench", "feed", "(IIIII)I"⟩
def y_Bytes_spare : MethodName := ⟨"HostBench$Bytes", "spare", "()I"⟩
def y_Bytes_add : MethodName := ⟨"HostBench$Bytes", "add", "(I)V"⟩
def y_Bytes_size : MethodName := ⟨"HostBench$Bytes", "size", "()I"⟩
def y_HB_end : MethodName := ⟨"HostBench", "end", "(I)Z"⟩
def y_Bytes_cut : MethodName := ⟨"HostBench$Bytes", "cut", "(I)V"⟩
def y_HB_clock : MethodName := ⟨"HostBench", "clock", "(I)V"⟩
def y_HB_begin : MethodName := ⟨"HostBench", "begin", "()V"⟩
def y_Guest_restart : MethodName := ⟨"HostBench$Guest", "restart", "()V"⟩
def y_HB_state : MethodName := ⟨"HostBench", "state", "()I"⟩
def y_HB_set : MethodName := ⟨"HostBench", "set", "(II)Z"⟩
def y_Guest_assign : MethodName := ⟨"HostBench$Guest", "assign", "(II)V"⟩
def y_HB_peek : MethodName := ⟨"HostBench", "peek", "(I)I"⟩
def y_Memory_byteAt : MethodName := ⟨"HostBench$Memory", "byteAt", "(I)I"⟩
def y_HB_files : MethodName := ⟨"HostBench", "files", "()I"⟩
def y_HB_fileByte : MethodName := ⟨"HostBench", "fileByte", "(IIZ)I"⟩
def y_Folder_get : MethodName := ⟨"HostBench$Folder", "get", "(I)LHostBench$HostFile;"⟩
def y_Bytes_at : MethodName := ⟨"HostBench$Bytes", "at", "(I)I"⟩
def y_HB_printed : MethodName := ⟨"HostBench", "printed", "(I)I"⟩
def y_HB_print : MethodName := ⟨"HostBench", "print", "(II)I"⟩
def y_L_put : MethodName := ⟨"HostBenchLaw", "put", "(LHostBench;I[J)I"⟩
def y_HB_put : MethodName := ⟨"HostBench", "put", "(I)I"⟩
def y_Memory_hasArea : MethodName := ⟨"HostBench$Memory", "hasArea", "(II)Z"⟩
def y_RuntimeException_init : MethodName := ⟨"java/lang/RuntimeException", "<init>", "()V"⟩
def y_RuntimeException_init2 : MethodName := ⟨"java/lang/RuntimeException", "<init>", "(Ljava/lang/String;)V"⟩
def y_Exception_init : MethodName := ⟨"java/lang/Exception", "<init>", "()V"⟩
def y_Exception_init2 : MethodName := ⟨"java/lang/Exception", "<init>", "(Ljava/lang/String;)V"⟩
def y_Throwable_init : MethodName := ⟨"java/lang/Throwable", "<init>", "()V"⟩
def y_Throwable_init2 : MethodName := ⟨"java/lang/Throwable", "<init>", "(Ljava/lang/String;)V"⟩
def y_Throwable_fillInStackTrace : MethodName := ⟨"java/lang/Throwable", "fillInStackTrace", "(I)Ljava/lang/Throwable;"⟩
def y_Throwable_fillInStackTrace2 : MethodName := ⟨"java/lang/Throwable", "fillInStackTrace", "()Ljava/lang/Throwable;"⟩
def y_IndexOutOfBoundsException_init : MethodName := ⟨"java/lang/IndexOutOfBoundsException", "<init>", "(Ljava/lang/String;)V"⟩
def y_Memory_storeByte : MethodName := ⟨"HostBench$Memory", "storeByte", "(II)V"⟩
def y_L_lay : MethodName := ⟨"HostBenchLaw", "lay", "(LHostBench;[J)I"⟩
def y_HB_lay : MethodName := ⟨"HostBench", "lay", "()I"⟩
def y_Bytes_firstZero : MethodName := ⟨"HostBench$Bytes", "firstZero", "()I"⟩
def y_IllegalArgumentException_init : MethodName := ⟨"java/lang/IllegalArgumentException", "<init>", "(Ljava/lang/String;)V"⟩
def y_Bytes_append : MethodName := ⟨"HostBench$Bytes", "append", "(LHostBench$Bytes;II)V"⟩
def y_Math_min : MethodName := ⟨"java/lang/Math", "min", "(II)I"⟩
def y_Folder_find : MethodName := ⟨"HostBench$Folder", "find", "(LHostBench$Bytes;)LHostBench$HostFile;"⟩
def y_Bytes_same : MethodName := ⟨"HostBench$Bytes", "same", "(LHostBench$Bytes;)Z"⟩
def y_Desk_openOn : MethodName := ⟨"HostBench$Desk", "openOn", "(LHostBench$HostFile;)I"⟩
def y_IllegalStateException_init : MethodName := ⟨"java/lang/IllegalStateException", "<init>", "(Ljava/lang/String;)V"⟩
def y_Folder_make : MethodName := ⟨"HostBench$Folder", "make", "(LHostBench$Bytes;)LHostBench$HostFile;"⟩
def y_UnsupportedOperationException_init : MethodName := ⟨"java/lang/UnsupportedOperationException", "<init>", "(Ljava/lang/String;)V"⟩
def y_L_type : MethodName := ⟨"HostBenchLaw", "type", "(LHostBench;[J)I"⟩
def y_HB_type : MethodName := ⟨"HostBench", "type", "()I"⟩
def y_L_command : MethodName := ⟨"HostBenchLaw", "command", "(LHostBench;[J)I"⟩
def y_HB_command : MethodName := ⟨"HostBench", "command", "()I"⟩
def y_L_run : MethodName := ⟨"HostBenchLaw", "run", "(LHostBench;I[J)I"⟩
def y_HB_run : MethodName := ⟨"HostBench", "run", "(I)I"⟩
def y_Guest_step : MethodName := ⟨"HostBench$Guest", "step", "()Z"⟩
def y_Guest_stop : MethodName := ⟨"HostBench$Guest", "stop", "(I)V"⟩
def y_Memory_wordAt : MethodName := ⟨"HostBench$Memory", "wordAt", "(I)I"⟩
def y_Guest_isMarked : MethodName := ⟨"HostBench$Guest", "isMarked", "()Z"⟩
def y_Guest_execute : MethodName := ⟨"HostBench$Guest", "execute", "(I)I"⟩
def y_Guest_load : MethodName := ⟨"HostBench$Guest", "load", "(I)I"⟩
def y_Guest_funct3 : MethodName := ⟨"HostBench$Guest", "funct3", "(I)I"⟩
def y_Guest_value : MethodName := ⟨"HostBench$Guest", "value", "(I)I"⟩
def y_Guest_loaded : MethodName := ⟨"HostBench$Guest", "loaded", "(II)I"⟩
def y_Memory_halfAt : MethodName := ⟨"HostBench$Memory", "halfAt", "(I)I"⟩
def y_Guest_operateOnNumber : MethodName := ⟨"HostBench$Guest", "operateOnNumber", "(I)I"⟩
def y_Guest_computed : MethodName := ⟨"HostBench$Guest", "computed", "(IIIZ)I"⟩
def y_Guest_isLessWithoutSign : MethodName := ⟨"HostBench$Guest", "isLessWithoutSign", "(II)Z"⟩
def y_Guest_store : MethodName := ⟨"HostBench$Guest", "store", "(I)I"⟩
def y_Guest_operate : MethodName := ⟨"HostBench$Guest", "operate", "(I)I"⟩
def y_Guest_multiplied : MethodName := ⟨"HostBench$Guest", "multiplied", "(III)I"⟩
def y_Guest_divided : MethodName := ⟨"HostBench$Guest", "divided", "(III)I"⟩
def y_Guest_branch : MethodName := ⟨"HostBench$Guest", "branch", "(I)I"⟩
def y_Guest_isTaken : MethodName := ⟨"HostBench$Guest", "isTaken", "(III)Z"⟩
def y_Guest_branchOffset : MethodName := ⟨"HostBench$Guest", "branchOffset", "(I)I"⟩
def y_Guest_jump : MethodName := ⟨"HostBench$Guest", "jump", "(II)I"⟩
def y_Guest_jumpOffset : MethodName := ⟨"HostBench$Guest", "jumpOffset", "(I)I"⟩
def y_Guest_system : MethodName := ⟨"HostBench$Guest", "system", "(I)I"⟩
def y_Host_answerCall : MethodName := ⟨"HostBench$Host", "answerCall", "()V"⟩
def y_Host_fieldsOf : MethodName := ⟨"HostBench$Host", "fieldsOf", "(I)I"⟩
def y_Host_hasFields : MethodName := ⟨"HostBench$Host", "hasFields", "(I)Z"⟩
def y_Host_perform : MethodName := ⟨"HostBench$Host", "perform", "(I)I"⟩
def y_Host_field : MethodName := ⟨"HostBench$Host", "field", "(I)I"⟩
def y_Host_open : MethodName := ⟨"HostBench$Host", "open", "(III)I"⟩
def y_Host_fail : MethodName := ⟨"HostBench$Host", "fail", "(I)I"⟩
def y_Host_bringName : MethodName := ⟨"HostBench$Host", "bringName", "(LHostBench$Bytes;II)I"⟩
def y_Desk_leastShut : MethodName := ⟨"HostBench$Desk", "leastShut", "()I"⟩
def y_Desk_get : MethodName := ⟨"HostBench$Desk", "get", "(I)LHostBench$Handle;"⟩
def y_Host_namesConsole : MethodName := ⟨"HostBench$Host", "namesConsole", "(LHostBench$Bytes;)Z"⟩
def y_Handle_openConsole : MethodName := ⟨"HostBench$Handle", "openConsole", "(I)V"⟩
def y_Host_openFile : MethodName := ⟨"HostBench$Host", "openFile", "(LHostBench$Handle;I)Z"⟩
def y_Handle_openFile : MethodName := ⟨"HostBench$Handle", "openFile", "(LHostBench$HostFile;I)V"⟩
def y_Host_close : MethodName := ⟨"HostBench$Host", "close", "(I)I"⟩
def y_Desk_getOpen : MethodName := ⟨"HostBench$Desk", "getOpen", "(I)LHostBench$Handle;"⟩
def y_Handle_shut : MethodName := ⟨"HostBench$Handle", "shut", "()V"⟩
def y_Host_writeText : MethodName := ⟨"HostBench$Host", "writeText", "(I)I"⟩
def y_Output_receive : MethodName := ⟨"HostBench$Output", "receive", "(LHostBench$Memory;II)V"⟩
def y_Memory_lengthUpToZero : MethodName := ⟨"HostBench$Memory", "lengthUpToZero", "(I)I"⟩
def y_Host_write : MethodName := ⟨"HostBench$Host", "write", "(III)I"⟩
def y_Handle_may : MethodName := ⟨"HostBench$Handle", "may", "(I)Z"⟩
def y_Host_writeFile : MethodName := ⟨"HostBench$Host", "writeFile", "(LHostBench$Handle;LHostBench$HostFile;II)I"⟩
def y_Bytes_change : MethodName := ⟨"HostBench$Bytes", "change", "(II)V"⟩
def y_Host_read : MethodName := ⟨"HostBench$Host", "read", "(III)I"⟩
def y_Host_bringBytes : MethodName := ⟨"HostBench$Host", "bringBytes", "(LHostBench$Bytes;III)I"⟩
def y_Bytes_dropFirst : MethodName := ⟨"HostBench$Bytes", "dropFirst", "(I)V"⟩
def y_Host_readByte : MethodName := ⟨"HostBench$Host", "readByte", "()I"⟩
def y_Host_isConsole : MethodName := ⟨"HostBench$Host", "isConsole", "(I)I"⟩
def y_Host_seek : MethodName := ⟨"HostBench$Host", "seek", "(II)I"⟩
def y_Host_length : MethodName := ⟨"HostBench$Host", "length", "(I)I"⟩
def y_Host_temporaryName : MethodName := ⟨"HostBench$Host", "temporaryName", "(III)I"⟩
def y_Host_remove : MethodName := ⟨"HostBench$Host", "remove", "(II)I"⟩
def y_Folder_remove : MethodName := ⟨"HostBench$Folder", "remove", "(LHostBench$HostFile;)V"⟩
def y_Folder_numberOf : MethodName := ⟨"HostBench$Folder", "numberOf", "(LHostBench$HostFile;)I"⟩
def y_Host_rename : MethodName := ⟨"HostBench$Host", "rename", "()I"⟩
def y_Host_performOther : MethodName := ⟨"HostBench$Host", "performOther", "(I)I"⟩
def y_Host_tellCommand : MethodName := ⟨"HostBench$Host", "tellCommand", "(II)I"⟩
def y_Memory_storeWord : MethodName := ⟨"HostBench$Memory", "storeWord", "(II)V"⟩
def y_Host_tellHeap : MethodName := ⟨"HostBench$Host", "tellHeap", "(I)I"⟩
def y_Host_exit : MethodName := ⟨"HostBench$Host", "exit", "(II)I"⟩
def y_Guest_exit : MethodName := ⟨"HostBench$Guest", "exit", "(I)V"⟩
def y_Host_tellSteps : MethodName := ⟨"HostBench$Host", "tellSteps", "()I"⟩
def y_Guest_goOnBehindCall : MethodName := ⟨"HostBench$Guest", "goOnBehindCall", "(I)V"⟩
def y_L_look : MethodName := ⟨"HostBenchLaw", "look", "(LHostBench;I[J)I"⟩
def y_HB_look : MethodName := ⟨"HostBench", "look", "(I)I"⟩
def y_NoSuchElementException_init : MethodName := ⟨"java/util/NoSuchElementException", "<init>", "(Ljava/lang/String;)V"⟩
def y_L_register : MethodName := ⟨"HostBenchLaw", "register", "(LHostBench;I[J)I"⟩
def y_HB_register : MethodName := ⟨"HostBench", "register", "(I)I"⟩
def y_L_file : MethodName := ⟨"HostBenchLaw", "file", "(LHostBench;II[J)I"⟩
def y_HB_file : MethodName := ⟨"HostBench", "file", "(II)I"⟩
def y_L_handle : MethodName := ⟨"HostBenchLaw", "handle", "(LHostBench;II[J)I"⟩
def y_HB_handle : MethodName := ⟨"HostBench", "handle", "(II)I"⟩
def y_M_init : MethodName := ⟨"HostBenchModel", "<init>", "()V"⟩
def y_M_thrown : MethodName := ⟨"HostBenchModel", "thrown", "()I"⟩
def y_M_feed : MethodName := ⟨"HostBenchModel", "feed", "(IIIII)I"⟩
def y_M_four : MethodName := ⟨"HostBenchModel", "four", "(I)V"⟩
def y_M_end : MethodName := ⟨"HostBenchModel", "end", "(I)Z"⟩
def y_M_put : MethodName := ⟨"HostBenchModel", "put", "(I)I"⟩
def y_M_use : MethodName := ⟨"HostBenchModel", "use", "()I"⟩
def y_M_lay : MethodName := ⟨"HostBenchModel", "lay", "()I"⟩
def y_M_isNamed : MethodName := ⟨"HostBenchModel", "isNamed", "(II)Z"⟩
def y_M_openOf : MethodName := ⟨"HostBenchModel", "openOf", "(I)I"⟩
def y_M_type : MethodName := ⟨"HostBenchModel", "type", "()I"⟩
def y_M_command : MethodName := ⟨"HostBenchModel", "command", "()I"⟩
def y_M_clock : MethodName := ⟨"HostBenchModel", "clock", "(I)V"⟩
def y_M_begin : MethodName := ⟨"HostBenchModel", "begin", "()V"⟩
def y_M_run : MethodName := ⟨"HostBenchModel", "run", "(I)I"⟩
def y_M_step : MethodName := ⟨"HostBenchModel", "step", "()V"⟩
def y_M_stop : MethodName := ⟨"HostBenchModel", "stop", "(I)V"⟩
def y_M_isArea : MethodName := ⟨"HostBenchModel", "isArea", "(II)Z"⟩
def y_M_whole : MethodName := ⟨"HostBenchModel", "whole", "(I)J"⟩
def y_M_word : MethodName := ⟨"HostBenchModel", "word", "(I)I"⟩
def y_M_comes : MethodName := ⟨"HostBenchModel", "comes", "(II)V"⟩
def y_M_jump : MethodName := ⟨"HostBenchModel", "jump", "(II)V"⟩
def y_M_branch : MethodName := ⟨"HostBenchModel", "branch", "(IIII)V"⟩
def y_M_load : MethodName := ⟨"HostBenchModel", "load", "(III)V"⟩
def y_M_store : MethodName := ⟨"HostBenchModel", "store", "(III)V"⟩
def y_M_lays : MethodName := ⟨"HostBenchModel", "lays", "(III)V"⟩
def y_M_small : MethodName := ⟨"HostBenchModel", "small", "(IIII)V"⟩
def y_M_two : MethodName := ⟨"HostBenchModel", "two", "(IIIII)V"⟩
def y_M_times : MethodName := ⟨"HostBenchModel", "times", "(III)I"⟩
def y_M_plain : MethodName := ⟨"HostBenchModel", "plain", "(III)I"⟩
def y_M_breaks : MethodName := ⟨"HostBenchModel", "breaks", "()V"⟩
def y_M_call : MethodName := ⟨"HostBenchModel", "call", "(II)V"⟩
def y_M_fieldsOf : MethodName := ⟨"HostBenchModel", "fieldsOf", "(I)I"⟩
def y_M_fails : MethodName := ⟨"HostBenchModel", "fails", "(I)V"⟩
def y_M_open : MethodName := ⟨"HostBenchModel", "open", "()V"⟩
def y_M_field : MethodName := ⟨"HostBenchModel", "field", "(I)I"⟩
def y_M_nameFault : MethodName := ⟨"HostBenchModel", "nameFault", "(II)I"⟩
def y_M_opened : MethodName := ⟨"HostBenchModel", "opened", "(IIII)V"⟩
def y_M_answer : MethodName := ⟨"HostBenchModel", "answer", "(I)V"⟩
def y_M_find : MethodName := ⟨"HostBenchModel", "find", "(II)I"⟩
def y_M_isOpen : MethodName := ⟨"HostBenchModel", "isOpen", "(I)Z"⟩
def y_M_prints : MethodName := ⟨"HostBenchModel", "prints", "(II)V"⟩
def y_M_writeUpToZero : MethodName := ⟨"HostBenchModel", "writeUpToZero", "(I)V"⟩
def y_M_write : MethodName := ⟨"HostBenchModel", "write", "(III)V"⟩
def y_M_failsWith : MethodName := ⟨"HostBenchModel", "failsWith", "(II)V"⟩
def y_M_read : MethodName := ⟨"HostBenchModel", "read", "(III)V"⟩
def y_M_takeIn : MethodName := ⟨"HostBenchModel", "takeIn", "()I"⟩
def y_M_more : MethodName := ⟨"HostBenchModel", "more", "(II)V"⟩
def y_M_seek : MethodName := ⟨"HostBenchModel", "seek", "(II)V"⟩
def y_M_temporary : MethodName := ⟨"HostBenchModel", "temporary", "(III)V"⟩
def y_M_remove : MethodName := ⟨"HostBenchModel", "remove", "(II)V"⟩
def y_M_rename : MethodName := ⟨"HostBenchModel", "rename", "(IIII)V"⟩
def y_M_commandTo : MethodName := ⟨"HostBenchModel", "commandTo", "(II)V"⟩
def y_M_heap : MethodName := ⟨"HostBenchModel", "heap", "(I)V"⟩
def y_M_elapsed : MethodName := ⟨"HostBenchModel", "elapsed", "(I)V"⟩
def y_M_state : MethodName := ⟨"HostBenchModel", "state", "()I"⟩
def y_M_look : MethodName := ⟨"HostBenchModel", "look", "(I)I"⟩
def y_M_register : MethodName := ⟨"HostBenchModel", "register", "(I)I"⟩
def y_M_set : MethodName := ⟨"HostBenchModel", "set", "(II)Z"⟩
def y_M_peek : MethodName := ⟨"HostBenchModel", "peek", "(I)I"⟩
def y_M_files : MethodName := ⟨"HostBenchModel", "files", "()I"⟩
def y_M_file : MethodName := ⟨"HostBenchModel", "file", "(II)I"⟩
def y_M_fileByte : MethodName := ⟨"HostBenchModel", "fileByte", "(IIZ)I"⟩
def y_M_handle : MethodName := ⟨"HostBenchModel", "handle", "(II)I"⟩
def y_M_printed : MethodName := ⟨"HostBenchModel", "printed", "(I)I"⟩
def y_M_print : MethodName := ⟨"HostBenchModel", "print", "(II)I"⟩
end
section
theorem tw_0 : Cond.selects "java/lang/Throwable" y_Throwable_fillInStackTrace y_Throwable_fillInStackTrace ∈ tT := twp (y := y_Throwable_fillInStackTrace) (n := 6) (List.mem_of_getElem? (i := 0) rfl)
theorem tw_1 : Cond.selects "HostBench$Guest" y_Guest_stop y_Guest_stop ∈ tT := twp (y := y_Guest_stop) (n := 8) (List.mem_of_getElem? (i := 1) rfl)
theorem tw_2 : Cond.selects "HostBench$Guest" y_Guest_isMarked y_Guest_isMarked ∈ tT := twp (y := y_Guest_isMarked) (n := 8) (List.mem_of_getElem? (i := 2) rfl)
theorem tw_3 : Cond.selects "HostBench$Guest" y_Guest_execute y_Guest_execute ∈ tT := twp (y := y_Guest_execute) (n := 8) (List.mem_of_getElem? (i := 3) rfl)
theorem tw_4 : Cond.selects "HostBench$Guest" y_Guest_load y_Guest_load ∈ tT := twp (y := y_Guest_load) (n := 8) (List.mem_of_getElem? (i := 4) rfl)
theorem tw_5 : Cond.selects "HostBench$Guest" y_Guest_loaded y_Guest_loaded ∈ tT := twp (y := y_Guest_loaded) (n := 8) (List.mem_of_getElem? (i := 5) rfl)
theorem tw_6 : Cond.selects "HostBench$Guest" y_Guest_operateOnNumber y_Guest_operateOnNumber ∈ tT := twp (y := y_Guest_operateOnNumber) (n := 8) (List.mem_of_getElem? (i := 6) rfl)
theorem tw_7 : Cond.selects "HostBench$Guest" y_Guest_store y_Guest_store ∈ tT := twp (y := y_Guest_store) (n := 8) (List.mem_of_getElem? (i := 7) rfl)
theorem tw_8 : Cond.selects "HostBench$Guest" y_Guest_operate y_Guest_operate ∈ tT := twp (y := y_Guest_operate) (n := 8) (List.mem_of_getElem? (i := 8) rfl)
theorem tw_9 : Cond.selects "HostBench$Guest" y_Guest_branch y_Guest_branch ∈ tT := twp (y := y_Guest_branch) (n := 8) (List.mem_of_getElem? (i := 9) rfl)
theorem tw_10 : Cond.selects "HostBench$Guest" y_Guest_jump y_Guest_jump ∈ tT := twp (y := y_Guest_jump) (n := 8) (List.mem_of_getElem? (i := 10) rfl)
theorem tw_11 : Cond.selects "HostBench$Host" y_Host_hasFields y_Host_hasFields ∈ tT := twp (y := y_Host_hasFields) (n := 15) (List.mem_of_getElem? (i := 11) rfl)
theorem tw_12 : Cond.selects "HostBench$Host" y_Host_perform y_Host_perform ∈ tT := twp (y := y_Host_perform) (n := 15) (List.mem_of_getElem? (i := 12) rfl)
theorem tw_13 : Cond.selects "HostBench$Host" y_Host_field y_Host_field ∈ tT := twp (y := y_Host_field) (n := 15) (List.mem_of_getElem? (i := 13) rfl)
theorem tw_14 : Cond.selects "HostBench$Host" y_Host_open y_Host_open ∈ tT := twp (y := y_Host_open) (n := 15) (List.mem_of_getElem? (i := 14) rfl)
theorem tw_15 : Cond.selects "HostBench$Host" y_Host_fail y_Host_fail ∈ tT := twp (y := y_Host_fail) (n := 15) (List.mem_of_getElem? (i := 15) rfl)
theorem tw_16 : Cond.selects "HostBench$Host" y_Host_bringName y_Host_bringName ∈ tT := twp (y := y_Host_bringName) (n := 15) (List.mem_of_getElem? (i := 16) rfl)
theorem tw_17 : Cond.selects "HostBench$Host" y_Host_openFile y_Host_openFile ∈ tT := twp (y := y_Host_openFile) (n := 15) (List.mem_of_getElem? (i := 17) rfl)
theorem tw_18 : Cond.selects "HostBench$Host" y_Host_close y_Host_close ∈ tT := twp (y := y_Host_close) (n := 15) (List.mem_of_getElem? (i := 18) rfl)
theorem tw_19 : Cond.selects "HostBench$Host" y_Host_writeText y_Host_writeText ∈ tT := twp (y := y_Host_writeText) (n := 15) (List.mem_of_getElem? (i := 19) rfl)
theorem tw_20 : Cond.selects "HostBench$Host" y_Host_write y_Host_write ∈ tT := twp (y := y_Host_write) (n := 15) (List.mem_of_getElem? (i := 20) rfl)
theorem tw_21 : Cond.selects "HostBench$Host" y_Host_writeFile y_Host_writeFile ∈ tT := twp (y := y_Host_writeFile) (n := 15) (List.mem_of_getElem? (i := 21) rfl)
theorem tw_22 : Cond.selects "HostBench$Host" y_Host_read y_Host_read ∈ tT := twp (y := y_Host_read) (n := 15) (List.mem_of_getElem? (i := 22) rfl)
theorem tw_23 : Cond.selects "HostBench$Host" y_Host_bringBytes y_Host_bringBytes ∈ tT := twp (y := y_Host_bringBytes) (n := 15) (List.mem_of_getElem? (i := 23) rfl)
theorem tw_24 : Cond.selects "HostBench$Host" y_Host_readByte y_Host_readByte ∈ tT := twp (y := y_Host_readByte) (n := 15) (List.mem_of_getElem? (i := 24) rfl)
theorem tw_25 : Cond.selects "HostBench$Host" y_Host_isConsole y_Host_isConsole ∈ tT := twp (y := y_Host_isConsole) (n := 15) (List.mem_of_getElem? (i := 25) rfl)
theorem tw_26 : Cond.selects "HostBench$Host" y_Host_seek y_Host_seek ∈ tT := twp (y := y_Host_seek) (n := 15) (List.mem_of_getElem? (i := 26) rfl)
theorem tw_27 : Cond.selects "HostBench$Host" y_Host_length y_Host_length ∈ tT := twp (y := y_Host_length) (n := 15) (List.mem_of_getElem? (i := 27) rfl)
theorem tw_28 : Cond.selects "HostBench$Host" y_Host_temporaryName y_Host_temporaryName ∈ tT := twp (y := y_Host_temporaryName) (n := 15) (List.mem_of_getElem? (i := 28) rfl)
theorem tw_29 : Cond.selects "HostBench$Host" y_Host_remove y_Host_remove ∈ tT := twp (y := y_Host_remove) (n := 15) (List.mem_of_getElem? (i := 29) rfl)
theorem tw_30 : Cond.selects "HostBench$Host" y_Host_rename y_Host_rename ∈ tT := twp (y := y_Host_rename) (n := 15) (List.mem_of_getElem? (i := 30) rfl)
theorem tw_31 : Cond.selects "HostBench$Host" y_Host_performOther y_Host_performOther ∈ tT := twp (y := y_Host_performOther) (n := 15) (List.mem_of_getElem? (i := 31) rfl)
theorem tw_32 : Cond.selects "HostBench$Host" y_Host_tellCommand y_Host_tellCommand ∈ tT := twp (y := y_Host_tellCommand) (n := 15) (List.mem_of_getElem? (i := 32) rfl)
theorem tw_33 : Cond.selects "HostBench$Host" y_Host_tellHeap y_Host_tellHeap ∈ tT := twp (y := y_Host_tellHeap) (n := 15) (List.mem_of_getElem? (i := 33) rfl)
theorem tw_34 : Cond.selects "HostBench$Host" y_Host_exit y_Host_exit ∈ tT := twp (y := y_Host_exit) (n := 15) (List.mem_of_getElem? (i := 34) rfl)
theorem tw_35 : Cond.selects "HostBench$Host" y_Host_tellSteps y_Host_tellSteps ∈ tT := twp (y := y_Host_tellSteps) (n := 15) (List.mem_of_getElem? (i := 35) rfl)
theorem tw_36 : Cond.selects "HostBenchModel" y_M_four y_M_four ∈ tT := twp (y := y_M_four) (n := 30) (List.mem_of_getElem? (i := 36) rfl)
theorem tw_37 : Cond.selects "HostBenchModel" y_M_use y_M_use ∈ tT := twp (y := y_M_use) (n := 30) (List.mem_of_getElem? (i := 37) rfl)
theorem tw_38 : Cond.selects "HostBenchModel" y_M_isNamed y_M_isNamed ∈ tT := twp (y := y_M_isNamed) (n := 30) (List.mem_of_getElem? (i := 38) rfl)
theorem tw_39 : Cond.selects "HostBenchModel" y_M_openOf y_M_openOf ∈ tT := twp (y := y_M_openOf) (n := 30) (List.mem_of_getElem? (i := 39) rfl)
theorem tw_40 : Cond.selects "HostBenchModel" y_M_step y_M_step ∈ tT := twp (y := y_M_step) (n := 30) (List.mem_of_getElem? (i := 40) rfl)
theorem tw_41 : Cond.selects "HostBenchModel" y_M_stop y_M_stop ∈ tT := twp (y := y_M_stop) (n := 30) (List.mem_of_getElem? (i := 41) rfl)
theorem tw_42 : Cond.selects "HostBenchModel" y_M_word y_M_word ∈ tT := twp (y := y_M_word) (n := 30) (List.mem_of_getElem? (i := 42) rfl)
theorem tw_43 : Cond.selects "HostBenchModel" y_M_comes y_M_comes ∈ tT := twp (y := y_M_comes) (n := 30) (List.mem_of_getElem? (i := 43) rfl)
theorem tw_44 : Cond.selects "HostBenchModel" y_M_jump y_M_jump ∈ tT := twp (y := y_M_jump) (n := 30) (List.mem_of_getElem? (i := 44) rfl)
theorem tw_45 : Cond.selects "HostBenchModel" y_M_branch y_M_branch ∈ tT := twp (y := y_M_branch) (n := 30) (List.mem_of_getElem? (i := 45) rfl)
theorem tw_46 : Cond.selects "HostBenchModel" y_M_load y_M_load ∈ tT := twp (y := y_M_load) (n := 30) (List.mem_of_getElem? (i := 46) rfl)
theorem tw_47 : Cond.selects "HostBenchModel" y_M_store y_M_store ∈ tT := twp (y := y_M_store) (n := 30) (List.mem_of_getElem? (i := 47) rfl)
theorem tw_48 : Cond.selects "HostBenchModel" y_M_lays y_M_lays ∈ tT := twp (y := y_M_lays) (n := 30) (List.mem_of_getElem? (i := 48) rfl)
theorem tw_49 : Cond.selects "HostBenchModel" y_M_small y_M_small ∈ tT := twp (y := y_M_small) (n := 30) (List.mem_of_getElem? (i := 49) rfl)
theorem tw_50 : Cond.selects "HostBenchModel" y_M_two y_M_two ∈ tT := twp (y := y_M_two) (n := 30) (List.mem_of_getElem? (i := 50) rfl)
theorem tw_51 : Cond.selects "HostBenchModel" y_M_breaks y_M_breaks ∈ tT := twp (y := y_M_breaks) (n := 30) (List.mem_of_getElem? (i := 51) rfl)
theorem tw_52 : Cond.selects "HostBenchModel" y_M_call y_M_call ∈ tT := twp (y := y_M_call) (n := 30) (List.mem_of_getElem? (i := 52) rfl)
theorem tw_53 : Cond.selects "HostBenchModel" y_M_fails y_M_fails ∈ tT := twp (y := y_M_fails) (n := 30) (List.mem_of_getElem? (i := 53) rfl)
theorem tw_54 : Cond.selects "HostBenchModel" y_M_open y_M_open ∈ tT := twp (y := y_M_open) (n := 30) (List.mem_of_getElem? (i := 54) rfl)
theorem tw_55 : Cond.selects "HostBenchModel" y_M_field y_M_field ∈ tT := twp (y := y_M_field) (n := 30) (List.mem_of_getElem? (i := 55) rfl)
theorem tw_56 : Cond.selects "HostBenchModel" y_M_nameFault y_M_nameFault ∈ tT := twp (y := y_M_nameFault) (n := 30) (List.mem_of_getElem? (i := 56) rfl)
theorem tw_57 : Cond.selects "HostBenchModel" y_M_opened y_M_opened ∈ tT := twp (y := y_M_opened) (n := 30) (List.mem_of_getElem? (i := 57) rfl)
theorem tw_58 : Cond.selects "HostBenchModel" y_M_answer y_M_answer ∈ tT := twp (y := y_M_answer) (n := 30) (List.mem_of_getElem? (i := 58) rfl)
theorem tw_59 : Cond.selects "HostBenchModel" y_M_find y_M_find ∈ tT := twp (y := y_M_find) (n := 30) (List.mem_of_getElem? (i := 59) rfl)
theorem tw_60 : Cond.selects "HostBenchModel" y_M_isOpen y_M_isOpen ∈ tT := twp (y := y_M_isOpen) (n := 30) (List.mem_of_getElem? (i := 60) rfl)
theorem tw_61 : Cond.selects "HostBenchModel" y_M_prints y_M_prints ∈ tT := twp (y := y_M_prints) (n := 30) (List.mem_of_getElem? (i := 61) rfl)
theorem tw_62 : Cond.selects "HostBenchModel" y_M_writeUpToZero y_M_writeUpToZero ∈ tT := twp (y := y_M_writeUpToZero) (n := 30) (List.mem_of_getElem? (i := 62) rfl)
theorem tw_63 : Cond.selects "HostBenchModel" y_M_write y_M_write ∈ tT := twp (y := y_M_write) (n := 30) (List.mem_of_getElem? (i := 63) rfl)
theorem tw_64 : Cond.selects "HostBenchModel" y_M_failsWith y_M_failsWith ∈ tT := twp (y := y_M_failsWith) (n := 30) (List.mem_of_getElem? (i := 64) rfl)
theorem tw_65 : Cond.selects "HostBenchModel" y_M_read y_M_read ∈ tT := twp (y := y_M_read) (n := 30) (List.mem_of_getElem? (i := 65) rfl)
theorem tw_66 : Cond.selects "HostBenchModel" y_M_takeIn y_M_takeIn ∈ tT := twp (y := y_M_takeIn) (n := 30) (List.mem_of_getElem? (i := 66) rfl)
theorem tw_67 : Cond.selects "HostBenchModel" y_M_more y_M_more ∈ tT := twp (y := y_M_more) (n := 30) (List.mem_of_getElem? (i := 67) rfl)
theorem tw_68 : Cond.selects "HostBenchModel" y_M_seek y_M_seek ∈ tT := twp (y := y_M_seek) (n := 30) (List.mem_of_getElem? (i := 68) rfl)
theorem tw_69 : Cond.selects "HostBenchModel" y_M_temporary y_M_temporary ∈ tT := twp (y := y_M_temporary) (n := 30) (List.mem_of_getElem? (i := 69) rfl)
theorem tw_70 : Cond.selects "HostBenchModel" y_M_remove y_M_remove ∈ tT := twp (y := y_M_remove) (n := 30) (List.mem_of_getElem? (i := 70) rfl)
theorem tw_71 : Cond.selects "HostBenchModel" y_M_rename y_M_rename ∈ tT := twp (y := y_M_rename) (n := 30) (List.mem_of_getElem? (i := 71) rfl)
theorem tw_72 : Cond.selects "HostBenchModel" y_M_commandTo y_M_commandTo ∈ tT := twp (y := y_M_commandTo) (n := 30) (List.mem_of_getElem? (i := 72) rfl)
theorem tw_73 : Cond.selects "HostBenchModel" y_M_heap y_M_heap ∈ tT := twp (y := y_M_heap) (n := 30) (List.mem_of_getElem? (i := 73) rfl)
theorem tw_74 : Cond.selects "HostBenchModel" y_M_elapsed y_M_elapsed ∈ tT := twp (y := y_M_elapsed) (n := 30) (List.mem_of_getElem? (i := 74) rfl)
theorem tw_75 : Cond.initialized "HostBenchLaw" ∈ tT := tw1 0 rfl rfl
theorem tw_76 : Cond.initialized "HostBench" ∈ tT := tw1 1 rfl rfl
theorem tw_77 : Cond.initialized "HostBench$Bytes" ∈ tT := tw1 2 rfl rfl
theorem tw_78 : Cond.initialized "java/lang/Math" ∈ tT := tw1 3 rfl rfl
theorem tw_79 : Cond.initialized "HostBench$Host" ∈ tT := tw1 4 rfl rfl
theorem tw_80 : Cond.initialized "HostBench$Guest" ∈ tT := tw1 5 rfl rfl
theorem tw_81 : Cond.initialized "HostBench$Memory" ∈ tT := tw1 6 rfl rfl
theorem tw_82 : Cond.initialized "HostBench$Folder" ∈ tT := tw1 7 rfl rfl
theorem tw_83 : Cond.initialized "HostBench$HostFile" ∈ tT := tw1 8 rfl rfl
theorem tw_84 : Cond.initialized "HostBench$Desk" ∈ tT := tw1 9 rfl rfl
theorem tw_85 : Cond.initialized "HostBench$Handle" ∈ tT := tw1 10 rfl rfl
theorem tw_86 : Cond.initialized "HostBench$Output" ∈ tT := tw1 11 rfl rfl
theorem tw_87 : Cond.initialized "HostBenchModel" ∈ tT := tw1 12 rfl rfl
theorem tw_88 : Cond.initialized "java/lang/Throwable" ∈ tT := tw1 13 rfl rfl
theorem tw_89 : Cond.initialized "java/lang/Exception" ∈ tT := tw1 14 rfl rfl
theorem tw_90 : Cond.initialized "java/lang/RuntimeException" ∈ tT := tw1 15 rfl rfl
theorem tw_91 : Cond.initialized "java/lang/IndexOutOfBoundsException" ∈ tT := tw1 16 rfl rfl
theorem tw_92 : Cond.initialized "java/lang/IllegalArgumentException" ∈ tT := tw1 17 rfl rfl
theorem tw_93 : Cond.initialized "java/lang/IllegalStateException" ∈ tT := tw1 18 rfl rfl
theorem tw_94 : Cond.initialized "java/lang/UnsupportedOperationException" ∈ tT := tw1 19 rfl rfl
theorem tw_95 : Cond.initialized "java/util/NoSuchElementException" ∈ tT := tw1 20 rfl rfl
theorem tw_96 : Cond.classLink "HostBenchLaw" 8 "HostBench" ∈ tT := tw1 21 rfl rfl
theorem tw_97 : Cond.instantiable "HostBench" 8 ∈ tT := tw1 22 rfl rfl
theorem tw_98 : Cond.methodLink "HostBenchLaw" 49 y_HB_init ∈ tT := tw1 23 rfl rfl
theorem tw_99 : Cond.instanceMethod y_HB_init ∈ tT := tw1 24 rfl rfl
theorem tw_100 : Cond.code y_HB_init prog_1_method_1_code 1 none ∈ tT := tw1 25 rfl rfl
theorem tw_101 : Cond.methodLink "HostBench" 1 y_Object_init ∈ tT := tw1 26 rfl rfl
theorem tw_102 : Cond.instanceMethod y_Object_init ∈ tT := tw1 27 rfl rfl
theorem tw_103 : Cond.code y_Object_init object_method_1_code 1 none ∈ tT := tw1 28 rfl rfl
theorem tw_104 : Cond.classLink "HostBench" 7 "HostBench$Bytes" ∈ tT := tw1 29 rfl rfl
theorem tw_105 : Cond.instantiable "HostBench$Bytes" 2 ∈ tT := tw1 30 rfl rfl
theorem tw_106 : Cond.methodLink "HostBench" 11 y_Bytes_init ∈ tT := tw1 31 rfl rfl
theorem tw_107 : Cond.instanceMethod y_Bytes_init ∈ tT := tw1 32 rfl rfl
theorem tw_108 : Cond.code y_Bytes_init prog_2_method_1_code 2 none ∈ tT := tw1 33 rfl rfl
theorem tw_109 : Cond.methodLink "HostBench$Bytes" 3 y_Object_init ∈ tT := tw1 34 rfl rfl
theorem tw_110 : Cond.methodLink "HostBench$Bytes" 9 y_Math_max ∈ tT := tw1 35 rfl rfl
theorem tw_111 : Cond.static y_Math_max ∈ tT := tw1 36 rfl rfl
theorem tw_112 : Cond.code y_Math_max prog_17_method_65_code 2 (some FieldType.int) ∈ tT := tw1 37 rfl rfl
theorem tw_113 : Cond.fieldLink "HostBench$Bytes" 15 "HostBench$Bytes" "room" "[B" ∈ tT := tw1 38 rfl rfl
theorem tw_114 : Cond.fieldLink "HostBench$Bytes" 21 "HostBench$Bytes" "size" "I" ∈ tT := tw1 39 rfl rfl
theorem tw_115 : Cond.laysFinal "HostBench$Bytes" "HostBench$Bytes" "room" "[B" ∈ tT := tw1 40 rfl rfl
theorem tw_117 : Cond.lays "HostBench$Bytes" "HostBench$Bytes" "size" "I" ∈ tT := tw1 42 rfl rfl
theorem tw_120 : Cond.arrayClass FieldType.byte ∈ tT := tw1 45 rfl rfl
theorem tw_121 : Cond.classLink "HostBench" 25 "HostBench$Host" ∈ tT := tw1 46 rfl rfl
theorem tw_122 : Cond.instantiable "HostBench$Host" 15 ∈ tT := tw1 47 rfl rfl
theorem tw_123 : Cond.methodLink "HostBench" 27 y_Host_init ∈ tT := tw1 48 rfl rfl
theorem tw_124 : Cond.instanceMethod y_Host_init ∈ tT := tw1 49 rfl rfl
theorem tw_125 : Cond.code y_Host_init prog_7_method_1_code 1 none ∈ tT := tw1 50 rfl rfl
theorem tw_126 : Cond.methodLink "HostBench$Host" 3 y_Object_init ∈ tT := tw1 51 rfl rfl
theorem tw_127 : Cond.classLink "HostBench$Host" 9 "HostBench$Guest" ∈ tT := tw1 52 rfl rfl
theorem tw_128 : Cond.instantiable "HostBench$Guest" 8 ∈ tT := tw1 53 rfl rfl
theorem tw_129 : Cond.methodLink "HostBench$Host" 11 y_Guest_init ∈ tT := tw1 54 rfl rfl
theorem tw_130 : Cond.instanceMethod y_Guest_init ∈ tT := tw1 55 rfl rfl
theorem tw_131 : Cond.code y_Guest_init prog_5_method_1_code 1 none ∈ tT := tw1 56 rfl rfl
theorem tw_132 : Cond.methodLink "HostBench$Guest" 1 y_Object_init ∈ tT := tw1 57 rfl rfl
theorem tw_133 : Cond.classLink "HostBench$Guest" 7 "HostBench$Memory" ∈ tT := tw1 58 rfl rfl
theorem tw_134 : Cond.instantiable "HostBench$Memory" 1 ∈ tT := tw1 59 rfl rfl
theorem tw_135 : Cond.methodLink "HostBench$Guest" 9 y_Memory_init ∈ tT := tw1 60 rfl rfl
theorem tw_136 : Cond.instanceMethod y_Memory_init ∈ tT := tw1 61 rfl rfl
theorem tw_137 : Cond.code y_Memory_init prog_9_method_1_code 1 none ∈ tT := tw1 62 rfl rfl
theorem tw_138 : Cond.methodLink "HostBench$Memory" 3 y_Object_init ∈ tT := tw1 63 rfl rfl
theorem tw_139 : Cond.fieldLink "HostBench$Memory" 11 "HostBench$Memory" "bytes" "[B" ∈ tT := tw1 64 rfl rfl
theorem tw_140 : Cond.laysFinal "HostBench$Memory" "HostBench$Memory" "bytes" "[B" ∈ tT := tw1 65 rfl rfl
theorem tw_143 : Cond.arrayClass FieldType.int ∈ tT := tw1 68 rfl rfl
theorem tw_144 : Cond.fieldLink "HostBench$Guest" 10 "HostBench$Guest" "memory" "LHostBench$Memory;" ∈ tT := tw1 69 rfl rfl
theorem tw_147 : Cond.fieldLink "HostBench$Guest" 16 "HostBench$Guest" "registers" "[I" ∈ tT := tw1 72 rfl rfl
theorem tw_148 : Cond.fieldLink "HostBench$Guest" 20 "HostBench$Guest" "pc" "I" ∈ tT := tw1 73 rfl rfl
theorem tw_150 : Cond.fieldLink "HostBench$Guest" 24 "HostBench$Guest" "next" "I" ∈ tT := tw1 75 rfl rfl
theorem tw_151 : Cond.fieldLink "HostBench$Guest" 27 "HostBench$Guest" "state" "I" ∈ tT := tw1 76 rfl rfl
theorem tw_154 : Cond.fieldLink "HostBench$Guest" 30 "HostBench$Guest" "trap" "I" ∈ tT := tw1 79 rfl rfl
theorem tw_156 : Cond.fieldLink "HostBench$Guest" 33 "HostBench$Guest" "code" "I" ∈ tT := tw1 81 rfl rfl
theorem tw_158 : Cond.fieldLink "HostBench$Guest" 36 "HostBench$Guest" "steps" "J" ∈ tT := tw1 83 rfl rfl
theorem tw_161 : Cond.laysFinal "HostBench$Guest" "HostBench$Guest" "memory" "LHostBench$Memory;" ∈ tT := tw1 86 rfl rfl
theorem tw_163 : Cond.laysFinal "HostBench$Guest" "HostBench$Guest" "registers" "[I" ∈ tT := tw1 88 rfl rfl
theorem tw_165 : Cond.lays "HostBench$Guest" "HostBench$Guest" "pc" "I" ∈ tT := tw1 90 rfl rfl
theorem tw_167 : Cond.lays "HostBench$Guest" "HostBench$Guest" "next" "I" ∈ tT := tw1 92 rfl rfl
theorem tw_169 : Cond.lays "HostBench$Guest" "HostBench$Guest" "state" "I" ∈ tT := tw1 94 rfl rfl
theorem tw_171 : Cond.lays "HostBench$Guest" "HostBench$Guest" "trap" "I" ∈ tT := tw1 96 rfl rfl
theorem tw_173 : Cond.lays "HostBench$Guest" "HostBench$Guest" "code" "I" ∈ tT := tw1 98 rfl rfl
theorem tw_175 : Cond.lays "HostBench$Guest" "HostBench$Guest" "steps" "J" ∈ tT := tw1 100 rfl rfl
theorem tw_178 : Cond.classLink "HostBench$Host" 23 "HostBench$Folder" ∈ tT := tw1 103 rfl rfl
theorem tw_179 : Cond.instantiable "HostBench$Folder" 2 ∈ tT := tw1 104 rfl rfl
theorem tw_180 : Cond.methodLink "HostBench$Host" 25 y_Folder_init ∈ tT := tw1 105 rfl rfl
theorem tw_181 : Cond.instanceMethod y_Folder_init ∈ tT := tw1 106 rfl rfl
theorem tw_182 : Cond.code y_Folder_init prog_4_method_1_code 2 none ∈ tT := tw1 107 rfl rfl
theorem tw_183 : Cond.methodLink "HostBench$Folder" 3 y_Object_init ∈ tT := tw1 108 rfl rfl
theorem tw_184 : Cond.classLink "HostBench$Folder" 11 "HostBench$HostFile" ∈ tT := tw1 109 rfl rfl
theorem tw_186 : Cond.instantiable "HostBench$HostFile" 2 ∈ tT := tw1 111 rfl rfl
theorem tw_187 : Cond.methodLink "HostBench$Folder" 17 y_HostFile_init ∈ tT := tw1 112 rfl rfl
theorem tw_188 : Cond.instanceMethod y_HostFile_init ∈ tT := tw1 113 rfl rfl
theorem tw_189 : Cond.code y_HostFile_init prog_8_method_1_code 1 none ∈ tT := tw1 114 rfl rfl
theorem tw_190 : Cond.methodLink "HostBench$HostFile" 3 y_Object_init ∈ tT := tw1 115 rfl rfl
theorem tw_191 : Cond.classLink "HostBench$HostFile" 9 "HostBench$Bytes" ∈ tT := tw1 116 rfl rfl
theorem tw_192 : Cond.methodLink "HostBench$HostFile" 11 y_Bytes_init ∈ tT := tw1 117 rfl rfl
theorem tw_193 : Cond.fieldLink "HostBench$HostFile" 14 "HostBench$HostFile" "name" "LHostBench$Bytes;" ∈ tT := tw1 118 rfl rfl
theorem tw_197 : Cond.fieldLink "HostBench$HostFile" 20 "HostBench$HostFile" "content" "LHostBench$Bytes;" ∈ tT := tw1 122 rfl rfl
theorem tw_201 : Cond.laysFinal "HostBench$HostFile" "HostBench$HostFile" "name" "LHostBench$Bytes;" ∈ tT := tw1 126 rfl rfl
theorem tw_203 : Cond.laysFinal "HostBench$HostFile" "HostBench$HostFile" "content" "LHostBench$Bytes;" ∈ tT := tw1 128 rfl rfl
theorem tw_206 : Cond.fieldLink "HostBench$Folder" 13 "HostBench$Folder" "files" "[LHostBench$HostFile;" ∈ tT := tw1 131 rfl rfl
theorem tw_207 : Cond.fieldLink "HostBench$Folder" 18 "HostBench$Folder" "count" "I" ∈ tT := tw1 132 rfl rfl
theorem tw_209 : Cond.laysFinal "HostBench$Folder" "HostBench$Folder" "files" "[LHostBench$HostFile;" ∈ tT := tw1 134 rfl rfl
theorem tw_211 : Cond.lays "HostBench$Folder" "HostBench$Folder" "count" "I" ∈ tT := tw1 136 rfl rfl
theorem tw_214 : Cond.classLink "HostBench$Host" 30 "HostBench$Desk" ∈ tT := tw1 139 rfl rfl
theorem tw_215 : Cond.instantiable "HostBench$Desk" 1 ∈ tT := tw1 140 rfl rfl
theorem tw_216 : Cond.methodLink "HostBench$Host" 32 y_Desk_init ∈ tT := tw1 141 rfl rfl
theorem tw_217 : Cond.instanceMethod y_Desk_init ∈ tT := tw1 142 rfl rfl
theorem tw_218 : Cond.code y_Desk_init prog_3_method_1_code 2 none ∈ tT := tw1 143 rfl rfl
theorem tw_219 : Cond.methodLink "HostBench$Desk" 3 y_Object_init ∈ tT := tw1 144 rfl rfl
theorem tw_220 : Cond.classLink "HostBench$Desk" 11 "HostBench$Handle" ∈ tT := tw1 145 rfl rfl
theorem tw_222 : Cond.instantiable "HostBench$Handle" 4 ∈ tT := tw1 147 rfl rfl
theorem tw_223 : Cond.methodLink "HostBench$Desk" 17 y_Handle_init ∈ tT := tw1 148 rfl rfl
theorem tw_224 : Cond.instanceMethod y_Handle_init ∈ tT := tw1 149 rfl rfl
theorem tw_225 : Cond.code y_Handle_init prog_6_method_1_code 1 none ∈ tT := tw1 150 rfl rfl
theorem tw_226 : Cond.methodLink "HostBench$Handle" 1 y_Object_init ∈ tT := tw1 151 rfl rfl
theorem tw_227 : Cond.fieldLink "HostBench$Handle" 9 "HostBench$Handle" "kind" "I" ∈ tT := tw1 152 rfl rfl
theorem tw_231 : Cond.fieldLink "HostBench$Handle" 13 "HostBench$Handle" "file" "LHostBench$HostFile;" ∈ tT := tw1 156 rfl rfl
theorem tw_235 : Cond.fieldLink "HostBench$Handle" 17 "HostBench$Handle" "place" "I" ∈ tT := tw1 160 rfl rfl
theorem tw_238 : Cond.fieldLink "HostBench$Handle" 20 "HostBench$Handle" "rights" "I" ∈ tT := tw1 163 rfl rfl
theorem tw_240 : Cond.lays "HostBench$Handle" "HostBench$Handle" "kind" "I" ∈ tT := tw1 165 rfl rfl
theorem tw_242 : Cond.lays "HostBench$Handle" "HostBench$Handle" "file" "LHostBench$HostFile;" ∈ tT := tw1 167 rfl rfl
theorem tw_244 : Cond.lays "HostBench$Handle" "HostBench$Handle" "place" "I" ∈ tT := tw1 169 rfl rfl
theorem tw_246 : Cond.lays "HostBench$Handle" "HostBench$Handle" "rights" "I" ∈ tT := tw1 171 rfl rfl
theorem tw_249 : Cond.fieldLink "HostBench$Desk" 13 "HostBench$Desk" "handles" "[LHostBench$Handle;" ∈ tT := tw1 174 rfl rfl
theorem tw_250 : Cond.laysFinal "HostBench$Desk" "HostBench$Desk" "handles" "[LHostBench$Handle;" ∈ tT := tw1 175 rfl rfl
theorem tw_253 : Cond.classLink "HostBench$Host" 37 "HostBench$Bytes" ∈ tT := tw1 178 rfl rfl
theorem tw_254 : Cond.methodLink "HostBench$Host" 39 y_Bytes_init ∈ tT := tw1 179 rfl rfl
theorem tw_255 : Cond.classLink "HostBench$Host" 46 "HostBench$Output" ∈ tT := tw1 180 rfl rfl
theorem tw_256 : Cond.instantiable "HostBench$Output" 2 ∈ tT := tw1 181 rfl rfl
theorem tw_257 : Cond.methodLink "HostBench$Host" 48 y_Output_init ∈ tT := tw1 182 rfl rfl
theorem tw_258 : Cond.instanceMethod y_Output_init ∈ tT := tw1 183 rfl rfl
theorem tw_259 : Cond.code y_Output_init prog_10_method_1_code 1 none ∈ tT := tw1 184 rfl rfl
theorem tw_260 : Cond.methodLink "HostBench$Output" 1 y_Object_init ∈ tT := tw1 185 rfl rfl
theorem tw_261 : Cond.classLink "HostBench$Output" 7 "HostBench$Bytes" ∈ tT := tw1 186 rfl rfl
theorem tw_262 : Cond.methodLink "HostBench$Output" 11 y_Bytes_init ∈ tT := tw1 187 rfl rfl
theorem tw_263 : Cond.fieldLink "HostBench$Output" 14 "HostBench$Output" "kept" "LHostBench$Bytes;" ∈ tT := tw1 188 rfl rfl
theorem tw_265 : Cond.fieldLink "HostBench$Output" 18 "HostBench$Output" "total" "I" ∈ tT := tw1 190 rfl rfl
theorem tw_267 : Cond.laysFinal "HostBench$Output" "HostBench$Output" "kept" "LHostBench$Bytes;" ∈ tT := tw1 192 rfl rfl
theorem tw_269 : Cond.lays "HostBench$Output" "HostBench$Output" "total" "I" ∈ tT := tw1 194 rfl rfl
theorem tw_272 : Cond.fieldLink "HostBench$Host" 12 "HostBench$Host" "guest" "LHostBench$Guest;" ∈ tT := tw1 197 rfl rfl
theorem tw_274 : Cond.fieldLink "HostBench$Host" 22 "HostBench$Host" "memory" "LHostBench$Memory;" ∈ tT := tw1 199 rfl rfl
theorem tw_275 : Cond.fieldLink "HostBench$Host" 26 "HostBench$Host" "folder" "LHostBench$Folder;" ∈ tT := tw1 200 rfl rfl
theorem tw_277 : Cond.fieldLink "HostBench$Host" 33 "HostBench$Host" "desk" "LHostBench$Desk;" ∈ tT := tw1 202 rfl rfl
theorem tw_279 : Cond.fieldLink "HostBench$Host" 42 "HostBench$Host" "input" "LHostBench$Bytes;" ∈ tT := tw1 204 rfl rfl
theorem tw_281 : Cond.fieldLink "HostBench$Host" 49 "HostBench$Host" "out" "LHostBench$Output;" ∈ tT := tw1 206 rfl rfl
theorem tw_283 : Cond.fieldLink "HostBench$Host" 53 "HostBench$Host" "err" "LHostBench$Output;" ∈ tT := tw1 208 rfl rfl
theorem tw_285 : Cond.fieldLink "HostBench$Host" 56 "HostBench$Host" "command" "LHostBench$Bytes;" ∈ tT := tw1 210 rfl rfl
theorem tw_287 : Cond.fieldLink "HostBench$Host" 59 "HostBench$Host" "firstName" "LHostBench$Bytes;" ∈ tT := tw1 212 rfl rfl
theorem tw_288 : Cond.fieldLink "HostBench$Host" 62 "HostBench$Host" "secondName" "LHostBench$Bytes;" ∈ tT := tw1 213 rfl rfl
theorem tw_289 : Cond.fieldLink "HostBench$Host" 65 "HostBench$Host" "block" "I" ∈ tT := tw1 214 rfl rfl
theorem tw_290 : Cond.fieldLink "HostBench$Host" 69 "HostBench$Host" "errno" "I" ∈ tT := tw1 215 rfl rfl
theorem tw_292 : Cond.fieldLink "HostBench$Host" 72 "HostBench$Host" "seconds" "I" ∈ tT := tw1 217 rfl rfl
theorem tw_294 : Cond.fieldLink "HostBench$Host" 75 "HostBench$Host" "calls" "I" ∈ tT := tw1 219 rfl rfl
theorem tw_296 : Cond.fieldLink "HostBench$Host" 78 "HostBench$Host" "latest" "I" ∈ tT := tw1 221 rfl rfl
theorem tw_298 : Cond.laysFinal "HostBench$Host" "HostBench$Host" "guest" "LHostBench$Guest;" ∈ tT := tw1 223 rfl rfl
theorem tw_300 : Cond.laysFinal "HostBench$Host" "HostBench$Host" "memory" "LHostBench$Memory;" ∈ tT := tw1 225 rfl rfl
theorem tw_302 : Cond.laysFinal "HostBench$Host" "HostBench$Host" "folder" "LHostBench$Folder;" ∈ tT := tw1 227 rfl rfl
theorem tw_304 : Cond.laysFinal "HostBench$Host" "HostBench$Host" "desk" "LHostBench$Desk;" ∈ tT := tw1 229 rfl rfl
theorem tw_306 : Cond.laysFinal "HostBench$Host" "HostBench$Host" "input" "LHostBench$Bytes;" ∈ tT := tw1 231 rfl rfl
theorem tw_308 : Cond.laysFinal "HostBench$Host" "HostBench$Host" "out" "LHostBench$Output;" ∈ tT := tw1 233 rfl rfl
theorem tw_310 : Cond.laysFinal "HostBench$Host" "HostBench$Host" "err" "LHostBench$Output;" ∈ tT := tw1 235 rfl rfl
theorem tw_312 : Cond.laysFinal "HostBench$Host" "HostBench$Host" "command" "LHostBench$Bytes;" ∈ tT := tw1 237 rfl rfl
theorem tw_314 : Cond.laysFinal "HostBench$Host" "HostBench$Host" "firstName" "LHostBench$Bytes;" ∈ tT := tw1 239 rfl rfl
theorem tw_316 : Cond.laysFinal "HostBench$Host" "HostBench$Host" "secondName" "LHostBench$Bytes;" ∈ tT := tw2 1 rfl rfl
theorem tw_318 : Cond.lays "HostBench$Host" "HostBench$Host" "block" "I" ∈ tT := tw2 3 rfl rfl
theorem tw_320 : Cond.lays "HostBench$Host" "HostBench$Host" "errno" "I" ∈ tT := tw2 5 rfl rfl
theorem tw_322 : Cond.lays "HostBench$Host" "HostBench$Host" "seconds" "I" ∈ tT := tw2 7 rfl rfl
theorem tw_324 : Cond.lays "HostBench$Host" "HostBench$Host" "calls" "I" ∈ tT := tw2 9 rfl rfl
theorem tw_326 : Cond.lays "HostBench$Host" "HostBench$Host" "latest" "I" ∈ tT := tw2 11 rfl rfl
theorem tw_329 : Cond.fieldLink "HostBench" 14 "HostBench" "tape" "LHostBench$Bytes;" ∈ tT := tw2 14 rfl rfl
theorem tw_330 : Cond.fieldLink "HostBench" 18 "HostBench" "laidName" "LHostBench$Bytes;" ∈ tT := tw2 15 rfl rfl
theorem tw_331 : Cond.fieldLink "HostBench" 21 "HostBench" "fed" "[I" ∈ tT := tw2 16 rfl rfl
theorem tw_332 : Cond.fieldLink "HostBench" 28 "HostBench" "host" "LHostBench$Host;" ∈ tT := tw2 17 rfl rfl
theorem tw_333 : Cond.fieldLink "HostBench" 36 "HostBench" "folder" "LHostBench$Folder;" ∈ tT := tw2 18 rfl rfl
theorem tw_334 : Cond.fieldLink "HostBench" 41 "HostBench" "desk" "LHostBench$Desk;" ∈ tT := tw2 19 rfl rfl
theorem tw_335 : Cond.fieldLink "HostBench" 46 "HostBench" "guest" "LHostBench$Guest;" ∈ tT := tw2 20 rfl rfl
theorem tw_336 : Cond.fieldLink "HostBench" 53 "HostBench" "memory" "LHostBench$Memory;" ∈ tT := tw2 21 rfl rfl
theorem tw_337 : Cond.laysFinal "HostBench" "HostBench" "tape" "LHostBench$Bytes;" ∈ tT := tw2 22 rfl rfl
theorem tw_339 : Cond.laysFinal "HostBench" "HostBench" "laidName" "LHostBench$Bytes;" ∈ tT := tw2 24 rfl rfl
theorem tw_341 : Cond.laysFinal "HostBench" "HostBench" "fed" "[I" ∈ tT := tw2 26 rfl rfl
theorem tw_343 : Cond.laysFinal "HostBench" "HostBench" "host" "LHostBench$Host;" ∈ tT := tw2 28 rfl rfl
theorem tw_345 : Cond.laysFinal "HostBench" "HostBench" "folder" "LHostBench$Folder;" ∈ tT := tw2 30 rfl rfl
theorem tw_347 : Cond.laysFinal "HostBench" "HostBench" "desk" "LHostBench$Desk;" ∈ tT := tw2 32 rfl rfl
theorem tw_349 : Cond.laysFinal "HostBench" "HostBench" "guest" "LHostBench$Guest;" ∈ tT := tw2 34 rfl rfl
theorem tw_351 : Cond.laysFinal "HostBench" "HostBench" "memory" "LHostBench$Memory;" ∈ tT := tw2 36 rfl rfl
theorem tw_354 : Cond.methodLink "HostBenchLaw" 53 y_HB_feed ∈ tT := tw2 39 rfl rfl
theorem tw_355 : Cond.instanceMethod y_HB_feed ∈ tT := tw2 40 rfl rfl
theorem tw_356 : Cond.selects "HostBench" y_HB_feed y_HB_feed ∈ tT := tw2 41 rfl rfl
theorem tw_357 : Cond.code y_HB_feed prog_1_method_2_code 8 (some FieldType.int) ∈ tT := tw2 42 rfl rfl
theorem tw_358 : Cond.methodLink "HostBench" 54 y_Bytes_spare ∈ tT := tw2 43 rfl rfl
theorem tw_359 : Cond.instanceMethod y_Bytes_spare ∈ tT := tw2 44 rfl rfl
theorem tw_360 : Cond.selects "HostBench$Bytes" y_Bytes_spare y_Bytes_spare ∈ tT := tw2 45 rfl rfl
theorem tw_361 : Cond.code y_Bytes_spare prog_2_method_3_code 1 (some FieldType.int) ∈ tT := tw2 46 rfl rfl
theorem tw_362 : Cond.methodLink "HostBench" 58 y_Bytes_add ∈ tT := tw2 47 rfl rfl
theorem tw_363 : Cond.instanceMethod y_Bytes_add ∈ tT := tw2 48 rfl rfl
theorem tw_364 : Cond.selects "HostBench$Bytes" y_Bytes_add y_Bytes_add ∈ tT := tw2 49 rfl rfl
theorem tw_365 : Cond.code y_Bytes_add prog_2_method_5_code 2 none ∈ tT := tw2 50 rfl rfl
theorem tw_366 : Cond.methodLink "HostBench" 61 y_Bytes_size ∈ tT := tw2 51 rfl rfl
theorem tw_367 : Cond.instanceMethod y_Bytes_size ∈ tT := tw2 52 rfl rfl
theorem tw_368 : Cond.selects "HostBench$Bytes" y_Bytes_size y_Bytes_size ∈ tT := tw2 53 rfl rfl
theorem tw_369 : Cond.code y_Bytes_size prog_2_method_2_code 1 (some FieldType.int) ∈ tT := tw2 54 rfl rfl
theorem tw_370 : Cond.methodLink "HostBenchLaw" 58 y_HB_end ∈ tT := tw2 55 rfl rfl
theorem tw_371 : Cond.instanceMethod y_HB_end ∈ tT := tw2 56 rfl rfl
theorem tw_372 : Cond.selects "HostBench" y_HB_end y_HB_end ∈ tT := tw2 57 rfl rfl
theorem tw_373 : Cond.code y_HB_end prog_1_method_3_code 2 (some FieldType.boolean) ∈ tT := tw2 58 rfl rfl
theorem tw_374 : Cond.methodLink "HostBench" 64 y_Bytes_cut ∈ tT := tw2 59 rfl rfl
theorem tw_375 : Cond.instanceMethod y_Bytes_cut ∈ tT := tw2 60 rfl rfl
theorem tw_376 : Cond.selects "HostBench$Bytes" y_Bytes_cut y_Bytes_cut ∈ tT := tw2 61 rfl rfl
theorem tw_377 : Cond.code y_Bytes_cut prog_2_method_7_code 2 none ∈ tT := tw2 62 rfl rfl
theorem tw_378 : Cond.methodLink "HostBenchLaw" 82 y_HB_clock ∈ tT := tw2 63 rfl rfl
theorem tw_379 : Cond.instanceMethod y_HB_clock ∈ tT := tw2 64 rfl rfl
theorem tw_380 : Cond.selects "HostBench" y_HB_clock y_HB_clock ∈ tT := tw2 65 rfl rfl
theorem tw_381 : Cond.code y_HB_clock prog_1_method_8_code 2 none ∈ tT := tw2 66 rfl rfl
theorem tw_382 : Cond.methodLink "HostBenchLaw" 87 y_HB_begin ∈ tT := tw2 67 rfl rfl
theorem tw_383 : Cond.instanceMethod y_HB_begin ∈ tT := tw2 68 rfl rfl
theorem tw_384 : Cond.selects "HostBench" y_HB_begin y_HB_begin ∈ tT := tw2 69 rfl rfl
theorem tw_385 : Cond.code y_HB_begin prog_1_method_9_code 1 none ∈ tT := tw2 70 rfl rfl
theorem tw_386 : Cond.methodLink "HostBench" 144 y_Guest_restart ∈ tT := tw2 71 rfl rfl
theorem tw_387 : Cond.instanceMethod y_Guest_restart ∈ tT := tw2 72 rfl rfl
theorem tw_388 : Cond.selects "HostBench$Guest" y_Guest_restart y_Guest_restart ∈ tT := tw2 73 rfl rfl
theorem tw_389 : Cond.code y_Guest_restart prog_5_method_2_code 2 none ∈ tT := tw2 74 rfl rfl
theorem tw_390 : Cond.methodLink "HostBenchLaw" 94 y_HB_state ∈ tT := tw2 75 rfl rfl
theorem tw_391 : Cond.instanceMethod y_HB_state ∈ tT := tw2 76 rfl rfl
theorem tw_392 : Cond.selects "HostBench" y_HB_state y_HB_state ∈ tT := tw2 77 rfl rfl
theorem tw_393 : Cond.code y_HB_state prog_1_method_11_code 1 (some FieldType.int) ∈ tT := tw2 78 rfl rfl
theorem tw_394 : Cond.methodLink "HostBenchLaw" 104 y_HB_set ∈ tT := tw2 79 rfl rfl
theorem tw_395 : Cond.instanceMethod y_HB_set ∈ tT := tw2 80 rfl rfl
theorem tw_396 : Cond.selects "HostBench" y_HB_set y_HB_set ∈ tT := tw2 81 rfl rfl
theorem tw_397 : Cond.code y_HB_set prog_1_method_14_code 3 (some FieldType.boolean) ∈ tT := tw2 82 rfl rfl
theorem tw_398 : Cond.methodLink "HostBench" 191 y_Guest_assign ∈ tT := tw2 83 rfl rfl
theorem tw_399 : Cond.instanceMethod y_Guest_assign ∈ tT := tw2 84 rfl rfl
theorem tw_400 : Cond.selects "HostBench$Guest" y_Guest_assign y_Guest_assign ∈ tT := tw2 85 rfl rfl
theorem tw_401 : Cond.code y_Guest_assign prog_5_method_4_code 3 none ∈ tT := tw2 86 rfl rfl
theorem tw_402 : Cond.methodLink "HostBenchLaw" 109 y_HB_peek ∈ tT := tw2 87 rfl rfl
theorem tw_403 : Cond.instanceMethod y_HB_peek ∈ tT := tw2 88 rfl rfl
theorem tw_404 : Cond.selects "HostBench" y_HB_peek y_HB_peek ∈ tT := tw2 89 rfl rfl
theorem tw_405 : Cond.code y_HB_peek prog_1_method_15_code 2 (some FieldType.int) ∈ tT := tw2 90 rfl rfl
theorem tw_406 : Cond.methodLink "HostBench" 194 y_Memory_byteAt ∈ tT := tw2 91 rfl rfl
theorem tw_407 : Cond.instanceMethod y_Memory_byteAt ∈ tT := tw2 92 rfl rfl
theorem tw_408 : Cond.selects "HostBench$Memory" y_Memory_byteAt y_Memory_byteAt ∈ tT := tw2 93 rfl rfl
theorem tw_409 : Cond.code y_Memory_byteAt prog_9_method_3_code 2 (some FieldType.int) ∈ tT := tw2 94 rfl rfl
theorem tw_410 : Cond.methodLink "HostBenchLaw" 113 y_HB_files ∈ tT := tw2 95 rfl rfl
theorem tw_411 : Cond.instanceMethod y_HB_files ∈ tT := tw2 96 rfl rfl
theorem tw_412 : Cond.selects "HostBench" y_HB_files y_HB_files ∈ tT := tw2 97 rfl rfl
theorem tw_413 : Cond.code y_HB_files prog_1_method_16_code 1 (some FieldType.int) ∈ tT := tw2 98 rfl rfl
theorem tw_414 : Cond.methodLink "HostBenchLaw" 121 y_HB_fileByte ∈ tT := tw2 99 rfl rfl
theorem tw_415 : Cond.instanceMethod y_HB_fileByte ∈ tT := tw2 100 rfl rfl
theorem tw_416 : Cond.selects "HostBench" y_HB_fileByte y_HB_fileByte ∈ tT := tw2 101 rfl rfl
theorem tw_417 : Cond.code y_HB_fileByte prog_1_method_18_code 5 (some FieldType.int) ∈ tT := tw2 102 rfl rfl
theorem tw_418 : Cond.methodLink "HostBench" 200 y_Folder_get ∈ tT := tw2 103 rfl rfl
theorem tw_419 : Cond.instanceMethod y_Folder_get ∈ tT := tw2 104 rfl rfl
theorem tw_420 : Cond.selects "HostBench$Folder" y_Folder_get y_Folder_get ∈ tT := tw2 105 rfl rfl
theorem tw_421 : Cond.code y_Folder_get prog_4_method_2_code 2 (some (FieldType.object "HostBench$HostFile")) ∈ tT := tw2 106 rfl rfl
theorem tw_422 : Cond.methodLink "HostBench" 80 y_Bytes_at ∈ tT := tw2 107 rfl rfl
theorem tw_423 : Cond.instanceMethod y_Bytes_at ∈ tT := tw2 108 rfl rfl
theorem tw_424 : Cond.selects "HostBench$Bytes" y_Bytes_at y_Bytes_at ∈ tT := tw2 109 rfl rfl
theorem tw_425 : Cond.code y_Bytes_at prog_2_method_4_code 2 (some FieldType.int) ∈ tT := tw2 110 rfl rfl
theorem tw_426 : Cond.methodLink "HostBenchLaw" 129 y_HB_printed ∈ tT := tw2 111 rfl rfl
theorem tw_427 : Cond.instanceMethod y_HB_printed ∈ tT := tw2 112 rfl rfl
theorem tw_428 : Cond.selects "HostBench" y_HB_printed y_HB_printed ∈ tT := tw2 113 rfl rfl
theorem tw_429 : Cond.code y_HB_printed prog_1_method_20_code 2 (some FieldType.int) ∈ tT := tw2 114 rfl rfl
theorem tw_430 : Cond.methodLink "HostBenchLaw" 133 y_HB_print ∈ tT := tw2 115 rfl rfl
theorem tw_431 : Cond.instanceMethod y_HB_print ∈ tT := tw2 116 rfl rfl
theorem tw_432 : Cond.selects "HostBench" y_HB_print y_HB_print ∈ tT := tw2 117 rfl rfl
theorem tw_433 : Cond.code y_HB_print prog_1_method_21_code 3 (some FieldType.int) ∈ tT := tw2 118 rfl rfl
theorem tw_434 : Cond.methodLink "HostBenchLaw" 63 y_L_put ∈ tT := tw2 119 rfl rfl
theorem tw_435 : Cond.static y_L_put ∈ tT := tw2 120 rfl rfl
theorem tw_436 : Cond.codeWith y_L_put method_3_code 4 (some FieldType.int) [((0 : Nat), (9 : Nat), (12 : Nat), (13 : Nat))] ∈ tT := tw2 121 rfl rfl
theorem tw_437 : Cond.classLink "HostBenchLaw" 13 "java/lang/IndexOutOfBoundsException" ∈ tT := tw2 122 rfl rfl
theorem tw_438 : Cond.methodLink "HostBenchLaw" 7 y_HB_put ∈ tT := tw2 123 rfl rfl
theorem tw_439 : Cond.instanceMethod y_HB_put ∈ tT := tw2 124 rfl rfl
theorem tw_440 : Cond.selects "HostBench" y_HB_put y_HB_put ∈ tT := tw2 125 rfl rfl
theorem tw_441 : Cond.code y_HB_put prog_1_method_4_code 4 (some FieldType.int) ∈ tT := tw2 126 rfl rfl
theorem tw_442 : Cond.methodLink "HostBench" 67 y_Memory_hasArea ∈ tT := tw2 127 rfl rfl
theorem tw_443 : Cond.instanceMethod y_Memory_hasArea ∈ tT := tw2 128 rfl rfl
theorem tw_444 : Cond.selects "HostBench$Memory" y_Memory_hasArea y_Memory_hasArea ∈ tT := tw2 129 rfl rfl
theorem tw_445 : Cond.code y_Memory_hasArea prog_9_method_2_code 3 (some FieldType.boolean) ∈ tT := tw2 130 rfl rfl
theorem tw_446 : Cond.constantLong "HostBench$Memory" 15 (4294967295 : Int64) ∈ tT := tw2 131 rfl rfl
theorem tw_447 : Cond.constantLong "HostBench$Memory" 17 (16384 : Int64) ∈ tT := tw2 132 rfl rfl
theorem tw_448 : Cond.classLink "HostBench" 73 "java/lang/IndexOutOfBoundsException" ∈ tT := tw2 133 rfl rfl
theorem tw_449 : Cond.instantiable "java/lang/IndexOutOfBoundsException" 6 ∈ tT := tw2 134 rfl rfl
theorem tw_457 : Cond.selects "java/lang/IndexOutOfBoundsException" y_Throwable_fillInStackTrace y_Throwable_fillInStackTrace ∈ tT := tw2 142 rfl rfl
theorem tw_458 : Cond.selects "java/lang/IndexOutOfBoundsException" y_Throwable_fillInStackTrace2 y_Throwable_fillInStackTrace2 ∈ tT := tw2 143 rfl rfl
theorem tw_459 : Cond.lays "java/lang/IndexOutOfBoundsException" "java/lang/Throwable" "cause" "Ljava/lang/Throwable;" ∈ tT := tw2 144 rfl rfl
theorem tw_460 : Cond.lays "java/lang/Throwable" "java/lang/Throwable" "cause" "Ljava/lang/Throwable;" ∈ tT := tw2 145 rfl rfl
theorem tw_461 : Cond.lays "java/lang/IndexOutOfBoundsException" "java/lang/Throwable" "stackTrace" "[Ljava/lang/StackTraceElement;" ∈ tT := tw2 146 rfl rfl
theorem tw_462 : Cond.lays "java/lang/Throwable" "java/lang/Throwable" "stackTrace" "[Ljava/lang/StackTraceElement;" ∈ tT := tw2 147 rfl rfl
theorem tw_463 : Cond.lays "java/lang/IndexOutOfBoundsException" "java/lang/Throwable" "suppressedExceptions" "Ljava/util/List;" ∈ tT := tw2 148 rfl rfl
theorem tw_464 : Cond.lays "java/lang/Throwable" "java/lang/Throwable" "suppressedExceptions" "Ljava/util/List;" ∈ tT := tw2 149 rfl rfl
theorem tw_465 : Cond.lays "java/lang/IndexOutOfBoundsException" "java/lang/Throwable" "detailMessage" "Ljava/lang/String;" ∈ tT := tw2 150 rfl rfl
theorem tw_466 : Cond.lays "java/lang/Throwable" "java/lang/Throwable" "detailMessage" "Ljava/lang/String;" ∈ tT := tw2 151 rfl rfl
theorem tw_467 : Cond.lays "java/lang/IndexOutOfBoundsException" "java/lang/Throwable" "backtrace" "Ljava/lang/Object;" ∈ tT := tw2 152 rfl rfl
theorem tw_468 : Cond.lays "java/lang/Throwable" "java/lang/Throwable" "backtrace" "Ljava/lang/Object;" ∈ tT := tw2 153 rfl rfl
theorem tw_469 : Cond.fieldLink "java/lang/Throwable" 198 "java/lang/Throwable" "backtrace" "Ljava/lang/Object;" ∈ tT := tw2 154 rfl rfl
theorem tw_471 : Cond.instanceMethod y_Throwable_init ∈ tT := tw2 156 rfl rfl
theorem tw_472 : Cond.code y_Throwable_init prog_20_method_1_code 1 none ∈ tT := tw2 157 rfl rfl
theorem tw_473 : Cond.methodLink "java/lang/Throwable" 1 y_Object_init ∈ tT := tw2 158 rfl rfl
theorem tw_474 : Cond.fieldLink "java/lang/Throwable" 13 "java/lang/Throwable" "UNASSIGNED_STACK" "[Ljava/lang/StackTraceElement;" ∈ tT := tw2 159 rfl rfl
theorem tw_476 : Cond.fieldLink "java/lang/Throwable" 20 "java/lang/Throwable" "SUPPRESSED_SENTINEL" "Ljava/util/List;" ∈ tT := tw2 161 rfl rfl
theorem tw_478 : Cond.methodLink "java/lang/Throwable" 27 y_Throwable_fillInStackTrace2 ∈ tT := tw2 163 rfl rfl
theorem tw_479 : Cond.instanceMethod y_Throwable_fillInStackTrace2 ∈ tT := tw2 164 rfl rfl
theorem tw_481 : Cond.selects "java/lang/IllegalArgumentException" y_Throwable_fillInStackTrace2 y_Throwable_fillInStackTrace2 ∈ tT := tw2 166 rfl rfl
theorem tw_482 : Cond.selects "java/lang/IllegalStateException" y_Throwable_fillInStackTrace2 y_Throwable_fillInStackTrace2 ∈ tT := tw2 167 rfl rfl
theorem tw_483 : Cond.selects "java/lang/UnsupportedOperationException" y_Throwable_fillInStackTrace2 y_Throwable_fillInStackTrace2 ∈ tT := tw2 168 rfl rfl
theorem tw_484 : Cond.selects "java/util/NoSuchElementException" y_Throwable_fillInStackTrace2 y_Throwable_fillInStackTrace2 ∈ tT := tw2 169 rfl rfl
theorem tw_486 : Cond.methodLink "java/lang/Throwable" 202 y_Throwable_fillInStackTrace ∈ tT := tw2 171 rfl rfl
theorem tw_488 : Cond.instanceMethod y_Throwable_fillInStackTrace ∈ tT := tw2 173 rfl rfl
theorem tw_489 : Cond.instantiable "java/lang/Throwable" 6 ∈ tT := tw2 174 rfl rfl
theorem tw_492 : Cond.methodLink "HostBench" 77 y_IndexOutOfBoundsException_init ∈ tT := tw2 177 rfl rfl
theorem tw_493 : Cond.instanceMethod y_IndexOutOfBoundsException_init ∈ tT := tw2 178 rfl rfl
theorem tw_494 : Cond.code y_IndexOutOfBoundsException_init prog_16_method_2_code 2 none ∈ tT := tw2 179 rfl rfl
theorem tw_495 : Cond.methodLink "java/lang/IndexOutOfBoundsException" 7 y_RuntimeException_init2 ∈ tT := tw2 180 rfl rfl
theorem tw_496 : Cond.instanceMethod y_RuntimeException_init2 ∈ tT := tw2 181 rfl rfl
theorem tw_497 : Cond.code y_RuntimeException_init2 prog_18_method_2_code 2 none ∈ tT := tw2 182 rfl rfl
theorem tw_498 : Cond.methodLink "java/lang/RuntimeException" 7 y_Exception_init2 ∈ tT := tw2 183 rfl rfl
theorem tw_499 : Cond.instanceMethod y_Exception_init2 ∈ tT := tw2 184 rfl rfl
theorem tw_500 : Cond.code y_Exception_init2 prog_13_method_2_code 2 none ∈ tT := tw2 185 rfl rfl
theorem tw_501 : Cond.methodLink "java/lang/Exception" 7 y_Throwable_init2 ∈ tT := tw2 186 rfl rfl
theorem tw_502 : Cond.instanceMethod y_Throwable_init2 ∈ tT := tw2 187 rfl rfl
theorem tw_503 : Cond.code y_Throwable_init2 prog_20_method_2_code 2 none ∈ tT := tw2 188 rfl rfl
theorem tw_505 : Cond.fieldLink "java/lang/Throwable" 31 "java/lang/Throwable" "detailMessage" "Ljava/lang/String;" ∈ tT := tw2 190 rfl rfl
theorem tw_506 : Cond.fieldLink "java/lang/Throwable" 7 "java/lang/Throwable" "cause" "Ljava/lang/Throwable;" ∈ tT := tw2 191 rfl rfl
theorem tw_507 : Cond.fieldLink "java/lang/Throwable" 17 "java/lang/Throwable" "stackTrace" "[Ljava/lang/StackTraceElement;" ∈ tT := tw2 192 rfl rfl
theorem tw_508 : Cond.fieldLink "java/lang/Throwable" 24 "java/lang/Throwable" "suppressedExceptions" "Ljava/util/List;" ∈ tT := tw2 193 rfl rfl
theorem tw_513 : Cond.lays "java/lang/IndexOutOfBoundsException" "java/lang/Throwable" "depth" "I" ∈ tT := tw2 198 rfl rfl
theorem tw_517 : Cond.methodLink "HostBench" 84 y_Memory_storeByte ∈ tT := tw2 202 rfl rfl
theorem tw_518 : Cond.instanceMethod y_Memory_storeByte ∈ tT := tw2 203 rfl rfl
theorem tw_519 : Cond.selects "HostBench$Memory" y_Memory_storeByte y_Memory_storeByte ∈ tT := tw2 204 rfl rfl
theorem tw_520 : Cond.code y_Memory_storeByte prog_9_method_4_code 3 none ∈ tT := tw2 205 rfl rfl
theorem tw_521 : Cond.methodLink "HostBenchLaw" 72 y_L_lay ∈ tT := tw2 206 rfl rfl
theorem tw_522 : Cond.static y_L_lay ∈ tT := tw2 207 rfl rfl
theorem tw_523 : Cond.codeWith y_L_lay method_4_code 3 (some FieldType.int) [((0 : Nat), (8 : Nat), (11 : Nat), (19 : Nat)), ((0 : Nat), (8 : Nat), (14 : Nat), (21 : Nat)), ((0 : Nat), (8 : Nat), (17 : Nat), (23 : Nat))] ∈ tT := tw2 208 rfl rfl
theorem tw_524 : Cond.classLink "HostBenchLaw" 19 "java/lang/IllegalArgumentException" ∈ tT := tw2 209 rfl rfl
theorem tw_525 : Cond.classLink "HostBenchLaw" 21 "java/lang/IllegalStateException" ∈ tT := tw2 210 rfl rfl
theorem tw_526 : Cond.classLink "HostBenchLaw" 23 "java/lang/UnsupportedOperationException" ∈ tT := tw2 211 rfl rfl
theorem tw_527 : Cond.methodLink "HostBenchLaw" 15 y_HB_lay ∈ tT := tw2 212 rfl rfl
theorem tw_528 : Cond.instanceMethod y_HB_lay ∈ tT := tw2 213 rfl rfl
theorem tw_529 : Cond.selects "HostBench" y_HB_lay y_HB_lay ∈ tT := tw2 214 rfl rfl
theorem tw_530 : Cond.code y_HB_lay prog_1_method_5_code 4 (some FieldType.int) ∈ tT := tw2 215 rfl rfl
theorem tw_531 : Cond.methodLink "HostBench" 88 y_Bytes_firstZero ∈ tT := tw2 216 rfl rfl
theorem tw_532 : Cond.instanceMethod y_Bytes_firstZero ∈ tT := tw2 217 rfl rfl
theorem tw_533 : Cond.selects "HostBench$Bytes" y_Bytes_firstZero y_Bytes_firstZero ∈ tT := tw2 218 rfl rfl
theorem tw_534 : Cond.code y_Bytes_firstZero prog_2_method_10_code 2 (some FieldType.int) ∈ tT := tw2 219 rfl rfl
theorem tw_535 : Cond.classLink "HostBench" 91 "java/lang/IllegalArgumentException" ∈ tT := tw2 220 rfl rfl
theorem tw_536 : Cond.instantiable "java/lang/IllegalArgumentException" 6 ∈ tT := tw2 221 rfl rfl
theorem tw_538 : Cond.selects "java/lang/IllegalArgumentException" y_Throwable_fillInStackTrace y_Throwable_fillInStackTrace ∈ tT := tw2 223 rfl rfl
theorem tw_539 : Cond.lays "java/lang/IllegalArgumentException" "java/lang/Throwable" "cause" "Ljava/lang/Throwable;" ∈ tT := tw2 224 rfl rfl
theorem tw_540 : Cond.lays "java/lang/IllegalArgumentException" "java/lang/Throwable" "stackTrace" "[Ljava/lang/StackTraceElement;" ∈ tT := tw2 225 rfl rfl
theorem tw_541 : Cond.lays "java/lang/IllegalArgumentException" "java/lang/Throwable" "suppressedExceptions" "Ljava/util/List;" ∈ tT := tw2 226 rfl rfl
theorem tw_542 : Cond.lays "java/lang/IllegalArgumentException" "java/lang/Throwable" "detailMessage" "Ljava/lang/String;" ∈ tT := tw2 227 rfl rfl
theorem tw_543 : Cond.lays "java/lang/IllegalArgumentException" "java/lang/Throwable" "backtrace" "Ljava/lang/Object;" ∈ tT := tw2 228 rfl rfl
theorem tw_545 : Cond.methodLink "HostBench" 95 y_IllegalArgumentException_init ∈ tT := tw2 230 rfl rfl
theorem tw_546 : Cond.instanceMethod y_IllegalArgumentException_init ∈ tT := tw2 231 rfl rfl
theorem tw_547 : Cond.code y_IllegalArgumentException_init prog_14_method_2_code 2 none ∈ tT := tw2 232 rfl rfl
theorem tw_548 : Cond.methodLink "java/lang/IllegalArgumentException" 7 y_RuntimeException_init2 ∈ tT := tw2 233 rfl rfl
theorem tw_549 : Cond.lays "java/lang/IllegalArgumentException" "java/lang/Throwable" "depth" "I" ∈ tT := tw2 234 rfl rfl
theorem tw_551 : Cond.methodLink "HostBench" 96 y_Bytes_append ∈ tT := tw2 236 rfl rfl
theorem tw_552 : Cond.instanceMethod y_Bytes_append ∈ tT := tw2 237 rfl rfl
theorem tw_553 : Cond.selects "HostBench$Bytes" y_Bytes_append y_Bytes_append ∈ tT := tw2 238 rfl rfl
theorem tw_554 : Cond.code y_Bytes_append prog_2_method_8_code 7 none ∈ tT := tw2 239 rfl rfl
theorem tw_555 : Cond.methodLink "HostBench$Bytes" 25 y_Math_min ∈ tT := tw3 0 rfl rfl
theorem tw_556 : Cond.static y_Math_min ∈ tT := tw3 1 rfl rfl
theorem tw_557 : Cond.code y_Math_min prog_17_method_69_code 2 (some FieldType.int) ∈ tT := tw3 2 rfl rfl
theorem tw_558 : Cond.methodLink "HostBench" 100 y_Folder_find ∈ tT := tw3 3 rfl rfl
theorem tw_559 : Cond.instanceMethod y_Folder_find ∈ tT := tw3 4 rfl rfl
theorem tw_560 : Cond.selects "HostBench$Folder" y_Folder_find y_Folder_find ∈ tT := tw3 5 rfl rfl
theorem tw_561 : Cond.code y_Folder_find prog_4_method_3_code 3 (some (FieldType.object "HostBench$HostFile")) ∈ tT := tw3 6 rfl rfl
theorem tw_562 : Cond.methodLink "HostBench$Folder" 26 y_Bytes_same ∈ tT := tw3 7 rfl rfl
theorem tw_563 : Cond.instanceMethod y_Bytes_same ∈ tT := tw3 8 rfl rfl
theorem tw_564 : Cond.selects "HostBench$Bytes" y_Bytes_same y_Bytes_same ∈ tT := tw3 9 rfl rfl
theorem tw_565 : Cond.code y_Bytes_same prog_2_method_11_code 3 (some FieldType.boolean) ∈ tT := tw3 10 rfl rfl
theorem tw_566 : Cond.methodLink "HostBench" 106 y_Desk_openOn ∈ tT := tw3 11 rfl rfl
theorem tw_567 : Cond.instanceMethod y_Desk_openOn ∈ tT := tw3 12 rfl rfl
theorem tw_568 : Cond.selects "HostBench$Desk" y_Desk_openOn y_Desk_openOn ∈ tT := tw3 13 rfl rfl
theorem tw_569 : Cond.code y_Desk_openOn prog_3_method_5_code 4 (some FieldType.int) ∈ tT := tw3 14 rfl rfl
theorem tw_570 : Cond.classLink "HostBench" 112 "java/lang/IllegalStateException" ∈ tT := tw3 15 rfl rfl
theorem tw_571 : Cond.instantiable "java/lang/IllegalStateException" 6 ∈ tT := tw3 16 rfl rfl
theorem tw_573 : Cond.selects "java/lang/IllegalStateException" y_Throwable_fillInStackTrace y_Throwable_fillInStackTrace ∈ tT := tw3 18 rfl rfl
theorem tw_574 : Cond.lays "java/lang/IllegalStateException" "java/lang/Throwable" "cause" "Ljava/lang/Throwable;" ∈ tT := tw3 19 rfl rfl
theorem tw_575 : Cond.lays "java/lang/IllegalStateException" "java/lang/Throwable" "stackTrace" "[Ljava/lang/StackTraceElement;" ∈ tT := tw3 20 rfl rfl
theorem tw_576 : Cond.lays "java/lang/IllegalStateException" "java/lang/Throwable" "suppressedExceptions" "Ljava/util/List;" ∈ tT := tw3 21 rfl rfl
theorem tw_577 : Cond.lays "java/lang/IllegalStateException" "java/lang/Throwable" "detailMessage" "Ljava/lang/String;" ∈ tT := tw3 22 rfl rfl
theorem tw_578 : Cond.lays "java/lang/IllegalStateException" "java/lang/Throwable" "backtrace" "Ljava/lang/Object;" ∈ tT := tw3 23 rfl rfl
theorem tw_580 : Cond.methodLink "HostBench" 116 y_IllegalStateException_init ∈ tT := tw3 25 rfl rfl
theorem tw_581 : Cond.instanceMethod y_IllegalStateException_init ∈ tT := tw3 26 rfl rfl
theorem tw_582 : Cond.code y_IllegalStateException_init prog_15_method_2_code 2 none ∈ tT := tw3 27 rfl rfl
theorem tw_583 : Cond.methodLink "java/lang/IllegalStateException" 7 y_RuntimeException_init2 ∈ tT := tw3 28 rfl rfl
theorem tw_584 : Cond.lays "java/lang/IllegalStateException" "java/lang/Throwable" "depth" "I" ∈ tT := tw3 29 rfl rfl
theorem tw_586 : Cond.methodLink "HostBench" 117 y_Folder_make ∈ tT := tw3 31 rfl rfl
theorem tw_587 : Cond.instanceMethod y_Folder_make ∈ tT := tw3 32 rfl rfl
theorem tw_588 : Cond.selects "HostBench$Folder" y_Folder_make y_Folder_make ∈ tT := tw3 33 rfl rfl
theorem tw_589 : Cond.code y_Folder_make prog_4_method_5_code 3 (some (FieldType.object "HostBench$HostFile")) ∈ tT := tw3 34 rfl rfl
theorem tw_590 : Cond.methodLink "HostBench$Folder" 32 y_Bytes_cut ∈ tT := tw3 35 rfl rfl
theorem tw_591 : Cond.methodLink "HostBench$Folder" 36 y_Bytes_size ∈ tT := tw3 36 rfl rfl
theorem tw_592 : Cond.methodLink "HostBench$Folder" 40 y_Bytes_append ∈ tT := tw3 37 rfl rfl
theorem tw_593 : Cond.classLink "HostBench" 120 "java/lang/UnsupportedOperationException" ∈ tT := tw3 38 rfl rfl
theorem tw_594 : Cond.instantiable "java/lang/UnsupportedOperationException" 6 ∈ tT := tw3 39 rfl rfl
theorem tw_596 : Cond.selects "java/lang/UnsupportedOperationException" y_Throwable_fillInStackTrace y_Throwable_fillInStackTrace ∈ tT := tw3 41 rfl rfl
theorem tw_597 : Cond.lays "java/lang/UnsupportedOperationException" "java/lang/Throwable" "cause" "Ljava/lang/Throwable;" ∈ tT := tw3 42 rfl rfl
theorem tw_598 : Cond.lays "java/lang/UnsupportedOperationException" "java/lang/Throwable" "stackTrace" "[Ljava/lang/StackTraceElement;" ∈ tT := tw3 43 rfl rfl
theorem tw_599 : Cond.lays "java/lang/UnsupportedOperationException" "java/lang/Throwable" "suppressedExceptions" "Ljava/util/List;" ∈ tT := tw3 44 rfl rfl
theorem tw_600 : Cond.lays "java/lang/UnsupportedOperationException" "java/lang/Throwable" "detailMessage" "Ljava/lang/String;" ∈ tT := tw3 45 rfl rfl
theorem tw_601 : Cond.lays "java/lang/UnsupportedOperationException" "java/lang/Throwable" "backtrace" "Ljava/lang/Object;" ∈ tT := tw3 46 rfl rfl
theorem tw_603 : Cond.methodLink "HostBench" 124 y_UnsupportedOperationException_init ∈ tT := tw3 48 rfl rfl
theorem tw_604 : Cond.instanceMethod y_UnsupportedOperationException_init ∈ tT := tw3 49 rfl rfl
theorem tw_605 : Cond.code y_UnsupportedOperationException_init prog_21_method_2_code 2 none ∈ tT := tw3 50 rfl rfl
theorem tw_606 : Cond.methodLink "java/lang/UnsupportedOperationException" 7 y_RuntimeException_init2 ∈ tT := tw3 51 rfl rfl
theorem tw_607 : Cond.lays "java/lang/UnsupportedOperationException" "java/lang/Throwable" "depth" "I" ∈ tT := tw3 52 rfl rfl
theorem tw_609 : Cond.methodLink "HostBenchLaw" 76 y_L_type ∈ tT := tw3 54 rfl rfl
theorem tw_610 : Cond.static y_L_type ∈ tT := tw3 55 rfl rfl
theorem tw_611 : Cond.codeWith y_L_type method_5_code 3 (some FieldType.int) [((0 : Nat), (8 : Nat), (11 : Nat), (21 : Nat))] ∈ tT := tw3 56 rfl rfl
theorem tw_612 : Cond.methodLink "HostBenchLaw" 25 y_HB_type ∈ tT := tw3 57 rfl rfl
theorem tw_613 : Cond.instanceMethod y_HB_type ∈ tT := tw3 58 rfl rfl
theorem tw_614 : Cond.selects "HostBench" y_HB_type y_HB_type ∈ tT := tw3 59 rfl rfl
theorem tw_615 : Cond.code y_HB_type prog_1_method_6_code 2 (some FieldType.int) ∈ tT := tw3 60 rfl rfl
theorem tw_617 : Cond.methodLink "HostBenchLaw" 79 y_L_command ∈ tT := tw3 62 rfl rfl
theorem tw_618 : Cond.static y_L_command ∈ tT := tw3 63 rfl rfl
theorem tw_619 : Cond.codeWith y_L_command method_6_code 3 (some FieldType.int) [((0 : Nat), (8 : Nat), (11 : Nat), (19 : Nat))] ∈ tT := tw3 64 rfl rfl
theorem tw_620 : Cond.methodLink "HostBenchLaw" 28 y_HB_command ∈ tT := tw3 65 rfl rfl
theorem tw_621 : Cond.instanceMethod y_HB_command ∈ tT := tw3 66 rfl rfl
theorem tw_622 : Cond.selects "HostBench" y_HB_command y_HB_command ∈ tT := tw3 67 rfl rfl
theorem tw_623 : Cond.code y_HB_command prog_1_method_7_code 2 (some FieldType.int) ∈ tT := tw3 68 rfl rfl
theorem tw_625 : Cond.methodLink "HostBenchLaw" 91 y_L_run ∈ tT := tw3 70 rfl rfl
theorem tw_626 : Cond.static y_L_run ∈ tT := tw3 71 rfl rfl
theorem tw_627 : Cond.codeWith y_L_run method_7_code 4 (some FieldType.int) [((0 : Nat), (9 : Nat), (12 : Nat), (19 : Nat))] ∈ tT := tw3 72 rfl rfl
theorem tw_628 : Cond.methodLink "HostBenchLaw" 31 y_HB_run ∈ tT := tw3 73 rfl rfl
theorem tw_629 : Cond.instanceMethod y_HB_run ∈ tT := tw3 74 rfl rfl
theorem tw_630 : Cond.selects "HostBench" y_HB_run y_HB_run ∈ tT := tw3 75 rfl rfl
theorem tw_631 : Cond.code y_HB_run prog_1_method_10_code 3 (some FieldType.int) ∈ tT := tw3 76 rfl rfl
theorem tw_633 : Cond.methodLink "HostBench" 152 y_Guest_step ∈ tT := tw3 78 rfl rfl
theorem tw_634 : Cond.instanceMethod y_Guest_step ∈ tT := tw3 79 rfl rfl
theorem tw_635 : Cond.selects "HostBench$Guest" y_Guest_step y_Guest_step ∈ tT := tw3 80 rfl rfl
theorem tw_636 : Cond.code y_Guest_step prog_5_method_7_code 3 (some FieldType.boolean) ∈ tT := tw3 81 rfl rfl
theorem tw_637 : Cond.methodLink "HostBench$Guest" 40 y_Guest_stop ∈ tT := tw3 82 rfl rfl
theorem tw_639 : Cond.instanceMethod y_Guest_stop ∈ tT := tw3 84 rfl rfl
theorem tw_640 : Cond.code y_Guest_stop prog_5_method_8_code 2 none ∈ tT := tw3 85 rfl rfl
theorem tw_641 : Cond.methodLink "HostBench$Guest" 44 y_Memory_hasArea ∈ tT := tw3 86 rfl rfl
theorem tw_642 : Cond.methodLink "HostBench$Guest" 48 y_Memory_wordAt ∈ tT := tw3 87 rfl rfl
theorem tw_643 : Cond.instanceMethod y_Memory_wordAt ∈ tT := tw3 88 rfl rfl
theorem tw_644 : Cond.selects "HostBench$Memory" y_Memory_wordAt y_Memory_wordAt ∈ tT := tw3 89 rfl rfl
theorem tw_645 : Cond.code y_Memory_wordAt prog_9_method_6_code 2 (some FieldType.int) ∈ tT := tw3 90 rfl rfl
theorem tw_646 : Cond.methodLink "HostBench$Memory" 19 y_Memory_hasArea ∈ tT := tw3 91 rfl rfl
theorem tw_647 : Cond.constant "HostBench$Guest" 52 (1048691 : Int32) ∈ tT := tw3 92 rfl rfl
theorem tw_648 : Cond.methodLink "HostBench$Guest" 53 y_Guest_isMarked ∈ tT := tw3 93 rfl rfl
theorem tw_650 : Cond.instanceMethod y_Guest_isMarked ∈ tT := tw3 95 rfl rfl
theorem tw_651 : Cond.code y_Guest_isMarked prog_5_method_9_code 1 (some FieldType.boolean) ∈ tT := tw3 96 rfl rfl
theorem tw_652 : Cond.constant "HostBench$Guest" 60 (32509971 : Int32) ∈ tT := tw3 97 rfl rfl
theorem tw_653 : Cond.constant "HostBench$Guest" 61 (1081102355 : Int32) ∈ tT := tw3 98 rfl rfl
theorem tw_654 : Cond.methodLink "HostBench$Guest" 57 y_Guest_execute ∈ tT := tw3 99 rfl rfl
theorem tw_656 : Cond.instanceMethod y_Guest_execute ∈ tT := tw3 101 rfl rfl
theorem tw_657 : Cond.code y_Guest_execute prog_5_method_10_code 2 (some FieldType.int) ∈ tT := tw3 102 rfl rfl
theorem tw_658 : Cond.methodLink "HostBench$Guest" 62 y_Guest_load ∈ tT := tw3 103 rfl rfl
theorem tw_660 : Cond.instanceMethod y_Guest_load ∈ tT := tw3 105 rfl rfl
theorem tw_661 : Cond.code y_Guest_load prog_5_method_19_code 5 (some FieldType.int) ∈ tT := tw3 106 rfl rfl
theorem tw_662 : Cond.methodLink "HostBench$Guest" 65 y_Guest_funct3 ∈ tT := tw3 107 rfl rfl
theorem tw_663 : Cond.static y_Guest_funct3 ∈ tT := tw3 108 rfl rfl
theorem tw_664 : Cond.code y_Guest_funct3 prog_5_method_11_code 1 (some FieldType.int) ∈ tT := tw3 109 rfl rfl
theorem tw_665 : Cond.methodLink "HostBench$Guest" 84 y_Guest_value ∈ tT := tw3 110 rfl rfl
theorem tw_666 : Cond.instanceMethod y_Guest_value ∈ tT := tw3 111 rfl rfl
theorem tw_667 : Cond.selects "HostBench$Guest" y_Guest_value y_Guest_value ∈ tT := tw3 112 rfl rfl
theorem tw_668 : Cond.code y_Guest_value prog_5_method_3_code 2 (some FieldType.int) ∈ tT := tw3 113 rfl rfl
theorem tw_669 : Cond.methodLink "HostBench$Guest" 110 y_Guest_loaded ∈ tT := tw3 114 rfl rfl
theorem tw_671 : Cond.instanceMethod y_Guest_loaded ∈ tT := tw3 116 rfl rfl
theorem tw_672 : Cond.code y_Guest_loaded prog_5_method_20_code 3 (some FieldType.int) ∈ tT := tw3 117 rfl rfl
theorem tw_673 : Cond.methodLink "HostBench$Guest" 113 y_Memory_byteAt ∈ tT := tw3 118 rfl rfl
theorem tw_674 : Cond.methodLink "HostBench$Guest" 116 y_Memory_halfAt ∈ tT := tw3 119 rfl rfl
theorem tw_675 : Cond.instanceMethod y_Memory_halfAt ∈ tT := tw3 120 rfl rfl
theorem tw_676 : Cond.selects "HostBench$Memory" y_Memory_halfAt y_Memory_halfAt ∈ tT := tw3 121 rfl rfl
theorem tw_677 : Cond.code y_Memory_halfAt prog_9_method_5_code 2 (some FieldType.int) ∈ tT := tw3 122 rfl rfl
theorem tw_678 : Cond.methodLink "HostBench$Guest" 71 y_Guest_assign ∈ tT := tw3 123 rfl rfl
theorem tw_679 : Cond.methodLink "HostBench$Guest" 68 y_Guest_operateOnNumber ∈ tT := tw3 124 rfl rfl
theorem tw_681 : Cond.instanceMethod y_Guest_operateOnNumber ∈ tT := tw3 126 rfl rfl
theorem tw_682 : Cond.code y_Guest_operateOnNumber prog_5_method_22_code 5 (some FieldType.int) ∈ tT := tw3 127 rfl rfl
theorem tw_683 : Cond.methodLink "HostBench$Guest" 122 y_Guest_computed ∈ tT := tw3 128 rfl rfl
theorem tw_684 : Cond.static y_Guest_computed ∈ tT := tw3 129 rfl rfl
theorem tw_685 : Cond.code y_Guest_computed prog_5_method_24_code 4 (some FieldType.int) ∈ tT := tw3 130 rfl rfl
theorem tw_686 : Cond.methodLink "HostBench$Guest" 105 y_Guest_isLessWithoutSign ∈ tT := tw3 131 rfl rfl
theorem tw_687 : Cond.static y_Guest_isLessWithoutSign ∈ tT := tw3 132 rfl rfl
theorem tw_688 : Cond.code y_Guest_isLessWithoutSign prog_5_method_18_code 2 (some FieldType.boolean) ∈ tT := tw3 133 rfl rfl
theorem tw_689 : Cond.constantLong "HostBench$Guest" 108 (4294967295 : Int64) ∈ tT := tw3 134 rfl rfl
theorem tw_690 : Cond.methodLink "HostBench$Guest" 75 y_Guest_store ∈ tT := tw3 135 rfl rfl
theorem tw_692 : Cond.instanceMethod y_Guest_store ∈ tT := tw3 137 rfl rfl
theorem tw_693 : Cond.code y_Guest_store prog_5_method_21_code 7 (some FieldType.int) ∈ tT := tw3 138 rfl rfl
theorem tw_694 : Cond.methodLink "HostBench$Guest" 119 y_Memory_storeByte ∈ tT := tw3 139 rfl rfl
theorem tw_695 : Cond.methodLink "HostBench$Guest" 78 y_Guest_operate ∈ tT := tw3 140 rfl rfl
theorem tw_697 : Cond.instanceMethod y_Guest_operate ∈ tT := tw3 142 rfl rfl
theorem tw_698 : Cond.code y_Guest_operate prog_5_method_23_code 7 (some FieldType.int) ∈ tT := tw3 143 rfl rfl
theorem tw_699 : Cond.methodLink "HostBench$Guest" 126 y_Guest_multiplied ∈ tT := tw3 144 rfl rfl
theorem tw_700 : Cond.static y_Guest_multiplied ∈ tT := tw3 145 rfl rfl
theorem tw_701 : Cond.code y_Guest_multiplied prog_5_method_25_code 3 (some FieldType.int) ∈ tT := tw3 146 rfl rfl
theorem tw_702 : Cond.methodLink "HostBench$Guest" 130 y_Guest_divided ∈ tT := tw3 147 rfl rfl
theorem tw_703 : Cond.static y_Guest_divided ∈ tT := tw3 148 rfl rfl
theorem tw_704 : Cond.code y_Guest_divided prog_5_method_26_code 9 (some FieldType.int) ∈ tT := tw3 149 rfl rfl
theorem tw_705 : Cond.methodLink "HostBench$Guest" 81 y_Guest_branch ∈ tT := tw3 150 rfl rfl
theorem tw_707 : Cond.instanceMethod y_Guest_branch ∈ tT := tw3 152 rfl rfl
theorem tw_708 : Cond.code y_Guest_branch prog_5_method_16_code 4 (some FieldType.int) ∈ tT := tw3 153 rfl rfl
theorem tw_709 : Cond.methodLink "HostBench$Guest" 98 y_Guest_isTaken ∈ tT := tw3 154 rfl rfl
theorem tw_710 : Cond.static y_Guest_isTaken ∈ tT := tw3 155 rfl rfl
theorem tw_711 : Cond.code y_Guest_isTaken prog_5_method_17_code 3 (some FieldType.boolean) ∈ tT := tw3 156 rfl rfl
theorem tw_712 : Cond.methodLink "HostBench$Guest" 102 y_Guest_branchOffset ∈ tT := tw3 157 rfl rfl
theorem tw_713 : Cond.static y_Guest_branchOffset ∈ tT := tw3 158 rfl rfl
theorem tw_714 : Cond.code y_Guest_branchOffset prog_5_method_13_code 1 (some FieldType.int) ∈ tT := tw3 159 rfl rfl
theorem tw_715 : Cond.methodLink "HostBench$Guest" 87 y_Guest_jump ∈ tT := tw3 160 rfl rfl
theorem tw_717 : Cond.instanceMethod y_Guest_jump ∈ tT := tw3 162 rfl rfl
theorem tw_718 : Cond.code y_Guest_jump prog_5_method_15_code 3 (some FieldType.int) ∈ tT := tw3 163 rfl rfl
theorem tw_719 : Cond.methodLink "HostBench$Guest" 91 y_Guest_jumpOffset ∈ tT := tw3 164 rfl rfl
theorem tw_720 : Cond.static y_Guest_jumpOffset ∈ tT := tw3 165 rfl rfl
theorem tw_721 : Cond.code y_Guest_jumpOffset prog_5_method_12_code 1 (some FieldType.int) ∈ tT := tw3 166 rfl rfl
theorem tw_722 : Cond.constant "HostBench$Guest" 97 (1044480 : Int32) ∈ tT := tw3 167 rfl rfl
theorem tw_723 : Cond.methodLink "HostBench$Guest" 94 y_Guest_system ∈ tT := tw3 168 rfl rfl
theorem tw_724 : Cond.static y_Guest_system ∈ tT := tw3 169 rfl rfl
theorem tw_725 : Cond.code y_Guest_system prog_5_method_14_code 1 (some FieldType.int) ∈ tT := tw3 170 rfl rfl
theorem tw_726 : Cond.methodLink "HostBench" 156 y_Host_answerCall ∈ tT := tw3 171 rfl rfl
theorem tw_727 : Cond.instanceMethod y_Host_answerCall ∈ tT := tw3 172 rfl rfl
theorem tw_728 : Cond.selects "HostBench$Host" y_Host_answerCall y_Host_answerCall ∈ tT := tw3 173 rfl rfl
theorem tw_729 : Cond.code y_Host_answerCall prog_7_method_2_code 3 none ∈ tT := tw3 174 rfl rfl
theorem tw_730 : Cond.methodLink "HostBench$Host" 81 y_Guest_value ∈ tT := tw3 175 rfl rfl
theorem tw_731 : Cond.methodLink "HostBench$Host" 85 y_Host_fieldsOf ∈ tT := tw3 176 rfl rfl
theorem tw_732 : Cond.static y_Host_fieldsOf ∈ tT := tw3 177 rfl rfl
theorem tw_733 : Cond.code y_Host_fieldsOf prog_7_method_3_code 1 (some FieldType.int) ∈ tT := tw3 178 rfl rfl
theorem tw_734 : Cond.methodLink "HostBench$Host" 88 y_Host_hasFields ∈ tT := tw3 179 rfl rfl
theorem tw_736 : Cond.instanceMethod y_Host_hasFields ∈ tT := tw3 181 rfl rfl
theorem tw_737 : Cond.code y_Host_hasFields prog_7_method_4_code 2 (some FieldType.boolean) ∈ tT := tw3 182 rfl rfl
theorem tw_738 : Cond.methodLink "HostBench$Host" 104 y_Memory_hasArea ∈ tT := tw3 183 rfl rfl
theorem tw_739 : Cond.methodLink "HostBench$Host" 92 y_Host_perform ∈ tT := tw3 184 rfl rfl
theorem tw_741 : Cond.instanceMethod y_Host_perform ∈ tT := tw3 186 rfl rfl
theorem tw_742 : Cond.code y_Host_perform prog_7_method_7_code 2 (some FieldType.int) ∈ tT := tw3 187 rfl rfl
theorem tw_743 : Cond.methodLink "HostBench$Host" 113 y_Host_field ∈ tT := tw3 188 rfl rfl
theorem tw_745 : Cond.instanceMethod y_Host_field ∈ tT := tw3 190 rfl rfl
theorem tw_746 : Cond.code y_Host_field prog_7_method_5_code 2 (some FieldType.int) ∈ tT := tw3 191 rfl rfl
theorem tw_747 : Cond.methodLink "HostBench$Host" 110 y_Memory_wordAt ∈ tT := tw3 192 rfl rfl
theorem tw_748 : Cond.methodLink "HostBench$Host" 116 y_Host_open ∈ tT := tw3 193 rfl rfl
theorem tw_750 : Cond.instanceMethod y_Host_open ∈ tT := tw3 195 rfl rfl
theorem tw_751 : Cond.code y_Host_open prog_7_method_11_code 7 (some FieldType.int) ∈ tT := tw3 196 rfl rfl
theorem tw_752 : Cond.methodLink "HostBench$Host" 95 y_Host_fail ∈ tT := tw3 197 rfl rfl
theorem tw_754 : Cond.instanceMethod y_Host_fail ∈ tT := tw3 199 rfl rfl
theorem tw_755 : Cond.code y_Host_fail prog_7_method_6_code 2 (some FieldType.int) ∈ tT := tw3 200 rfl rfl
theorem tw_756 : Cond.methodLink "HostBench$Host" 199 y_Host_bringName ∈ tT := tw3 201 rfl rfl
theorem tw_758 : Cond.instanceMethod y_Host_bringName ∈ tT := tw3 203 rfl rfl
theorem tw_759 : Cond.code y_Host_bringName prog_7_method_9_code 5 (some FieldType.int) ∈ tT := tw3 204 rfl rfl
theorem tw_760 : Cond.methodLink "HostBench$Host" 181 y_Bytes_cut ∈ tT := tw3 205 rfl rfl
theorem tw_761 : Cond.methodLink "HostBench$Host" 184 y_Memory_byteAt ∈ tT := tw3 206 rfl rfl
theorem tw_762 : Cond.methodLink "HostBench$Host" 187 y_Bytes_add ∈ tT := tw3 207 rfl rfl
theorem tw_763 : Cond.methodLink "HostBench$Host" 190 y_Bytes_firstZero ∈ tT := tw3 208 rfl rfl
theorem tw_764 : Cond.methodLink "HostBench$Host" 203 y_Desk_leastShut ∈ tT := tw3 209 rfl rfl
theorem tw_765 : Cond.instanceMethod y_Desk_leastShut ∈ tT := tw3 210 rfl rfl
theorem tw_766 : Cond.selects "HostBench$Desk" y_Desk_leastShut y_Desk_leastShut ∈ tT := tw3 211 rfl rfl
theorem tw_767 : Cond.code y_Desk_leastShut prog_3_method_4_code 2 (some FieldType.int) ∈ tT := tw3 212 rfl rfl
theorem tw_768 : Cond.methodLink "HostBench$Host" 206 y_Desk_get ∈ tT := tw3 213 rfl rfl
theorem tw_769 : Cond.instanceMethod y_Desk_get ∈ tT := tw3 214 rfl rfl
theorem tw_770 : Cond.selects "HostBench$Desk" y_Desk_get y_Desk_get ∈ tT := tw3 215 rfl rfl
theorem tw_771 : Cond.code y_Desk_get prog_3_method_2_code 2 (some (FieldType.object "HostBench$Handle")) ∈ tT := tw3 216 rfl rfl
theorem tw_772 : Cond.methodLink "HostBench$Host" 210 y_Host_namesConsole ∈ tT := tw3 217 rfl rfl
theorem tw_773 : Cond.static y_Host_namesConsole ∈ tT := tw3 218 rfl rfl
theorem tw_774 : Cond.code y_Host_namesConsole prog_7_method_10_code 1 (some FieldType.boolean) ∈ tT := tw3 219 rfl rfl
theorem tw_775 : Cond.methodLink "HostBench$Host" 193 y_Bytes_size ∈ tT := tw3 220 rfl rfl
theorem tw_776 : Cond.methodLink "HostBench$Host" 196 y_Bytes_at ∈ tT := tw3 221 rfl rfl
theorem tw_777 : Cond.methodLink "HostBench$Host" 214 y_Handle_openConsole ∈ tT := tw3 222 rfl rfl
theorem tw_778 : Cond.instanceMethod y_Handle_openConsole ∈ tT := tw3 223 rfl rfl
theorem tw_779 : Cond.selects "HostBench$Handle" y_Handle_openConsole y_Handle_openConsole ∈ tT := tw3 224 rfl rfl
theorem tw_780 : Cond.code y_Handle_openConsole prog_6_method_2_code 2 none ∈ tT := tw3 225 rfl rfl
theorem tw_781 : Cond.methodLink "HostBench$Host" 219 y_Host_openFile ∈ tT := tw3 226 rfl rfl
theorem tw_783 : Cond.instanceMethod y_Host_openFile ∈ tT := tw3 228 rfl rfl
theorem tw_784 : Cond.code y_Host_openFile prog_7_method_12_code 4 (some FieldType.boolean) ∈ tT := tw3 229 rfl rfl
theorem tw_785 : Cond.methodLink "HostBench$Host" 223 y_Folder_find ∈ tT := tw3 230 rfl rfl
theorem tw_786 : Cond.methodLink "HostBench$Host" 227 y_Folder_make ∈ tT := tw3 231 rfl rfl
theorem tw_787 : Cond.methodLink "HostBench$Host" 235 y_Handle_openFile ∈ tT := tw3 232 rfl rfl
theorem tw_788 : Cond.instanceMethod y_Handle_openFile ∈ tT := tw3 233 rfl rfl
theorem tw_789 : Cond.selects "HostBench$Handle" y_Handle_openFile y_Handle_openFile ∈ tT := tw3 234 rfl rfl
theorem tw_790 : Cond.code y_Handle_openFile prog_6_method_3_code 3 none ∈ tT := tw3 235 rfl rfl
theorem tw_791 : Cond.methodLink "HostBench$Host" 120 y_Host_close ∈ tT := tw3 236 rfl rfl
theorem tw_793 : Cond.instanceMethod y_Host_close ∈ tT := tw3 238 rfl rfl
theorem tw_794 : Cond.code y_Host_close prog_7_method_13_code 3 (some FieldType.int) ∈ tT := tw3 239 rfl rfl
theorem tw_795 : Cond.methodLink "HostBench$Host" 238 y_Desk_getOpen ∈ tT := tw4 0 rfl rfl
theorem tw_796 : Cond.instanceMethod y_Desk_getOpen ∈ tT := tw4 1 rfl rfl
theorem tw_797 : Cond.selects "HostBench$Desk" y_Desk_getOpen y_Desk_getOpen ∈ tT := tw4 2 rfl rfl
theorem tw_798 : Cond.code y_Desk_getOpen prog_3_method_3_code 3 (some (FieldType.object "HostBench$Handle")) ∈ tT := tw4 3 rfl rfl
theorem tw_799 : Cond.methodLink "HostBench$Desk" 18 y_Desk_get ∈ tT := tw4 4 rfl rfl
theorem tw_800 : Cond.methodLink "HostBench$Host" 241 y_Handle_shut ∈ tT := tw4 5 rfl rfl
theorem tw_801 : Cond.instanceMethod y_Handle_shut ∈ tT := tw4 6 rfl rfl
theorem tw_802 : Cond.selects "HostBench$Handle" y_Handle_shut y_Handle_shut ∈ tT := tw4 7 rfl rfl
theorem tw_803 : Cond.code y_Handle_shut prog_6_method_4_code 1 none ∈ tT := tw4 8 rfl rfl
theorem tw_804 : Cond.methodLink "HostBench$Host" 123 y_Host_writeText ∈ tT := tw4 9 rfl rfl
theorem tw_806 : Cond.instanceMethod y_Host_writeText ∈ tT := tw4 11 rfl rfl
theorem tw_807 : Cond.code y_Host_writeText prog_7_method_14_code 2 (some FieldType.int) ∈ tT := tw4 12 rfl rfl
theorem tw_808 : Cond.methodLink "HostBench$Host" 244 y_Output_receive ∈ tT := tw4 13 rfl rfl
theorem tw_809 : Cond.instanceMethod y_Output_receive ∈ tT := tw4 14 rfl rfl
theorem tw_810 : Cond.selects "HostBench$Output" y_Output_receive y_Output_receive ∈ tT := tw4 15 rfl rfl
theorem tw_811 : Cond.code y_Output_receive prog_10_method_2_code 6 none ∈ tT := tw4 16 rfl rfl
theorem tw_812 : Cond.methodLink "HostBench$Output" 22 y_Bytes_spare ∈ tT := tw4 17 rfl rfl
theorem tw_813 : Cond.methodLink "HostBench$Output" 26 y_Math_min ∈ tT := tw4 18 rfl rfl
theorem tw_814 : Cond.methodLink "HostBench$Output" 32 y_Memory_byteAt ∈ tT := tw4 19 rfl rfl
theorem tw_815 : Cond.methodLink "HostBench$Output" 38 y_Bytes_add ∈ tT := tw4 20 rfl rfl
theorem tw_816 : Cond.methodLink "HostBench$Host" 126 y_Memory_lengthUpToZero ∈ tT := tw4 21 rfl rfl
theorem tw_817 : Cond.instanceMethod y_Memory_lengthUpToZero ∈ tT := tw4 22 rfl rfl
theorem tw_818 : Cond.selects "HostBench$Memory" y_Memory_lengthUpToZero y_Memory_lengthUpToZero ∈ tT := tw4 23 rfl rfl
theorem tw_819 : Cond.code y_Memory_lengthUpToZero prog_9_method_8_code 3 (some FieldType.int) ∈ tT := tw4 24 rfl rfl
theorem tw_820 : Cond.methodLink "HostBench$Host" 129 y_Host_write ∈ tT := tw4 25 rfl rfl
theorem tw_822 : Cond.instanceMethod y_Host_write ∈ tT := tw4 27 rfl rfl
theorem tw_823 : Cond.code y_Host_write prog_7_method_15_code 7 (some FieldType.int) ∈ tT := tw4 28 rfl rfl
theorem tw_824 : Cond.methodLink "HostBench$Host" 248 y_Handle_may ∈ tT := tw4 29 rfl rfl
theorem tw_825 : Cond.instanceMethod y_Handle_may ∈ tT := tw4 30 rfl rfl
theorem tw_826 : Cond.selects "HostBench$Handle" y_Handle_may y_Handle_may ∈ tT := tw4 31 rfl rfl
theorem tw_827 : Cond.code y_Handle_may prog_6_method_5_code 2 (some FieldType.boolean) ∈ tT := tw4 32 rfl rfl
theorem tw_828 : Cond.methodLink "HostBench$Host" 255 y_Host_writeFile ∈ tT := tw4 33 rfl rfl
theorem tw_830 : Cond.instanceMethod y_Host_writeFile ∈ tT := tw4 35 rfl rfl
theorem tw_831 : Cond.code y_Host_writeFile prog_7_method_16_code 10 (some FieldType.int) ∈ tT := tw4 36 rfl rfl
theorem tw_832 : Cond.methodLink "HostBench$Host" 265 y_Math_min ∈ tT := tw4 37 rfl rfl
theorem tw_833 : Cond.methodLink "HostBench$Host" 270 y_Math_max ∈ tT := tw4 38 rfl rfl
theorem tw_834 : Cond.methodLink "HostBench$Host" 273 y_Bytes_change ∈ tT := tw4 39 rfl rfl
theorem tw_835 : Cond.instanceMethod y_Bytes_change ∈ tT := tw4 40 rfl rfl
theorem tw_836 : Cond.selects "HostBench$Bytes" y_Bytes_change y_Bytes_change ∈ tT := tw4 41 rfl rfl
theorem tw_837 : Cond.code y_Bytes_change prog_2_method_6_code 3 none ∈ tT := tw4 42 rfl rfl
theorem tw_838 : Cond.methodLink "HostBench$Host" 132 y_Host_read ∈ tT := tw4 43 rfl rfl
theorem tw_840 : Cond.instanceMethod y_Host_read ∈ tT := tw4 45 rfl rfl
theorem tw_841 : Cond.code y_Host_read prog_7_method_17_code 7 (some FieldType.int) ∈ tT := tw4 46 rfl rfl
theorem tw_842 : Cond.methodLink "HostBench$Host" 277 y_Host_bringBytes ∈ tT := tw4 47 rfl rfl
theorem tw_844 : Cond.instanceMethod y_Host_bringBytes ∈ tT := tw4 49 rfl rfl
theorem tw_845 : Cond.code y_Host_bringBytes prog_7_method_18_code 7 (some FieldType.int) ∈ tT := tw4 50 rfl rfl
theorem tw_846 : Cond.methodLink "HostBench$Host" 284 y_Memory_storeByte ∈ tT := tw4 51 rfl rfl
theorem tw_847 : Cond.methodLink "HostBench$Host" 281 y_Bytes_dropFirst ∈ tT := tw4 52 rfl rfl
theorem tw_848 : Cond.instanceMethod y_Bytes_dropFirst ∈ tT := tw4 53 rfl rfl
theorem tw_849 : Cond.selects "HostBench$Bytes" y_Bytes_dropFirst y_Bytes_dropFirst ∈ tT := tw4 54 rfl rfl
theorem tw_850 : Cond.code y_Bytes_dropFirst prog_2_method_9_code 4 none ∈ tT := tw4 55 rfl rfl
theorem tw_851 : Cond.methodLink "HostBench$Host" 135 y_Host_readByte ∈ tT := tw4 56 rfl rfl
theorem tw_853 : Cond.instanceMethod y_Host_readByte ∈ tT := tw4 58 rfl rfl
theorem tw_854 : Cond.code y_Host_readByte prog_7_method_19_code 2 (some FieldType.int) ∈ tT := tw4 59 rfl rfl
theorem tw_855 : Cond.methodLink "HostBench$Host" 139 y_Host_isConsole ∈ tT := tw4 60 rfl rfl
theorem tw_857 : Cond.instanceMethod y_Host_isConsole ∈ tT := tw4 62 rfl rfl
theorem tw_858 : Cond.code y_Host_isConsole prog_7_method_20_code 3 (some FieldType.int) ∈ tT := tw4 63 rfl rfl
theorem tw_859 : Cond.methodLink "HostBench$Host" 142 y_Host_seek ∈ tT := tw4 64 rfl rfl
theorem tw_861 : Cond.instanceMethod y_Host_seek ∈ tT := tw4 66 rfl rfl
theorem tw_862 : Cond.code y_Host_seek prog_7_method_21_code 5 (some FieldType.int) ∈ tT := tw4 67 rfl rfl
theorem tw_863 : Cond.methodLink "HostBench$Host" 146 y_Host_length ∈ tT := tw4 68 rfl rfl
theorem tw_865 : Cond.instanceMethod y_Host_length ∈ tT := tw4 70 rfl rfl
theorem tw_866 : Cond.code y_Host_length prog_7_method_22_code 4 (some FieldType.int) ∈ tT := tw4 71 rfl rfl
theorem tw_867 : Cond.methodLink "HostBench$Host" 149 y_Host_temporaryName ∈ tT := tw4 72 rfl rfl
theorem tw_869 : Cond.instanceMethod y_Host_temporaryName ∈ tT := tw4 74 rfl rfl
theorem tw_870 : Cond.code y_Host_temporaryName prog_7_method_23_code 4 (some FieldType.int) ∈ tT := tw4 75 rfl rfl
theorem tw_871 : Cond.methodLink "HostBench$Host" 152 y_Host_remove ∈ tT := tw4 76 rfl rfl
theorem tw_873 : Cond.instanceMethod y_Host_remove ∈ tT := tw4 78 rfl rfl
theorem tw_874 : Cond.code y_Host_remove prog_7_method_24_code 5 (some FieldType.int) ∈ tT := tw4 79 rfl rfl
theorem tw_875 : Cond.methodLink "HostBench$Host" 287 y_Desk_openOn ∈ tT := tw4 80 rfl rfl
theorem tw_876 : Cond.methodLink "HostBench$Host" 291 y_Folder_remove ∈ tT := tw4 81 rfl rfl
theorem tw_877 : Cond.instanceMethod y_Folder_remove ∈ tT := tw4 82 rfl rfl
theorem tw_878 : Cond.selects "HostBench$Folder" y_Folder_remove y_Folder_remove ∈ tT := tw4 83 rfl rfl
theorem tw_879 : Cond.code y_Folder_remove prog_4_method_6_code 4 none ∈ tT := tw4 84 rfl rfl
theorem tw_880 : Cond.methodLink "HostBench$Folder" 47 y_Folder_numberOf ∈ tT := tw4 85 rfl rfl
theorem tw_881 : Cond.instanceMethod y_Folder_numberOf ∈ tT := tw4 86 rfl rfl
theorem tw_882 : Cond.selects "HostBench$Folder" y_Folder_numberOf y_Folder_numberOf ∈ tT := tw4 87 rfl rfl
theorem tw_883 : Cond.code y_Folder_numberOf prog_4_method_4_code 3 (some FieldType.int) ∈ tT := tw4 88 rfl rfl
theorem tw_884 : Cond.methodLink "HostBench$Host" 155 y_Host_rename ∈ tT := tw4 89 rfl rfl
theorem tw_886 : Cond.instanceMethod y_Host_rename ∈ tT := tw4 91 rfl rfl
theorem tw_887 : Cond.code y_Host_rename prog_7_method_25_code 4 (some FieldType.int) ∈ tT := tw4 92 rfl rfl
theorem tw_888 : Cond.methodLink "HostBench$Host" 297 y_Bytes_append ∈ tT := tw4 93 rfl rfl
theorem tw_889 : Cond.methodLink "HostBench$Host" 158 y_Host_performOther ∈ tT := tw4 94 rfl rfl
theorem tw_891 : Cond.instanceMethod y_Host_performOther ∈ tT := tw4 96 rfl rfl
theorem tw_892 : Cond.code y_Host_performOther prog_7_method_8_code 2 (some FieldType.int) ∈ tT := tw4 97 rfl rfl
theorem tw_893 : Cond.constantLong "HostBench$Host" 165 (4294967295 : Int64) ∈ tT := tw4 98 rfl rfl
theorem tw_894 : Cond.constantLong "HostBench$Host" 167 (100 : Int64) ∈ tT := tw4 99 rfl rfl
theorem tw_895 : Cond.methodLink "HostBench$Host" 169 y_Host_tellCommand ∈ tT := tw4 100 rfl rfl
theorem tw_897 : Cond.instanceMethod y_Host_tellCommand ∈ tT := tw4 102 rfl rfl
theorem tw_898 : Cond.code y_Host_tellCommand prog_7_method_26_code 4 (some FieldType.int) ∈ tT := tw4 103 rfl rfl
theorem tw_899 : Cond.methodLink "HostBench$Host" 301 y_Memory_storeWord ∈ tT := tw4 104 rfl rfl
theorem tw_900 : Cond.instanceMethod y_Memory_storeWord ∈ tT := tw4 105 rfl rfl
theorem tw_901 : Cond.selects "HostBench$Memory" y_Memory_storeWord y_Memory_storeWord ∈ tT := tw4 106 rfl rfl
theorem tw_902 : Cond.code y_Memory_storeWord prog_9_method_7_code 4 none ∈ tT := tw4 107 rfl rfl
theorem tw_903 : Cond.methodLink "HostBench$Memory" 23 y_Memory_storeByte ∈ tT := tw4 108 rfl rfl
theorem tw_904 : Cond.methodLink "HostBench$Host" 172 y_Host_tellHeap ∈ tT := tw4 109 rfl rfl
theorem tw_906 : Cond.instanceMethod y_Host_tellHeap ∈ tT := tw4 111 rfl rfl
theorem tw_907 : Cond.code y_Host_tellHeap prog_7_method_27_code 3 (some FieldType.int) ∈ tT := tw4 112 rfl rfl
theorem tw_908 : Cond.fieldLink "HostBench$Host" 304 "HostBench$Host" "HEAP" "[I" ∈ tT := tw4 113 rfl rfl
theorem tw_910 : Cond.methodLink "HostBench$Host" 175 y_Host_exit ∈ tT := tw4 115 rfl rfl
theorem tw_912 : Cond.instanceMethod y_Host_exit ∈ tT := tw4 117 rfl rfl
theorem tw_913 : Cond.code y_Host_exit prog_7_method_28_code 3 (some FieldType.int) ∈ tT := tw4 118 rfl rfl
theorem tw_914 : Cond.constant "HostBench$Host" 308 (131110 : Int32) ∈ tT := tw4 119 rfl rfl
theorem tw_915 : Cond.methodLink "HostBench$Host" 309 y_Guest_exit ∈ tT := tw4 120 rfl rfl
theorem tw_916 : Cond.instanceMethod y_Guest_exit ∈ tT := tw4 121 rfl rfl
theorem tw_917 : Cond.selects "HostBench$Guest" y_Guest_exit y_Guest_exit ∈ tT := tw4 122 rfl rfl
theorem tw_918 : Cond.code y_Guest_exit prog_5_method_5_code 2 none ∈ tT := tw4 123 rfl rfl
theorem tw_919 : Cond.methodLink "HostBench$Host" 178 y_Host_tellSteps ∈ tT := tw4 124 rfl rfl
theorem tw_921 : Cond.instanceMethod y_Host_tellSteps ∈ tT := tw4 126 rfl rfl
theorem tw_922 : Cond.code y_Host_tellSteps prog_7_method_29_code 1 (some FieldType.int) ∈ tT := tw4 127 rfl rfl
theorem tw_923 : Cond.methodLink "HostBench$Host" 101 y_Guest_goOnBehindCall ∈ tT := tw4 128 rfl rfl
theorem tw_924 : Cond.instanceMethod y_Guest_goOnBehindCall ∈ tT := tw4 129 rfl rfl
theorem tw_925 : Cond.selects "HostBench$Guest" y_Guest_goOnBehindCall y_Guest_goOnBehindCall ∈ tT := tw4 130 rfl rfl
theorem tw_926 : Cond.code y_Guest_goOnBehindCall prog_5_method_6_code 2 none ∈ tT := tw4 131 rfl rfl
theorem tw_927 : Cond.methodLink "HostBenchLaw" 98 y_L_look ∈ tT := tw4 132 rfl rfl
theorem tw_928 : Cond.static y_L_look ∈ tT := tw4 133 rfl rfl
theorem tw_929 : Cond.codeWith y_L_look method_8_code 4 (some FieldType.int) [((0 : Nat), (9 : Nat), (12 : Nat), (37 : Nat))] ∈ tT := tw4 134 rfl rfl
theorem tw_930 : Cond.classLink "HostBenchLaw" 37 "java/util/NoSuchElementException" ∈ tT := tw4 135 rfl rfl
theorem tw_931 : Cond.methodLink "HostBenchLaw" 34 y_HB_look ∈ tT := tw4 136 rfl rfl
theorem tw_932 : Cond.instanceMethod y_HB_look ∈ tT := tw4 137 rfl rfl
theorem tw_933 : Cond.selects "HostBench" y_HB_look y_HB_look ∈ tT := tw4 138 rfl rfl
theorem tw_934 : Cond.code y_HB_look prog_1_method_12_code 2 (some FieldType.int) ∈ tT := tw4 139 rfl rfl
theorem tw_935 : Cond.classLink "HostBench" 178 "java/util/NoSuchElementException" ∈ tT := tw4 140 rfl rfl
theorem tw_936 : Cond.instantiable "java/util/NoSuchElementException" 6 ∈ tT := tw4 141 rfl rfl
theorem tw_938 : Cond.selects "java/util/NoSuchElementException" y_Throwable_fillInStackTrace y_Throwable_fillInStackTrace ∈ tT := tw4 143 rfl rfl
theorem tw_939 : Cond.lays "java/util/NoSuchElementException" "java/lang/Throwable" "cause" "Ljava/lang/Throwable;" ∈ tT := tw4 144 rfl rfl
theorem tw_940 : Cond.lays "java/util/NoSuchElementException" "java/lang/Throwable" "stackTrace" "[Ljava/lang/StackTraceElement;" ∈ tT := tw4 145 rfl rfl
theorem tw_941 : Cond.lays "java/util/NoSuchElementException" "java/lang/Throwable" "suppressedExceptions" "Ljava/util/List;" ∈ tT := tw4 146 rfl rfl
theorem tw_942 : Cond.lays "java/util/NoSuchElementException" "java/lang/Throwable" "detailMessage" "Ljava/lang/String;" ∈ tT := tw4 147 rfl rfl
theorem tw_943 : Cond.lays "java/util/NoSuchElementException" "java/lang/Throwable" "backtrace" "Ljava/lang/Object;" ∈ tT := tw4 148 rfl rfl
theorem tw_945 : Cond.methodLink "HostBench" 182 y_NoSuchElementException_init ∈ tT := tw4 150 rfl rfl
theorem tw_946 : Cond.instanceMethod y_NoSuchElementException_init ∈ tT := tw4 151 rfl rfl
theorem tw_947 : Cond.code y_NoSuchElementException_init prog_22_method_4_code 2 none ∈ tT := tw4 152 rfl rfl
theorem tw_948 : Cond.methodLink "java/util/NoSuchElementException" 13 y_RuntimeException_init2 ∈ tT := tw4 153 rfl rfl
theorem tw_949 : Cond.lays "java/util/NoSuchElementException" "java/lang/Throwable" "depth" "I" ∈ tT := tw4 154 rfl rfl
theorem tw_951 : Cond.methodLink "HostBenchLaw" 101 y_L_register ∈ tT := tw4 156 rfl rfl
theorem tw_952 : Cond.static y_L_register ∈ tT := tw4 157 rfl rfl
theorem tw_953 : Cond.codeWith y_L_register method_9_code 4 (some FieldType.int) [((0 : Nat), (9 : Nat), (12 : Nat), (37 : Nat))] ∈ tT := tw4 158 rfl rfl
theorem tw_954 : Cond.methodLink "HostBenchLaw" 39 y_HB_register ∈ tT := tw4 159 rfl rfl
theorem tw_955 : Cond.instanceMethod y_HB_register ∈ tT := tw4 160 rfl rfl
theorem tw_956 : Cond.selects "HostBench" y_HB_register y_HB_register ∈ tT := tw4 161 rfl rfl
theorem tw_957 : Cond.code y_HB_register prog_1_method_13_code 2 (some FieldType.int) ∈ tT := tw4 162 rfl rfl
theorem tw_959 : Cond.methodLink "HostBench" 188 y_Guest_value ∈ tT := tw4 164 rfl rfl
theorem tw_960 : Cond.methodLink "HostBenchLaw" 117 y_L_file ∈ tT := tw4 165 rfl rfl
theorem tw_961 : Cond.static y_L_file ∈ tT := tw4 166 rfl rfl
theorem tw_962 : Cond.codeWith y_L_file method_10_code 5 (some FieldType.int) [((0 : Nat), (10 : Nat), (13 : Nat), (37 : Nat))] ∈ tT := tw4 167 rfl rfl
theorem tw_963 : Cond.methodLink "HostBenchLaw" 42 y_HB_file ∈ tT := tw4 168 rfl rfl
theorem tw_964 : Cond.instanceMethod y_HB_file ∈ tT := tw4 169 rfl rfl
theorem tw_965 : Cond.selects "HostBench" y_HB_file y_HB_file ∈ tT := tw4 170 rfl rfl
theorem tw_966 : Cond.code y_HB_file prog_1_method_17_code 4 (some FieldType.int) ∈ tT := tw4 171 rfl rfl
theorem tw_968 : Cond.methodLink "HostBenchLaw" 126 y_L_handle ∈ tT := tw4 173 rfl rfl
theorem tw_969 : Cond.static y_L_handle ∈ tT := tw4 174 rfl rfl
theorem tw_970 : Cond.codeWith y_L_handle method_11_code 5 (some FieldType.int) [((0 : Nat), (10 : Nat), (13 : Nat), (37 : Nat))] ∈ tT := tw4 175 rfl rfl
theorem tw_971 : Cond.methodLink "HostBenchLaw" 46 y_HB_handle ∈ tT := tw4 176 rfl rfl
theorem tw_972 : Cond.instanceMethod y_HB_handle ∈ tT := tw4 177 rfl rfl
theorem tw_973 : Cond.selects "HostBench" y_HB_handle y_HB_handle ∈ tT := tw4 178 rfl rfl
theorem tw_974 : Cond.code y_HB_handle prog_1_method_19_code 4 (some FieldType.int) ∈ tT := tw4 179 rfl rfl
theorem tw_975 : Cond.methodLink "HostBench" 209 y_Desk_get ∈ tT := tw4 180 rfl rfl
theorem tw_977 : Cond.methodLink "HostBench" 226 y_Folder_numberOf ∈ tT := tw4 182 rfl rfl
theorem tw_978 : Cond.classLink "HostBenchLaw" 50 "HostBenchModel" ∈ tT := tw4 183 rfl rfl
theorem tw_979 : Cond.instantiable "HostBenchModel" 30 ∈ tT := tw4 184 rfl rfl
theorem tw_980 : Cond.methodLink "HostBenchLaw" 52 y_M_init ∈ tT := tw4 185 rfl rfl
theorem tw_981 : Cond.instanceMethod y_M_init ∈ tT := tw4 186 rfl rfl
theorem tw_982 : Cond.code y_M_init prog_12_method_1_code 1 none ∈ tT := tw4 187 rfl rfl
theorem tw_983 : Cond.methodLink "HostBenchModel" 1 y_Object_init ∈ tT := tw4 188 rfl rfl
theorem tw_984 : Cond.fieldLink "HostBenchModel" 62 "HostBenchModel" "thrown" "I" ∈ tT := tw4 189 rfl rfl
theorem tw_985 : Cond.fieldLink "HostBenchModel" 7 "HostBenchModel" "memory" "[I" ∈ tT := tw4 190 rfl rfl
theorem tw_986 : Cond.fieldLink "HostBenchModel" 13 "HostBenchModel" "x" "[I" ∈ tT := tw4 191 rfl rfl
theorem tw_987 : Cond.fieldLink "HostBenchModel" 96 "HostBenchModel" "pc" "I" ∈ tT := tw4 192 rfl rfl
theorem tw_988 : Cond.fieldLink "HostBenchModel" 99 "HostBenchModel" "state" "I" ∈ tT := tw4 193 rfl rfl
theorem tw_989 : Cond.fieldLink "HostBenchModel" 102 "HostBenchModel" "trap" "I" ∈ tT := tw4 194 rfl rfl
theorem tw_990 : Cond.fieldLink "HostBenchModel" 105 "HostBenchModel" "code" "I" ∈ tT := tw4 195 rfl rfl
theorem tw_991 : Cond.fieldLink "HostBenchModel" 116 "HostBenchModel" "steps" "J" ∈ tT := tw4 196 rfl rfl
theorem tw_992 : Cond.fieldLink "HostBenchModel" 171 "HostBenchModel" "calls" "I" ∈ tT := tw4 197 rfl rfl
theorem tw_993 : Cond.fieldLink "HostBenchModel" 16 "HostBenchModel" "latest" "I" ∈ tT := tw4 198 rfl rfl
theorem tw_994 : Cond.fieldLink "HostBenchModel" 20 "HostBenchModel" "data" "[I" ∈ tT := tw4 199 rfl rfl
theorem tw_995 : Cond.fieldLink "HostBenchModel" 23 "HostBenchModel" "size" "[I" ∈ tT := tw4 200 rfl rfl
theorem tw_996 : Cond.fieldLink "HostBenchModel" 26 "HostBenchModel" "name" "[I" ∈ tT := tw4 201 rfl rfl
theorem tw_997 : Cond.fieldLink "HostBenchModel" 29 "HostBenchModel" "nameSize" "[I" ∈ tT := tw4 202 rfl rfl
theorem tw_998 : Cond.fieldLink "HostBenchModel" 76 "HostBenchModel" "files" "I" ∈ tT := tw4 203 rfl rfl
theorem tw_999 : Cond.fieldLink "HostBenchModel" 32 "HostBenchModel" "kind" "[I" ∈ tT := tw4 204 rfl rfl
theorem tw_1000 : Cond.fieldLink "HostBenchModel" 35 "HostBenchModel" "its" "[I" ∈ tT := tw4 205 rfl rfl
theorem tw_1001 : Cond.fieldLink "HostBenchModel" 38 "HostBenchModel" "place" "[I" ∈ tT := tw4 206 rfl rfl
theorem tw_1002 : Cond.fieldLink "HostBenchModel" 41 "HostBenchModel" "may" "[I" ∈ tT := tw4 207 rfl rfl
theorem tw_1003 : Cond.fieldLink "HostBenchModel" 44 "HostBenchModel" "in" "[I" ∈ tT := tw4 208 rfl rfl
theorem tw_1004 : Cond.fieldLink "HostBenchModel" 87 "HostBenchModel" "waiting" "I" ∈ tT := tw4 209 rfl rfl
theorem tw_1005 : Cond.fieldLink "HostBenchModel" 47 "HostBenchModel" "printed" "[I" ∈ tT := tw4 210 rfl rfl
theorem tw_1006 : Cond.fieldLink "HostBenchModel" 50 "HostBenchModel" "kept" "[I" ∈ tT := tw4 211 rfl rfl
theorem tw_1007 : Cond.fieldLink "HostBenchModel" 53 "HostBenchModel" "prints" "[I" ∈ tT := tw4 212 rfl rfl
theorem tw_1008 : Cond.fieldLink "HostBenchModel" 177 "HostBenchModel" "errno" "I" ∈ tT := tw4 213 rfl rfl
theorem tw_1009 : Cond.fieldLink "HostBenchModel" 56 "HostBenchModel" "command" "[I" ∈ tT := tw4 214 rfl rfl
theorem tw_1010 : Cond.fieldLink "HostBenchModel" 90 "HostBenchModel" "commandSize" "I" ∈ tT := tw4 215 rfl rfl
theorem tw_1011 : Cond.fieldLink "HostBenchModel" 93 "HostBenchModel" "clock" "I" ∈ tT := tw4 216 rfl rfl
theorem tw_1012 : Cond.fieldLink "HostBenchModel" 59 "HostBenchModel" "tape" "[I" ∈ tT := tw4 217 rfl rfl
theorem tw_1013 : Cond.fieldLink "HostBenchModel" 65 "HostBenchModel" "taped" "I" ∈ tT := tw4 218 rfl rfl
theorem tw_1014 : Cond.lays "HostBenchModel" "HostBenchModel" "thrown" "I" ∈ tT := tw4 219 rfl rfl
theorem tw_1016 : Cond.laysFinal "HostBenchModel" "HostBenchModel" "memory" "[I" ∈ tT := tw4 221 rfl rfl
theorem tw_1018 : Cond.laysFinal "HostBenchModel" "HostBenchModel" "x" "[I" ∈ tT := tw4 223 rfl rfl
theorem tw_1020 : Cond.lays "HostBenchModel" "HostBenchModel" "pc" "I" ∈ tT := tw4 225 rfl rfl
theorem tw_1022 : Cond.lays "HostBenchModel" "HostBenchModel" "state" "I" ∈ tT := tw4 227 rfl rfl
theorem tw_1024 : Cond.lays "HostBenchModel" "HostBenchModel" "trap" "I" ∈ tT := tw4 229 rfl rfl
theorem tw_1026 : Cond.lays "HostBenchModel" "HostBenchModel" "code" "I" ∈ tT := tw4 231 rfl rfl
theorem tw_1028 : Cond.lays "HostBenchModel" "HostBenchModel" "steps" "J" ∈ tT := tw4 233 rfl rfl
theorem tw_1030 : Cond.lays "HostBenchModel" "HostBenchModel" "calls" "I" ∈ tT := tw4 235 rfl rfl
theorem tw_1032 : Cond.lays "HostBenchModel" "HostBenchModel" "latest" "I" ∈ tT := tw4 237 rfl rfl
theorem tw_1034 : Cond.laysFinal "HostBenchModel" "HostBenchModel" "data" "[I" ∈ tT := tw4 239 rfl rfl
theorem tw_1036 : Cond.laysFinal "HostBenchModel" "HostBenchModel" "size" "[I" ∈ tT := tw5 1 rfl rfl
theorem tw_1038 : Cond.laysFinal "HostBenchModel" "HostBenchModel" "name" "[I" ∈ tT := tw5 3 rfl rfl
theorem tw_1040 : Cond.laysFinal "HostBenchModel" "HostBenchModel" "nameSize" "[I" ∈ tT := tw5 5 rfl rfl
theorem tw_1042 : Cond.lays "HostBenchModel" "HostBenchModel" "files" "I" ∈ tT := tw5 7 rfl rfl
theorem tw_1044 : Cond.laysFinal "HostBenchModel" "HostBenchModel" "kind" "[I" ∈ tT := tw5 9 rfl rfl
theorem tw_1046 : Cond.laysFinal "HostBenchModel" "HostBenchModel" "its" "[I" ∈ tT := tw5 11 rfl rfl
theorem tw_1048 : Cond.laysFinal "HostBenchModel" "HostBenchModel" "place" "[I" ∈ tT := tw5 13 rfl rfl
theorem tw_1050 : Cond.laysFinal "HostBenchModel" "HostBenchModel" "may" "[I" ∈ tT := tw5 15 rfl rfl
theorem tw_1052 : Cond.laysFinal "HostBenchModel" "HostBenchModel" "in" "[I" ∈ tT := tw5 17 rfl rfl
theorem tw_1054 : Cond.lays "HostBenchModel" "HostBenchModel" "waiting" "I" ∈ tT := tw5 19 rfl rfl
theorem tw_1056 : Cond.laysFinal "HostBenchModel" "HostBenchModel" "printed" "[I" ∈ tT := tw5 21 rfl rfl
theorem tw_1058 : Cond.laysFinal "HostBenchModel" "HostBenchModel" "kept" "[I" ∈ tT := tw5 23 rfl rfl
theorem tw_1060 : Cond.laysFinal "HostBenchModel" "HostBenchModel" "prints" "[I" ∈ tT := tw5 25 rfl rfl
theorem tw_1062 : Cond.lays "HostBenchModel" "HostBenchModel" "errno" "I" ∈ tT := tw5 27 rfl rfl
theorem tw_1064 : Cond.laysFinal "HostBenchModel" "HostBenchModel" "command" "[I" ∈ tT := tw5 29 rfl rfl
theorem tw_1066 : Cond.lays "HostBenchModel" "HostBenchModel" "commandSize" "I" ∈ tT := tw5 31 rfl rfl
theorem tw_1068 : Cond.lays "HostBenchModel" "HostBenchModel" "clock" "I" ∈ tT := tw5 33 rfl rfl
theorem tw_1070 : Cond.laysFinal "HostBenchModel" "HostBenchModel" "tape" "[I" ∈ tT := tw5 35 rfl rfl
theorem tw_1072 : Cond.lays "HostBenchModel" "HostBenchModel" "taped" "I" ∈ tT := tw5 37 rfl rfl
theorem tw_1075 : Cond.methodLink "HostBenchLaw" 69 y_M_thrown ∈ tT := tw5 40 rfl rfl
theorem tw_1076 : Cond.instanceMethod y_M_thrown ∈ tT := tw5 41 rfl rfl
theorem tw_1077 : Cond.selects "HostBenchModel" y_M_thrown y_M_thrown ∈ tT := tw5 42 rfl rfl
theorem tw_1078 : Cond.code y_M_thrown prog_12_method_2_code 1 (some FieldType.int) ∈ tT := tw5 43 rfl rfl
theorem tw_1079 : Cond.methodLink "HostBenchLaw" 57 y_M_feed ∈ tT := tw5 44 rfl rfl
theorem tw_1080 : Cond.instanceMethod y_M_feed ∈ tT := tw5 45 rfl rfl
theorem tw_1081 : Cond.selects "HostBenchModel" y_M_feed y_M_feed ∈ tT := tw5 46 rfl rfl
theorem tw_1082 : Cond.code y_M_feed prog_12_method_4_code 6 (some FieldType.int) ∈ tT := tw5 47 rfl rfl
theorem tw_1083 : Cond.methodLink "HostBenchModel" 68 y_M_four ∈ tT := tw5 48 rfl rfl
theorem tw_1085 : Cond.instanceMethod y_M_four ∈ tT := tw5 50 rfl rfl
theorem tw_1086 : Cond.code y_M_four prog_12_method_3_code 3 none ∈ tT := tw5 51 rfl rfl
theorem tw_1087 : Cond.methodLink "HostBenchLaw" 62 y_M_end ∈ tT := tw5 52 rfl rfl
theorem tw_1088 : Cond.instanceMethod y_M_end ∈ tT := tw5 53 rfl rfl
theorem tw_1089 : Cond.selects "HostBenchModel" y_M_end y_M_end ∈ tT := tw5 54 rfl rfl
theorem tw_1090 : Cond.code y_M_end prog_12_method_5_code 2 (some FieldType.boolean) ∈ tT := tw5 55 rfl rfl
theorem tw_1091 : Cond.methodLink "HostBenchLaw" 68 y_M_put ∈ tT := tw5 56 rfl rfl
theorem tw_1092 : Cond.instanceMethod y_M_put ∈ tT := tw5 57 rfl rfl
theorem tw_1093 : Cond.selects "HostBenchModel" y_M_put y_M_put ∈ tT := tw5 58 rfl rfl
theorem tw_1094 : Cond.code y_M_put prog_12_method_7_code 4 (some FieldType.int) ∈ tT := tw5 59 rfl rfl
theorem tw_1095 : Cond.methodLink "HostBenchModel" 72 y_M_use ∈ tT := tw5 60 rfl rfl
theorem tw_1097 : Cond.instanceMethod y_M_use ∈ tT := tw5 62 rfl rfl
theorem tw_1098 : Cond.code y_M_use prog_12_method_6_code 2 (some FieldType.int) ∈ tT := tw5 63 rfl rfl
theorem tw_1099 : Cond.methodLink "HostBenchLaw" 75 y_M_lay ∈ tT := tw5 64 rfl rfl
theorem tw_1100 : Cond.instanceMethod y_M_lay ∈ tT := tw5 65 rfl rfl
theorem tw_1101 : Cond.selects "HostBenchModel" y_M_lay y_M_lay ∈ tT := tw5 66 rfl rfl
theorem tw_1102 : Cond.code y_M_lay prog_12_method_8_code 5 (some FieldType.int) ∈ tT := tw5 67 rfl rfl
theorem tw_1103 : Cond.methodLink "HostBenchModel" 79 y_M_isNamed ∈ tT := tw5 68 rfl rfl
theorem tw_1105 : Cond.instanceMethod y_M_isNamed ∈ tT := tw5 70 rfl rfl
theorem tw_1106 : Cond.code y_M_isNamed prog_12_method_9_code 5 (some FieldType.boolean) ∈ tT := tw5 71 rfl rfl
theorem tw_1107 : Cond.methodLink "HostBenchModel" 83 y_M_openOf ∈ tT := tw5 72 rfl rfl
theorem tw_1109 : Cond.instanceMethod y_M_openOf ∈ tT := tw5 74 rfl rfl
theorem tw_1110 : Cond.code y_M_openOf prog_12_method_10_code 4 (some FieldType.int) ∈ tT := tw5 75 rfl rfl
theorem tw_1111 : Cond.methodLink "HostBenchLaw" 78 y_M_type ∈ tT := tw5 76 rfl rfl
theorem tw_1112 : Cond.instanceMethod y_M_type ∈ tT := tw5 77 rfl rfl
theorem tw_1113 : Cond.selects "HostBenchModel" y_M_type y_M_type ∈ tT := tw5 78 rfl rfl
theorem tw_1114 : Cond.code y_M_type prog_12_method_11_code 3 (some FieldType.int) ∈ tT := tw5 79 rfl rfl
theorem tw_1115 : Cond.methodLink "HostBenchLaw" 81 y_M_command ∈ tT := tw5 80 rfl rfl
theorem tw_1116 : Cond.instanceMethod y_M_command ∈ tT := tw5 81 rfl rfl
theorem tw_1117 : Cond.selects "HostBenchModel" y_M_command y_M_command ∈ tT := tw5 82 rfl rfl
theorem tw_1118 : Cond.code y_M_command prog_12_method_12_code 4 (some FieldType.int) ∈ tT := tw5 83 rfl rfl
theorem tw_1119 : Cond.methodLink "HostBenchLaw" 86 y_M_clock ∈ tT := tw5 84 rfl rfl
theorem tw_1120 : Cond.instanceMethod y_M_clock ∈ tT := tw5 85 rfl rfl
theorem tw_1121 : Cond.selects "HostBenchModel" y_M_clock y_M_clock ∈ tT := tw5 86 rfl rfl
theorem tw_1122 : Cond.code y_M_clock prog_12_method_13_code 2 none ∈ tT := tw5 87 rfl rfl
theorem tw_1123 : Cond.methodLink "HostBenchLaw" 90 y_M_begin ∈ tT := tw5 88 rfl rfl
theorem tw_1124 : Cond.instanceMethod y_M_begin ∈ tT := tw5 89 rfl rfl
theorem tw_1125 : Cond.selects "HostBenchModel" y_M_begin y_M_begin ∈ tT := tw5 90 rfl rfl
theorem tw_1126 : Cond.code y_M_begin prog_12_method_14_code 2 none ∈ tT := tw5 91 rfl rfl
theorem tw_1127 : Cond.methodLink "HostBenchLaw" 93 y_M_run ∈ tT := tw5 92 rfl rfl
theorem tw_1128 : Cond.instanceMethod y_M_run ∈ tT := tw5 93 rfl rfl
theorem tw_1129 : Cond.selects "HostBenchModel" y_M_run y_M_run ∈ tT := tw5 94 rfl rfl
theorem tw_1130 : Cond.code y_M_run prog_12_method_55_code 3 (some FieldType.int) ∈ tT := tw5 95 rfl rfl
theorem tw_1131 : Cond.methodLink "HostBenchModel" 258 y_M_step ∈ tT := tw5 96 rfl rfl
theorem tw_1133 : Cond.instanceMethod y_M_step ∈ tT := tw5 98 rfl rfl
theorem tw_1134 : Cond.code y_M_step prog_12_method_21_code 6 none ∈ tT := tw5 99 rfl rfl
theorem tw_1135 : Cond.methodLink "HostBenchModel" 120 y_M_stop ∈ tT := tw5 100 rfl rfl
theorem tw_1137 : Cond.instanceMethod y_M_stop ∈ tT := tw5 102 rfl rfl
theorem tw_1138 : Cond.code y_M_stop prog_12_method_19_code 2 none ∈ tT := tw5 103 rfl rfl
theorem tw_1139 : Cond.methodLink "HostBenchModel" 123 y_M_isArea ∈ tT := tw5 104 rfl rfl
theorem tw_1140 : Cond.static y_M_isArea ∈ tT := tw5 105 rfl rfl
theorem tw_1141 : Cond.code y_M_isArea prog_12_method_16_code 2 (some FieldType.boolean) ∈ tT := tw5 106 rfl rfl
theorem tw_1142 : Cond.methodLink "HostBenchModel" 110 y_M_whole ∈ tT := tw5 107 rfl rfl
theorem tw_1143 : Cond.static y_M_whole ∈ tT := tw5 108 rfl rfl
theorem tw_1144 : Cond.code y_M_whole prog_12_method_15_code 1 (some FieldType.long) ∈ tT := tw5 109 rfl rfl
theorem tw_1145 : Cond.constantLong "HostBenchModel" 108 (4294967295 : Int64) ∈ tT := tw5 110 rfl rfl
theorem tw_1146 : Cond.constantLong "HostBenchModel" 114 (16384 : Int64) ∈ tT := tw5 111 rfl rfl
theorem tw_1147 : Cond.methodLink "HostBenchModel" 126 y_M_word ∈ tT := tw5 112 rfl rfl
theorem tw_1149 : Cond.instanceMethod y_M_word ∈ tT := tw5 114 rfl rfl
theorem tw_1150 : Cond.code y_M_word prog_12_method_17_code 2 (some FieldType.int) ∈ tT := tw5 115 rfl rfl
theorem tw_1151 : Cond.methodLink "HostBenchModel" 129 y_M_comes ∈ tT := tw5 116 rfl rfl
theorem tw_1153 : Cond.instanceMethod y_M_comes ∈ tT := tw5 118 rfl rfl
theorem tw_1154 : Cond.code y_M_comes prog_12_method_20_code 3 none ∈ tT := tw5 119 rfl rfl
theorem tw_1155 : Cond.constant "HostBenchModel" 133 (1044480 : Int32) ∈ tT := tw5 120 rfl rfl
theorem tw_1156 : Cond.methodLink "HostBenchModel" 134 y_M_jump ∈ tT := tw5 121 rfl rfl
theorem tw_1158 : Cond.instanceMethod y_M_jump ∈ tT := tw5 123 rfl rfl
theorem tw_1159 : Cond.code y_M_jump prog_12_method_22_code 3 none ∈ tT := tw5 124 rfl rfl
theorem tw_1160 : Cond.methodLink "HostBenchModel" 137 y_M_branch ∈ tT := tw5 125 rfl rfl
theorem tw_1162 : Cond.instanceMethod y_M_branch ∈ tT := tw5 127 rfl rfl
theorem tw_1163 : Cond.code y_M_branch prog_12_method_23_code 7 none ∈ tT := tw5 128 rfl rfl
theorem tw_1164 : Cond.methodLink "HostBenchModel" 141 y_M_load ∈ tT := tw5 129 rfl rfl
theorem tw_1166 : Cond.instanceMethod y_M_load ∈ tT := tw5 131 rfl rfl
theorem tw_1167 : Cond.code y_M_load prog_12_method_24_code 7 none ∈ tT := tw5 132 rfl rfl
theorem tw_1168 : Cond.methodLink "HostBenchModel" 145 y_M_store ∈ tT := tw5 133 rfl rfl
theorem tw_1170 : Cond.instanceMethod y_M_store ∈ tT := tw5 135 rfl rfl
theorem tw_1171 : Cond.code y_M_store prog_12_method_25_code 5 none ∈ tT := tw5 136 rfl rfl
theorem tw_1172 : Cond.methodLink "HostBenchModel" 159 y_M_lays ∈ tT := tw5 137 rfl rfl
theorem tw_1174 : Cond.instanceMethod y_M_lays ∈ tT := tw5 139 rfl rfl
theorem tw_1175 : Cond.code y_M_lays prog_12_method_18_code 5 none ∈ tT := tw5 140 rfl rfl
theorem tw_1176 : Cond.methodLink "HostBenchModel" 148 y_M_small ∈ tT := tw5 141 rfl rfl
theorem tw_1178 : Cond.instanceMethod y_M_small ∈ tT := tw5 143 rfl rfl
theorem tw_1179 : Cond.code y_M_small prog_12_method_26_code 9 none ∈ tT := tw5 144 rfl rfl
theorem tw_1180 : Cond.methodLink "HostBenchModel" 151 y_M_two ∈ tT := tw5 145 rfl rfl
theorem tw_1182 : Cond.instanceMethod y_M_two ∈ tT := tw5 147 rfl rfl
theorem tw_1183 : Cond.code y_M_two prog_12_method_27_code 6 none ∈ tT := tw5 148 rfl rfl
theorem tw_1184 : Cond.methodLink "HostBenchModel" 162 y_M_times ∈ tT := tw5 149 rfl rfl
theorem tw_1185 : Cond.static y_M_times ∈ tT := tw5 150 rfl rfl
theorem tw_1186 : Cond.code y_M_times prog_12_method_29_code 3 (some FieldType.int) ∈ tT := tw5 151 rfl rfl
theorem tw_1187 : Cond.methodLink "HostBenchModel" 166 y_M_plain ∈ tT := tw5 152 rfl rfl
theorem tw_1188 : Cond.static y_M_plain ∈ tT := tw5 153 rfl rfl
theorem tw_1189 : Cond.code y_M_plain prog_12_method_28_code 3 (some FieldType.int) ∈ tT := tw5 154 rfl rfl
theorem tw_1190 : Cond.constant "HostBenchModel" 155 (1048691 : Int32) ∈ tT := tw5 155 rfl rfl
theorem tw_1191 : Cond.methodLink "HostBenchModel" 156 y_M_breaks ∈ tT := tw5 156 rfl rfl
theorem tw_1193 : Cond.instanceMethod y_M_breaks ∈ tT := tw5 158 rfl rfl
theorem tw_1194 : Cond.code y_M_breaks prog_12_method_30_code 2 none ∈ tT := tw5 159 rfl rfl
theorem tw_1195 : Cond.constant "HostBenchModel" 169 (32509971 : Int32) ∈ tT := tw5 160 rfl rfl
theorem tw_1196 : Cond.constant "HostBenchModel" 170 (1081102355 : Int32) ∈ tT := tw5 161 rfl rfl
theorem tw_1197 : Cond.methodLink "HostBenchModel" 174 y_M_call ∈ tT := tw5 162 rfl rfl
theorem tw_1199 : Cond.instanceMethod y_M_call ∈ tT := tw5 164 rfl rfl
theorem tw_1200 : Cond.code y_M_call prog_12_method_35_code 4 none ∈ tT := tw5 165 rfl rfl
theorem tw_1201 : Cond.methodLink "HostBenchModel" 180 y_M_fieldsOf ∈ tT := tw5 166 rfl rfl
theorem tw_1202 : Cond.static y_M_fieldsOf ∈ tT := tw5 167 rfl rfl
theorem tw_1203 : Cond.code y_M_fieldsOf prog_12_method_33_code 1 (some FieldType.int) ∈ tT := tw5 168 rfl rfl
theorem tw_1204 : Cond.methodLink "HostBenchModel" 183 y_M_fails ∈ tT := tw5 169 rfl rfl
theorem tw_1206 : Cond.instanceMethod y_M_fails ∈ tT := tw5 171 rfl rfl
theorem tw_1207 : Cond.code y_M_fails prog_12_method_32_code 2 none ∈ tT := tw5 172 rfl rfl
theorem tw_1208 : Cond.methodLink "HostBenchModel" 186 y_M_open ∈ tT := tw5 173 rfl rfl
theorem tw_1210 : Cond.instanceMethod y_M_open ∈ tT := tw5 175 rfl rfl
theorem tw_1211 : Cond.code y_M_open prog_12_method_40_code 8 none ∈ tT := tw5 176 rfl rfl
theorem tw_1212 : Cond.methodLink "HostBenchModel" 189 y_M_field ∈ tT := tw5 177 rfl rfl
theorem tw_1214 : Cond.instanceMethod y_M_field ∈ tT := tw5 179 rfl rfl
theorem tw_1215 : Cond.code y_M_field prog_12_method_34_code 2 (some FieldType.int) ∈ tT := tw5 180 rfl rfl
theorem tw_1216 : Cond.methodLink "HostBenchModel" 240 y_M_nameFault ∈ tT := tw5 181 rfl rfl
theorem tw_1218 : Cond.instanceMethod y_M_nameFault ∈ tT := tw5 183 rfl rfl
theorem tw_1219 : Cond.code y_M_nameFault prog_12_method_38_code 5 (some FieldType.int) ∈ tT := tw5 184 rfl rfl
theorem tw_1220 : Cond.methodLink "HostBenchModel" 244 y_M_opened ∈ tT := tw5 185 rfl rfl
theorem tw_1222 : Cond.instanceMethod y_M_opened ∈ tT := tw5 187 rfl rfl
theorem tw_1223 : Cond.code y_M_opened prog_12_method_41_code 5 none ∈ tT := tw5 188 rfl rfl
theorem tw_1224 : Cond.methodLink "HostBenchModel" 196 y_M_answer ∈ tT := tw5 189 rfl rfl
theorem tw_1226 : Cond.instanceMethod y_M_answer ∈ tT := tw5 191 rfl rfl
theorem tw_1227 : Cond.code y_M_answer prog_12_method_31_code 2 none ∈ tT := tw5 192 rfl rfl
theorem tw_1228 : Cond.methodLink "HostBenchModel" 247 y_M_find ∈ tT := tw5 193 rfl rfl
theorem tw_1230 : Cond.instanceMethod y_M_find ∈ tT := tw5 195 rfl rfl
theorem tw_1231 : Cond.code y_M_find prog_12_method_39_code 6 (some FieldType.int) ∈ tT := tw5 196 rfl rfl
theorem tw_1232 : Cond.methodLink "HostBenchModel" 192 y_M_isOpen ∈ tT := tw5 197 rfl rfl
theorem tw_1234 : Cond.instanceMethod y_M_isOpen ∈ tT := tw5 199 rfl rfl
theorem tw_1235 : Cond.code y_M_isOpen prog_12_method_37_code 2 (some FieldType.boolean) ∈ tT := tw5 200 rfl rfl
theorem tw_1236 : Cond.methodLink "HostBenchModel" 199 y_M_prints ∈ tT := tw5 201 rfl rfl
theorem tw_1238 : Cond.instanceMethod y_M_prints ∈ tT := tw5 203 rfl rfl
theorem tw_1239 : Cond.code y_M_prints prog_12_method_42_code 3 none ∈ tT := tw5 204 rfl rfl
theorem tw_1240 : Cond.methodLink "HostBenchModel" 201 y_M_writeUpToZero ∈ tT := tw5 205 rfl rfl
theorem tw_1242 : Cond.instanceMethod y_M_writeUpToZero ∈ tT := tw5 207 rfl rfl
theorem tw_1243 : Cond.code y_M_writeUpToZero prog_12_method_43_code 5 none ∈ tT := tw5 208 rfl rfl
theorem tw_1244 : Cond.methodLink "HostBenchModel" 204 y_M_write ∈ tT := tw5 209 rfl rfl
theorem tw_1246 : Cond.instanceMethod y_M_write ∈ tT := tw5 211 rfl rfl
theorem tw_1247 : Cond.code y_M_write prog_12_method_45_code 6 none ∈ tT := tw5 212 rfl rfl
theorem tw_1248 : Cond.methodLink "HostBenchModel" 250 y_M_failsWith ∈ tT := tw5 213 rfl rfl
theorem tw_1250 : Cond.instanceMethod y_M_failsWith ∈ tT := tw5 215 rfl rfl
theorem tw_1251 : Cond.code y_M_failsWith prog_12_method_44_code 3 none ∈ tT := tw5 216 rfl rfl
theorem tw_1252 : Cond.methodLink "HostBenchModel" 207 y_M_read ∈ tT := tw5 217 rfl rfl
theorem tw_1254 : Cond.instanceMethod y_M_read ∈ tT := tw5 219 rfl rfl
theorem tw_1255 : Cond.code y_M_read prog_12_method_47_code 6 none ∈ tT := tw5 220 rfl rfl
theorem tw_1256 : Cond.methodLink "HostBenchModel" 210 y_M_takeIn ∈ tT := tw5 221 rfl rfl
theorem tw_1258 : Cond.instanceMethod y_M_takeIn ∈ tT := tw5 223 rfl rfl
theorem tw_1259 : Cond.code y_M_takeIn prog_12_method_46_code 3 (some FieldType.int) ∈ tT := tw5 224 rfl rfl
theorem tw_1260 : Cond.methodLink "HostBenchModel" 213 y_M_more ∈ tT := tw5 225 rfl rfl
theorem tw_1262 : Cond.instanceMethod y_M_more ∈ tT := tw5 227 rfl rfl
theorem tw_1263 : Cond.code y_M_more prog_12_method_36_code 3 none ∈ tT := tw5 228 rfl rfl
theorem tw_1264 : Cond.methodLink "HostBenchModel" 216 y_M_seek ∈ tT := tw5 229 rfl rfl
theorem tw_1266 : Cond.instanceMethod y_M_seek ∈ tT := tw5 231 rfl rfl
theorem tw_1267 : Cond.code y_M_seek prog_12_method_48_code 3 none ∈ tT := tw5 232 rfl rfl
theorem tw_1268 : Cond.methodLink "HostBenchModel" 219 y_M_temporary ∈ tT := tw5 233 rfl rfl
theorem tw_1270 : Cond.instanceMethod y_M_temporary ∈ tT := tw5 235 rfl rfl
theorem tw_1271 : Cond.code y_M_temporary prog_12_method_49_code 4 none ∈ tT := tw5 236 rfl rfl
theorem tw_1272 : Cond.constantLong "HostBenchModel" 253 (255 : Int64) ∈ tT := tw5 237 rfl rfl
theorem tw_1273 : Cond.constantLong "HostBenchModel" 255 (7 : Int64) ∈ tT := tw5 238 rfl rfl
theorem tw_1274 : Cond.constant "HostBenchModel" 257 (7368052 : Int32) ∈ tT := tw5 239 rfl rfl
theorem tw_1275 : Cond.methodLink "HostBenchModel" 222 y_M_remove ∈ tT := tw6 0 rfl rfl
theorem tw_1277 : Cond.instanceMethod y_M_remove ∈ tT := tw6 2 rfl rfl
theorem tw_1278 : Cond.code y_M_remove prog_12_method_50_code 7 none ∈ tT := tw6 3 rfl rfl
theorem tw_1279 : Cond.methodLink "HostBenchModel" 225 y_M_rename ∈ tT := tw6 4 rfl rfl
theorem tw_1281 : Cond.instanceMethod y_M_rename ∈ tT := tw6 6 rfl rfl
theorem tw_1282 : Cond.code y_M_rename prog_12_method_51_code 9 none ∈ tT := tw6 7 rfl rfl
theorem tw_1283 : Cond.constantLong "HostBenchModel" 228 (100 : Int64) ∈ tT := tw6 8 rfl rfl
theorem tw_1284 : Cond.methodLink "HostBenchModel" 230 y_M_commandTo ∈ tT := tw6 9 rfl rfl
theorem tw_1286 : Cond.instanceMethod y_M_commandTo ∈ tT := tw6 11 rfl rfl
theorem tw_1287 : Cond.code y_M_commandTo prog_12_method_52_code 4 none ∈ tT := tw6 12 rfl rfl
theorem tw_1288 : Cond.methodLink "HostBenchModel" 233 y_M_heap ∈ tT := tw6 13 rfl rfl
theorem tw_1290 : Cond.instanceMethod y_M_heap ∈ tT := tw6 15 rfl rfl
theorem tw_1291 : Cond.code y_M_heap prog_12_method_53_code 2 none ∈ tT := tw6 16 rfl rfl
theorem tw_1292 : Cond.constant "HostBenchModel" 236 (131110 : Int32) ∈ tT := tw6 17 rfl rfl
theorem tw_1293 : Cond.methodLink "HostBenchModel" 237 y_M_elapsed ∈ tT := tw6 18 rfl rfl
theorem tw_1295 : Cond.instanceMethod y_M_elapsed ∈ tT := tw6 20 rfl rfl
theorem tw_1296 : Cond.code y_M_elapsed prog_12_method_54_code 2 none ∈ tT := tw6 21 rfl rfl
theorem tw_1297 : Cond.methodLink "HostBenchLaw" 97 y_M_state ∈ tT := tw6 22 rfl rfl
theorem tw_1298 : Cond.instanceMethod y_M_state ∈ tT := tw6 23 rfl rfl
theorem tw_1299 : Cond.selects "HostBenchModel" y_M_state y_M_state ∈ tT := tw6 24 rfl rfl
theorem tw_1300 : Cond.code y_M_state prog_12_method_56_code 1 (some FieldType.int) ∈ tT := tw6 25 rfl rfl
theorem tw_1301 : Cond.methodLink "HostBenchLaw" 100 y_M_look ∈ tT := tw6 26 rfl rfl
theorem tw_1302 : Cond.instanceMethod y_M_look ∈ tT := tw6 27 rfl rfl
theorem tw_1303 : Cond.selects "HostBenchModel" y_M_look y_M_look ∈ tT := tw6 28 rfl rfl
theorem tw_1304 : Cond.code y_M_look prog_12_method_57_code 2 (some FieldType.int) ∈ tT := tw6 29 rfl rfl
theorem tw_1305 : Cond.methodLink "HostBenchLaw" 103 y_M_register ∈ tT := tw6 30 rfl rfl
theorem tw_1306 : Cond.instanceMethod y_M_register ∈ tT := tw6 31 rfl rfl
theorem tw_1307 : Cond.selects "HostBenchModel" y_M_register y_M_register ∈ tT := tw6 32 rfl rfl
theorem tw_1308 : Cond.code y_M_register prog_12_method_58_code 2 (some FieldType.int) ∈ tT := tw6 33 rfl rfl
theorem tw_1309 : Cond.methodLink "HostBenchLaw" 108 y_M_set ∈ tT := tw6 34 rfl rfl
theorem tw_1310 : Cond.instanceMethod y_M_set ∈ tT := tw6 35 rfl rfl
theorem tw_1311 : Cond.selects "HostBenchModel" y_M_set y_M_set ∈ tT := tw6 36 rfl rfl
theorem tw_1312 : Cond.code y_M_set prog_12_method_59_code 3 (some FieldType.boolean) ∈ tT := tw6 37 rfl rfl
theorem tw_1313 : Cond.methodLink "HostBenchLaw" 112 y_M_peek ∈ tT := tw6 38 rfl rfl
theorem tw_1314 : Cond.instanceMethod y_M_peek ∈ tT := tw6 39 rfl rfl
theorem tw_1315 : Cond.selects "HostBenchModel" y_M_peek y_M_peek ∈ tT := tw6 40 rfl rfl
theorem tw_1316 : Cond.code y_M_peek prog_12_method_60_code 2 (some FieldType.int) ∈ tT := tw6 41 rfl rfl
theorem tw_1317 : Cond.methodLink "HostBenchLaw" 116 y_M_files ∈ tT := tw6 42 rfl rfl
theorem tw_1318 : Cond.instanceMethod y_M_files ∈ tT := tw6 43 rfl rfl
theorem tw_1319 : Cond.selects "HostBenchModel" y_M_files y_M_files ∈ tT := tw6 44 rfl rfl
theorem tw_1320 : Cond.code y_M_files prog_12_method_61_code 1 (some FieldType.int) ∈ tT := tw6 45 rfl rfl
theorem tw_1321 : Cond.methodLink "HostBenchLaw" 120 y_M_file ∈ tT := tw6 46 rfl rfl
theorem tw_1322 : Cond.instanceMethod y_M_file ∈ tT := tw6 47 rfl rfl
theorem tw_1323 : Cond.selects "HostBenchModel" y_M_file y_M_file ∈ tT := tw6 48 rfl rfl
theorem tw_1324 : Cond.code y_M_file prog_12_method_62_code 3 (some FieldType.int) ∈ tT := tw6 49 rfl rfl
theorem tw_1325 : Cond.methodLink "HostBenchLaw" 125 y_M_fileByte ∈ tT := tw6 50 rfl rfl
theorem tw_1326 : Cond.instanceMethod y_M_fileByte ∈ tT := tw6 51 rfl rfl
theorem tw_1327 : Cond.selects "HostBenchModel" y_M_fileByte y_M_fileByte ∈ tT := tw6 52 rfl rfl
theorem tw_1328 : Cond.code y_M_fileByte prog_12_method_63_code 4 (some FieldType.int) ∈ tT := tw6 53 rfl rfl
theorem tw_1329 : Cond.methodLink "HostBenchLaw" 128 y_M_handle ∈ tT := tw6 54 rfl rfl
theorem tw_1330 : Cond.instanceMethod y_M_handle ∈ tT := tw6 55 rfl rfl
theorem tw_1331 : Cond.selects "HostBenchModel" y_M_handle y_M_handle ∈ tT := tw6 56 rfl rfl
theorem tw_1332 : Cond.code y_M_handle prog_12_method_64_code 3 (some FieldType.int) ∈ tT := tw6 57 rfl rfl
theorem tw_1333 : Cond.methodLink "HostBenchLaw" 132 y_M_printed ∈ tT := tw6 58 rfl rfl
theorem tw_1334 : Cond.instanceMethod y_M_printed ∈ tT := tw6 59 rfl rfl
theorem tw_1335 : Cond.selects "HostBenchModel" y_M_printed y_M_printed ∈ tT := tw6 60 rfl rfl
theorem tw_1336 : Cond.code y_M_printed prog_12_method_65_code 2 (some FieldType.int) ∈ tT := tw6 61 rfl rfl
theorem tw_1337 : Cond.methodLink "HostBenchLaw" 136 y_M_print ∈ tT := tw6 62 rfl rfl
theorem tw_1338 : Cond.instanceMethod y_M_print ∈ tT := tw6 63 rfl rfl
theorem tw_1339 : Cond.selects "HostBenchModel" y_M_print y_M_print ∈ tT := tw6 64 rfl rfl
theorem tw_1340 : Cond.code y_M_print prog_12_method_66_code 3 (some FieldType.int) ∈ tT := tw6 65 rfl rfl
theorem tw_1341 : Cond.arrayClass FieldType.long ∈ tT := tw6 66 rfl rfl
end
section
def TX0 : u_T := fun k => match k with
  | 0 => ("HostBench$Bytes", "room", "[B", true)
  | _ => ("HostBench$Bytes", "size", "I", false)
def tyX0 : Nat → FieldType := fun k => match k with
  | 0 => .array .byte
  | _ => .int
theorem inX0 : ∀ w ∈ u_ws "HostBench$Bytes" TX0 2, w ∈ tT := by
  intro w h
  obtain ⟨k, hk, rfl⟩ := List.mem_map.mp h
  have hk := List.mem_range.mp hk
  exact match k, hk with
    | 0, _ => tw_115
    | 1, _ => tw_117
    | n + 2, h => absurd h (by omega)
theorem nmX0 : ∀ a, a < 2 → ∀ b, b < 2 → a ≠ b → (TX0 a).2.1 ≠ (TX0 b).2.1 := by decide +kernel
theorem tyX0_ok : ∀ k, k < 2 → parseFieldDescriptor (TX0 k).2.2.1 = some (tyX0 k) := by decide +kernel
def TX1 : u_T := fun k => match k with
  | _ => ("HostBench$Desk", "handles", "[LHostBench$Handle;", true)
def tyX1 : Nat → FieldType := fun k => match k with
  | _ => .array (.object "HostBench$Handle")
theorem inX1 : ∀ w ∈ u_ws "HostBench$Desk" TX1 1, w ∈ tT := by
  intro w h
  obtain ⟨k, hk, rfl⟩ := List.mem_map.mp h
  have hk := List.mem_range.mp hk
  exact match k, hk with
    | 0, _ => tw_250
    | n + 1, h => absurd h (by omega)
theorem nmX1 : ∀ a, a < 1 → ∀ b, b < 1 → a ≠ b → (TX1 a).2.1 ≠ (TX1 b).2.1 := by decide +kernel
theorem tyX1_ok : ∀ k, k < 1 → parseFieldDescriptor (TX1 k).2.2.1 = some (tyX1 k) := by decide +kernel
def TX2 : u_T := fun k => match k with
  | 0 => ("HostBench$Folder", "files", "[LHostBench$HostFile;", true)
  | _ => ("HostBench$Folder", "count", "I", false)
def tyX2 : Nat → FieldType := fun k => match k with
  | 0 => .array (.object "HostBench$HostFile")
  | _ => .int
theorem inX2 : ∀ w ∈ u_ws "HostBench$Folder" TX2 2, w ∈ tT := by
  intro w h
  obtain ⟨k, hk, rfl⟩ := List.mem_map.mp h
  have hk := List.mem_range.mp hk
  exact match k, hk with
    | 0, _ => tw_209
    | 1, _ => tw_211
    | n + 2, h => absurd h (by omega)
theorem nmX2 : ∀ a, a < 2 → ∀ b, b < 2 → a ≠ b → (TX2 a).2.1 ≠ (TX2 b).2.1 := by decide +kernel
theorem tyX2_ok : ∀ k, k < 2 → parseFieldDescriptor (TX2 k).2.2.1 = some (tyX2 k) := by decide +kernel
def TX3 : u_T := fun k => match k with
  | 0 => ("HostBench$Guest", "memory", "LHostBench$Memory;", true)
  | 1 => ("HostBench$Guest", "registers", "[I", true)
  | 2 => ("HostBench$Guest", "pc", "I", false)
  | 3 => ("HostBench$Guest", "next", "I", false)
  | 4 => ("HostBench$Guest", "state", "I", false)
  | 5 => ("HostBench$Guest", "trap", "I", false)
  | 6 => ("HostBench$Guest", "code", "I", false)
  | _ => ("HostBench$Guest", "steps", "J", false)
def tyX3 : Nat → FieldType := fun k => match k with
  | 0 => .object "HostBench$Memory"
  | 1 => .array .int
  | 2 => .int
  | 3 => .int
  | 4 => .int
  | 5 => .int
  | 6 => .int
  | _ => .long
theorem inX3 : ∀ w ∈ u_ws "HostBench$Guest" TX3 8, w ∈ tT := by
  intro w h
  obtain ⟨k, hk, rfl⟩ := List.mem_map.mp h
  have hk := List.mem_range.mp hk
  exact match k, hk with
    | 0, _ => tw_161
    | 1, _ => tw_163
    | 2, _ => tw_165
    | 3, _ => tw_167
    | 4, _ => tw_169
    | 5, _ => tw_171
    | 6, _ => tw_173
    | 7, _ => tw_175
    | n + 8, h => absurd h (by omega)
theorem nmX3 : ∀ a, a < 8 → ∀ b, b < 8 → a ≠ b → (TX3 a).2.1 ≠ (TX3 b).2.1 := by decide +kernel
theorem tyX3_ok : ∀ k, k < 8 → parseFieldDescriptor (TX3 k).2.2.1 = some (tyX3 k) := by decide +kernel
def TX4 : u_T := fun k => match k with
  | 0 => ("HostBench$Handle", "kind", "I", false)
  | 1 => ("HostBench$Handle", "file", "LHostBench$HostFile;", false)
  | 2 => ("HostBench$Handle", "place", "I", false)
  | _ => ("HostBench$Handle", "rights", "I", false)
def tyX4 : Nat → FieldType := fun k => match k with
  | 0 => .int
  | 1 => .object "HostBench$HostFile"
  | 2 => .int
  | _ => .int
theorem inX4 : ∀ w ∈ u_ws "HostBench$Handle" TX4 4, w ∈ tT := by
  intro w h
  obtain ⟨k, hk, rfl⟩ := List.mem_map.mp h
  have hk := List.mem_range.mp hk
  exact match k, hk with
    | 0, _ => tw_240
    | 1, _ => tw_242
    | 2, _ => tw_244
    | 3, _ => tw_246
    | n + 4, h => absurd h (by omega)
theorem nmX4 : ∀ a, a < 4 → ∀ b, b < 4 → a ≠ b → (TX4 a).2.1 ≠ (TX4 b).2.1 := by decide +kernel
theorem tyX4_ok : ∀ k, k < 4 → parseFieldDescriptor (TX4 k).2.2.1 = some (tyX4 k) := by decide +kernel
def TX5 : u_T := fun k => match k with
  | 0 => ("HostBench$Host", "guest", "LHostBench$Guest;", true)
  | 1 => ("HostBench$Host", "memory", "LHostBench$Memory;", true)
  | 2 => ("HostBench$Host", "folder", "LHostBench$Folder;", true)
  | 3 => ("HostBench$Host", "desk", "LHostBench$Desk;", true)
  | 4 => ("HostBench$Host", "input", "LHostBench$Bytes;", true)
  | 5 => ("HostBench$Host", "out", "LHostBench$Output;", true)
  | 6 => ("HostBench$Host", "err", "LHostBench$Output;", true)
  | 7 => ("HostBench$Host", "command", "LHostBench$Bytes;", true)
  | 8 => ("HostBench$Host", "firstName", "LHostBench$Bytes;", true)
  | 9 => ("HostBench$Host", "secondName", "LHostBench$Bytes;", true)
  | 10 => ("HostBench$Host", "block", "I", false)
  | 11 => ("HostBench$Host", "errno", "I", false)
  | 12 => ("HostBench$Host", "seconds", "I", false)
  | 13 => ("HostBench$Host", "calls", "I", false)
  | _ => ("HostBench$Host", "latest", "I", false)
def tyX5 : Nat → FieldType := fun k => match k with
  | 0 => .object "HostBench$Guest"
  | 1 => .object "HostBench$Memory"
  | 2 => .object "HostBench$Folder"
  | 3 => .object "HostBench$Desk"
  | 4 => .object "HostBench$Bytes"
  | 5 => .object "HostBench$Output"
  | 6 => .object "HostBench$Output"
  | 7 => .object "HostBench$Bytes"
  | 8 => .object "HostBench$Bytes"
  | 9 => .object "HostBench$Bytes"
  | 10 => .int
  | 11 => .int
  | 12 => .int
  | 13 => .int
  | _ => .int
theorem inX5 : ∀ w ∈ u_ws "HostBench$Host" TX5 15, w ∈ tT := by
  intro w h
  obtain ⟨k, hk, rfl⟩ := List.mem_map.mp h
  have hk := List.mem_range.mp hk
  exact match k, hk with
    | 0, _ => tw_298
    | 1, _ => tw_300
    | 2, _ => tw_302
    | 3, _ => tw_304
    | 4, _ => tw_306
    | 5, _ => tw_308
    | 6, _ => tw_310
    | 7, _ => tw_312
    | 8, _ => tw_314
    | 9, _ => tw_316
    | 10, _ => tw_318
    | 11, _ => tw_320
    | 12, _ => tw_322
    | 13, _ => tw_324
    | 14, _ => tw_326
    | n + 15, h => absurd h (by omega)
theorem nmX5 : ∀ a, a < 15 → ∀ b, b < 15 → a ≠ b → (TX5 a).2.1 ≠ (TX5 b).2.1 := by decide +kernel
theorem tyX5_ok : ∀ k, k < 15 → parseFieldDescriptor (TX5 k).2.2.1 = some (tyX5 k) := by decide +kernel
def TX6 : u_T := fun k => match k with
  | 0 => ("HostBench$HostFile", "name", "LHostBench$Bytes;", true)
  | _ => ("HostBench$HostFile", "content", "LHostBench$Bytes;", true)
def tyX6 : Nat → FieldType := fun k => match k with
  | 0 => .object "HostBench$Bytes"
  | _ => .object "HostBench$Bytes"
theorem inX6 : ∀ w ∈ u_ws "HostBench$HostFile" TX6 2, w ∈ tT := by
  intro w h
  obtain ⟨k, hk, rfl⟩ := List.mem_map.mp h
  have hk := List.mem_range.mp hk
  exact match k, hk with
    | 0, _ => tw_201
    | 1, _ => tw_203
    | n + 2, h => absurd h (by omega)
theorem nmX6 : ∀ a, a < 2 → ∀ b, b < 2 → a ≠ b → (TX6 a).2.1 ≠ (TX6 b).2.1 := by decide +kernel
theorem tyX6_ok : ∀ k, k < 2 → parseFieldDescriptor (TX6 k).2.2.1 = some (tyX6 k) := by decide +kernel
def TX7 : u_T := fun k => match k with
  | _ => ("HostBench$Memory", "bytes", "[B", true)
def tyX7 : Nat → FieldType := fun k => match k with
  | _ => .array .byte
theorem inX7 : ∀ w ∈ u_ws "HostBench$Memory" TX7 1, w ∈ tT := by
  intro w h
  obtain ⟨k, hk, rfl⟩ := List.mem_map.mp h
  have hk := List.mem_range.mp hk
  exact match k, hk with
    | 0, _ => tw_140
    | n + 1, h => absurd h (by omega)
theorem nmX7 : ∀ a, a < 1 → ∀ b, b < 1 → a ≠ b → (TX7 a).2.1 ≠ (TX7 b).2.1 := by decide +kernel
theorem tyX7_ok : ∀ k, k < 1 → parseFieldDescriptor (TX7 k).2.2.1 = some (tyX7 k) := by decide +kernel
def TX8 : u_T := fun k => match k with
  | 0 => ("HostBench$Output", "kept", "LHostBench$Bytes;", true)
  | _ => ("HostBench$Output", "total", "I", false)
def tyX8 : Nat → FieldType := fun k => match k with
  | 0 => .object "HostBench$Bytes"
  | _ => .int
theorem inX8 : ∀ w ∈ u_ws "HostBench$Output" TX8 2, w ∈ tT := by
  intro w h
  obtain ⟨k, hk, rfl⟩ := List.mem_map.mp h
  have hk := List.mem_range.mp hk
  exact match k, hk with
    | 0, _ => tw_267
    | 1, _ => tw_269
    | n + 2, h => absurd h (by omega)
theorem nmX8 : ∀ a, a < 2 → ∀ b, b < 2 → a ≠ b → (TX8 a).2.1 ≠ (TX8 b).2.1 := by decide +kernel
theorem tyX8_ok : ∀ k, k < 2 → parseFieldDescriptor (TX8 k).2.2.1 = some (tyX8 k) := by decide +kernel
def TX9 : u_T := fun k => match k with
  | 0 => ("HostBench", "tape", "LHostBench$Bytes;", true)
  | 1 => ("HostBench", "laidName", "LHostBench$Bytes;", true)
  | 2 => ("HostBench", "fed", "[I", true)
  | 3 => ("HostBench", "host", "LHostBench$Host;", true)
  | 4 => ("HostBench", "folder", "LHostBench$Folder;", true)
  | 5 => ("HostBench", "desk", "LHostBench$Desk;", true)
  | 6 => ("HostBench", "guest", "LHostBench$Guest;", true)
  | _ => ("HostBench", "memory", "LHostBench$Memory;", true)
def tyX9 : Nat → FieldType := fun k => match k with
  | 0 => .object "HostBench$Bytes"
  | 1 => .object "HostBench$Bytes"
  | 2 => .array .int
  | 3 => .object "HostBench$Host"
  | 4 => .object "HostBench$Folder"
  | 5 => .object "HostBench$Desk"
  | 6 => .object "HostBench$Guest"
  | _ => .object "HostBench$Memory"
theorem inX9 : ∀ w ∈ u_ws "HostBench" TX9 8, w ∈ tT := by
  intro w h
  obtain ⟨k, hk, rfl⟩ := List.mem_map.mp h
  have hk := List.mem_range.mp hk
  exact match k, hk with
    | 0, _ => tw_337
    | 1, _ => tw_339
    | 2, _ => tw_341
    | 3, _ => tw_343
    | 4, _ => tw_345
    | 5, _ => tw_347
    | 6, _ => tw_349
    | 7, _ => tw_351
    | n + 8, h => absurd h (by omega)
theorem nmX9 : ∀ a, a < 8 → ∀ b, b < 8 → a ≠ b → (TX9 a).2.1 ≠ (TX9 b).2.1 := by decide +kernel
theorem tyX9_ok : ∀ k, k < 8 → parseFieldDescriptor (TX9 k).2.2.1 = some (tyX9 k) := by decide +kernel
def TX10 : u_T := fun k => match k with
  | 0 => ("HostBenchModel", "thrown", "I", false)
  | 1 => ("HostBenchModel", "memory", "[I", true)
  | 2 => ("HostBenchModel", "x", "[I", true)
  | 3 => ("HostBenchModel", "pc", "I", false)
  | 4 => ("HostBenchModel", "state", "I", false)
  | 5 => ("HostBenchModel", "trap", "I", false)
  | 6 => ("HostBenchModel", "code", "I", false)
  | 7 => ("HostBenchModel", "steps", "J", false)
  | 8 => ("HostBenchModel", "calls", "I", false)
  | 9 => ("HostBenchModel", "latest", "I", false)
  | 10 => ("HostBenchModel", "data", "[I", true)
  | 11 => ("HostBenchModel", "size", "[I", true)
  | 12 => ("HostBenchModel", "name", "[I", true)
  | 13 => ("HostBenchModel", "nameSize", "[I", true)
  | 14 => ("HostBenchModel", "files", "I", false)
  | 15 => ("HostBenchModel", "kind", "[I", true)
  | 16 => ("HostBenchModel", "its", "[I", true)
  | 17 => ("HostBenchModel", "place", "[I", true)
  | 18 => ("HostBenchModel", "may", "[I", true)
  | 19 => ("HostBenchModel", "in", "[I", true)
  | 20 => ("HostBenchModel", "waiting", "I", false)
  | 21 => ("HostBenchModel", "printed", "[I", true)
  | 22 => ("HostBenchModel", "kept", "[I", true)
  | 23 => ("HostBenchModel", "prints", "[I", true)
  | 24 => ("HostBenchModel", "errno", "I", false)
  | 25 => ("HostBenchModel", "command", "[I", true)
  | 26 => ("HostBenchModel", "commandSize", "I", false)
  | 27 => ("HostBenchModel", "clock", "I", false)
  | 28 => ("HostBenchModel", "tape", "[I", true)
  | _ => ("HostBenchModel", "taped", "I", false)
def tyX10 : Nat → FieldType := fun k => match k with
  | 0 => .int
  | 1 => .array .int
  | 2 => .array .int
  | 3 => .int
  | 4 => .int
  | 5 => .int
  | 6 => .int
  | 7 => .long
  | 8 => .int
  | 9 => .int
  | 10 => .array .int
  | 11 => .array .int
  | 12 => .array .int
  | 13 => .array .int
  | 14 => .int
  | 15 => .array .int
  | 16 => .array .int
  | 17 => .array .int
  | 18 => .array .int
  | 19 => .array .int
  | 20 => .int
  | 21 => .array .int
  | 22 => .array .int
  | 23 => .array .int
  | 24 => .int
  | 25 => .array .int
  | 26 => .int
  | 27 => .int
  | 28 => .array .int
  | _ => .int
theorem inX10 : ∀ w ∈ u_ws "HostBenchModel" TX10 30, w ∈ tT := by
  intro w h
  obtain ⟨k, hk, rfl⟩ := List.mem_map.mp h
  have hk := List.mem_range.mp hk
  exact match k, hk with
    | 0, _ => tw_1014
    | 1, _ => tw_1016
    | 2, _ => tw_1018
    | 3, _ => tw_1020
    | 4, _ => tw_1022
    | 5, _ => tw_1024
    | 6, _ => tw_1026
    | 7, _ => tw_1028
    | 8, _ => tw_1030
    | 9, _ => tw_1032
    | 10, _ => tw_1034
    | 11, _ => tw_1036
    | 12, _ => tw_1038
    | 13, _ => tw_1040
    | 14, _ => tw_1042
    | 15, _ => tw_1044
    | 16, _ => tw_1046
    | 17, _ => tw_1048
    | 18, _ => tw_1050
    | 19, _ => tw_1052
    | 20, _ => tw_1054
    | 21, _ => tw_1056
    | 22, _ => tw_1058
    | 23, _ => tw_1060
    | 24, _ => tw_1062
    | 25, _ => tw_1064
    | 26, _ => tw_1066
    | 27, _ => tw_1068
    | 28, _ => tw_1070
    | 29, _ => tw_1072
    | n + 30, h => absurd h (by omega)
theorem nmX10 : ∀ a, a < 30 → ∀ b, b < 30 → a ≠ b → (TX10 a).2.1 ≠ (TX10 b).2.1 := by decide +kernel
theorem tyX10_ok : ∀ k, k < 30 → parseFieldDescriptor (TX10 k).2.2.1 = some (tyX10 k) := by decide +kernel
abbrev vwCl : List vw_C := [("HostBench$Bytes", TX0, 2), ("HostBench$Desk", TX1, 1), ("HostBench$Folder", TX2, 2), ("HostBench$Guest", TX3, 8), ("HostBench$Handle", TX4, 4), ("HostBench$Host", TX5, 15), ("HostBench$HostFile", TX6, 2), ("HostBench$Memory", TX7, 1), ("HostBench$Output", TX8, 2), ("HostBench", TX9, 8), ("HostBenchModel", TX10, 30)]
/-- the fields of nest mates that are read or written from another of the nest: who, entry, whose, name, type, host -/
def zNl : List (String × Nat × String × String × String × String) := [("HostBench$Host", 18, "HostBench$Guest", "memory", "LHostBench$Memory;", "HostBench"), ("HostBench", 47, "HostBench$Guest", "memory", "LHostBench$Memory;", "HostBench"), ("HostBench", 185, "HostBench$Guest", "pc", "I", "HostBench"), ("HostBench$Host", 98, "HostBench$Guest", "state", "I", "HostBench"), ("HostBench", 149, "HostBench$Guest", "state", "I", "HostBench"), ("HostBench", 159, "HostBench$Guest", "trap", "I", "HostBench"), ("HostBench", 162, "HostBench$Guest", "code", "I", "HostBench"), ("HostBench$Host", 161, "HostBench$Guest", "steps", "J", "HostBench"), ("HostBench", 168, "HostBench$Guest", "steps", "J", "HostBench"), ("HostBench$Folder", 22, "HostBench$HostFile", "name", "LHostBench$Bytes;", "HostBench"), ("HostBench", 206, "HostBench$HostFile", "name", "LHostBench$Bytes;", "HostBench"), ("HostBench$Host", 294, "HostBench$HostFile", "name", "LHostBench$Bytes;", "HostBench"), ("HostBench$Folder", 44, "HostBench$HostFile", "content", "LHostBench$Bytes;", "HostBench"), ("HostBench", 125, "HostBench$HostFile", "content", "LHostBench$Bytes;", "HostBench"), ("HostBench$Host", 230, "HostBench$HostFile", "content", "LHostBench$Bytes;", "HostBench"), ("HostBench", 197, "HostBench$Folder", "count", "I", "HostBench"), ("HostBench$Desk", 22, "HostBench$Handle", "kind", "I", "HostBench"), ("HostBench$Host", 259, "HostBench$Handle", "kind", "I", "HostBench"), ("HostBench", 214, "HostBench$Handle", "kind", "I", "HostBench"), ("HostBench$Desk", 26, "HostBench$Handle", "file", "LHostBench$HostFile;", "HostBench"), ("HostBench$Host", 251, "HostBench$Handle", "file", "LHostBench$HostFile;", "HostBench"), ("HostBench", 222, "HostBench$Handle", "file", "LHostBench$HostFile;", "HostBench"), ("HostBench$Host", 262, "HostBench$Handle", "place", "I", "HostBench"), ("HostBench", 219, "HostBench$Handle", "place", "I", "HostBench"), ("HostBench", 229, "HostBench$Handle", "rights", "I", "HostBench"), ("HostBench", 244, "HostBench$Output", "kept", "LHostBench$Bytes;", "HostBench"), ("HostBench", 236, "HostBench$Output", "total", "I", "HostBench"), ("HostBench", 42, "HostBench$Host", "guest", "LHostBench$Guest;", "HostBench"), ("HostBench", 32, "HostBench$Host", "folder", "LHostBench$Folder;", "HostBench"), ("HostBench", 37, "HostBench$Host", "desk", "LHostBench$Desk;", "HostBench"), ("HostBench", 130, "HostBench$Host", "input", "LHostBench$Bytes;", "HostBench"), ("HostBench", 232, "HostBench$Host", "out", "LHostBench$Output;", "HostBench"), ("HostBench", 241, "HostBench$Host", "err", "LHostBench$Output;", "HostBench"), ("HostBench", 137, "HostBench$Host", "command", "LHostBench$Bytes;", "HostBench"), ("HostBench", 165, "HostBench$Host", "errno", "I", "HostBench"), ("HostBench", 140, "HostBench$Host", "seconds", "I", "HostBench"), ("HostBench", 172, "HostBench$Host", "calls", "I", "HostBench"), ("HostBench", 175, "HostBench$Host", "latest", "I", "HostBench")]
theorem tn_0 : Cond.fieldLinkNest "HostBench$Host" 18 "HostBench$Guest" "memory" "LHostBench$Memory;" "HostBench" ∈ lw_tbl := List.mem_append_right _ (tl1 70 rfl)
theorem tn_1 : Cond.fieldLinkNest "HostBench" 47 "HostBench$Guest" "memory" "LHostBench$Memory;" "HostBench" ∈ lw_tbl := List.mem_append_right _ (tl1 71 rfl)
theorem tn_2 : Cond.fieldLinkNest "HostBench" 185 "HostBench$Guest" "pc" "I" "HostBench" ∈ lw_tbl := List.mem_append_right _ (tl1 74 rfl)
theorem tn_3 : Cond.fieldLinkNest "HostBench$Host" 98 "HostBench$Guest" "state" "I" "HostBench" ∈ lw_tbl := List.mem_append_right _ (tl1 77 rfl)
theorem tn_4 : Cond.fieldLinkNest "HostBench" 149 "HostBench$Guest" "state" "I" "HostBench" ∈ lw_tbl := List.mem_append_right _ (tl1 78 rfl)
theorem tn_5 : Cond.fieldLinkNest "HostBench" 159 "HostBench$Guest" "trap" "I" "HostBench" ∈ lw_tbl := List.mem_append_right _ (tl1 80 rfl)
theorem tn_6 : Cond.fieldLinkNest "HostBench" 162 "HostBench$Guest" "code" "I" "HostBench" ∈ lw_tbl := List.mem_append_right _ (tl1 82 rfl)
theorem tn_7 : Cond.fieldLinkNest "HostBench$Host" 161 "HostBench$Guest" "steps" "J" "HostBench" ∈ lw_tbl := List.mem_append_right _ (tl1 84 rfl)
theorem tn_8 : Cond.fieldLinkNest "HostBench" 168 "HostBench$Guest" "steps" "J" "HostBench" ∈ lw_tbl := List.mem_append_right _ (tl1 85 rfl)
theorem tn_9 : Cond.fieldLinkNest "HostBench$Folder" 22 "HostBench$HostFile" "name" "LHostBench$Bytes;" "HostBench" ∈ lw_tbl := List.mem_append_right _ (tl1 119 rfl)
theorem tn_10 : Cond.fieldLinkNest "HostBench" 206 "HostBench$HostFile" "name" "LHostBench$Bytes;" "HostBench" ∈ lw_tbl := List.mem_append_right _ (tl1 120 rfl)
theorem tn_11 : Cond.fieldLinkNest "HostBench$Host" 294 "HostBench$HostFile" "name" "LHostBench$Bytes;" "HostBench" ∈ lw_tbl := List.mem_append_right _ (tl1 121 rfl)
theorem tn_12 : Cond.fieldLinkNest "HostBench$Folder" 44 "HostBench$HostFile" "content" "LHostBench$Bytes;" "HostBench" ∈ lw_tbl := List.mem_append_right _ (tl1 123 rfl)
theorem tn_13 : Cond.fieldLinkNest "HostBench" 125 "HostBench$HostFile" "content" "LHostBench$Bytes;" "HostBench" ∈ lw_tbl := List.mem_append_right _ (tl1 124 rfl)
theorem tn_14 : Cond.fieldLinkNest "HostBench$Host" 230 "HostBench$HostFile" "content" "LHostBench$Bytes;" "HostBench" ∈ lw_tbl := List.mem_append_right _ (tl1 125 rfl)
theorem tn_15 : Cond.fieldLinkNest "HostBench" 197 "HostBench$Folder" "count" "I" "HostBench" ∈ lw_tbl := List.mem_append_right _ (tl1 133 rfl)
theorem tn_16 : Cond.fieldLinkNest "HostBench$Desk" 22 "HostBench$Handle" "kind" "I" "HostBench" ∈ lw_tbl := List.mem_append_right _ (tl1 153 rfl)
theorem tn_17 : Cond.fieldLinkNest "HostBench$Host" 259 "HostBench$Handle" "kind" "I" "HostBench" ∈ lw_tbl := List.mem_append_right _ (tl1 154 rfl)
theorem tn_18 : Cond.fieldLinkNest "HostBench" 214 "HostBench$Handle" "kind" "I" "HostBench" ∈ lw_tbl := List.mem_append_right _ (tl1 155 rfl)
theorem tn_19 : Cond.fieldLinkNest "HostBench$Desk" 26 "HostBench$Handle" "file" "LHostBench$HostFile;" "HostBench" ∈ lw_tbl := List.mem_append_right _ (tl1 157 rfl)
theorem tn_20 : Cond.fieldLinkNest "HostBench$Host" 251 "HostBench$Handle" "file" "LHostBench$HostFile;" "HostBench" ∈ lw_tbl := List.mem_append_right _ (tl1 158 rfl)
theorem tn_21 : Cond.fieldLinkNest "HostBench" 222 "HostBench$Handle" "file" "LHostBench$HostFile;" "HostBench" ∈ lw_tbl := List.mem_append_right _ (tl1 159 rfl)
theorem tn_22 : Cond.fieldLinkNest "HostBench$Host" 262 "HostBench$Handle" "place" "I" "HostBench" ∈ lw_tbl := List.mem_append_right _ (tl1 161 rfl)
theorem tn_23 : Cond.fieldLinkNest "HostBench" 219 "HostBench$Handle" "place" "I" "HostBench" ∈ lw_tbl := List.mem_append_right _ (tl1 162 rfl)
theorem tn_24 : Cond.fieldLinkNest "HostBench" 229 "HostBench$Handle" "rights" "I" "HostBench" ∈ lw_tbl := List.mem_append_right _ (tl1 164 rfl)
theorem tn_25 : Cond.fieldLinkNest "HostBench" 244 "HostBench$Output" "kept" "LHostBench$Bytes;" "HostBench" ∈ lw_tbl := List.mem_append_right _ (tl1 189 rfl)
theorem tn_26 : Cond.fieldLinkNest "HostBench" 236 "HostBench$Output" "total" "I" "HostBench" ∈ lw_tbl := List.mem_append_right _ (tl1 191 rfl)
theorem tn_27 : Cond.fieldLinkNest "HostBench" 42 "HostBench$Host" "guest" "LHostBench$Guest;" "HostBench" ∈ lw_tbl := List.mem_append_right _ (tl1 198 rfl)
theorem tn_28 : Cond.fieldLinkNest "HostBench" 32 "HostBench$Host" "folder" "LHostBench$Folder;" "HostBench" ∈ lw_tbl := List.mem_append_right _ (tl1 201 rfl)
theorem tn_29 : Cond.fieldLinkNest "HostBench" 37 "HostBench$Host" "desk" "LHostBench$Desk;" "HostBench" ∈ lw_tbl := List.mem_append_right _ (tl1 203 rfl)
theorem tn_30 : Cond.fieldLinkNest "HostBench" 130 "HostBench$Host" "input" "LHostBench$Bytes;" "HostBench" ∈ lw_tbl := List.mem_append_right _ (tl1 205 rfl)
theorem tn_31 : Cond.fieldLinkNest "HostBench" 232 "HostBench$Host" "out" "LHostBench$Output;" "HostBench" ∈ lw_tbl := List.mem_append_right _ (tl1 207 rfl)
theorem tn_32 : Cond.fieldLinkNest "HostBench" 241 "HostBench$Host" "err" "LHostBench$Output;" "HostBench" ∈ lw_tbl := List.mem_append_right _ (tl1 209 rfl)
theorem tn_33 : Cond.fieldLinkNest "HostBench" 137 "HostBench$Host" "command" "LHostBench$Bytes;" "HostBench" ∈ lw_tbl := List.mem_append_right _ (tl1 211 rfl)
theorem tn_34 : Cond.fieldLinkNest "HostBench" 165 "HostBench$Host" "errno" "I" "HostBench" ∈ lw_tbl := List.mem_append_right _ (tl1 216 rfl)
theorem tn_35 : Cond.fieldLinkNest "HostBench" 140 "HostBench$Host" "seconds" "I" "HostBench" ∈ lw_tbl := List.mem_append_right _ (tl1 218 rfl)
theorem tn_36 : Cond.fieldLinkNest "HostBench" 172 "HostBench$Host" "calls" "I" "HostBench" ∈ lw_tbl := List.mem_append_right _ (tl1 220 rfl)
theorem tn_37 : Cond.fieldLinkNest "HostBench" 175 "HostBench$Host" "latest" "I" "HostBench" ∈ lw_tbl := List.mem_append_right _ (tl1 222 rfl)
theorem zNl_in : ∀ q ∈ zNl, Cond.fieldLinkNest q.1 q.2.1 q.2.2.1 q.2.2.2.1 q.2.2.2.2.1 q.2.2.2.2.2 ∈ lw_tbl := List.forall_mem_cons.mpr ⟨tn_0, List.forall_mem_cons.mpr ⟨tn_1, List.forall_mem_cons.mpr ⟨tn_2, List.forall_mem_cons.mpr ⟨tn_3, List.forall_mem_cons.mpr ⟨tn_4, List.forall_mem_cons.mpr ⟨tn_5, List.forall_mem_cons.mpr ⟨tn_6, List.forall_mem_cons.mpr ⟨tn_7, List.forall_mem_cons.mpr ⟨tn_8, List.forall_mem_cons.mpr ⟨tn_9, List.forall_mem_cons.mpr ⟨tn_10, List.forall_mem_cons.mpr ⟨tn_11, List.forall_mem_cons.mpr ⟨tn_12, List.forall_mem_cons.mpr ⟨tn_13, List.forall_mem_cons.mpr ⟨tn_14, List.forall_mem_cons.mpr ⟨tn_15, List.forall_mem_cons.mpr ⟨tn_16, List.forall_mem_cons.mpr ⟨tn_17, List.forall_mem_cons.mpr ⟨tn_18, List.forall_mem_cons.mpr ⟨tn_19, List.forall_mem_cons.mpr ⟨tn_20, List.forall_mem_cons.mpr ⟨tn_21, List.forall_mem_cons.mpr ⟨tn_22, List.forall_mem_cons.mpr ⟨tn_23, List.forall_mem_cons.mpr ⟨tn_24, List.forall_mem_cons.mpr ⟨tn_25, List.forall_mem_cons.mpr ⟨tn_26, List.forall_mem_cons.mpr ⟨tn_27, List.forall_mem_cons.mpr ⟨tn_28, List.forall_mem_cons.mpr ⟨tn_29, List.forall_mem_cons.mpr ⟨tn_30, List.forall_mem_cons.mpr ⟨tn_31, List.forall_mem_cons.mpr ⟨tn_32, List.forall_mem_cons.mpr ⟨tn_33, List.forall_mem_cons.mpr ⟨tn_34, List.forall_mem_cons.mpr ⟨tn_35, List.forall_mem_cons.mpr ⟨tn_36, List.forall_mem_cons.mpr ⟨tn_37, fun _ h => absurd h List.not_mem_nil⟩⟩⟩⟩⟩⟩⟩⟩⟩⟩⟩⟩⟩⟩⟩⟩⟩⟩⟩⟩⟩⟩⟩⟩⟩⟩⟩⟩⟩⟩⟩⟩⟩⟩⟩⟩⟩⟩
end
section
/-- what surrounds a walk: machine, launch, surroundings, room, start, method, arguments, frames below, method, code, number of locals, goal -/
abbrev zE : Type := Program × Launch × Env × Room × State × MethodId × Array Value × List Frame × Method × Code × Nat × (State → Prop)
/-- the numbers of a system: by kind and place; by row and place; which file stands where; which file a handle has; the steps -/
abbrev zS : Type := (Nat → Nat → Int32) × (Nat → Nat → Int32) × (Nat → Nat) × (Nat → Option Nat) × Int64
/-- a system's cells out of its numbers, the classes' numbers, the array classes, the addresses -/
abbrev zW : Type := (zS → va_W) × va_G × List (ClassId × FieldType) × (Nat → Prop)
def gM (S : zS) (c i : Nat) : Int32 := S.1 c i
def gR (S : zS) (b i : Nat) : Int32 := S.2.1 b i
def gF (S : zS) (i : Nat) : Nat := S.2.2.1 i
def gH (S : zS) (h : Nat) : Option Nat := S.2.2.2.1 h
def gJ (S : zS) : Int64 := S.2.2.2.2
def sM (S : zS) (c i : Nat) (v : Int32) : zS := (fun b j => if b = c then (if j = i then v else S.1 b j) else S.1 b j, S.2)
def sR (S : zS) (c i : Nat) (v : Int32) : zS := (S.1, fun b j => if b = c then (if j = i then v else S.2.1 b j) else S.2.1 b j, S.2.2)
def sF (S : zS) (i v : Nat) : zS := (S.1, S.2.1, fun j => if j = i then v else S.2.2.1 j, S.2.2.2)
def sH (S : zS) (h : Nat) (v : Option Nat) : zS := (S.1, S.2.1, S.2.2.1, fun j => if j = h then v else S.2.2.2.1 j, S.2.2.2.2)
def sJ (S : zS) (v : Int64) : zS := (S.1, S.2.1, S.2.2.1, S.2.2.2.1, v)
def zD (cc : ByteArray) (pc : Nat) (i : Instr) (n pc' : Nat) : Prop := decode cc pc = .ok (i, n) ∧ pc + n = pc'
/-- a field's entry: told by the tables, of the own class or of a nest mate's -/
def zLk (own : String) (idx : Nat) (ref name desc : String) : Prop := Cond.fieldLink own idx ref name desc ∈ tT ∨ (own, idx, ref, name, desc, "HostBench") ∈ zNl
/-- what holds of the tables at a method's start, beside its words -/
def zO (w : zW) (U : State) : Prop := va_K w.2.1 vwCl w.2.2.1 U ∧ (∀ q ∈ zNl, va_Nw (.fieldLinkNest q.1 q.2.1 q.2.2.1 q.2.2.2.1 q.2.2.2.2.1 q.2.2.2.2.2) U) ∧ ∀ S, va_D w.2.2.2 (w.1 S)
theorem zO.warm {w : zW} {s U : State} (hW : s.WarmedH U.vm) (h : zO w s) : zO w U := ⟨va_K.moved hW.alike h.1, fun q hq => va_Nw.warmF hW (h.2.1 q hq), h.2.2⟩
theorem zO.call {w : zW} {U : State} (g : JFrame) (mk : MethodId) (a : Array Value) (h : zO w U) : zO w (U.calling g mk a) := ⟨va_K.moved (u := U) (U := U.calling g mk a) (Vm.Alike.refl U.vm) h.1, fun q hq => va_Nw.same rfl (u := U) (U := U.calling g mk a) rfl (h.2.1 q hq), h.2.2⟩
/-- from here the walk comes to its goal, whatever the heap is that holds the numbers S -/
def zV (E : zE) (w : zW) (S : zS) (pc : Nat) (L : List (Nat × Value)) (st : List Value) : Prop :=
  match E with
  | (p, l, e, R, s, m, args, below, meth, c, nL, Q) => ∀ (H : Heap) (locs : List Loc) (ls : Array Slot), va_P w.2.1 vwCl (w.1 S) H → va_S w.2.2.2 s.heap H locs → lv_has ls nL L → W p l e R s m args below meth c H locs 0 0 Q (F0 m pc ls st)
/-- what the walk may use -/
def zC (E : zE) (w : zW) (cc : ByteArray) (own : String) (fr lo : Nat) : Prop :=
  match E with
  | (p, _, _, R, s, m, args, _, meth, c, nL, _) => p.tables.exec = Jvm.exec ∧ c.code = cc ∧ c.maxLocals = nL ∧ s.vm.findClass own = some m.cls ∧ (∀ w ∈ tT, w.before args s = true) ∧ zO w s ∧ fr ≤ R.frames ∧ lo ≤ R.locals ∧ meth.locks = false
def zPc (w : zW) (av : List Value) (S : zS) : Array Value → State → Prop := va_Pc av (fun U => zO w U ∧ va_P w.2.1 vwCl (w.1 S) U.heap)
def zB (w : zW) (u : zS) (t : State) : Prop := va_P w.2.1 vwCl (w.1 u) t.heap
/-- how a method ends: what it answers, by P, and the new numbers -/
def zQ (w : zW) (P : Option Value → zS → Prop) : Array Value → State → Outcome → State → Prop := fun _ st oc t => (∃ (v : Option Value) (u : zS), oc = .returned v ∧ P v u ∧ zB w u t) ∧ va_F w.2.2.2 st t
abbrev zPi (P : zS → Int32 → Prop) : Option Value → zS → Prop := fun v u => ∃ r : Int32, v = some (.int r) ∧ P u r
abbrev zPl (P : zS → Int64 → Prop) : Option Value → zS → Prop := fun v u => ∃ r : Int64, v = some (.long r) ∧ P u r
abbrev zPv (P : zS → Prop) : Option Value → zS → Prop := fun v u => v = none ∧ P u
/-- an answer that is null or one of the system's cells -/
abbrev zPq (f : Nat → Nat) (P : zS → Option Nat → Prop) : Option Value → zS → Prop := fun v u => ∃ r : Option Nat, v = some (va_rf (r.map f)) ∧ P u r
def zGoal (E : zE) (Qc : Array Value → State → Outcome → State → Prop) (w : zW) : Prop :=
  match E with
  | (_, _, _, _, s, _, args, below, _, _, _, Q) => Q = MQ below Qc args s 0 0 w.2.2.2
theorem zPc_blind (w : zW) (av : List Value) (S : zS) : FrameBlind (zPc w av S) := fun a U g mk h => ⟨h.1, h.2.1.call g mk a, h.2.2⟩
def zRm (fr lo : Nat) : Room := { frames := fr, cells := 0, slots := 0, locals := lo }
/-- a method's contract out of its walk -/
theorem z_met {l : Launch} {y : MethodName} {cc : ByteArray} {n : Nat} {ret : Option FieldType} {fr lo : Nat} {w : zW} {S : zS} {av : List Value} {Qc : Array Value → State → Outcome → State → Prop} (hy : plainName y.cls = true) (hn : (lg_sl av).length ≤ n)
    (k : ∀ E : zE, zC E w cc y.cls fr lo → zGoal E Qc w → (match E with | (_, _, _, _, _, _, _, _, meth, _, _, _) => meth.sig.returnType = ret) → (match E with | (_, _, _, _, _, _, _, _, meth, _, _, _) => meth.name = y.name) → zV E w S 0 (lv_args 0 av) []) :
    Met l y (Cond.code y cc n ret :: tT) (zRm fr lo) (zPc w av S) Qc 0 0 w.2.2.2 := by
  refine Met.ofW (cc := cc) (maxL := n) (ret := ret) hy rfl ?_
  intro p e s m args below meth c s₁ B hml hv
  obtain ⟨rfl, hO, hP⟩ := hv
  have hts := atoms_spec (ws := Cond.code y cc n ret :: tT) B.pre
  have hl := lv_entry av (n := n) hn
  rw [lg_entry_eq]
  generalize (lg_sl av ++ List.replicate (n - (lg_sl av).length) Slot.unset).toArray = ls at hl ⊢
  exact k (p, l, e, (headSpec (Cond.code y cc n ret :: tT) (zRm fr lo)).room, s, m, av.toArray, below, meth, c, n, MQ below Qc av.toArray s 0 0 w.2.2.2) ⟨B.exec, B.bytes, hml, findClass_of_methodNamed B.named, fun w hw => hts w (List.mem_cons_of_mem _ hw), hO, Nat.le_refl _, Nat.le_refl _, B.notSynchronized⟩ rfl B.returns (name_of_methodNamed B.named B.method).1 s.heap [] ls hP va_S.rf hl
theorem z_iconst {E : zE} {w : zW} {cc : ByteArray} {own : String} {fr lo : Nat} {S : zS} {pc pc' : Nat} {L : List (Nat × Value)} {st : List Value} {n : Int} {v : Int32} (C : zC E w cc own fr lo) (hv : Int32.ofInt n = v) (d : zD cc pc (.iconst n) 1 pc') (k : zV E w S pc' L (.int v :: st)) : zV E w S pc L (st) := by
  obtain ⟨p, l, e, R, s, m, args, below, meth, c, nL, Q⟩ := E
  obtain ⟨d, rfl⟩ := d
  obtain ⟨hx, hb, hml, hown, hts, hO, hfr, hlo, hlk⟩ := C
  exact fun H locs ls h1 h2 h3 => lv_iconst hx hb d hv (k H locs ls h1 h2 h3)
theorem z_bipush {E : zE} {w : zW} {cc : ByteArray} {own : String} {fr lo : Nat} {S : zS} {pc pc' : Nat} {L : List (Nat × Value)} {st : List Value} {n : Int} {v : Int32} (C : zC E w cc own fr lo) (hv : (Int8.ofInt n).toInt32 = v) (d : zD cc pc (.bipush n) 2 pc') (k : zV E w S pc' L (.int v :: st)) : zV E w S pc L (st) := by
  obtain ⟨p, l, e, R, s, m, args, below, meth, c, nL, Q⟩ := E
  obtain ⟨d, rfl⟩ := d
  obtain ⟨hx, hb, hml, hown, hts, hO, hfr, hlo, hlk⟩ := C
  exact fun H locs ls h1 h2 h3 => lv_bipush hx hb d hv (k H locs ls h1 h2 h3)
theorem z_sipush {E : zE} {w : zW} {cc : ByteArray} {own : String} {fr lo : Nat} {S : zS} {pc pc' : Nat} {L : List (Nat × Value)} {st : List Value} {n : Int} {v : Int32} (C : zC E w cc own fr lo) (hv : (Int16.ofInt n).toInt32 = v) (d : zD cc pc (.sipush n) 3 pc') (k : zV E w S pc' L (.int v :: st)) : zV E w S pc L (st) := by
  obtain ⟨p, l, e, R, s, m, args, below, meth, c, nL, Q⟩ := E
  obtain ⟨d, rfl⟩ := d
  obtain ⟨hx, hb, hml, hown, hts, hO, hfr, hlo, hlk⟩ := C
  exact fun H locs ls h1 h2 h3 => lv_sipush hx hb d hv (k H locs ls h1 h2 h3)
theorem z_lconst {E : zE} {w : zW} {cc : ByteArray} {own : String} {fr lo : Nat} {S : zS} {pc pc' : Nat} {L : List (Nat × Value)} {st : List Value} {n : Fin 2} {v : Int64} (C : zC E w cc own fr lo) (hv : Int64.ofNat (n : Nat) = v) (d : zD cc pc (.lconst n) 1 pc') (k : zV E w S pc' L (.long v :: st)) : zV E w S pc L (st) := by
  obtain ⟨p, l, e, R, s, m, args, below, meth, c, nL, Q⟩ := E
  obtain ⟨d, rfl⟩ := d
  obtain ⟨hx, hb, hml, hown, hts, hO, hfr, hlo, hlk⟩ := C
  exact fun H locs ls h1 h2 h3 => lv_lconst hx hb d hv (k H locs ls h1 h2 h3)
theorem z_ldc {E : zE} {w : zW} {cc : ByteArray} {own : String} {fr lo : Nat} {S : zS} {pc pc' : Nat} {L : List (Nat × Value)} {st : List Value} {i : Nat} {v : Int32} (C : zC E w cc own fr lo) (hw : Cond.constant own i v ∈ tT) (d : zD cc pc (.ldc i) 2 pc') (k : zV E w S pc' L (.int v :: st)) : zV E w S pc L (st) := by
  obtain ⟨p, l, e, R, s, m, args, below, meth, c, nL, Q⟩ := E
  obtain ⟨d, rfl⟩ := d
  obtain ⟨hx, hb, hml, hown, hts, hO, hfr, hlo, hlk⟩ := C
  exact fun H locs ls h1 h2 h3 => lv_ldc hx hb hown (hts _ hw) d (k H locs ls h1 h2 h3)
theorem z_ldc2 {E : zE} {w : zW} {cc : ByteArray} {own : String} {fr lo : Nat} {S : zS} {pc pc' : Nat} {L : List (Nat × Value)} {st : List Value} {i : Nat} {v : Int64} (C : zC E w cc own fr lo) (hw : Cond.constantLong own i v ∈ tT) (d : zD cc pc (.ldc2_w i) 3 pc') (k : zV E w S pc' L (.long v :: st)) : zV E w S pc L (st) := by
  obtain ⟨p, l, e, R, s, m, args, below, meth, c, nL, Q⟩ := E
  obtain ⟨d, rfl⟩ := d
  obtain ⟨hx, hb, hml, hown, hts, hO, hfr, hlo, hlk⟩ := C
  exact fun H locs ls h1 h2 h3 => lv_ldc2 hx hb hown (hts _ hw) d (k H locs ls h1 h2 h3)
theorem z_iload_n {E : zE} {w : zW} {cc : ByteArray} {own : String} {fr lo : Nat} {S : zS} {pc pc' : Nat} {L : List (Nat × Value)} {st : List Value} {f : Fin 4} {i : Nat} {x : Int32} (C : zC E w cc own fr lo) (q : Nat) (hq : L[q]? = some (i, .int x)) (hi : (f : Nat) = i) (d : zD cc pc (.iload_n f) 1 pc') (k : zV E w S pc' L (.int x :: st)) : zV E w S pc L (st) := by
  obtain ⟨p, l, e, R, s, m, args, below, meth, c, nL, Q⟩ := E
  obtain ⟨d, rfl⟩ := d
  obtain ⟨hx, hb, hml, hown, hts, hO, hfr, hlo, hlk⟩ := C
  exact fun H locs ls h1 h2 h3 => lv_iload_n hx hb d hi (lv_at h3 q hq) (k H locs ls h1 h2 h3)
theorem z_iload {E : zE} {w : zW} {cc : ByteArray} {own : String} {fr lo : Nat} {S : zS} {pc pc' : Nat} {L : List (Nat × Value)} {st : List Value} {i : Nat} {x : Int32} (C : zC E w cc own fr lo) (q : Nat) (hq : L[q]? = some (i, .int x)) (d : zD cc pc (.iload i) 2 pc') (k : zV E w S pc' L (.int x :: st)) : zV E w S pc L (st) := by
  obtain ⟨p, l, e, R, s, m, args, below, meth, c, nL, Q⟩ := E
  obtain ⟨d, rfl⟩ := d
  obtain ⟨hx, hb, hml, hown, hts, hO, hfr, hlo, hlk⟩ := C
  exact fun H locs ls h1 h2 h3 => lv_iload hx hb d (lv_at h3 q hq) (k H locs ls h1 h2 h3)
theorem z_lload_n {E : zE} {w : zW} {cc : ByteArray} {own : String} {fr lo : Nat} {S : zS} {pc pc' : Nat} {L : List (Nat × Value)} {st : List Value} {f : Fin 4} {i : Nat} {x : Int64} (C : zC E w cc own fr lo) (q : Nat) (hq : L[q]? = some (i, .long x)) (hi : (f : Nat) = i) (d : zD cc pc (.lload_n f) 1 pc') (k : zV E w S pc' L (.long x :: st)) : zV E w S pc L (st) := by
  obtain ⟨p, l, e, R, s, m, args, below, meth, c, nL, Q⟩ := E
  obtain ⟨d, rfl⟩ := d
  obtain ⟨hx, hb, hml, hown, hts, hO, hfr, hlo, hlk⟩ := C
  exact fun H locs ls h1 h2 h3 => lv_lload_n hx hb d hi (lv_at h3 q hq) (k H locs ls h1 h2 h3)
theorem z_lload {E : zE} {w : zW} {cc : ByteArray} {own : String} {fr lo : Nat} {S : zS} {pc pc' : Nat} {L : List (Nat × Value)} {st : List Value} {i : Nat} {x : Int64} (C : zC E w cc own fr lo) (q : Nat) (hq : L[q]? = some (i, .long x)) (d : zD cc pc (.lload i) 2 pc') (k : zV E w S pc' L (.long x :: st)) : zV E w S pc L (st) := by
  obtain ⟨p, l, e, R, s, m, args, below, meth, c, nL, Q⟩ := E
  obtain ⟨d, rfl⟩ := d
  obtain ⟨hx, hb, hml, hown, hts, hO, hfr, hlo, hlk⟩ := C
  exact fun H locs ls h1 h2 h3 => lv_lload hx hb d (lv_at h3 q hq) (k H locs ls h1 h2 h3)
theorem z_aload_n {E : zE} {w : zW} {cc : ByteArray} {own : String} {fr lo : Nat} {S : zS} {pc pc' : Nat} {L : List (Nat × Value)} {st : List Value} {f : Fin 4} {i : Nat} {x : Nat} (C : zC E w cc own fr lo) (q : Nat) (hq : L[q]? = some (i, .ref x)) (hi : (f : Nat) = i) (d : zD cc pc (.aload_n f) 1 pc') (k : zV E w S pc' L (.ref x :: st)) : zV E w S pc L (st) := by
  obtain ⟨p, l, e, R, s, m, args, below, meth, c, nL, Q⟩ := E
  obtain ⟨d, rfl⟩ := d
  obtain ⟨hx, hb, hml, hown, hts, hO, hfr, hlo, hlk⟩ := C
  exact fun H locs ls h1 h2 h3 => lv_aload_n hx hb d hi (lv_at h3 q hq) (k H locs ls h1 h2 h3)
theorem z_aload {E : zE} {w : zW} {cc : ByteArray} {own : String} {fr lo : Nat} {S : zS} {pc pc' : Nat} {L : List (Nat × Value)} {st : List Value} {i : Nat} {x : Nat} (C : zC E w cc own fr lo) (q : Nat) (hq : L[q]? = some (i, .ref x)) (d : zD cc pc (.aload i) 2 pc') (k : zV E w S pc' L (.ref x :: st)) : zV E w S pc L (st) := by
  obtain ⟨p, l, e, R, s, m, args, below, meth, c, nL, Q⟩ := E
  obtain ⟨d, rfl⟩ := d
  obtain ⟨hx, hb, hml, hown, hts, hO, hfr, hlo, hlk⟩ := C
  exact fun H locs ls h1 h2 h3 => lv_aload hx hb d (lv_at h3 q hq) (k H locs ls h1 h2 h3)
theorem z_aload_nq {E : zE} {w : zW} {cc : ByteArray} {own : String} {fr lo : Nat} {S : zS} {pc pc' : Nat} {L : List (Nat × Value)} {st : List Value} {f : Fin 4} {i : Nat} {x : Option Nat} (C : zC E w cc own fr lo) (q : Nat) (hq : L[q]? = some (i, va_rf x)) (hi : (f : Nat) = i) (d : zD cc pc (.aload_n f) 1 pc') (k : zV E w S pc' L (va_rf x :: st)) : zV E w S pc L st := by
  cases x with
  | none =>
    obtain ⟨p, l, e, R, s, m, args, below, meth, c, nL, Q⟩ := E
    obtain ⟨d, rfl⟩ := d
    obtain ⟨hx, hb, hml, hown, hts, hO, hfr, hlo, hlk⟩ := C
    exact fun H locs ls h1 h2 h3 => lv_aload_nN hx hb d hi (lv_at h3 q hq) (k H locs ls h1 h2 h3)
  | some y => exact z_aload_n C q hq hi d k
theorem z_aloadq {E : zE} {w : zW} {cc : ByteArray} {own : String} {fr lo : Nat} {S : zS} {pc pc' : Nat} {L : List (Nat × Value)} {st : List Value} {i : Nat} {x : Option Nat} (C : zC E w cc own fr lo) (q : Nat) (hq : L[q]? = some (i, va_rf x)) (d : zD cc pc (.aload i) 2 pc') (k : zV E w S pc' L (va_rf x :: st)) : zV E w S pc L st := by
  cases x with
  | none =>
    obtain ⟨p, l, e, R, s, m, args, below, meth, c, nL, Q⟩ := E
    obtain ⟨d, rfl⟩ := d
    obtain ⟨hx, hb, hml, hown, hts, hO, hfr, hlo, hlk⟩ := C
    exact fun H locs ls h1 h2 h3 => lv_aloadN hx hb d (lv_at h3 q hq) (k H locs ls h1 h2 h3)
  | some y => exact z_aload C q hq d k
theorem z_istore_n {E : zE} {w : zW} {cc : ByteArray} {own : String} {fr lo : Nat} {S : zS} {pc pc' : Nat} {L : List (Nat × Value)} {st : List Value} {f : Fin 4} {i nl : Nat} {x : Int32} {L' : List (Nat × Value)} (C : zC E w cc own fr lo) (hnl : E.2.2.2.2.2.2.2.2.2.2.1 = nl) (hi : (f : Nat) = i) (hn : i < nl) (hl : (i, Value.int x) :: L.filter (fun q => !(q.1 == i) && !(q.1 + 1 == i && q.2.category == 2)) = L') (d : zD cc pc (.istore_n f) 1 pc') (k : zV E w S pc' L' st) : zV E w S pc L (.int x :: st) := by
  obtain ⟨p, l, e, R, s, m, args, below, meth, c, nL, Q⟩ := E
  obtain ⟨d, rfl⟩ := d
  obtain ⟨hx, hb, hml, hown, hts, hO, hfr, hlo, hlk⟩ := C
  subst hnl
  exact fun H locs ls h1 h2 h3 => lv_istore_n hx hb d hi h3 hn hl (fun ls h3 => k H locs ls h1 h2 h3)
theorem z_istore {E : zE} {w : zW} {cc : ByteArray} {own : String} {fr lo : Nat} {S : zS} {pc pc' : Nat} {L : List (Nat × Value)} {st : List Value} {i nl : Nat} {x : Int32} {L' : List (Nat × Value)} (C : zC E w cc own fr lo) (hnl : E.2.2.2.2.2.2.2.2.2.2.1 = nl) (hn : i < nl) (hl : (i, Value.int x) :: L.filter (fun q => !(q.1 == i) && !(q.1 + 1 == i && q.2.category == 2)) = L') (d : zD cc pc (.istore i) 2 pc') (k : zV E w S pc' L' st) : zV E w S pc L (.int x :: st) := by
  obtain ⟨p, l, e, R, s, m, args, below, meth, c, nL, Q⟩ := E
  obtain ⟨d, rfl⟩ := d
  obtain ⟨hx, hb, hml, hown, hts, hO, hfr, hlo, hlk⟩ := C
  subst hnl
  exact fun H locs ls h1 h2 h3 => lv_istore hx hb d h3 hn hl (fun ls h3 => k H locs ls h1 h2 h3)
theorem z_lstore_n {E : zE} {w : zW} {cc : ByteArray} {own : String} {fr lo : Nat} {S : zS} {pc pc' : Nat} {L : List (Nat × Value)} {st : List Value} {f : Fin 4} {i nl : Nat} {x : Int64} {L' : List (Nat × Value)} (C : zC E w cc own fr lo) (hnl : E.2.2.2.2.2.2.2.2.2.2.1 = nl) (hi : (f : Nat) = i) (hn : i + 1 < nl) (hl : (i, Value.long x) :: L.filter (fun q => !(q.1 == i) && (!(q.1 == i + 1) && !(q.1 + 1 == i && q.2.category == 2))) = L') (d : zD cc pc (.lstore_n f) 1 pc') (k : zV E w S pc' L' st) : zV E w S pc L (.long x :: st) := by
  obtain ⟨p, l, e, R, s, m, args, below, meth, c, nL, Q⟩ := E
  obtain ⟨d, rfl⟩ := d
  obtain ⟨hx, hb, hml, hown, hts, hO, hfr, hlo, hlk⟩ := C
  subst hnl
  exact fun H locs ls h1 h2 h3 => lv_lstore_n hx hb d hi h3 hn hl (fun ls h3 => k H locs ls h1 h2 h3)
theorem z_lstore {E : zE} {w : zW} {cc : ByteArray} {own : String} {fr lo : Nat} {S : zS} {pc pc' : Nat} {L : List (Nat × Value)} {st : List Value} {i nl : Nat} {x : Int64} {L' : List (Nat × Value)} (C : zC E w cc own fr lo) (hnl : E.2.2.2.2.2.2.2.2.2.2.1 = nl) (hn : i + 1 < nl) (hl : (i, Value.long x) :: L.filter (fun q => !(q.1 == i) && (!(q.1 == i + 1) && !(q.1 + 1 == i && q.2.category == 2))) = L') (d : zD cc pc (.lstore i) 2 pc') (k : zV E w S pc' L' st) : zV E w S pc L (.long x :: st) := by
  obtain ⟨p, l, e, R, s, m, args, below, meth, c, nL, Q⟩ := E
  obtain ⟨d, rfl⟩ := d
  obtain ⟨hx, hb, hml, hown, hts, hO, hfr, hlo, hlk⟩ := C
  subst hnl
  exact fun H locs ls h1 h2 h3 => lv_lstore hx hb d h3 hn hl (fun ls h3 => k H locs ls h1 h2 h3)
theorem z_astore_n {E : zE} {w : zW} {cc : ByteArray} {own : String} {fr lo : Nat} {S : zS} {pc pc' : Nat} {L : List (Nat × Value)} {st : List Value} {f : Fin 4} {i nl : Nat} {x : Nat} {L' : List (Nat × Value)} (C : zC E w cc own fr lo) (hnl : E.2.2.2.2.2.2.2.2.2.2.1 = nl) (hi : (f : Nat) = i) (hn : i < nl) (hl : (i, Value.ref x) :: L.filter (fun q => !(q.1 == i) && !(q.1 + 1 == i && q.2.category == 2)) = L') (d : zD cc pc (.astore_n f) 1 pc') (k : zV E w S pc' L' st) : zV E w S pc L (.ref x :: st) := by
  obtain ⟨p, l, e, R, s, m, args, below, meth, c, nL, Q⟩ := E
  obtain ⟨d, rfl⟩ := d
  obtain ⟨hx, hb, hml, hown, hts, hO, hfr, hlo, hlk⟩ := C
  subst hnl
  exact fun H locs ls h1 h2 h3 => lv_astore_n hx hb d hi h3 hn hl (fun ls h3 => k H locs ls h1 h2 h3)
theorem z_astore {E : zE} {w : zW} {cc : ByteArray} {own : String} {fr lo : Nat} {S : zS} {pc pc' : Nat} {L : List (Nat × Value)} {st : List Value} {i nl : Nat} {x : Nat} {L' : List (Nat × Value)} (C : zC E w cc own fr lo) (hnl : E.2.2.2.2.2.2.2.2.2.2.1 = nl) (hn : i < nl) (hl : (i, Value.ref x) :: L.filter (fun q => !(q.1 == i) && !(q.1 + 1 == i && q.2.category == 2)) = L') (d : zD cc pc (.astore i) 2 pc') (k : zV E w S pc' L' st) : zV E w S pc L (.ref x :: st) := by
  obtain ⟨p, l, e, R, s, m, args, below, meth, c, nL, Q⟩ := E
  obtain ⟨d, rfl⟩ := d
  obtain ⟨hx, hb, hml, hown, hts, hO, hfr, hlo, hlk⟩ := C
  subst hnl
  exact fun H locs ls h1 h2 h3 => lv_astore hx hb d h3 hn hl (fun ls h3 => k H locs ls h1 h2 h3)
theorem z_astore_nq {E : zE} {w : zW} {cc : ByteArray} {own : String} {fr lo : Nat} {S : zS} {pc pc' : Nat} {L : List (Nat × Value)} {st : List Value} {f : Fin 4} {i nl : Nat} {x : Option Nat} {L' : List (Nat × Value)} (C : zC E w cc own fr lo) (hnl : E.2.2.2.2.2.2.2.2.2.2.1 = nl) (hi : (f : Nat) = i) (hn : i < nl) (hl : (i, va_rf x) :: L.filter (fun q => !(q.1 == i) && !(q.1 + 1 == i && q.2.category == 2)) = L') (d : zD cc pc (.astore_n f) 1 pc') (k : zV E w S pc' L' st) : zV E w S pc L (va_rf x :: st) := by
  cases x with
  | none =>
    obtain ⟨p, l, e, R, s, m, args, below, meth, c, nL, Q⟩ := E
    obtain ⟨d, rfl⟩ := d
    obtain ⟨hx, hb, hml, hown, hts, hO, hfr, hlo, hlk⟩ := C
    subst hnl
    exact fun H locs ls h1 h2 h3 => lv_astore_nN hx hb d hi h3 hn hl (fun ls h3 => k H locs ls h1 h2 h3)
  | some y => exact z_astore_n C hnl hi hn hl d k
theorem z_astoreq {E : zE} {w : zW} {cc : ByteArray} {own : String} {fr lo : Nat} {S : zS} {pc pc' : Nat} {L : List (Nat × Value)} {st : List Value} {i nl : Nat} {x : Option Nat} {L' : List (Nat × Value)} (C : zC E w cc own fr lo) (hnl : E.2.2.2.2.2.2.2.2.2.2.1 = nl) (hn : i < nl) (hl : (i, va_rf x) :: L.filter (fun q => !(q.1 == i) && !(q.1 + 1 == i && q.2.category == 2)) = L') (d : zD cc pc (.astore i) 2 pc') (k : zV E w S pc' L' st) : zV E w S pc L (va_rf x :: st) := by
  cases x with
  | none =>
    obtain ⟨p, l, e, R, s, m, args, below, meth, c, nL, Q⟩ := E
    obtain ⟨d, rfl⟩ := d
    obtain ⟨hx, hb, hml, hown, hts, hO, hfr, hlo, hlk⟩ := C
    subst hnl
    exact fun H locs ls h1 h2 h3 => lv_astoreN hx hb d h3 hn hl (fun ls h3 => k H locs ls h1 h2 h3)
  | some y => exact z_astore C hnl hn hl d k
theorem z_iinc {E : zE} {w : zW} {cc : ByteArray} {own : String} {fr lo : Nat} {S : zS} {pc pc' : Nat} {L : List (Nat × Value)} {st : List Value} {i nl : Nat} {n : Int} {x v : Int32} {L' : List (Nat × Value)} (C : zC E w cc own fr lo) (hnl : E.2.2.2.2.2.2.2.2.2.2.1 = nl) (q : Nat) (hq : L[q]? = some (i, .int x)) (hv : x + Int32.ofInt n = v) (hn : i < nl) (hl : (i, Value.int v) :: L.filter (fun q => !(q.1 == i) && !(q.1 + 1 == i && q.2.category == 2)) = L') (d : zD cc pc (.iinc i n) 3 pc') (k : zV E w S pc' L' st) : zV E w S pc L st := by
  obtain ⟨p, l, e, R, s, m, args, below, meth, c, nL, Q⟩ := E
  obtain ⟨d, rfl⟩ := d
  obtain ⟨hx, hb, hml, hown, hts, hO, hfr, hlo, hlk⟩ := C
  subst hnl
  exact fun H locs ls h1 h2 h3 => lv_iinc hx hb d h3 hq hv hn hl (fun ls h3 => k H locs ls h1 h2 h3)
theorem z_iadd {E : zE} {w : zW} {cc : ByteArray} {own : String} {fr lo : Nat} {S : zS} {pc pc' : Nat} {L : List (Nat × Value)} {st : List Value} {x y : Int32} (C : zC E w cc own fr lo) (d : zD cc pc .iadd 1 pc') (k : zV E w S pc' L (.int (x + y) :: st)) : zV E w S pc L (.int y :: .int x :: st) := by
  obtain ⟨p, l, e, R, s, m, args, below, meth, c, nL, Q⟩ := E
  obtain ⟨d, rfl⟩ := d
  obtain ⟨hx, hb, hml, hown, hts, hO, hfr, hlo, hlk⟩ := C
  exact fun H locs ls h1 h2 h3 => lv_iadd hx hb d (k H locs ls h1 h2 h3)
theorem z_isub {E : zE} {w : zW} {cc : ByteArray} {own : String} {fr lo : Nat} {S : zS} {pc pc' : Nat} {L : List (Nat × Value)} {st : List Value} {x y : Int32} (C : zC E w cc own fr lo) (d : zD cc pc .isub 1 pc') (k : zV E w S pc' L (.int (x - y) :: st)) : zV E w S pc L (.int y :: .int x :: st) := by
  obtain ⟨p, l, e, R, s, m, args, below, meth, c, nL, Q⟩ := E
  obtain ⟨d, rfl⟩ := d
  obtain ⟨hx, hb, hml, hown, hts, hO, hfr, hlo, hlk⟩ := C
  exact fun H locs ls h1 h2 h3 => lv_isub hx hb d (k H locs ls h1 h2 h3)
theorem z_imul {E : zE} {w : zW} {cc : ByteArray} {own : String} {fr lo : Nat} {S : zS} {pc pc' : Nat} {L : List (Nat × Value)} {st : List Value} {x y : Int32} (C : zC E w cc own fr lo) (d : zD cc pc .imul 1 pc') (k : zV E w S pc' L (.int (x * y) :: st)) : zV E w S pc L (.int y :: .int x :: st) := by
  obtain ⟨p, l, e, R, s, m, args, below, meth, c, nL, Q⟩ := E
  obtain ⟨d, rfl⟩ := d
  obtain ⟨hx, hb, hml, hown, hts, hO, hfr, hlo, hlk⟩ := C
  exact fun H locs ls h1 h2 h3 => lv_imul hx hb d (k H locs ls h1 h2 h3)
theorem z_iand {E : zE} {w : zW} {cc : ByteArray} {own : String} {fr lo : Nat} {S : zS} {pc pc' : Nat} {L : List (Nat × Value)} {st : List Value} {x y : Int32} (C : zC E w cc own fr lo) (d : zD cc pc .iand 1 pc') (k : zV E w S pc' L (.int (x &&& y) :: st)) : zV E w S pc L (.int y :: .int x :: st) := by
  obtain ⟨p, l, e, R, s, m, args, below, meth, c, nL, Q⟩ := E
  obtain ⟨d, rfl⟩ := d
  obtain ⟨hx, hb, hml, hown, hts, hO, hfr, hlo, hlk⟩ := C
  exact fun H locs ls h1 h2 h3 => lv_iand hx hb d (k H locs ls h1 h2 h3)
theorem z_ior {E : zE} {w : zW} {cc : ByteArray} {own : String} {fr lo : Nat} {S : zS} {pc pc' : Nat} {L : List (Nat × Value)} {st : List Value} {x y : Int32} (C : zC E w cc own fr lo) (d : zD cc pc .ior 1 pc') (k : zV E w S pc' L (.int (x ||| y) :: st)) : zV E w S pc L (.int y :: .int x :: st) := by
  obtain ⟨p, l, e, R, s, m, args, below, meth, c, nL, Q⟩ := E
  obtain ⟨d, rfl⟩ := d
  obtain ⟨hx, hb, hml, hown, hts, hO, hfr, hlo, hlk⟩ := C
  exact fun H locs ls h1 h2 h3 => lv_ior hx hb d (k H locs ls h1 h2 h3)
theorem z_ixor {E : zE} {w : zW} {cc : ByteArray} {own : String} {fr lo : Nat} {S : zS} {pc pc' : Nat} {L : List (Nat × Value)} {st : List Value} {x y : Int32} (C : zC E w cc own fr lo) (d : zD cc pc .ixor 1 pc') (k : zV E w S pc' L (.int (x ^^^ y) :: st)) : zV E w S pc L (.int y :: .int x :: st) := by
  obtain ⟨p, l, e, R, s, m, args, below, meth, c, nL, Q⟩ := E
  obtain ⟨d, rfl⟩ := d
  obtain ⟨hx, hb, hml, hown, hts, hO, hfr, hlo, hlk⟩ := C
  exact fun H locs ls h1 h2 h3 => lv_ixor hx hb d (k H locs ls h1 h2 h3)
theorem z_ishl {E : zE} {w : zW} {cc : ByteArray} {own : String} {fr lo : Nat} {S : zS} {pc pc' : Nat} {L : List (Nat × Value)} {st : List Value} {x y : Int32} (C : zC E w cc own fr lo) (d : zD cc pc .ishl 1 pc') (k : zV E w S pc' L (.int (x <<< (y &&& 31)) :: st)) : zV E w S pc L (.int y :: .int x :: st) := by
  obtain ⟨p, l, e, R, s, m, args, below, meth, c, nL, Q⟩ := E
  obtain ⟨d, rfl⟩ := d
  obtain ⟨hx, hb, hml, hown, hts, hO, hfr, hlo, hlk⟩ := C
  exact fun H locs ls h1 h2 h3 => lv_ishl hx hb d (k H locs ls h1 h2 h3)
theorem z_ishr {E : zE} {w : zW} {cc : ByteArray} {own : String} {fr lo : Nat} {S : zS} {pc pc' : Nat} {L : List (Nat × Value)} {st : List Value} {x y : Int32} (C : zC E w cc own fr lo) (d : zD cc pc .ishr 1 pc') (k : zV E w S pc' L (.int (x >>> (y &&& 31)) :: st)) : zV E w S pc L (.int y :: .int x :: st) := by
  obtain ⟨p, l, e, R, s, m, args, below, meth, c, nL, Q⟩ := E
  obtain ⟨d, rfl⟩ := d
  obtain ⟨hx, hb, hml, hown, hts, hO, hfr, hlo, hlk⟩ := C
  exact fun H locs ls h1 h2 h3 => lv_ishr hx hb d (k H locs ls h1 h2 h3)
theorem z_iushr {E : zE} {w : zW} {cc : ByteArray} {own : String} {fr lo : Nat} {S : zS} {pc pc' : Nat} {L : List (Nat × Value)} {st : List Value} {x y : Int32} (C : zC E w cc own fr lo) (d : zD cc pc .iushr 1 pc') (k : zV E w S pc' L (.int ((x.toUInt32 >>> (y.toUInt32 &&& Int32.toUInt32 31)).toInt32) :: st)) : zV E w S pc L (.int y :: .int x :: st) := by
  obtain ⟨p, l, e, R, s, m, args, below, meth, c, nL, Q⟩ := E
  obtain ⟨d, rfl⟩ := d
  obtain ⟨hx, hb, hml, hown, hts, hO, hfr, hlo, hlk⟩ := C
  exact fun H locs ls h1 h2 h3 => lv_iushr hx hb d rfl (k H locs ls h1 h2 h3)
theorem z_idiv {E : zE} {w : zW} {cc : ByteArray} {own : String} {fr lo : Nat} {S : zS} {pc pc' : Nat} {L : List (Nat × Value)} {st : List Value} {x y : Int32} (C : zC E w cc own fr lo) (hne : ¬ y = 0) (d : zD cc pc .idiv 1 pc') (k : zV E w S pc' L (.int (x / y) :: st)) : zV E w S pc L (.int y :: .int x :: st) := by
  obtain ⟨p, l, e, R, s, m, args, below, meth, c, nL, Q⟩ := E
  obtain ⟨d, rfl⟩ := d
  obtain ⟨hx, hb, hml, hown, hts, hO, hfr, hlo, hlk⟩ := C
  exact fun H locs ls h1 h2 h3 => lv_idiv hx hb d hne (k H locs ls h1 h2 h3)
theorem z_irem {E : zE} {w : zW} {cc : ByteArray} {own : String} {fr lo : Nat} {S : zS} {pc pc' : Nat} {L : List (Nat × Value)} {st : List Value} {x y : Int32} (C : zC E w cc own fr lo) (hne : ¬ y = 0) (d : zD cc pc .irem 1 pc') (k : zV E w S pc' L (.int (x - x / y * y) :: st)) : zV E w S pc L (.int y :: .int x :: st) := by
  obtain ⟨p, l, e, R, s, m, args, below, meth, c, nL, Q⟩ := E
  obtain ⟨d, rfl⟩ := d
  obtain ⟨hx, hb, hml, hown, hts, hO, hfr, hlo, hlk⟩ := C
  exact fun H locs ls h1 h2 h3 => lv_irem hx hb d hne (k H locs ls h1 h2 h3)
theorem z_ladd {E : zE} {w : zW} {cc : ByteArray} {own : String} {fr lo : Nat} {S : zS} {pc pc' : Nat} {L : List (Nat × Value)} {st : List Value} {x y : Int64} (C : zC E w cc own fr lo) (d : zD cc pc .ladd 1 pc') (k : zV E w S pc' L (.long (x + y) :: st)) : zV E w S pc L (.long y :: .long x :: st) := by
  obtain ⟨p, l, e, R, s, m, args, below, meth, c, nL, Q⟩ := E
  obtain ⟨d, rfl⟩ := d
  obtain ⟨hx, hb, hml, hown, hts, hO, hfr, hlo, hlk⟩ := C
  exact fun H locs ls h1 h2 h3 => lv_ladd hx hb d (k H locs ls h1 h2 h3)
theorem z_lmul {E : zE} {w : zW} {cc : ByteArray} {own : String} {fr lo : Nat} {S : zS} {pc pc' : Nat} {L : List (Nat × Value)} {st : List Value} {x y : Int64} (C : zC E w cc own fr lo) (d : zD cc pc .lmul 1 pc') (k : zV E w S pc' L (.long (x * y) :: st)) : zV E w S pc L (.long y :: .long x :: st) := by
  obtain ⟨p, l, e, R, s, m, args, below, meth, c, nL, Q⟩ := E
  obtain ⟨d, rfl⟩ := d
  obtain ⟨hx, hb, hml, hown, hts, hO, hfr, hlo, hlk⟩ := C
  exact fun H locs ls h1 h2 h3 => lv_lmul hx hb d (k H locs ls h1 h2 h3)
theorem z_land {E : zE} {w : zW} {cc : ByteArray} {own : String} {fr lo : Nat} {S : zS} {pc pc' : Nat} {L : List (Nat × Value)} {st : List Value} {x y : Int64} (C : zC E w cc own fr lo) (d : zD cc pc .land 1 pc') (k : zV E w S pc' L (.long (x &&& y) :: st)) : zV E w S pc L (.long y :: .long x :: st) := by
  obtain ⟨p, l, e, R, s, m, args, below, meth, c, nL, Q⟩ := E
  obtain ⟨d, rfl⟩ := d
  obtain ⟨hx, hb, hml, hown, hts, hO, hfr, hlo, hlk⟩ := C
  exact fun H locs ls h1 h2 h3 => lv_land hx hb d (k H locs ls h1 h2 h3)
theorem z_ldiv {E : zE} {w : zW} {cc : ByteArray} {own : String} {fr lo : Nat} {S : zS} {pc pc' : Nat} {L : List (Nat × Value)} {st : List Value} {x y : Int64} (C : zC E w cc own fr lo) (hne : ¬ y = 0) (d : zD cc pc .ldiv 1 pc') (k : zV E w S pc' L (.long (x / y) :: st)) : zV E w S pc L (.long y :: .long x :: st) := by
  obtain ⟨p, l, e, R, s, m, args, below, meth, c, nL, Q⟩ := E
  obtain ⟨d, rfl⟩ := d
  obtain ⟨hx, hb, hml, hown, hts, hO, hfr, hlo, hlk⟩ := C
  exact fun H locs ls h1 h2 h3 => lv_ldiv hx hb d hne (k H locs ls h1 h2 h3)
theorem z_lrem {E : zE} {w : zW} {cc : ByteArray} {own : String} {fr lo : Nat} {S : zS} {pc pc' : Nat} {L : List (Nat × Value)} {st : List Value} {x y : Int64} (C : zC E w cc own fr lo) (hne : ¬ y = 0) (d : zD cc pc .lrem 1 pc') (k : zV E w S pc' L (.long (x - x / y * y) :: st)) : zV E w S pc L (.long y :: .long x :: st) := by
  obtain ⟨p, l, e, R, s, m, args, below, meth, c, nL, Q⟩ := E
  obtain ⟨d, rfl⟩ := d
  obtain ⟨hx, hb, hml, hown, hts, hO, hfr, hlo, hlk⟩ := C
  exact fun H locs ls h1 h2 h3 => lv_lrem hx hb d hne (k H locs ls h1 h2 h3)
theorem z_lushr {E : zE} {w : zW} {cc : ByteArray} {own : String} {fr lo : Nat} {S : zS} {pc pc' : Nat} {L : List (Nat × Value)} {st : List Value} {x : Int64} {y : Int32} (C : zC E w cc own fr lo) (d : zD cc pc .lushr 1 pc') (k : zV E w S pc' L (.long ((x.toUInt64 >>> (y.toInt64.toUInt64 &&& Int64.toUInt64 63)).toInt64) :: st)) : zV E w S pc L (.int y :: .long x :: st) := by
  obtain ⟨p, l, e, R, s, m, args, below, meth, c, nL, Q⟩ := E
  obtain ⟨d, rfl⟩ := d
  obtain ⟨hx, hb, hml, hown, hts, hO, hfr, hlo, hlk⟩ := C
  exact fun H locs ls h1 h2 h3 => lv_lushr hx hb d rfl (k H locs ls h1 h2 h3)
theorem z_lshr {E : zE} {w : zW} {cc : ByteArray} {own : String} {fr lo : Nat} {S : zS} {pc pc' : Nat} {L : List (Nat × Value)} {st : List Value} {x : Int64} {y : Int32} (C : zC E w cc own fr lo) (d : zD cc pc .lshr 1 pc') (k : zV E w S pc' L (.long (x >>> (y.toInt64 &&& 63)) :: st)) : zV E w S pc L (.int y :: .long x :: st) := by
  obtain ⟨p, l, e, R, s, m, args, below, meth, c, nL, Q⟩ := E
  obtain ⟨d, rfl⟩ := d
  obtain ⟨hx, hb, hml, hown, hts, hO, hfr, hlo, hlk⟩ := C
  exact fun H locs ls h1 h2 h3 => lv_lshr hx hb d rfl (k H locs ls h1 h2 h3)
theorem z_i2l {E : zE} {w : zW} {cc : ByteArray} {own : String} {fr lo : Nat} {S : zS} {pc pc' : Nat} {L : List (Nat × Value)} {st : List Value} {x : Int32} (C : zC E w cc own fr lo) (d : zD cc pc .i2l 1 pc') (k : zV E w S pc' L (.long x.toInt64 :: st)) : zV E w S pc L (.int x :: st) := by
  obtain ⟨p, l, e, R, s, m, args, below, meth, c, nL, Q⟩ := E
  obtain ⟨d, rfl⟩ := d
  obtain ⟨hx, hb, hml, hown, hts, hO, hfr, hlo, hlk⟩ := C
  exact fun H locs ls h1 h2 h3 => lv_i2l hx hb d rfl (k H locs ls h1 h2 h3)
theorem z_l2i {E : zE} {w : zW} {cc : ByteArray} {own : String} {fr lo : Nat} {S : zS} {pc pc' : Nat} {L : List (Nat × Value)} {st : List Value} {x : Int64} (C : zC E w cc own fr lo) (d : zD cc pc .l2i 1 pc') (k : zV E w S pc' L (.int x.toInt32 :: st)) : zV E w S pc L (.long x :: st) := by
  obtain ⟨p, l, e, R, s, m, args, below, meth, c, nL, Q⟩ := E
  obtain ⟨d, rfl⟩ := d
  obtain ⟨hx, hb, hml, hown, hts, hO, hfr, hlo, hlk⟩ := C
  exact fun H locs ls h1 h2 h3 => lv_l2i hx hb d rfl (k H locs ls h1 h2 h3)
theorem z_i2b {E : zE} {w : zW} {cc : ByteArray} {own : String} {fr lo : Nat} {S : zS} {pc pc' : Nat} {L : List (Nat × Value)} {st : List Value} {x : Int32} (C : zC E w cc own fr lo) (d : zD cc pc .i2b 1 pc') (k : zV E w S pc' L (.int x.toInt8.toInt32 :: st)) : zV E w S pc L (.int x :: st) := by
  obtain ⟨p, l, e, R, s, m, args, below, meth, c, nL, Q⟩ := E
  obtain ⟨d, rfl⟩ := d
  obtain ⟨hx, hb, hml, hown, hts, hO, hfr, hlo, hlk⟩ := C
  exact fun H locs ls h1 h2 h3 => lv_i2b hx hb d rfl (k H locs ls h1 h2 h3)
theorem z_i2s {E : zE} {w : zW} {cc : ByteArray} {own : String} {fr lo : Nat} {S : zS} {pc pc' : Nat} {L : List (Nat × Value)} {st : List Value} {x : Int32} (C : zC E w cc own fr lo) (d : zD cc pc .i2s 1 pc') (k : zV E w S pc' L (.int x.toInt16.toInt32 :: st)) : zV E w S pc L (.int x :: st) := by
  obtain ⟨p, l, e, R, s, m, args, below, meth, c, nL, Q⟩ := E
  obtain ⟨d, rfl⟩ := d
  obtain ⟨hx, hb, hml, hown, hts, hO, hfr, hlo, hlk⟩ := C
  exact fun H locs ls h1 h2 h3 => lv_i2s hx hb d rfl (k H locs ls h1 h2 h3)
theorem z_lcmp {E : zE} {w : zW} {cc : ByteArray} {own : String} {fr lo : Nat} {S : zS} {pc pc' : Nat} {L : List (Nat × Value)} {st : List Value} {x y : Int64} (C : zC E w cc own fr lo) (d : zD cc pc .lcmp 1 pc') (k : zV E w S pc' L (.int (lg_cmp x y) :: st)) : zV E w S pc L (.long y :: .long x :: st) := by
  obtain ⟨p, l, e, R, s, m, args, below, meth, c, nL, Q⟩ := E
  obtain ⟨d, rfl⟩ := d
  obtain ⟨hx, hb, hml, hown, hts, hO, hfr, hlo, hlk⟩ := C
  exact fun H locs ls h1 h2 h3 => W.lcmp hx hb d (k H locs ls h1 h2 h3)
theorem z_dup {E : zE} {w : zW} {cc : ByteArray} {own : String} {fr lo : Nat} {S : zS} {pc pc' : Nat} {L : List (Nat × Value)} {st : List Value} {v : Value} (C : zC E w cc own fr lo) (hv : v.category = 1) (d : zD cc pc .dup 1 pc') (k : zV E w S pc' L (v :: v :: st)) : zV E w S pc L (v :: st) := by
  obtain ⟨p, l, e, R, s, m, args, below, meth, c, nL, Q⟩ := E
  obtain ⟨d, rfl⟩ := d
  obtain ⟨hx, hb, hml, hown, hts, hO, hfr, hlo, hlk⟩ := C
  exact fun H locs ls h1 h2 h3 => lv_dup hx hb d hv (k H locs ls h1 h2 h3)
theorem z_pop {E : zE} {w : zW} {cc : ByteArray} {own : String} {fr lo : Nat} {S : zS} {pc pc' : Nat} {L : List (Nat × Value)} {st : List Value} {v : Value} (C : zC E w cc own fr lo) (hv : v.category = 1) (d : zD cc pc .pop 1 pc') (k : zV E w S pc' L (st)) : zV E w S pc L (v :: st) := by
  obtain ⟨p, l, e, R, s, m, args, below, meth, c, nL, Q⟩ := E
  obtain ⟨d, rfl⟩ := d
  obtain ⟨hx, hb, hml, hown, hts, hO, hfr, hlo, hlk⟩ := C
  exact fun H locs ls h1 h2 h3 => lv_pop hx hb d hv (k H locs ls h1 h2 h3)
theorem z_dup2 {E : zE} {w : zW} {cc : ByteArray} {own : String} {fr lo : Nat} {S : zS} {pc pc' : Nat} {L : List (Nat × Value)} {st : List Value} {u v : Value} (C : zC E w cc own fr lo) (hu : u.category = 1) (hv : v.category = 1) (d : zD cc pc .dup2 1 pc') (k : zV E w S pc' L (u :: v :: u :: v :: st)) : zV E w S pc L (u :: v :: st) := by
  obtain ⟨p, l, e, R, s, m, args, below, meth, c, nL, Q⟩ := E
  obtain ⟨d, rfl⟩ := d
  obtain ⟨hx, hb, hml, hown, hts, hO, hfr, hlo, hlk⟩ := C
  exact fun H locs ls h1 h2 h3 => lv_dup2_11 hx hb d hu hv (k H locs ls h1 h2 h3)
theorem z_null {E : zE} {w : zW} {cc : ByteArray} {own : String} {fr lo : Nat} {S : zS} {pc pc' : Nat} {L : List (Nat × Value)} {st : List Value} (C : zC E w cc own fr lo) (d : zD cc pc .aconst_null 1 pc') (k : zV E w S pc' L (.null :: st)) : zV E w S pc L (st) := by
  obtain ⟨p, l, e, R, s, m, args, below, meth, c, nL, Q⟩ := E
  obtain ⟨d, rfl⟩ := d
  obtain ⟨hx, hb, hml, hown, hts, hO, hfr, hlo, hlk⟩ := C
  exact fun H locs ls h1 h2 h3 => lv_null hx hb d (k H locs ls h1 h2 h3)
theorem z_if_eq {E : zE} {w : zW} {cc : ByteArray} {own : String} {fr lo : Nat} {S : zS} {pc pc' : Nat} {L : List (Nat × Value)} {st : List Value} {x : Int32} {off : Int} {tgt : Nat} (C : zC E w cc own fr lo) (d : zD cc pc (.ifCond .eq off) 3 pc') (ht : (pc : Int) + off = (tgt : Int)) (kt : x = 0 → zV E w S tgt L st) (kf : ¬ x = 0 → zV E w S pc' L st) : zV E w S pc L (.int x :: st) := by
  obtain ⟨p, l, e, R, s, m, args, below, meth, c, nL, Q⟩ := E
  obtain ⟨d, rfl⟩ := d
  obtain ⟨hx, hb, hml, hown, hts, hO, hfr, hlo, hlk⟩ := C
  exact fun H locs ls h1 h2 h3 => lv_if_eq hx hb d ht (fun q => kt q H locs ls h1 h2 h3) (fun q => kf q H locs ls h1 h2 h3)
theorem z_icmp_eq {E : zE} {w : zW} {cc : ByteArray} {own : String} {fr lo : Nat} {S : zS} {pc pc' : Nat} {L : List (Nat × Value)} {st : List Value} {x y : Int32} {off : Int} {tgt : Nat} (C : zC E w cc own fr lo) (d : zD cc pc (.if_icmp .eq off) 3 pc') (ht : (pc : Int) + off = (tgt : Int)) (kt : x = y → zV E w S tgt L st) (kf : ¬ x = y → zV E w S pc' L st) : zV E w S pc L (.int y :: .int x :: st) := by
  obtain ⟨p, l, e, R, s, m, args, below, meth, c, nL, Q⟩ := E
  obtain ⟨d, rfl⟩ := d
  obtain ⟨hx, hb, hml, hown, hts, hO, hfr, hlo, hlk⟩ := C
  exact fun H locs ls h1 h2 h3 => lv_icmp_eq hx hb d ht (fun q => kt q H locs ls h1 h2 h3) (fun q => kf q H locs ls h1 h2 h3)
theorem z_if_ne {E : zE} {w : zW} {cc : ByteArray} {own : String} {fr lo : Nat} {S : zS} {pc pc' : Nat} {L : List (Nat × Value)} {st : List Value} {x : Int32} {off : Int} {tgt : Nat} (C : zC E w cc own fr lo) (d : zD cc pc (.ifCond .ne off) 3 pc') (ht : (pc : Int) + off = (tgt : Int)) (kt : ¬ x = 0 → zV E w S tgt L st) (kf : x = 0 → zV E w S pc' L st) : zV E w S pc L (.int x :: st) := by
  obtain ⟨p, l, e, R, s, m, args, below, meth, c, nL, Q⟩ := E
  obtain ⟨d, rfl⟩ := d
  obtain ⟨hx, hb, hml, hown, hts, hO, hfr, hlo, hlk⟩ := C
  exact fun H locs ls h1 h2 h3 => lv_if_ne hx hb d ht (fun q => kt q H locs ls h1 h2 h3) (fun q => kf q H locs ls h1 h2 h3)
theorem z_icmp_ne {E : zE} {w : zW} {cc : ByteArray} {own : String} {fr lo : Nat} {S : zS} {pc pc' : Nat} {L : List (Nat × Value)} {st : List Value} {x y : Int32} {off : Int} {tgt : Nat} (C : zC E w cc own fr lo) (d : zD cc pc (.if_icmp .ne off) 3 pc') (ht : (pc : Int) + off = (tgt : Int)) (kt : ¬ x = y → zV E w S tgt L st) (kf : x = y → zV E w S pc' L st) : zV E w S pc L (.int y :: .int x :: st) := by
  obtain ⟨p, l, e, R, s, m, args, below, meth, c, nL, Q⟩ := E
  obtain ⟨d, rfl⟩ := d
  obtain ⟨hx, hb, hml, hown, hts, hO, hfr, hlo, hlk⟩ := C
  exact fun H locs ls h1 h2 h3 => lv_icmp_ne hx hb d ht (fun q => kt q H locs ls h1 h2 h3) (fun q => kf q H locs ls h1 h2 h3)
theorem z_if_lt {E : zE} {w : zW} {cc : ByteArray} {own : String} {fr lo : Nat} {S : zS} {pc pc' : Nat} {L : List (Nat × Value)} {st : List Value} {x : Int32} {off : Int} {tgt : Nat} (C : zC E w cc own fr lo) (d : zD cc pc (.ifCond .lt off) 3 pc') (ht : (pc : Int) + off = (tgt : Int)) (kt : x < 0 → zV E w S tgt L st) (kf : ¬ x < 0 → zV E w S pc' L st) : zV E w S pc L (.int x :: st) := by
  obtain ⟨p, l, e, R, s, m, args, below, meth, c, nL, Q⟩ := E
  obtain ⟨d, rfl⟩ := d
  obtain ⟨hx, hb, hml, hown, hts, hO, hfr, hlo, hlk⟩ := C
  exact fun H locs ls h1 h2 h3 => lv_if_lt hx hb d ht (fun q => kt q H locs ls h1 h2 h3) (fun q => kf q H locs ls h1 h2 h3)
theorem z_icmp_lt {E : zE} {w : zW} {cc : ByteArray} {own : String} {fr lo : Nat} {S : zS} {pc pc' : Nat} {L : List (Nat × Value)} {st : List Value} {x y : Int32} {off : Int} {tgt : Nat} (C : zC E w cc own fr lo) (d : zD cc pc (.if_icmp .lt off) 3 pc') (ht : (pc : Int) + off = (tgt : Int)) (kt : x < y → zV E w S tgt L st) (kf : ¬ x < y → zV E w S pc' L st) : zV E w S pc L (.int y :: .int x :: st) := by
  obtain ⟨p, l, e, R, s, m, args, below, meth, c, nL, Q⟩ := E
  obtain ⟨d, rfl⟩ := d
  obtain ⟨hx, hb, hml, hown, hts, hO, hfr, hlo, hlk⟩ := C
  exact fun H locs ls h1 h2 h3 => lv_icmp_lt hx hb d ht (fun q => kt q H locs ls h1 h2 h3) (fun q => kf q H locs ls h1 h2 h3)
theorem z_if_ge {E : zE} {w : zW} {cc : ByteArray} {own : String} {fr lo : Nat} {S : zS} {pc pc' : Nat} {L : List (Nat × Value)} {st : List Value} {x : Int32} {off : Int} {tgt : Nat} (C : zC E w cc own fr lo) (d : zD cc pc (.ifCond .ge off) 3 pc') (ht : (pc : Int) + off = (tgt : Int)) (kt : 0 ≤ x → zV E w S tgt L st) (kf : ¬ 0 ≤ x → zV E w S pc' L st) : zV E w S pc L (.int x :: st) := by
  obtain ⟨p, l, e, R, s, m, args, below, meth, c, nL, Q⟩ := E
  obtain ⟨d, rfl⟩ := d
  obtain ⟨hx, hb, hml, hown, hts, hO, hfr, hlo, hlk⟩ := C
  exact fun H locs ls h1 h2 h3 => lv_if_ge hx hb d ht (fun q => kt q H locs ls h1 h2 h3) (fun q => kf q H locs ls h1 h2 h3)
theorem z_icmp_ge {E : zE} {w : zW} {cc : ByteArray} {own : String} {fr lo : Nat} {S : zS} {pc pc' : Nat} {L : List (Nat × Value)} {st : List Value} {x y : Int32} {off : Int} {tgt : Nat} (C : zC E w cc own fr lo) (d : zD cc pc (.if_icmp .ge off) 3 pc') (ht : (pc : Int) + off = (tgt : Int)) (kt : y ≤ x → zV E w S tgt L st) (kf : ¬ y ≤ x → zV E w S pc' L st) : zV E w S pc L (.int y :: .int x :: st) := by
  obtain ⟨p, l, e, R, s, m, args, below, meth, c, nL, Q⟩ := E
  obtain ⟨d, rfl⟩ := d
  obtain ⟨hx, hb, hml, hown, hts, hO, hfr, hlo, hlk⟩ := C
  exact fun H locs ls h1 h2 h3 => lv_icmp_ge hx hb d ht (fun q => kt q H locs ls h1 h2 h3) (fun q => kf q H locs ls h1 h2 h3)
theorem z_if_gt {E : zE} {w : zW} {cc : ByteArray} {own : String} {fr lo : Nat} {S : zS} {pc pc' : Nat} {L : List (Nat × Value)} {st : List Value} {x : Int32} {off : Int} {tgt : Nat} (C : zC E w cc own fr lo) (d : zD cc pc (.ifCond .gt off) 3 pc') (ht : (pc : Int) + off = (tgt : Int)) (kt : 0 < x → zV E w S tgt L st) (kf : ¬ 0 < x → zV E w S pc' L st) : zV E w S pc L (.int x :: st) := by
  obtain ⟨p, l, e, R, s, m, args, below, meth, c, nL, Q⟩ := E
  obtain ⟨d, rfl⟩ := d
  obtain ⟨hx, hb, hml, hown, hts, hO, hfr, hlo, hlk⟩ := C
  exact fun H locs ls h1 h2 h3 => lv_if_gt hx hb d ht (fun q => kt q H locs ls h1 h2 h3) (fun q => kf q H locs ls h1 h2 h3)
theorem z_icmp_gt {E : zE} {w : zW} {cc : ByteArray} {own : String} {fr lo : Nat} {S : zS} {pc pc' : Nat} {L : List (Nat × Value)} {st : List Value} {x y : Int32} {off : Int} {tgt : Nat} (C : zC E w cc own fr lo) (d : zD cc pc (.if_icmp .gt off) 3 pc') (ht : (pc : Int) + off = (tgt : Int)) (kt : y < x → zV E w S tgt L st) (kf : ¬ y < x → zV E w S pc' L st) : zV E w S pc L (.int y :: .int x :: st) := by
  obtain ⟨p, l, e, R, s, m, args, below, meth, c, nL, Q⟩ := E
  obtain ⟨d, rfl⟩ := d
  obtain ⟨hx, hb, hml, hown, hts, hO, hfr, hlo, hlk⟩ := C
  exact fun H locs ls h1 h2 h3 => lv_icmp_gt hx hb d ht (fun q => kt q H locs ls h1 h2 h3) (fun q => kf q H locs ls h1 h2 h3)
theorem z_if_le {E : zE} {w : zW} {cc : ByteArray} {own : String} {fr lo : Nat} {S : zS} {pc pc' : Nat} {L : List (Nat × Value)} {st : List Value} {x : Int32} {off : Int} {tgt : Nat} (C : zC E w cc own fr lo) (d : zD cc pc (.ifCond .le off) 3 pc') (ht : (pc : Int) + off = (tgt : Int)) (kt : x ≤ 0 → zV E w S tgt L st) (kf : ¬ x ≤ 0 → zV E w S pc' L st) : zV E w S pc L (.int x :: st) := by
  obtain ⟨p, l, e, R, s, m, args, below, meth, c, nL, Q⟩ := E
  obtain ⟨d, rfl⟩ := d
  obtain ⟨hx, hb, hml, hown, hts, hO, hfr, hlo, hlk⟩ := C
  exact fun H locs ls h1 h2 h3 => lv_if_le hx hb d ht (fun q => kt q H locs ls h1 h2 h3) (fun q => kf q H locs ls h1 h2 h3)
theorem z_icmp_le {E : zE} {w : zW} {cc : ByteArray} {own : String} {fr lo : Nat} {S : zS} {pc pc' : Nat} {L : List (Nat × Value)} {st : List Value} {x y : Int32} {off : Int} {tgt : Nat} (C : zC E w cc own fr lo) (d : zD cc pc (.if_icmp .le off) 3 pc') (ht : (pc : Int) + off = (tgt : Int)) (kt : x ≤ y → zV E w S tgt L st) (kf : ¬ x ≤ y → zV E w S pc' L st) : zV E w S pc L (.int y :: .int x :: st) := by
  obtain ⟨p, l, e, R, s, m, args, below, meth, c, nL, Q⟩ := E
  obtain ⟨d, rfl⟩ := d
  obtain ⟨hx, hb, hml, hown, hts, hO, hfr, hlo, hlk⟩ := C
  exact fun H locs ls h1 h2 h3 => lv_icmp_le hx hb d ht (fun q => kt q H locs ls h1 h2 h3) (fun q => kf q H locs ls h1 h2 h3)
theorem z_acmp_eq {E : zE} {w : zW} {cc : ByteArray} {own : String} {fr lo : Nat} {S : zS} {pc pc' : Nat} {L : List (Nat × Value)} {st : List Value} {x y : Option Nat} {off : Int} {tgt : Nat} (C : zC E w cc own fr lo) (d : zD cc pc (.if_acmp .eq off) 3 pc') (ht : (pc : Int) + off = (tgt : Int)) (kt : x = y → zV E w S tgt L st) (kf : ¬ x = y → zV E w S pc' L st) : zV E w S pc L (va_rf y :: va_rf x :: st) := by
  obtain ⟨p, l, e, R, s, m, args, below, meth, c, nL, Q⟩ := E
  obtain ⟨d, rfl⟩ := d
  obtain ⟨hx, hb, hml, hown, hts, hO, hfr, hlo, hlk⟩ := C
  exact fun H locs ls h1 h2 h3 => lv_acmp_eq hx hb d ht (fun q => kt q H locs ls h1 h2 h3) (fun q => kf q H locs ls h1 h2 h3)
theorem z_acmp_ne {E : zE} {w : zW} {cc : ByteArray} {own : String} {fr lo : Nat} {S : zS} {pc pc' : Nat} {L : List (Nat × Value)} {st : List Value} {x y : Option Nat} {off : Int} {tgt : Nat} (C : zC E w cc own fr lo) (d : zD cc pc (.if_acmp .ne off) 3 pc') (ht : (pc : Int) + off = (tgt : Int)) (kt : ¬ x = y → zV E w S tgt L st) (kf : x = y → zV E w S pc' L st) : zV E w S pc L (va_rf y :: va_rf x :: st) := by
  obtain ⟨p, l, e, R, s, m, args, below, meth, c, nL, Q⟩ := E
  obtain ⟨d, rfl⟩ := d
  obtain ⟨hx, hb, hml, hown, hts, hO, hfr, hlo, hlk⟩ := C
  exact fun H locs ls h1 h2 h3 => lv_acmp_ne hx hb d ht (fun q => kt q H locs ls h1 h2 h3) (fun q => kf q H locs ls h1 h2 h3)
theorem z_goto {E : zE} {w : zW} {cc : ByteArray} {own : String} {fr lo : Nat} {S : zS} {pc pc' : Nat} {L : List (Nat × Value)} {st : List Value} {off : Int} {tgt : Nat} (C : zC E w cc own fr lo) (d : zD cc pc (.goto off) 3 pc') (ht : (pc : Int) + off = (tgt : Int)) (k : zV E w S tgt L st) : zV E w S pc L st := by
  obtain ⟨p, l, e, R, s, m, args, below, meth, c, nL, Q⟩ := E
  obtain ⟨d, rfl⟩ := d
  obtain ⟨hx, hb, hml, hown, hts, hO, hfr, hlo, hlk⟩ := C
  exact fun H locs ls h1 h2 h3 => lv_goto hx hb d ht (k H locs ls h1 h2 h3)
theorem z_ifnullN {E : zE} {w : zW} {cc : ByteArray} {own : String} {fr lo : Nat} {S : zS} {pc pc' : Nat} {L : List (Nat × Value)} {st : List Value} {off : Int} {tgt : Nat} (C : zC E w cc own fr lo) (d : zD cc pc (.ifnull off) 3 pc') (ht : (pc : Int) + off = (tgt : Int)) (k : zV E w S tgt L st) : zV E w S pc L (.null :: st) := by
  obtain ⟨p, l, e, R, s, m, args, below, meth, c, nL, Q⟩ := E
  obtain ⟨d, rfl⟩ := d
  obtain ⟨hx, hb, hml, hown, hts, hO, hfr, hlo, hlk⟩ := C
  exact fun H locs ls h1 h2 h3 => lv_ifnullN hx hb d ht (k H locs ls h1 h2 h3)
theorem z_ifnull {E : zE} {w : zW} {cc : ByteArray} {own : String} {fr lo : Nat} {S : zS} {pc pc' : Nat} {L : List (Nat × Value)} {st : List Value} {off : Int} {tgt x : Nat} (C : zC E w cc own fr lo) (d : zD cc pc (.ifnull off) 3 pc') (ht : (pc : Int) + off = (tgt : Int)) (k : zV E w S pc' L st) : zV E w S pc L (.ref x :: st) := by
  obtain ⟨p, l, e, R, s, m, args, below, meth, c, nL, Q⟩ := E
  obtain ⟨d, rfl⟩ := d
  obtain ⟨hx, hb, hml, hown, hts, hO, hfr, hlo, hlk⟩ := C
  exact fun H locs ls h1 h2 h3 => lv_ifnull hx hb d (k H locs ls h1 h2 h3)
theorem z_ifnonnullN {E : zE} {w : zW} {cc : ByteArray} {own : String} {fr lo : Nat} {S : zS} {pc pc' : Nat} {L : List (Nat × Value)} {st : List Value} {off : Int} {tgt : Nat} (C : zC E w cc own fr lo) (d : zD cc pc (.ifnonnull off) 3 pc') (ht : (pc : Int) + off = (tgt : Int)) (k : zV E w S pc' L st) : zV E w S pc L (.null :: st) := by
  obtain ⟨p, l, e, R, s, m, args, below, meth, c, nL, Q⟩ := E
  obtain ⟨d, rfl⟩ := d
  obtain ⟨hx, hb, hml, hown, hts, hO, hfr, hlo, hlk⟩ := C
  exact fun H locs ls h1 h2 h3 => lv_ifnonnullN hx hb d (k H locs ls h1 h2 h3)
theorem z_ifnonnull {E : zE} {w : zW} {cc : ByteArray} {own : String} {fr lo : Nat} {S : zS} {pc pc' : Nat} {L : List (Nat × Value)} {st : List Value} {off : Int} {tgt x : Nat} (C : zC E w cc own fr lo) (d : zD cc pc (.ifnonnull off) 3 pc') (ht : (pc : Int) + off = (tgt : Int)) (k : zV E w S tgt L st) : zV E w S pc L (.ref x :: st) := by
  obtain ⟨p, l, e, R, s, m, args, below, meth, c, nL, Q⟩ := E
  obtain ⟨d, rfl⟩ := d
  obtain ⟨hx, hb, hml, hown, hts, hO, hfr, hlo, hlk⟩ := C
  exact fun H locs ls h1 h2 h3 => lv_ifnonnull hx hb d ht (k H locs ls h1 h2 h3)
theorem z_lookup {E : zE} {w : zW} {cc : ByteArray} {own : String} {fr lo : Nat} {S : zS} {pc pc' : Nat} {L : List (Nat × Value)} {st : List Value} {dflt off : Int} {ps : Array (Int × Int)} {len tgt : Nat} {x : Int32} (C : zC E w cc own fr lo) (d : zD cc pc (.lookupswitch dflt ps) len pc') (hp : (ps.toList.zip (ps.toList.drop 1)).all (fun (a, next) => a.1 < next.1) = true) (ho : Op.lookupswitch.offset ps.toList dflt x.toInt = off) (ht : (pc : Int) + off = (tgt : Int)) (k : zV E w S tgt L st) : zV E w S pc L (.int x :: st) := by
  obtain ⟨p, l, e, R, s, m, args, below, meth, c, nL, Q⟩ := E
  obtain ⟨d, rfl⟩ := d
  obtain ⟨hx, hb, hml, hown, hts, hO, hfr, hlo, hlk⟩ := C
  exact fun H locs ls h1 h2 h3 => lv_lookup hx hb d hp ho ht (k H locs ls h1 h2 h3)
theorem z_tableOut {E : zE} {w : zW} {cc : ByteArray} {own : String} {fr lo : Nat} {S : zS} {pc pc' : Nat} {L : List (Nat × Value)} {st : List Value} {dflt lo9 hi9 : Int} {offs : Array Int} {len tgt : Nat} {x : Int32} (C : zC E w cc own fr lo) (d : zD cc pc (.tableswitch dflt lo9 hi9 offs) len pc') (h : x.toInt < lo9 ∨ hi9 < x.toInt) (ht : (pc : Int) + dflt = (tgt : Int)) (k : zV E w S tgt L st) : zV E w S pc L (.int x :: st) := by
  obtain ⟨p, l, e, R, s, m, args, below, meth, c, nL, Q⟩ := E
  obtain ⟨d, rfl⟩ := d
  obtain ⟨hx, hb, hml, hown, hts, hO, hfr, hlo, hlk⟩ := C
  exact fun H locs ls h1 h2 h3 => lv_tableOut hx hb d h ht (k H locs ls h1 h2 h3)
theorem z_tableIn {E : zE} {w : zW} {cc : ByteArray} {own : String} {fr lo : Nat} {S : zS} {pc pc' : Nat} {L : List (Nat × Value)} {st : List Value} {dflt lo9 hi9 off : Int} {offs : Array Int} {len tgt : Nat} {x y : Int32} (C : zC E w cc own fr lo) (d : zD cc pc (.tableswitch dflt lo9 hi9 offs) len pc') (hxy : x = y) (h : (decide (¬ y.toInt < lo9) && decide (¬ hi9 < y.toInt)) = true) (ho : offs[(y.toInt - lo9).toNat]? = some off) (ht : (pc : Int) + off = (tgt : Int)) (k : zV E w S tgt L st) : zV E w S pc L (.int x :: st) := by
  obtain ⟨p, l, e, R, s, m, args, below, meth, c, nL, Q⟩ := E
  obtain ⟨d, rfl⟩ := d
  obtain ⟨hx, hb, hml, hown, hts, hO, hfr, hlo, hlk⟩ := C
  subst hxy
  simp only [Bool.and_eq_true, decide_eq_true_eq] at h
  exact fun H locs ls h1 h2 h3 => lv_tableIn hx hb d h.1 h.2 ho ht (k H locs ls h1 h2 h3)
theorem z_mmax {E : zE} {w : zW} {cc : ByteArray} {own : String} {fr lo : Nat} {S : zS} {pc pc' : Nat} {L : List (Nat × Value)} {st : List Value} {i : Nat} {x y : Int32} (C : zC E w cc own fr lo) (h1 : Cond.methodLink own i Lib.Math.max.name ∈ tT) (h2 : Cond.static Lib.Math.max.name ∈ tT) (h3 : Cond.initialized "java/lang/Math" ∈ tT) (h4 : Cond.code Lib.Math.max.name Lib.Math.max.code 2 (some .int) ∈ tT) (hf : 1 ≤ fr) (hl : (st.map fun v => v.category).sum + 13 ≤ lo) (d : zD cc pc (.invokestatic i) 3 pc') (k : zV E w S pc' L (.int (if x < y then y else x) :: st)) : zV E w S pc L (.int y :: .int x :: st) := by
  obtain ⟨p, l, e, R, s, m, args, below, meth, c, nL, Q⟩ := E
  obtain ⟨d, rfl⟩ := d
  obtain ⟨hx, hb, hml, hown, hts, hO, hfr, hlo, hlk⟩ := C
  exact fun H locs ls q1 q2 q3 => va_mmax hx hb (hml.trans q3.1.symm) hown (hts _ h1) (hts _ h2) (hts _ h3) (hts _ h4) (Nat.le_trans hf hfr) (Nat.le_trans hl hlo) (Nat.zero_le _) (Nat.zero_le _) d (k H locs ls q1 q2 q3)
theorem z_mmin {E : zE} {w : zW} {cc : ByteArray} {own : String} {fr lo : Nat} {S : zS} {pc pc' : Nat} {L : List (Nat × Value)} {st : List Value} {i : Nat} {x y : Int32} (C : zC E w cc own fr lo) (h1 : Cond.methodLink own i Lib.Math.min.name ∈ tT) (h2 : Cond.static Lib.Math.min.name ∈ tT) (h3 : Cond.initialized "java/lang/Math" ∈ tT) (h4 : Cond.code Lib.Math.min.name Lib.Math.min.code 2 (some .int) ∈ tT) (hf : 1 ≤ fr) (hl : (st.map fun v => v.category).sum + 13 ≤ lo) (d : zD cc pc (.invokestatic i) 3 pc') (k : zV E w S pc' L (.int (if y < x then y else x) :: st)) : zV E w S pc L (.int y :: .int x :: st) := by
  obtain ⟨p, l, e, R, s, m, args, below, meth, c, nL, Q⟩ := E
  obtain ⟨d, rfl⟩ := d
  obtain ⟨hx, hb, hml, hown, hts, hO, hfr, hlo, hlk⟩ := C
  exact fun H locs ls q1 q2 q3 => va_mmin hx hb (hml.trans q3.1.symm) hown (hts _ h1) (hts _ h2) (hts _ h3) (hts _ h4) (Nat.le_trans hf hfr) (Nat.le_trans hl hlo) (Nat.zero_le _) (Nat.zero_le _) d (k H locs ls q1 q2 q3)
def zRt (E : zE) (ret : Option FieldType) : Prop := E.2.2.2.2.2.2.2.2.1.sig.returnType = ret
theorem z_ireturn {E : zE} {w : zW} {cc : ByteArray} {own : String} {fr lo : Nat} {S : zS} {pc pc' : Nat} {L : List (Nat × Value)} {st : List Value} {P : zS → Int32 → Prop} {v : Int32} (C : zC E w cc own fr lo) (G : zGoal E (zQ w (zPi P)) w) (hr : zRt E (some .int)) (h : P S v) (d : zD cc pc .ireturn 1 pc') : zV E w S pc L ([.int v]) := by
  obtain ⟨p, l, e, R, s, m, args, below, meth, c, nL, Q⟩ := E
  obtain ⟨d, rfl⟩ := d
  obtain ⟨hx, hb, hml, hown, hts, hO, hfr, hlo, hlk⟩ := C
  have G : Q = _ := G
  subst G
  exact fun H locs ls h1 h2 h3 => W.iret hx hb hr (fun t ht hW => ⟨⟨_, S, rfl, ⟨_, rfl, h⟩, by unfold zB; rw [ht]; exact h1⟩, h2.F ht⟩) h2.2.2 d hlk
theorem z_zreturn {E : zE} {w : zW} {cc : ByteArray} {own : String} {fr lo : Nat} {S : zS} {pc pc' : Nat} {L : List (Nat × Value)} {st : List Value} {P : zS → Int32 → Prop} {v : Int32} (C : zC E w cc own fr lo) (G : zGoal E (zQ w (zPi P)) w) (hr : zRt E (some .boolean)) (hn : narrow .boolean (.int v) = .int v) (h : P S v) (d : zD cc pc .ireturn 1 pc') : zV E w S pc L ([.int v]) := by
  obtain ⟨p, l, e, R, s, m, args, below, meth, c, nL, Q⟩ := E
  obtain ⟨d, rfl⟩ := d
  obtain ⟨hx, hb, hml, hown, hts, hO, hfr, hlo, hlk⟩ := C
  have G : Q = _ := G
  subst G
  exact fun H locs ls h1 h2 h3 => W.zret hx hb hr hn (fun t ht hW => ⟨⟨_, S, rfl, ⟨_, rfl, h⟩, by unfold zB; rw [ht]; exact h1⟩, h2.F ht⟩) h2.2.2 d hlk
theorem z_lreturn {E : zE} {w : zW} {cc : ByteArray} {own : String} {fr lo : Nat} {S : zS} {pc pc' : Nat} {L : List (Nat × Value)} {st : List Value} {P : zS → Int64 → Prop} {v : Int64} (C : zC E w cc own fr lo) (G : zGoal E (zQ w (zPl P)) w) (hr : zRt E (some .long)) (h : P S v) (d : zD cc pc .lreturn 1 pc') : zV E w S pc L ([.long v]) := by
  obtain ⟨p, l, e, R, s, m, args, below, meth, c, nL, Q⟩ := E
  obtain ⟨d, rfl⟩ := d
  obtain ⟨hx, hb, hml, hown, hts, hO, hfr, hlo, hlk⟩ := C
  have G : Q = _ := G
  subst G
  exact fun H locs ls h1 h2 h3 => W.lret hx hb hr (fun t ht hW => ⟨⟨_, S, rfl, ⟨_, rfl, h⟩, by unfold zB; rw [ht]; exact h1⟩, h2.F ht⟩) h2.2.2 d hlk
theorem z_vreturn {E : zE} {w : zW} {cc : ByteArray} {own : String} {fr lo : Nat} {S : zS} {pc pc' : Nat} {L : List (Nat × Value)} {st : List Value} {P : zS → Prop} (C : zC E w cc own fr lo) (G : zGoal E (zQ w (zPv P)) w) (hr : zRt E none) (h : P S) (d : zD cc pc .return_ 1 pc') : zV E w S pc L ([]) := by
  obtain ⟨p, l, e, R, s, m, args, below, meth, c, nL, Q⟩ := E
  obtain ⟨d, rfl⟩ := d
  obtain ⟨hx, hb, hml, hown, hts, hO, hfr, hlo, hlk⟩ := C
  have G : Q = _ := G
  subst G
  exact fun H locs ls h1 h2 h3 => W.vret hx hb hr (fun t ht hW => ⟨⟨_, S, rfl, ⟨rfl, h⟩, by unfold zB; rw [ht]; exact h1⟩, h2.F ht⟩) h2.2.2 d hlk
theorem z_areturn {E : zE} {w : zW} {cc : ByteArray} {own : String} {fr lo : Nat} {S : zS} {pc pc' : Nat} {L : List (Nat × Value)} {st : List Value} {P : zS → Option Nat → Prop} {f : Nat → Nat} {v : Option Nat} {nm : String} (C : zC E w cc own fr lo) (G : zGoal E (zQ w (zPq f P)) w) (hr : zRt E (some (.object nm))) (h : P S v) (d : zD cc pc .areturn 1 pc') : zV E w S pc L [va_rf (v.map f)] := by
  obtain ⟨p, l, e, R, s, m, args, below, meth, c, nL, Q⟩ := E
  obtain ⟨d, rfl⟩ := d
  obtain ⟨hx, hb, hml, hown, hts, hO, hfr, hlo, hlk⟩ := C
  have G : Q = _ := G
  subst G
  exact fun H locs ls h1 h2 h3 => W.aret hx hb hr (Or.inl ⟨_, rfl⟩) (by cases v with | none => exact Or.inl rfl | some y => exact Or.inr ⟨_, rfl⟩) (fun t ht hW => ⟨⟨_, S, rfl, ⟨v, rfl, h⟩, by unfold zB; rw [ht]; exact h1⟩, h2.F ht⟩) h2.2.2 d hlk
/-- a callee's own words -/
def zQw (y : MethodName) (bytes : ByteArray) (n : Nat) (ret : Option FieldType) (k : Nat) : Prop := Cond.instanceMethod y ∈ tT ∧ Cond.selects y.cls y y ∈ tT ∧ Cond.initialized y.cls ∈ tT ∧ Cond.code y bytes n ret ∈ tT ∧ (y.cls ≠ "java/lang/invoke/MethodHandle" ∧ y.cls ≠ "java/lang/invoke/VarHandle" ∧ (parseMethodDescriptor y.desc).map (fun d => d.parameters.length) = some k)
def zQs (y : MethodName) (bytes : ByteArray) (n : Nat) (ret : Option FieldType) (k : Nat) : Prop := Cond.static y ∈ tT ∧ Cond.initialized y.cls ∈ tT ∧ Cond.code y bytes n ret ∈ tT ∧ (y.cls ≠ "java/lang/invoke/MethodHandle" ∧ y.cls ≠ "java/lang/invoke/VarHandle" ∧ (parseMethodDescriptor y.desc).map (fun d => d.parameters.length) = some k)
theorem z_good {c : Cond} (h : c ∈ tT) : GoodIn tT (c :: tT) := fun w hw => by
  have hm : w ∈ tT := by
    rcases List.mem_cons.mp hw with rfl | hw
    · exact h
    · exact hw
  exact ⟨hm, good_of_word (tT_in hm).2⟩
/-- the receiver is one of the system's cells -/
def zRc (w : zW) (S : zS) (cls : String) (b : Nat) : Prop := ∃ (ci q0 : Nat) (fs : List Value) (T : u_T) (N : Nat), vwCl[ci]? = some (cls, T, N) ∧ (w.1 S)[q0]? = some (b, .inr (ci, fs))
theorem z_run {p : Program} {l : Launch} {e : Env} {R : Room} {s : State} {m : MethodId} {args : Array Value} {below : List Frame} {meth : Method} {c : Code} {H : Heap} {locs : List Loc} {Q : State → Prop} {pc : Nat} {ls : Array Slot} {st0 rest : List Value} {w : zW} {P : Option Value → zS → Prop} {a : Array Value}
    (hr : va_Run p l e R s m args below meth c H locs 0 0 0 0 (F0 m pc ls st0) rest (zQ w P a) w.2.2.2) (hS : va_S w.2.2.2 s.heap H locs)
    (kk : ∀ (v : Option Value) (u : zS) (H1 : Heap) (locs1 : List Loc), P v u → va_P w.2.1 vwCl (w.1 u) H1 → va_S w.2.2.2 s.heap H1 locs1 → W p l e R s m args below meth c H1 locs1 0 0 Q (F0 m (pc + 3) ls (v.toList ++ rest))) : W p l e R s m args below meth c H locs 0 0 Q (F0 m pc ls st0) := by
  intro T hT X
  obtain ⟨v, st₀, t, T', L, h0, X', hL, e1, e2, ⟨⟨r, u, hv, hp, hb⟩, hz, hk⟩, st⟩ := hr T hT X
  cases hv
  rw [h0] at hz hk
  obtain ⟨t2, a1, b1⟩ := kk v u T'.heap (locs ++ L) hp (by rw [e1]; exact hb)
    ⟨Nat.le_trans hS.1 (by rw [e1]; exact hz), fun q h1 h2 => by rw [e1, hk q (Nat.lt_of_lt_of_le h1 hS.1) h2]; exact hS.2.1 q h1 h2, fun q hq => by
      rcases List.mem_append.mp hq with h | h
      · exact hS.2.2 q h
      · exact hL q h⟩ T' rfl X'
  exact ⟨t2, st t2 a1, b1⟩
theorem z_callV {E : zE} {w : zW} {cc : ByteArray} {own : String} {fr lo : Nat} {S : zS} {pc pc' : Nat} {L : List (Nat × Value)} {st : List Value} {y : MethodName} {bytes : ByteArray} {n idx fr' lo' k9 : Nat} {ret : Option FieldType} {b : Nat} {As rest : List Value} {P : Option Value → zS → Prop} (C : zC E w cc own fr lo) (q : zQw y bytes n ret k9) (hl : Cond.methodLink own idx y ∈ tT) (hM : Met E.2.1 y (Cond.code y bytes n ret :: tT) (zRm fr' lo') (zPc w (.ref b :: As) S) (zQ w P) 0 0 w.2.2.2) (hrc : zRc w S y.cls b) (hR : fr' + 1 ≤ fr ∧ 8 + (n + 11) + lo' ≤ lo) (hAs : As.length = k9) (hst : As.reverse ++ .ref b :: rest = st) (hsz : (rest.map fun v => v.category).sum ≤ 8) (d : zD cc pc (.invokevirtual idx) 3 pc')
    (k : ∀ (v : Option Value) (u : zS), P v u → zV E w u pc' L (v.toList ++ rest)) : zV E w S pc L st := by
  obtain ⟨p, l, e, R, s, m, args, below, meth, c, nL, Q⟩ := E
  obtain ⟨d, rfl⟩ := d
  obtain ⟨hx, hb, hml, hown, hts, hO, hfr, hlo, hlk⟩ := C
  obtain ⟨q1, q2, q3, q4, q5⟩ := q
  obtain ⟨ci, q0, fs, T, N, hc, he⟩ := hrc
  subst hst
  intro H locs ls h1 h2 h3
  refine z_run (va_runV (Ts := tT) (C := y.cls) (As := As) (rest := rest) (n := k9) ⟨hx, hb, hml, hown, hts⟩ hM (cwV k9 hts (fun w hw => ?_) rfl rfl rfl ⟨rfl, q5⟩ ⟨Nat.le_trans hR.1 hfr, Nat.le_trans hR.2 hlo⟩) ⟨zPc_blind w _ S, va_recv hO.1 h1 hc he, fun U hU hW => ⟨rfl, hO.warm hW, by rw [hU]; exact h1⟩⟩ rfl hAs h3.1 rfl (lv_room hsz) d ⟨Nat.zero_le _, Nat.zero_le _⟩) h2 (fun v u H1 locs1 hp hb1 hs1 => k v u hp H1 locs1 ls hb1 hs1 h3)
  unfold wsV at hw
  rcases List.mem_append.mp hw with hw | hw
  · rcases List.mem_cons.mp hw with rfl | hw
    · exact ⟨hl, good_of_word (tT_in hl).2⟩
    rcases List.mem_cons.mp hw with rfl | hw
    · exact ⟨q1, good_of_word (tT_in q1).2⟩
    rcases List.mem_cons.mp hw with rfl | hw
    · exact ⟨q2, good_of_word (tT_in q2).2⟩
    rcases List.mem_cons.mp hw with rfl | hw
    · exact ⟨q3, good_of_word (tT_in q3).2⟩
    · cases hw
  · exact z_good q4 w hw
theorem z_callS {E : zE} {w : zW} {cc : ByteArray} {own : String} {fr lo : Nat} {S : zS} {pc pc' : Nat} {L : List (Nat × Value)} {st : List Value} {y : MethodName} {bytes : ByteArray} {n idx fr' lo' k9 : Nat} {ret : Option FieldType} {As rest : List Value} {P : Option Value → zS → Prop} (C : zC E w cc own fr lo) (q : zQs y bytes n ret k9) (hy : y.cls = own) (hl : Cond.methodLink own idx y ∈ tT) (hM : Met E.2.1 y (Cond.code y bytes n ret :: tT) (zRm fr' lo') (zPc w As S) (zQ w P) 0 0 w.2.2.2) (hR : fr' + 1 ≤ fr ∧ 8 + (n + 11) + lo' ≤ lo) (hAs : As.length = k9) (hst : As.reverse ++ rest = st) (hsz : (rest.map fun v => v.category).sum ≤ 8) (d : zD cc pc (.invokestatic idx) 3 pc')
    (k : ∀ (v : Option Value) (u : zS), P v u → zV E w u pc' L (v.toList ++ rest)) : zV E w S pc L st := by
  obtain ⟨p, l, e, R, s, m, args, below, meth, c, nL, Q⟩ := E
  obtain ⟨d, rfl⟩ := d
  obtain ⟨hx, hb, hml, hown, hts, hO, hfr, hlo, hlk⟩ := C
  obtain ⟨q1, q3, q4, q5⟩ := q
  subst hst; subst hy
  intro H locs ls h1 h2 h3
  refine z_run (va_runS (Ts := tT) (As := As) (rest := rest) (n := k9) ⟨hx, hb, hml, hown, hts⟩ hM (cwS k9 hts (fun w hw => ?_) rfl rfl rfl ⟨rfl, q5⟩ ⟨Nat.le_trans hR.1 hfr, Nat.le_trans hR.2 hlo⟩) ⟨zPc_blind w _ S, fun U hU hW => ⟨rfl, hO.warm hW, by rw [hU]; exact h1⟩⟩ rfl hAs h3.1 rfl (lv_room hsz) d ⟨Nat.zero_le _, Nat.zero_le _⟩) h2 (fun v u H1 locs1 hp hb1 hs1 => k v u hp H1 locs1 ls hb1 hs1 h3)
  unfold wsS at hw
  rcases List.mem_append.mp hw with hw | hw
  · rcases List.mem_cons.mp hw with rfl | hw
    · exact ⟨hl, good_of_word (tT_in hl).2⟩
    rcases List.mem_cons.mp hw with rfl | hw
    · exact ⟨q1, good_of_word (tT_in q1).2⟩
    rcases List.mem_cons.mp hw with rfl | hw
    · exact ⟨q3, good_of_word (tT_in q3).2⟩
    · cases hw
  · exact z_good q4 w hw
theorem z_callVi {E : zE} {w : zW} {cc : ByteArray} {own : String} {fr lo : Nat} {S : zS} {pc pc' : Nat} {L : List (Nat × Value)} {st : List Value} {y : MethodName} {bytes : ByteArray} {n idx fr' lo' k9 : Nat} {ret : Option FieldType} {b : Nat} {As rest : List Value} {P : zS → Int32 → Prop} (C : zC E w cc own fr lo) (q : zQw y bytes n ret k9) (hl : Cond.methodLink own idx y ∈ tT) (hM : Met E.2.1 y (Cond.code y bytes n ret :: tT) (zRm fr' lo') (zPc w (.ref b :: As) S) (zQ w (zPi P)) 0 0 w.2.2.2) (hrc : zRc w S y.cls b) (hR : fr' + 1 ≤ fr ∧ 8 + (n + 11) + lo' ≤ lo) (hAs : As.length = k9) (hst : As.reverse ++ .ref b :: rest = st) (hsz : (rest.map fun v => v.category).sum ≤ 8) (d : zD cc pc (.invokevirtual idx) 3 pc') (k : ∀ (u : zS) (r : Int32) , P u r → zV E w u pc' L (.int r :: rest)) : zV E w S pc L st :=
  z_callV C q hl hM hrc hR hAs hst hsz d (fun v u h => by obtain ⟨r, rfl, h⟩ := h; exact k u r h)
theorem z_callSi {E : zE} {w : zW} {cc : ByteArray} {own : String} {fr lo : Nat} {S : zS} {pc pc' : Nat} {L : List (Nat × Value)} {st : List Value} {y : MethodName} {bytes : ByteArray} {n idx fr' lo' k9 : Nat} {ret : Option FieldType} {As rest : List Value} {P : zS → Int32 → Prop} (C : zC E w cc own fr lo) (q : zQs y bytes n ret k9) (hy : y.cls = own) (hl : Cond.methodLink own idx y ∈ tT) (hM : Met E.2.1 y (Cond.code y bytes n ret :: tT) (zRm fr' lo') (zPc w As S) (zQ w (zPi P)) 0 0 w.2.2.2) (hR : fr' + 1 ≤ fr ∧ 8 + (n + 11) + lo' ≤ lo) (hAs : As.length = k9) (hst : As.reverse ++ rest = st) (hsz : (rest.map fun v => v.category).sum ≤ 8) (d : zD cc pc (.invokestatic idx) 3 pc') (k : ∀ (u : zS) (r : Int32) , P u r → zV E w u pc' L (.int r :: rest)) : zV E w S pc L st :=
  z_callS C q hy hl hM hR hAs hst hsz d (fun v u h => by obtain ⟨r, rfl, h⟩ := h; exact k u r h)
theorem z_callVl {E : zE} {w : zW} {cc : ByteArray} {own : String} {fr lo : Nat} {S : zS} {pc pc' : Nat} {L : List (Nat × Value)} {st : List Value} {y : MethodName} {bytes : ByteArray} {n idx fr' lo' k9 : Nat} {ret : Option FieldType} {b : Nat} {As rest : List Value} {P : zS → Int64 → Prop} (C : zC E w cc own fr lo) (q : zQw y bytes n ret k9) (hl : Cond.methodLink own idx y ∈ tT) (hM : Met E.2.1 y (Cond.code y bytes n ret :: tT) (zRm fr' lo') (zPc w (.ref b :: As) S) (zQ w (zPl P)) 0 0 w.2.2.2) (hrc : zRc w S y.cls b) (hR : fr' + 1 ≤ fr ∧ 8 + (n + 11) + lo' ≤ lo) (hAs : As.length = k9) (hst : As.reverse ++ .ref b :: rest = st) (hsz : (rest.map fun v => v.category).sum ≤ 8) (d : zD cc pc (.invokevirtual idx) 3 pc') (k : ∀ (u : zS) (r : Int64) , P u r → zV E w u pc' L (.long r :: rest)) : zV E w S pc L st :=
  z_callV C q hl hM hrc hR hAs hst hsz d (fun v u h => by obtain ⟨r, rfl, h⟩ := h; exact k u r h)
theorem z_callSl {E : zE} {w : zW} {cc : ByteArray} {own : String} {fr lo : Nat} {S : zS} {pc pc' : Nat} {L : List (Nat × Value)} {st : List Value} {y : MethodName} {bytes : ByteArray} {n idx fr' lo' k9 : Nat} {ret : Option FieldType} {As rest : List Value} {P : zS → Int64 → Prop} (C : zC E w cc own fr lo) (q : zQs y bytes n ret k9) (hy : y.cls = own) (hl : Cond.methodLink own idx y ∈ tT) (hM : Met E.2.1 y (Cond.code y bytes n ret :: tT) (zRm fr' lo') (zPc w As S) (zQ w (zPl P)) 0 0 w.2.2.2) (hR : fr' + 1 ≤ fr ∧ 8 + (n + 11) + lo' ≤ lo) (hAs : As.length = k9) (hst : As.reverse ++ rest = st) (hsz : (rest.map fun v => v.category).sum ≤ 8) (d : zD cc pc (.invokestatic idx) 3 pc') (k : ∀ (u : zS) (r : Int64) , P u r → zV E w u pc' L (.long r :: rest)) : zV E w S pc L st :=
  z_callS C q hy hl hM hR hAs hst hsz d (fun v u h => by obtain ⟨r, rfl, h⟩ := h; exact k u r h)
theorem z_callVv {E : zE} {w : zW} {cc : ByteArray} {own : String} {fr lo : Nat} {S : zS} {pc pc' : Nat} {L : List (Nat × Value)} {st : List Value} {y : MethodName} {bytes : ByteArray} {n idx fr' lo' k9 : Nat} {ret : Option FieldType} {b : Nat} {As rest : List Value} {P : zS → Prop} (C : zC E w cc own fr lo) (q : zQw y bytes n ret k9) (hl : Cond.methodLink own idx y ∈ tT) (hM : Met E.2.1 y (Cond.code y bytes n ret :: tT) (zRm fr' lo') (zPc w (.ref b :: As) S) (zQ w (zPv P)) 0 0 w.2.2.2) (hrc : zRc w S y.cls b) (hR : fr' + 1 ≤ fr ∧ 8 + (n + 11) + lo' ≤ lo) (hAs : As.length = k9) (hst : As.reverse ++ .ref b :: rest = st) (hsz : (rest.map fun v => v.category).sum ≤ 8) (d : zD cc pc (.invokevirtual idx) 3 pc') (k : ∀ (u : zS) , P u → zV E w u pc' L (rest)) : zV E w S pc L st :=
  z_callV C q hl hM hrc hR hAs hst hsz d (fun v u h => by obtain ⟨rfl, h⟩ := h; exact k u h)
theorem z_callSv {E : zE} {w : zW} {cc : ByteArray} {own : String} {fr lo : Nat} {S : zS} {pc pc' : Nat} {L : List (Nat × Value)} {st : List Value} {y : MethodName} {bytes : ByteArray} {n idx fr' lo' k9 : Nat} {ret : Option FieldType} {As rest : List Value} {P : zS → Prop} (C : zC E w cc own fr lo) (q : zQs y bytes n ret k9) (hy : y.cls = own) (hl : Cond.methodLink own idx y ∈ tT) (hM : Met E.2.1 y (Cond.code y bytes n ret :: tT) (zRm fr' lo') (zPc w As S) (zQ w (zPv P)) 0 0 w.2.2.2) (hR : fr' + 1 ≤ fr ∧ 8 + (n + 11) + lo' ≤ lo) (hAs : As.length = k9) (hst : As.reverse ++ rest = st) (hsz : (rest.map fun v => v.category).sum ≤ 8) (d : zD cc pc (.invokestatic idx) 3 pc') (k : ∀ (u : zS) , P u → zV E w u pc' L (rest)) : zV E w S pc L st :=
  z_callS C q hy hl hM hR hAs hst hsz d (fun v u h => by obtain ⟨rfl, h⟩ := h; exact k u h)
theorem z_callVq {E : zE} {w : zW} {cc : ByteArray} {own : String} {fr lo : Nat} {S : zS} {pc pc' : Nat} {L : List (Nat × Value)} {st : List Value} {y : MethodName} {bytes : ByteArray} {n idx fr' lo' k9 : Nat} {ret : Option FieldType} {b : Nat} {As rest : List Value} {f : Nat → Nat} {P : zS → Option Nat → Prop} (C : zC E w cc own fr lo) (q : zQw y bytes n ret k9) (hl : Cond.methodLink own idx y ∈ tT) (hM : Met E.2.1 y (Cond.code y bytes n ret :: tT) (zRm fr' lo') (zPc w (.ref b :: As) S) (zQ w (zPq f P)) 0 0 w.2.2.2) (hrc : zRc w S y.cls b) (hR : fr' + 1 ≤ fr ∧ 8 + (n + 11) + lo' ≤ lo) (hAs : As.length = k9) (hst : As.reverse ++ .ref b :: rest = st) (hsz : (rest.map fun v => v.category).sum ≤ 8) (d : zD cc pc (.invokevirtual idx) 3 pc') (k : ∀ (u : zS) (r : Option Nat) , P u r → zV E w u pc' L (va_rf (r.map f) :: rest)) : zV E w S pc L st :=
  z_callV C q hl hM hrc hR hAs hst hsz d (fun v u h => by obtain ⟨r, rfl, h⟩ := h; exact k u r h)
theorem z_callSq {E : zE} {w : zW} {cc : ByteArray} {own : String} {fr lo : Nat} {S : zS} {pc pc' : Nat} {L : List (Nat × Value)} {st : List Value} {y : MethodName} {bytes : ByteArray} {n idx fr' lo' k9 : Nat} {ret : Option FieldType} {As rest : List Value} {f : Nat → Nat} {P : zS → Option Nat → Prop} (C : zC E w cc own fr lo) (q : zQs y bytes n ret k9) (hy : y.cls = own) (hl : Cond.methodLink own idx y ∈ tT) (hM : Met E.2.1 y (Cond.code y bytes n ret :: tT) (zRm fr' lo') (zPc w As S) (zQ w (zPq f P)) 0 0 w.2.2.2) (hR : fr' + 1 ≤ fr ∧ 8 + (n + 11) + lo' ≤ lo) (hAs : As.length = k9) (hst : As.reverse ++ rest = st) (hsz : (rest.map fun v => v.category).sum ≤ 8) (d : zD cc pc (.invokestatic idx) 3 pc') (k : ∀ (u : zS) (r : Option Nat) , P u r → zV E w u pc' L (va_rf (r.map f) :: rest)) : zV E w S pc L st :=
  z_callS C q hy hl hM hR hAs hst hsz d (fun v u h => by obtain ⟨r, rfl, h⟩ := h; exact k u r h)
theorem z_get {E : zE} {w : zW} {cc : ByteArray} {own : String} {fr lo : Nat} {S : zS} {pc pc' : Nat} {L : List (Nat × Value)} {st : List Value} {idx ci N q0 a : Nat} {Cn : String} {T : u_T} {fs : List Value} {v : Value} (C : zC E w cc own fr lo) (he : (w.1 S)[q0]? = some (a, .inr (ci, fs))) (hin : ∀ w ∈ u_ws Cn T N, w ∈ tT) (hc : vwCl[ci]? = some (Cn, T, N)) (k9 : Nat) (hk : k9 < N) (hl : zLk own idx (T k9).1 (T k9).2.1 (T k9).2.2.1) (hv : fs[k9]? = some v) (d : zD cc pc (.getfield idx) 3 pc') (k : zV E w S pc' L (v :: st)) : zV E w S pc L (.ref a :: st) := by
  obtain ⟨p, l, e, R, s, m, args, below, meth, c, nL, Q⟩ := E
  obtain ⟨d, rfl⟩ := d
  obtain ⟨hx, hb, hml, hown, hts, hO, hfr, hlo, hlk⟩ := C
  intro H locs ls h1 h2 h3
  rcases hl with hl | hl
  · exact va_get hx hb hts hin hown hO.1 h1 q0 he hc k9 hk (hts _ hl) (fun _ h9 => h9) hv d (k H locs ls h1 h2 h3)
  · exact va_getN hx hb hts hin hown hO.1 h1 q0 he hc k9 hk (va_Nw.use rfl (hO.2.1 _ hl)) (fun _ h9 => h9) hv d (k H locs ls h1 h2 h3)
theorem z_put {E : zE} {w : zW} {cc : ByteArray} {own : String} {fr lo : Nat} {S : zS} {pc pc' : Nat} {L : List (Nat × Value)} {st : List Value} {S' : zS} {idx ci N q0 a : Nat} {Cn : String} {T : u_T} {ty0 : Nat → FieldType} {fs : List Value} {v : Value} {ty : FieldType} (C : zC E w cc own fr lo) (he : (w.1 S)[q0]? = some (a, .inr (ci, fs))) (hin : ∀ w ∈ u_ws Cn T N, w ∈ tT) (hty : ∀ k, k < N → parseFieldDescriptor (T k).2.2.1 = some (ty0 k)) (hnm : ∀ a, a < N → ∀ b, b < N → a ≠ b → (T a).2.1 ≠ (T b).2.1) (hc : vwCl[ci]? = some (Cn, T, N)) (k9 : Nat) (hk : k9 < N) (hl : zLk own idx (T k9).1 (T k9).2.1 (T k9).2.2.1) (hfin : (T k9).2.2.2 = false) (hd : ty0 k9 = ty) (hn : narrow ty v = v) (hfit : fits ty v = true) (hlen : k9 < fs.length) (hS : (w.1 S).set q0 (a, .inr (ci, fs.set k9 v)) = w.1 S') (d : zD cc pc (.putfield idx) 3 pc') (k : zV E w S' pc' L st) : zV E w S pc L (v :: .ref a :: st) := by
  obtain ⟨p, l, e, R, s, m, args, below, meth, c, nL, Q⟩ := E
  obtain ⟨d, rfl⟩ := d
  obtain ⟨hx, hb, hml, hown, hts, hO, hfr, hlo, hlk⟩ := C
  intro H locs ls h1 h2 h3
  have hd' : parseFieldDescriptor (T k9).2.2.1 = some ty := by rw [← hd]; exact hty k9 hk
  rcases hl with hl | hl
  · exact va_put hx hb hts hin ty0 hty hnm hown hO.1 h1 (hO.2.2 S) h2 q0 he hc k9 hk (hts _ hl) (fun _ h9 => h9) hfin hd' hn hfit hlen d (fun H1 locs1 p1 p2 p3 => k H1 locs1 ls (by rw [← hS]; exact p1) p3 h3)
  · exact va_putN hx hb hts hin ty0 hty hnm hown hO.1 h1 (hO.2.2 S) h2 q0 he hc k9 hk (va_Nw.use rfl (hO.2.1 _ hl)) (fun _ h9 => h9) hfin hd' hn hfit hlen d (fun H1 locs1 p1 p2 p3 => k H1 locs1 ls (by rw [← hS]; exact p1) p3 h3)
theorem z_iald {E : zE} {w : zW} {cc : ByteArray} {own : String} {fr lo : Nat} {S : zS} {pc pc' : Nat} {L : List (Nat × Value)} {st : List Value} {q0 t0 a n : Nat} {cA : ClassId} {f : Nat → Int32} {i : Int32} (C : zC E w cc own fr lo) (he : (w.1 S)[q0]? = some (a, .inl (cA, n, .inl f))) (ht : w.2.2.1[t0]? = some (cA, .int)) (hi : vp_in i n) (d : zD cc pc .iaload 1 pc') (k : zV E w S pc' L (.int (f i.toNatClampNeg) :: st)) : zV E w S pc L (.int i :: .ref a :: st) := by
  obtain ⟨p, l, e, R, s, m, args, below, meth, c, nL, Q⟩ := E
  obtain ⟨d, rfl⟩ := d
  obtain ⟨hx, hb, hml, hown, hts, hO, hfr, hlo, hlk⟩ := C
  exact fun H locs ls h1 h2 h3 => va_iald hx hb hO.1 h1 q0 t0 he ht hi d (k H locs ls h1 h2 h3)
theorem z_bald {E : zE} {w : zW} {cc : ByteArray} {own : String} {fr lo : Nat} {S : zS} {pc pc' : Nat} {L : List (Nat × Value)} {st : List Value} {q0 t0 a n : Nat} {cA : ClassId} {f : Nat → Int32} {i : Int32} (C : zC E w cc own fr lo) (he : (w.1 S)[q0]? = some (a, .inl (cA, n, .inl f))) (ht : w.2.2.1[t0]? = some (cA, .byte)) (hi : vp_in i n) (d : zD cc pc .baload 1 pc') (k : zV E w S pc' L (.int (f i.toNatClampNeg) :: st)) : zV E w S pc L (.int i :: .ref a :: st) := by
  obtain ⟨p, l, e, R, s, m, args, below, meth, c, nL, Q⟩ := E
  obtain ⟨d, rfl⟩ := d
  obtain ⟨hx, hb, hml, hown, hts, hO, hfr, hlo, hlk⟩ := C
  exact fun H locs ls h1 h2 h3 => va_bald hx hb hO.1 h1 q0 t0 he ht hi d (k H locs ls h1 h2 h3)
theorem z_iast {E : zE} {w : zW} {cc : ByteArray} {own : String} {fr lo : Nat} {S : zS} {pc pc' : Nat} {L : List (Nat × Value)} {st : List Value} {S' : zS} {q0 t0 a n : Nat} {cA : ClassId} {f : Nat → Int32} {i x : Int32} (C : zC E w cc own fr lo) (he : (w.1 S)[q0]? = some (a, .inl (cA, n, .inl f))) (ht : w.2.2.1[t0]? = some (cA, .int)) (hi : vp_in i n) (hS : (w.1 S).set q0 (a, .inl (cA, n, .inl (upd f i.toNatClampNeg (x)))) = w.1 S') (d : zD cc pc .iastore 1 pc') (k : zV E w S' pc' L st) : zV E w S pc L (.int x :: .int i :: .ref a :: st) := by
  obtain ⟨p, l, e, R, s, m, args, below, meth, c, nL, Q⟩ := E
  obtain ⟨d, rfl⟩ := d
  obtain ⟨hx, hb, hml, hown, hts, hO, hfr, hlo, hlk⟩ := C
  exact fun H locs ls h1 h2 h3 => va_iast hx hb hO.1 h1 (hO.2.2 S) h2 q0 t0 he ht hi d (fun H1 locs1 p1 p2 p3 => k H1 locs1 ls (by rw [← hS]; exact p1) p3 h3)
theorem z_bast {E : zE} {w : zW} {cc : ByteArray} {own : String} {fr lo : Nat} {S : zS} {pc pc' : Nat} {L : List (Nat × Value)} {st : List Value} {S' : zS} {q0 t0 a n : Nat} {cA : ClassId} {f : Nat → Int32} {i x : Int32} (C : zC E w cc own fr lo) (he : (w.1 S)[q0]? = some (a, .inl (cA, n, .inl f))) (ht : w.2.2.1[t0]? = some (cA, .byte)) (hi : vp_in i n) (hS : (w.1 S).set q0 (a, .inl (cA, n, .inl (upd f i.toNatClampNeg (vp_nar .byte x)))) = w.1 S') (d : zD cc pc .bastore 1 pc') (k : zV E w S' pc' L st) : zV E w S pc L (.int x :: .int i :: .ref a :: st) := by
  obtain ⟨p, l, e, R, s, m, args, below, meth, c, nL, Q⟩ := E
  obtain ⟨d, rfl⟩ := d
  obtain ⟨hx, hb, hml, hown, hts, hO, hfr, hlo, hlk⟩ := C
  exact fun H locs ls h1 h2 h3 => va_bast hx hb hO.1 h1 (hO.2.2 S) h2 q0 t0 he ht hi d (fun H1 locs1 p1 p2 p3 => k H1 locs1 ls (by rw [← hS]; exact p1) p3 h3)
theorem z_alen {E : zE} {w : zW} {cc : ByteArray} {own : String} {fr lo : Nat} {S : zS} {pc pc' : Nat} {L : List (Nat × Value)} {st : List Value} {q0 t0 a : Nat} {cA : ClassId} {x : vp_A} {ty : FieldType} {v : Int32} (C : zC E w cc own fr lo) (he : (w.1 S)[q0]? = some (a, .inl (cA, x))) (ht : w.2.2.1[t0]? = some (cA, ty)) (hv : Int32.ofNat x.1 = v) (d : zD cc pc .arraylength 1 pc') (k : zV E w S pc' L (.int v :: st)) : zV E w S pc L (.ref a :: st) := by
  obtain ⟨p, l, e, R, s, m, args, below, meth, c, nL, Q⟩ := E
  obtain ⟨d, rfl⟩ := d
  obtain ⟨hx, hb, hml, hown, hts, hO, hfr, hlo, hlk⟩ := C
  exact fun H locs ls h1 h2 h3 => va_alen hx hb hO.1 h1 q0 t0 he ht hv d (k H locs ls h1 h2 h3)
theorem z_aald {E : zE} {w : zW} {cc : ByteArray} {own : String} {fr lo : Nat} {S : zS} {pc pc' : Nat} {L : List (Nat × Value)} {st : List Value} {q0 t0 a n : Nat} {cA : ClassId} {cn : String} {f : Nat → Option Nat} {i : Int32} (C : zC E w cc own fr lo) (he : (w.1 S)[q0]? = some (a, .inl (cA, n, .inr (.inr (.inr (.inr f)))))) (ht : w.2.2.1[t0]? = some (cA, .object cn)) (hi : vp_in i n) (d : zD cc pc .aaload 1 pc') (k : zV E w S pc' L (va_rf (f i.toNatClampNeg) :: st)) : zV E w S pc L (.int i :: .ref a :: st) := by
  obtain ⟨p, l, e, R, s, m, args, below, meth, c, nL, Q⟩ := E
  obtain ⟨d, rfl⟩ := d
  obtain ⟨hx, hb, hml, hown, hts, hO, hfr, hlo, hlk⟩ := C
  exact fun H locs ls h1 h2 h3 => va_aldq hx hb hO.1 h1 q0 t0 he ht hi d (k H locs ls h1 h2 h3)
theorem z_aast {E : zE} {w : zW} {cc : ByteArray} {own : String} {fr lo : Nat} {S : zS} {pc pc' : Nat} {L : List (Nat × Value)} {st : List Value} {S' : zS} {q0 t0 qk ci a n v : Nat} {cA : ClassId} {r : vw_C} {vs : List Value} {f : Nat → Option Nat} {i : Int32} (C : zC E w cc own fr lo) (he : (w.1 S)[q0]? = some (a, .inl (cA, n, .inr (.inr (.inr (.inr f)))))) (ht : w.2.2.1[t0]? = some (cA, .object r.1)) (hv : (w.1 S)[qk]? = some (v, .inr (ci, vs))) (hc : vwCl[ci]? = some r) (hi : vp_in i n) (hS : (w.1 S).set q0 (a, .inl (cA, n, .inr (.inr (.inr (.inr (va_up f i.toNatClampNeg (some v))))))) = w.1 S') (d : zD cc pc .aastore 1 pc') (k : zV E w S' pc' L st) : zV E w S pc L (.ref v :: .int i :: .ref a :: st) := by
  obtain ⟨p, l, e, R, s, m, args, below, meth, c, nL, Q⟩ := E
  obtain ⟨d, rfl⟩ := d
  obtain ⟨hx, hb, hml, hown, hts, hO, hfr, hlo, hlk⟩ := C
  exact fun H locs ls h1 h2 h3 => va_astq hx hb hO.1 h1 (hO.2.2 S) h2 q0 t0 qk ci he ht hv hc hi d (fun H1 locs1 p1 p2 p3 => k H1 locs1 ls (by rw [← hS]; exact p1) p3 h3)
end
section
abbrev zK : Type := { f : Nat → Nat // ∀ i j : Nat, f i = f j → i = j } × va_G × ClassId × ClassId × ClassId × ClassId
abbrev ad (B : zK) (i : Nat) : Nat := B.1.1 i
/-- how many bytes a row of the class may have -/
def capB (b : Nat) : Nat := if b = 0 then 2100 else if b = 26 then 400 else if b = 29 then 80 else if b = 27 ∨ b = 28 then 2000 else if b = 1 ∨ b = 30 ∨ b = 31 then 24 else if b % 2 = 0 then 24 else 2000
abbrev zT4 (B : zK) : List (ClassId × FieldType) := [(B.2.2.1, .byte), (B.2.2.2.1, .int), (B.2.2.2.2.1, .object "HostBench$Handle"), (B.2.2.2.2.2, .object "HostBench$HostFile")]
abbrev mapr {α : Type} (n : Nat) (f : Nat → α) : List α := (List.range n).map f
def clS (B : zK) (S : zS) : va_W := [(ad B 0, .inr (9, [.ref (ad B (35 + 0)), .ref (ad B (35 + 1)), .ref (ad B 1), .ref (ad B 2), .ref (ad B 7), .ref (ad B 9), .ref (ad B 3), .ref (ad B 5)])), (ad B 1, .inl (B.2.2.2.1, 5, .inl (gM S 1))), (ad B 2, .inr (5, [.ref (ad B 3), .ref (ad B 5), .ref (ad B 7), .ref (ad B 9), .ref (ad B (35 + 26)), .ref (ad B (11 + 0)), .ref (ad B (11 + 1)), .ref (ad B (35 + 29)), .ref (ad B (35 + 30)), .ref (ad B (35 + 31)), .int (gM S 0 5), .int (gM S 0 6), .int (gM S 0 7), .int (gM S 0 8), .int (gM S 0 9)])), (ad B 3, .inr (3, [.ref (ad B 5), .ref (ad B 4), .int (gM S 0 0), .int (gM S 0 1), .int (gM S 0 2), .int (gM S 0 3), .int (gM S 0 4), .long (gJ S)])), (ad B 4, .inl (B.2.2.2.1, 32, .inl (gM S 2))), (ad B 5, .inr (7, [.ref (ad B 6)])), (ad B 6, .inl (B.2.2.1, 16384, .inl (gM S 3))), (ad B 7, .inr (2, [.ref (ad B 8), .int (gM S 0 10)])), (ad B 8, .inl (B.2.2.2.2.2, 12, .inr (.inr (.inr (.inr (fun i => some (ad B (13 + gF S i)))))))), (ad B 9, .inr (1, [.ref (ad B 10)])), (ad B 10, .inl (B.2.2.2.2.1, 10, .inr (.inr (.inr (.inr (fun i => some (ad B (25 + i))))))))]
def clOutput (B : zK) (S : zS) (j : Nat) : Nat × va_E := (ad B (11 + j), .inr (8, [.ref (ad B (35 + (27 + j))), .int (gM S 7 j)]))
def clHostFile (B : zK) (S : zS) (j : Nat) : Nat × va_E := (ad B (13 + j), .inr (6, [.ref (ad B (35 + (2 + 2 * j))), .ref (ad B (35 + (3 + 2 * j)))]))
def clHandle (B : zK) (S : zS) (j : Nat) : Nat × va_E := (ad B (25 + j), .inr (4, [.int (gM S 4 j), va_rf ((gH S j).map (fun k => ad B (13 + k))), .int (gM S 5 j), .int (gM S 6 j)]))
def clBytes (B : zK) (S : zS) (j : Nat) : Nat × va_E := (ad B (35 + j), .inr (0, [.ref (ad B (67 + j)), .int (gM S 8 j)]))
def clroom (B : zK) (S : zS) (j : Nat) : Nat × va_E := (ad B (67 + j), .inl (B.2.2.1, (capB j), .inl (gR S j)))
def clL (B : zK) (S : zS) : va_W := clS B S ++ (mapr 2 (clOutput B S) ++ (mapr 12 (clHostFile B S) ++ (mapr 10 (clHandle B S) ++ (mapr 32 (clBytes B S) ++ mapr 32 (clroom B S)))))
def wC (B : zK) : zW := (clL B, B.2.1, zT4 B, fun q => ∃ i, i < 99 ∧ q = ad B i)
theorem gR_row (S : zS) (j k : Nat) (v : Int32) (i : Nat) : gR (sR S j k v) i = if i = j then upd (gR S j) k v else gR S i := by
  funext t
  by_cases q : i = j
  · subst q; rw [if_pos rfl]; show (if i = i then _ else _) = _; rw [if_pos rfl]; rfl
  · rw [if_neg q]; show (if i = j then _ else _) = _; rw [if_neg q]; rfl
theorem ap_get {α : Type} {l A R : List α} {n m j : Nat} {f : Nat → α} (h : l = A ++ (mapr m f ++ R)) (hn : A.length = n) (hj : j < m) : l[n + j]? = some (f j) := by
  subst h; subst hn
  rw [List.getElem?_append_right (Nat.le_add_right _ _), Nat.add_sub_cancel_left, List.getElem?_append_left (by simpa using hj)]
  simp [hj]
theorem ap_set {α : Type} {l l' A R : List α} {n m j : Nat} {f g : Nat → α} {x : α} (h : l = A ++ (mapr m f ++ R)) (h' : l' = A ++ (mapr m g ++ R)) (hn : A.length = n) (hj : j < m) (hg : ∀ i, i < m → g i = if i = j then x else f i) : l.set (n + j) x = l' := by
  subst h; subst h'; subst hn
  have e1 : (A ++ (mapr m f ++ R)).set (A.length + j) x = A ++ ((mapr m f).set j x ++ R) := by
    rw [List.set_append_right _ _ (Nat.le_add_right _ _), Nat.add_sub_cancel_left, List.set_append_left _ _ (by simpa using hj)]
  rw [e1]
  congr 2
  refine List.ext_getElem (by simp) fun i h1 h2 => ?_
  have hi : i < m := by simpa using h2
  rw [List.getElem_set]
  simp only [List.getElem_map, List.getElem_range]
  rw [hg i hi]
  by_cases q : i = j
  · subst q; simp
  · rw [if_neg q, if_neg (fun z => q z.symm)]
theorem clL_Output (B : zK) (S : zS) : clL B S = clS B S ++ (mapr 2 (clOutput B S) ++ (mapr 12 (clHostFile B S) ++ (mapr 10 (clHandle B S) ++ (mapr 32 (clBytes B S) ++ (mapr 32 (clroom B S)))))) := by simp only [clL, List.append_assoc, List.append_nil]
theorem clN_Output (B : zK) (S : zS) : (clS B S).length = 11 := by simp [clS, mapr]
theorem at_Output {B : zK} {S : zS} {j : Nat} (hj : j < 2) : ((wC B).1 S)[11 + j]? = some (clOutput B S j) := ap_get (clL_Output B S) (clN_Output B S) hj
theorem clL_HostFile (B : zK) (S : zS) : clL B S = (clS B S ++ mapr 2 (clOutput B S)) ++ (mapr 12 (clHostFile B S) ++ (mapr 10 (clHandle B S) ++ (mapr 32 (clBytes B S) ++ (mapr 32 (clroom B S))))) := by simp only [clL, List.append_assoc, List.append_nil]
theorem clN_HostFile (B : zK) (S : zS) : ((clS B S ++ mapr 2 (clOutput B S))).length = 13 := by simp [clS, mapr]
theorem at_HostFile {B : zK} {S : zS} {j : Nat} (hj : j < 12) : ((wC B).1 S)[13 + j]? = some (clHostFile B S j) := ap_get (clL_HostFile B S) (clN_HostFile B S) hj
theorem clL_Handle (B : zK) (S : zS) : clL B S = ((clS B S ++ mapr 2 (clOutput B S)) ++ mapr 12 (clHostFile B S)) ++ (mapr 10 (clHandle B S) ++ (mapr 32 (clBytes B S) ++ (mapr 32 (clroom B S)))) := by simp only [clL, List.append_assoc, List.append_nil]
theorem clN_Handle (B : zK) (S : zS) : (((clS B S ++ mapr 2 (clOutput B S)) ++ mapr 12 (clHostFile B S))).length = 25 := by simp [clS, mapr]
theorem at_Handle {B : zK} {S : zS} {j : Nat} (hj : j < 10) : ((wC B).1 S)[25 + j]? = some (clHandle B S j) := ap_get (clL_Handle B S) (clN_Handle B S) hj
theorem clL_Bytes (B : zK) (S : zS) : clL B S = (((clS B S ++ mapr 2 (clOutput B S)) ++ mapr 12 (clHostFile B S)) ++ mapr 10 (clHandle B S)) ++ (mapr 32 (clBytes B S) ++ (mapr 32 (clroom B S))) := by simp only [clL, List.append_assoc, List.append_nil]
theorem clN_Bytes (B : zK) (S : zS) : ((((clS B S ++ mapr 2 (clOutput B S)) ++ mapr 12 (clHostFile B S)) ++ mapr 10 (clHandle B S))).length = 35 := by simp [clS, mapr]
theorem at_Bytes {B : zK} {S : zS} {j : Nat} (hj : j < 32) : ((wC B).1 S)[35 + j]? = some (clBytes B S j) := ap_get (clL_Bytes B S) (clN_Bytes B S) hj
theorem clL_room (B : zK) (S : zS) : clL B S = ((((clS B S ++ mapr 2 (clOutput B S)) ++ mapr 12 (clHostFile B S)) ++ mapr 10 (clHandle B S)) ++ mapr 32 (clBytes B S)) ++ (mapr 32 (clroom B S) ++ ([])) := by simp only [clL, List.append_assoc, List.append_nil]
theorem clN_room (B : zK) (S : zS) : (((((clS B S ++ mapr 2 (clOutput B S)) ++ mapr 12 (clHostFile B S)) ++ mapr 10 (clHandle B S)) ++ mapr 32 (clBytes B S))).length = 67 := by simp [clS, mapr]
theorem at_room {B : zK} {S : zS} {j : Nat} (hj : j < 32) : ((wC B).1 S)[67 + j]? = some (clroom B S j) := ap_get (clL_room B S) (clN_room B S) hj
theorem clL_map (B : zK) (S : zS) : (clL B S).map (fun q => q.1) = mapr 99 (ad B) := rfl
theorem wC_D (B : zK) (S : zS) : va_D (wC B).2.2.2 ((wC B).1 S) := by
  have key : ∀ (i : Nat) (q : Nat × va_E), (clL B S)[i]? = some q → i < 99 ∧ q.1 = ad B i := by
    intro i q h
    have h1 : ((clL B S).map (fun q => q.1))[i]? = some q.1 := by rw [List.getElem?_map, h]; rfl
    rw [clL_map] at h1
    by_cases hi : i < 99
    · refine ⟨hi, ?_⟩
      simp [mapr, hi] at h1
      exact h1.symm
    · rw [List.getElem?_eq_none (by simp [mapr]; omega)] at h1
      cases h1
  refine ⟨fun i j p q hi hj hpq => ?_, fun k q hk => ?_⟩
  · have h1 := key i p hi
    have h2 := key j q hj
    exact B.1.2 i j (h1.2.symm.trans (hpq.trans h2.2))
  · exact ⟨k, key k q hk⟩
theorem gf_HB_tape {E : zE} {B : zK} {cc : ByteArray} {own : String} {fr lo : Nat} {S : zS} {pc pc' idx : Nat} {L : List (Nat × Value)} {st : List Value} (C : zC E (wC B) cc own fr lo) (hl : zLk own idx "HostBench" "tape" "LHostBench$Bytes;") (d : zD cc pc (.getfield idx) 3 pc') (k : zV E (wC B) S pc' L (.ref (ad B (35 + 0)) :: st)) : zV E (wC B) S pc L (.ref (ad B 0) :: st) := z_get (q0 := 0) (ci := 9) (N := 8) C (show ((wC B).1 S)[0]? = some (ad B 0, _) from rfl) inX9 rfl 0 (by decide) hl rfl d k
theorem gf_HB_laidName {E : zE} {B : zK} {cc : ByteArray} {own : String} {fr lo : Nat} {S : zS} {pc pc' idx : Nat} {L : List (Nat × Value)} {st : List Value} (C : zC E (wC B) cc own fr lo) (hl : zLk own idx "HostBench" "laidName" "LHostBench$Bytes;") (d : zD cc pc (.getfield idx) 3 pc') (k : zV E (wC B) S pc' L (.ref (ad B (35 + 1)) :: st)) : zV E (wC B) S pc L (.ref (ad B 0) :: st) := z_get (q0 := 0) (ci := 9) (N := 8) C (show ((wC B).1 S)[0]? = some (ad B 0, _) from rfl) inX9 rfl 1 (by decide) hl rfl d k
theorem gf_HB_fed {E : zE} {B : zK} {cc : ByteArray} {own : String} {fr lo : Nat} {S : zS} {pc pc' idx : Nat} {L : List (Nat × Value)} {st : List Value} (C : zC E (wC B) cc own fr lo) (hl : zLk own idx "HostBench" "fed" "[I") (d : zD cc pc (.getfield idx) 3 pc') (k : zV E (wC B) S pc' L (.ref (ad B 1) :: st)) : zV E (wC B) S pc L (.ref (ad B 0) :: st) := z_get (q0 := 0) (ci := 9) (N := 8) C (show ((wC B).1 S)[0]? = some (ad B 0, _) from rfl) inX9 rfl 2 (by decide) hl rfl d k
theorem gf_HB_host {E : zE} {B : zK} {cc : ByteArray} {own : String} {fr lo : Nat} {S : zS} {pc pc' idx : Nat} {L : List (Nat × Value)} {st : List Value} (C : zC E (wC B) cc own fr lo) (hl : zLk own idx "HostBench" "host" "LHostBench$Host;") (d : zD cc pc (.getfield idx) 3 pc') (k : zV E (wC B) S pc' L (.ref (ad B 2) :: st)) : zV E (wC B) S pc L (.ref (ad B 0) :: st) := z_get (q0 := 0) (ci := 9) (N := 8) C (show ((wC B).1 S)[0]? = some (ad B 0, _) from rfl) inX9 rfl 3 (by decide) hl rfl d k
theorem gf_HB_folder {E : zE} {B : zK} {cc : ByteArray} {own : String} {fr lo : Nat} {S : zS} {pc pc' idx : Nat} {L : List (Nat × Value)} {st : List Value} (C : zC E (wC B) cc own fr lo) (hl : zLk own idx "HostBench" "folder" "LHostBench$Folder;") (d : zD cc pc (.getfield idx) 3 pc') (k : zV E (wC B) S pc' L (.ref (ad B 7) :: st)) : zV E (wC B) S pc L (.ref (ad B 0) :: st) := z_get (q0 := 0) (ci := 9) (N := 8) C (show ((wC B).1 S)[0]? = some (ad B 0, _) from rfl) inX9 rfl 4 (by decide) hl rfl d k
theorem gf_HB_desk {E : zE} {B : zK} {cc : ByteArray} {own : String} {fr lo : Nat} {S : zS} {pc pc' idx : Nat} {L : List (Nat × Value)} {st : List Value} (C : zC E (wC B) cc own fr lo) (hl : zLk own idx "HostBench" "desk" "LHostBench$Desk;") (d : zD cc pc (.getfield idx) 3 pc') (k : zV E (wC B) S pc' L (.ref (ad B 9) :: st)) : zV E (wC B) S pc L (.ref (ad B 0) :: st) := z_get (q0 := 0) (ci := 9) (N := 8) C (show ((wC B).1 S)[0]? = some (ad B 0, _) from rfl) inX9 rfl 5 (by decide) hl rfl d k
theorem gf_HB_guest {E : zE} {B : zK} {cc : ByteArray} {own : String} {fr lo : Nat} {S : zS} {pc pc' idx : Nat} {L : List (Nat × Value)} {st : List Value} (C : zC E (wC B) cc own fr lo) (hl : zLk own idx "HostBench" "guest" "LHostBench$Guest;") (d : zD cc pc (.getfield idx) 3 pc') (k : zV E (wC B) S pc' L (.ref (ad B 3) :: st)) : zV E (wC B) S pc L (.ref (ad B 0) :: st) := z_get (q0 := 0) (ci := 9) (N := 8) C (show ((wC B).1 S)[0]? = some (ad B 0, _) from rfl) inX9 rfl 6 (by decide) hl rfl d k
theorem gf_HB_memory {E : zE} {B : zK} {cc : ByteArray} {own : String} {fr lo : Nat} {S : zS} {pc pc' idx : Nat} {L : List (Nat × Value)} {st : List Value} (C : zC E (wC B) cc own fr lo) (hl : zLk own idx "HostBench" "memory" "LHostBench$Memory;") (d : zD cc pc (.getfield idx) 3 pc') (k : zV E (wC B) S pc' L (.ref (ad B 5) :: st)) : zV E (wC B) S pc L (.ref (ad B 0) :: st) := z_get (q0 := 0) (ci := 9) (N := 8) C (show ((wC B).1 S)[0]? = some (ad B 0, _) from rfl) inX9 rfl 7 (by decide) hl rfl d k
theorem gf_Host_guest {E : zE} {B : zK} {cc : ByteArray} {own : String} {fr lo : Nat} {S : zS} {pc pc' idx : Nat} {L : List (Nat × Value)} {st : List Value} (C : zC E (wC B) cc own fr lo) (hl : zLk own idx "HostBench$Host" "guest" "LHostBench$Guest;") (d : zD cc pc (.getfield idx) 3 pc') (k : zV E (wC B) S pc' L (.ref (ad B 3) :: st)) : zV E (wC B) S pc L (.ref (ad B 2) :: st) := z_get (q0 := 2) (ci := 5) (N := 15) C (show ((wC B).1 S)[2]? = some (ad B 2, _) from rfl) inX5 rfl 0 (by decide) hl rfl d k
theorem gf_Host_memory {E : zE} {B : zK} {cc : ByteArray} {own : String} {fr lo : Nat} {S : zS} {pc pc' idx : Nat} {L : List (Nat × Value)} {st : List Value} (C : zC E (wC B) cc own fr lo) (hl : zLk own idx "HostBench$Host" "memory" "LHostBench$Memory;") (d : zD cc pc (.getfield idx) 3 pc') (k : zV E (wC B) S pc' L (.ref (ad B 5) :: st)) : zV E (wC B) S pc L (.ref (ad B 2) :: st) := z_get (q0 := 2) (ci := 5) (N := 15) C (show ((wC B).1 S)[2]? = some (ad B 2, _) from rfl) inX5 rfl 1 (by decide) hl rfl d k
theorem gf_Host_folder {E : zE} {B : zK} {cc : ByteArray} {own : String} {fr lo : Nat} {S : zS} {pc pc' idx : Nat} {L : List (Nat × Value)} {st : List Value} (C : zC E (wC B) cc own fr lo) (hl : zLk own idx "HostBench$Host" "folder" "LHostBench$Folder;") (d : zD cc pc (.getfield idx) 3 pc') (k : zV E (wC B) S pc' L (.ref (ad B 7) :: st)) : zV E (wC B) S pc L (.ref (ad B 2) :: st) := z_get (q0 := 2) (ci := 5) (N := 15) C (show ((wC B).1 S)[2]? = some (ad B 2, _) from rfl) inX5 rfl 2 (by decide) hl rfl d k
theorem gf_Host_desk {E : zE} {B : zK} {cc : ByteArray} {own : String} {fr lo : Nat} {S : zS} {pc pc' idx : Nat} {L : List (Nat × Value)} {st : List Value} (C : zC E (wC B) cc own fr lo) (hl : zLk own idx "HostBench$Host" "desk" "LHostBench$Desk;") (d : zD cc pc (.getfield idx) 3 pc') (k : zV E (wC B) S pc' L (.ref (ad B 9) :: st)) : zV E (wC B) S pc L (.ref (ad B 2) :: st) := z_get (q0 := 2) (ci := 5) (N := 15) C (show ((wC B).1 S)[2]? = some (ad B 2, _) from rfl) inX5 rfl 3 (by decide) hl rfl d k
theorem gf_Host_input {E : zE} {B : zK} {cc : ByteArray} {own : String} {fr lo : Nat} {S : zS} {pc pc' idx : Nat} {L : List (Nat × Value)} {st : List Value} (C : zC E (wC B) cc own fr lo) (hl : zLk own idx "HostBench$Host" "input" "LHostBench$Bytes;") (d : zD cc pc (.getfield idx) 3 pc') (k : zV E (wC B) S pc' L (.ref (ad B (35 + 26)) :: st)) : zV E (wC B) S pc L (.ref (ad B 2) :: st) := z_get (q0 := 2) (ci := 5) (N := 15) C (show ((wC B).1 S)[2]? = some (ad B 2, _) from rfl) inX5 rfl 4 (by decide) hl rfl d k
theorem gf_Host_out {E : zE} {B : zK} {cc : ByteArray} {own : String} {fr lo : Nat} {S : zS} {pc pc' idx : Nat} {L : List (Nat × Value)} {st : List Value} (C : zC E (wC B) cc own fr lo) (hl : zLk own idx "HostBench$Host" "out" "LHostBench$Output;") (d : zD cc pc (.getfield idx) 3 pc') (k : zV E (wC B) S pc' L (.ref (ad B (11 + 0)) :: st)) : zV E (wC B) S pc L (.ref (ad B 2) :: st) := z_get (q0 := 2) (ci := 5) (N := 15) C (show ((wC B).1 S)[2]? = some (ad B 2, _) from rfl) inX5 rfl 5 (by decide) hl rfl d k
theorem gf_Host_err {E : zE} {B : zK} {cc : ByteArray} {own : String} {fr lo : Nat} {S : zS} {pc pc' idx : Nat} {L : List (Nat × Value)} {st : List Value} (C : zC E (wC B) cc own fr lo) (hl : zLk own idx "HostBench$Host" "err" "LHostBench$Output;") (d : zD cc pc (.getfield idx) 3 pc') (k : zV E (wC B) S pc' L (.ref (ad B (11 + 1)) :: st)) : zV E (wC B) S pc L (.ref (ad B 2) :: st) := z_get (q0 := 2) (ci := 5) (N := 15) C (show ((wC B).1 S)[2]? = some (ad B 2, _) from rfl) inX5 rfl 6 (by decide) hl rfl d k
theorem gf_Host_command {E : zE} {B : zK} {cc : ByteArray} {own : String} {fr lo : Nat} {S : zS} {pc pc' idx : Nat} {L : List (Nat × Value)} {st : List Value} (C : zC E (wC B) cc own fr lo) (hl : zLk own idx "HostBench$Host" "command" "LHostBench$Bytes;") (d : zD cc pc (.getfield idx) 3 pc') (k : zV E (wC B) S pc' L (.ref (ad B (35 + 29)) :: st)) : zV E (wC B) S pc L (.ref (ad B 2) :: st) := z_get (q0 := 2) (ci := 5) (N := 15) C (show ((wC B).1 S)[2]? = some (ad B 2, _) from rfl) inX5 rfl 7 (by decide) hl rfl d k
theorem gf_Host_firstName {E : zE} {B : zK} {cc : ByteArray} {own : String} {fr lo : Nat} {S : zS} {pc pc' idx : Nat} {L : List (Nat × Value)} {st : List Value} (C : zC E (wC B) cc own fr lo) (hl : zLk own idx "HostBench$Host" "firstName" "LHostBench$Bytes;") (d : zD cc pc (.getfield idx) 3 pc') (k : zV E (wC B) S pc' L (.ref (ad B (35 + 30)) :: st)) : zV E (wC B) S pc L (.ref (ad B 2) :: st) := z_get (q0 := 2) (ci := 5) (N := 15) C (show ((wC B).1 S)[2]? = some (ad B 2, _) from rfl) inX5 rfl 8 (by decide) hl rfl d k
theorem gf_Host_secondName {E : zE} {B : zK} {cc : ByteArray} {own : String} {fr lo : Nat} {S : zS} {pc pc' idx : Nat} {L : List (Nat × Value)} {st : List Value} (C : zC E (wC B) cc own fr lo) (hl : zLk own idx "HostBench$Host" "secondName" "LHostBench$Bytes;") (d : zD cc pc (.getfield idx) 3 pc') (k : zV E (wC B) S pc' L (.ref (ad B (35 + 31)) :: st)) : zV E (wC B) S pc L (.ref (ad B 2) :: st) := z_get (q0 := 2) (ci := 5) (N := 15) C (show ((wC B).1 S)[2]? = some (ad B 2, _) from rfl) inX5 rfl 9 (by decide) hl rfl d k
theorem gf_Host_block {E : zE} {B : zK} {cc : ByteArray} {own : String} {fr lo : Nat} {S : zS} {pc pc' idx : Nat} {L : List (Nat × Value)} {st : List Value} (C : zC E (wC B) cc own fr lo) (hl : zLk own idx "HostBench$Host" "block" "I") (d : zD cc pc (.getfield idx) 3 pc') (k : zV E (wC B) S pc' L (.int (gM S 0 5) :: st)) : zV E (wC B) S pc L (.ref (ad B 2) :: st) := z_get (q0 := 2) (ci := 5) (N := 15) C (show ((wC B).1 S)[2]? = some (ad B 2, _) from rfl) inX5 rfl 10 (by decide) hl rfl d k
theorem pf_Host_block {E : zE} {B : zK} {cc : ByteArray} {own : String} {fr lo : Nat} {S : zS} {pc pc' idx : Nat} {L : List (Nat × Value)} {st : List Value} {v : Int32} (C : zC E (wC B) cc own fr lo) (hl : zLk own idx "HostBench$Host" "block" "I") (d : zD cc pc (.putfield idx) 3 pc') (k : zV E (wC B) (sM S 0 5 v) pc' L st) : zV E (wC B) S pc L (.int v :: .ref (ad B 2) :: st) := z_put (q0 := 2) (ci := 5) (N := 15) (ty0 := tyX5) (ty := .int) C (show ((wC B).1 S)[2]? = some (ad B 2, _) from rfl) inX5 tyX5_ok nmX5 rfl 10 (by decide) hl rfl rfl rfl rfl (Nat.le_of_ble_eq_true rfl) rfl d k
theorem gf_Host_errno {E : zE} {B : zK} {cc : ByteArray} {own : String} {fr lo : Nat} {S : zS} {pc pc' idx : Nat} {L : List (Nat × Value)} {st : List Value} (C : zC E (wC B) cc own fr lo) (hl : zLk own idx "HostBench$Host" "errno" "I") (d : zD cc pc (.getfield idx) 3 pc') (k : zV E (wC B) S pc' L (.int (gM S 0 6) :: st)) : zV E (wC B) S pc L (.ref (ad B 2) :: st) := z_get (q0 := 2) (ci := 5) (N := 15) C (show ((wC B).1 S)[2]? = some (ad B 2, _) from rfl) inX5 rfl 11 (by decide) hl rfl d k
theorem pf_Host_errno {E : zE} {B : zK} {cc : ByteArray} {own : String} {fr lo : Nat} {S : zS} {pc pc' idx : Nat} {L : List (Nat × Value)} {st : List Value} {v : Int32} (C : zC E (wC B) cc own fr lo) (hl : zLk own idx "HostBench$Host" "errno" "I") (d : zD cc pc (.putfield idx) 3 pc') (k : zV E (wC B) (sM S 0 6 v) pc' L st) : zV E (wC B) S pc L (.int v :: .ref (ad B 2) :: st) := z_put (q0 := 2) (ci := 5) (N := 15) (ty0 := tyX5) (ty := .int) C (show ((wC B).1 S)[2]? = some (ad B 2, _) from rfl) inX5 tyX5_ok nmX5 rfl 11 (by decide) hl rfl rfl rfl rfl (Nat.le_of_ble_eq_true rfl) rfl d k
theorem gf_Host_seconds {E : zE} {B : zK} {cc : ByteArray} {own : String} {fr lo : Nat} {S : zS} {pc pc' idx : Nat} {L : List (Nat × Value)} {st : List Value} (C : zC E (wC B) cc own fr lo) (hl : zLk own idx "HostBench$Host" "seconds" "I") (d : zD cc pc (.getfield idx) 3 pc') (k : zV E (wC B) S pc' L (.int (gM S 0 7) :: st)) : zV E (wC B) S pc L (.ref (ad B 2) :: st) := z_get (q0 := 2) (ci := 5) (N := 15) C (show ((wC B).1 S)[2]? = some (ad B 2, _) from rfl) inX5 rfl 12 (by decide) hl rfl d k
theorem pf_Host_seconds {E : zE} {B : zK} {cc : ByteArray} {own : String} {fr lo : Nat} {S : zS} {pc pc' idx : Nat} {L : List (Nat × Value)} {st : List Value} {v : Int32} (C : zC E (wC B) cc own fr lo) (hl : zLk own idx "HostBench$Host" "seconds" "I") (d : zD cc pc (.putfield idx) 3 pc') (k : zV E (wC B) (sM S 0 7 v) pc' L st) : zV E (wC B) S pc L (.int v :: .ref (ad B 2) :: st) := z_put (q0 := 2) (ci := 5) (N := 15) (ty0 := tyX5) (ty := .int) C (show ((wC B).1 S)[2]? = some (ad B 2, _) from rfl) inX5 tyX5_ok nmX5 rfl 12 (by decide) hl rfl rfl rfl rfl (Nat.le_of_ble_eq_true rfl) rfl d k
theorem gf_Host_calls {E : zE} {B : zK} {cc : ByteArray} {own : String} {fr lo : Nat} {S : zS} {pc pc' idx : Nat} {L : List (Nat × Value)} {st : List Value} (C : zC E (wC B) cc own fr lo) (hl : zLk own idx "HostBench$Host" "calls" "I") (d : zD cc pc (.getfield idx) 3 pc') (k : zV E (wC B) S pc' L (.int (gM S 0 8) :: st)) : zV E (wC B) S pc L (.ref (ad B 2) :: st) := z_get (q0 := 2) (ci := 5) (N := 15) C (show ((wC B).1 S)[2]? = some (ad B 2, _) from rfl) inX5 rfl 13 (by decide) hl rfl d k
theorem pf_Host_calls {E : zE} {B : zK} {cc : ByteArray} {own : String} {fr lo : Nat} {S : zS} {pc pc' idx : Nat} {L : List (Nat × Value)} {st : List Value} {v : Int32} (C : zC E (wC B) cc own fr lo) (hl : zLk own idx "HostBench$Host" "calls" "I") (d : zD cc pc (.putfield idx) 3 pc') (k : zV E (wC B) (sM S 0 8 v) pc' L st) : zV E (wC B) S pc L (.int v :: .ref (ad B 2) :: st) := z_put (q0 := 2) (ci := 5) (N := 15) (ty0 := tyX5) (ty := .int) C (show ((wC B).1 S)[2]? = some (ad B 2, _) from rfl) inX5 tyX5_ok nmX5 rfl 13 (by decide) hl rfl rfl rfl rfl (Nat.le_of_ble_eq_true rfl) rfl d k
theorem gf_Host_latest {E : zE} {B : zK} {cc : ByteArray} {own : String} {fr lo : Nat} {S : zS} {pc pc' idx : Nat} {L : List (Nat × Value)} {st : List Value} (C : zC E (wC B) cc own fr lo) (hl : zLk own idx "HostBench$Host" "latest" "I") (d : zD cc pc (.getfield idx) 3 pc') (k : zV E (wC B) S pc' L (.int (gM S 0 9) :: st)) : zV E (wC B) S pc L (.ref (ad B 2) :: st) := z_get (q0 := 2) (ci := 5) (N := 15) C (show ((wC B).1 S)[2]? = some (ad B 2, _) from rfl) inX5 rfl 14 (by decide) hl rfl d k
theorem pf_Host_latest {E : zE} {B : zK} {cc : ByteArray} {own : String} {fr lo : Nat} {S : zS} {pc pc' idx : Nat} {L : List (Nat × Value)} {st : List Value} {v : Int32} (C : zC E (wC B) cc own fr lo) (hl : zLk own idx "HostBench$Host" "latest" "I") (d : zD cc pc (.putfield idx) 3 pc') (k : zV E (wC B) (sM S 0 9 v) pc' L st) : zV E (wC B) S pc L (.int v :: .ref (ad B 2) :: st) := z_put (q0 := 2) (ci := 5) (N := 15) (ty0 := tyX5) (ty := .int) C (show ((wC B).1 S)[2]? = some (ad B 2, _) from rfl) inX5 tyX5_ok nmX5 rfl 14 (by decide) hl rfl rfl rfl rfl (Nat.le_of_ble_eq_true rfl) rfl d k
theorem gf_Guest_memory {E : zE} {B : zK} {cc : ByteArray} {own : String} {fr lo : Nat} {S : zS} {pc pc' idx : Nat} {L : List (Nat × Value)} {st : List Value} (C : zC E (wC B) cc own fr lo) (hl : zLk own idx "HostBench$Guest" "memory" "LHostBench$Memory;") (d : zD cc pc (.getfield idx) 3 pc') (k : zV E (wC B) S pc' L (.ref (ad B 5) :: st)) : zV E (wC B) S pc L (.ref (ad B 3) :: st) := z_get (q0 := 3) (ci := 3) (N := 8) C (show ((wC B).1 S)[3]? = some (ad B 3, _) from rfl) inX3 rfl 0 (by decide) hl rfl d k
theorem gf_Guest_registers {E : zE} {B : zK} {cc : ByteArray} {own : String} {fr lo : Nat} {S : zS} {pc pc' idx : Nat} {L : List (Nat × Value)} {st : List Value} (C : zC E (wC B) cc own fr lo) (hl : zLk own idx "HostBench$Guest" "registers" "[I") (d : zD cc pc (.getfield idx) 3 pc') (k : zV E (wC B) S pc' L (.ref (ad B 4) :: st)) : zV E (wC B) S pc L (.ref (ad B 3) :: st) := z_get (q0 := 3) (ci := 3) (N := 8) C (show ((wC B).1 S)[3]? = some (ad B 3, _) from rfl) inX3 rfl 1 (by decide) hl rfl d k
theorem gf_Guest_pc {E : zE} {B : zK} {cc : ByteArray} {own : String} {fr lo : Nat} {S : zS} {pc pc' idx : Nat} {L : List (Nat × Value)} {st : List Value} (C : zC E (wC B) cc own fr lo) (hl : zLk own idx "HostBench$Guest" "pc" "I") (d : zD cc pc (.getfield idx) 3 pc') (k : zV E (wC B) S pc' L (.int (gM S 0 0) :: st)) : zV E (wC B) S pc L (.ref (ad B 3) :: st) := z_get (q0 := 3) (ci := 3) (N := 8) C (show ((wC B).1 S)[3]? = some (ad B 3, _) from rfl) inX3 rfl 2 (by decide) hl rfl d k
theorem pf_Guest_pc {E : zE} {B : zK} {cc : ByteArray} {own : String} {fr lo : Nat} {S : zS} {pc pc' idx : Nat} {L : List (Nat × Value)} {st : List Value} {v : Int32} (C : zC E (wC B) cc own fr lo) (hl : zLk own idx "HostBench$Guest" "pc" "I") (d : zD cc pc (.putfield idx) 3 pc') (k : zV E (wC B) (sM S 0 0 v) pc' L st) : zV E (wC B) S pc L (.int v :: .ref (ad B 3) :: st) := z_put (q0 := 3) (ci := 3) (N := 8) (ty0 := tyX3) (ty := .int) C (show ((wC B).1 S)[3]? = some (ad B 3, _) from rfl) inX3 tyX3_ok nmX3 rfl 2 (by decide) hl rfl rfl rfl rfl (Nat.le_of_ble_eq_true rfl) rfl d k
theorem gf_Guest_next {E : zE} {B : zK} {cc : ByteArray} {own : String} {fr lo : Nat} {S : zS} {pc pc' idx : Nat} {L : List (Nat × Value)} {st : List Value} (C : zC E (wC B) cc own fr lo) (hl : zLk own idx "HostBench$Guest" "next" "I") (d : zD cc pc (.getfield idx) 3 pc') (k : zV E (wC B) S pc' L (.int (gM S 0 1) :: st)) : zV E (wC B) S pc L (.ref (ad B 3) :: st) := z_get (q0 := 3) (ci := 3) (N := 8) C (show ((wC B).1 S)[3]? = some (ad B 3, _) from rfl) inX3 rfl 3 (by decide) hl rfl d k
theorem pf_Guest_next {E : zE} {B : zK} {cc : ByteArray} {own : String} {fr lo : Nat} {S : zS} {pc pc' idx : Nat} {L : List (Nat × Value)} {st : List Value} {v : Int32} (C : zC E (wC B) cc own fr lo) (hl : zLk own idx "HostBench$Guest" "next" "I") (d : zD cc pc (.putfield idx) 3 pc') (k : zV E (wC B) (sM S 0 1 v) pc' L st) : zV E (wC B) S pc L (.int v :: .ref (ad B 3) :: st) := z_put (q0 := 3) (ci := 3) (N := 8) (ty0 := tyX3) (ty := .int) C (show ((wC B).1 S)[3]? = some (ad B 3, _) from rfl) inX3 tyX3_ok nmX3 rfl 3 (by decide) hl rfl rfl rfl rfl (Nat.le_of_ble_eq_true rfl) rfl d k
theorem gf_Guest_state {E : zE} {B : zK} {cc : ByteArray} {own : String} {fr lo : Nat} {S : zS} {pc pc' idx : Nat} {L : List (Nat × Value)} {st : List Value} (C : zC E (wC B) cc own fr lo) (hl : zLk own idx "HostBench$Guest" "state" "I") (d : zD cc pc (.getfield idx) 3 pc') (k : zV E (wC B) S pc' L (.int (gM S 0 2) :: st)) : zV E (wC B) S pc L (.ref (ad B 3) :: st) := z_get (q0 := 3) (ci := 3) (N := 8) C (show ((wC B).1 S)[3]? = some (ad B 3, _) from rfl) inX3 rfl 4 (by decide) hl rfl d k
theorem pf_Guest_state {E : zE} {B : zK} {cc : ByteArray} {own : String} {fr lo : Nat} {S : zS} {pc pc' idx : Nat} {L : List (Nat × Value)} {st : List Value} {v : Int32} (C : zC E (wC B) cc own fr lo) (hl : zLk own idx "HostBench$Guest" "state" "I") (d : zD cc pc (.putfield idx) 3 pc') (k : zV E (wC B) (sM S 0 2 v) pc' L st) : zV E (wC B) S pc L (.int v :: .ref (ad B 3) :: st) := z_put (q0 := 3) (ci := 3) (N := 8) (ty0 := tyX3) (ty := .int) C (show ((wC B).1 S)[3]? = some (ad B 3, _) from rfl) inX3 tyX3_ok nmX3 rfl 4 (by decide) hl rfl rfl rfl rfl (Nat.le_of_ble_eq_true rfl) rfl d k
theorem gf_Guest_trap {E : zE} {B : zK} {cc : ByteArray} {own : String} {fr lo : Nat} {S : zS} {pc pc' idx : Nat} {L : List (Nat × Value)} {st : List Value} (C : zC E (wC B) cc own fr lo) (hl : zLk own idx "HostBench$Guest" "trap" "I") (d : zD cc pc (.getfield idx) 3 pc') (k : zV E (wC B) S pc' L (.int (gM S 0 3) :: st)) : zV E (wC B) S pc L (.ref (ad B 3) :: st) := z_get (q0 := 3) (ci := 3) (N := 8) C (show ((wC B).1 S)[3]? = some (ad B 3, _) from rfl) inX3 rfl 5 (by decide) hl rfl d k
theorem pf_Guest_trap {E : zE} {B : zK} {cc : ByteArray} {own : String} {fr lo : Nat} {S : zS} {pc pc' idx : Nat} {L : List (Nat × Value)} {st : List Value} {v : Int32} (C : zC E (wC B) cc own fr lo) (hl : zLk own idx "HostBench$Guest" "trap" "I") (d : zD cc pc (.putfield idx) 3 pc') (k : zV E (wC B) (sM S 0 3 v) pc' L st) : zV E (wC B) S pc L (.int v :: .ref (ad B 3) :: st) := z_put (q0 := 3) (ci := 3) (N := 8) (ty0 := tyX3) (ty := .int) C (show ((wC B).1 S)[3]? = some (ad B 3, _) from rfl) inX3 tyX3_ok nmX3 rfl 5 (by decide) hl rfl rfl rfl rfl (Nat.le_of_ble_eq_true rfl) rfl d k
theorem gf_Guest_code {E : zE} {B : zK} {cc : ByteArray} {own : String} {fr lo : Nat} {S : zS} {pc pc' idx : Nat} {L : List (Nat × Value)} {st : List Value} (C : zC E (wC B) cc own fr lo) (hl : zLk own idx "HostBench$Guest" "code" "I") (d : zD cc pc (.getfield idx) 3 pc') (k : zV E (wC B) S pc' L (.int (gM S 0 4) :: st)) : zV E (wC B) S pc L (.ref (ad B 3) :: st) := z_get (q0 := 3) (ci := 3) (N := 8) C (show ((wC B).1 S)[3]? = some (ad B 3, _) from rfl) inX3 rfl 6 (by decide) hl rfl d k
theorem pf_Guest_code {E : zE} {B : zK} {cc : ByteArray} {own : String} {fr lo : Nat} {S : zS} {pc pc' idx : Nat} {L : List (Nat × Value)} {st : List Value} {v : Int32} (C : zC E (wC B) cc own fr lo) (hl : zLk own idx "HostBench$Guest" "code" "I") (d : zD cc pc (.putfield idx) 3 pc') (k : zV E (wC B) (sM S 0 4 v) pc' L st) : zV E (wC B) S pc L (.int v :: .ref (ad B 3) :: st) := z_put (q0 := 3) (ci := 3) (N := 8) (ty0 := tyX3) (ty := .int) C (show ((wC B).1 S)[3]? = some (ad B 3, _) from rfl) inX3 tyX3_ok nmX3 rfl 6 (by decide) hl rfl rfl rfl rfl (Nat.le_of_ble_eq_true rfl) rfl d k
theorem gf_Guest_steps {E : zE} {B : zK} {cc : ByteArray} {own : String} {fr lo : Nat} {S : zS} {pc pc' idx : Nat} {L : List (Nat × Value)} {st : List Value} (C : zC E (wC B) cc own fr lo) (hl : zLk own idx "HostBench$Guest" "steps" "J") (d : zD cc pc (.getfield idx) 3 pc') (k : zV E (wC B) S pc' L (.long (gJ S) :: st)) : zV E (wC B) S pc L (.ref (ad B 3) :: st) := z_get (q0 := 3) (ci := 3) (N := 8) C (show ((wC B).1 S)[3]? = some (ad B 3, _) from rfl) inX3 rfl 7 (by decide) hl rfl d k
theorem pf_Guest_steps {E : zE} {B : zK} {cc : ByteArray} {own : String} {fr lo : Nat} {S : zS} {pc pc' idx : Nat} {L : List (Nat × Value)} {st : List Value} {v : Int64} (C : zC E (wC B) cc own fr lo) (hl : zLk own idx "HostBench$Guest" "steps" "J") (d : zD cc pc (.putfield idx) 3 pc') (k : zV E (wC B) (sJ S v) pc' L st) : zV E (wC B) S pc L (.long v :: .ref (ad B 3) :: st) := z_put (q0 := 3) (ci := 3) (N := 8) (ty0 := tyX3) (ty := .long) C (show ((wC B).1 S)[3]? = some (ad B 3, _) from rfl) inX3 tyX3_ok nmX3 rfl 7 (by decide) hl rfl rfl rfl rfl (Nat.le_of_ble_eq_true rfl) rfl d k
theorem gf_Memory_bytes {E : zE} {B : zK} {cc : ByteArray} {own : String} {fr lo : Nat} {S : zS} {pc pc' idx : Nat} {L : List (Nat × Value)} {st : List Value} (C : zC E (wC B) cc own fr lo) (hl : zLk own idx "HostBench$Memory" "bytes" "[B") (d : zD cc pc (.getfield idx) 3 pc') (k : zV E (wC B) S pc' L (.ref (ad B 6) :: st)) : zV E (wC B) S pc L (.ref (ad B 5) :: st) := z_get (q0 := 5) (ci := 7) (N := 1) C (show ((wC B).1 S)[5]? = some (ad B 5, _) from rfl) inX7 rfl 0 (by decide) hl rfl d k
theorem gf_Folder_files {E : zE} {B : zK} {cc : ByteArray} {own : String} {fr lo : Nat} {S : zS} {pc pc' idx : Nat} {L : List (Nat × Value)} {st : List Value} (C : zC E (wC B) cc own fr lo) (hl : zLk own idx "HostBench$Folder" "files" "[LHostBench$HostFile;") (d : zD cc pc (.getfield idx) 3 pc') (k : zV E (wC B) S pc' L (.ref (ad B 8) :: st)) : zV E (wC B) S pc L (.ref (ad B 7) :: st) := z_get (q0 := 7) (ci := 2) (N := 2) C (show ((wC B).1 S)[7]? = some (ad B 7, _) from rfl) inX2 rfl 0 (by decide) hl rfl d k
theorem gf_Folder_count {E : zE} {B : zK} {cc : ByteArray} {own : String} {fr lo : Nat} {S : zS} {pc pc' idx : Nat} {L : List (Nat × Value)} {st : List Value} (C : zC E (wC B) cc own fr lo) (hl : zLk own idx "HostBench$Folder" "count" "I") (d : zD cc pc (.getfield idx) 3 pc') (k : zV E (wC B) S pc' L (.int (gM S 0 10) :: st)) : zV E (wC B) S pc L (.ref (ad B 7) :: st) := z_get (q0 := 7) (ci := 2) (N := 2) C (show ((wC B).1 S)[7]? = some (ad B 7, _) from rfl) inX2 rfl 1 (by decide) hl rfl d k
theorem pf_Folder_count {E : zE} {B : zK} {cc : ByteArray} {own : String} {fr lo : Nat} {S : zS} {pc pc' idx : Nat} {L : List (Nat × Value)} {st : List Value} {v : Int32} (C : zC E (wC B) cc own fr lo) (hl : zLk own idx "HostBench$Folder" "count" "I") (d : zD cc pc (.putfield idx) 3 pc') (k : zV E (wC B) (sM S 0 10 v) pc' L st) : zV E (wC B) S pc L (.int v :: .ref (ad B 7) :: st) := z_put (q0 := 7) (ci := 2) (N := 2) (ty0 := tyX2) (ty := .int) C (show ((wC B).1 S)[7]? = some (ad B 7, _) from rfl) inX2 tyX2_ok nmX2 rfl 1 (by decide) hl rfl rfl rfl rfl (Nat.le_of_ble_eq_true rfl) rfl d k
theorem gf_Desk_handles {E : zE} {B : zK} {cc : ByteArray} {own : String} {fr lo : Nat} {S : zS} {pc pc' idx : Nat} {L : List (Nat × Value)} {st : List Value} (C : zC E (wC B) cc own fr lo) (hl : zLk own idx "HostBench$Desk" "handles" "[LHostBench$Handle;") (d : zD cc pc (.getfield idx) 3 pc') (k : zV E (wC B) S pc' L (.ref (ad B 10) :: st)) : zV E (wC B) S pc L (.ref (ad B 9) :: st) := z_get (q0 := 9) (ci := 1) (N := 1) C (show ((wC B).1 S)[9]? = some (ad B 9, _) from rfl) inX1 rfl 0 (by decide) hl rfl d k
theorem gf_Output_kept {E : zE} {B : zK} {cc : ByteArray} {own : String} {fr lo : Nat} {S : zS} {pc pc' idx : Nat} {L : List (Nat × Value)} {st : List Value} {j : Nat} (C : zC E (wC B) cc own fr lo) (hj : j < 2) (hl : zLk own idx "HostBench$Output" "kept" "LHostBench$Bytes;") (d : zD cc pc (.getfield idx) 3 pc') (k : zV E (wC B) S pc' L (.ref (ad B (35 + (27 + j))) :: st)) : zV E (wC B) S pc L (.ref (ad B (11 + j)) :: st) := z_get (q0 := 11 + j) (ci := 8) (N := 2) C (at_Output hj) inX8 rfl 0 (by decide) hl rfl d k
theorem gf_Output_total {E : zE} {B : zK} {cc : ByteArray} {own : String} {fr lo : Nat} {S : zS} {pc pc' idx : Nat} {L : List (Nat × Value)} {st : List Value} {j : Nat} (C : zC E (wC B) cc own fr lo) (hj : j < 2) (hl : zLk own idx "HostBench$Output" "total" "I") (d : zD cc pc (.getfield idx) 3 pc') (k : zV E (wC B) S pc' L (.int (gM S 7 j) :: st)) : zV E (wC B) S pc L (.ref (ad B (11 + j)) :: st) := z_get (q0 := 11 + j) (ci := 8) (N := 2) C (at_Output hj) inX8 rfl 1 (by decide) hl rfl d k
theorem pf_Output_total {E : zE} {B : zK} {cc : ByteArray} {own : String} {fr lo : Nat} {S : zS} {pc pc' idx : Nat} {L : List (Nat × Value)} {st : List Value} {j : Nat} {v : Int32} (C : zC E (wC B) cc own fr lo) (hj : j < 2) (hl : zLk own idx "HostBench$Output" "total" "I") (d : zD cc pc (.putfield idx) 3 pc') (k : zV E (wC B) (sM S 7 j v) pc' L st) : zV E (wC B) S pc L (.int v :: .ref (ad B (11 + j)) :: st) := z_put (q0 := 11 + j) (ci := 8) (N := 2) (ty0 := tyX8) (ty := .int) C (at_Output hj) inX8 tyX8_ok nmX8 rfl 1 (by decide) hl rfl rfl rfl rfl (Nat.le_of_ble_eq_true rfl) (ap_set (clL_Output B S) (clL_Output B (sM S 7 j v)) (clN_Output B S) hj (fun i hi => by by_cases q : i = j <;> simp [clOutput, gM, sM, gH, sH, q])) d k
theorem gf_HostFile_name {E : zE} {B : zK} {cc : ByteArray} {own : String} {fr lo : Nat} {S : zS} {pc pc' idx : Nat} {L : List (Nat × Value)} {st : List Value} {j : Nat} (C : zC E (wC B) cc own fr lo) (hj : j < 12) (hl : zLk own idx "HostBench$HostFile" "name" "LHostBench$Bytes;") (d : zD cc pc (.getfield idx) 3 pc') (k : zV E (wC B) S pc' L (.ref (ad B (35 + (2 + 2 * j))) :: st)) : zV E (wC B) S pc L (.ref (ad B (13 + j)) :: st) := z_get (q0 := 13 + j) (ci := 6) (N := 2) C (at_HostFile hj) inX6 rfl 0 (by decide) hl rfl d k
theorem gf_HostFile_content {E : zE} {B : zK} {cc : ByteArray} {own : String} {fr lo : Nat} {S : zS} {pc pc' idx : Nat} {L : List (Nat × Value)} {st : List Value} {j : Nat} (C : zC E (wC B) cc own fr lo) (hj : j < 12) (hl : zLk own idx "HostBench$HostFile" "content" "LHostBench$Bytes;") (d : zD cc pc (.getfield idx) 3 pc') (k : zV E (wC B) S pc' L (.ref (ad B (35 + (3 + 2 * j))) :: st)) : zV E (wC B) S pc L (.ref (ad B (13 + j)) :: st) := z_get (q0 := 13 + j) (ci := 6) (N := 2) C (at_HostFile hj) inX6 rfl 1 (by decide) hl rfl d k
theorem gf_Handle_kind {E : zE} {B : zK} {cc : ByteArray} {own : String} {fr lo : Nat} {S : zS} {pc pc' idx : Nat} {L : List (Nat × Value)} {st : List Value} {j : Nat} (C : zC E (wC B) cc own fr lo) (hj : j < 10) (hl : zLk own idx "HostBench$Handle" "kind" "I") (d : zD cc pc (.getfield idx) 3 pc') (k : zV E (wC B) S pc' L (.int (gM S 4 j) :: st)) : zV E (wC B) S pc L (.ref (ad B (25 + j)) :: st) := z_get (q0 := 25 + j) (ci := 4) (N := 4) C (at_Handle hj) inX4 rfl 0 (by decide) hl rfl d k
theorem pf_Handle_kind {E : zE} {B : zK} {cc : ByteArray} {own : String} {fr lo : Nat} {S : zS} {pc pc' idx : Nat} {L : List (Nat × Value)} {st : List Value} {j : Nat} {v : Int32} (C : zC E (wC B) cc own fr lo) (hj : j < 10) (hl : zLk own idx "HostBench$Handle" "kind" "I") (d : zD cc pc (.putfield idx) 3 pc') (k : zV E (wC B) (sM S 4 j v) pc' L st) : zV E (wC B) S pc L (.int v :: .ref (ad B (25 + j)) :: st) := z_put (q0 := 25 + j) (ci := 4) (N := 4) (ty0 := tyX4) (ty := .int) C (at_Handle hj) inX4 tyX4_ok nmX4 rfl 0 (by decide) hl rfl rfl rfl rfl (Nat.le_of_ble_eq_true rfl) (ap_set (clL_Handle B S) (clL_Handle B (sM S 4 j v)) (clN_Handle B S) hj (fun i hi => by by_cases q : i = j <;> simp [clHandle, gM, sM, gH, sH, q])) d k
theorem gf_Handle_file {E : zE} {B : zK} {cc : ByteArray} {own : String} {fr lo : Nat} {S : zS} {pc pc' idx : Nat} {L : List (Nat × Value)} {st : List Value} {j : Nat} (C : zC E (wC B) cc own fr lo) (hj : j < 10) (hl : zLk own idx "HostBench$Handle" "file" "LHostBench$HostFile;") (d : zD cc pc (.getfield idx) 3 pc') (k : zV E (wC B) S pc' L (va_rf ((gH S j).map (fun k => ad B (13 + k))) :: st)) : zV E (wC B) S pc L (.ref (ad B (25 + j)) :: st) := z_get (q0 := 25 + j) (ci := 4) (N := 4) C (at_Handle hj) inX4 rfl 1 (by decide) hl rfl d k
theorem pf_Handle_file {E : zE} {B : zK} {cc : ByteArray} {own : String} {fr lo : Nat} {S : zS} {pc pc' idx : Nat} {L : List (Nat × Value)} {st : List Value} {j : Nat} {v : Option Nat} (C : zC E (wC B) cc own fr lo) (hj : j < 10) (hl : zLk own idx "HostBench$Handle" "file" "LHostBench$HostFile;") (d : zD cc pc (.putfield idx) 3 pc') (k : zV E (wC B) (sH S j v) pc' L st) : zV E (wC B) S pc L (va_rf (v.map (fun k => ad B (13 + k))) :: .ref (ad B (25 + j)) :: st) := z_put (q0 := 25 + j) (ci := 4) (N := 4) (ty0 := tyX4) (ty := .object "HostBench$HostFile") C (at_Handle hj) inX4 tyX4_ok nmX4 rfl 1 (by decide) hl rfl rfl (by cases v <;> rfl) (by cases v <;> rfl) (Nat.le_of_ble_eq_true rfl) (ap_set (clL_Handle B S) (clL_Handle B (sH S j v)) (clN_Handle B S) hj (fun i hi => by by_cases q : i = j <;> simp [clHandle, gM, sM, gH, sH, q])) d k
theorem gf_Handle_place {E : zE} {B : zK} {cc : ByteArray} {own : String} {fr lo : Nat} {S : zS} {pc pc' idx : Nat} {L : List (Nat × Value)} {st : List Value} {j : Nat} (C : zC E (wC B) cc own fr lo) (hj : j < 10) (hl : zLk own idx "HostBench$Handle" "place" "I") (d : zD cc pc (.getfield idx) 3 pc') (k : zV E (wC B) S pc' L (.int (gM S 5 j) :: st)) : zV E (wC B) S pc L (.ref (ad B (25 + j)) :: st) := z_get (q0 := 25 + j) (ci := 4) (N := 4) C (at_Handle hj) inX4 rfl 2 (by decide) hl rfl d k
theorem pf_Handle_place {E : zE} {B : zK} {cc : ByteArray} {own : String} {fr lo : Nat} {S : zS} {pc pc' idx : Nat} {L : List (Nat × Value)} {st : List Value} {j : Nat} {v : Int32} (C : zC E (wC B) cc own fr lo) (hj : j < 10) (hl : zLk own idx "HostBench$Handle" "place" "I") (d : zD cc pc (.putfield idx) 3 pc') (k : zV E (wC B) (sM S 5 j v) pc' L st) : zV E (wC B) S pc L (.int v :: .ref (ad B (25 + j)) :: st) := z_put (q0 := 25 + j) (ci := 4) (N := 4) (ty0 := tyX4) (ty := .int) C (at_Handle hj) inX4 tyX4_ok nmX4 rfl 2 (by decide) hl rfl rfl rfl rfl (Nat.le_of_ble_eq_true rfl) (ap_set (clL_Handle B S) (clL_Handle B (sM S 5 j v)) (clN_Handle B S) hj (fun i hi => by by_cases q : i = j <;> simp [clHandle, gM, sM, gH, sH, q])) d k
theorem gf_Handle_rights {E : zE} {B : zK} {cc : ByteArray} {own : String} {fr lo : Nat} {S : zS} {pc pc' idx : Nat} {L : List (Nat × Value)} {st : List Value} {j : Nat} (C : zC E (wC B) cc own fr lo) (hj : j < 10) (hl : zLk own idx "HostBench$Handle" "rights" "I") (d : zD cc pc (.getfield idx) 3 pc') (k : zV E (wC B) S pc' L (.int (gM S 6 j) :: st)) : zV E (wC B) S pc L (.ref (ad B (25 + j)) :: st) := z_get (q0 := 25 + j) (ci := 4) (N := 4) C (at_Handle hj) inX4 rfl 3 (by decide) hl rfl d k
theorem pf_Handle_rights {E : zE} {B : zK} {cc : ByteArray} {own : String} {fr lo : Nat} {S : zS} {pc pc' idx : Nat} {L : List (Nat × Value)} {st : List Value} {j : Nat} {v : Int32} (C : zC E (wC B) cc own fr lo) (hj : j < 10) (hl : zLk own idx "HostBench$Handle" "rights" "I") (d : zD cc pc (.putfield idx) 3 pc') (k : zV E (wC B) (sM S 6 j v) pc' L st) : zV E (wC B) S pc L (.int v :: .ref (ad B (25 + j)) :: st) := z_put (q0 := 25 + j) (ci := 4) (N := 4) (ty0 := tyX4) (ty := .int) C (at_Handle hj) inX4 tyX4_ok nmX4 rfl 3 (by decide) hl rfl rfl rfl rfl (Nat.le_of_ble_eq_true rfl) (ap_set (clL_Handle B S) (clL_Handle B (sM S 6 j v)) (clN_Handle B S) hj (fun i hi => by by_cases q : i = j <;> simp [clHandle, gM, sM, gH, sH, q])) d k
theorem gf_Bytes_room {E : zE} {B : zK} {cc : ByteArray} {own : String} {fr lo : Nat} {S : zS} {pc pc' idx : Nat} {L : List (Nat × Value)} {st : List Value} {j : Nat} (C : zC E (wC B) cc own fr lo) (hj : j < 32) (hl : zLk own idx "HostBench$Bytes" "room" "[B") (d : zD cc pc (.getfield idx) 3 pc') (k : zV E (wC B) S pc' L (.ref (ad B (67 + j)) :: st)) : zV E (wC B) S pc L (.ref (ad B (35 + j)) :: st) := z_get (q0 := 35 + j) (ci := 0) (N := 2) C (at_Bytes hj) inX0 rfl 0 (by decide) hl rfl d k
theorem gf_Bytes_size {E : zE} {B : zK} {cc : ByteArray} {own : String} {fr lo : Nat} {S : zS} {pc pc' idx : Nat} {L : List (Nat × Value)} {st : List Value} {j : Nat} (C : zC E (wC B) cc own fr lo) (hj : j < 32) (hl : zLk own idx "HostBench$Bytes" "size" "I") (d : zD cc pc (.getfield idx) 3 pc') (k : zV E (wC B) S pc' L (.int (gM S 8 j) :: st)) : zV E (wC B) S pc L (.ref (ad B (35 + j)) :: st) := z_get (q0 := 35 + j) (ci := 0) (N := 2) C (at_Bytes hj) inX0 rfl 1 (by decide) hl rfl d k
theorem pf_Bytes_size {E : zE} {B : zK} {cc : ByteArray} {own : String} {fr lo : Nat} {S : zS} {pc pc' idx : Nat} {L : List (Nat × Value)} {st : List Value} {j : Nat} {v : Int32} (C : zC E (wC B) cc own fr lo) (hj : j < 32) (hl : zLk own idx "HostBench$Bytes" "size" "I") (d : zD cc pc (.putfield idx) 3 pc') (k : zV E (wC B) (sM S 8 j v) pc' L st) : zV E (wC B) S pc L (.int v :: .ref (ad B (35 + j)) :: st) := z_put (q0 := 35 + j) (ci := 0) (N := 2) (ty0 := tyX0) (ty := .int) C (at_Bytes hj) inX0 tyX0_ok nmX0 rfl 1 (by decide) hl rfl rfl rfl rfl (Nat.le_of_ble_eq_true rfl) (ap_set (clL_Bytes B S) (clL_Bytes B (sM S 8 j v)) (clN_Bytes B S) hj (fun i hi => by by_cases q : i = j <;> simp [clBytes, gM, sM, gH, sH, q])) d k
theorem al_fed {E : zE} {B : zK} {cc : ByteArray} {own : String} {fr lo : Nat} {S : zS} {pc pc' idx : Nat} {L : List (Nat × Value)} {st : List Value} {x : Int32} (C : zC E (wC B) cc own fr lo) (hx : vp_in x 5) (d : zD cc pc .iaload 1 pc') (k : zV E (wC B) S pc' L (.int (gM S 1 x.toNatClampNeg) :: st)) : zV E (wC B) S pc L (.int x :: .ref (ad B 1) :: st) := z_iald (q0 := 1) (t0 := 1) C (show ((wC B).1 S)[1]? = some (ad B 1, _) from rfl) rfl hx d k
theorem as_fed {E : zE} {B : zK} {cc : ByteArray} {own : String} {fr lo : Nat} {S : zS} {pc pc' idx : Nat} {L : List (Nat × Value)} {st : List Value} {x y : Int32} (C : zC E (wC B) cc own fr lo) (hx : vp_in x 5) (d : zD cc pc .iastore 1 pc') (k : zV E (wC B) (sM S 1 x.toNatClampNeg y) pc' L st) : zV E (wC B) S pc L (.int y :: .int x :: .ref (ad B 1) :: st) := z_iast (q0 := 1) (t0 := 1) C (show ((wC B).1 S)[1]? = some (ad B 1, _) from rfl) rfl hx rfl d k
theorem ln_fed {E : zE} {B : zK} {cc : ByteArray} {own : String} {fr lo : Nat} {S : zS} {pc pc' idx : Nat} {L : List (Nat × Value)} {st : List Value} (C : zC E (wC B) cc own fr lo) (d : zD cc pc .arraylength 1 pc') (k : zV E (wC B) S pc' L (.int (Int32.ofNat 5) :: st)) : zV E (wC B) S pc L (.ref (ad B 1) :: st) := z_alen (q0 := 1) (t0 := 1) C (show ((wC B).1 S)[1]? = some (ad B 1, _) from rfl) rfl rfl d k
theorem al_registers {E : zE} {B : zK} {cc : ByteArray} {own : String} {fr lo : Nat} {S : zS} {pc pc' idx : Nat} {L : List (Nat × Value)} {st : List Value} {x : Int32} (C : zC E (wC B) cc own fr lo) (hx : vp_in x 32) (d : zD cc pc .iaload 1 pc') (k : zV E (wC B) S pc' L (.int (gM S 2 x.toNatClampNeg) :: st)) : zV E (wC B) S pc L (.int x :: .ref (ad B 4) :: st) := z_iald (q0 := 4) (t0 := 1) C (show ((wC B).1 S)[4]? = some (ad B 4, _) from rfl) rfl hx d k
theorem as_registers {E : zE} {B : zK} {cc : ByteArray} {own : String} {fr lo : Nat} {S : zS} {pc pc' idx : Nat} {L : List (Nat × Value)} {st : List Value} {x y : Int32} (C : zC E (wC B) cc own fr lo) (hx : vp_in x 32) (d : zD cc pc .iastore 1 pc') (k : zV E (wC B) (sM S 2 x.toNatClampNeg y) pc' L st) : zV E (wC B) S pc L (.int y :: .int x :: .ref (ad B 4) :: st) := z_iast (q0 := 4) (t0 := 1) C (show ((wC B).1 S)[4]? = some (ad B 4, _) from rfl) rfl hx rfl d k
theorem ln_registers {E : zE} {B : zK} {cc : ByteArray} {own : String} {fr lo : Nat} {S : zS} {pc pc' idx : Nat} {L : List (Nat × Value)} {st : List Value} (C : zC E (wC B) cc own fr lo) (d : zD cc pc .arraylength 1 pc') (k : zV E (wC B) S pc' L (.int (Int32.ofNat 32) :: st)) : zV E (wC B) S pc L (.ref (ad B 4) :: st) := z_alen (q0 := 4) (t0 := 1) C (show ((wC B).1 S)[4]? = some (ad B 4, _) from rfl) rfl rfl d k
theorem al_bytes {E : zE} {B : zK} {cc : ByteArray} {own : String} {fr lo : Nat} {S : zS} {pc pc' idx : Nat} {L : List (Nat × Value)} {st : List Value} {x : Int32} (C : zC E (wC B) cc own fr lo) (hx : vp_in x 16384) (d : zD cc pc .baload 1 pc') (k : zV E (wC B) S pc' L (.int (gM S 3 x.toNatClampNeg) :: st)) : zV E (wC B) S pc L (.int x :: .ref (ad B 6) :: st) := z_bald (q0 := 6) (t0 := 0) C (show ((wC B).1 S)[6]? = some (ad B 6, _) from rfl) rfl hx d k
theorem as_bytes {E : zE} {B : zK} {cc : ByteArray} {own : String} {fr lo : Nat} {S : zS} {pc pc' idx : Nat} {L : List (Nat × Value)} {st : List Value} {x y : Int32} (C : zC E (wC B) cc own fr lo) (hx : vp_in x 16384) (d : zD cc pc .bastore 1 pc') (k : zV E (wC B) (sM S 3 x.toNatClampNeg (vp_nar .byte y)) pc' L st) : zV E (wC B) S pc L (.int y :: .int x :: .ref (ad B 6) :: st) := z_bast (q0 := 6) (t0 := 0) C (show ((wC B).1 S)[6]? = some (ad B 6, _) from rfl) rfl hx rfl d k
theorem ln_bytes {E : zE} {B : zK} {cc : ByteArray} {own : String} {fr lo : Nat} {S : zS} {pc pc' idx : Nat} {L : List (Nat × Value)} {st : List Value} (C : zC E (wC B) cc own fr lo) (d : zD cc pc .arraylength 1 pc') (k : zV E (wC B) S pc' L (.int (Int32.ofNat 16384) :: st)) : zV E (wC B) S pc L (.ref (ad B 6) :: st) := z_alen (q0 := 6) (t0 := 0) C (show ((wC B).1 S)[6]? = some (ad B 6, _) from rfl) rfl rfl d k
theorem al_room {E : zE} {B : zK} {cc : ByteArray} {own : String} {fr lo : Nat} {S : zS} {pc pc' idx : Nat} {L : List (Nat × Value)} {st : List Value} {j : Nat} {x : Int32} (C : zC E (wC B) cc own fr lo) (hj : j < 32) (hx : vp_in x (capB j)) (d : zD cc pc .baload 1 pc') (k : zV E (wC B) S pc' L (.int (gR S j x.toNatClampNeg) :: st)) : zV E (wC B) S pc L (.int x :: .ref (ad B (67 + j)) :: st) := z_bald (q0 := (67 + j)) (t0 := 0) C (at_room hj) rfl hx d k
theorem as_room {E : zE} {B : zK} {cc : ByteArray} {own : String} {fr lo : Nat} {S : zS} {pc pc' idx : Nat} {L : List (Nat × Value)} {st : List Value} {j : Nat} {x y : Int32} (C : zC E (wC B) cc own fr lo) (hj : j < 32) (hx : vp_in x (capB j)) (d : zD cc pc .bastore 1 pc') (k : zV E (wC B) (sR S j x.toNatClampNeg (vp_nar .byte y)) pc' L st) : zV E (wC B) S pc L (.int y :: .int x :: .ref (ad B (67 + j)) :: st) := z_bast (q0 := (67 + j)) (t0 := 0) C (at_room hj) rfl hx (ap_set (clL_room B S) (clL_room B (sR S j x.toNatClampNeg (vp_nar .byte y))) (clN_room B S) hj (fun i hi => by by_cases q : i = j <;> simp [clroom, gR_row, q])) d k
theorem ln_room {E : zE} {B : zK} {cc : ByteArray} {own : String} {fr lo : Nat} {S : zS} {pc pc' idx : Nat} {L : List (Nat × Value)} {st : List Value} {j : Nat} (C : zC E (wC B) cc own fr lo) (hj : j < 32) (d : zD cc pc .arraylength 1 pc') (k : zV E (wC B) S pc' L (.int (Int32.ofNat (capB j)) :: st)) : zV E (wC B) S pc L (.ref (ad B (67 + j)) :: st) := z_alen (q0 := (67 + j)) (t0 := 0) C (at_room hj) rfl rfl d k
theorem ln_files {E : zE} {B : zK} {cc : ByteArray} {own : String} {fr lo : Nat} {S : zS} {pc pc' idx : Nat} {L : List (Nat × Value)} {st : List Value} (C : zC E (wC B) cc own fr lo) (d : zD cc pc .arraylength 1 pc') (k : zV E (wC B) S pc' L (.int (Int32.ofNat 12) :: st)) : zV E (wC B) S pc L (.ref (ad B 8) :: st) := z_alen (q0 := 8) (t0 := 3) C (show ((wC B).1 S)[8]? = some (ad B 8, _) from rfl) rfl rfl d k
theorem al_files {E : zE} {B : zK} {cc : ByteArray} {own : String} {fr lo : Nat} {S : zS} {pc pc' idx : Nat} {L : List (Nat × Value)} {st : List Value} {x : Int32} (C : zC E (wC B) cc own fr lo) (hx : vp_in x 12) (d : zD cc pc .aaload 1 pc') (k : zV E (wC B) S pc' L (.ref (ad B (13 + gF S x.toNatClampNeg)) :: st)) : zV E (wC B) S pc L (.int x :: .ref (ad B 8) :: st) := z_aald (q0 := 8) (t0 := 3) C (show ((wC B).1 S)[8]? = some (ad B 8, _) from rfl) rfl hx d k
theorem as_files {E : zE} {B : zK} {cc : ByteArray} {own : String} {fr lo : Nat} {S : zS} {pc pc' idx : Nat} {L : List (Nat × Value)} {st : List Value} {x : Int32} {v : Nat} (C : zC E (wC B) cc own fr lo) (hv : v < 12) (hx : vp_in x 12) (d : zD cc pc .aastore 1 pc') (k : zV E (wC B) (sF S x.toNatClampNeg v) pc' L st) : zV E (wC B) S pc L (.ref (ad B (13 + v)) :: .int x :: .ref (ad B 8) :: st) := z_aast (q0 := 8) (t0 := 3) (qk := 13 + v) (ci := 6) C (show ((wC B).1 S)[8]? = some (ad B 8, _) from rfl) rfl (at_HostFile hv) rfl hx (by
  show _ = clL B _
  have e : va_up (fun i => some (ad B (13 + gF S i))) x.toNatClampNeg (some (ad B (13 + v))) = fun i => some (ad B (13 + gF (sF S x.toNatClampNeg v) i)) := by
    funext i
    by_cases q : i = x.toNatClampNeg <;> simp [va_up, gF, sF, q]
  rw [e]
  rfl) d k
theorem ln_handles {E : zE} {B : zK} {cc : ByteArray} {own : String} {fr lo : Nat} {S : zS} {pc pc' idx : Nat} {L : List (Nat × Value)} {st : List Value} (C : zC E (wC B) cc own fr lo) (d : zD cc pc .arraylength 1 pc') (k : zV E (wC B) S pc' L (.int (Int32.ofNat 10) :: st)) : zV E (wC B) S pc L (.ref (ad B 10) :: st) := z_alen (q0 := 10) (t0 := 2) C (show ((wC B).1 S)[10]? = some (ad B 10, _) from rfl) rfl rfl d k
theorem al_handles {E : zE} {B : zK} {cc : ByteArray} {own : String} {fr lo : Nat} {S : zS} {pc pc' idx : Nat} {L : List (Nat × Value)} {st : List Value} {x : Int32} (C : zC E (wC B) cc own fr lo) (hx : vp_in x 10) (d : zD cc pc .aaload 1 pc') (k : zV E (wC B) S pc' L (.ref (ad B (25 + x.toNatClampNeg)) :: st)) : zV E (wC B) S pc L (.int x :: .ref (ad B 10) :: st) := z_aald (q0 := 10) (t0 := 2) C (show ((wC B).1 S)[10]? = some (ad B 10, _) from rfl) rfl hx d k
theorem rc_HB {B : zK} {S : zS} : zRc (wC B) S "HostBench" (ad B 0) := ⟨9, 0, _, _, _, rfl, rfl⟩
theorem rc_Host {B : zK} {S : zS} : zRc (wC B) S "HostBench$Host" (ad B 2) := ⟨5, 2, _, _, _, rfl, rfl⟩
theorem rc_Guest {B : zK} {S : zS} : zRc (wC B) S "HostBench$Guest" (ad B 3) := ⟨3, 3, _, _, _, rfl, rfl⟩
theorem rc_Memory {B : zK} {S : zS} : zRc (wC B) S "HostBench$Memory" (ad B 5) := ⟨7, 5, _, _, _, rfl, rfl⟩
theorem rc_Folder {B : zK} {S : zS} : zRc (wC B) S "HostBench$Folder" (ad B 7) := ⟨2, 7, _, _, _, rfl, rfl⟩
theorem rc_Desk {B : zK} {S : zS} : zRc (wC B) S "HostBench$Desk" (ad B 9) := ⟨1, 9, _, _, _, rfl, rfl⟩
theorem rc_Output {B : zK} {S : zS} {j : Nat} (hj : j < 2) : zRc (wC B) S "HostBench$Output" (ad B (11 + j)) := ⟨8, 11 + j, _, _, _, rfl, at_Output hj⟩
theorem rc_HostFile {B : zK} {S : zS} {j : Nat} (hj : j < 12) : zRc (wC B) S "HostBench$HostFile" (ad B (13 + j)) := ⟨6, 13 + j, _, _, _, rfl, at_HostFile hj⟩
theorem rc_Handle {B : zK} {S : zS} {j : Nat} (hj : j < 10) : zRc (wC B) S "HostBench$Handle" (ad B (25 + j)) := ⟨4, 25 + j, _, _, _, rfl, at_Handle hj⟩
theorem rc_Bytes {B : zK} {S : zS} {j : Nat} (hj : j < 32) : zRc (wC B) S "HostBench$Bytes" (ad B (35 + j)) := ⟨0, 35 + j, _, _, _, rfl, at_Bytes hj⟩
def rlL (B : zK) (S : zS) : va_W := [(ad B 0, .inr (10, [.int (gM S 0 0), .ref (ad B 1), .ref (ad B 2), .int (gM S 0 3), .int (gM S 0 4), .int (gM S 0 5), .int (gM S 0 6), .long (gJ S), .int (gM S 0 8), .int (gM S 0 9), .ref (ad B 3), .ref (ad B 4), .ref (ad B 5), .ref (ad B 6), .int (gM S 0 14), .ref (ad B 7), .ref (ad B 8), .ref (ad B 9), .ref (ad B 10), .ref (ad B 11), .int (gM S 0 20), .ref (ad B 12), .ref (ad B 13), .ref (ad B 14), .int (gM S 0 24), .ref (ad B 15), .int (gM S 0 26), .int (gM S 0 27), .ref (ad B 16), .int (gM S 0 29)])), (ad B 1, .inl (B.2.2.2.1, 16384, .inl (gM S 1))), (ad B 2, .inl (B.2.2.2.1, 32, .inl (gM S 2))), (ad B 3, .inl (B.2.2.2.1, 24000, .inl (gM S 3))), (ad B 4, .inl (B.2.2.2.1, 12, .inl (gM S 4))), (ad B 5, .inl (B.2.2.2.1, 288, .inl (gM S 5))), (ad B 6, .inl (B.2.2.2.1, 12, .inl (gM S 6))), (ad B 7, .inl (B.2.2.2.1, 11, .inl (gM S 7))), (ad B 8, .inl (B.2.2.2.1, 11, .inl (gM S 8))), (ad B 9, .inl (B.2.2.2.1, 11, .inl (gM S 9))), (ad B 10, .inl (B.2.2.2.1, 11, .inl (gM S 10))), (ad B 11, .inl (B.2.2.2.1, 400, .inl (gM S 11))), (ad B 12, .inl (B.2.2.2.1, 2, .inl (gM S 12))), (ad B 13, .inl (B.2.2.2.1, 2, .inl (gM S 13))), (ad B 14, .inl (B.2.2.2.1, 4000, .inl (gM S 14))), (ad B 15, .inl (B.2.2.2.1, 80, .inl (gM S 15))), (ad B 16, .inl (B.2.2.2.1, 2120, .inl (gM S 16)))]
def wR (B : zK) : zW := (rlL B, B.2.1, zT4 B, fun q => ∃ i, i < 17 ∧ q = ad B i)
theorem rlL_map (B : zK) (S : zS) : (rlL B S).map (fun q => q.1) = mapr 17 (ad B) := rfl
theorem wR_D (B : zK) (S : zS) : va_D (wR B).2.2.2 ((wR B).1 S) := by
  have key : ∀ (i : Nat) (q : Nat × va_E), (rlL B S)[i]? = some q → i < 17 ∧ q.1 = ad B i := by
    intro i q h
    have h1 : ((rlL B S).map (fun q => q.1))[i]? = some q.1 := by rw [List.getElem?_map, h]; rfl
    rw [rlL_map] at h1
    by_cases hi : i < 17
    · refine ⟨hi, ?_⟩
      simp [mapr, hi] at h1
      exact h1.symm
    · rw [List.getElem?_eq_none (by simp [mapr]; omega)] at h1
      cases h1
  refine ⟨fun i j p q hi hj hpq => ?_, fun k q hk => ?_⟩
  · have h1 := key i p hi
    have h2 := key j q hj
    exact B.1.2 i j (h1.2.symm.trans (hpq.trans h2.2))
  · exact ⟨k, key k q hk⟩
theorem gf_M_thrown {E : zE} {B : zK} {cc : ByteArray} {own : String} {fr lo : Nat} {S : zS} {pc pc' idx : Nat} {L : List (Nat × Value)} {st : List Value} (C : zC E (wR B) cc own fr lo) (hl : zLk own idx "HostBenchModel" "thrown" "I") (d : zD cc pc (.getfield idx) 3 pc') (k : zV E (wR B) S pc' L (.int (gM S 0 0) :: st)) : zV E (wR B) S pc L (.ref (ad B 0) :: st) := z_get (q0 := 0) (ci := 10) (N := 30) C (show ((wR B).1 S)[0]? = some (ad B 0, _) from rfl) inX10 rfl 0 (by decide) hl rfl d k
theorem pf_M_thrown {E : zE} {B : zK} {cc : ByteArray} {own : String} {fr lo : Nat} {S : zS} {pc pc' idx : Nat} {L : List (Nat × Value)} {st : List Value} {v : Int32} (C : zC E (wR B) cc own fr lo) (hl : zLk own idx "HostBenchModel" "thrown" "I") (d : zD cc pc (.putfield idx) 3 pc') (k : zV E (wR B) (sM S 0 0 v) pc' L st) : zV E (wR B) S pc L (.int v :: .ref (ad B 0) :: st) := z_put (q0 := 0) (ci := 10) (N := 30) (ty0 := tyX10) (ty := .int) C (show ((wR B).1 S)[0]? = some (ad B 0, _) from rfl) inX10 tyX10_ok nmX10 rfl 0 (by decide) hl rfl rfl rfl rfl (Nat.le_of_ble_eq_true rfl) rfl d k
theorem gf_M_memory {E : zE} {B : zK} {cc : ByteArray} {own : String} {fr lo : Nat} {S : zS} {pc pc' idx : Nat} {L : List (Nat × Value)} {st : List Value} (C : zC E (wR B) cc own fr lo) (hl : zLk own idx "HostBenchModel" "memory" "[I") (d : zD cc pc (.getfield idx) 3 pc') (k : zV E (wR B) S pc' L (.ref (ad B 1) :: st)) : zV E (wR B) S pc L (.ref (ad B 0) :: st) := z_get (q0 := 0) (ci := 10) (N := 30) C (show ((wR B).1 S)[0]? = some (ad B 0, _) from rfl) inX10 rfl 1 (by decide) hl rfl d k
theorem gf_M_x {E : zE} {B : zK} {cc : ByteArray} {own : String} {fr lo : Nat} {S : zS} {pc pc' idx : Nat} {L : List (Nat × Value)} {st : List Value} (C : zC E (wR B) cc own fr lo) (hl : zLk own idx "HostBenchModel" "x" "[I") (d : zD cc pc (.getfield idx) 3 pc') (k : zV E (wR B) S pc' L (.ref (ad B 2) :: st)) : zV E (wR B) S pc L (.ref (ad B 0) :: st) := z_get (q0 := 0) (ci := 10) (N := 30) C (show ((wR B).1 S)[0]? = some (ad B 0, _) from rfl) inX10 rfl 2 (by decide) hl rfl d k
theorem gf_M_pc {E : zE} {B : zK} {cc : ByteArray} {own : String} {fr lo : Nat} {S : zS} {pc pc' idx : Nat} {L : List (Nat × Value)} {st : List Value} (C : zC E (wR B) cc own fr lo) (hl : zLk own idx "HostBenchModel" "pc" "I") (d : zD cc pc (.getfield idx) 3 pc') (k : zV E (wR B) S pc' L (.int (gM S 0 3) :: st)) : zV E (wR B) S pc L (.ref (ad B 0) :: st) := z_get (q0 := 0) (ci := 10) (N := 30) C (show ((wR B).1 S)[0]? = some (ad B 0, _) from rfl) inX10 rfl 3 (by decide) hl rfl d k
theorem pf_M_pc {E : zE} {B : zK} {cc : ByteArray} {own : String} {fr lo : Nat} {S : zS} {pc pc' idx : Nat} {L : List (Nat × Value)} {st : List Value} {v : Int32} (C : zC E (wR B) cc own fr lo) (hl : zLk own idx "HostBenchModel" "pc" "I") (d : zD cc pc (.putfield idx) 3 pc') (k : zV E (wR B) (sM S 0 3 v) pc' L st) : zV E (wR B) S pc L (.int v :: .ref (ad B 0) :: st) := z_put (q0 := 0) (ci := 10) (N := 30) (ty0 := tyX10) (ty := .int) C (show ((wR B).1 S)[0]? = some (ad B 0, _) from rfl) inX10 tyX10_ok nmX10 rfl 3 (by decide) hl rfl rfl rfl rfl (Nat.le_of_ble_eq_true rfl) rfl d k
theorem gf_M_state {E : zE} {B : zK} {cc : ByteArray} {own : String} {fr lo : Nat} {S : zS} {pc pc' idx : Nat} {L : List (Nat × Value)} {st : List Value} (C : zC E (wR B) cc own fr lo) (hl : zLk own idx "HostBenchModel" "state" "I") (d : zD cc pc (.getfield idx) 3 pc') (k : zV E (wR B) S pc' L (.int (gM S 0 4) :: st)) : zV E (wR B) S pc L (.ref (ad B 0) :: st) := z_get (q0 := 0) (ci := 10) (N := 30) C (show ((wR B).1 S)[0]? = some (ad B 0, _) from rfl) inX10 rfl 4 (by decide) hl rfl d k
theorem pf_M_state {E : zE} {B : zK} {cc : ByteArray} {own : String} {fr lo : Nat} {S : zS} {pc pc' idx : Nat} {L : List (Nat × Value)} {st : List Value} {v : Int32} (C : zC E (wR B) cc own fr lo) (hl : zLk own idx "HostBenchModel" "state" "I") (d : zD cc pc (.putfield idx) 3 pc') (k : zV E (wR B) (sM S 0 4 v) pc' L st) : zV E (wR B) S pc L (.int v :: .ref (ad B 0) :: st) := z_put (q0 := 0) (ci := 10) (N := 30) (ty0 := tyX10) (ty := .int) C (show ((wR B).1 S)[0]? = some (ad B 0, _) from rfl) inX10 tyX10_ok nmX10 rfl 4 (by decide) hl rfl rfl rfl rfl (Nat.le_of_ble_eq_true rfl) rfl d k
theorem gf_M_trap {E : zE} {B : zK} {cc : ByteArray} {own : String} {fr lo : Nat} {S : zS} {pc pc' idx : Nat} {L : List (Nat × Value)} {st : List Value} (C : zC E (wR B) cc own fr lo) (hl : zLk own idx "HostBenchModel" "trap" "I") (d : zD cc pc (.getfield idx) 3 pc') (k : zV E (wR B) S pc' L (.int (gM S 0 5) :: st)) : zV E (wR B) S pc L (.ref (ad B 0) :: st) := z_get (q0 := 0) (ci := 10) (N := 30) C (show ((wR B).1 S)[0]? = some (ad B 0, _) from rfl) inX10 rfl 5 (by decide) hl rfl d k
theorem pf_M_trap {E : zE} {B : zK} {cc : ByteArray} {own : String} {fr lo : Nat} {S : zS} {pc pc' idx : Nat} {L : List (Nat × Value)} {st : List Value} {v : Int32} (C : zC E (wR B) cc own fr lo) (hl : zLk own idx "HostBenchModel" "trap" "I") (d : zD cc pc (.putfield idx) 3 pc') (k : zV E (wR B) (sM S 0 5 v) pc' L st) : zV E (wR B) S pc L (.int v :: .ref (ad B 0) :: st) := z_put (q0 := 0) (ci := 10) (N := 30) (ty0 := tyX10) (ty := .int) C (show ((wR B).1 S)[0]? = some (ad B 0, _) from rfl) inX10 tyX10_ok nmX10 rfl 5 (by decide) hl rfl rfl rfl rfl (Nat.le_of_ble_eq_true rfl) rfl d k
theorem gf_M_code {E : zE} {B : zK} {cc : ByteArray} {own : String} {fr lo : Nat} {S : zS} {pc pc' idx : Nat} {L : List (Nat × Value)} {st : List Value} (C : zC E (wR B) cc own fr lo) (hl : zLk own idx "HostBenchModel" "code" "I") (d : zD cc pc (.getfield idx) 3 pc') (k : zV E (wR B) S pc' L (.int (gM S 0 6) :: st)) : zV E (wR B) S pc L (.ref (ad B 0) :: st) := z_get (q0 := 0) (ci := 10) (N := 30) C (show ((wR B).1 S)[0]? = some (ad B 0, _) from rfl) inX10 rfl 6 (by decide) hl rfl d k
theorem pf_M_code {E : zE} {B : zK} {cc : ByteArray} {own : String} {fr lo : Nat} {S : zS} {pc pc' idx : Nat} {L : List (Nat × Value)} {st : List Value} {v : Int32} (C : zC E (wR B) cc own fr lo) (hl : zLk own idx "HostBenchModel" "code" "I") (d : zD cc pc (.putfield idx) 3 pc') (k : zV E (wR B) (sM S 0 6 v) pc' L st) : zV E (wR B) S pc L (.int v :: .ref (ad B 0) :: st) := z_put (q0 := 0) (ci := 10) (N := 30) (ty0 := tyX10) (ty := .int) C (show ((wR B).1 S)[0]? = some (ad B 0, _) from rfl) inX10 tyX10_ok nmX10 rfl 6 (by decide) hl rfl rfl rfl rfl (Nat.le_of_ble_eq_true rfl) rfl d k
theorem gf_M_steps {E : zE} {B : zK} {cc : ByteArray} {own : String} {fr lo : Nat} {S : zS} {pc pc' idx : Nat} {L : List (Nat × Value)} {st : List Value} (C : zC E (wR B) cc own fr lo) (hl : zLk own idx "HostBenchModel" "steps" "J") (d : zD cc pc (.getfield idx) 3 pc') (k : zV E (wR B) S pc' L (.long (gJ S) :: st)) : zV E (wR B) S pc L (.ref (ad B 0) :: st) := z_get (q0 := 0) (ci := 10) (N := 30) C (show ((wR B).1 S)[0]? = some (ad B 0, _) from rfl) inX10 rfl 7 (by decide) hl rfl d k
theorem pf_M_steps {E : zE} {B : zK} {cc : ByteArray} {own : String} {fr lo : Nat} {S : zS} {pc pc' idx : Nat} {L : List (Nat × Value)} {st : List Value} {v : Int64} (C : zC E (wR B) cc own fr lo) (hl : zLk own idx "HostBenchModel" "steps" "J") (d : zD cc pc (.putfield idx) 3 pc') (k : zV E (wR B) (sJ S v) pc' L st) : zV E (wR B) S pc L (.long v :: .ref (ad B 0) :: st) := z_put (q0 := 0) (ci := 10) (N := 30) (ty0 := tyX10) (ty := .long) C (show ((wR B).1 S)[0]? = some (ad B 0, _) from rfl) inX10 tyX10_ok nmX10 rfl 7 (by decide) hl rfl rfl rfl rfl (Nat.le_of_ble_eq_true rfl) rfl d k
theorem gf_M_calls {E : zE} {B : zK} {cc : ByteArray} {own : String} {fr lo : Nat} {S : zS} {pc pc' idx : Nat} {L : List (Nat × Value)} {st : List Value} (C : zC E (wR B) cc own fr lo) (hl : zLk own idx "HostBenchModel" "calls" "I") (d : zD cc pc (.getfield idx) 3 pc') (k : zV E (wR B) S pc' L (.int (gM S 0 8) :: st)) : zV E (wR B) S pc L (.ref (ad B 0) :: st) := z_get (q0 := 0) (ci := 10) (N := 30) C (show ((wR B).1 S)[0]? = some (ad B 0, _) from rfl) inX10 rfl 8 (by decide) hl rfl d k
theorem pf_M_calls {E : zE} {B : zK} {cc : ByteArray} {own : String} {fr lo : Nat} {S : zS} {pc pc' idx : Nat} {L : List (Nat × Value)} {st : List Value} {v : Int32} (C : zC E (wR B) cc own fr lo) (hl : zLk own idx "HostBenchModel" "calls" "I") (d : zD cc pc (.putfield idx) 3 pc') (k : zV E (wR B) (sM S 0 8 v) pc' L st) : zV E (wR B) S pc L (.int v :: .ref (ad B 0) :: st) := z_put (q0 := 0) (ci := 10) (N := 30) (ty0 := tyX10) (ty := .int) C (show ((wR B).1 S)[0]? = some (ad B 0, _) from rfl) inX10 tyX10_ok nmX10 rfl 8 (by decide) hl rfl rfl rfl rfl (Nat.le_of_ble_eq_true rfl) rfl d k
theorem gf_M_latest {E : zE} {B : zK} {cc : ByteArray} {own : String} {fr lo : Nat} {S : zS} {pc pc' idx : Nat} {L : List (Nat × Value)} {st : List Value} (C : zC E (wR B) cc own fr lo) (hl : zLk own idx "HostBenchModel" "latest" "I") (d : zD cc pc (.getfield idx) 3 pc') (k : zV E (wR B) S pc' L (.int (gM S 0 9) :: st)) : zV E (wR B) S pc L (.ref (ad B 0) :: st) := z_get (q0 := 0) (ci := 10) (N := 30) C (show ((wR B).1 S)[0]? = some (ad B 0, _) from rfl) inX10 rfl 9 (by decide) hl rfl d k
theorem pf_M_latest {E : zE} {B : zK} {cc : ByteArray} {own : String} {fr lo : Nat} {S : zS} {pc pc' idx : Nat} {L : List (Nat × Value)} {st : List Value} {v : Int32} (C : zC E (wR B) cc own fr lo) (hl : zLk own idx "HostBenchModel" "latest" "I") (d : zD cc pc (.putfield idx) 3 pc') (k : zV E (wR B) (sM S 0 9 v) pc' L st) : zV E (wR B) S pc L (.int v :: .ref (ad B 0) :: st) := z_put (q0 := 0) (ci := 10) (N := 30) (ty0 := tyX10) (ty := .int) C (show ((wR B).1 S)[0]? = some (ad B 0, _) from rfl) inX10 tyX10_ok nmX10 rfl 9 (by decide) hl rfl rfl rfl rfl (Nat.le_of_ble_eq_true rfl) rfl d k
theorem gf_M_data {E : zE} {B : zK} {cc : ByteArray} {own : String} {fr lo : Nat} {S : zS} {pc pc' idx : Nat} {L : List (Nat × Value)} {st : List Value} (C : zC E (wR B) cc own fr lo) (hl : zLk own idx "HostBenchModel" "data" "[I") (d : zD cc pc (.getfield idx) 3 pc') (k : zV E (wR B) S pc' L (.ref (ad B 3) :: st)) : zV E (wR B) S pc L (.ref (ad B 0) :: st) := z_get (q0 := 0) (ci := 10) (N := 30) C (show ((wR B).1 S)[0]? = some (ad B 0, _) from rfl) inX10 rfl 10 (by decide) hl rfl d k
theorem gf_M_size {E : zE} {B : zK} {cc : ByteArray} {own : String} {fr lo : Nat} {S : zS} {pc pc' idx : Nat} {L : List (Nat × Value)} {st : List Value} (C : zC E (wR B) cc own fr lo) (hl : zLk own idx "HostBenchModel" "size" "[I") (d : zD cc pc (.getfield idx) 3 pc') (k : zV E (wR B) S pc' L (.ref (ad B 4) :: st)) : zV E (wR B) S pc L (.ref (ad B 0) :: st) := z_get (q0 := 0) (ci := 10) (N := 30) C (show ((wR B).1 S)[0]? = some (ad B 0, _) from rfl) inX10 rfl 11 (by decide) hl rfl d k
theorem gf_M_name {E : zE} {B : zK} {cc : ByteArray} {own : String} {fr lo : Nat} {S : zS} {pc pc' idx : Nat} {L : List (Nat × Value)} {st : List Value} (C : zC E (wR B) cc own fr lo) (hl : zLk own idx "HostBenchModel" "name" "[I") (d : zD cc pc (.getfield idx) 3 pc') (k : zV E (wR B) S pc' L (.ref (ad B 5) :: st)) : zV E (wR B) S pc L (.ref (ad B 0) :: st) := z_get (q0 := 0) (ci := 10) (N := 30) C (show ((wR B).1 S)[0]? = some (ad B 0, _) from rfl) inX10 rfl 12 (by decide) hl rfl d k
theorem gf_M_nameSize {E : zE} {B : zK} {cc : ByteArray} {own : String} {fr lo : Nat} {S : zS} {pc pc' idx : Nat} {L : List (Nat × Value)} {st : List Value} (C : zC E (wR B) cc own fr lo) (hl : zLk own idx "HostBenchModel" "nameSize" "[I") (d : zD cc pc (.getfield idx) 3 pc') (k : zV E (wR B) S pc' L (.ref (ad B 6) :: st)) : zV E (wR B) S pc L (.ref (ad B 0) :: st) := z_get (q0 := 0) (ci := 10) (N := 30) C (show ((wR B).1 S)[0]? = some (ad B 0, _) from rfl) inX10 rfl 13 (by decide) hl rfl d k
theorem gf_M_files {E : zE} {B : zK} {cc : ByteArray} {own : String} {fr lo : Nat} {S : zS} {pc pc' idx : Nat} {L : List (Nat × Value)} {st : List Value} (C : zC E (wR B) cc own fr lo) (hl : zLk own idx "HostBenchModel" "files" "I") (d : zD cc pc (.getfield idx) 3 pc') (k : zV E (wR B) S pc' L (.int (gM S 0 14) :: st)) : zV E (wR B) S pc L (.ref (ad B 0) :: st) := z_get (q0 := 0) (ci := 10) (N := 30) C (show ((wR B).1 S)[0]? = some (ad B 0, _) from rfl) inX10 rfl 14 (by decide) hl rfl d k
theorem pf_M_files {E : zE} {B : zK} {cc : ByteArray} {own : String} {fr lo : Nat} {S : zS} {pc pc' idx : Nat} {L : List (Nat × Value)} {st : List Value} {v : Int32} (C : zC E (wR B) cc own fr lo) (hl : zLk own idx "HostBenchModel" "files" "I") (d : zD cc pc (.putfield idx) 3 pc') (k : zV E (wR B) (sM S 0 14 v) pc' L st) : zV E (wR B) S pc L (.int v :: .ref (ad B 0) :: st) := z_put (q0 := 0) (ci := 10) (N := 30) (ty0 := tyX10) (ty := .int) C (show ((wR B).1 S)[0]? = some (ad B 0, _) from rfl) inX10 tyX10_ok nmX10 rfl 14 (by decide) hl rfl rfl rfl rfl (Nat.le_of_ble_eq_true rfl) rfl d k
theorem gf_M_kind {E : zE} {B : zK} {cc : ByteArray} {own : String} {fr lo : Nat} {S : zS} {pc pc' idx : Nat} {L : List (Nat × Value)} {st : List Value} (C : zC E (wR B) cc own fr lo) (hl : zLk own idx "HostBenchModel" "kind" "[I") (d : zD cc pc (.getfield idx) 3 pc') (k : zV E (wR B) S pc' L (.ref (ad B 7) :: st)) : zV E (wR B) S pc L (.ref (ad B 0) :: st) := z_get (q0 := 0) (ci := 10) (N := 30) C (show ((wR B).1 S)[0]? = some (ad B 0, _) from rfl) inX10 rfl 15 (by decide) hl rfl d k
theorem gf_M_its {E : zE} {B : zK} {cc : ByteArray} {own : String} {fr lo : Nat} {S : zS} {pc pc' idx : Nat} {L : List (Nat × Value)} {st : List Value} (C : zC E (wR B) cc own fr lo) (hl : zLk own idx "HostBenchModel" "its" "[I") (d : zD cc pc (.getfield idx) 3 pc') (k : zV E (wR B) S pc' L (.ref (ad B 8) :: st)) : zV E (wR B) S pc L (.ref (ad B 0) :: st) := z_get (q0 := 0) (ci := 10) (N := 30) C (show ((wR B).1 S)[0]? = some (ad B 0, _) from rfl) inX10 rfl 16 (by decide) hl rfl d k
theorem gf_M_place {E : zE} {B : zK} {cc : ByteArray} {own : String} {fr lo : Nat} {S : zS} {pc pc' idx : Nat} {L : List (Nat × Value)} {st : List Value} (C : zC E (wR B) cc own fr lo) (hl : zLk own idx "HostBenchModel" "place" "[I") (d : zD cc pc (.getfield idx) 3 pc') (k : zV E (wR B) S pc' L (.ref (ad B 9) :: st)) : zV E (wR B) S pc L (.ref (ad B 0) :: st) := z_get (q0 := 0) (ci := 10) (N := 30) C (show ((wR B).1 S)[0]? = some (ad B 0, _) from rfl) inX10 rfl 17 (by decide) hl rfl d k
theorem gf_M_may {E : zE} {B : zK} {cc : ByteArray} {own : String} {fr lo : Nat} {S : zS} {pc pc' idx : Nat} {L : List (Nat × Value)} {st : List Value} (C : zC E (wR B) cc own fr lo) (hl : zLk own idx "HostBenchModel" "may" "[I") (d : zD cc pc (.getfield idx) 3 pc') (k : zV E (wR B) S pc' L (.ref (ad B 10) :: st)) : zV E (wR B) S pc L (.ref (ad B 0) :: st) := z_get (q0 := 0) (ci := 10) (N := 30) C (show ((wR B).1 S)[0]? = some (ad B 0, _) from rfl) inX10 rfl 18 (by decide) hl rfl d k
theorem gf_M_in {E : zE} {B : zK} {cc : ByteArray} {own : String} {fr lo : Nat} {S : zS} {pc pc' idx : Nat} {L : List (Nat × Value)} {st : List Value} (C : zC E (wR B) cc own fr lo) (hl : zLk own idx "HostBenchModel" "in" "[I") (d : zD cc pc (.getfield idx) 3 pc') (k : zV E (wR B) S pc' L (.ref (ad B 11) :: st)) : zV E (wR B) S pc L (.ref (ad B 0) :: st) := z_get (q0 := 0) (ci := 10) (N := 30) C (show ((wR B).1 S)[0]? = some (ad B 0, _) from rfl) inX10 rfl 19 (by decide) hl rfl d k
theorem gf_M_waiting {E : zE} {B : zK} {cc : ByteArray} {own : String} {fr lo : Nat} {S : zS} {pc pc' idx : Nat} {L : List (Nat × Value)} {st : List Value} (C : zC E (wR B) cc own fr lo) (hl : zLk own idx "HostBenchModel" "waiting" "I") (d : zD cc pc (.getfield idx) 3 pc') (k : zV E (wR B) S pc' L (.int (gM S 0 20) :: st)) : zV E (wR B) S pc L (.ref (ad B 0) :: st) := z_get (q0 := 0) (ci := 10) (N := 30) C (show ((wR B).1 S)[0]? = some (ad B 0, _) from rfl) inX10 rfl 20 (by decide) hl rfl d k
theorem pf_M_waiting {E : zE} {B : zK} {cc : ByteArray} {own : String} {fr lo : Nat} {S : zS} {pc pc' idx : Nat} {L : List (Nat × Value)} {st : List Value} {v : Int32} (C : zC E (wR B) cc own fr lo) (hl : zLk own idx "HostBenchModel" "waiting" "I") (d : zD cc pc (.putfield idx) 3 pc') (k : zV E (wR B) (sM S 0 20 v) pc' L st) : zV E (wR B) S pc L (.int v :: .ref (ad B 0) :: st) := z_put (q0 := 0) (ci := 10) (N := 30) (ty0 := tyX10) (ty := .int) C (show ((wR B).1 S)[0]? = some (ad B 0, _) from rfl) inX10 tyX10_ok nmX10 rfl 20 (by decide) hl rfl rfl rfl rfl (Nat.le_of_ble_eq_true rfl) rfl d k
theorem gf_M_printed {E : zE} {B : zK} {cc : ByteArray} {own : String} {fr lo : Nat} {S : zS} {pc pc' idx : Nat} {L : List (Nat × Value)} {st : List Value} (C : zC E (wR B) cc own fr lo) (hl : zLk own idx "HostBenchModel" "printed" "[I") (d : zD cc pc (.getfield idx) 3 pc') (k : zV E (wR B) S pc' L (.ref (ad B 12) :: st)) : zV E (wR B) S pc L (.ref (ad B 0) :: st) := z_get (q0 := 0) (ci := 10) (N := 30) C (show ((wR B).1 S)[0]? = some (ad B 0, _) from rfl) inX10 rfl 21 (by decide) hl rfl d k
theorem gf_M_kept {E : zE} {B : zK} {cc : ByteArray} {own : String} {fr lo : Nat} {S : zS} {pc pc' idx : Nat} {L : List (Nat × Value)} {st : List Value} (C : zC E (wR B) cc own fr lo) (hl : zLk own idx "HostBenchModel" "kept" "[I") (d : zD cc pc (.getfield idx) 3 pc') (k : zV E (wR B) S pc' L (.ref (ad B 13) :: st)) : zV E (wR B) S pc L (.ref (ad B 0) :: st) := z_get (q0 := 0) (ci := 10) (N := 30) C (show ((wR B).1 S)[0]? = some (ad B 0, _) from rfl) inX10 rfl 22 (by decide) hl rfl d k
theorem gf_M_prints {E : zE} {B : zK} {cc : ByteArray} {own : String} {fr lo : Nat} {S : zS} {pc pc' idx : Nat} {L : List (Nat × Value)} {st : List Value} (C : zC E (wR B) cc own fr lo) (hl : zLk own idx "HostBenchModel" "prints" "[I") (d : zD cc pc (.getfield idx) 3 pc') (k : zV E (wR B) S pc' L (.ref (ad B 14) :: st)) : zV E (wR B) S pc L (.ref (ad B 0) :: st) := z_get (q0 := 0) (ci := 10) (N := 30) C (show ((wR B).1 S)[0]? = some (ad B 0, _) from rfl) inX10 rfl 23 (by decide) hl rfl d k
theorem gf_M_errno {E : zE} {B : zK} {cc : ByteArray} {own : String} {fr lo : Nat} {S : zS} {pc pc' idx : Nat} {L : List (Nat × Value)} {st : List Value} (C : zC E (wR B) cc own fr lo) (hl : zLk own idx "HostBenchModel" "errno" "I") (d : zD cc pc (.getfield idx) 3 pc') (k : zV E (wR B) S pc' L (.int (gM S 0 24) :: st)) : zV E (wR B) S pc L (.ref (ad B 0) :: st) := z_get (q0 := 0) (ci := 10) (N := 30) C (show ((wR B).1 S)[0]? = some (ad B 0, _) from rfl) inX10 rfl 24 (by decide) hl rfl d k
theorem pf_M_errno {E : zE} {B : zK} {cc : ByteArray} {own : String} {fr lo : Nat} {S : zS} {pc pc' idx : Nat} {L : List (Nat × Value)} {st : List Value} {v : Int32} (C : zC E (wR B) cc own fr lo) (hl : zLk own idx "HostBenchModel" "errno" "I") (d : zD cc pc (.putfield idx) 3 pc') (k : zV E (wR B) (sM S 0 24 v) pc' L st) : zV E (wR B) S pc L (.int v :: .ref (ad B 0) :: st) := z_put (q0 := 0) (ci := 10) (N := 30) (ty0 := tyX10) (ty := .int) C (show ((wR B).1 S)[0]? = some (ad B 0, _) from rfl) inX10 tyX10_ok nmX10 rfl 24 (by decide) hl rfl rfl rfl rfl (Nat.le_of_ble_eq_true rfl) rfl d k
theorem gf_M_command {E : zE} {B : zK} {cc : ByteArray} {own : String} {fr lo : Nat} {S : zS} {pc pc' idx : Nat} {L : List (Nat × Value)} {st : List Value} (C : zC E (wR B) cc own fr lo) (hl : zLk own idx "HostBenchModel" "command" "[I") (d : zD cc pc (.getfield idx) 3 pc') (k : zV E (wR B) S pc' L (.ref (ad B 15) :: st)) : zV E (wR B) S pc L (.ref (ad B 0) :: st) := z_get (q0 := 0) (ci := 10) (N := 30) C (show ((wR B).1 S)[0]? = some (ad B 0, _) from rfl) inX10 rfl 25 (by decide) hl rfl d k
theorem gf_M_commandSize {E : zE} {B : zK} {cc : ByteArray} {own : String} {fr lo : Nat} {S : zS} {pc pc' idx : Nat} {L : List (Nat × Value)} {st : List Value} (C : zC E (wR B) cc own fr lo) (hl : zLk own idx "HostBenchModel" "commandSize" "I") (d : zD cc pc (.getfield idx) 3 pc') (k : zV E (wR B) S pc' L (.int (gM S 0 26) :: st)) : zV E (wR B) S pc L (.ref (ad B 0) :: st) := z_get (q0 := 0) (ci := 10) (N := 30) C (show ((wR B).1 S)[0]? = some (ad B 0, _) from rfl) inX10 rfl 26 (by decide) hl rfl d k
theorem pf_M_commandSize {E : zE} {B : zK} {cc : ByteArray} {own : String} {fr lo : Nat} {S : zS} {pc pc' idx : Nat} {L : List (Nat × Value)} {st : List Value} {v : Int32} (C : zC E (wR B) cc own fr lo) (hl : zLk own idx "HostBenchModel" "commandSize" "I") (d : zD cc pc (.putfield idx) 3 pc') (k : zV E (wR B) (sM S 0 26 v) pc' L st) : zV E (wR B) S pc L (.int v :: .ref (ad B 0) :: st) := z_put (q0 := 0) (ci := 10) (N := 30) (ty0 := tyX10) (ty := .int) C (show ((wR B).1 S)[0]? = some (ad B 0, _) from rfl) inX10 tyX10_ok nmX10 rfl 26 (by decide) hl rfl rfl rfl rfl (Nat.le_of_ble_eq_true rfl) rfl d k
theorem gf_M_clock {E : zE} {B : zK} {cc : ByteArray} {own : String} {fr lo : Nat} {S : zS} {pc pc' idx : Nat} {L : List (Nat × Value)} {st : List Value} (C : zC E (wR B) cc own fr lo) (hl : zLk own idx "HostBenchModel" "clock" "I") (d : zD cc pc (.getfield idx) 3 pc') (k : zV E (wR B) S pc' L (.int (gM S 0 27) :: st)) : zV E (wR B) S pc L (.ref (ad B 0) :: st) := z_get (q0 := 0) (ci := 10) (N := 30) C (show ((wR B).1 S)[0]? = some (ad B 0, _) from rfl) inX10 rfl 27 (by decide) hl rfl d k
theorem pf_M_clock {E : zE} {B : zK} {cc : ByteArray} {own : String} {fr lo : Nat} {S : zS} {pc pc' idx : Nat} {L : List (Nat × Value)} {st : List Value} {v : Int32} (C : zC E (wR B) cc own fr lo) (hl : zLk own idx "HostBenchModel" "clock" "I") (d : zD cc pc (.putfield idx) 3 pc') (k : zV E (wR B) (sM S 0 27 v) pc' L st) : zV E (wR B) S pc L (.int v :: .ref (ad B 0) :: st) := z_put (q0 := 0) (ci := 10) (N := 30) (ty0 := tyX10) (ty := .int) C (show ((wR B).1 S)[0]? = some (ad B 0, _) from rfl) inX10 tyX10_ok nmX10 rfl 27 (by decide) hl rfl rfl rfl rfl (Nat.le_of_ble_eq_true rfl) rfl d k
theorem gf_M_tape {E : zE} {B : zK} {cc : ByteArray} {own : String} {fr lo : Nat} {S : zS} {pc pc' idx : Nat} {L : List (Nat × Value)} {st : List Value} (C : zC E (wR B) cc own fr lo) (hl : zLk own idx "HostBenchModel" "tape" "[I") (d : zD cc pc (.getfield idx) 3 pc') (k : zV E (wR B) S pc' L (.ref (ad B 16) :: st)) : zV E (wR B) S pc L (.ref (ad B 0) :: st) := z_get (q0 := 0) (ci := 10) (N := 30) C (show ((wR B).1 S)[0]? = some (ad B 0, _) from rfl) inX10 rfl 28 (by decide) hl rfl d k
theorem gf_M_taped {E : zE} {B : zK} {cc : ByteArray} {own : String} {fr lo : Nat} {S : zS} {pc pc' idx : Nat} {L : List (Nat × Value)} {st : List Value} (C : zC E (wR B) cc own fr lo) (hl : zLk own idx "HostBenchModel" "taped" "I") (d : zD cc pc (.getfield idx) 3 pc') (k : zV E (wR B) S pc' L (.int (gM S 0 29) :: st)) : zV E (wR B) S pc L (.ref (ad B 0) :: st) := z_get (q0 := 0) (ci := 10) (N := 30) C (show ((wR B).1 S)[0]? = some (ad B 0, _) from rfl) inX10 rfl 29 (by decide) hl rfl d k
theorem pf_M_taped {E : zE} {B : zK} {cc : ByteArray} {own : String} {fr lo : Nat} {S : zS} {pc pc' idx : Nat} {L : List (Nat × Value)} {st : List Value} {v : Int32} (C : zC E (wR B) cc own fr lo) (hl : zLk own idx "HostBenchModel" "taped" "I") (d : zD cc pc (.putfield idx) 3 pc') (k : zV E (wR B) (sM S 0 29 v) pc' L st) : zV E (wR B) S pc L (.int v :: .ref (ad B 0) :: st) := z_put (q0 := 0) (ci := 10) (N := 30) (ty0 := tyX10) (ty := .int) C (show ((wR B).1 S)[0]? = some (ad B 0, _) from rfl) inX10 tyX10_ok nmX10 rfl 29 (by decide) hl rfl rfl rfl rfl (Nat.le_of_ble_eq_true rfl) rfl d k
theorem al_m_memory {E : zE} {B : zK} {cc : ByteArray} {own : String} {fr lo : Nat} {S : zS} {pc pc' idx : Nat} {L : List (Nat × Value)} {st : List Value} {x : Int32} (C : zC E (wR B) cc own fr lo) (hx : vp_in x 16384) (d : zD cc pc .iaload 1 pc') (k : zV E (wR B) S pc' L (.int (gM S 1 x.toNatClampNeg) :: st)) : zV E (wR B) S pc L (.int x :: .ref (ad B 1) :: st) := z_iald (q0 := 1) (t0 := 1) C (show ((wR B).1 S)[1]? = some (ad B 1, _) from rfl) rfl hx d k
theorem as_m_memory {E : zE} {B : zK} {cc : ByteArray} {own : String} {fr lo : Nat} {S : zS} {pc pc' idx : Nat} {L : List (Nat × Value)} {st : List Value} {x y : Int32} (C : zC E (wR B) cc own fr lo) (hx : vp_in x 16384) (d : zD cc pc .iastore 1 pc') (k : zV E (wR B) (sM S 1 x.toNatClampNeg y) pc' L st) : zV E (wR B) S pc L (.int y :: .int x :: .ref (ad B 1) :: st) := z_iast (q0 := 1) (t0 := 1) C (show ((wR B).1 S)[1]? = some (ad B 1, _) from rfl) rfl hx rfl d k
theorem ln_m_memory {E : zE} {B : zK} {cc : ByteArray} {own : String} {fr lo : Nat} {S : zS} {pc pc' idx : Nat} {L : List (Nat × Value)} {st : List Value} (C : zC E (wR B) cc own fr lo) (d : zD cc pc .arraylength 1 pc') (k : zV E (wR B) S pc' L (.int (Int32.ofNat 16384) :: st)) : zV E (wR B) S pc L (.ref (ad B 1) :: st) := z_alen (q0 := 1) (t0 := 1) C (show ((wR B).1 S)[1]? = some (ad B 1, _) from rfl) rfl rfl d k
theorem al_m_x {E : zE} {B : zK} {cc : ByteArray} {own : String} {fr lo : Nat} {S : zS} {pc pc' idx : Nat} {L : List (Nat × Value)} {st : List Value} {x : Int32} (C : zC E (wR B) cc own fr lo) (hx : vp_in x 32) (d : zD cc pc .iaload 1 pc') (k : zV E (wR B) S pc' L (.int (gM S 2 x.toNatClampNeg) :: st)) : zV E (wR B) S pc L (.int x :: .ref (ad B 2) :: st) := z_iald (q0 := 2) (t0 := 1) C (show ((wR B).1 S)[2]? = some (ad B 2, _) from rfl) rfl hx d k
theorem as_m_x {E : zE} {B : zK} {cc : ByteArray} {own : String} {fr lo : Nat} {S : zS} {pc pc' idx : Nat} {L : List (Nat × Value)} {st : List Value} {x y : Int32} (C : zC E (wR B) cc own fr lo) (hx : vp_in x 32) (d : zD cc pc .iastore 1 pc') (k : zV E (wR B) (sM S 2 x.toNatClampNeg y) pc' L st) : zV E (wR B) S pc L (.int y :: .int x :: .ref (ad B 2) :: st) := z_iast (q0 := 2) (t0 := 1) C (show ((wR B).1 S)[2]? = some (ad B 2, _) from rfl) rfl hx rfl d k
theorem ln_m_x {E : zE} {B : zK} {cc : ByteArray} {own : String} {fr lo : Nat} {S : zS} {pc pc' idx : Nat} {L : List (Nat × Value)} {st : List Value} (C : zC E (wR B) cc own fr lo) (d : zD cc pc .arraylength 1 pc') (k : zV E (wR B) S pc' L (.int (Int32.ofNat 32) :: st)) : zV E (wR B) S pc L (.ref (ad B 2) :: st) := z_alen (q0 := 2) (t0 := 1) C (show ((wR B).1 S)[2]? = some (ad B 2, _) from rfl) rfl rfl d k
theorem al_m_data {E : zE} {B : zK} {cc : ByteArray} {own : String} {fr lo : Nat} {S : zS} {pc pc' idx : Nat} {L : List (Nat × Value)} {st : List Value} {x : Int32} (C : zC E (wR B) cc own fr lo) (hx : vp_in x 24000) (d : zD cc pc .iaload 1 pc') (k : zV E (wR B) S pc' L (.int (gM S 3 x.toNatClampNeg) :: st)) : zV E (wR B) S pc L (.int x :: .ref (ad B 3) :: st) := z_iald (q0 := 3) (t0 := 1) C (show ((wR B).1 S)[3]? = some (ad B 3, _) from rfl) rfl hx d k
theorem as_m_data {E : zE} {B : zK} {cc : ByteArray} {own : String} {fr lo : Nat} {S : zS} {pc pc' idx : Nat} {L : List (Nat × Value)} {st : List Value} {x y : Int32} (C : zC E (wR B) cc own fr lo) (hx : vp_in x 24000) (d : zD cc pc .iastore 1 pc') (k : zV E (wR B) (sM S 3 x.toNatClampNeg y) pc' L st) : zV E (wR B) S pc L (.int y :: .int x :: .ref (ad B 3) :: st) := z_iast (q0 := 3) (t0 := 1) C (show ((wR B).1 S)[3]? = some (ad B 3, _) from rfl) rfl hx rfl d k
theorem ln_m_data {E : zE} {B : zK} {cc : ByteArray} {own : String} {fr lo : Nat} {S : zS} {pc pc' idx : Nat} {L : List (Nat × Value)} {st : List Value} (C : zC E (wR B) cc own fr lo) (d : zD cc pc .arraylength 1 pc') (k : zV E (wR B) S pc' L (.int (Int32.ofNat 24000) :: st)) : zV E (wR B) S pc L (.ref (ad B 3) :: st) := z_alen (q0 := 3) (t0 := 1) C (show ((wR B).1 S)[3]? = some (ad B 3, _) from rfl) rfl rfl d k
theorem al_m_size {E : zE} {B : zK} {cc : ByteArray} {own : String} {fr lo : Nat} {S : zS} {pc pc' idx : Nat} {L : List (Nat × Value)} {st : List Value} {x : Int32} (C : zC E (wR B) cc own fr lo) (hx : vp_in x 12) (d : zD cc pc .iaload 1 pc') (k : zV E (wR B) S pc' L (.int (gM S 4 x.toNatClampNeg) :: st)) : zV E (wR B) S pc L (.int x :: .ref (ad B 4) :: st) := z_iald (q0 := 4) (t0 := 1) C (show ((wR B).1 S)[4]? = some (ad B 4, _) from rfl) rfl hx d k
theorem as_m_size {E : zE} {B : zK} {cc : ByteArray} {own : String} {fr lo : Nat} {S : zS} {pc pc' idx : Nat} {L : List (Nat × Value)} {st : List Value} {x y : Int32} (C : zC E (wR B) cc own fr lo) (hx : vp_in x 12) (d : zD cc pc .iastore 1 pc') (k : zV E (wR B) (sM S 4 x.toNatClampNeg y) pc' L st) : zV E (wR B) S pc L (.int y :: .int x :: .ref (ad B 4) :: st) := z_iast (q0 := 4) (t0 := 1) C (show ((wR B).1 S)[4]? = some (ad B 4, _) from rfl) rfl hx rfl d k
theorem ln_m_size {E : zE} {B : zK} {cc : ByteArray} {own : String} {fr lo : Nat} {S : zS} {pc pc' idx : Nat} {L : List (Nat × Value)} {st : List Value} (C : zC E (wR B) cc own fr lo) (d : zD cc pc .arraylength 1 pc') (k : zV E (wR B) S pc' L (.int (Int32.ofNat 12) :: st)) : zV E (wR B) S pc L (.ref (ad B 4) :: st) := z_alen (q0 := 4) (t0 := 1) C (show ((wR B).1 S)[4]? = some (ad B 4, _) from rfl) rfl rfl d k
theorem al_m_name {E : zE} {B : zK} {cc : ByteArray} {own : String} {fr lo : Nat} {S : zS} {pc pc' idx : Nat} {L : List (Nat × Value)} {st : List Value} {x : Int32} (C : zC E (wR B) cc own fr lo) (hx : vp_in x 288) (d : zD cc pc .iaload 1 pc') (k : zV E (wR B) S pc' L (.int (gM S 5 x.toNatClampNeg) :: st)) : zV E (wR B) S pc L (.int x :: .ref (ad B 5) :: st) := z_iald (q0 := 5) (t0 := 1) C (show ((wR B).1 S)[5]? = some (ad B 5, _) from rfl) rfl hx d k
theorem as_m_name {E : zE} {B : zK} {cc : ByteArray} {own : String} {fr lo : Nat} {S : zS} {pc pc' idx : Nat} {L : List (Nat × Value)} {st : List Value} {x y : Int32} (C : zC E (wR B) cc own fr lo) (hx : vp_in x 288) (d : zD cc pc .iastore 1 pc') (k : zV E (wR B) (sM S 5 x.toNatClampNeg y) pc' L st) : zV E (wR B) S pc L (.int y :: .int x :: .ref (ad B 5) :: st) := z_iast (q0 := 5) (t0 := 1) C (show ((wR B).1 S)[5]? = some (ad B 5, _) from rfl) rfl hx rfl d k
theorem ln_m_name {E : zE} {B : zK} {cc : ByteArray} {own : String} {fr lo : Nat} {S : zS} {pc pc' idx : Nat} {L : List (Nat × Value)} {st : List Value} (C : zC E (wR B) cc own fr lo) (d : zD cc pc .arraylength 1 pc') (k : zV E (wR B) S pc' L (.int (Int32.ofNat 288) :: st)) : zV E (wR B) S pc L (.ref (ad B 5) :: st) := z_alen (q0 := 5) (t0 := 1) C (show ((wR B).1 S)[5]? = some (ad B 5, _) from rfl) rfl rfl d k
theorem al_m_nameSize {E : zE} {B : zK} {cc : ByteArray} {own : String} {fr lo : Nat} {S : zS} {pc pc' idx : Nat} {L : List (Nat × Value)} {st : List Value} {x : Int32} (C : zC E (wR B) cc own fr lo) (hx : vp_in x 12) (d : zD cc pc .iaload 1 pc') (k : zV E (wR B) S pc' L (.int (gM S 6 x.toNatClampNeg) :: st)) : zV E (wR B) S pc L (.int x :: .ref (ad B 6) :: st) := z_iald (q0 := 6) (t0 := 1) C (show ((wR B).1 S)[6]? = some (ad B 6, _) from rfl) rfl hx d k
theorem as_m_nameSize {E : zE} {B : zK} {cc : ByteArray} {own : String} {fr lo : Nat} {S : zS} {pc pc' idx : Nat} {L : List (Nat × Value)} {st : List Value} {x y : Int32} (C : zC E (wR B) cc own fr lo) (hx : vp_in x 12) (d : zD cc pc .iastore 1 pc') (k : zV E (wR B) (sM S 6 x.toNatClampNeg y) pc' L st) : zV E (wR B) S pc L (.int y :: .int x :: .ref (ad B 6) :: st) := z_iast (q0 := 6) (t0 := 1) C (show ((wR B).1 S)[6]? = some (ad B 6, _) from rfl) rfl hx rfl d k
theorem ln_m_nameSize {E : zE} {B : zK} {cc : ByteArray} {own : String} {fr lo : Nat} {S : zS} {pc pc' idx : Nat} {L : List (Nat × Value)} {st : List Value} (C : zC E (wR B) cc own fr lo) (d : zD cc pc .arraylength 1 pc') (k : zV E (wR B) S pc' L (.int (Int32.ofNat 12) :: st)) : zV E (wR B) S pc L (.ref (ad B 6) :: st) := z_alen (q0 := 6) (t0 := 1) C (show ((wR B).1 S)[6]? = some (ad B 6, _) from rfl) rfl rfl d k
theorem al_m_kind {E : zE} {B : zK} {cc : ByteArray} {own : String} {fr lo : Nat} {S : zS} {pc pc' idx : Nat} {L : List (Nat × Value)} {st : List Value} {x : Int32} (C : zC E (wR B) cc own fr lo) (hx : vp_in x 11) (d : zD cc pc .iaload 1 pc') (k : zV E (wR B) S pc' L (.int (gM S 7 x.toNatClampNeg) :: st)) : zV E (wR B) S pc L (.int x :: .ref (ad B 7) :: st) := z_iald (q0 := 7) (t0 := 1) C (show ((wR B).1 S)[7]? = some (ad B 7, _) from rfl) rfl hx d k
theorem as_m_kind {E : zE} {B : zK} {cc : ByteArray} {own : String} {fr lo : Nat} {S : zS} {pc pc' idx : Nat} {L : List (Nat × Value)} {st : List Value} {x y : Int32} (C : zC E (wR B) cc own fr lo) (hx : vp_in x 11) (d : zD cc pc .iastore 1 pc') (k : zV E (wR B) (sM S 7 x.toNatClampNeg y) pc' L st) : zV E (wR B) S pc L (.int y :: .int x :: .ref (ad B 7) :: st) := z_iast (q0 := 7) (t0 := 1) C (show ((wR B).1 S)[7]? = some (ad B 7, _) from rfl) rfl hx rfl d k
theorem ln_m_kind {E : zE} {B : zK} {cc : ByteArray} {own : String} {fr lo : Nat} {S : zS} {pc pc' idx : Nat} {L : List (Nat × Value)} {st : List Value} (C : zC E (wR B) cc own fr lo) (d : zD cc pc .arraylength 1 pc') (k : zV E (wR B) S pc' L (.int (Int32.ofNat 11) :: st)) : zV E (wR B) S pc L (.ref (ad B 7) :: st) := z_alen (q0 := 7) (t0 := 1) C (show ((wR B).1 S)[7]? = some (ad B 7, _) from rfl) rfl rfl d k
theorem al_m_its {E : zE} {B : zK} {cc : ByteArray} {own : String} {fr lo : Nat} {S : zS} {pc pc' idx : Nat} {L : List (Nat × Value)} {st : List Value} {x : Int32} (C : zC E (wR B) cc own fr lo) (hx : vp_in x 11) (d : zD cc pc .iaload 1 pc') (k : zV E (wR B) S pc' L (.int (gM S 8 x.toNatClampNeg) :: st)) : zV E (wR B) S pc L (.int x :: .ref (ad B 8) :: st) := z_iald (q0 := 8) (t0 := 1) C (show ((wR B).1 S)[8]? = some (ad B 8, _) from rfl) rfl hx d k
theorem as_m_its {E : zE} {B : zK} {cc : ByteArray} {own : String} {fr lo : Nat} {S : zS} {pc pc' idx : Nat} {L : List (Nat × Value)} {st : List Value} {x y : Int32} (C : zC E (wR B) cc own fr lo) (hx : vp_in x 11) (d : zD cc pc .iastore 1 pc') (k : zV E (wR B) (sM S 8 x.toNatClampNeg y) pc' L st) : zV E (wR B) S pc L (.int y :: .int x :: .ref (ad B 8) :: st) := z_iast (q0 := 8) (t0 := 1) C (show ((wR B).1 S)[8]? = some (ad B 8, _) from rfl) rfl hx rfl d k
theorem ln_m_its {E : zE} {B : zK} {cc : ByteArray} {own : String} {fr lo : Nat} {S : zS} {pc pc' idx : Nat} {L : List (Nat × Value)} {st : List Value} (C : zC E (wR B) cc own fr lo) (d : zD cc pc .arraylength 1 pc') (k : zV E (wR B) S pc' L (.int (Int32.ofNat 11) :: st)) : zV E (wR B) S pc L (.ref (ad B 8) :: st) := z_alen (q0 := 8) (t0 := 1) C (show ((wR B).1 S)[8]? = some (ad B 8, _) from rfl) rfl rfl d k
theorem al_m_place {E : zE} {B : zK} {cc : ByteArray} {own : String} {fr lo : Nat} {S : zS} {pc pc' idx : Nat} {L : List (Nat × Value)} {st : List Value} {x : Int32} (C : zC E (wR B) cc own fr lo) (hx : vp_in x 11) (d : zD cc pc .iaload 1 pc') (k : zV E (wR B) S pc' L (.int (gM S 9 x.toNatClampNeg) :: st)) : zV E (wR B) S pc L (.int x :: .ref (ad B 9) :: st) := z_iald (q0 := 9) (t0 := 1) C (show ((wR B).1 S)[9]? = some (ad B 9, _) from rfl) rfl hx d k
theorem as_m_place {E : zE} {B : zK} {cc : ByteArray} {own : String} {fr lo : Nat} {S : zS} {pc pc' idx : Nat} {L : List (Nat × Value)} {st : List Value} {x y : Int32} (C : zC E (wR B) cc own fr lo) (hx : vp_in x 11) (d : zD cc pc .iastore 1 pc') (k : zV E (wR B) (sM S 9 x.toNatClampNeg y) pc' L st) : zV E (wR B) S pc L (.int y :: .int x :: .ref (ad B 9) :: st) := z_iast (q0 := 9) (t0 := 1) C (show ((wR B).1 S)[9]? = some (ad B 9, _) from rfl) rfl hx rfl d k
theorem ln_m_place {E : zE} {B : zK} {cc : ByteArray} {own : String} {fr lo : Nat} {S : zS} {pc pc' idx : Nat} {L : List (Nat × Value)} {st : List Value} (C : zC E (wR B) cc own fr lo) (d : zD cc pc .arraylength 1 pc') (k : zV E (wR B) S pc' L (.int (Int32.ofNat 11) :: st)) : zV E (wR B) S pc L (.ref (ad B 9) :: st) := z_alen (q0 := 9) (t0 := 1) C (show ((wR B).1 S)[9]? = some (ad B 9, _) from rfl) rfl rfl d k
theorem al_m_may {E : zE} {B : zK} {cc : ByteArray} {own : String} {fr lo : Nat} {S : zS} {pc pc' idx : Nat} {L : List (Nat × Value)} {st : List Value} {x : Int32} (C : zC E (wR B) cc own fr lo) (hx : vp_in x 11) (d : zD cc pc .iaload 1 pc') (k : zV E (wR B) S pc' L (.int (gM S 10 x.toNatClampNeg) :: st)) : zV E (wR B) S pc L (.int x :: .ref (ad B 10) :: st) := z_iald (q0 := 10) (t0 := 1) C (show ((wR B).1 S)[10]? = some (ad B 10, _) from rfl) rfl hx d k
theorem as_m_may {E : zE} {B : zK} {cc : ByteArray} {own : String} {fr lo : Nat} {S : zS} {pc pc' idx : Nat} {L : List (Nat × Value)} {st : List Value} {x y : Int32} (C : zC E (wR B) cc own fr lo) (hx : vp_in x 11) (d : zD cc pc .iastore 1 pc') (k : zV E (wR B) (sM S 10 x.toNatClampNeg y) pc' L st) : zV E (wR B) S pc L (.int y :: .int x :: .ref (ad B 10) :: st) := z_iast (q0 := 10) (t0 := 1) C (show ((wR B).1 S)[10]? = some (ad B 10, _) from rfl) rfl hx rfl d k
theorem ln_m_may {E : zE} {B : zK} {cc : ByteArray} {own : String} {fr lo : Nat} {S : zS} {pc pc' idx : Nat} {L : List (Nat × Value)} {st : List Value} (C : zC E (wR B) cc own fr lo) (d : zD cc pc .arraylength 1 pc') (k : zV E (wR B) S pc' L (.int (Int32.ofNat 11) :: st)) : zV E (wR B) S pc L (.ref (ad B 10) :: st) := z_alen (q0 := 10) (t0 := 1) C (show ((wR B).1 S)[10]? = some (ad B 10, _) from rfl) rfl rfl d k
theorem al_m_in {E : zE} {B : zK} {cc : ByteArray} {own : String} {fr lo : Nat} {S : zS} {pc pc' idx : Nat} {L : List (Nat × Value)} {st : List Value} {x : Int32} (C : zC E (wR B) cc own fr lo) (hx : vp_in x 400) (d : zD cc pc .iaload 1 pc') (k : zV E (wR B) S pc' L (.int (gM S 11 x.toNatClampNeg) :: st)) : zV E (wR B) S pc L (.int x :: .ref (ad B 11) :: st) := z_iald (q0 := 11) (t0 := 1) C (show ((wR B).1 S)[11]? = some (ad B 11, _) from rfl) rfl hx d k
theorem as_m_in {E : zE} {B : zK} {cc : ByteArray} {own : String} {fr lo : Nat} {S : zS} {pc pc' idx : Nat} {L : List (Nat × Value)} {st : List Value} {x y : Int32} (C : zC E (wR B) cc own fr lo) (hx : vp_in x 400) (d : zD cc pc .iastore 1 pc') (k : zV E (wR B) (sM S 11 x.toNatClampNeg y) pc' L st) : zV E (wR B) S pc L (.int y :: .int x :: .ref (ad B 11) :: st) := z_iast (q0 := 11) (t0 := 1) C (show ((wR B).1 S)[11]? = some (ad B 11, _) from rfl) rfl hx rfl d k
theorem ln_m_in {E : zE} {B : zK} {cc : ByteArray} {own : String} {fr lo : Nat} {S : zS} {pc pc' idx : Nat} {L : List (Nat × Value)} {st : List Value} (C : zC E (wR B) cc own fr lo) (d : zD cc pc .arraylength 1 pc') (k : zV E (wR B) S pc' L (.int (Int32.ofNat 400) :: st)) : zV E (wR B) S pc L (.ref (ad B 11) :: st) := z_alen (q0 := 11) (t0 := 1) C (show ((wR B).1 S)[11]? = some (ad B 11, _) from rfl) rfl rfl d k
theorem al_m_printed {E : zE} {B : zK} {cc : ByteArray} {own : String} {fr lo : Nat} {S : zS} {pc pc' idx : Nat} {L : List (Nat × Value)} {st : List Value} {x : Int32} (C : zC E (wR B) cc own fr lo) (hx : vp_in x 2) (d : zD cc pc .iaload 1 pc') (k : zV E (wR B) S pc' L (.int (gM S 12 x.toNatClampNeg) :: st)) : zV E (wR B) S pc L (.int x :: .ref (ad B 12) :: st) := z_iald (q0 := 12) (t0 := 1) C (show ((wR B).1 S)[12]? = some (ad B 12, _) from rfl) rfl hx d k
theorem as_m_printed {E : zE} {B : zK} {cc : ByteArray} {own : String} {fr lo : Nat} {S : zS} {pc pc' idx : Nat} {L : List (Nat × Value)} {st : List Value} {x y : Int32} (C : zC E (wR B) cc own fr lo) (hx : vp_in x 2) (d : zD cc pc .iastore 1 pc') (k : zV E (wR B) (sM S 12 x.toNatClampNeg y) pc' L st) : zV E (wR B) S pc L (.int y :: .int x :: .ref (ad B 12) :: st) := z_iast (q0 := 12) (t0 := 1) C (show ((wR B).1 S)[12]? = some (ad B 12, _) from rfl) rfl hx rfl d k
theorem ln_m_printed {E : zE} {B : zK} {cc : ByteArray} {own : String} {fr lo : Nat} {S : zS} {pc pc' idx : Nat} {L : List (Nat × Value)} {st : List Value} (C : zC E (wR B) cc own fr lo) (d : zD cc pc .arraylength 1 pc') (k : zV E (wR B) S pc' L (.int (Int32.ofNat 2) :: st)) : zV E (wR B) S pc L (.ref (ad B 12) :: st) := z_alen (q0 := 12) (t0 := 1) C (show ((wR B).1 S)[12]? = some (ad B 12, _) from rfl) rfl rfl d k
theorem al_m_kept {E : zE} {B : zK} {cc : ByteArray} {own : String} {fr lo : Nat} {S : zS} {pc pc' idx : Nat} {L : List (Nat × Value)} {st : List Value} {x : Int32} (C : zC E (wR B) cc own fr lo) (hx : vp_in x 2) (d : zD cc pc .iaload 1 pc') (k : zV E (wR B) S pc' L (.int (gM S 13 x.toNatClampNeg) :: st)) : zV E (wR B) S pc L (.int x :: .ref (ad B 13) :: st) := z_iald (q0 := 13) (t0 := 1) C (show ((wR B).1 S)[13]? = some (ad B 13, _) from rfl) rfl hx d k
theorem as_m_kept {E : zE} {B : zK} {cc : ByteArray} {own : String} {fr lo : Nat} {S : zS} {pc pc' idx : Nat} {L : List (Nat × Value)} {st : List Value} {x y : Int32} (C : zC E (wR B) cc own fr lo) (hx : vp_in x 2) (d : zD cc pc .iastore 1 pc') (k : zV E (wR B) (sM S 13 x.toNatClampNeg y) pc' L st) : zV E (wR B) S pc L (.int y :: .int x :: .ref (ad B 13) :: st) := z_iast (q0 := 13) (t0 := 1) C (show ((wR B).1 S)[13]? = some (ad B 13, _) from rfl) rfl hx rfl d k
theorem ln_m_kept {E : zE} {B : zK} {cc : ByteArray} {own : String} {fr lo : Nat} {S : zS} {pc pc' idx : Nat} {L : List (Nat × Value)} {st : List Value} (C : zC E (wR B) cc own fr lo) (d : zD cc pc .arraylength 1 pc') (k : zV E (wR B) S pc' L (.int (Int32.ofNat 2) :: st)) : zV E (wR B) S pc L (.ref (ad B 13) :: st) := z_alen (q0 := 13) (t0 := 1) C (show ((wR B).1 S)[13]? = some (ad B 13, _) from rfl) rfl rfl d k
theorem al_m_prints {E : zE} {B : zK} {cc : ByteArray} {own : String} {fr lo : Nat} {S : zS} {pc pc' idx : Nat} {L : List (Nat × Value)} {st : List Value} {x : Int32} (C : zC E (wR B) cc own fr lo) (hx : vp_in x 4000) (d : zD cc pc .iaload 1 pc') (k : zV E (wR B) S pc' L (.int (gM S 14 x.toNatClampNeg) :: st)) : zV E (wR B) S pc L (.int x :: .ref (ad B 14) :: st) := z_iald (q0 := 14) (t0 := 1) C (show ((wR B).1 S)[14]? = some (ad B 14, _) from rfl) rfl hx d k
theorem as_m_prints {E : zE} {B : zK} {cc : ByteArray} {own : String} {fr lo : Nat} {S : zS} {pc pc' idx : Nat} {L : List (Nat × Value)} {st : List Value} {x y : Int32} (C : zC E (wR B) cc own fr lo) (hx : vp_in x 4000) (d : zD cc pc .iastore 1 pc') (k : zV E (wR B) (sM S 14 x.toNatClampNeg y) pc' L st) : zV E (wR B) S pc L (.int y :: .int x :: .ref (ad B 14) :: st) := z_iast (q0 := 14) (t0 := 1) C (show ((wR B).1 S)[14]? = some (ad B 14, _) from rfl) rfl hx rfl d k
theorem ln_m_prints {E : zE} {B : zK} {cc : ByteArray} {own : String} {fr lo : Nat} {S : zS} {pc pc' idx : Nat} {L : List (Nat × Value)} {st : List Value} (C : zC E (wR B) cc own fr lo) (d : zD cc pc .arraylength 1 pc') (k : zV E (wR B) S pc' L (.int (Int32.ofNat 4000) :: st)) : zV E (wR B) S pc L (.ref (ad B 14) :: st) := z_alen (q0 := 14) (t0 := 1) C (show ((wR B).1 S)[14]? = some (ad B 14, _) from rfl) rfl rfl d k
theorem al_m_command {E : zE} {B : zK} {cc : ByteArray} {own : String} {fr lo : Nat} {S : zS} {pc pc' idx : Nat} {L : List (Nat × Value)} {st : List Value} {x : Int32} (C : zC E (wR B) cc own fr lo) (hx : vp_in x 80) (d : zD cc pc .iaload 1 pc') (k : zV E (wR B) S pc' L (.int (gM S 15 x.toNatClampNeg) :: st)) : zV E (wR B) S pc L (.int x :: .ref (ad B 15) :: st) := z_iald (q0 := 15) (t0 := 1) C (show ((wR B).1 S)[15]? = some (ad B 15, _) from rfl) rfl hx d k
theorem as_m_command {E : zE} {B : zK} {cc : ByteArray} {own : String} {fr lo : Nat} {S : zS} {pc pc' idx : Nat} {L : List (Nat × Value)} {st : List Value} {x y : Int32} (C : zC E (wR B) cc own fr lo) (hx : vp_in x 80) (d : zD cc pc .iastore 1 pc') (k : zV E (wR B) (sM S 15 x.toNatClampNeg y) pc' L st) : zV E (wR B) S pc L (.int y :: .int x :: .ref (ad B 15) :: st) := z_iast (q0 := 15) (t0 := 1) C (show ((wR B).1 S)[15]? = some (ad B 15, _) from rfl) rfl hx rfl d k
theorem ln_m_command {E : zE} {B : zK} {cc : ByteArray} {own : String} {fr lo : Nat} {S : zS} {pc pc' idx : Nat} {L : List (Nat × Value)} {st : List Value} (C : zC E (wR B) cc own fr lo) (d : zD cc pc .arraylength 1 pc') (k : zV E (wR B) S pc' L (.int (Int32.ofNat 80) :: st)) : zV E (wR B) S pc L (.ref (ad B 15) :: st) := z_alen (q0 := 15) (t0 := 1) C (show ((wR B).1 S)[15]? = some (ad B 15, _) from rfl) rfl rfl d k
theorem al_m_tape {E : zE} {B : zK} {cc : ByteArray} {own : String} {fr lo : Nat} {S : zS} {pc pc' idx : Nat} {L : List (Nat × Value)} {st : List Value} {x : Int32} (C : zC E (wR B) cc own fr lo) (hx : vp_in x 2120) (d : zD cc pc .iaload 1 pc') (k : zV E (wR B) S pc' L (.int (gM S 16 x.toNatClampNeg) :: st)) : zV E (wR B) S pc L (.int x :: .ref (ad B 16) :: st) := z_iald (q0 := 16) (t0 := 1) C (show ((wR B).1 S)[16]? = some (ad B 16, _) from rfl) rfl hx d k
theorem as_m_tape {E : zE} {B : zK} {cc : ByteArray} {own : String} {fr lo : Nat} {S : zS} {pc pc' idx : Nat} {L : List (Nat × Value)} {st : List Value} {x y : Int32} (C : zC E (wR B) cc own fr lo) (hx : vp_in x 2120) (d : zD cc pc .iastore 1 pc') (k : zV E (wR B) (sM S 16 x.toNatClampNeg y) pc' L st) : zV E (wR B) S pc L (.int y :: .int x :: .ref (ad B 16) :: st) := z_iast (q0 := 16) (t0 := 1) C (show ((wR B).1 S)[16]? = some (ad B 16, _) from rfl) rfl hx rfl d k
theorem ln_m_tape {E : zE} {B : zK} {cc : ByteArray} {own : String} {fr lo : Nat} {S : zS} {pc pc' idx : Nat} {L : List (Nat × Value)} {st : List Value} (C : zC E (wR B) cc own fr lo) (d : zD cc pc .arraylength 1 pc') (k : zV E (wR B) S pc' L (.int (Int32.ofNat 2120) :: st)) : zV E (wR B) S pc L (.ref (ad B 16) :: st) := z_alen (q0 := 16) (t0 := 1) C (show ((wR B).1 S)[16]? = some (ad B 16, _) from rfl) rfl rfl d k
theorem rc_M {B : zK} {S : zS} : zRc (wR B) S "HostBenchModel" (ad B 0) := ⟨10, 0, _, _, _, rfl, rfl⟩
end
