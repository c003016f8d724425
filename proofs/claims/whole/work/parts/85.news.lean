/-! LAYER 3: making: new objects, wholes (written by gen/gen_make2.py). -/
def gNK (own : String) (n idx ci : Nat) (y : MethodName) (cc : ByteArray) (nL : Nat) : Prop := Cond.classLink own n (gRn ci) ∈ gU ∧ Cond.instantiable (gRn ci) (gnf ci) ∈ gU ∧ Cond.initialized (gRn ci) ∈ gU ∧ Cond.instanceMethod y ∈ gU ∧ (Cond.methodLink own idx y ∈ gU ∨ ∃ host, Cond.methodLinkNest own idx y host ∈ gNL) ∧ Cond.code y cc nL none ∈ gU ∧ y.name = "<init>" ∧ (y.cls ≠ "java/lang/invoke/MethodHandle" ∧ y.cls ≠ "java/lang/invoke/VarHandle" ∧ (parseMethodDescriptor y.desc).map (fun d => d.parameters.length) = some 0) ∧ y.cls = gRn ci ∧ ci < 10
theorem nk_X6_9 : gNK RX6 9 11 3 yX3_init cX3_init 1 := ⟨(gU_mem (List.mem_of_getElem? (i := 191) (by decide +kernel)) rfl), (gU_mem (List.mem_of_getElem? (i := 192) (by decide +kernel)) rfl), (gU_mem (List.mem_of_getElem? (i := 163) (by decide +kernel)) rfl), (gU_mem (List.mem_of_getElem? (i := 194) (by decide +kernel)) rfl), Or.inr ⟨"SkewedWays", gNL_mem (List.mem_of_getElem? (i := 33) (by decide +kernel)) rfl⟩, co_X3_init, rfl, ⟨by decide +kernel, by decide +kernel, by decide +kernel⟩, rfl, by decide⟩
theorem nk_X6_22 : gNK RX6 22 32 5 yX5_init cX5_init 1 := ⟨(gU_mem (List.mem_of_getElem? (i := 264) (by decide +kernel)) rfl), (gU_mem (List.mem_of_getElem? (i := 266) (by decide +kernel)) rfl), (gU_mem (List.mem_of_getElem? (i := 164) (by decide +kernel)) rfl), (gU_mem (List.mem_of_getElem? (i := 268) (by decide +kernel)) rfl), Or.inr ⟨"SkewedWays", gNL_mem (List.mem_of_getElem? (i := 107) (by decide +kernel)) rfl⟩, co_X5_init, rfl, ⟨by decide +kernel, by decide +kernel, by decide +kernel⟩, rfl, by decide⟩
theorem nk_X8_7 : gNK RX8 7 9 6 yX6_init cX6_init 2 := ⟨(gU_mem (List.mem_of_getElem? (i := 185) (by decide +kernel)) rfl), (gU_mem (List.mem_of_getElem? (i := 186) (by decide +kernel)) rfl), (gU_mem (List.mem_of_getElem? (i := 162) (by decide +kernel)) rfl), (gU_mem (List.mem_of_getElem? (i := 188) (by decide +kernel)) rfl), Or.inr ⟨"SkewedWays", gNL_mem (List.mem_of_getElem? (i := 27) (by decide +kernel)) rfl⟩, co_X6_init, rfl, ⟨by decide +kernel, by decide +kernel, by decide +kernel⟩, rfl, by decide⟩
theorem nk_X8_19 : gNK RX8 19 21 3 yX3_init cX3_init 1 := ⟨(gU_mem (List.mem_of_getElem? (i := 322) (by decide +kernel)) rfl), (gU_mem (List.mem_of_getElem? (i := 192) (by decide +kernel)) rfl), (gU_mem (List.mem_of_getElem? (i := 163) (by decide +kernel)) rfl), (gU_mem (List.mem_of_getElem? (i := 194) (by decide +kernel)) rfl), Or.inr ⟨"SkewedWays", gNL_mem (List.mem_of_getElem? (i := 163) (by decide +kernel)) rfl⟩, co_X3_init, rfl, ⟨by decide +kernel, by decide +kernel, by decide +kernel⟩, rfl, by decide⟩
theorem nk_X8_26 : gNK RX8 26 28 1 yX1_init cX1_init 1 := ⟨(gU_mem (List.mem_of_getElem? (i := 324) (by decide +kernel)) rfl), (gU_mem (List.mem_of_getElem? (i := 325) (by decide +kernel)) rfl), (gU_mem (List.mem_of_getElem? (i := 165) (by decide +kernel)) rfl), (gU_mem (List.mem_of_getElem? (i := 327) (by decide +kernel)) rfl), Or.inr ⟨"SkewedWays", gNL_mem (List.mem_of_getElem? (i := 166) (by decide +kernel)) rfl⟩, co_X1_init, rfl, ⟨by decide +kernel, by decide +kernel, by decide +kernel⟩, rfl, by decide⟩
theorem nk_X8_33 : gNK RX8 33 35 7 yX7_init cX7_init 1 := ⟨(gU_mem (List.mem_of_getElem? (i := 349) (by decide +kernel)) rfl), (gU_mem (List.mem_of_getElem? (i := 350) (by decide +kernel)) rfl), (gU_mem (List.mem_of_getElem? (i := 166) (by decide +kernel)) rfl), (gU_mem (List.mem_of_getElem? (i := 352) (by decide +kernel)) rfl), Or.inr ⟨"SkewedWays", gNL_mem (List.mem_of_getElem? (i := 191) (by decide +kernel)) rfl⟩, co_X7_init, rfl, ⟨by decide +kernel, by decide +kernel, by decide +kernel⟩, rfl, by decide⟩
theorem nk_X8_40 : gNK RX8 40 42 2 yX2_init cX2_init 1 := ⟨(gU_mem (List.mem_of_getElem? (i := 362) (by decide +kernel)) rfl), (gU_mem (List.mem_of_getElem? (i := 363) (by decide +kernel)) rfl), (gU_mem (List.mem_of_getElem? (i := 167) (by decide +kernel)) rfl), (gU_mem (List.mem_of_getElem? (i := 365) (by decide +kernel)) rfl), Or.inr ⟨"SkewedWays", gNL_mem (List.mem_of_getElem? (i := 204) (by decide +kernel)) rfl⟩, co_X2_init, rfl, ⟨by decide +kernel, by decide +kernel, by decide +kernel⟩, rfl, by decide⟩
theorem nk_X8_47 : gNK RX8 47 49 4 yX4_init cX4_init 1 := ⟨(gU_mem (List.mem_of_getElem? (i := 388) (by decide +kernel)) rfl), (gU_mem (List.mem_of_getElem? (i := 389) (by decide +kernel)) rfl), (gU_mem (List.mem_of_getElem? (i := 168) (by decide +kernel)) rfl), (gU_mem (List.mem_of_getElem? (i := 391) (by decide +kernel)) rfl), Or.inr ⟨"SkewedWays", gNL_mem (List.mem_of_getElem? (i := 230) (by decide +kernel)) rfl⟩, co_X4_init, rfl, ⟨by decide +kernel, by decide +kernel, by decide +kernel⟩, rfl, by decide⟩
theorem nk_X8_54 : gNK RX8 54 56 0 yX0_init cX0_init 1 := ⟨(gU_mem (List.mem_of_getElem? (i := 411) (by decide +kernel)) rfl), (gU_mem (List.mem_of_getElem? (i := 412) (by decide +kernel)) rfl), (gU_mem (List.mem_of_getElem? (i := 169) (by decide +kernel)) rfl), (gU_mem (List.mem_of_getElem? (i := 414) (by decide +kernel)) rfl), Or.inr ⟨"SkewedWays", gNL_mem (List.mem_of_getElem? (i := 253) (by decide +kernel)) rfl⟩, co_X0_init, rfl, ⟨by decide +kernel, by decide +kernel, by decide +kernel⟩, rfl, by decide⟩
theorem nk_X8_61 : gNK RX8 61 63 5 yX5_init cX5_init 1 := ⟨(gU_mem (List.mem_of_getElem? (i := 450) (by decide +kernel)) rfl), (gU_mem (List.mem_of_getElem? (i := 266) (by decide +kernel)) rfl), (gU_mem (List.mem_of_getElem? (i := 164) (by decide +kernel)) rfl), (gU_mem (List.mem_of_getElem? (i := 268) (by decide +kernel)) rfl), Or.inr ⟨"SkewedWays", gNL_mem (List.mem_of_getElem? (i := 291) (by decide +kernel)) rfl⟩, co_X5_init, rfl, ⟨by decide +kernel, by decide +kernel, by decide +kernel⟩, rfl, by decide⟩
theorem dX6_init_0 : decode cX6_init 0 = .ok (.aload_n 0, 1) := by decide +kernel
theorem dX6_init_1 : decode cX6_init 1 = .ok (.invokespecial 3, 3) := by decide +kernel
theorem dX6_init_4 : decode cX6_init 4 = .ok (.aload_n 0, 1) := by decide +kernel
theorem dX6_init_5 : decode cX6_init 5 = .ok (.new 9, 3) := by decide +kernel
theorem dX6_init_8 : decode cX6_init 8 = .ok (.dup, 1) := by decide +kernel
theorem dX6_init_9 : decode cX6_init 9 = .ok (.invokespecial 11, 3) := by decide +kernel
theorem dX6_init_12 : decode cX6_init 12 = .ok (.putfield 12, 3) := by decide +kernel
theorem dX6_init_15 : decode cX6_init 15 = .ok (.aload_n 0, 1) := by decide +kernel
theorem dX6_init_16 : decode cX6_init 16 = .ok (.bipush 20, 2) := by decide +kernel
theorem dX6_init_18 : decode cX6_init 18 = .ok (.anewarray 9, 3) := by decide +kernel
theorem dX6_init_21 : decode cX6_init 21 = .ok (.putfield 18, 3) := by decide +kernel
theorem dX6_init_24 : decode cX6_init 24 = .ok (.aload_n 0, 1) := by decide +kernel
theorem dX6_init_25 : decode cX6_init 25 = .ok (.iconst 4, 1) := by decide +kernel
theorem dX6_init_26 : decode cX6_init 26 = .ok (.anewarray 22, 3) := by decide +kernel
theorem dX6_init_29 : decode cX6_init 29 = .ok (.putfield 24, 3) := by decide +kernel
theorem dX6_init_32 : decode cX6_init 32 = .ok (.aload_n 0, 1) := by decide +kernel
theorem dX6_init_33 : decode cX6_init 33 = .ok (.bipush 32, 2) := by decide +kernel
theorem dX6_init_35 : decode cX6_init 35 = .ok (.newarray .int, 2) := by decide +kernel
theorem dX6_init_37 : decode cX6_init 37 = .ok (.putfield 28, 3) := by decide +kernel
theorem dX6_init_40 : decode cX6_init 40 = .ok (.iconst 0, 1) := by decide +kernel
theorem dX6_init_41 : decode cX6_init 41 = .ok (.istore_n 1, 1) := by decide +kernel
theorem dX6_init_42 : decode cX6_init 42 = .ok (.iload_n 1, 1) := by decide +kernel
theorem dX6_init_43 : decode cX6_init 43 = .ok (.bipush 20, 2) := by decide +kernel
theorem dX6_init_45 : decode cX6_init 45 = .ok (.if_icmp .ge 22, 3) := by decide +kernel
theorem dX6_init_48 : decode cX6_init 48 = .ok (.aload_n 0, 1) := by decide +kernel
theorem dX6_init_49 : decode cX6_init 49 = .ok (.getfield 18, 3) := by decide +kernel
theorem dX6_init_52 : decode cX6_init 52 = .ok (.iload_n 1, 1) := by decide +kernel
theorem dX6_init_53 : decode cX6_init 53 = .ok (.new 9, 3) := by decide +kernel
theorem dX6_init_56 : decode cX6_init 56 = .ok (.dup, 1) := by decide +kernel
theorem dX6_init_57 : decode cX6_init 57 = .ok (.invokespecial 11, 3) := by decide +kernel
theorem dX6_init_60 : decode cX6_init 60 = .ok (.aastore, 1) := by decide +kernel
theorem dX6_init_61 : decode cX6_init 61 = .ok (.iinc 1 1, 3) := by decide +kernel
theorem dX6_init_64 : decode cX6_init 64 = .ok (.goto (-22), 3) := by decide +kernel
theorem dX6_init_67 : decode cX6_init 67 = .ok (.iconst 0, 1) := by decide +kernel
theorem dX6_init_68 : decode cX6_init 68 = .ok (.istore_n 1, 1) := by decide +kernel
theorem dX6_init_69 : decode cX6_init 69 = .ok (.iload_n 1, 1) := by decide +kernel
theorem dX6_init_70 : decode cX6_init 70 = .ok (.iconst 4, 1) := by decide +kernel
theorem dX6_init_71 : decode cX6_init 71 = .ok (.if_icmp .ge 22, 3) := by decide +kernel
theorem dX6_init_74 : decode cX6_init 74 = .ok (.aload_n 0, 1) := by decide +kernel
theorem dX6_init_75 : decode cX6_init 75 = .ok (.getfield 24, 3) := by decide +kernel
theorem dX6_init_78 : decode cX6_init 78 = .ok (.iload_n 1, 1) := by decide +kernel
theorem dX6_init_79 : decode cX6_init 79 = .ok (.new 22, 3) := by decide +kernel
theorem dX6_init_82 : decode cX6_init 82 = .ok (.dup, 1) := by decide +kernel
theorem dX6_init_83 : decode cX6_init 83 = .ok (.invokespecial 32, 3) := by decide +kernel
theorem dX6_init_86 : decode cX6_init 86 = .ok (.aastore, 1) := by decide +kernel
theorem dX6_init_87 : decode cX6_init 87 = .ok (.iinc 1 1, 3) := by decide +kernel
theorem dX6_init_90 : decode cX6_init 90 = .ok (.goto (-21), 3) := by decide +kernel
theorem dX6_init_93 : decode cX6_init 93 = .ok (.return_, 1) := by decide +kernel
theorem oi_X6_3 : Cond.methodLink RX6 3 Lib.objectInit ∈ gU := (gU_mem (List.mem_of_getElem? (i := 190) (by decide +kernel)) rfl)
theorem fk_X6_12 : Cond.fieldLink (gRn 6) 12 (gRn 6) (gTn 6 0).2.1 (gTn 6 0).2.2.1 ∈ gU := (gU_mem (List.mem_of_getElem? (i := 291) (by decide +kernel)) rfl)
theorem fk_X6_18 : Cond.fieldLink (gRn 6) 18 (gRn 6) (gTn 6 1).2.1 (gTn 6 1).2.2.1 ∈ gU := (gU_mem (List.mem_of_getElem? (i := 293) (by decide +kernel)) rfl)
theorem fk_X6_24 : Cond.fieldLink (gRn 6) 24 (gRn 6) (gTn 6 2).2.1 (gTn 6 2).2.2.1 ∈ gU := (gU_mem (List.mem_of_getElem? (i := 294) (by decide +kernel)) rfl)
theorem fk_X6_28 : Cond.fieldLink (gRn 6) 28 (gRn 6) (gTn 6 3).2.1 (gTn 6 3).2.2.1 ∈ gU := (gU_mem (List.mem_of_getElem? (i := 296) (by decide +kernel)) rfl)
theorem dX8_init_0 : decode cX8_init 0 = .ok (.aload_n 0, 1) := by decide +kernel
theorem dX8_init_1 : decode cX8_init 1 = .ok (.invokespecial 1, 3) := by decide +kernel
theorem dX8_init_4 : decode cX8_init 4 = .ok (.aload_n 0, 1) := by decide +kernel
theorem dX8_init_5 : decode cX8_init 5 = .ok (.new 7, 3) := by decide +kernel
theorem dX8_init_8 : decode cX8_init 8 = .ok (.dup, 1) := by decide +kernel
theorem dX8_init_9 : decode cX8_init 9 = .ok (.invokespecial 9, 3) := by decide +kernel
theorem dX8_init_12 : decode cX8_init 12 = .ok (.putfield 10, 3) := by decide +kernel
theorem dX8_init_15 : decode cX8_init 15 = .ok (.aload_n 0, 1) := by decide +kernel
theorem dX8_init_16 : decode cX8_init 16 = .ok (.new 7, 3) := by decide +kernel
theorem dX8_init_19 : decode cX8_init 19 = .ok (.dup, 1) := by decide +kernel
theorem dX8_init_20 : decode cX8_init 20 = .ok (.invokespecial 9, 3) := by decide +kernel
theorem dX8_init_23 : decode cX8_init 23 = .ok (.putfield 16, 3) := by decide +kernel
theorem dX8_init_26 : decode cX8_init 26 = .ok (.aload_n 0, 1) := by decide +kernel
theorem dX8_init_27 : decode cX8_init 27 = .ok (.new 19, 3) := by decide +kernel
theorem dX8_init_30 : decode cX8_init 30 = .ok (.dup, 1) := by decide +kernel
theorem dX8_init_31 : decode cX8_init 31 = .ok (.invokespecial 21, 3) := by decide +kernel
theorem dX8_init_34 : decode cX8_init 34 = .ok (.putfield 22, 3) := by decide +kernel
theorem dX8_init_37 : decode cX8_init 37 = .ok (.aload_n 0, 1) := by decide +kernel
theorem dX8_init_38 : decode cX8_init 38 = .ok (.new 26, 3) := by decide +kernel
theorem dX8_init_41 : decode cX8_init 41 = .ok (.dup, 1) := by decide +kernel
theorem dX8_init_42 : decode cX8_init 42 = .ok (.invokespecial 28, 3) := by decide +kernel
theorem dX8_init_45 : decode cX8_init 45 = .ok (.putfield 29, 3) := by decide +kernel
theorem dX8_init_48 : decode cX8_init 48 = .ok (.aload_n 0, 1) := by decide +kernel
theorem dX8_init_49 : decode cX8_init 49 = .ok (.new 33, 3) := by decide +kernel
theorem dX8_init_52 : decode cX8_init 52 = .ok (.dup, 1) := by decide +kernel
theorem dX8_init_53 : decode cX8_init 53 = .ok (.invokespecial 35, 3) := by decide +kernel
theorem dX8_init_56 : decode cX8_init 56 = .ok (.putfield 36, 3) := by decide +kernel
theorem dX8_init_59 : decode cX8_init 59 = .ok (.aload_n 0, 1) := by decide +kernel
theorem dX8_init_60 : decode cX8_init 60 = .ok (.new 40, 3) := by decide +kernel
theorem dX8_init_63 : decode cX8_init 63 = .ok (.dup, 1) := by decide +kernel
theorem dX8_init_64 : decode cX8_init 64 = .ok (.invokespecial 42, 3) := by decide +kernel
theorem dX8_init_67 : decode cX8_init 67 = .ok (.putfield 43, 3) := by decide +kernel
theorem dX8_init_70 : decode cX8_init 70 = .ok (.aload_n 0, 1) := by decide +kernel
theorem dX8_init_71 : decode cX8_init 71 = .ok (.new 47, 3) := by decide +kernel
theorem dX8_init_74 : decode cX8_init 74 = .ok (.dup, 1) := by decide +kernel
theorem dX8_init_75 : decode cX8_init 75 = .ok (.invokespecial 49, 3) := by decide +kernel
theorem dX8_init_78 : decode cX8_init 78 = .ok (.putfield 50, 3) := by decide +kernel
theorem dX8_init_81 : decode cX8_init 81 = .ok (.aload_n 0, 1) := by decide +kernel
theorem dX8_init_82 : decode cX8_init 82 = .ok (.new 54, 3) := by decide +kernel
theorem dX8_init_85 : decode cX8_init 85 = .ok (.dup, 1) := by decide +kernel
theorem dX8_init_86 : decode cX8_init 86 = .ok (.invokespecial 56, 3) := by decide +kernel
theorem dX8_init_89 : decode cX8_init 89 = .ok (.putfield 57, 3) := by decide +kernel
theorem dX8_init_92 : decode cX8_init 92 = .ok (.aload_n 0, 1) := by decide +kernel
theorem dX8_init_93 : decode cX8_init 93 = .ok (.new 61, 3) := by decide +kernel
theorem dX8_init_96 : decode cX8_init 96 = .ok (.dup, 1) := by decide +kernel
theorem dX8_init_97 : decode cX8_init 97 = .ok (.invokespecial 63, 3) := by decide +kernel
theorem dX8_init_100 : decode cX8_init 100 = .ok (.putfield 64, 3) := by decide +kernel
theorem dX8_init_103 : decode cX8_init 103 = .ok (.aload_n 0, 1) := by decide +kernel
theorem dX8_init_104 : decode cX8_init 104 = .ok (.bipush 32, 2) := by decide +kernel
theorem dX8_init_106 : decode cX8_init 106 = .ok (.newarray .int, 2) := by decide +kernel
theorem dX8_init_108 : decode cX8_init 108 = .ok (.putfield 68, 3) := by decide +kernel
theorem dX8_init_111 : decode cX8_init 111 = .ok (.aload_n 0, 1) := by decide +kernel
theorem dX8_init_112 : decode cX8_init 112 = .ok (.sipush 300, 3) := by decide +kernel
theorem dX8_init_115 : decode cX8_init 115 = .ok (.newarray .int, 2) := by decide +kernel
theorem dX8_init_117 : decode cX8_init 117 = .ok (.putfield 72, 3) := by decide +kernel
theorem dX8_init_120 : decode cX8_init 120 = .ok (.aload_n 0, 1) := by decide +kernel
theorem dX8_init_121 : decode cX8_init 121 = .ok (.iconst (-1), 1) := by decide +kernel
theorem dX8_init_122 : decode cX8_init 122 = .ok (.putfield 75, 3) := by decide +kernel
theorem dX8_init_125 : decode cX8_init 125 = .ok (.aload_n 0, 1) := by decide +kernel
theorem dX8_init_126 : decode cX8_init 126 = .ok (.iconst (-1), 1) := by decide +kernel
theorem dX8_init_127 : decode cX8_init 127 = .ok (.putfield 79, 3) := by decide +kernel
theorem dX8_init_130 : decode cX8_init 130 = .ok (.aload_n 0, 1) := by decide +kernel
theorem dX8_init_131 : decode cX8_init 131 = .ok (.getfield 10, 3) := by decide +kernel
theorem dX8_init_134 : decode cX8_init 134 = .ok (.getfield 82, 3) := by decide +kernel
theorem dX8_init_137 : decode cX8_init 137 = .ok (.invokevirtual 85, 3) := by decide +kernel
theorem dX8_init_140 : decode cX8_init 140 = .ok (.aload_n 0, 1) := by decide +kernel
theorem dX8_init_141 : decode cX8_init 141 = .ok (.getfield 16, 3) := by decide +kernel
theorem dX8_init_144 : decode cX8_init 144 = .ok (.getfield 82, 3) := by decide +kernel
theorem dX8_init_147 : decode cX8_init 147 = .ok (.invokevirtual 85, 3) := by decide +kernel
theorem dX8_init_150 : decode cX8_init 150 = .ok (.return_, 1) := by decide +kernel
theorem oi_X8_1 : Cond.methodLink RX8 1 Lib.objectInit ∈ gU := (gU_mem (List.mem_of_getElem? (i := 182) (by decide +kernel)) rfl)
theorem fk_X8_10 : Cond.fieldLink (gRn 8) 10 (gRn 8) (gTn 8 0).2.1 (gTn 8 0).2.2.1 ∈ gU := (gU_mem (List.mem_of_getElem? (i := 470) (by decide +kernel)) rfl)
theorem fk_X8_16 : Cond.fieldLink (gRn 8) 16 (gRn 8) (gTn 8 1).2.1 (gTn 8 1).2.2.1 ∈ gU := (gU_mem (List.mem_of_getElem? (i := 471) (by decide +kernel)) rfl)
theorem fk_X8_22 : Cond.fieldLink (gRn 8) 22 (gRn 8) (gTn 8 2).2.1 (gTn 8 2).2.2.1 ∈ gU := (gU_mem (List.mem_of_getElem? (i := 472) (by decide +kernel)) rfl)
theorem fk_X8_29 : Cond.fieldLink (gRn 8) 29 (gRn 8) (gTn 8 3).2.1 (gTn 8 3).2.2.1 ∈ gU := (gU_mem (List.mem_of_getElem? (i := 473) (by decide +kernel)) rfl)
theorem fk_X8_36 : Cond.fieldLink (gRn 8) 36 (gRn 8) (gTn 8 4).2.1 (gTn 8 4).2.2.1 ∈ gU := (gU_mem (List.mem_of_getElem? (i := 474) (by decide +kernel)) rfl)
theorem fk_X8_43 : Cond.fieldLink (gRn 8) 43 (gRn 8) (gTn 8 5).2.1 (gTn 8 5).2.2.1 ∈ gU := (gU_mem (List.mem_of_getElem? (i := 475) (by decide +kernel)) rfl)
theorem fk_X8_50 : Cond.fieldLink (gRn 8) 50 (gRn 8) (gTn 8 6).2.1 (gTn 8 6).2.2.1 ∈ gU := (gU_mem (List.mem_of_getElem? (i := 476) (by decide +kernel)) rfl)
theorem fk_X8_57 : Cond.fieldLink (gRn 8) 57 (gRn 8) (gTn 8 7).2.1 (gTn 8 7).2.2.1 ∈ gU := (gU_mem (List.mem_of_getElem? (i := 477) (by decide +kernel)) rfl)
theorem fk_X8_64 : Cond.fieldLink (gRn 8) 64 (gRn 8) (gTn 8 8).2.1 (gTn 8 8).2.2.1 ∈ gU := (gU_mem (List.mem_of_getElem? (i := 478) (by decide +kernel)) rfl)
theorem fk_X8_68 : Cond.fieldLink (gRn 8) 68 (gRn 8) (gTn 8 9).2.1 (gTn 8 9).2.2.1 ∈ gU := (gU_mem (List.mem_of_getElem? (i := 479) (by decide +kernel)) rfl)
theorem fk_X8_72 : Cond.fieldLink (gRn 8) 72 (gRn 8) (gTn 8 10).2.1 (gTn 8 10).2.2.1 ∈ gU := (gU_mem (List.mem_of_getElem? (i := 480) (by decide +kernel)) rfl)
theorem fk_X8_75 : Cond.fieldLink (gRn 8) 75 (gRn 8) (gTn 8 12).2.1 (gTn 8 12).2.2.1 ∈ gU := (gU_mem (List.mem_of_getElem? (i := 482) (by decide +kernel)) rfl)
theorem fk_X8_79 : Cond.fieldLink (gRn 8) 79 (gRn 8) (gTn 8 13).2.1 (gTn 8 13).2.2.1 ∈ gU := (gU_mem (List.mem_of_getElem? (i := 483) (by decide +kernel)) rfl)
theorem cl_6_9 : Cond.classLink RX6 9 (gRn 3) ∈ gU := (gU_mem (List.mem_of_getElem? (i := 191) (by decide +kernel)) rfl)
theorem cl_6_22 : Cond.classLink RX6 22 (gRn 5) ∈ gU := (gU_mem (List.mem_of_getElem? (i := 264) (by decide +kernel)) rfl)
theorem MkS_new {S : List CD} {ci : Nat} {fs0 fs : List CV} {arrs : List CD} : MkS (S ++ [.inr (ci, fs0)]) S.length ci fs arrs = S ++ (.inr (ci, fs) :: arrs) := by
  unfold MkS
  rw [List.set_append_right _ _ (Nat.le_refl _), Nat.sub_self]
  simp
/-- a new object of a kind that makes nc cells with ns places for itself -/
theorem cr_mk {X : cX} {own : String} {cc : ByteArray} {r : Nat × Nat × Nat} {nL : Nat} (C : cC X own cc r nL) {S' : cG → Array Value → State → Outcome → State → Prop} {S : List CD} {pc p1 p2 p3 n idx ci nL' nf nc ns cells slots : Nat} {y : MethodName} {cc' : ByteArray} {lv : List (Nat × Value)} {st : List Value} {f : Nat → List CV} {arrs : Nat → List CD} (K : gNK own n idx ci y cc' nL') (hcon : ∀ (S : List CD) (i : Nat), S[i]? = some (.inr (ci, cdef ci)) → gConC y cc' nL' (nf, nc, ns) i S (MkS S i ci (f S.length) (arrs S.length))) (hnl : nL' ≤ 17) (hfr : nf + 1 ≤ r.1) (hst : st.length ≤ 3) (hcat : ∀ v ∈ st, v.category ≤ 2) (hc : cells + 1 + nc ≤ r.2.1) (hs : slots + gnf ci + ns ≤ r.2.2) (d0 : decode cc pc = .ok (.new n, 3)) (e1 : pc + 3 = p1) (d1 : decode cc p1 = .ok (.dup, 1)) (e2 : p1 + 1 = p2) (d2 : decode cc p2 = .ok (.invokespecial idx, 3)) (e3 : p2 + 3 = p3) (k : cW X S' p3 lv (.ref ((xG X).2.2 + S.length) :: st) (S ++ (.inr (ci, f (S.length + 1)) :: arrs (S.length + 1))) (cells + 1 + nc) (slots + gnf ci + ns)) : cW X S' pc lv st S cells slots := by
  subst e1 e2 e3
  obtain ⟨k1, k2, k3, k4, k5, k6, k7, k8, k9, k10⟩ := K
  refine cr_new C k10 k1 k2 k3 (by omega) (by omega) d0 ?_
  refine cr_dup C d1 ?_
  have hg : (S ++ [(.inr (ci, cdef ci) : CD)])[S.length]? = some (.inr (ci, cdef ci)) := by
    rw [List.getElem?_append_right (Nat.le_refl _), Nat.sub_self]; rfl
  refine cr_call C (hcon _ _ hg) k6 k7 k8 (by rw [k9]; exact k3) k4 k5 hfr hnl (by simpa using hst) (fun v hv => ?_) hc hs d2 ?_
  · rcases List.mem_cons.mp hv with h | h
    · rw [h]; exact Nat.le_succ 1
    · exact hcat v h
  · rw [MkS_new, List.length_append]
    exact k
