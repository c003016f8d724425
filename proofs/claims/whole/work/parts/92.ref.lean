/-! LAYER 3: making: the reference, up to its first write (written by gen/gen_make4.py). -/
theorem dX9_init_0 : decode cX9_init 0 = .ok (.aload_n 0, 1) := by decide +kernel
theorem dX9_init_1 : decode cX9_init 1 = .ok (.invokespecial 1, 3) := by decide +kernel
theorem dX9_init_4 : decode cX9_init 4 = .ok (.aload_n 0, 1) := by decide +kernel
theorem dX9_init_5 : decode cX9_init 5 = .ok (.sipush 30843, 3) := by decide +kernel
theorem dX9_init_8 : decode cX9_init 8 = .ok (.newarray .int, 2) := by decide +kernel
theorem dX9_init_10 : decode cX9_init 10 = .ok (.putfield 7, 3) := by decide +kernel
theorem dX9_init_13 : decode cX9_init 13 = .ok (.aload_n 0, 1) := by decide +kernel
theorem dX9_init_14 : decode cX9_init 14 = .ok (.sipush 30843, 3) := by decide +kernel
theorem dX9_init_17 : decode cX9_init 17 = .ok (.newarray .int, 2) := by decide +kernel
theorem dX9_init_19 : decode cX9_init 19 = .ok (.putfield 13, 3) := by decide +kernel
theorem dX9_init_22 : decode cX9_init 22 = .ok (.aload_n 0, 1) := by decide +kernel
theorem dX9_init_23 : decode cX9_init 23 = .ok (.sipush 4804, 3) := by decide +kernel
theorem dX9_init_26 : decode cX9_init 26 = .ok (.newarray .int, 2) := by decide +kernel
theorem dX9_init_28 : decode cX9_init 28 = .ok (.putfield 16, 3) := by decide +kernel
theorem dX9_init_31 : decode cX9_init 31 = .ok (.aload_n 0, 1) := by decide +kernel
theorem dX9_init_32 : decode cX9_init 32 = .ok (.sipush 300, 3) := by decide +kernel
theorem dX9_init_35 : decode cX9_init 35 = .ok (.newarray .int, 2) := by decide +kernel
theorem dX9_init_37 : decode cX9_init 37 = .ok (.putfield 19, 3) := by decide +kernel
theorem dX9_init_40 : decode cX9_init 40 = .ok (.aload_n 0, 1) := by decide +kernel
theorem dX9_init_41 : decode cX9_init 41 = .ok (.iconst (-1), 1) := by decide +kernel
theorem dX9_init_42 : decode cX9_init 42 = .ok (.putfield 22, 3) := by decide +kernel
theorem dX9_init_45 : decode cX9_init 45 = .ok (.aload_n 0, 1) := by decide +kernel
theorem dX9_init_46 : decode cX9_init 46 = .ok (.iconst (-1), 1) := by decide +kernel
theorem dX9_init_47 : decode cX9_init 47 = .ok (.putfield 26, 3) := by decide +kernel
theorem dX9_init_50 : decode cX9_init 50 = .ok (.aload_n 0, 1) := by decide +kernel
theorem dX9_init_51 : decode cX9_init 51 = .ok (.iconst 4, 1) := by decide +kernel
theorem dX9_init_52 : decode cX9_init 52 = .ok (.newarray .int, 2) := by decide +kernel
theorem dX9_init_54 : decode cX9_init 54 = .ok (.putfield 29, 3) := by decide +kernel
theorem dX9_init_57 : decode cX9_init 57 = .ok (.aload_n 0, 1) := by decide +kernel
theorem dX9_init_58 : decode cX9_init 58 = .ok (.bipush 64, 2) := by decide +kernel
theorem dX9_init_60 : decode cX9_init 60 = .ok (.newarray .int, 2) := by decide +kernel
theorem dX9_init_62 : decode cX9_init 62 = .ok (.putfield 32, 3) := by decide +kernel
theorem dX9_init_65 : decode cX9_init 65 = .ok (.aload_n 0, 1) := by decide +kernel
theorem dX9_init_66 : decode cX9_init 66 = .ok (.bipush 64, 2) := by decide +kernel
theorem dX9_init_68 : decode cX9_init 68 = .ok (.newarray .int, 2) := by decide +kernel
theorem dX9_init_70 : decode cX9_init 70 = .ok (.putfield 35, 3) := by decide +kernel
theorem dX9_init_73 : decode cX9_init 73 = .ok (.aload_n 0, 1) := by decide +kernel
theorem dX9_init_74 : decode cX9_init 74 = .ok (.bipush 64, 2) := by decide +kernel
theorem dX9_init_76 : decode cX9_init 76 = .ok (.newarray .boolean, 2) := by decide +kernel
theorem dX9_init_78 : decode cX9_init 78 = .ok (.putfield 38, 3) := by decide +kernel
theorem dX9_init_81 : decode cX9_init 81 = .ok (.aload_n 0, 1) := by decide +kernel
theorem dX9_init_82 : decode cX9_init 82 = .ok (.bipush 10, 2) := by decide +kernel
theorem dX9_init_84 : decode cX9_init 84 = .ok (.newarray .int, 2) := by decide +kernel
theorem dX9_init_86 : decode cX9_init 86 = .ok (.putfield 42, 3) := by decide +kernel
theorem dX9_init_89 : decode cX9_init 89 = .ok (.aload_n 0, 1) := by decide +kernel
theorem dX9_init_90 : decode cX9_init 90 = .ok (.sipush 1467, 3) := by decide +kernel
theorem dX9_init_93 : decode cX9_init 93 = .ok (.newarray .int, 2) := by decide +kernel
theorem dX9_init_95 : decode cX9_init 95 = .ok (.putfield 45, 3) := by decide +kernel
theorem dX9_init_98 : decode cX9_init 98 = .ok (.aload_n 0, 1) := by decide +kernel
theorem dX9_init_99 : decode cX9_init 99 = .ok (.bipush 16, 2) := by decide +kernel
theorem dX9_init_101 : decode cX9_init 101 = .ok (.newarray .int, 2) := by decide +kernel
theorem dX9_init_103 : decode cX9_init 103 = .ok (.putfield 48, 3) := by decide +kernel
theorem dX9_init_106 : decode cX9_init 106 = .ok (.aload_n 0, 1) := by decide +kernel
theorem dX9_init_107 : decode cX9_init 107 = .ok (.bipush 64, 2) := by decide +kernel
theorem dX9_init_109 : decode cX9_init 109 = .ok (.newarray .int, 2) := by decide +kernel
theorem dX9_init_111 : decode cX9_init 111 = .ok (.putfield 51, 3) := by decide +kernel
theorem dX9_init_114 : decode cX9_init 114 = .ok (.aload_n 0, 1) := by decide +kernel
theorem dX9_init_115 : decode cX9_init 115 = .ok (.bipush 64, 2) := by decide +kernel
theorem dX9_init_117 : decode cX9_init 117 = .ok (.newarray .int, 2) := by decide +kernel
theorem dX9_init_119 : decode cX9_init 119 = .ok (.putfield 54, 3) := by decide +kernel
theorem dX9_init_122 : decode cX9_init 122 = .ok (.aload_n 0, 1) := by decide +kernel
theorem dX9_init_123 : decode cX9_init 123 = .ok (.bipush 64, 2) := by decide +kernel
theorem dX9_init_125 : decode cX9_init 125 = .ok (.newarray .int, 2) := by decide +kernel
theorem dX9_init_127 : decode cX9_init 127 = .ok (.putfield 57, 3) := by decide +kernel
theorem dX9_init_130 : decode cX9_init 130 = .ok (.aload_n 0, 1) := by decide +kernel
theorem dX9_init_131 : decode cX9_init 131 = .ok (.bipush 64, 2) := by decide +kernel
theorem dX9_init_133 : decode cX9_init 133 = .ok (.newarray .int, 2) := by decide +kernel
theorem dX9_init_135 : decode cX9_init 135 = .ok (.putfield 60, 3) := by decide +kernel
theorem dX9_init_138 : decode cX9_init 138 = .ok (.aload_n 0, 1) := by decide +kernel
theorem dX9_init_139 : decode cX9_init 139 = .ok (.bipush 64, 2) := by decide +kernel
theorem dX9_init_141 : decode cX9_init 141 = .ok (.newarray .int, 2) := by decide +kernel
theorem dX9_init_143 : decode cX9_init 143 = .ok (.putfield 63, 3) := by decide +kernel
theorem dX9_init_146 : decode cX9_init 146 = .ok (.aload_n 0, 1) := by decide +kernel
theorem dX9_init_147 : decode cX9_init 147 = .ok (.bipush 64, 2) := by decide +kernel
theorem dX9_init_149 : decode cX9_init 149 = .ok (.newarray .int, 2) := by decide +kernel
theorem dX9_init_151 : decode cX9_init 151 = .ok (.putfield 66, 3) := by decide +kernel
theorem dX9_init_154 : decode cX9_init 154 = .ok (.aload_n 0, 1) := by decide +kernel
theorem dX9_init_155 : decode cX9_init 155 = .ok (.getfield 7, 3) := by decide +kernel
theorem dX9_init_158 : decode cX9_init 158 = .ok (.bipush 36, 2) := by decide +kernel
theorem dX9_init_160 : decode cX9_init 160 = .ok (.iconst 2, 1) := by decide +kernel
theorem dX9_init_161 : decode cX9_init 161 = .ok (.iastore, 1) := by decide +kernel
theorem dX9_init_162 : decode cX9_init 162 = .ok (.aload_n 0, 1) := by decide +kernel
theorem dX9_init_163 : decode cX9_init 163 = .ok (.getfield 7, 3) := by decide +kernel
theorem dX9_init_166 : decode cX9_init 166 = .ok (.bipush 37, 2) := by decide +kernel
theorem dX9_init_168 : decode cX9_init 168 = .ok (.iconst 2, 1) := by decide +kernel
theorem dX9_init_169 : decode cX9_init 169 = .ok (.iastore, 1) := by decide +kernel
theorem dX9_init_170 : decode cX9_init 170 = .ok (.aload_n 0, 1) := by decide +kernel
theorem dX9_init_171 : decode cX9_init 171 = .ok (.getfield 7, 3) := by decide +kernel
theorem dX9_init_174 : decode cX9_init 174 = .ok (.bipush 44, 2) := by decide +kernel
theorem dX9_init_176 : decode cX9_init 176 = .ok (.sipush 431, 3) := by decide +kernel
theorem dX9_init_179 : decode cX9_init 179 = .ok (.iastore, 1) := by decide +kernel
theorem dX9_init_180 : decode cX9_init 180 = .ok (.iconst 0, 1) := by decide +kernel
theorem dX9_init_181 : decode cX9_init 181 = .ok (.istore_n 1, 1) := by decide +kernel
theorem dX9_init_182 : decode cX9_init 182 = .ok (.iload_n 1, 1) := by decide +kernel
theorem dX9_init_183 : decode cX9_init 183 = .ok (.sipush 1024, 3) := by decide +kernel
theorem dX9_init_186 : decode cX9_init 186 = .ok (.if_icmp .ge 26, 3) := by decide +kernel
theorem dX9_init_189 : decode cX9_init 189 = .ok (.aload_n 0, 1) := by decide +kernel
theorem dX9_init_190 : decode cX9_init 190 = .ok (.getfield 7, 3) := by decide +kernel
theorem dX9_init_193 : decode cX9_init 193 = .ok (.sipush 383, 3) := by decide +kernel
theorem dX9_init_196 : decode cX9_init 196 = .ok (.iload_n 1, 1) := by decide +kernel
theorem dX9_init_197 : decode cX9_init 197 = .ok (.iadd, 1) := by decide +kernel
theorem dX9_init_198 : decode cX9_init 198 = .ok (.iload_n 1, 1) := by decide +kernel
theorem dX9_init_199 : decode cX9_init 199 = .ok (.bipush 7, 2) := by decide +kernel
theorem dX9_init_201 : decode cX9_init 201 = .ok (.imul, 1) := by decide +kernel
theorem dX9_init_202 : decode cX9_init 202 = .ok (.bipush 100, 2) := by decide +kernel
theorem dX9_init_204 : decode cX9_init 204 = .ok (.irem, 1) := by decide +kernel
theorem dX9_init_205 : decode cX9_init 205 = .ok (.iastore, 1) := by decide +kernel
theorem dX9_init_206 : decode cX9_init 206 = .ok (.iinc 1 1, 3) := by decide +kernel
theorem dX9_init_209 : decode cX9_init 209 = .ok (.goto (-27), 3) := by decide +kernel
theorem dX9_init_212 : decode cX9_init 212 = .ok (.aload_n 0, 1) := by decide +kernel
theorem dX9_init_213 : decode cX9_init 213 = .ok (.iconst 0, 1) := by decide +kernel
theorem dX9_init_214 : decode cX9_init 214 = .ok (.invokevirtual 69, 3) := by decide +kernel
theorem dX9_init_217 : decode cX9_init 217 = .ok (.aload_n 0, 1) := by decide +kernel
theorem dX9_init_218 : decode cX9_init 218 = .ok (.getfield 7, 3) := by decide +kernel
theorem dX9_init_221 : decode cX9_init 221 = .ok (.aload_n 0, 1) := by decide +kernel
theorem dX9_init_222 : decode cX9_init 222 = .ok (.getfield 13, 3) := by decide +kernel
theorem dX9_init_225 : decode cX9_init 225 = .ok (.invokestatic 73, 3) := by decide +kernel
theorem dX9_init_228 : decode cX9_init 228 = .ok (.return_, 1) := by decide +kernel
theorem oi_X9_1 : Cond.methodLink RX9 1 Lib.objectInit ∈ gU := (gU_mem (List.mem_of_getElem? (i := 1259) (by decide +kernel)) rfl)
theorem fk_X9_7 : Cond.fieldLink (gRn 9) 7 (gRn 9) (gTn 9 0).2.1 (gTn 9 0).2.2.1 ∈ gU := (gU_mem (List.mem_of_getElem? (i := 1278) (by decide +kernel)) rfl)
def b_X9_1 : List CD := [] ++ [.inl (0, 30843, none)]
theorem fk_X9_13 : Cond.fieldLink (gRn 9) 13 (gRn 9) (gTn 9 1).2.1 (gTn 9 1).2.2.1 ∈ gU := (gU_mem (List.mem_of_getElem? (i := 1279) (by decide +kernel)) rfl)
def b_X9_2 : List CD := b_X9_1 ++ [.inl (0, 30843, none)]
theorem fk_X9_16 : Cond.fieldLink (gRn 9) 16 (gRn 9) (gTn 9 2).2.1 (gTn 9 2).2.2.1 ∈ gU := (gU_mem (List.mem_of_getElem? (i := 1280) (by decide +kernel)) rfl)
def b_X9_3 : List CD := b_X9_2 ++ [.inl (0, 4804, none)]
theorem fk_X9_19 : Cond.fieldLink (gRn 9) 19 (gRn 9) (gTn 9 3).2.1 (gTn 9 3).2.2.1 ∈ gU := (gU_mem (List.mem_of_getElem? (i := 1281) (by decide +kernel)) rfl)
def b_X9_4 : List CD := b_X9_3 ++ [.inl (0, 300, none)]
theorem fk_X9_22 : Cond.fieldLink (gRn 9) 22 (gRn 9) (gTn 9 5).2.1 (gTn 9 5).2.2.1 ∈ gU := (gU_mem (List.mem_of_getElem? (i := 1283) (by decide +kernel)) rfl)
theorem fk_X9_26 : Cond.fieldLink (gRn 9) 26 (gRn 9) (gTn 9 6).2.1 (gTn 9 6).2.2.1 ∈ gU := (gU_mem (List.mem_of_getElem? (i := 1284) (by decide +kernel)) rfl)
theorem fk_X9_29 : Cond.fieldLink (gRn 9) 29 (gRn 9) (gTn 9 13).2.1 (gTn 9 13).2.2.1 ∈ gU := (gU_mem (List.mem_of_getElem? (i := 1291) (by decide +kernel)) rfl)
def b_X9_5 : List CD := b_X9_4 ++ [.inl (0, 4, none)]
theorem fk_X9_32 : Cond.fieldLink (gRn 9) 32 (gRn 9) (gTn 9 15).2.1 (gTn 9 15).2.2.1 ∈ gU := (gU_mem (List.mem_of_getElem? (i := 1293) (by decide +kernel)) rfl)
def b_X9_6 : List CD := b_X9_5 ++ [.inl (0, 64, none)]
theorem fk_X9_35 : Cond.fieldLink (gRn 9) 35 (gRn 9) (gTn 9 16).2.1 (gTn 9 16).2.2.1 ∈ gU := (gU_mem (List.mem_of_getElem? (i := 1294) (by decide +kernel)) rfl)
def b_X9_7 : List CD := b_X9_6 ++ [.inl (0, 64, none)]
theorem fk_X9_38 : Cond.fieldLink (gRn 9) 38 (gRn 9) (gTn 9 17).2.1 (gTn 9 17).2.2.1 ∈ gU := (gU_mem (List.mem_of_getElem? (i := 1295) (by decide +kernel)) rfl)
def b_X9_8 : List CD := b_X9_7 ++ [.inl (1, 64, none)]
theorem fk_X9_42 : Cond.fieldLink (gRn 9) 42 (gRn 9) (gTn 9 19).2.1 (gTn 9 19).2.2.1 ∈ gU := (gU_mem (List.mem_of_getElem? (i := 1297) (by decide +kernel)) rfl)
def b_X9_9 : List CD := b_X9_8 ++ [.inl (0, 10, none)]
theorem fk_X9_45 : Cond.fieldLink (gRn 9) 45 (gRn 9) (gTn 9 20).2.1 (gTn 9 20).2.2.1 ∈ gU := (gU_mem (List.mem_of_getElem? (i := 1298) (by decide +kernel)) rfl)
def b_X9_10 : List CD := b_X9_9 ++ [.inl (0, 1467, none)]
theorem fk_X9_48 : Cond.fieldLink (gRn 9) 48 (gRn 9) (gTn 9 21).2.1 (gTn 9 21).2.2.1 ∈ gU := (gU_mem (List.mem_of_getElem? (i := 1299) (by decide +kernel)) rfl)
def b_X9_11 : List CD := b_X9_10 ++ [.inl (0, 16, none)]
theorem fk_X9_51 : Cond.fieldLink (gRn 9) 51 (gRn 9) (gTn 9 24).2.1 (gTn 9 24).2.2.1 ∈ gU := (gU_mem (List.mem_of_getElem? (i := 1302) (by decide +kernel)) rfl)
def b_X9_12 : List CD := b_X9_11 ++ [.inl (0, 64, none)]
theorem fk_X9_54 : Cond.fieldLink (gRn 9) 54 (gRn 9) (gTn 9 25).2.1 (gTn 9 25).2.2.1 ∈ gU := (gU_mem (List.mem_of_getElem? (i := 1303) (by decide +kernel)) rfl)
def b_X9_13 : List CD := b_X9_12 ++ [.inl (0, 64, none)]
theorem fk_X9_57 : Cond.fieldLink (gRn 9) 57 (gRn 9) (gTn 9 26).2.1 (gTn 9 26).2.2.1 ∈ gU := (gU_mem (List.mem_of_getElem? (i := 1304) (by decide +kernel)) rfl)
def b_X9_14 : List CD := b_X9_13 ++ [.inl (0, 64, none)]
theorem fk_X9_60 : Cond.fieldLink (gRn 9) 60 (gRn 9) (gTn 9 27).2.1 (gTn 9 27).2.2.1 ∈ gU := (gU_mem (List.mem_of_getElem? (i := 1305) (by decide +kernel)) rfl)
def b_X9_15 : List CD := b_X9_14 ++ [.inl (0, 64, none)]
theorem fk_X9_63 : Cond.fieldLink (gRn 9) 63 (gRn 9) (gTn 9 28).2.1 (gTn 9 28).2.2.1 ∈ gU := (gU_mem (List.mem_of_getElem? (i := 1306) (by decide +kernel)) rfl)
def b_X9_16 : List CD := b_X9_15 ++ [.inl (0, 64, none)]
theorem fk_X9_66 : Cond.fieldLink (gRn 9) 66 (gRn 9) (gTn 9 29).2.1 (gTn 9 29).2.2.1 ∈ gU := (gU_mem (List.mem_of_getElem? (i := 1307) (by decide +kernel)) rfl)
def b_X9_17 : List CD := b_X9_16 ++ [.inl (0, 64, none)]
def f_X9 : List CV := [.inl (some 1), .inl (some 2), .inl (some 3), .inl (some 4), .inr 0, .inr (-1), .inr (-1), .inr 0, .inr 0, .inr 0, .inr 0, .inr 0, .inr 0, .inl (some 5), .inr 0, .inl (some 6), .inl (some 7), .inl (some 8), .inr 0, .inl (some 9), .inl (some 10), .inl (some 11), .inr 0, .inr 0, .inl (some 12), .inl (some 13), .inl (some 14), .inl (some 15), .inl (some 16), .inl (some 17), .inr 0]
def CX9 : List CD := .inr (9, f_X9) :: b_X9_17
theorem x9_made {X : cX} (C : cC X RX9 cX9_init (3, 17, 68863) 2) {S' : cG → Array Value → State → Outcome → State → Prop} (k : cW X S' 154 [(0, .ref ((xG X).2.2 + 0))] [] CX9 17 68863) : cW X S' 0 [(0, .ref ((xG X).2.2 + 0))] [] [.inr (9, cdef 9)] 0 0 := by
  refine cr_aload C (q := 0) rfl dX9_init_0 ?_
  refine cr_obj C oi_X9_1 oi_inst oi_code (by decide) dX9_init_1 ?_
  suffices h : cW X S' 4 [(0, .ref ((xG X).2.2 + 0))] [] (MkS [.inr (9, cdef 9)] 0 9 (cdef 9) []) 0 0 from h
  refine cr_fld C (ci := 9) (pc := 4) (p1 := 5) (p2 := 8) (p3 := 10) (p4 := 13) (q := 0) (j := 0) (c := 0) (N := 30843) Nat.one_pos rfl dX9_init_4 rfl (fun _ _ _ _ => cr_sipush C dX9_init_5 (by decide)) dX9_init_8 rfl dX9_init_10 rfl fl_X9_7 fk_X9_7 (by first | (simp only [List.length_set]; decide) | decide) (fun _ => rfl) (fun _ => rfl) (Or.inl ⟨rfl, rfl, ac_int⟩) (Nat.le_of_ble_eq_true rfl) (Nat.le_of_ble_eq_true rfl) (Nat.le_of_ble_eq_true rfl) ?_
  rw [show ([(.inr (9, cdef 9) : CD)].length + ([] : List CD).length) = 1 from by decide +kernel, show [] ++ [.inl (0, 30843, none)] = b_X9_1 from rfl]
  refine cr_fld C (ci := 9) (pc := 13) (p1 := 14) (p2 := 17) (p3 := 19) (p4 := 22) (q := 0) (j := 1) (c := 0) (N := 30843) Nat.one_pos rfl dX9_init_13 rfl (fun _ _ _ _ => cr_sipush C dX9_init_14 (by decide)) dX9_init_17 rfl dX9_init_19 rfl fl_X9_13 fk_X9_13 (by first | (simp only [List.length_set]; decide) | decide) (fun _ => rfl) (fun _ => rfl) (Or.inl ⟨rfl, rfl, ac_int⟩) (Nat.le_of_ble_eq_true rfl) (Nat.le_of_ble_eq_true rfl) (Nat.le_of_ble_eq_true rfl) ?_
  rw [show ([(.inr (9, cdef 9) : CD)].length + b_X9_1.length) = 2 from by decide +kernel, show b_X9_1 ++ [.inl (0, 30843, none)] = b_X9_2 from rfl]
  refine cr_fld C (ci := 9) (pc := 22) (p1 := 23) (p2 := 26) (p3 := 28) (p4 := 31) (q := 0) (j := 2) (c := 0) (N := 4804) Nat.one_pos rfl dX9_init_22 rfl (fun _ _ _ _ => cr_sipush C dX9_init_23 (by decide)) dX9_init_26 rfl dX9_init_28 rfl fl_X9_16 fk_X9_16 (by first | (simp only [List.length_set]; decide) | decide) (fun _ => rfl) (fun _ => rfl) (Or.inl ⟨rfl, rfl, ac_int⟩) (Nat.le_of_ble_eq_true rfl) (Nat.le_of_ble_eq_true rfl) (Nat.le_of_ble_eq_true rfl) ?_
  rw [show ([(.inr (9, cdef 9) : CD)].length + b_X9_2.length) = 3 from by decide +kernel, show b_X9_2 ++ [.inl (0, 4804, none)] = b_X9_3 from rfl]
  refine cr_fld C (ci := 9) (pc := 31) (p1 := 32) (p2 := 35) (p3 := 37) (p4 := 40) (q := 0) (j := 3) (c := 0) (N := 300) Nat.one_pos rfl dX9_init_31 rfl (fun _ _ _ _ => cr_sipush C dX9_init_32 (by decide)) dX9_init_35 rfl dX9_init_37 rfl fl_X9_19 fk_X9_19 (by first | (simp only [List.length_set]; decide) | decide) (fun _ => rfl) (fun _ => rfl) (Or.inl ⟨rfl, rfl, ac_int⟩) (Nat.le_of_ble_eq_true rfl) (Nat.le_of_ble_eq_true rfl) (Nat.le_of_ble_eq_true rfl) ?_
  rw [show ([(.inr (9, cdef 9) : CD)].length + b_X9_3.length) = 4 from by decide +kernel, show b_X9_3 ++ [.inl (0, 300, none)] = b_X9_4 from rfl]
  refine cr_fint C (ci := 9) (v := -1) (pc := 40) (p0 := 41) (p1 := 42) (p2 := 45) (q := 0) (j := 5) Nat.one_pos rfl dX9_init_40 rfl dX9_init_41 (by decide) rfl dX9_init_42 rfl fl_X9_22 fk_X9_22 (by simp only [List.length_set]; decide) rfl rfl ?_
  refine cr_fint C (ci := 9) (v := -1) (pc := 45) (p0 := 46) (p1 := 47) (p2 := 50) (q := 0) (j := 6) Nat.one_pos rfl dX9_init_45 rfl dX9_init_46 (by decide) rfl dX9_init_47 rfl fl_X9_26 fk_X9_26 (by simp only [List.length_set]; decide) rfl rfl ?_
  refine cr_fld C (ci := 9) (pc := 50) (p1 := 51) (p2 := 52) (p3 := 54) (p4 := 57) (q := 0) (j := 13) (c := 0) (N := 4) Nat.one_pos rfl dX9_init_50 rfl (fun _ _ _ _ => cr_iconst C dX9_init_51 (by decide)) dX9_init_52 rfl dX9_init_54 rfl fl_X9_29 fk_X9_29 (by first | (simp only [List.length_set]; decide) | decide) (fun _ => rfl) (fun _ => rfl) (Or.inl ⟨rfl, rfl, ac_int⟩) (Nat.le_of_ble_eq_true rfl) (Nat.le_of_ble_eq_true rfl) (Nat.le_of_ble_eq_true rfl) ?_
  rw [show ([(.inr (9, cdef 9) : CD)].length + b_X9_4.length) = 5 from by decide +kernel, show b_X9_4 ++ [.inl (0, 4, none)] = b_X9_5 from rfl]
  refine cr_fld C (ci := 9) (pc := 57) (p1 := 58) (p2 := 60) (p3 := 62) (p4 := 65) (q := 0) (j := 15) (c := 0) (N := 64) Nat.one_pos rfl dX9_init_57 rfl (fun _ _ _ _ => cr_bipush C dX9_init_58 (by decide)) dX9_init_60 rfl dX9_init_62 rfl fl_X9_32 fk_X9_32 (by first | (simp only [List.length_set]; decide) | decide) (fun _ => rfl) (fun _ => rfl) (Or.inl ⟨rfl, rfl, ac_int⟩) (Nat.le_of_ble_eq_true rfl) (Nat.le_of_ble_eq_true rfl) (Nat.le_of_ble_eq_true rfl) ?_
  rw [show ([(.inr (9, cdef 9) : CD)].length + b_X9_5.length) = 6 from by decide +kernel, show b_X9_5 ++ [.inl (0, 64, none)] = b_X9_6 from rfl]
  refine cr_fld C (ci := 9) (pc := 65) (p1 := 66) (p2 := 68) (p3 := 70) (p4 := 73) (q := 0) (j := 16) (c := 0) (N := 64) Nat.one_pos rfl dX9_init_65 rfl (fun _ _ _ _ => cr_bipush C dX9_init_66 (by decide)) dX9_init_68 rfl dX9_init_70 rfl fl_X9_35 fk_X9_35 (by first | (simp only [List.length_set]; decide) | decide) (fun _ => rfl) (fun _ => rfl) (Or.inl ⟨rfl, rfl, ac_int⟩) (Nat.le_of_ble_eq_true rfl) (Nat.le_of_ble_eq_true rfl) (Nat.le_of_ble_eq_true rfl) ?_
  rw [show ([(.inr (9, cdef 9) : CD)].length + b_X9_6.length) = 7 from by decide +kernel, show b_X9_6 ++ [.inl (0, 64, none)] = b_X9_7 from rfl]
  refine cr_fld C (ci := 9) (pc := 73) (p1 := 74) (p2 := 76) (p3 := 78) (p4 := 81) (q := 0) (j := 17) (c := 1) (N := 64) Nat.one_pos rfl dX9_init_73 rfl (fun _ _ _ _ => cr_bipush C dX9_init_74 (by decide)) dX9_init_76 rfl dX9_init_78 rfl fl_X9_38 fk_X9_38 (by first | (simp only [List.length_set]; decide) | decide) (fun _ => rfl) (fun _ => rfl) (Or.inr ⟨rfl, rfl, ac_bool⟩) (Nat.le_of_ble_eq_true rfl) (Nat.le_of_ble_eq_true rfl) (Nat.le_of_ble_eq_true rfl) ?_
  rw [show ([(.inr (9, cdef 9) : CD)].length + b_X9_7.length) = 8 from by decide +kernel, show b_X9_7 ++ [.inl (1, 64, none)] = b_X9_8 from rfl]
  refine cr_fld C (ci := 9) (pc := 81) (p1 := 82) (p2 := 84) (p3 := 86) (p4 := 89) (q := 0) (j := 19) (c := 0) (N := 10) Nat.one_pos rfl dX9_init_81 rfl (fun _ _ _ _ => cr_bipush C dX9_init_82 (by decide)) dX9_init_84 rfl dX9_init_86 rfl fl_X9_42 fk_X9_42 (by first | (simp only [List.length_set]; decide) | decide) (fun _ => rfl) (fun _ => rfl) (Or.inl ⟨rfl, rfl, ac_int⟩) (Nat.le_of_ble_eq_true rfl) (Nat.le_of_ble_eq_true rfl) (Nat.le_of_ble_eq_true rfl) ?_
  rw [show ([(.inr (9, cdef 9) : CD)].length + b_X9_8.length) = 9 from by decide +kernel, show b_X9_8 ++ [.inl (0, 10, none)] = b_X9_9 from rfl]
  refine cr_fld C (ci := 9) (pc := 89) (p1 := 90) (p2 := 93) (p3 := 95) (p4 := 98) (q := 0) (j := 20) (c := 0) (N := 1467) Nat.one_pos rfl dX9_init_89 rfl (fun _ _ _ _ => cr_sipush C dX9_init_90 (by decide)) dX9_init_93 rfl dX9_init_95 rfl fl_X9_45 fk_X9_45 (by first | (simp only [List.length_set]; decide) | decide) (fun _ => rfl) (fun _ => rfl) (Or.inl ⟨rfl, rfl, ac_int⟩) (Nat.le_of_ble_eq_true rfl) (Nat.le_of_ble_eq_true rfl) (Nat.le_of_ble_eq_true rfl) ?_
  rw [show ([(.inr (9, cdef 9) : CD)].length + b_X9_9.length) = 10 from by decide +kernel, show b_X9_9 ++ [.inl (0, 1467, none)] = b_X9_10 from rfl]
  refine cr_fld C (ci := 9) (pc := 98) (p1 := 99) (p2 := 101) (p3 := 103) (p4 := 106) (q := 0) (j := 21) (c := 0) (N := 16) Nat.one_pos rfl dX9_init_98 rfl (fun _ _ _ _ => cr_bipush C dX9_init_99 (by decide)) dX9_init_101 rfl dX9_init_103 rfl fl_X9_48 fk_X9_48 (by first | (simp only [List.length_set]; decide) | decide) (fun _ => rfl) (fun _ => rfl) (Or.inl ⟨rfl, rfl, ac_int⟩) (Nat.le_of_ble_eq_true rfl) (Nat.le_of_ble_eq_true rfl) (Nat.le_of_ble_eq_true rfl) ?_
  rw [show ([(.inr (9, cdef 9) : CD)].length + b_X9_10.length) = 11 from by decide +kernel, show b_X9_10 ++ [.inl (0, 16, none)] = b_X9_11 from rfl]
  refine cr_fld C (ci := 9) (pc := 106) (p1 := 107) (p2 := 109) (p3 := 111) (p4 := 114) (q := 0) (j := 24) (c := 0) (N := 64) Nat.one_pos rfl dX9_init_106 rfl (fun _ _ _ _ => cr_bipush C dX9_init_107 (by decide)) dX9_init_109 rfl dX9_init_111 rfl fl_X9_51 fk_X9_51 (by first | (simp only [List.length_set]; decide) | decide) (fun _ => rfl) (fun _ => rfl) (Or.inl ⟨rfl, rfl, ac_int⟩) (Nat.le_of_ble_eq_true rfl) (Nat.le_of_ble_eq_true rfl) (Nat.le_of_ble_eq_true rfl) ?_
  rw [show ([(.inr (9, cdef 9) : CD)].length + b_X9_11.length) = 12 from by decide +kernel, show b_X9_11 ++ [.inl (0, 64, none)] = b_X9_12 from rfl]
  refine cr_fld C (ci := 9) (pc := 114) (p1 := 115) (p2 := 117) (p3 := 119) (p4 := 122) (q := 0) (j := 25) (c := 0) (N := 64) Nat.one_pos rfl dX9_init_114 rfl (fun _ _ _ _ => cr_bipush C dX9_init_115 (by decide)) dX9_init_117 rfl dX9_init_119 rfl fl_X9_54 fk_X9_54 (by first | (simp only [List.length_set]; decide) | decide) (fun _ => rfl) (fun _ => rfl) (Or.inl ⟨rfl, rfl, ac_int⟩) (Nat.le_of_ble_eq_true rfl) (Nat.le_of_ble_eq_true rfl) (Nat.le_of_ble_eq_true rfl) ?_
  rw [show ([(.inr (9, cdef 9) : CD)].length + b_X9_12.length) = 13 from by decide +kernel, show b_X9_12 ++ [.inl (0, 64, none)] = b_X9_13 from rfl]
  refine cr_fld C (ci := 9) (pc := 122) (p1 := 123) (p2 := 125) (p3 := 127) (p4 := 130) (q := 0) (j := 26) (c := 0) (N := 64) Nat.one_pos rfl dX9_init_122 rfl (fun _ _ _ _ => cr_bipush C dX9_init_123 (by decide)) dX9_init_125 rfl dX9_init_127 rfl fl_X9_57 fk_X9_57 (by first | (simp only [List.length_set]; decide) | decide) (fun _ => rfl) (fun _ => rfl) (Or.inl ⟨rfl, rfl, ac_int⟩) (Nat.le_of_ble_eq_true rfl) (Nat.le_of_ble_eq_true rfl) (Nat.le_of_ble_eq_true rfl) ?_
  rw [show ([(.inr (9, cdef 9) : CD)].length + b_X9_13.length) = 14 from by decide +kernel, show b_X9_13 ++ [.inl (0, 64, none)] = b_X9_14 from rfl]
  refine cr_fld C (ci := 9) (pc := 130) (p1 := 131) (p2 := 133) (p3 := 135) (p4 := 138) (q := 0) (j := 27) (c := 0) (N := 64) Nat.one_pos rfl dX9_init_130 rfl (fun _ _ _ _ => cr_bipush C dX9_init_131 (by decide)) dX9_init_133 rfl dX9_init_135 rfl fl_X9_60 fk_X9_60 (by first | (simp only [List.length_set]; decide) | decide) (fun _ => rfl) (fun _ => rfl) (Or.inl ⟨rfl, rfl, ac_int⟩) (Nat.le_of_ble_eq_true rfl) (Nat.le_of_ble_eq_true rfl) (Nat.le_of_ble_eq_true rfl) ?_
  rw [show ([(.inr (9, cdef 9) : CD)].length + b_X9_14.length) = 15 from by decide +kernel, show b_X9_14 ++ [.inl (0, 64, none)] = b_X9_15 from rfl]
  refine cr_fld C (ci := 9) (pc := 138) (p1 := 139) (p2 := 141) (p3 := 143) (p4 := 146) (q := 0) (j := 28) (c := 0) (N := 64) Nat.one_pos rfl dX9_init_138 rfl (fun _ _ _ _ => cr_bipush C dX9_init_139 (by decide)) dX9_init_141 rfl dX9_init_143 rfl fl_X9_63 fk_X9_63 (by first | (simp only [List.length_set]; decide) | decide) (fun _ => rfl) (fun _ => rfl) (Or.inl ⟨rfl, rfl, ac_int⟩) (Nat.le_of_ble_eq_true rfl) (Nat.le_of_ble_eq_true rfl) (Nat.le_of_ble_eq_true rfl) ?_
  rw [show ([(.inr (9, cdef 9) : CD)].length + b_X9_15.length) = 16 from by decide +kernel, show b_X9_15 ++ [.inl (0, 64, none)] = b_X9_16 from rfl]
  refine cr_fld C (ci := 9) (pc := 146) (p1 := 147) (p2 := 149) (p3 := 151) (p4 := 154) (q := 0) (j := 29) (c := 0) (N := 64) Nat.one_pos rfl dX9_init_146 rfl (fun _ _ _ _ => cr_bipush C dX9_init_147 (by decide)) dX9_init_149 rfl dX9_init_151 rfl fl_X9_66 fk_X9_66 (by first | (simp only [List.length_set]; decide) | decide) (fun _ => rfl) (fun _ => rfl) (Or.inl ⟨rfl, rfl, ac_int⟩) (Nat.le_of_ble_eq_true rfl) (Nat.le_of_ble_eq_true rfl) (Nat.le_of_ble_eq_true rfl) ?_
  rw [show ([(.inr (9, cdef 9) : CD)].length + b_X9_16.length) = 17 from by decide +kernel, show b_X9_16 ++ [.inl (0, 64, none)] = b_X9_17 from rfl]
  exact k
def offM (t _k : Nat) : Nat := if t = 9 then 0 else t - 46
def σM : gM := fun t _ j => if t = 9 ∧ (j = 5 ∨ j = 6) then -1 else 0
theorem CX9_ok : ∀ q ∈ gpl gcM, CX9[offM q.1 q.2]? = some (dsc offM σM q.1 q.2) := by
  have key : (gpl gcM).all (fun q => decide (offM q.1 q.2 < CX9.length) && cdEq (CX9.getD (offM q.1 q.2) (.inl (0, 0, none))) (dsc offM σM q.1 q.2)) = true := by decide +kernel
  intro q hq
  have h := Bool.and_eq_true_iff.mp (List.all_eq_true.mp key q hq)
  exact getD_some ⟨of_decide_eq_true h.1, of_decide_eq_true h.2⟩
theorem offM_nd : ((gpl gcM).map (fun q => offM q.1 q.2)).Nodup := by decide +kernel
theorem crefs_M : (∀ t, t < 10 → ∀ k, k < gcM t → ∀ j, j < 32 → ∀ q, gref t j k = some q → q.1 < 64 ∧ q.2 < gcM q.1) ∧ (∀ k, k < gcM 41 → ∀ i, i < 20 → 21 * k + 1 + i < gcM 3) ∧ (∀ k, k < gcM 42 → ∀ i, i < 4 → 4 * k + i < gcM 5) := by
  refine ⟨?_, ?_, ?_⟩
  · intro t ht k hk j hj q hq
    have key : ∀ t, t < 10 → ∀ k, k < gcM t → ∀ j, j < 32 → (match gref t j k with | some q => decide (q.1 < 64 ∧ q.2 < gcM q.1) | none => true) = true := by decide +kernel
    have := key t ht k hk j hj
    rw [hq] at this
    exact of_decide_eq_true this
  · decide +kernel
  · decide +kernel
theorem σM_arr : ∀ t k i, ¬ t < 10 → σM t k i = 0 := by
  intro t k i h
  unfold σM
  rw [if_neg (by omega)]
