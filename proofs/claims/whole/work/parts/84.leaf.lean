/-! LAYER 3: making: the objects that make arrays only (written by gen/gen_make.py). -/
theorem ac_int : Cond.arrayClass .int ∈ gU := gU_mem (by decide +kernel) rfl
theorem ac_bool : Cond.arrayClass .boolean ∈ gU := gU_mem (by decide +kernel) rfl
theorem oi_inst : Cond.instanceMethod Lib.objectInit ∈ gU := gU_mem (by decide +kernel) rfl
theorem oi_code : Cond.code Lib.objectInit ⟨#[0xb1]⟩ 1 none ∈ gU := gU_mem (by decide +kernel) rfl
theorem dX0_init_0 : decode cX0_init 0 = .ok (.aload_n 0, 1) := by decide +kernel
theorem dX0_init_1 : decode cX0_init 1 = .ok (.invokespecial 3, 3) := by decide +kernel
theorem dX0_init_4 : decode cX0_init 4 = .ok (.aload_n 0, 1) := by decide +kernel
theorem dX0_init_5 : decode cX0_init 5 = .ok (.iconst 4, 1) := by decide +kernel
theorem dX0_init_6 : decode cX0_init 6 = .ok (.newarray .int, 2) := by decide +kernel
theorem dX0_init_8 : decode cX0_init 8 = .ok (.putfield 11, 3) := by decide +kernel
theorem dX0_init_11 : decode cX0_init 11 = .ok (.return_, 1) := by decide +kernel
theorem oi_X0_3 : Cond.methodLink RX0 3 Lib.objectInit ∈ gU := (gU_mem (List.mem_of_getElem? (i := 416) (by decide +kernel)) rfl)
theorem fk_X0_11 : Cond.fieldLink (gRn 0) 11 (gRn 0) (gTn 0 0).2.1 (gTn 0 0).2.2.1 ∈ gU := (gU_mem (List.mem_of_getElem? (i := 417) (by decide +kernel)) rfl)
def f_X0 (n : Nat) : List CV := [.inl (some (n + 0)), .inr 0, .inr 0, .inr 0, .inr 0, .inr 0, .inr 0, .inr 0, .inr 0, .inr 0]
def a_X0 : List CD := [.inl (0, 4, none)]
theorem c_X0_init (S : List CD) (i : Nat) (hi : S[i]? = some (.inr (0, cdef 0))) : gConC yX0_init cX0_init 1 (1, 1, 4) i S (MkS S i 0 (f_X0 S.length) a_X0) := by
  have hl := (List.getElem?_eq_some_iff.mp hi).1
  refine gConC.of (by decide +kernel) rfl (Nat.le_of_ble_eq_true rfl) (fun X C => ?_)
  refine cr_aload C (q := 0) rfl dX0_init_0 ?_
  refine cr_obj C oi_X0_3 oi_inst oi_code (Nat.le_refl _) dX0_init_1 ?_
  suffices h : cW X (cR (MkS S i 0 (f_X0 S.length) a_X0)) 4 [(0, .ref ((xG X).2.2 + i))] [] (MkS S i 0 (cdef 0) []) 0 0 by
    rw [MkS_nil hi] at h
    exact h
  refine cr_fld C (ci := 0) (pc := 4) (p1 := 5) (p2 := 6) (p3 := 8) (p4 := 11) (q := 0) (j := 0) (c := 0) (N := 4) hl rfl dX0_init_4 rfl (fun _ _ _ _ => cr_iconst C dX0_init_5 (by decide)) dX0_init_6 rfl dX0_init_8 rfl fl_X0_11 fk_X0_11 (by first | (simp only [List.length_set]; decide) | decide) (fun _ => rfl) (fun _ => rfl) (Or.inl ⟨rfl, rfl, ac_int⟩) (Nat.le_of_ble_eq_true rfl) (Nat.le_of_ble_eq_true rfl) (Nat.le_of_ble_eq_true rfl) ?_
  exact cr_ret C (Nat.le_of_ble_eq_true rfl) (Nat.le_of_ble_eq_true rfl) dX0_init_11
theorem dX1_init_0 : decode cX1_init 0 = .ok (.aload_n 0, 1) := by decide +kernel
theorem dX1_init_1 : decode cX1_init 1 = .ok (.invokespecial 3, 3) := by decide +kernel
theorem dX1_init_4 : decode cX1_init 4 = .ok (.aload_n 0, 1) := by decide +kernel
theorem dX1_init_5 : decode cX1_init 5 = .ok (.bipush 64, 2) := by decide +kernel
theorem dX1_init_7 : decode cX1_init 7 = .ok (.newarray .int, 2) := by decide +kernel
theorem dX1_init_9 : decode cX1_init 9 = .ok (.putfield 9, 3) := by decide +kernel
theorem dX1_init_12 : decode cX1_init 12 = .ok (.aload_n 0, 1) := by decide +kernel
theorem dX1_init_13 : decode cX1_init 13 = .ok (.bipush 64, 2) := by decide +kernel
theorem dX1_init_15 : decode cX1_init 15 = .ok (.newarray .int, 2) := by decide +kernel
theorem dX1_init_17 : decode cX1_init 17 = .ok (.putfield 15, 3) := by decide +kernel
theorem dX1_init_20 : decode cX1_init 20 = .ok (.aload_n 0, 1) := by decide +kernel
theorem dX1_init_21 : decode cX1_init 21 = .ok (.bipush 64, 2) := by decide +kernel
theorem dX1_init_23 : decode cX1_init 23 = .ok (.newarray .int, 2) := by decide +kernel
theorem dX1_init_25 : decode cX1_init 25 = .ok (.putfield 18, 3) := by decide +kernel
theorem dX1_init_28 : decode cX1_init 28 = .ok (.return_, 1) := by decide +kernel
theorem oi_X1_3 : Cond.methodLink RX1 3 Lib.objectInit ∈ gU := (gU_mem (List.mem_of_getElem? (i := 329) (by decide +kernel)) rfl)
theorem fk_X1_9 : Cond.fieldLink (gRn 1) 9 (gRn 1) (gTn 1 0).2.1 (gTn 1 0).2.2.1 ∈ gU := (gU_mem (List.mem_of_getElem? (i := 330) (by decide +kernel)) rfl)
theorem fk_X1_15 : Cond.fieldLink (gRn 1) 15 (gRn 1) (gTn 1 1).2.1 (gTn 1 1).2.2.1 ∈ gU := (gU_mem (List.mem_of_getElem? (i := 333) (by decide +kernel)) rfl)
theorem fk_X1_18 : Cond.fieldLink (gRn 1) 18 (gRn 1) (gTn 1 2).2.1 (gTn 1 2).2.2.1 ∈ gU := (gU_mem (List.mem_of_getElem? (i := 336) (by decide +kernel)) rfl)
def f_X1 (n : Nat) : List CV := [.inl (some (n + 0)), .inl (some (n + 1)), .inl (some (n + 2)), .inr 0]
def a_X1 : List CD := [.inl (0, 64, none), .inl (0, 64, none), .inl (0, 64, none)]
theorem c_X1_init (S : List CD) (i : Nat) (hi : S[i]? = some (.inr (1, cdef 1))) : gConC yX1_init cX1_init 1 (1, 3, 192) i S (MkS S i 1 (f_X1 S.length) a_X1) := by
  have hl := (List.getElem?_eq_some_iff.mp hi).1
  refine gConC.of (by decide +kernel) rfl (Nat.le_of_ble_eq_true rfl) (fun X C => ?_)
  refine cr_aload C (q := 0) rfl dX1_init_0 ?_
  refine cr_obj C oi_X1_3 oi_inst oi_code (Nat.le_refl _) dX1_init_1 ?_
  suffices h : cW X (cR (MkS S i 1 (f_X1 S.length) a_X1)) 4 [(0, .ref ((xG X).2.2 + i))] [] (MkS S i 1 (cdef 1) []) 0 0 by
    rw [MkS_nil hi] at h
    exact h
  refine cr_fld C (ci := 1) (pc := 4) (p1 := 5) (p2 := 7) (p3 := 9) (p4 := 12) (q := 0) (j := 0) (c := 0) (N := 64) hl rfl dX1_init_4 rfl (fun _ _ _ _ => cr_bipush C dX1_init_5 (by decide)) dX1_init_7 rfl dX1_init_9 rfl fl_X1_9 fk_X1_9 (by first | (simp only [List.length_set]; decide) | decide) (fun _ => rfl) (fun _ => rfl) (Or.inl ⟨rfl, rfl, ac_int⟩) (Nat.le_of_ble_eq_true rfl) (Nat.le_of_ble_eq_true rfl) (Nat.le_of_ble_eq_true rfl) ?_
  refine cr_fld C (ci := 1) (pc := 12) (p1 := 13) (p2 := 15) (p3 := 17) (p4 := 20) (q := 0) (j := 1) (c := 0) (N := 64) hl rfl dX1_init_12 rfl (fun _ _ _ _ => cr_bipush C dX1_init_13 (by decide)) dX1_init_15 rfl dX1_init_17 rfl fl_X1_15 fk_X1_15 (by first | (simp only [List.length_set]; decide) | decide) (fun _ => rfl) (fun _ => rfl) (Or.inl ⟨rfl, rfl, ac_int⟩) (Nat.le_of_ble_eq_true rfl) (Nat.le_of_ble_eq_true rfl) (Nat.le_of_ble_eq_true rfl) ?_
  refine cr_fld C (ci := 1) (pc := 20) (p1 := 21) (p2 := 23) (p3 := 25) (p4 := 28) (q := 0) (j := 2) (c := 0) (N := 64) hl rfl dX1_init_20 rfl (fun _ _ _ _ => cr_bipush C dX1_init_21 (by decide)) dX1_init_23 rfl dX1_init_25 rfl fl_X1_18 fk_X1_18 (by first | (simp only [List.length_set]; decide) | decide) (fun _ => rfl) (fun _ => rfl) (Or.inl ⟨rfl, rfl, ac_int⟩) (Nat.le_of_ble_eq_true rfl) (Nat.le_of_ble_eq_true rfl) (Nat.le_of_ble_eq_true rfl) ?_
  exact cr_ret C (Nat.le_of_ble_eq_true rfl) (Nat.le_of_ble_eq_true rfl) dX1_init_28
theorem dX2_init_0 : decode cX2_init 0 = .ok (.aload_n 0, 1) := by decide +kernel
theorem dX2_init_1 : decode cX2_init 1 = .ok (.invokespecial 3, 3) := by decide +kernel
theorem dX2_init_4 : decode cX2_init 4 = .ok (.aload_n 0, 1) := by decide +kernel
theorem dX2_init_5 : decode cX2_init 5 = .ok (.bipush 64, 2) := by decide +kernel
theorem dX2_init_7 : decode cX2_init 7 = .ok (.newarray .int, 2) := by decide +kernel
theorem dX2_init_9 : decode cX2_init 9 = .ok (.putfield 9, 3) := by decide +kernel
theorem dX2_init_12 : decode cX2_init 12 = .ok (.aload_n 0, 1) := by decide +kernel
theorem dX2_init_13 : decode cX2_init 13 = .ok (.bipush 64, 2) := by decide +kernel
theorem dX2_init_15 : decode cX2_init 15 = .ok (.newarray .int, 2) := by decide +kernel
theorem dX2_init_17 : decode cX2_init 17 = .ok (.putfield 15, 3) := by decide +kernel
theorem dX2_init_20 : decode cX2_init 20 = .ok (.aload_n 0, 1) := by decide +kernel
theorem dX2_init_21 : decode cX2_init 21 = .ok (.bipush 64, 2) := by decide +kernel
theorem dX2_init_23 : decode cX2_init 23 = .ok (.newarray .int, 2) := by decide +kernel
theorem dX2_init_25 : decode cX2_init 25 = .ok (.putfield 18, 3) := by decide +kernel
theorem dX2_init_28 : decode cX2_init 28 = .ok (.aload_n 0, 1) := by decide +kernel
theorem dX2_init_29 : decode cX2_init 29 = .ok (.bipush 64, 2) := by decide +kernel
theorem dX2_init_31 : decode cX2_init 31 = .ok (.newarray .int, 2) := by decide +kernel
theorem dX2_init_33 : decode cX2_init 33 = .ok (.putfield 21, 3) := by decide +kernel
theorem dX2_init_36 : decode cX2_init 36 = .ok (.aload_n 0, 1) := by decide +kernel
theorem dX2_init_37 : decode cX2_init 37 = .ok (.bipush 64, 2) := by decide +kernel
theorem dX2_init_39 : decode cX2_init 39 = .ok (.newarray .int, 2) := by decide +kernel
theorem dX2_init_41 : decode cX2_init 41 = .ok (.putfield 24, 3) := by decide +kernel
theorem dX2_init_44 : decode cX2_init 44 = .ok (.return_, 1) := by decide +kernel
theorem oi_X2_3 : Cond.methodLink RX2 3 Lib.objectInit ∈ gU := (gU_mem (List.mem_of_getElem? (i := 367) (by decide +kernel)) rfl)
theorem fk_X2_9 : Cond.fieldLink (gRn 2) 9 (gRn 2) (gTn 2 0).2.1 (gTn 2 0).2.2.1 ∈ gU := (gU_mem (List.mem_of_getElem? (i := 368) (by decide +kernel)) rfl)
theorem fk_X2_15 : Cond.fieldLink (gRn 2) 15 (gRn 2) (gTn 2 1).2.1 (gTn 2 1).2.2.1 ∈ gU := (gU_mem (List.mem_of_getElem? (i := 369) (by decide +kernel)) rfl)
theorem fk_X2_18 : Cond.fieldLink (gRn 2) 18 (gRn 2) (gTn 2 2).2.1 (gTn 2 2).2.2.1 ∈ gU := (gU_mem (List.mem_of_getElem? (i := 370) (by decide +kernel)) rfl)
theorem fk_X2_21 : Cond.fieldLink (gRn 2) 21 (gRn 2) (gTn 2 3).2.1 (gTn 2 3).2.2.1 ∈ gU := (gU_mem (List.mem_of_getElem? (i := 371) (by decide +kernel)) rfl)
theorem fk_X2_24 : Cond.fieldLink (gRn 2) 24 (gRn 2) (gTn 2 4).2.1 (gTn 2 4).2.2.1 ∈ gU := (gU_mem (List.mem_of_getElem? (i := 372) (by decide +kernel)) rfl)
def f_X2 (n : Nat) : List CV := [.inl (some (n + 0)), .inl (some (n + 1)), .inl (some (n + 2)), .inl (some (n + 3)), .inl (some (n + 4)), .inr 0]
def a_X2 : List CD := [.inl (0, 64, none), .inl (0, 64, none), .inl (0, 64, none), .inl (0, 64, none), .inl (0, 64, none)]
theorem c_X2_init (S : List CD) (i : Nat) (hi : S[i]? = some (.inr (2, cdef 2))) : gConC yX2_init cX2_init 1 (1, 5, 320) i S (MkS S i 2 (f_X2 S.length) a_X2) := by
  have hl := (List.getElem?_eq_some_iff.mp hi).1
  refine gConC.of (by decide +kernel) rfl (Nat.le_of_ble_eq_true rfl) (fun X C => ?_)
  refine cr_aload C (q := 0) rfl dX2_init_0 ?_
  refine cr_obj C oi_X2_3 oi_inst oi_code (Nat.le_refl _) dX2_init_1 ?_
  suffices h : cW X (cR (MkS S i 2 (f_X2 S.length) a_X2)) 4 [(0, .ref ((xG X).2.2 + i))] [] (MkS S i 2 (cdef 2) []) 0 0 by
    rw [MkS_nil hi] at h
    exact h
  refine cr_fld C (ci := 2) (pc := 4) (p1 := 5) (p2 := 7) (p3 := 9) (p4 := 12) (q := 0) (j := 0) (c := 0) (N := 64) hl rfl dX2_init_4 rfl (fun _ _ _ _ => cr_bipush C dX2_init_5 (by decide)) dX2_init_7 rfl dX2_init_9 rfl fl_X2_9 fk_X2_9 (by first | (simp only [List.length_set]; decide) | decide) (fun _ => rfl) (fun _ => rfl) (Or.inl ⟨rfl, rfl, ac_int⟩) (Nat.le_of_ble_eq_true rfl) (Nat.le_of_ble_eq_true rfl) (Nat.le_of_ble_eq_true rfl) ?_
  refine cr_fld C (ci := 2) (pc := 12) (p1 := 13) (p2 := 15) (p3 := 17) (p4 := 20) (q := 0) (j := 1) (c := 0) (N := 64) hl rfl dX2_init_12 rfl (fun _ _ _ _ => cr_bipush C dX2_init_13 (by decide)) dX2_init_15 rfl dX2_init_17 rfl fl_X2_15 fk_X2_15 (by first | (simp only [List.length_set]; decide) | decide) (fun _ => rfl) (fun _ => rfl) (Or.inl ⟨rfl, rfl, ac_int⟩) (Nat.le_of_ble_eq_true rfl) (Nat.le_of_ble_eq_true rfl) (Nat.le_of_ble_eq_true rfl) ?_
  refine cr_fld C (ci := 2) (pc := 20) (p1 := 21) (p2 := 23) (p3 := 25) (p4 := 28) (q := 0) (j := 2) (c := 0) (N := 64) hl rfl dX2_init_20 rfl (fun _ _ _ _ => cr_bipush C dX2_init_21 (by decide)) dX2_init_23 rfl dX2_init_25 rfl fl_X2_18 fk_X2_18 (by first | (simp only [List.length_set]; decide) | decide) (fun _ => rfl) (fun _ => rfl) (Or.inl ⟨rfl, rfl, ac_int⟩) (Nat.le_of_ble_eq_true rfl) (Nat.le_of_ble_eq_true rfl) (Nat.le_of_ble_eq_true rfl) ?_
  refine cr_fld C (ci := 2) (pc := 28) (p1 := 29) (p2 := 31) (p3 := 33) (p4 := 36) (q := 0) (j := 3) (c := 0) (N := 64) hl rfl dX2_init_28 rfl (fun _ _ _ _ => cr_bipush C dX2_init_29 (by decide)) dX2_init_31 rfl dX2_init_33 rfl fl_X2_21 fk_X2_21 (by first | (simp only [List.length_set]; decide) | decide) (fun _ => rfl) (fun _ => rfl) (Or.inl ⟨rfl, rfl, ac_int⟩) (Nat.le_of_ble_eq_true rfl) (Nat.le_of_ble_eq_true rfl) (Nat.le_of_ble_eq_true rfl) ?_
  refine cr_fld C (ci := 2) (pc := 36) (p1 := 37) (p2 := 39) (p3 := 41) (p4 := 44) (q := 0) (j := 4) (c := 0) (N := 64) hl rfl dX2_init_36 rfl (fun _ _ _ _ => cr_bipush C dX2_init_37 (by decide)) dX2_init_39 rfl dX2_init_41 rfl fl_X2_24 fk_X2_24 (by first | (simp only [List.length_set]; decide) | decide) (fun _ => rfl) (fun _ => rfl) (Or.inl ⟨rfl, rfl, ac_int⟩) (Nat.le_of_ble_eq_true rfl) (Nat.le_of_ble_eq_true rfl) (Nat.le_of_ble_eq_true rfl) ?_
  exact cr_ret C (Nat.le_of_ble_eq_true rfl) (Nat.le_of_ble_eq_true rfl) dX2_init_44
theorem dX3_init_0 : decode cX3_init 0 = .ok (.aload_n 0, 1) := by decide +kernel
theorem dX3_init_1 : decode cX3_init 1 = .ok (.invokespecial 3, 3) := by decide +kernel
theorem dX3_init_4 : decode cX3_init 4 = .ok (.aload_n 0, 1) := by decide +kernel
theorem dX3_init_5 : decode cX3_init 5 = .ok (.bipush 16, 2) := by decide +kernel
theorem dX3_init_7 : decode cX3_init 7 = .ok (.newarray .int, 2) := by decide +kernel
theorem dX3_init_9 : decode cX3_init 9 = .ok (.putfield 9, 3) := by decide +kernel
theorem dX3_init_12 : decode cX3_init 12 = .ok (.aload_n 0, 1) := by decide +kernel
theorem dX3_init_13 : decode cX3_init 13 = .ok (.bipush 6, 2) := by decide +kernel
theorem dX3_init_15 : decode cX3_init 15 = .ok (.newarray .int, 2) := by decide +kernel
theorem dX3_init_17 : decode cX3_init 17 = .ok (.putfield 15, 3) := by decide +kernel
theorem dX3_init_20 : decode cX3_init 20 = .ok (.aload_n 0, 1) := by decide +kernel
theorem dX3_init_21 : decode cX3_init 21 = .ok (.bipush 96, 2) := by decide +kernel
theorem dX3_init_23 : decode cX3_init 23 = .ok (.newarray .int, 2) := by decide +kernel
theorem dX3_init_25 : decode cX3_init 25 = .ok (.putfield 18, 3) := by decide +kernel
theorem dX3_init_28 : decode cX3_init 28 = .ok (.aload_n 0, 1) := by decide +kernel
theorem dX3_init_29 : decode cX3_init 29 = .ok (.sipush 1024, 3) := by decide +kernel
theorem dX3_init_32 : decode cX3_init 32 = .ok (.newarray .int, 2) := by decide +kernel
theorem dX3_init_34 : decode cX3_init 34 = .ok (.putfield 21, 3) := by decide +kernel
theorem dX3_init_37 : decode cX3_init 37 = .ok (.aload_n 0, 1) := by decide +kernel
theorem dX3_init_38 : decode cX3_init 38 = .ok (.bipush 64, 2) := by decide +kernel
theorem dX3_init_40 : decode cX3_init 40 = .ok (.newarray .int, 2) := by decide +kernel
theorem dX3_init_42 : decode cX3_init 42 = .ok (.putfield 24, 3) := by decide +kernel
theorem dX3_init_45 : decode cX3_init 45 = .ok (.aload_n 0, 1) := by decide +kernel
theorem dX3_init_46 : decode cX3_init 46 = .ok (.bipush 64, 2) := by decide +kernel
theorem dX3_init_48 : decode cX3_init 48 = .ok (.newarray .int, 2) := by decide +kernel
theorem dX3_init_50 : decode cX3_init 50 = .ok (.putfield 27, 3) := by decide +kernel
theorem dX3_init_53 : decode cX3_init 53 = .ok (.aload_n 0, 1) := by decide +kernel
theorem dX3_init_54 : decode cX3_init 54 = .ok (.bipush 64, 2) := by decide +kernel
theorem dX3_init_56 : decode cX3_init 56 = .ok (.newarray .int, 2) := by decide +kernel
theorem dX3_init_58 : decode cX3_init 58 = .ok (.putfield 30, 3) := by decide +kernel
theorem dX3_init_61 : decode cX3_init 61 = .ok (.aload_n 0, 1) := by decide +kernel
theorem dX3_init_62 : decode cX3_init 62 = .ok (.bipush 64, 2) := by decide +kernel
theorem dX3_init_64 : decode cX3_init 64 = .ok (.newarray .int, 2) := by decide +kernel
theorem dX3_init_66 : decode cX3_init 66 = .ok (.putfield 33, 3) := by decide +kernel
theorem dX3_init_69 : decode cX3_init 69 = .ok (.aload_n 0, 1) := by decide +kernel
theorem dX3_init_70 : decode cX3_init 70 = .ok (.bipush 64, 2) := by decide +kernel
theorem dX3_init_72 : decode cX3_init 72 = .ok (.newarray .int, 2) := by decide +kernel
theorem dX3_init_74 : decode cX3_init 74 = .ok (.putfield 36, 3) := by decide +kernel
theorem dX3_init_77 : decode cX3_init 77 = .ok (.return_, 1) := by decide +kernel
theorem oi_X3_3 : Cond.methodLink RX3 3 Lib.objectInit ∈ gU := (gU_mem (List.mem_of_getElem? (i := 196) (by decide +kernel)) rfl)
theorem fk_X3_9 : Cond.fieldLink (gRn 3) 9 (gRn 3) (gTn 3 5).2.1 (gTn 3 5).2.2.1 ∈ gU := (gU_mem (List.mem_of_getElem? (i := 211) (by decide +kernel)) rfl)
theorem fk_X3_15 : Cond.fieldLink (gRn 3) 15 (gRn 3) (gTn 3 6).2.1 (gTn 3 6).2.2.1 ∈ gU := (gU_mem (List.mem_of_getElem? (i := 214) (by decide +kernel)) rfl)
theorem fk_X3_18 : Cond.fieldLink (gRn 3) 18 (gRn 3) (gTn 3 7).2.1 (gTn 3 7).2.2.1 ∈ gU := (gU_mem (List.mem_of_getElem? (i := 216) (by decide +kernel)) rfl)
theorem fk_X3_21 : Cond.fieldLink (gRn 3) 21 (gRn 3) (gTn 3 8).2.1 (gTn 3 8).2.2.1 ∈ gU := (gU_mem (List.mem_of_getElem? (i := 218) (by decide +kernel)) rfl)
theorem fk_X3_24 : Cond.fieldLink (gRn 3) 24 (gRn 3) (gTn 3 9).2.1 (gTn 3 9).2.2.1 ∈ gU := (gU_mem (List.mem_of_getElem? (i := 220) (by decide +kernel)) rfl)
theorem fk_X3_27 : Cond.fieldLink (gRn 3) 27 (gRn 3) (gTn 3 10).2.1 (gTn 3 10).2.2.1 ∈ gU := (gU_mem (List.mem_of_getElem? (i := 223) (by decide +kernel)) rfl)
theorem fk_X3_30 : Cond.fieldLink (gRn 3) 30 (gRn 3) (gTn 3 11).2.1 (gTn 3 11).2.2.1 ∈ gU := (gU_mem (List.mem_of_getElem? (i := 225) (by decide +kernel)) rfl)
theorem fk_X3_33 : Cond.fieldLink (gRn 3) 33 (gRn 3) (gTn 3 12).2.1 (gTn 3 12).2.2.1 ∈ gU := (gU_mem (List.mem_of_getElem? (i := 227) (by decide +kernel)) rfl)
theorem fk_X3_36 : Cond.fieldLink (gRn 3) 36 (gRn 3) (gTn 3 13).2.1 (gTn 3 13).2.2.1 ∈ gU := (gU_mem (List.mem_of_getElem? (i := 230) (by decide +kernel)) rfl)
def f_X3 (n : Nat) : List CV := [.inr 0, .inr 0, .inr 0, .inr 0, .inr 0, .inl (some (n + 0)), .inl (some (n + 1)), .inl (some (n + 2)), .inl (some (n + 3)), .inl (some (n + 4)), .inl (some (n + 5)), .inl (some (n + 6)), .inl (some (n + 7)), .inl (some (n + 8))]
def a_X3 : List CD := [.inl (0, 16, none), .inl (0, 6, none), .inl (0, 96, none), .inl (0, 1024, none), .inl (0, 64, none), .inl (0, 64, none), .inl (0, 64, none), .inl (0, 64, none), .inl (0, 64, none)]
theorem c_X3_init (S : List CD) (i : Nat) (hi : S[i]? = some (.inr (3, cdef 3))) : gConC yX3_init cX3_init 1 (1, 9, 1462) i S (MkS S i 3 (f_X3 S.length) a_X3) := by
  have hl := (List.getElem?_eq_some_iff.mp hi).1
  refine gConC.of (by decide +kernel) rfl (Nat.le_of_ble_eq_true rfl) (fun X C => ?_)
  refine cr_aload C (q := 0) rfl dX3_init_0 ?_
  refine cr_obj C oi_X3_3 oi_inst oi_code (Nat.le_refl _) dX3_init_1 ?_
  suffices h : cW X (cR (MkS S i 3 (f_X3 S.length) a_X3)) 4 [(0, .ref ((xG X).2.2 + i))] [] (MkS S i 3 (cdef 3) []) 0 0 by
    rw [MkS_nil hi] at h
    exact h
  refine cr_fld C (ci := 3) (pc := 4) (p1 := 5) (p2 := 7) (p3 := 9) (p4 := 12) (q := 0) (j := 5) (c := 0) (N := 16) hl rfl dX3_init_4 rfl (fun _ _ _ _ => cr_bipush C dX3_init_5 (by decide)) dX3_init_7 rfl dX3_init_9 rfl fl_X3_9 fk_X3_9 (by first | (simp only [List.length_set]; decide) | decide) (fun _ => rfl) (fun _ => rfl) (Or.inl ⟨rfl, rfl, ac_int⟩) (Nat.le_of_ble_eq_true rfl) (Nat.le_of_ble_eq_true rfl) (Nat.le_of_ble_eq_true rfl) ?_
  refine cr_fld C (ci := 3) (pc := 12) (p1 := 13) (p2 := 15) (p3 := 17) (p4 := 20) (q := 0) (j := 6) (c := 0) (N := 6) hl rfl dX3_init_12 rfl (fun _ _ _ _ => cr_bipush C dX3_init_13 (by decide)) dX3_init_15 rfl dX3_init_17 rfl fl_X3_15 fk_X3_15 (by first | (simp only [List.length_set]; decide) | decide) (fun _ => rfl) (fun _ => rfl) (Or.inl ⟨rfl, rfl, ac_int⟩) (Nat.le_of_ble_eq_true rfl) (Nat.le_of_ble_eq_true rfl) (Nat.le_of_ble_eq_true rfl) ?_
  refine cr_fld C (ci := 3) (pc := 20) (p1 := 21) (p2 := 23) (p3 := 25) (p4 := 28) (q := 0) (j := 7) (c := 0) (N := 96) hl rfl dX3_init_20 rfl (fun _ _ _ _ => cr_bipush C dX3_init_21 (by decide)) dX3_init_23 rfl dX3_init_25 rfl fl_X3_18 fk_X3_18 (by first | (simp only [List.length_set]; decide) | decide) (fun _ => rfl) (fun _ => rfl) (Or.inl ⟨rfl, rfl, ac_int⟩) (Nat.le_of_ble_eq_true rfl) (Nat.le_of_ble_eq_true rfl) (Nat.le_of_ble_eq_true rfl) ?_
  refine cr_fld C (ci := 3) (pc := 28) (p1 := 29) (p2 := 32) (p3 := 34) (p4 := 37) (q := 0) (j := 8) (c := 0) (N := 1024) hl rfl dX3_init_28 rfl (fun _ _ _ _ => cr_sipush C dX3_init_29 (by decide)) dX3_init_32 rfl dX3_init_34 rfl fl_X3_21 fk_X3_21 (by first | (simp only [List.length_set]; decide) | decide) (fun _ => rfl) (fun _ => rfl) (Or.inl ⟨rfl, rfl, ac_int⟩) (Nat.le_of_ble_eq_true rfl) (Nat.le_of_ble_eq_true rfl) (Nat.le_of_ble_eq_true rfl) ?_
  refine cr_fld C (ci := 3) (pc := 37) (p1 := 38) (p2 := 40) (p3 := 42) (p4 := 45) (q := 0) (j := 9) (c := 0) (N := 64) hl rfl dX3_init_37 rfl (fun _ _ _ _ => cr_bipush C dX3_init_38 (by decide)) dX3_init_40 rfl dX3_init_42 rfl fl_X3_24 fk_X3_24 (by first | (simp only [List.length_set]; decide) | decide) (fun _ => rfl) (fun _ => rfl) (Or.inl ⟨rfl, rfl, ac_int⟩) (Nat.le_of_ble_eq_true rfl) (Nat.le_of_ble_eq_true rfl) (Nat.le_of_ble_eq_true rfl) ?_
  refine cr_fld C (ci := 3) (pc := 45) (p1 := 46) (p2 := 48) (p3 := 50) (p4 := 53) (q := 0) (j := 10) (c := 0) (N := 64) hl rfl dX3_init_45 rfl (fun _ _ _ _ => cr_bipush C dX3_init_46 (by decide)) dX3_init_48 rfl dX3_init_50 rfl fl_X3_27 fk_X3_27 (by first | (simp only [List.length_set]; decide) | decide) (fun _ => rfl) (fun _ => rfl) (Or.inl ⟨rfl, rfl, ac_int⟩) (Nat.le_of_ble_eq_true rfl) (Nat.le_of_ble_eq_true rfl) (Nat.le_of_ble_eq_true rfl) ?_
  refine cr_fld C (ci := 3) (pc := 53) (p1 := 54) (p2 := 56) (p3 := 58) (p4 := 61) (q := 0) (j := 11) (c := 0) (N := 64) hl rfl dX3_init_53 rfl (fun _ _ _ _ => cr_bipush C dX3_init_54 (by decide)) dX3_init_56 rfl dX3_init_58 rfl fl_X3_30 fk_X3_30 (by first | (simp only [List.length_set]; decide) | decide) (fun _ => rfl) (fun _ => rfl) (Or.inl ⟨rfl, rfl, ac_int⟩) (Nat.le_of_ble_eq_true rfl) (Nat.le_of_ble_eq_true rfl) (Nat.le_of_ble_eq_true rfl) ?_
  refine cr_fld C (ci := 3) (pc := 61) (p1 := 62) (p2 := 64) (p3 := 66) (p4 := 69) (q := 0) (j := 12) (c := 0) (N := 64) hl rfl dX3_init_61 rfl (fun _ _ _ _ => cr_bipush C dX3_init_62 (by decide)) dX3_init_64 rfl dX3_init_66 rfl fl_X3_33 fk_X3_33 (by first | (simp only [List.length_set]; decide) | decide) (fun _ => rfl) (fun _ => rfl) (Or.inl ⟨rfl, rfl, ac_int⟩) (Nat.le_of_ble_eq_true rfl) (Nat.le_of_ble_eq_true rfl) (Nat.le_of_ble_eq_true rfl) ?_
  refine cr_fld C (ci := 3) (pc := 69) (p1 := 70) (p2 := 72) (p3 := 74) (p4 := 77) (q := 0) (j := 13) (c := 0) (N := 64) hl rfl dX3_init_69 rfl (fun _ _ _ _ => cr_bipush C dX3_init_70 (by decide)) dX3_init_72 rfl dX3_init_74 rfl fl_X3_36 fk_X3_36 (by first | (simp only [List.length_set]; decide) | decide) (fun _ => rfl) (fun _ => rfl) (Or.inl ⟨rfl, rfl, ac_int⟩) (Nat.le_of_ble_eq_true rfl) (Nat.le_of_ble_eq_true rfl) (Nat.le_of_ble_eq_true rfl) ?_
  exact cr_ret C (Nat.le_of_ble_eq_true rfl) (Nat.le_of_ble_eq_true rfl) dX3_init_77
theorem dX4_init_0 : decode cX4_init 0 = .ok (.aload_n 0, 1) := by decide +kernel
theorem dX4_init_1 : decode cX4_init 1 = .ok (.invokespecial 3, 3) := by decide +kernel
theorem dX4_init_4 : decode cX4_init 4 = .ok (.aload_n 0, 1) := by decide +kernel
theorem dX4_init_5 : decode cX4_init 5 = .ok (.sipush 1024, 3) := by decide +kernel
theorem dX4_init_8 : decode cX4_init 8 = .ok (.newarray .int, 2) := by decide +kernel
theorem dX4_init_10 : decode cX4_init 10 = .ok (.putfield 9, 3) := by decide +kernel
theorem dX4_init_13 : decode cX4_init 13 = .ok (.aload_n 0, 1) := by decide +kernel
theorem dX4_init_14 : decode cX4_init 14 = .ok (.sipush 600, 3) := by decide +kernel
theorem dX4_init_17 : decode cX4_init 17 = .ok (.newarray .int, 2) := by decide +kernel
theorem dX4_init_19 : decode cX4_init 19 = .ok (.putfield 15, 3) := by decide +kernel
theorem dX4_init_22 : decode cX4_init 22 = .ok (.aload_n 0, 1) := by decide +kernel
theorem dX4_init_23 : decode cX4_init 23 = .ok (.bipush 64, 2) := by decide +kernel
theorem dX4_init_25 : decode cX4_init 25 = .ok (.newarray .int, 2) := by decide +kernel
theorem dX4_init_27 : decode cX4_init 27 = .ok (.putfield 18, 3) := by decide +kernel
theorem dX4_init_30 : decode cX4_init 30 = .ok (.aload_n 0, 1) := by decide +kernel
theorem dX4_init_31 : decode cX4_init 31 = .ok (.bipush 64, 2) := by decide +kernel
theorem dX4_init_33 : decode cX4_init 33 = .ok (.newarray .int, 2) := by decide +kernel
theorem dX4_init_35 : decode cX4_init 35 = .ok (.putfield 21, 3) := by decide +kernel
theorem dX4_init_38 : decode cX4_init 38 = .ok (.return_, 1) := by decide +kernel
theorem oi_X4_3 : Cond.methodLink RX4 3 Lib.objectInit ∈ gU := (gU_mem (List.mem_of_getElem? (i := 393) (by decide +kernel)) rfl)
theorem fk_X4_9 : Cond.fieldLink (gRn 4) 9 (gRn 4) (gTn 4 0).2.1 (gTn 4 0).2.2.1 ∈ gU := (gU_mem (List.mem_of_getElem? (i := 394) (by decide +kernel)) rfl)
theorem fk_X4_15 : Cond.fieldLink (gRn 4) 15 (gRn 4) (gTn 4 1).2.1 (gTn 4 1).2.2.1 ∈ gU := (gU_mem (List.mem_of_getElem? (i := 396) (by decide +kernel)) rfl)
theorem fk_X4_18 : Cond.fieldLink (gRn 4) 18 (gRn 4) (gTn 4 2).2.1 (gTn 4 2).2.2.1 ∈ gU := (gU_mem (List.mem_of_getElem? (i := 397) (by decide +kernel)) rfl)
theorem fk_X4_21 : Cond.fieldLink (gRn 4) 21 (gRn 4) (gTn 4 3).2.1 (gTn 4 3).2.2.1 ∈ gU := (gU_mem (List.mem_of_getElem? (i := 398) (by decide +kernel)) rfl)
def f_X4 (n : Nat) : List CV := [.inl (some (n + 0)), .inl (some (n + 1)), .inl (some (n + 2)), .inl (some (n + 3)), .inr 0]
def a_X4 : List CD := [.inl (0, 1024, none), .inl (0, 600, none), .inl (0, 64, none), .inl (0, 64, none)]
theorem c_X4_init (S : List CD) (i : Nat) (hi : S[i]? = some (.inr (4, cdef 4))) : gConC yX4_init cX4_init 1 (1, 4, 1752) i S (MkS S i 4 (f_X4 S.length) a_X4) := by
  have hl := (List.getElem?_eq_some_iff.mp hi).1
  refine gConC.of (by decide +kernel) rfl (Nat.le_of_ble_eq_true rfl) (fun X C => ?_)
  refine cr_aload C (q := 0) rfl dX4_init_0 ?_
  refine cr_obj C oi_X4_3 oi_inst oi_code (Nat.le_refl _) dX4_init_1 ?_
  suffices h : cW X (cR (MkS S i 4 (f_X4 S.length) a_X4)) 4 [(0, .ref ((xG X).2.2 + i))] [] (MkS S i 4 (cdef 4) []) 0 0 by
    rw [MkS_nil hi] at h
    exact h
  refine cr_fld C (ci := 4) (pc := 4) (p1 := 5) (p2 := 8) (p3 := 10) (p4 := 13) (q := 0) (j := 0) (c := 0) (N := 1024) hl rfl dX4_init_4 rfl (fun _ _ _ _ => cr_sipush C dX4_init_5 (by decide)) dX4_init_8 rfl dX4_init_10 rfl fl_X4_9 fk_X4_9 (by first | (simp only [List.length_set]; decide) | decide) (fun _ => rfl) (fun _ => rfl) (Or.inl ⟨rfl, rfl, ac_int⟩) (Nat.le_of_ble_eq_true rfl) (Nat.le_of_ble_eq_true rfl) (Nat.le_of_ble_eq_true rfl) ?_
  refine cr_fld C (ci := 4) (pc := 13) (p1 := 14) (p2 := 17) (p3 := 19) (p4 := 22) (q := 0) (j := 1) (c := 0) (N := 600) hl rfl dX4_init_13 rfl (fun _ _ _ _ => cr_sipush C dX4_init_14 (by decide)) dX4_init_17 rfl dX4_init_19 rfl fl_X4_15 fk_X4_15 (by first | (simp only [List.length_set]; decide) | decide) (fun _ => rfl) (fun _ => rfl) (Or.inl ⟨rfl, rfl, ac_int⟩) (Nat.le_of_ble_eq_true rfl) (Nat.le_of_ble_eq_true rfl) (Nat.le_of_ble_eq_true rfl) ?_
  refine cr_fld C (ci := 4) (pc := 22) (p1 := 23) (p2 := 25) (p3 := 27) (p4 := 30) (q := 0) (j := 2) (c := 0) (N := 64) hl rfl dX4_init_22 rfl (fun _ _ _ _ => cr_bipush C dX4_init_23 (by decide)) dX4_init_25 rfl dX4_init_27 rfl fl_X4_18 fk_X4_18 (by first | (simp only [List.length_set]; decide) | decide) (fun _ => rfl) (fun _ => rfl) (Or.inl ⟨rfl, rfl, ac_int⟩) (Nat.le_of_ble_eq_true rfl) (Nat.le_of_ble_eq_true rfl) (Nat.le_of_ble_eq_true rfl) ?_
  refine cr_fld C (ci := 4) (pc := 30) (p1 := 31) (p2 := 33) (p3 := 35) (p4 := 38) (q := 0) (j := 3) (c := 0) (N := 64) hl rfl dX4_init_30 rfl (fun _ _ _ _ => cr_bipush C dX4_init_31 (by decide)) dX4_init_33 rfl dX4_init_35 rfl fl_X4_21 fk_X4_21 (by first | (simp only [List.length_set]; decide) | decide) (fun _ => rfl) (fun _ => rfl) (Or.inl ⟨rfl, rfl, ac_int⟩) (Nat.le_of_ble_eq_true rfl) (Nat.le_of_ble_eq_true rfl) (Nat.le_of_ble_eq_true rfl) ?_
  exact cr_ret C (Nat.le_of_ble_eq_true rfl) (Nat.le_of_ble_eq_true rfl) dX4_init_38
theorem dX5_init_0 : decode cX5_init 0 = .ok (.aload_n 0, 1) := by decide +kernel
theorem dX5_init_1 : decode cX5_init 1 = .ok (.invokespecial 3, 3) := by decide +kernel
theorem dX5_init_4 : decode cX5_init 4 = .ok (.aload_n 0, 1) := by decide +kernel
theorem dX5_init_5 : decode cX5_init 5 = .ok (.sipush 600, 3) := by decide +kernel
theorem dX5_init_8 : decode cX5_init 8 = .ok (.newarray .int, 2) := by decide +kernel
theorem dX5_init_10 : decode cX5_init 10 = .ok (.putfield 9, 3) := by decide +kernel
theorem dX5_init_13 : decode cX5_init 13 = .ok (.aload_n 0, 1) := by decide +kernel
theorem dX5_init_14 : decode cX5_init 14 = .ok (.sipush 600, 3) := by decide +kernel
theorem dX5_init_17 : decode cX5_init 17 = .ok (.newarray .int, 2) := by decide +kernel
theorem dX5_init_19 : decode cX5_init 19 = .ok (.putfield 15, 3) := by decide +kernel
theorem dX5_init_22 : decode cX5_init 22 = .ok (.return_, 1) := by decide +kernel
theorem oi_X5_3 : Cond.methodLink RX5 3 Lib.objectInit ∈ gU := (gU_mem (List.mem_of_getElem? (i := 270) (by decide +kernel)) rfl)
theorem fk_X5_9 : Cond.fieldLink (gRn 5) 9 (gRn 5) (gTn 5 0).2.1 (gTn 5 0).2.2.1 ∈ gU := (gU_mem (List.mem_of_getElem? (i := 271) (by decide +kernel)) rfl)
theorem fk_X5_15 : Cond.fieldLink (gRn 5) 15 (gRn 5) (gTn 5 1).2.1 (gTn 5 1).2.2.1 ∈ gU := (gU_mem (List.mem_of_getElem? (i := 276) (by decide +kernel)) rfl)
def f_X5 (n : Nat) : List CV := [.inl (some (n + 0)), .inl (some (n + 1)), .inr 0]
def a_X5 : List CD := [.inl (0, 600, none), .inl (0, 600, none)]
theorem c_X5_init (S : List CD) (i : Nat) (hi : S[i]? = some (.inr (5, cdef 5))) : gConC yX5_init cX5_init 1 (1, 2, 1200) i S (MkS S i 5 (f_X5 S.length) a_X5) := by
  have hl := (List.getElem?_eq_some_iff.mp hi).1
  refine gConC.of (by decide +kernel) rfl (Nat.le_of_ble_eq_true rfl) (fun X C => ?_)
  refine cr_aload C (q := 0) rfl dX5_init_0 ?_
  refine cr_obj C oi_X5_3 oi_inst oi_code (Nat.le_refl _) dX5_init_1 ?_
  suffices h : cW X (cR (MkS S i 5 (f_X5 S.length) a_X5)) 4 [(0, .ref ((xG X).2.2 + i))] [] (MkS S i 5 (cdef 5) []) 0 0 by
    rw [MkS_nil hi] at h
    exact h
  refine cr_fld C (ci := 5) (pc := 4) (p1 := 5) (p2 := 8) (p3 := 10) (p4 := 13) (q := 0) (j := 0) (c := 0) (N := 600) hl rfl dX5_init_4 rfl (fun _ _ _ _ => cr_sipush C dX5_init_5 (by decide)) dX5_init_8 rfl dX5_init_10 rfl fl_X5_9 fk_X5_9 (by first | (simp only [List.length_set]; decide) | decide) (fun _ => rfl) (fun _ => rfl) (Or.inl ⟨rfl, rfl, ac_int⟩) (Nat.le_of_ble_eq_true rfl) (Nat.le_of_ble_eq_true rfl) (Nat.le_of_ble_eq_true rfl) ?_
  refine cr_fld C (ci := 5) (pc := 13) (p1 := 14) (p2 := 17) (p3 := 19) (p4 := 22) (q := 0) (j := 1) (c := 0) (N := 600) hl rfl dX5_init_13 rfl (fun _ _ _ _ => cr_sipush C dX5_init_14 (by decide)) dX5_init_17 rfl dX5_init_19 rfl fl_X5_15 fk_X5_15 (by first | (simp only [List.length_set]; decide) | decide) (fun _ => rfl) (fun _ => rfl) (Or.inl ⟨rfl, rfl, ac_int⟩) (Nat.le_of_ble_eq_true rfl) (Nat.le_of_ble_eq_true rfl) (Nat.le_of_ble_eq_true rfl) ?_
  exact cr_ret C (Nat.le_of_ble_eq_true rfl) (Nat.le_of_ble_eq_true rfl) dX5_init_22
theorem dX7_init_0 : decode cX7_init 0 = .ok (.aload_n 0, 1) := by decide +kernel
theorem dX7_init_1 : decode cX7_init 1 = .ok (.invokespecial 3, 3) := by decide +kernel
theorem dX7_init_4 : decode cX7_init 4 = .ok (.aload_n 0, 1) := by decide +kernel
theorem dX7_init_5 : decode cX7_init 5 = .ok (.bipush 16, 2) := by decide +kernel
theorem dX7_init_7 : decode cX7_init 7 = .ok (.newarray .int, 2) := by decide +kernel
theorem dX7_init_9 : decode cX7_init 9 = .ok (.putfield 9, 3) := by decide +kernel
theorem dX7_init_12 : decode cX7_init 12 = .ok (.aload_n 0, 1) := by decide +kernel
theorem dX7_init_13 : decode cX7_init 13 = .ok (.bipush 16, 2) := by decide +kernel
theorem dX7_init_15 : decode cX7_init 15 = .ok (.newarray .int, 2) := by decide +kernel
theorem dX7_init_17 : decode cX7_init 17 = .ok (.putfield 15, 3) := by decide +kernel
theorem dX7_init_20 : decode cX7_init 20 = .ok (.return_, 1) := by decide +kernel
theorem oi_X7_3 : Cond.methodLink RX7 3 Lib.objectInit ∈ gU := (gU_mem (List.mem_of_getElem? (i := 354) (by decide +kernel)) rfl)
theorem fk_X7_9 : Cond.fieldLink (gRn 7) 9 (gRn 7) (gTn 7 0).2.1 (gTn 7 0).2.2.1 ∈ gU := (gU_mem (List.mem_of_getElem? (i := 355) (by decide +kernel)) rfl)
theorem fk_X7_15 : Cond.fieldLink (gRn 7) 15 (gRn 7) (gTn 7 1).2.1 (gTn 7 1).2.2.1 ∈ gU := (gU_mem (List.mem_of_getElem? (i := 356) (by decide +kernel)) rfl)
def f_X7 (n : Nat) : List CV := [.inl (some (n + 0)), .inl (some (n + 1))]
def a_X7 : List CD := [.inl (0, 16, none), .inl (0, 16, none)]
theorem c_X7_init (S : List CD) (i : Nat) (hi : S[i]? = some (.inr (7, cdef 7))) : gConC yX7_init cX7_init 1 (1, 2, 32) i S (MkS S i 7 (f_X7 S.length) a_X7) := by
  have hl := (List.getElem?_eq_some_iff.mp hi).1
  refine gConC.of (by decide +kernel) rfl (Nat.le_of_ble_eq_true rfl) (fun X C => ?_)
  refine cr_aload C (q := 0) rfl dX7_init_0 ?_
  refine cr_obj C oi_X7_3 oi_inst oi_code (Nat.le_refl _) dX7_init_1 ?_
  suffices h : cW X (cR (MkS S i 7 (f_X7 S.length) a_X7)) 4 [(0, .ref ((xG X).2.2 + i))] [] (MkS S i 7 (cdef 7) []) 0 0 by
    rw [MkS_nil hi] at h
    exact h
  refine cr_fld C (ci := 7) (pc := 4) (p1 := 5) (p2 := 7) (p3 := 9) (p4 := 12) (q := 0) (j := 0) (c := 0) (N := 16) hl rfl dX7_init_4 rfl (fun _ _ _ _ => cr_bipush C dX7_init_5 (by decide)) dX7_init_7 rfl dX7_init_9 rfl fl_X7_9 fk_X7_9 (by first | (simp only [List.length_set]; decide) | decide) (fun _ => rfl) (fun _ => rfl) (Or.inl ⟨rfl, rfl, ac_int⟩) (Nat.le_of_ble_eq_true rfl) (Nat.le_of_ble_eq_true rfl) (Nat.le_of_ble_eq_true rfl) ?_
  refine cr_fld C (ci := 7) (pc := 12) (p1 := 13) (p2 := 15) (p3 := 17) (p4 := 20) (q := 0) (j := 1) (c := 0) (N := 16) hl rfl dX7_init_12 rfl (fun _ _ _ _ => cr_bipush C dX7_init_13 (by decide)) dX7_init_15 rfl dX7_init_17 rfl fl_X7_15 fk_X7_15 (by first | (simp only [List.length_set]; decide) | decide) (fun _ => rfl) (fun _ => rfl) (Or.inl ⟨rfl, rfl, ac_int⟩) (Nat.le_of_ble_eq_true rfl) (Nat.le_of_ble_eq_true rfl) (Nat.le_of_ble_eq_true rfl) ?_
  exact cr_ret C (Nat.le_of_ble_eq_true rfl) (Nat.le_of_ble_eq_true rfl) dX7_init_20
