theorem dX9_index_0 : decode cX9_index 0 = .ok (.iload_n 1, 1) := by decide +kernel
theorem dX9_index_1 : decode cX9_index 1 = .ok (.invokestatic 212, 3) := by decide +kernel
theorem dX9_index_4 : decode cX9_index 4 = .ok (.ifCond .eq 20, 3) := by decide +kernel
theorem dX9_index_7 : decode cX9_index 7 = .ok (.aload_n 0, 1) := by decide +kernel
theorem dX9_index_8 : decode cX9_index 8 = .ok (.iload_n 2, 1) := by decide +kernel
theorem dX9_index_9 : decode cX9_index 9 = .ok (.invokevirtual 228, 3) := by decide +kernel
theorem dX9_index_12 : decode cX9_index 12 = .ok (.ifCond .eq 12, 3) := by decide +kernel
theorem dX9_index_15 : decode cX9_index 15 = .ok (.aload_n 0, 1) := by decide +kernel
theorem dX9_index_16 : decode cX9_index 16 = .ok (.iload_n 1, 1) := by decide +kernel
theorem dX9_index_17 : decode cX9_index 17 = .ok (.iload_n 2, 1) := by decide +kernel
theorem dX9_index_18 : decode cX9_index 18 = .ok (.invokevirtual 93, 3) := by decide +kernel
theorem dX9_index_21 : decode cX9_index 21 = .ok (.goto 4, 3) := by decide +kernel
theorem dX9_index_24 : decode cX9_index 24 = .ok (.iconst (-1), 1) := by decide +kernel
theorem dX9_index_25 : decode cX9_index 25 = .ok (.ireturn, 1) := by decide +kernel
def X9_index (a1 : Int32) (a2 : Int32) (m : gM) : Option (Int32 × gM) :=
  gCall (X9_isLine a1 m) (fun (r2 : Bool) (m1 : gM) => if r2 = true then (gCall (X9_isWay a2 m1) (fun (r4 : Bool) (m3 : gM) => if r4 = true then (gCall (X9_indexOf a1 a2 m3) (fun (r6 : Int32) (m5 : gM) => some (r6, m5))) else (some ((-1), m3)))) else (some ((-1), m1)))
set_option maxRecDepth 100000 in
set_option maxHeartbeats 4000000 in
theorem c_X9_index (a1 : Int32) (a2 : Int32) (m : gM) : gCon eI yX9_index cX9_index 3 (some .int) 2 [.inr (9, 0), .inl a1, .inl a2] m (X9_index a1 a2 m) := by
  refine gCon.of (lv := [some (.inr (9, 0)), some (.inl a1), some (.inl a2)]) (by decide +kernel) (Nat.le_of_ble_eq_true rfl) rfl (fun X C => ?_)
  unfold X9_index
  refine r_iload_n C dX9_index_0 rfl rfl ?_
  refine r_insB (As := [.inl a1]) (st := []) C il_X9_212 co_X9_isLine (c_X9_isLine a1 m) (by decide) (by decide) rfl rfl (Nat.le_of_ble_eq_true rfl) dX9_index_1 (fun r2 m1 => ?_)
  refine r_ifeqB (tgt := 24) C dX9_index_4 (by decide) ?_ ?_
  · refine r_iconst (v := (-1)) C dX9_index_24 (by decide) ?_
    exact r_ireturn C dX9_index_25
  refine r_aload_n C dX9_index_7 rfl rfl ?_
  refine r_iload_n C dX9_index_8 rfl rfl ?_
  refine r_invB (t := 9) (kb := 0) (As := [.inl a2]) (st := []) C il_X9_228 co_X9_isWay (by decide) rfl (c_X9_isWay a2 m1) (by decide) (by decide) rfl rfl (Nat.le_of_ble_eq_true rfl) dX9_index_9 (fun r4 m3 => ?_)
  refine r_ifeqB (tgt := 24) C dX9_index_12 (by decide) ?_ ?_
  · refine r_iconst (v := (-1)) C dX9_index_24 (by decide) ?_
    exact r_ireturn C dX9_index_25
  refine r_aload_n C dX9_index_15 rfl rfl ?_
  refine r_iload_n C dX9_index_16 rfl rfl ?_
  refine r_iload_n C dX9_index_17 rfl rfl ?_
  refine r_invI (t := 9) (kb := 0) (As := [.inl a1, .inl a2]) (st := []) C il_X9_93 co_X9_indexOf (by decide) rfl (c_X9_indexOf a1 a2 m3) (by decide) (by decide) rfl rfl (Nat.le_of_ble_eq_true rfl) dX9_index_18 (fun r6 m5 => ?_)
  refine r_goto (tgt := 25) C dX9_index_21 (by decide) ?_
  exact r_ireturn C dX9_index_25
theorem dX9_slot_0 : decode cX9_slot 0 = .ok (.aload_n 0, 1) := by decide +kernel
theorem dX9_slot_1 : decode cX9_slot 1 = .ok (.iload_n 1, 1) := by decide +kernel
theorem dX9_slot_2 : decode cX9_slot 2 = .ok (.invokevirtual 228, 3) := by decide +kernel
theorem dX9_slot_5 : decode cX9_slot 5 = .ok (.ifCond .eq 26, 3) := by decide +kernel
theorem dX9_slot_8 : decode cX9_slot 8 = .ok (.iload_n 2, 1) := by decide +kernel
theorem dX9_slot_9 : decode cX9_slot 9 = .ok (.iconst 0, 1) := by decide +kernel
theorem dX9_slot_10 : decode cX9_slot 10 = .ok (.aload_n 0, 1) := by decide +kernel
theorem dX9_slot_11 : decode cX9_slot 11 = .ok (.invokevirtual 81, 3) := by decide +kernel
theorem dX9_slot_14 : decode cX9_slot 14 = .ok (.iconst 1, 1) := by decide +kernel
theorem dX9_slot_15 : decode cX9_slot 15 = .ok (.isub, 1) := by decide +kernel
theorem dX9_slot_16 : decode cX9_slot 16 = .ok (.invokestatic 77, 3) := by decide +kernel
theorem dX9_slot_19 : decode cX9_slot 19 = .ok (.ifCond .eq 12, 3) := by decide +kernel
theorem dX9_slot_22 : decode cX9_slot 22 = .ok (.iload_n 3, 1) := by decide +kernel
theorem dX9_slot_23 : decode cX9_slot 23 = .ok (.iconst 0, 1) := by decide +kernel
theorem dX9_slot_24 : decode cX9_slot 24 = .ok (.iconst 4, 1) := by decide +kernel
theorem dX9_slot_25 : decode cX9_slot 25 = .ok (.invokestatic 77, 3) := by decide +kernel
theorem dX9_slot_28 : decode cX9_slot 28 = .ok (.ifCond .ne 7, 3) := by decide +kernel
theorem dX9_slot_31 : decode cX9_slot 31 = .ok (.sipush (-10000), 3) := by decide +kernel
theorem dX9_slot_34 : decode cX9_slot 34 = .ok (.ireturn, 1) := by decide +kernel
theorem dX9_slot_35 : decode cX9_slot 35 = .ok (.bipush 16, 2) := by decide +kernel
theorem dX9_slot_37 : decode cX9_slot 37 = .ok (.iload_n 1, 1) := by decide +kernel
theorem dX9_slot_38 : decode cX9_slot 38 = .ok (.imul, 1) := by decide +kernel
theorem dX9_slot_39 : decode cX9_slot 39 = .ok (.iload_n 2, 1) := by decide +kernel
theorem dX9_slot_40 : decode cX9_slot 40 = .ok (.iadd, 1) := by decide +kernel
theorem dX9_slot_41 : decode cX9_slot 41 = .ok (.istore 4, 2) := by decide +kernel
theorem dX9_slot_43 : decode cX9_slot 43 = .ok (.iload_n 3, 1) := by decide +kernel
theorem dX9_slot_44 : decode cX9_slot 44 = .ok (.ifCond .ne 12, 3) := by decide +kernel
theorem dX9_slot_47 : decode cX9_slot 47 = .ok (.aload_n 0, 1) := by decide +kernel
theorem dX9_slot_48 : decode cX9_slot 48 = .ok (.iload 4, 2) := by decide +kernel
theorem dX9_slot_50 : decode cX9_slot 50 = .ok (.invokevirtual 102, 3) := by decide +kernel
theorem dX9_slot_53 : decode cX9_slot 53 = .ok (.goto 15, 3) := by decide +kernel
theorem dX9_slot_56 : decode cX9_slot 56 = .ok (.aload_n 0, 1) := by decide +kernel
theorem dX9_slot_57 : decode cX9_slot 57 = .ok (.getfield 7, 3) := by decide +kernel
theorem dX9_slot_60 : decode cX9_slot 60 = .ok (.iload 4, 2) := by decide +kernel
theorem dX9_slot_62 : decode cX9_slot 62 = .ok (.invokestatic 96, 3) := by decide +kernel
theorem dX9_slot_65 : decode cX9_slot 65 = .ok (.iload_n 3, 1) := by decide +kernel
theorem dX9_slot_66 : decode cX9_slot 66 = .ok (.iadd, 1) := by decide +kernel
theorem dX9_slot_67 : decode cX9_slot 67 = .ok (.iaload, 1) := by decide +kernel
theorem dX9_slot_68 : decode cX9_slot 68 = .ok (.ireturn, 1) := by decide +kernel
def X9_slot (a1 : Int32) (a2 : Int32) (a3 : Int32) (m : gM) : Option (Int32 × gM) :=
  gCall (X9_isWay a1 m) (fun (r2 : Bool) (m1 : gM) => if r2 = true then (gCall (X9_slotsOf m1) (fun (r4 : Int32) (m3 : gM) => gCall (X9_isIn a2 0 (r4 - 1) m3) (fun (r6 : Bool) (m5 : gM) => if r6 = true then (gCall (X9_isIn a3 0 4 m5) (fun (r8 : Bool) (m7 : gM) => if r8 = true then (gLet ((16 * a1) + a2) (fun (x9 : Int32) => if a3 = 0 then (gCall (X9_lineAt x9 m7) (fun (r14 : Int32) (m13 : gM) => some (r14, m13))) else (gCall (X9_at x9 m7) (fun (r11 : Int32) (m10 : gM) => gAt m10 47 0 (r11 + a3) (fun (x12 : Int32) => some (x12, m10)))))) else (some ((-10000), m7)))) else (some ((-10000), m5))))) else (some ((-10000), m1)))
set_option maxRecDepth 100000 in
set_option maxHeartbeats 4000000 in
theorem c_X9_slot (a1 : Int32) (a2 : Int32) (a3 : Int32) (m : gM) : gCon eI yX9_slot cX9_slot 5 (some .int) 2 [.inr (9, 0), .inl a1, .inl a2, .inl a3] m (X9_slot a1 a2 a3 m) := by
  refine gCon.of (lv := [some (.inr (9, 0)), some (.inl a1), some (.inl a2), some (.inl a3), none]) (by decide +kernel) (Nat.le_of_ble_eq_true rfl) rfl (fun X C => ?_)
  unfold X9_slot
  refine r_aload_n C dX9_slot_0 rfl rfl ?_
  refine r_iload_n C dX9_slot_1 rfl rfl ?_
  refine r_invB (t := 9) (kb := 0) (As := [.inl a1]) (st := []) C il_X9_228 co_X9_isWay (by decide) rfl (c_X9_isWay a1 m) (by decide) (by decide) rfl rfl (Nat.le_of_ble_eq_true rfl) dX9_slot_2 (fun r2 m1 => ?_)
  refine r_ifeqB (tgt := 31) C dX9_slot_5 (by decide) ?_ ?_
  · refine r_sipush (v := (-10000)) C dX9_slot_31 (by decide) ?_
    exact r_ireturn C dX9_slot_34
  refine r_iload_n C dX9_slot_8 rfl rfl ?_
  refine r_iconst (v := 0) C dX9_slot_9 (by decide) ?_
  refine r_aload_n C dX9_slot_10 rfl rfl ?_
  refine r_invI (t := 9) (kb := 0) (As := []) (st := [.inl 0, .inl a2]) C il_X9_81 co_X9_slotsOf (by decide) rfl (c_X9_slotsOf m1) (by decide) (by decide) rfl rfl (Nat.le_of_ble_eq_true rfl) dX9_slot_11 (fun r4 m3 => ?_)
  refine r_iconst (v := 1) C dX9_slot_14 (by decide) ?_
  refine r_isub C dX9_slot_15 ?_
  refine r_insB (As := [.inl a2, .inl 0, .inl (r4 - 1)]) (st := []) C il_X9_77 co_X9_isIn (c_X9_isIn a2 0 (r4 - 1) m3) (by decide) (by decide) rfl rfl (Nat.le_of_ble_eq_true rfl) dX9_slot_16 (fun r6 m5 => ?_)
  refine r_ifeqB (tgt := 31) C dX9_slot_19 (by decide) ?_ ?_
  · refine r_sipush (v := (-10000)) C dX9_slot_31 (by decide) ?_
    exact r_ireturn C dX9_slot_34
  refine r_iload_n C dX9_slot_22 rfl rfl ?_
  refine r_iconst (v := 0) C dX9_slot_23 (by decide) ?_
  refine r_iconst (v := 4) C dX9_slot_24 (by decide) ?_
  refine r_insB (As := [.inl a3, .inl 0, .inl 4]) (st := []) C il_X9_77 co_X9_isIn (c_X9_isIn a3 0 4 m5) (by decide) (by decide) rfl rfl (Nat.le_of_ble_eq_true rfl) dX9_slot_25 (fun r8 m7 => ?_)
  refine r_ifneB (tgt := 35) C dX9_slot_28 (by decide) ?_ ?_
  · refine r_bipush (v := 16) C dX9_slot_35 (by decide) ?_
    refine r_iload_n C dX9_slot_37 rfl rfl ?_
    refine r_imul C dX9_slot_38 ?_
    refine r_iload_n C dX9_slot_39 rfl rfl ?_
    refine r_iadd C dX9_slot_40 ?_
    refine r_let (fun x9 => ?_)
    refine r_istore (lv' := [some (.inr (9, 0)), some (.inl a1), some (.inl a2), some (.inl a3), some (.inl x9)]) C dX9_slot_41 (by decide) rfl ?_
    refine r_iload_n C dX9_slot_43 rfl rfl ?_
    refine r_if_ne (tgt := 56) C dX9_slot_44 (by decide) ?_ ?_
    · refine r_aload_n C dX9_slot_56 rfl rfl ?_
      refine r_get (v := .inr (47, 0)) C fl_X9_7 dX9_slot_57 rfl ?_
      refine r_iload C dX9_slot_60 rfl ?_
      refine r_insI (As := [.inl x9]) (st := [.inr (47, 0)]) C il_X9_96 co_X9_at (c_X9_at x9 m7) (by decide) (by decide) rfl rfl (Nat.le_of_ble_eq_true rfl) dX9_slot_62 (fun r11 m10 => ?_)
      refine r_iload_n C dX9_slot_65 rfl rfl ?_
      refine r_iadd C dX9_slot_66 ?_
      refine r_iald C rfl dX9_slot_67 (fun x12 => ?_)
      exact r_ireturn C dX9_slot_68
    refine r_aload_n C dX9_slot_47 rfl rfl ?_
    refine r_iload C dX9_slot_48 rfl ?_
    refine r_invI (t := 9) (kb := 0) (As := [.inl x9]) (st := []) C il_X9_102 co_X9_lineAt (by decide) rfl (c_X9_lineAt x9 m7) (by decide) (by decide) rfl rfl (Nat.le_of_ble_eq_true rfl) dX9_slot_50 (fun r14 m13 => ?_)
    refine r_goto (tgt := 68) C dX9_slot_53 (by decide) ?_
    exact r_ireturn C dX9_slot_68
  refine r_sipush (v := (-10000)) C dX9_slot_31 (by decide) ?_
  exact r_ireturn C dX9_slot_34
theorem dX9_where_0 : decode cX9_where 0 = .ok (.iload_n 1, 1) := by decide +kernel
theorem dX9_where_1 : decode cX9_where 1 = .ok (.invokestatic 212, 3) := by decide +kernel
theorem dX9_where_4 : decode cX9_where 4 = .ok (.ifCond .eq 23, 3) := by decide +kernel
theorem dX9_where_7 : decode cX9_where 7 = .ok (.aload_n 0, 1) := by decide +kernel
theorem dX9_where_8 : decode cX9_where 8 = .ok (.iload_n 1, 1) := by decide +kernel
theorem dX9_where_9 : decode cX9_where 9 = .ok (.invokevirtual 174, 3) := by decide +kernel
theorem dX9_where_12 : decode cX9_where 12 = .ok (.iconst (-1), 1) := by decide +kernel
theorem dX9_where_13 : decode cX9_where 13 = .ok (.if_icmp .eq 14, 3) := by decide +kernel
theorem dX9_where_16 : decode cX9_where 16 = .ok (.aload_n 0, 1) := by decide +kernel
theorem dX9_where_17 : decode cX9_where 17 = .ok (.iload_n 1, 1) := by decide +kernel
theorem dX9_where_18 : decode cX9_where 18 = .ok (.invokevirtual 174, 3) := by decide +kernel
theorem dX9_where_21 : decode cX9_where 21 = .ok (.bipush 16, 2) := by decide +kernel
theorem dX9_where_23 : decode cX9_where 23 = .ok (.idiv, 1) := by decide +kernel
theorem dX9_where_24 : decode cX9_where 24 = .ok (.goto 4, 3) := by decide +kernel
theorem dX9_where_27 : decode cX9_where 27 = .ok (.iconst (-1), 1) := by decide +kernel
theorem dX9_where_28 : decode cX9_where 28 = .ok (.ireturn, 1) := by decide +kernel
def X9_where (a1 : Int32) (m : gM) : Option (Int32 × gM) :=
  gCall (X9_isLine a1 m) (fun (r2 : Bool) (m1 : gM) => if r2 = true then (gCall (X9_placeWith a1 m1) (fun (r4 : Int32) (m3 : gM) => if r4 = (-1) then (some ((-1), m3)) else (gCall (X9_placeWith a1 m3) (fun (r6 : Int32) (m5 : gM) => some (r6 / 16, m5))))) else (some ((-1), m1)))
set_option maxRecDepth 100000 in
set_option maxHeartbeats 4000000 in
theorem c_X9_where (a1 : Int32) (m : gM) : gCon eI yX9_where cX9_where 2 (some .int) 4 [.inr (9, 0), .inl a1] m (X9_where a1 m) := by
  refine gCon.of (lv := [some (.inr (9, 0)), some (.inl a1)]) (by decide +kernel) (Nat.le_of_ble_eq_true rfl) rfl (fun X C => ?_)
  unfold X9_where
  refine r_iload_n C dX9_where_0 rfl rfl ?_
  refine r_insB (As := [.inl a1]) (st := []) C il_X9_212 co_X9_isLine (c_X9_isLine a1 m) (by decide) (by decide) rfl rfl (Nat.le_of_ble_eq_true rfl) dX9_where_1 (fun r2 m1 => ?_)
  refine r_ifeqB (tgt := 27) C dX9_where_4 (by decide) ?_ ?_
  · refine r_iconst (v := (-1)) C dX9_where_27 (by decide) ?_
    exact r_ireturn C dX9_where_28
  refine r_aload_n C dX9_where_7 rfl rfl ?_
  refine r_iload_n C dX9_where_8 rfl rfl ?_
  refine r_invI (t := 9) (kb := 0) (As := [.inl a1]) (st := []) C il_X9_174 co_X9_placeWith (by decide) rfl (c_X9_placeWith a1 m1) (by decide) (by decide) rfl rfl (Nat.le_of_ble_eq_true rfl) dX9_where_9 (fun r4 m3 => ?_)
  refine r_iconst (v := (-1)) C dX9_where_12 (by decide) ?_
  refine r_icmp_eq (tgt := 27) C dX9_where_13 (by decide) ?_ ?_
  · refine r_iconst (v := (-1)) C dX9_where_27 (by decide) ?_
    exact r_ireturn C dX9_where_28
  refine r_aload_n C dX9_where_16 rfl rfl ?_
  refine r_iload_n C dX9_where_17 rfl rfl ?_
  refine r_invI (t := 9) (kb := 0) (As := [.inl a1]) (st := []) C il_X9_174 co_X9_placeWith (by decide) rfl (c_X9_placeWith a1 m3) (by decide) (by decide) rfl rfl (Nat.le_of_ble_eq_true rfl) dX9_where_18 (fun r6 m5 => ?_)
  refine r_bipush (v := 16) C dX9_where_21 (by decide) ?_
  refine r_idiv C dX9_where_23 (by decide) ?_
  refine r_goto (tgt := 28) C dX9_where_24 (by decide) ?_
  exact r_ireturn C dX9_where_28
theorem dX9_memory_0 : decode cX9_memory 0 = .ok (.iload_n 1, 1) := by decide +kernel
theorem dX9_memory_1 : decode cX9_memory 1 = .ok (.invokestatic 212, 3) := by decide +kernel
theorem dX9_memory_4 : decode cX9_memory 4 = .ok (.ifCond .eq 16, 3) := by decide +kernel
theorem dX9_memory_7 : decode cX9_memory 7 = .ok (.aload_n 0, 1) := by decide +kernel
theorem dX9_memory_8 : decode cX9_memory 8 = .ok (.getfield 7, 3) := by decide +kernel
theorem dX9_memory_11 : decode cX9_memory 11 = .ok (.sipush 383, 3) := by decide +kernel
theorem dX9_memory_14 : decode cX9_memory 14 = .ok (.iload_n 1, 1) := by decide +kernel
theorem dX9_memory_15 : decode cX9_memory 15 = .ok (.iadd, 1) := by decide +kernel
theorem dX9_memory_16 : decode cX9_memory 16 = .ok (.iaload, 1) := by decide +kernel
theorem dX9_memory_17 : decode cX9_memory 17 = .ok (.goto 6, 3) := by decide +kernel
theorem dX9_memory_20 : decode cX9_memory 20 = .ok (.sipush (-10000), 3) := by decide +kernel
theorem dX9_memory_23 : decode cX9_memory 23 = .ok (.ireturn, 1) := by decide +kernel
def X9_memory (a1 : Int32) (m : gM) : Option (Int32 × gM) :=
  gCall (X9_isLine a1 m) (fun (r2 : Bool) (m1 : gM) => if r2 = true then (gAt m1 47 0 (383 + a1) (fun (x3 : Int32) => some (x3, m1))) else (some ((-10000), m1)))
set_option maxRecDepth 100000 in
set_option maxHeartbeats 4000000 in
theorem c_X9_memory (a1 : Int32) (m : gM) : gCon eI yX9_memory cX9_memory 2 (some .int) 2 [.inr (9, 0), .inl a1] m (X9_memory a1 m) := by
  refine gCon.of (lv := [some (.inr (9, 0)), some (.inl a1)]) (by decide +kernel) (Nat.le_of_ble_eq_true rfl) rfl (fun X C => ?_)
  unfold X9_memory
  refine r_iload_n C dX9_memory_0 rfl rfl ?_
  refine r_insB (As := [.inl a1]) (st := []) C il_X9_212 co_X9_isLine (c_X9_isLine a1 m) (by decide) (by decide) rfl rfl (Nat.le_of_ble_eq_true rfl) dX9_memory_1 (fun r2 m1 => ?_)
  refine r_ifeqB (tgt := 20) C dX9_memory_4 (by decide) ?_ ?_
  · refine r_sipush (v := (-10000)) C dX9_memory_20 (by decide) ?_
    exact r_ireturn C dX9_memory_23
  refine r_aload_n C dX9_memory_7 rfl rfl ?_
  refine r_get (v := .inr (47, 0)) C fl_X9_7 dX9_memory_8 rfl ?_
  refine r_sipush (v := 383) C dX9_memory_11 (by decide) ?_
  refine r_iload_n C dX9_memory_14 rfl rfl ?_
  refine r_iadd C dX9_memory_15 ?_
  refine r_iald C rfl dX9_memory_16 (fun x3 => ?_)
  refine r_goto (tgt := 23) C dX9_memory_17 (by decide) ?_
  exact r_ireturn C dX9_memory_23
theorem dX9_value_0 : decode cX9_value 0 = .ok (.iload_n 1, 1) := by decide +kernel
theorem dX9_value_1 : decode cX9_value 1 = .ok (.invokestatic 212, 3) := by decide +kernel
theorem dX9_value_4 : decode cX9_value 4 = .ok (.ifCond .eq 11, 3) := by decide +kernel
theorem dX9_value_7 : decode cX9_value 7 = .ok (.aload_n 0, 1) := by decide +kernel
theorem dX9_value_8 : decode cX9_value 8 = .ok (.iload_n 1, 1) := by decide +kernel
theorem dX9_value_9 : decode cX9_value 9 = .ok (.invokevirtual 218, 3) := by decide +kernel
theorem dX9_value_12 : decode cX9_value 12 = .ok (.goto 6, 3) := by decide +kernel
theorem dX9_value_15 : decode cX9_value 15 = .ok (.sipush (-10000), 3) := by decide +kernel
theorem dX9_value_18 : decode cX9_value 18 = .ok (.ireturn, 1) := by decide +kernel
def X9_value (a1 : Int32) (m : gM) : Option (Int32 × gM) :=
  gCall (X9_isLine a1 m) (fun (r2 : Bool) (m1 : gM) => if r2 = true then (gCall (X9_valueOf a1 m1) (fun (r4 : Int32) (m3 : gM) => some (r4, m3))) else (some ((-10000), m1)))
set_option maxRecDepth 100000 in
set_option maxHeartbeats 4000000 in
theorem c_X9_value (a1 : Int32) (m : gM) : gCon eI yX9_value cX9_value 2 (some .int) 5 [.inr (9, 0), .inl a1] m (X9_value a1 m) := by
  refine gCon.of (lv := [some (.inr (9, 0)), some (.inl a1)]) (by decide +kernel) (Nat.le_of_ble_eq_true rfl) rfl (fun X C => ?_)
  unfold X9_value
  refine r_iload_n C dX9_value_0 rfl rfl ?_
  refine r_insB (As := [.inl a1]) (st := []) C il_X9_212 co_X9_isLine (c_X9_isLine a1 m) (by decide) (by decide) rfl rfl (Nat.le_of_ble_eq_true rfl) dX9_value_1 (fun r2 m1 => ?_)
  refine r_ifeqB (tgt := 15) C dX9_value_4 (by decide) ?_ ?_
  · refine r_sipush (v := (-10000)) C dX9_value_15 (by decide) ?_
    exact r_ireturn C dX9_value_18
  refine r_aload_n C dX9_value_7 rfl rfl ?_
  refine r_iload_n C dX9_value_8 rfl rfl ?_
  refine r_invI (t := 9) (kb := 0) (As := [.inl a1]) (st := []) C il_X9_218 co_X9_valueOf (by decide) rfl (c_X9_valueOf a1 m1) (by decide) (by decide) rfl rfl (Nat.le_of_ble_eq_true rfl) dX9_value_9 (fun r4 m3 => ?_)
  refine r_goto (tgt := 18) C dX9_value_12 (by decide) ?_
  exact r_ireturn C dX9_value_18
theorem dX9_aged_0 : decode cX9_aged 0 = .ok (.iconst 0, 1) := by decide +kernel
theorem dX9_aged_1 : decode cX9_aged 1 = .ok (.istore_n 2, 1) := by decide +kernel
theorem dX9_aged_2 : decode cX9_aged 2 = .ok (.iconst 0, 1) := by decide +kernel
theorem dX9_aged_3 : decode cX9_aged 3 = .ok (.istore_n 3, 1) := by decide +kernel
theorem dX9_aged_4 : decode cX9_aged 4 = .ok (.iload_n 3, 1) := by decide +kernel
theorem dX9_aged_5 : decode cX9_aged 5 = .ok (.bipush 64, 2) := by decide +kernel
theorem dX9_aged_7 : decode cX9_aged 7 = .ok (.if_icmp .ge 41, 3) := by decide +kernel
theorem dX9_aged_10 : decode cX9_aged 10 = .ok (.iload_n 2, 1) := by decide +kernel
theorem dX9_aged_11 : decode cX9_aged 11 = .ok (.aload_n 0, 1) := by decide +kernel
theorem dX9_aged_12 : decode cX9_aged 12 = .ok (.iload_n 3, 1) := by decide +kernel
theorem dX9_aged_13 : decode cX9_aged 13 = .ok (.invokevirtual 102, 3) := by decide +kernel
theorem dX9_aged_16 : decode cX9_aged 16 = .ok (.iconst (-1), 1) := by decide +kernel
theorem dX9_aged_17 : decode cX9_aged 17 = .ok (.if_icmp .eq 22, 3) := by decide +kernel
theorem dX9_aged_20 : decode cX9_aged 20 = .ok (.aload_n 0, 1) := by decide +kernel
theorem dX9_aged_21 : decode cX9_aged 21 = .ok (.getfield 7, 3) := by decide +kernel
theorem dX9_aged_24 : decode cX9_aged 24 = .ok (.iload_n 3, 1) := by decide +kernel
theorem dX9_aged_25 : decode cX9_aged 25 = .ok (.invokestatic 96, 3) := by decide +kernel
theorem dX9_aged_28 : decode cX9_aged 28 = .ok (.iconst 3, 1) := by decide +kernel
theorem dX9_aged_29 : decode cX9_aged 29 = .ok (.iadd, 1) := by decide +kernel
theorem dX9_aged_30 : decode cX9_aged 30 = .ok (.iaload, 1) := by decide +kernel
theorem dX9_aged_31 : decode cX9_aged 31 = .ok (.iload_n 1, 1) := by decide +kernel
theorem dX9_aged_32 : decode cX9_aged 32 = .ok (.if_icmp .ne 7, 3) := by decide +kernel
theorem dX9_aged_35 : decode cX9_aged 35 = .ok (.iconst 1, 1) := by decide +kernel
theorem dX9_aged_36 : decode cX9_aged 36 = .ok (.goto 4, 3) := by decide +kernel
theorem dX9_aged_39 : decode cX9_aged 39 = .ok (.iconst 0, 1) := by decide +kernel
theorem dX9_aged_40 : decode cX9_aged 40 = .ok (.iadd, 1) := by decide +kernel
theorem dX9_aged_41 : decode cX9_aged 41 = .ok (.istore_n 2, 1) := by decide +kernel
theorem dX9_aged_42 : decode cX9_aged 42 = .ok (.iinc 3 1, 3) := by decide +kernel
theorem dX9_aged_45 : decode cX9_aged 45 = .ok (.goto (-41), 3) := by decide +kernel
theorem dX9_aged_48 : decode cX9_aged 48 = .ok (.iload_n 2, 1) := by decide +kernel
theorem dX9_aged_49 : decode cX9_aged 49 = .ok (.ireturn, 1) := by decide +kernel
def X9_aged_b4 (a1 : Int32) (v1 v2 : Int32) (m3 : gM) (k4 : Int32 → Int32 → gM → Option (Int32 × gM)) : Option (Int32 × gM) :=
  if 64 ≤ v2 then (some (v1, m3)) else (gCall (X9_lineAt v2 m3) (fun (r5 : Int32) (m4 : gM) => if r5 = (-1) then (gLet (v1 + 0) (fun (x6 : Int32) => gLet (v2 + 1) (fun (x7 : Int32) => k4 x6 x7 m4))) else (gCall (X9_at v2 m4) (fun (r9 : Int32) (m8 : gM) => gAt m8 47 0 (r9 + 3) (fun (x10 : Int32) => if x10 = a1 then (gLet (v1 + 1) (fun (x13 : Int32) => gLet (v2 + 1) (fun (x14 : Int32) => k4 x13 x14 m8))) else (gLet (v1 + 0) (fun (x11 : Int32) => gLet (v2 + 1) (fun (x12 : Int32) => k4 x11 x12 m8))))))))
def X9_aged (a1 : Int32) (m : gM) : Option (Int32 × gM) :=
  gL2 FU (X9_aged_b4 a1) 0 0 m
set_option maxRecDepth 100000 in
set_option maxHeartbeats 4000000 in
theorem c_X9_aged (a1 : Int32) (m : gM) : gCon eI yX9_aged cX9_aged 4 (some .int) 2 [.inr (9, 0), .inl a1] m (X9_aged a1 m) := by
  refine gCon.of (lv := [some (.inr (9, 0)), some (.inl a1), none, none]) (by decide +kernel) (Nat.le_of_ble_eq_true rfl) rfl (fun X C => ?_)
  unfold X9_aged
  refine r_iconst (v := 0) C dX9_aged_0 (by decide) ?_
  refine r_istore_n (lv' := [some (.inr (9, 0)), some (.inl a1), some (.inl 0), none]) C dX9_aged_1 rfl (by decide) rfl ?_
  refine r_iconst (v := 0) C dX9_aged_2 (by decide) ?_
  refine r_istore_n (lv' := [some (.inr (9, 0)), some (.inl a1), some (.inl 0), some (.inl 0)]) C dX9_aged_3 rfl (by decide) rfl ?_
  refine r_weak (lv' := [some (.inr (9, 0)), some (.inl a1), some (.inl 0), some (.inl 0)]) ⟨rfl, rfl, rfl, rfl, trivial⟩ ?_
  refine r_l2 (pj := 4) (fun v1 v2 => [some (.inr (9, 0)), some (.inl a1), some (.inl v1), some (.inl v2)]) (fun v1 v2 m3 k4 hk4 => ?_) _ _ _ _
  unfold X9_aged_b4
  refine r_iload_n C dX9_aged_4 rfl rfl ?_
  refine r_bipush (v := 64) C dX9_aged_5 (by decide) ?_
  refine r_icmp_ge (tgt := 48) C dX9_aged_7 (by decide) ?_ ?_
  · refine r_iload_n C dX9_aged_48 rfl rfl ?_
    exact r_ireturn C dX9_aged_49
  refine r_iload_n C dX9_aged_10 rfl rfl ?_
  refine r_aload_n C dX9_aged_11 rfl rfl ?_
  refine r_iload_n C dX9_aged_12 rfl rfl ?_
  refine r_invI (t := 9) (kb := 0) (As := [.inl v2]) (st := [.inl v1]) C il_X9_102 co_X9_lineAt (by decide) rfl (c_X9_lineAt v2 m3) (by decide) (by decide) rfl rfl (Nat.le_of_ble_eq_true rfl) dX9_aged_13 (fun r5 m4 => ?_)
  refine r_iconst (v := (-1)) C dX9_aged_16 (by decide) ?_
  refine r_icmp_eq (tgt := 39) C dX9_aged_17 (by decide) ?_ ?_
  · refine r_iconst (v := 0) C dX9_aged_39 (by decide) ?_
    refine r_iadd C dX9_aged_40 ?_
    refine r_let (fun x6 => ?_)
    refine r_istore_n (lv' := [some (.inr (9, 0)), some (.inl a1), some (.inl x6), some (.inl v2)]) C dX9_aged_41 rfl (by decide) rfl ?_
    refine r_iinc (v := 1) C dX9_aged_42 (by decide) rfl (by decide) (fun x7 => ?_)
    show gw X eI _ [some (.inr (9, 0)), some (.inl a1), some (.inl x6), some (.inl x7)] _ _ _
    refine r_goto (tgt := 4) C dX9_aged_45 (by decide) ?_
    exact r_weak (lv' := [some (.inr (9, 0)), some (.inl a1), some (.inl x6), some (.inl x7)]) ⟨rfl, rfl, rfl, rfl, trivial⟩ (hk4 _ _ _)
  refine r_aload_n C dX9_aged_20 rfl rfl ?_
  refine r_get (v := .inr (47, 0)) C fl_X9_7 dX9_aged_21 rfl ?_
  refine r_iload_n C dX9_aged_24 rfl rfl ?_
  refine r_insI (As := [.inl v2]) (st := [.inr (47, 0), .inl v1]) C il_X9_96 co_X9_at (c_X9_at v2 m4) (by decide) (by decide) rfl rfl (Nat.le_of_ble_eq_true rfl) dX9_aged_25 (fun r9 m8 => ?_)
  refine r_iconst (v := 3) C dX9_aged_28 (by decide) ?_
  refine r_iadd C dX9_aged_29 ?_
  refine r_iald C rfl dX9_aged_30 (fun x10 => ?_)
  refine r_iload_n C dX9_aged_31 rfl rfl ?_
  refine r_icmp_ne (tgt := 39) C dX9_aged_32 (by decide) ?_ ?_
  · refine r_iconst (v := 0) C dX9_aged_39 (by decide) ?_
    refine r_iadd C dX9_aged_40 ?_
    refine r_let (fun x11 => ?_)
    refine r_istore_n (lv' := [some (.inr (9, 0)), some (.inl a1), some (.inl x11), some (.inl v2)]) C dX9_aged_41 rfl (by decide) rfl ?_
    refine r_iinc (v := 1) C dX9_aged_42 (by decide) rfl (by decide) (fun x12 => ?_)
    show gw X eI _ [some (.inr (9, 0)), some (.inl a1), some (.inl x11), some (.inl x12)] _ _ _
    refine r_goto (tgt := 4) C dX9_aged_45 (by decide) ?_
    exact r_weak (lv' := [some (.inr (9, 0)), some (.inl a1), some (.inl x11), some (.inl x12)]) ⟨rfl, rfl, rfl, rfl, trivial⟩ (hk4 _ _ _)
  refine r_iconst (v := 1) C dX9_aged_35 (by decide) ?_
  refine r_goto (tgt := 40) C dX9_aged_36 (by decide) ?_
  refine r_iadd C dX9_aged_40 ?_
  refine r_let (fun x13 => ?_)
  refine r_istore_n (lv' := [some (.inr (9, 0)), some (.inl a1), some (.inl x13), some (.inl v2)]) C dX9_aged_41 rfl (by decide) rfl ?_
  refine r_iinc (v := 1) C dX9_aged_42 (by decide) rfl (by decide) (fun x14 => ?_)
  show gw X eI _ [some (.inr (9, 0)), some (.inl a1), some (.inl x13), some (.inl x14)] _ _ _
  refine r_goto (tgt := 4) C dX9_aged_45 (by decide) ?_
  exact r_weak (lv' := [some (.inr (9, 0)), some (.inl a1), some (.inl x13), some (.inl x14)]) ⟨rfl, rfl, rfl, rfl, trivial⟩ (hk4 _ _ _)
theorem dX9_book_0 : decode cX9_book 0 = .ok (.iload_n 1, 1) := by decide +kernel
theorem dX9_book_1 : decode cX9_book 1 = .ok (.iconst (-1), 1) := by decide +kernel
theorem dX9_book_2 : decode cX9_book 2 = .ok (.if_icmp .ne 11, 3) := by decide +kernel
theorem dX9_book_5 : decode cX9_book 5 = .ok (.aload_n 0, 1) := by decide +kernel
theorem dX9_book_6 : decode cX9_book 6 = .ok (.getfield 7, 3) := by decide +kernel
theorem dX9_book_9 : decode cX9_book 9 = .ok (.bipush 46, 2) := by decide +kernel
theorem dX9_book_11 : decode cX9_book 11 = .ok (.iaload, 1) := by decide +kernel
theorem dX9_book_12 : decode cX9_book 12 = .ok (.ireturn, 1) := by decide +kernel
theorem dX9_book_13 : decode cX9_book 13 = .ok (.iload_n 1, 1) := by decide +kernel
theorem dX9_book_14 : decode cX9_book 14 = .ok (.iconst 0, 1) := by decide +kernel
theorem dX9_book_15 : decode cX9_book 15 = .ok (.aload_n 0, 1) := by decide +kernel
theorem dX9_book_16 : decode cX9_book 16 = .ok (.getfield 7, 3) := by decide +kernel
theorem dX9_book_19 : decode cX9_book 19 = .ok (.bipush 46, 2) := by decide +kernel
theorem dX9_book_21 : decode cX9_book 21 = .ok (.iaload, 1) := by decide +kernel
theorem dX9_book_22 : decode cX9_book 22 = .ok (.iconst 1, 1) := by decide +kernel
theorem dX9_book_23 : decode cX9_book 23 = .ok (.isub, 1) := by decide +kernel
theorem dX9_book_24 : decode cX9_book 24 = .ok (.invokestatic 77, 3) := by decide +kernel
theorem dX9_book_27 : decode cX9_book 27 = .ok (.ifCond .eq 29, 3) := by decide +kernel
theorem dX9_book_30 : decode cX9_book 30 = .ok (.iload_n 2, 1) := by decide +kernel
theorem dX9_book_31 : decode cX9_book 31 = .ok (.iconst 0, 1) := by decide +kernel
theorem dX9_book_32 : decode cX9_book 32 = .ok (.iconst 3, 1) := by decide +kernel
theorem dX9_book_33 : decode cX9_book 33 = .ok (.invokestatic 77, 3) := by decide +kernel
theorem dX9_book_36 : decode cX9_book 36 = .ok (.ifCond .eq 20, 3) := by decide +kernel
theorem dX9_book_39 : decode cX9_book 39 = .ok (.aload_n 0, 1) := by decide +kernel
theorem dX9_book_40 : decode cX9_book 40 = .ok (.getfield 7, 3) := by decide +kernel
theorem dX9_book_43 : decode cX9_book 43 = .ok (.sipush 1407, 3) := by decide +kernel
theorem dX9_book_46 : decode cX9_book 46 = .ok (.iconst 4, 1) := by decide +kernel
theorem dX9_book_47 : decode cX9_book 47 = .ok (.iload_n 1, 1) := by decide +kernel
theorem dX9_book_48 : decode cX9_book 48 = .ok (.imul, 1) := by decide +kernel
theorem dX9_book_49 : decode cX9_book 49 = .ok (.iadd, 1) := by decide +kernel
theorem dX9_book_50 : decode cX9_book 50 = .ok (.iload_n 2, 1) := by decide +kernel
theorem dX9_book_51 : decode cX9_book 51 = .ok (.iadd, 1) := by decide +kernel
theorem dX9_book_52 : decode cX9_book 52 = .ok (.iaload, 1) := by decide +kernel
theorem dX9_book_53 : decode cX9_book 53 = .ok (.goto 5, 3) := by decide +kernel
theorem dX9_book_56 : decode cX9_book 56 = .ok (.bipush (-2), 2) := by decide +kernel
theorem dX9_book_58 : decode cX9_book 58 = .ok (.ireturn, 1) := by decide +kernel
def X9_book (a1 : Int32) (a2 : Int32) (m : gM) : Option (Int32 × gM) :=
  if a1 = (-1) then (gAt m 47 0 46 (fun (x7 : Int32) => some (x7, m))) else (gAt m 47 0 46 (fun (x1 : Int32) => gCall (X9_isIn a1 0 (x1 - 1) m) (fun (r3 : Bool) (m2 : gM) => if r3 = true then (gCall (X9_isIn a2 0 3 m2) (fun (r5 : Bool) (m4 : gM) => if r5 = true then (gAt m4 47 0 ((1407 + (4 * a1)) + a2) (fun (x6 : Int32) => some (x6, m4))) else (some ((-2), m4)))) else (some ((-2), m2)))))
set_option maxRecDepth 100000 in
set_option maxHeartbeats 4000000 in
theorem c_X9_book (a1 : Int32) (a2 : Int32) (m : gM) : gCon eI yX9_book cX9_book 3 (some .int) 1 [.inr (9, 0), .inl a1, .inl a2] m (X9_book a1 a2 m) := by
  refine gCon.of (lv := [some (.inr (9, 0)), some (.inl a1), some (.inl a2)]) (by decide +kernel) (Nat.le_of_ble_eq_true rfl) rfl (fun X C => ?_)
  unfold X9_book
  refine r_iload_n C dX9_book_0 rfl rfl ?_
  refine r_iconst (v := (-1)) C dX9_book_1 (by decide) ?_
  refine r_icmp_ne (tgt := 13) C dX9_book_2 (by decide) ?_ ?_
  · refine r_iload_n C dX9_book_13 rfl rfl ?_
    refine r_iconst (v := 0) C dX9_book_14 (by decide) ?_
    refine r_aload_n C dX9_book_15 rfl rfl ?_
    refine r_get (v := .inr (47, 0)) C fl_X9_7 dX9_book_16 rfl ?_
    refine r_bipush (v := 46) C dX9_book_19 (by decide) ?_
    refine r_iald C rfl dX9_book_21 (fun x1 => ?_)
    refine r_iconst (v := 1) C dX9_book_22 (by decide) ?_
    refine r_isub C dX9_book_23 ?_
    refine r_insB (As := [.inl a1, .inl 0, .inl (x1 - 1)]) (st := []) C il_X9_77 co_X9_isIn (c_X9_isIn a1 0 (x1 - 1) m) (by decide) (by decide) rfl rfl (Nat.le_of_ble_eq_true rfl) dX9_book_24 (fun r3 m2 => ?_)
    refine r_ifeqB (tgt := 56) C dX9_book_27 (by decide) ?_ ?_
    · refine r_bipush (v := (-2)) C dX9_book_56 (by decide) ?_
      exact r_ireturn C dX9_book_58
    refine r_iload_n C dX9_book_30 rfl rfl ?_
    refine r_iconst (v := 0) C dX9_book_31 (by decide) ?_
    refine r_iconst (v := 3) C dX9_book_32 (by decide) ?_
    refine r_insB (As := [.inl a2, .inl 0, .inl 3]) (st := []) C il_X9_77 co_X9_isIn (c_X9_isIn a2 0 3 m2) (by decide) (by decide) rfl rfl (Nat.le_of_ble_eq_true rfl) dX9_book_33 (fun r5 m4 => ?_)
    refine r_ifeqB (tgt := 56) C dX9_book_36 (by decide) ?_ ?_
    · refine r_bipush (v := (-2)) C dX9_book_56 (by decide) ?_
      exact r_ireturn C dX9_book_58
    refine r_aload_n C dX9_book_39 rfl rfl ?_
    refine r_get (v := .inr (47, 0)) C fl_X9_7 dX9_book_40 rfl ?_
    refine r_sipush (v := 1407) C dX9_book_43 (by decide) ?_
    refine r_iconst (v := 4) C dX9_book_46 (by decide) ?_
    refine r_iload_n C dX9_book_47 rfl rfl ?_
    refine r_imul C dX9_book_48 ?_
    refine r_iadd C dX9_book_49 ?_
    refine r_iload_n C dX9_book_50 rfl rfl ?_
    refine r_iadd C dX9_book_51 ?_
    refine r_iald C rfl dX9_book_52 (fun x6 => ?_)
    refine r_goto (tgt := 58) C dX9_book_53 (by decide) ?_
    exact r_ireturn C dX9_book_58
  refine r_aload_n C dX9_book_5 rfl rfl ?_
  refine r_get (v := .inr (47, 0)) C fl_X9_7 dX9_book_6 rfl ?_
  refine r_bipush (v := 46) C dX9_book_9 (by decide) ?_
  refine r_iald C rfl dX9_book_11 (fun x7 => ?_)
  exact r_ireturn C dX9_book_12
theorem dX9_stale_0 : decode cX9_stale 0 = .ok (.iconst 0, 1) := by decide +kernel
theorem dX9_stale_1 : decode cX9_stale 1 = .ok (.istore_n 1, 1) := by decide +kernel
theorem dX9_stale_2 : decode cX9_stale 2 = .ok (.iconst 0, 1) := by decide +kernel
theorem dX9_stale_3 : decode cX9_stale 3 = .ok (.istore_n 2, 1) := by decide +kernel
theorem dX9_stale_4 : decode cX9_stale 4 = .ok (.iload_n 2, 1) := by decide +kernel
theorem dX9_stale_5 : decode cX9_stale 5 = .ok (.bipush 64, 2) := by decide +kernel
theorem dX9_stale_7 : decode cX9_stale 7 = .ok (.if_icmp .ge 54, 3) := by decide +kernel
theorem dX9_stale_10 : decode cX9_stale 10 = .ok (.iload_n 1, 1) := by decide +kernel
theorem dX9_stale_11 : decode cX9_stale 11 = .ok (.aload_n 0, 1) := by decide +kernel
theorem dX9_stale_12 : decode cX9_stale 12 = .ok (.iload_n 2, 1) := by decide +kernel
theorem dX9_stale_13 : decode cX9_stale 13 = .ok (.invokevirtual 102, 3) := by decide +kernel
theorem dX9_stale_16 : decode cX9_stale 16 = .ok (.iconst (-1), 1) := by decide +kernel
theorem dX9_stale_17 : decode cX9_stale 17 = .ok (.if_icmp .eq 35, 3) := by decide +kernel
theorem dX9_stale_20 : decode cX9_stale 20 = .ok (.aload_n 0, 1) := by decide +kernel
theorem dX9_stale_21 : decode cX9_stale 21 = .ok (.getfield 7, 3) := by decide +kernel
theorem dX9_stale_24 : decode cX9_stale 24 = .ok (.iload_n 2, 1) := by decide +kernel
theorem dX9_stale_25 : decode cX9_stale 25 = .ok (.invokestatic 96, 3) := by decide +kernel
theorem dX9_stale_28 : decode cX9_stale 28 = .ok (.iconst 1, 1) := by decide +kernel
theorem dX9_stale_29 : decode cX9_stale 29 = .ok (.iadd, 1) := by decide +kernel
theorem dX9_stale_30 : decode cX9_stale 30 = .ok (.iaload, 1) := by decide +kernel
theorem dX9_stale_31 : decode cX9_stale 31 = .ok (.aload_n 0, 1) := by decide +kernel
theorem dX9_stale_32 : decode cX9_stale 32 = .ok (.getfield 7, 3) := by decide +kernel
theorem dX9_stale_35 : decode cX9_stale 35 = .ok (.sipush 383, 3) := by decide +kernel
theorem dX9_stale_38 : decode cX9_stale 38 = .ok (.aload_n 0, 1) := by decide +kernel
theorem dX9_stale_39 : decode cX9_stale 39 = .ok (.iload_n 2, 1) := by decide +kernel
theorem dX9_stale_40 : decode cX9_stale 40 = .ok (.invokevirtual 102, 3) := by decide +kernel
theorem dX9_stale_43 : decode cX9_stale 43 = .ok (.iadd, 1) := by decide +kernel
theorem dX9_stale_44 : decode cX9_stale 44 = .ok (.iaload, 1) := by decide +kernel
theorem dX9_stale_45 : decode cX9_stale 45 = .ok (.if_icmp .eq 7, 3) := by decide +kernel
theorem dX9_stale_48 : decode cX9_stale 48 = .ok (.iconst 1, 1) := by decide +kernel
theorem dX9_stale_49 : decode cX9_stale 49 = .ok (.goto 4, 3) := by decide +kernel
theorem dX9_stale_52 : decode cX9_stale 52 = .ok (.iconst 0, 1) := by decide +kernel
theorem dX9_stale_53 : decode cX9_stale 53 = .ok (.iadd, 1) := by decide +kernel
theorem dX9_stale_54 : decode cX9_stale 54 = .ok (.istore_n 1, 1) := by decide +kernel
theorem dX9_stale_55 : decode cX9_stale 55 = .ok (.iinc 2 1, 3) := by decide +kernel
theorem dX9_stale_58 : decode cX9_stale 58 = .ok (.goto (-54), 3) := by decide +kernel
theorem dX9_stale_61 : decode cX9_stale 61 = .ok (.iload_n 1, 1) := by decide +kernel
theorem dX9_stale_62 : decode cX9_stale 62 = .ok (.ireturn, 1) := by decide +kernel
def X9_stale_b4 (v1 v2 : Int32) (m3 : gM) (k4 : Int32 → Int32 → gM → Option (Int32 × gM)) : Option (Int32 × gM) :=
  if 64 ≤ v2 then (some (v1, m3)) else (gCall (X9_lineAt v2 m3) (fun (r5 : Int32) (m4 : gM) => if r5 = (-1) then (gLet (v1 + 0) (fun (x6 : Int32) => gLet (v2 + 1) (fun (x7 : Int32) => k4 x6 x7 m4))) else (gCall (X9_at v2 m4) (fun (r9 : Int32) (m8 : gM) => gAt m8 47 0 (r9 + 1) (fun (x10 : Int32) => gCall (X9_lineAt v2 m8) (fun (r12 : Int32) (m11 : gM) => gAt m11 47 0 (383 + r12) (fun (x13 : Int32) => if x10 = x13 then (gLet (v1 + 0) (fun (x14 : Int32) => gLet (v2 + 1) (fun (x15 : Int32) => k4 x14 x15 m11))) else (gLet (v1 + 1) (fun (x16 : Int32) => gLet (v2 + 1) (fun (x17 : Int32) => k4 x16 x17 m11))))))))))
def X9_stale (m : gM) : Option (Int32 × gM) :=
  gL2 FU X9_stale_b4 0 0 m
set_option maxRecDepth 100000 in
set_option maxHeartbeats 4000000 in
theorem c_X9_stale (m : gM) : gCon eI yX9_stale cX9_stale 3 (some .int) 2 [.inr (9, 0)] m (X9_stale m) := by
  refine gCon.of (lv := [some (.inr (9, 0)), none, none]) (by decide +kernel) (Nat.le_of_ble_eq_true rfl) rfl (fun X C => ?_)
  unfold X9_stale
  refine r_iconst (v := 0) C dX9_stale_0 (by decide) ?_
  refine r_istore_n (lv' := [some (.inr (9, 0)), some (.inl 0), none]) C dX9_stale_1 rfl (by decide) rfl ?_
  refine r_iconst (v := 0) C dX9_stale_2 (by decide) ?_
  refine r_istore_n (lv' := [some (.inr (9, 0)), some (.inl 0), some (.inl 0)]) C dX9_stale_3 rfl (by decide) rfl ?_
  refine r_weak (lv' := [some (.inr (9, 0)), some (.inl 0), some (.inl 0)]) ⟨rfl, rfl, rfl, trivial⟩ ?_
  refine r_l2 (pj := 4) (fun v1 v2 => [some (.inr (9, 0)), some (.inl v1), some (.inl v2)]) (fun v1 v2 m3 k4 hk4 => ?_) _ _ _ _
  unfold X9_stale_b4
  refine r_iload_n C dX9_stale_4 rfl rfl ?_
  refine r_bipush (v := 64) C dX9_stale_5 (by decide) ?_
  refine r_icmp_ge (tgt := 61) C dX9_stale_7 (by decide) ?_ ?_
  · refine r_iload_n C dX9_stale_61 rfl rfl ?_
    exact r_ireturn C dX9_stale_62
  refine r_iload_n C dX9_stale_10 rfl rfl ?_
  refine r_aload_n C dX9_stale_11 rfl rfl ?_
  refine r_iload_n C dX9_stale_12 rfl rfl ?_
  refine r_invI (t := 9) (kb := 0) (As := [.inl v2]) (st := [.inl v1]) C il_X9_102 co_X9_lineAt (by decide) rfl (c_X9_lineAt v2 m3) (by decide) (by decide) rfl rfl (Nat.le_of_ble_eq_true rfl) dX9_stale_13 (fun r5 m4 => ?_)
  refine r_iconst (v := (-1)) C dX9_stale_16 (by decide) ?_
  refine r_icmp_eq (tgt := 52) C dX9_stale_17 (by decide) ?_ ?_
  · refine r_iconst (v := 0) C dX9_stale_52 (by decide) ?_
    refine r_iadd C dX9_stale_53 ?_
    refine r_let (fun x6 => ?_)
    refine r_istore_n (lv' := [some (.inr (9, 0)), some (.inl x6), some (.inl v2)]) C dX9_stale_54 rfl (by decide) rfl ?_
    refine r_iinc (v := 1) C dX9_stale_55 (by decide) rfl (by decide) (fun x7 => ?_)
    show gw X eI _ [some (.inr (9, 0)), some (.inl x6), some (.inl x7)] _ _ _
    refine r_goto (tgt := 4) C dX9_stale_58 (by decide) ?_
    exact r_weak (lv' := [some (.inr (9, 0)), some (.inl x6), some (.inl x7)]) ⟨rfl, rfl, rfl, trivial⟩ (hk4 _ _ _)
  refine r_aload_n C dX9_stale_20 rfl rfl ?_
  refine r_get (v := .inr (47, 0)) C fl_X9_7 dX9_stale_21 rfl ?_
  refine r_iload_n C dX9_stale_24 rfl rfl ?_
  refine r_insI (As := [.inl v2]) (st := [.inr (47, 0), .inl v1]) C il_X9_96 co_X9_at (c_X9_at v2 m4) (by decide) (by decide) rfl rfl (Nat.le_of_ble_eq_true rfl) dX9_stale_25 (fun r9 m8 => ?_)
  refine r_iconst (v := 1) C dX9_stale_28 (by decide) ?_
  refine r_iadd C dX9_stale_29 ?_
  refine r_iald C rfl dX9_stale_30 (fun x10 => ?_)
  refine r_aload_n C dX9_stale_31 rfl rfl ?_
  refine r_get (v := .inr (47, 0)) C fl_X9_7 dX9_stale_32 rfl ?_
  refine r_sipush (v := 383) C dX9_stale_35 (by decide) ?_
  refine r_aload_n C dX9_stale_38 rfl rfl ?_
  refine r_iload_n C dX9_stale_39 rfl rfl ?_
  refine r_invI (t := 9) (kb := 0) (As := [.inl v2]) (st := [.inl 383, .inr (47, 0), .inl x10, .inl v1]) C il_X9_102 co_X9_lineAt (by decide) rfl (c_X9_lineAt v2 m8) (by decide) (by decide) rfl rfl (Nat.le_of_ble_eq_true rfl) dX9_stale_40 (fun r12 m11 => ?_)
  refine r_iadd C dX9_stale_43 ?_
  refine r_iald C rfl dX9_stale_44 (fun x13 => ?_)
  refine r_icmp_eq (tgt := 52) C dX9_stale_45 (by decide) ?_ ?_
  · refine r_iconst (v := 0) C dX9_stale_52 (by decide) ?_
    refine r_iadd C dX9_stale_53 ?_
    refine r_let (fun x14 => ?_)
    refine r_istore_n (lv' := [some (.inr (9, 0)), some (.inl x14), some (.inl v2)]) C dX9_stale_54 rfl (by decide) rfl ?_
    refine r_iinc (v := 1) C dX9_stale_55 (by decide) rfl (by decide) (fun x15 => ?_)
    show gw X eI _ [some (.inr (9, 0)), some (.inl x14), some (.inl x15)] _ _ _
    refine r_goto (tgt := 4) C dX9_stale_58 (by decide) ?_
    exact r_weak (lv' := [some (.inr (9, 0)), some (.inl x14), some (.inl x15)]) ⟨rfl, rfl, rfl, trivial⟩ (hk4 _ _ _)
  refine r_iconst (v := 1) C dX9_stale_48 (by decide) ?_
  refine r_goto (tgt := 53) C dX9_stale_49 (by decide) ?_
  refine r_iadd C dX9_stale_53 ?_
  refine r_let (fun x16 => ?_)
  refine r_istore_n (lv' := [some (.inr (9, 0)), some (.inl x16), some (.inl v2)]) C dX9_stale_54 rfl (by decide) rfl ?_
  refine r_iinc (v := 1) C dX9_stale_55 (by decide) rfl (by decide) (fun x17 => ?_)
  show gw X eI _ [some (.inr (9, 0)), some (.inl x16), some (.inl x17)] _ _ _
  refine r_goto (tgt := 4) C dX9_stale_58 (by decide) ?_
  exact r_weak (lv' := [some (.inr (9, 0)), some (.inl x16), some (.inl x17)]) ⟨rfl, rfl, rfl, trivial⟩ (hk4 _ _ _)
theorem dX9_rank_0 : decode cX9_rank 0 = .ok (.aload_n 0, 1) := by decide +kernel
theorem dX9_rank_1 : decode cX9_rank 1 = .ok (.iload_n 1, 1) := by decide +kernel
theorem dX9_rank_2 : decode cX9_rank 2 = .ok (.invokevirtual 228, 3) := by decide +kernel
theorem dX9_rank_5 : decode cX9_rank 5 = .ok (.ifCond .eq 25, 3) := by decide +kernel
theorem dX9_rank_8 : decode cX9_rank 8 = .ok (.aload_n 0, 1) := by decide +kernel
theorem dX9_rank_9 : decode cX9_rank 9 = .ok (.iload_n 2, 1) := by decide +kernel
theorem dX9_rank_10 : decode cX9_rank 10 = .ok (.invokevirtual 228, 3) := by decide +kernel
theorem dX9_rank_13 : decode cX9_rank 13 = .ok (.ifCond .eq 17, 3) := by decide +kernel
theorem dX9_rank_16 : decode cX9_rank 16 = .ok (.aload_n 0, 1) := by decide +kernel
theorem dX9_rank_17 : decode cX9_rank 17 = .ok (.iconst 1, 1) := by decide +kernel
theorem dX9_rank_18 : decode cX9_rank 18 = .ok (.iload_n 1, 1) := by decide +kernel
theorem dX9_rank_19 : decode cX9_rank 19 = .ok (.ishl, 1) := by decide +kernel
theorem dX9_rank_20 : decode cX9_rank 20 = .ok (.iconst 1, 1) := by decide +kernel
theorem dX9_rank_21 : decode cX9_rank 21 = .ok (.iload_n 2, 1) := by decide +kernel
theorem dX9_rank_22 : decode cX9_rank 22 = .ok (.ishl, 1) := by decide +kernel
theorem dX9_rank_23 : decode cX9_rank 23 = .ok (.ior, 1) := by decide +kernel
theorem dX9_rank_24 : decode cX9_rank 24 = .ok (.invokevirtual 240, 3) := by decide +kernel
theorem dX9_rank_27 : decode cX9_rank 27 = .ok (.goto 4, 3) := by decide +kernel
theorem dX9_rank_30 : decode cX9_rank 30 = .ok (.iconst (-1), 1) := by decide +kernel
theorem dX9_rank_31 : decode cX9_rank 31 = .ok (.ireturn, 1) := by decide +kernel
def X9_rank (a1 : Int32) (a2 : Int32) (m : gM) : Option (Int32 × gM) :=
  gCall (X9_isWay a1 m) (fun (r2 : Bool) (m1 : gM) => if r2 = true then (gCall (X9_isWay a2 m1) (fun (r4 : Bool) (m3 : gM) => if r4 = true then (gCall (X9_rankOf ((1 <<< (a1 &&& 31)) ||| (1 <<< (a2 &&& 31))) m3) (fun (r6 : Int32) (m5 : gM) => some (r6, m5))) else (some ((-1), m3)))) else (some ((-1), m1)))
set_option maxRecDepth 100000 in
set_option maxHeartbeats 4000000 in
theorem c_X9_rank (a1 : Int32) (a2 : Int32) (m : gM) : gCon eI yX9_rank cX9_rank 3 (some .int) 2 [.inr (9, 0), .inl a1, .inl a2] m (X9_rank a1 a2 m) := by
  refine gCon.of (lv := [some (.inr (9, 0)), some (.inl a1), some (.inl a2)]) (by decide +kernel) (Nat.le_of_ble_eq_true rfl) rfl (fun X C => ?_)
  unfold X9_rank
  refine r_aload_n C dX9_rank_0 rfl rfl ?_
  refine r_iload_n C dX9_rank_1 rfl rfl ?_
  refine r_invB (t := 9) (kb := 0) (As := [.inl a1]) (st := []) C il_X9_228 co_X9_isWay (by decide) rfl (c_X9_isWay a1 m) (by decide) (by decide) rfl rfl (Nat.le_of_ble_eq_true rfl) dX9_rank_2 (fun r2 m1 => ?_)
  refine r_ifeqB (tgt := 30) C dX9_rank_5 (by decide) ?_ ?_
  · refine r_iconst (v := (-1)) C dX9_rank_30 (by decide) ?_
    exact r_ireturn C dX9_rank_31
  refine r_aload_n C dX9_rank_8 rfl rfl ?_
  refine r_iload_n C dX9_rank_9 rfl rfl ?_
  refine r_invB (t := 9) (kb := 0) (As := [.inl a2]) (st := []) C il_X9_228 co_X9_isWay (by decide) rfl (c_X9_isWay a2 m1) (by decide) (by decide) rfl rfl (Nat.le_of_ble_eq_true rfl) dX9_rank_10 (fun r4 m3 => ?_)
  refine r_ifeqB (tgt := 30) C dX9_rank_13 (by decide) ?_ ?_
  · refine r_iconst (v := (-1)) C dX9_rank_30 (by decide) ?_
    exact r_ireturn C dX9_rank_31
  refine r_aload_n C dX9_rank_16 rfl rfl ?_
  refine r_iconst (v := 1) C dX9_rank_17 (by decide) ?_
  refine r_iload_n C dX9_rank_18 rfl rfl ?_
  refine r_ishl C dX9_rank_19 ?_
  refine r_iconst (v := 1) C dX9_rank_20 (by decide) ?_
  refine r_iload_n C dX9_rank_21 rfl rfl ?_
  refine r_ishl C dX9_rank_22 ?_
  refine r_ior C dX9_rank_23 ?_
  refine r_invI (t := 9) (kb := 0) (As := [.inl ((1 <<< (a1 &&& 31)) ||| (1 <<< (a2 &&& 31)))]) (st := []) C il_X9_240 co_X9_rankOf (by decide) rfl (c_X9_rankOf ((1 <<< (a1 &&& 31)) ||| (1 <<< (a2 &&& 31))) m3) (by decide) (by decide) rfl rfl (Nat.le_of_ble_eq_true rfl) dX9_rank_24 (fun r6 m5 => ?_)
  refine r_goto (tgt := 31) C dX9_rank_27 (by decide) ?_
  exact r_ireturn C dX9_rank_31
theorem dX9_togetherIn_0 : decode cX9_togetherIn 0 = .ok (.iconst 0, 1) := by decide +kernel
theorem dX9_togetherIn_1 : decode cX9_togetherIn 1 = .ok (.istore_n 3, 1) := by decide +kernel
theorem dX9_togetherIn_2 : decode cX9_togetherIn 2 = .ok (.iconst 0, 1) := by decide +kernel
theorem dX9_togetherIn_3 : decode cX9_togetherIn 3 = .ok (.istore 4, 2) := by decide +kernel
theorem dX9_togetherIn_5 : decode cX9_togetherIn 5 = .ok (.iload 4, 2) := by decide +kernel
theorem dX9_togetherIn_7 : decode cX9_togetherIn 7 = .ok (.aload_n 0, 1) := by decide +kernel
theorem dX9_togetherIn_8 : decode cX9_togetherIn 8 = .ok (.getfield 7, 3) := by decide +kernel
theorem dX9_togetherIn_11 : decode cX9_togetherIn 11 = .ok (.bipush 36, 2) := by decide +kernel
theorem dX9_togetherIn_13 : decode cX9_togetherIn 13 = .ok (.iaload, 1) := by decide +kernel
theorem dX9_togetherIn_14 : decode cX9_togetherIn 14 = .ok (.if_icmp .ge 34, 3) := by decide +kernel
theorem dX9_togetherIn_17 : decode cX9_togetherIn 17 = .ok (.iload_n 3, 1) := by decide +kernel
theorem dX9_togetherIn_18 : decode cX9_togetherIn 18 = .ok (.aload_n 0, 1) := by decide +kernel
theorem dX9_togetherIn_19 : decode cX9_togetherIn 19 = .ok (.iload_n 1, 1) := by decide +kernel
theorem dX9_togetherIn_20 : decode cX9_togetherIn 20 = .ok (.iload 4, 2) := by decide +kernel
theorem dX9_togetherIn_22 : decode cX9_togetherIn 22 = .ok (.invokevirtual 93, 3) := by decide +kernel
theorem dX9_togetherIn_25 : decode cX9_togetherIn 25 = .ok (.aload_n 0, 1) := by decide +kernel
theorem dX9_togetherIn_26 : decode cX9_togetherIn 26 = .ok (.iload_n 2, 1) := by decide +kernel
theorem dX9_togetherIn_27 : decode cX9_togetherIn 27 = .ok (.iload 4, 2) := by decide +kernel
theorem dX9_togetherIn_29 : decode cX9_togetherIn 29 = .ok (.invokevirtual 93, 3) := by decide +kernel
theorem dX9_togetherIn_32 : decode cX9_togetherIn 32 = .ok (.if_icmp .ne 7, 3) := by decide +kernel
theorem dX9_togetherIn_35 : decode cX9_togetherIn 35 = .ok (.iconst 1, 1) := by decide +kernel
theorem dX9_togetherIn_36 : decode cX9_togetherIn 36 = .ok (.goto 4, 3) := by decide +kernel
theorem dX9_togetherIn_39 : decode cX9_togetherIn 39 = .ok (.iconst 0, 1) := by decide +kernel
theorem dX9_togetherIn_40 : decode cX9_togetherIn 40 = .ok (.iadd, 1) := by decide +kernel
theorem dX9_togetherIn_41 : decode cX9_togetherIn 41 = .ok (.istore_n 3, 1) := by decide +kernel
theorem dX9_togetherIn_42 : decode cX9_togetherIn 42 = .ok (.iinc 4 1, 3) := by decide +kernel
theorem dX9_togetherIn_45 : decode cX9_togetherIn 45 = .ok (.goto (-40), 3) := by decide +kernel
theorem dX9_togetherIn_48 : decode cX9_togetherIn 48 = .ok (.iload_n 3, 1) := by decide +kernel
theorem dX9_togetherIn_49 : decode cX9_togetherIn 49 = .ok (.ireturn, 1) := by decide +kernel
def X9_togetherIn_b5 (a1 : Int32) (a2 : Int32) (v1 v2 : Int32) (m3 : gM) (k5 : Int32 → Int32 → gM → Option (Int32 × gM)) : Option (Int32 × gM) :=
  gAt m3 47 0 36 (fun (x4 : Int32) => if x4 ≤ v2 then (some (v1, m3)) else (gCall (X9_indexOf a1 v2 m3) (fun (r6 : Int32) (m5 : gM) => gCall (X9_indexOf a2 v2 m5) (fun (r8 : Int32) (m7 : gM) => if r6 = r8 then (gLet (v1 + 1) (fun (x11 : Int32) => gLet (v2 + 1) (fun (x12 : Int32) => k5 x11 x12 m7))) else (gLet (v1 + 0) (fun (x9 : Int32) => gLet (v2 + 1) (fun (x10 : Int32) => k5 x9 x10 m7)))))))
def X9_togetherIn (a1 : Int32) (a2 : Int32) (m : gM) : Option (Int32 × gM) :=
  gL2 FU (X9_togetherIn_b5 a1 a2) 0 0 m
set_option maxRecDepth 100000 in
set_option maxHeartbeats 4000000 in
theorem c_X9_togetherIn (a1 : Int32) (a2 : Int32) (m : gM) : gCon eI yX9_togetherIn cX9_togetherIn 5 (some .int) 2 [.inr (9, 0), .inl a1, .inl a2] m (X9_togetherIn a1 a2 m) := by
  refine gCon.of (lv := [some (.inr (9, 0)), some (.inl a1), some (.inl a2), none, none]) (by decide +kernel) (Nat.le_of_ble_eq_true rfl) rfl (fun X C => ?_)
  unfold X9_togetherIn
  refine r_iconst (v := 0) C dX9_togetherIn_0 (by decide) ?_
  refine r_istore_n (lv' := [some (.inr (9, 0)), some (.inl a1), some (.inl a2), some (.inl 0), none]) C dX9_togetherIn_1 rfl (by decide) rfl ?_
  refine r_iconst (v := 0) C dX9_togetherIn_2 (by decide) ?_
  refine r_istore (lv' := [some (.inr (9, 0)), some (.inl a1), some (.inl a2), some (.inl 0), some (.inl 0)]) C dX9_togetherIn_3 (by decide) rfl ?_
  refine r_weak (lv' := [some (.inr (9, 0)), some (.inl a1), some (.inl a2), some (.inl 0), some (.inl 0)]) ⟨rfl, rfl, rfl, rfl, rfl, trivial⟩ ?_
  refine r_l2 (pj := 5) (fun v1 v2 => [some (.inr (9, 0)), some (.inl a1), some (.inl a2), some (.inl v1), some (.inl v2)]) (fun v1 v2 m3 k5 hk5 => ?_) _ _ _ _
  unfold X9_togetherIn_b5
  refine r_iload C dX9_togetherIn_5 rfl ?_
  refine r_aload_n C dX9_togetherIn_7 rfl rfl ?_
  refine r_get (v := .inr (47, 0)) C fl_X9_7 dX9_togetherIn_8 rfl ?_
  refine r_bipush (v := 36) C dX9_togetherIn_11 (by decide) ?_
  refine r_iald C rfl dX9_togetherIn_13 (fun x4 => ?_)
  refine r_icmp_ge (tgt := 48) C dX9_togetherIn_14 (by decide) ?_ ?_
  · refine r_iload_n C dX9_togetherIn_48 rfl rfl ?_
    exact r_ireturn C dX9_togetherIn_49
  refine r_iload_n C dX9_togetherIn_17 rfl rfl ?_
  refine r_aload_n C dX9_togetherIn_18 rfl rfl ?_
  refine r_iload_n C dX9_togetherIn_19 rfl rfl ?_
  refine r_iload C dX9_togetherIn_20 rfl ?_
  refine r_invI (t := 9) (kb := 0) (As := [.inl a1, .inl v2]) (st := [.inl v1]) C il_X9_93 co_X9_indexOf (by decide) rfl (c_X9_indexOf a1 v2 m3) (by decide) (by decide) rfl rfl (Nat.le_of_ble_eq_true rfl) dX9_togetherIn_22 (fun r6 m5 => ?_)
  refine r_aload_n C dX9_togetherIn_25 rfl rfl ?_
  refine r_iload_n C dX9_togetherIn_26 rfl rfl ?_
  refine r_iload C dX9_togetherIn_27 rfl ?_
  refine r_invI (t := 9) (kb := 0) (As := [.inl a2, .inl v2]) (st := [.inl r6, .inl v1]) C il_X9_93 co_X9_indexOf (by decide) rfl (c_X9_indexOf a2 v2 m5) (by decide) (by decide) rfl rfl (Nat.le_of_ble_eq_true rfl) dX9_togetherIn_29 (fun r8 m7 => ?_)
  refine r_icmp_ne (tgt := 39) C dX9_togetherIn_32 (by decide) ?_ ?_
  · refine r_iconst (v := 0) C dX9_togetherIn_39 (by decide) ?_
    refine r_iadd C dX9_togetherIn_40 ?_
    refine r_let (fun x9 => ?_)
    refine r_istore_n (lv' := [some (.inr (9, 0)), some (.inl a1), some (.inl a2), some (.inl x9), some (.inl v2)]) C dX9_togetherIn_41 rfl (by decide) rfl ?_
    refine r_iinc (v := 1) C dX9_togetherIn_42 (by decide) rfl (by decide) (fun x10 => ?_)
    show gw X eI _ [some (.inr (9, 0)), some (.inl a1), some (.inl a2), some (.inl x9), some (.inl x10)] _ _ _
    refine r_goto (tgt := 5) C dX9_togetherIn_45 (by decide) ?_
    exact r_weak (lv' := [some (.inr (9, 0)), some (.inl a1), some (.inl a2), some (.inl x9), some (.inl x10)]) ⟨rfl, rfl, rfl, rfl, rfl, trivial⟩ (hk5 _ _ _)
  refine r_iconst (v := 1) C dX9_togetherIn_35 (by decide) ?_
  refine r_goto (tgt := 40) C dX9_togetherIn_36 (by decide) ?_
  refine r_iadd C dX9_togetherIn_40 ?_
  refine r_let (fun x11 => ?_)
  refine r_istore_n (lv' := [some (.inr (9, 0)), some (.inl a1), some (.inl a2), some (.inl x11), some (.inl v2)]) C dX9_togetherIn_41 rfl (by decide) rfl ?_
  refine r_iinc (v := 1) C dX9_togetherIn_42 (by decide) rfl (by decide) (fun x12 => ?_)
  show gw X eI _ [some (.inr (9, 0)), some (.inl a1), some (.inl a2), some (.inl x11), some (.inl x12)] _ _ _
  refine r_goto (tgt := 5) C dX9_togetherIn_45 (by decide) ?_
  exact r_weak (lv' := [some (.inr (9, 0)), some (.inl a1), some (.inl a2), some (.inl x11), some (.inl x12)]) ⟨rfl, rfl, rfl, rfl, rfl, trivial⟩ (hk5 _ _ _)
theorem dX9_twins_0 : decode cX9_twins 0 = .ok (.iload_n 1, 1) := by decide +kernel
theorem dX9_twins_1 : decode cX9_twins 1 = .ok (.invokestatic 212, 3) := by decide +kernel
theorem dX9_twins_4 : decode cX9_twins 4 = .ok (.ifCond .ne 5, 3) := by decide +kernel
theorem dX9_twins_7 : decode cX9_twins 7 = .ok (.iconst (-1), 1) := by decide +kernel
theorem dX9_twins_8 : decode cX9_twins 8 = .ok (.ireturn, 1) := by decide +kernel
theorem dX9_twins_9 : decode cX9_twins 9 = .ok (.iconst 0, 1) := by decide +kernel
theorem dX9_twins_10 : decode cX9_twins 10 = .ok (.istore_n 2, 1) := by decide +kernel
theorem dX9_twins_11 : decode cX9_twins 11 = .ok (.iconst 0, 1) := by decide +kernel
theorem dX9_twins_12 : decode cX9_twins 12 = .ok (.istore_n 3, 1) := by decide +kernel
theorem dX9_twins_13 : decode cX9_twins 13 = .ok (.iload_n 3, 1) := by decide +kernel
theorem dX9_twins_14 : decode cX9_twins 14 = .ok (.sipush 1024, 3) := by decide +kernel
theorem dX9_twins_17 : decode cX9_twins 17 = .ok (.if_icmp .ge 33, 3) := by decide +kernel
theorem dX9_twins_20 : decode cX9_twins 20 = .ok (.iload_n 2, 1) := by decide +kernel
theorem dX9_twins_21 : decode cX9_twins 21 = .ok (.aload_n 0, 1) := by decide +kernel
theorem dX9_twins_22 : decode cX9_twins 22 = .ok (.iload_n 1, 1) := by decide +kernel
theorem dX9_twins_23 : decode cX9_twins 23 = .ok (.iload_n 3, 1) := by decide +kernel
theorem dX9_twins_24 : decode cX9_twins 24 = .ok (.invokevirtual 273, 3) := by decide +kernel
theorem dX9_twins_27 : decode cX9_twins 27 = .ok (.aload_n 0, 1) := by decide +kernel
theorem dX9_twins_28 : decode cX9_twins 28 = .ok (.getfield 7, 3) := by decide +kernel
theorem dX9_twins_31 : decode cX9_twins 31 = .ok (.bipush 36, 2) := by decide +kernel
theorem dX9_twins_33 : decode cX9_twins 33 = .ok (.iaload, 1) := by decide +kernel
theorem dX9_twins_34 : decode cX9_twins 34 = .ok (.if_icmp .ne 7, 3) := by decide +kernel
theorem dX9_twins_37 : decode cX9_twins 37 = .ok (.iconst 1, 1) := by decide +kernel
theorem dX9_twins_38 : decode cX9_twins 38 = .ok (.goto 4, 3) := by decide +kernel
theorem dX9_twins_41 : decode cX9_twins 41 = .ok (.iconst 0, 1) := by decide +kernel
theorem dX9_twins_42 : decode cX9_twins 42 = .ok (.iadd, 1) := by decide +kernel
theorem dX9_twins_43 : decode cX9_twins 43 = .ok (.istore_n 2, 1) := by decide +kernel
theorem dX9_twins_44 : decode cX9_twins 44 = .ok (.iinc 3 1, 3) := by decide +kernel
theorem dX9_twins_47 : decode cX9_twins 47 = .ok (.goto (-34), 3) := by decide +kernel
theorem dX9_twins_50 : decode cX9_twins 50 = .ok (.iload_n 2, 1) := by decide +kernel
theorem dX9_twins_51 : decode cX9_twins 51 = .ok (.ireturn, 1) := by decide +kernel
def X9_twins_b13 (a1 : Int32) (v3 v4 : Int32) (m5 : gM) (k13 : Int32 → Int32 → gM → Option (Int32 × gM)) : Option (Int32 × gM) :=
  if 1024 ≤ v4 then (some (v3, m5)) else (gCall (X9_togetherIn a1 v4 m5) (fun (r7 : Int32) (m6 : gM) => gAt m6 47 0 36 (fun (x8 : Int32) => if r7 = x8 then (gLet (v3 + 1) (fun (x11 : Int32) => gLet (v4 + 1) (fun (x12 : Int32) => k13 x11 x12 m6))) else (gLet (v3 + 0) (fun (x9 : Int32) => gLet (v4 + 1) (fun (x10 : Int32) => k13 x9 x10 m6))))))
def X9_twins (a1 : Int32) (m : gM) : Option (Int32 × gM) :=
  gCall (X9_isLine a1 m) (fun (r2 : Bool) (m1 : gM) => if r2 = true then (gL2 FU (X9_twins_b13 a1) 0 0 m1) else (some ((-1), m1)))
set_option maxRecDepth 100000 in
set_option maxHeartbeats 4000000 in
theorem c_X9_twins (a1 : Int32) (m : gM) : gCon eI yX9_twins cX9_twins 4 (some .int) 3 [.inr (9, 0), .inl a1] m (X9_twins a1 m) := by
  refine gCon.of (lv := [some (.inr (9, 0)), some (.inl a1), none, none]) (by decide +kernel) (Nat.le_of_ble_eq_true rfl) rfl (fun X C => ?_)
  unfold X9_twins
  refine r_iload_n C dX9_twins_0 rfl rfl ?_
  refine r_insB (As := [.inl a1]) (st := []) C il_X9_212 co_X9_isLine (c_X9_isLine a1 m) (by decide) (by decide) rfl rfl (Nat.le_of_ble_eq_true rfl) dX9_twins_1 (fun r2 m1 => ?_)
  refine r_ifneB (tgt := 9) C dX9_twins_4 (by decide) ?_ ?_
  · refine r_iconst (v := 0) C dX9_twins_9 (by decide) ?_
    refine r_istore_n (lv' := [some (.inr (9, 0)), some (.inl a1), some (.inl 0), none]) C dX9_twins_10 rfl (by decide) rfl ?_
    refine r_iconst (v := 0) C dX9_twins_11 (by decide) ?_
    refine r_istore_n (lv' := [some (.inr (9, 0)), some (.inl a1), some (.inl 0), some (.inl 0)]) C dX9_twins_12 rfl (by decide) rfl ?_
    refine r_weak (lv' := [some (.inr (9, 0)), some (.inl a1), some (.inl 0), some (.inl 0)]) ⟨rfl, rfl, rfl, rfl, trivial⟩ ?_
    refine r_l2 (pj := 13) (fun v3 v4 => [some (.inr (9, 0)), some (.inl a1), some (.inl v3), some (.inl v4)]) (fun v3 v4 m5 k13 hk13 => ?_) _ _ _ _
    unfold X9_twins_b13
    refine r_iload_n C dX9_twins_13 rfl rfl ?_
    refine r_sipush (v := 1024) C dX9_twins_14 (by decide) ?_
    refine r_icmp_ge (tgt := 50) C dX9_twins_17 (by decide) ?_ ?_
    · refine r_iload_n C dX9_twins_50 rfl rfl ?_
      exact r_ireturn C dX9_twins_51
    refine r_iload_n C dX9_twins_20 rfl rfl ?_
    refine r_aload_n C dX9_twins_21 rfl rfl ?_
    refine r_iload_n C dX9_twins_22 rfl rfl ?_
    refine r_iload_n C dX9_twins_23 rfl rfl ?_
    refine r_invI (t := 9) (kb := 0) (As := [.inl a1, .inl v4]) (st := [.inl v3]) C il_X9_273 co_X9_togetherIn (by decide) rfl (c_X9_togetherIn a1 v4 m5) (by decide) (by decide) rfl rfl (Nat.le_of_ble_eq_true rfl) dX9_twins_24 (fun r7 m6 => ?_)
    refine r_aload_n C dX9_twins_27 rfl rfl ?_
    refine r_get (v := .inr (47, 0)) C fl_X9_7 dX9_twins_28 rfl ?_
    refine r_bipush (v := 36) C dX9_twins_31 (by decide) ?_
    refine r_iald C rfl dX9_twins_33 (fun x8 => ?_)
    refine r_icmp_ne (tgt := 41) C dX9_twins_34 (by decide) ?_ ?_
    · refine r_iconst (v := 0) C dX9_twins_41 (by decide) ?_
      refine r_iadd C dX9_twins_42 ?_
      refine r_let (fun x9 => ?_)
      refine r_istore_n (lv' := [some (.inr (9, 0)), some (.inl a1), some (.inl x9), some (.inl v4)]) C dX9_twins_43 rfl (by decide) rfl ?_
      refine r_iinc (v := 1) C dX9_twins_44 (by decide) rfl (by decide) (fun x10 => ?_)
      show gw X eI _ [some (.inr (9, 0)), some (.inl a1), some (.inl x9), some (.inl x10)] _ _ _
      refine r_goto (tgt := 13) C dX9_twins_47 (by decide) ?_
      exact r_weak (lv' := [some (.inr (9, 0)), some (.inl a1), some (.inl x9), some (.inl x10)]) ⟨rfl, rfl, rfl, rfl, trivial⟩ (hk13 _ _ _)
    refine r_iconst (v := 1) C dX9_twins_37 (by decide) ?_
    refine r_goto (tgt := 42) C dX9_twins_38 (by decide) ?_
    refine r_iadd C dX9_twins_42 ?_
    refine r_let (fun x11 => ?_)
    refine r_istore_n (lv' := [some (.inr (9, 0)), some (.inl a1), some (.inl x11), some (.inl v4)]) C dX9_twins_43 rfl (by decide) rfl ?_
    refine r_iinc (v := 1) C dX9_twins_44 (by decide) rfl (by decide) (fun x12 => ?_)
    show gw X eI _ [some (.inr (9, 0)), some (.inl a1), some (.inl x11), some (.inl x12)] _ _ _
    refine r_goto (tgt := 13) C dX9_twins_47 (by decide) ?_
    exact r_weak (lv' := [some (.inr (9, 0)), some (.inl a1), some (.inl x11), some (.inl x12)]) ⟨rfl, rfl, rfl, rfl, trivial⟩ (hk13 _ _ _)
  refine r_iconst (v := (-1)) C dX9_twins_7 (by decide) ?_
  exact r_ireturn C dX9_twins_8
theorem dX9_twin_0 : decode cX9_twin 0 = .ok (.iload_n 1, 1) := by decide +kernel
theorem dX9_twin_1 : decode cX9_twin 1 = .ok (.invokestatic 212, 3) := by decide +kernel
theorem dX9_twin_4 : decode cX9_twin 4 = .ok (.ifCond .eq 7, 3) := by decide +kernel
theorem dX9_twin_7 : decode cX9_twin 7 = .ok (.iload_n 2, 1) := by decide +kernel
theorem dX9_twin_8 : decode cX9_twin 8 = .ok (.ifCond .ge 5, 3) := by decide +kernel
theorem dX9_twin_11 : decode cX9_twin 11 = .ok (.iconst (-1), 1) := by decide +kernel
theorem dX9_twin_12 : decode cX9_twin 12 = .ok (.ireturn, 1) := by decide +kernel
theorem dX9_twin_13 : decode cX9_twin 13 = .ok (.iconst 0, 1) := by decide +kernel
theorem dX9_twin_14 : decode cX9_twin 14 = .ok (.istore_n 3, 1) := by decide +kernel
theorem dX9_twin_15 : decode cX9_twin 15 = .ok (.iconst 0, 1) := by decide +kernel
theorem dX9_twin_16 : decode cX9_twin 16 = .ok (.istore 4, 2) := by decide +kernel
theorem dX9_twin_18 : decode cX9_twin 18 = .ok (.iload 4, 2) := by decide +kernel
theorem dX9_twin_20 : decode cX9_twin 20 = .ok (.sipush 1024, 3) := by decide +kernel
theorem dX9_twin_23 : decode cX9_twin 23 = .ok (.if_icmp .ge 40, 3) := by decide +kernel
theorem dX9_twin_26 : decode cX9_twin 26 = .ok (.aload_n 0, 1) := by decide +kernel
theorem dX9_twin_27 : decode cX9_twin 27 = .ok (.iload_n 1, 1) := by decide +kernel
theorem dX9_twin_28 : decode cX9_twin 28 = .ok (.iload 4, 2) := by decide +kernel
theorem dX9_twin_30 : decode cX9_twin 30 = .ok (.invokevirtual 273, 3) := by decide +kernel
theorem dX9_twin_33 : decode cX9_twin 33 = .ok (.aload_n 0, 1) := by decide +kernel
theorem dX9_twin_34 : decode cX9_twin 34 = .ok (.getfield 7, 3) := by decide +kernel
theorem dX9_twin_37 : decode cX9_twin 37 = .ok (.bipush 36, 2) := by decide +kernel
theorem dX9_twin_39 : decode cX9_twin 39 = .ok (.iaload, 1) := by decide +kernel
theorem dX9_twin_40 : decode cX9_twin 40 = .ok (.if_icmp .ge 6, 3) := by decide +kernel
theorem dX9_twin_43 : decode cX9_twin 43 = .ok (.goto 14, 3) := by decide +kernel
theorem dX9_twin_46 : decode cX9_twin 46 = .ok (.iload_n 3, 1) := by decide +kernel
theorem dX9_twin_47 : decode cX9_twin 47 = .ok (.iload_n 2, 1) := by decide +kernel
theorem dX9_twin_48 : decode cX9_twin 48 = .ok (.if_icmp .ne 6, 3) := by decide +kernel
theorem dX9_twin_51 : decode cX9_twin 51 = .ok (.iload 4, 2) := by decide +kernel
theorem dX9_twin_53 : decode cX9_twin 53 = .ok (.ireturn, 1) := by decide +kernel
theorem dX9_twin_54 : decode cX9_twin 54 = .ok (.iinc 3 1, 3) := by decide +kernel
theorem dX9_twin_57 : decode cX9_twin 57 = .ok (.iinc 4 1, 3) := by decide +kernel
theorem dX9_twin_60 : decode cX9_twin 60 = .ok (.goto (-42), 3) := by decide +kernel
theorem dX9_twin_63 : decode cX9_twin 63 = .ok (.iconst (-1), 1) := by decide +kernel
theorem dX9_twin_64 : decode cX9_twin 64 = .ok (.ireturn, 1) := by decide +kernel
def X9_twin_b18 (a1 : Int32) (a2 : Int32) (v3 v4 : Int32) (m5 : gM) (k18 : Int32 → Int32 → gM → Option (Int32 × gM)) : Option (Int32 × gM) :=
  if 1024 ≤ v4 then (some ((-1), m5)) else (gCall (X9_togetherIn a1 v4 m5) (fun (r7 : Int32) (m6 : gM) => gAt m6 47 0 36 (fun (x8 : Int32) => if x8 ≤ r7 then (if v3 = a2 then (some (v4, m6)) else (gLet (v3 + 1) (fun (x9 : Int32) => gLet (v4 + 1) (fun (x10 : Int32) => k18 x9 x10 m6)))) else (gLet (v4 + 1) (fun (x11 : Int32) => k18 v3 x11 m6)))))
def X9_twin (a1 : Int32) (a2 : Int32) (m : gM) : Option (Int32 × gM) :=
  gCall (X9_isLine a1 m) (fun (r2 : Bool) (m1 : gM) => if r2 = true then (if 0 ≤ a2 then (gL2 FU (X9_twin_b18 a1 a2) 0 0 m1) else (some ((-1), m1))) else (some ((-1), m1)))
set_option maxRecDepth 100000 in
set_option maxHeartbeats 4000000 in
theorem c_X9_twin (a1 : Int32) (a2 : Int32) (m : gM) : gCon eI yX9_twin cX9_twin 5 (some .int) 3 [.inr (9, 0), .inl a1, .inl a2] m (X9_twin a1 a2 m) := by
  refine gCon.of (lv := [some (.inr (9, 0)), some (.inl a1), some (.inl a2), none, none]) (by decide +kernel) (Nat.le_of_ble_eq_true rfl) rfl (fun X C => ?_)
  unfold X9_twin
  refine r_iload_n C dX9_twin_0 rfl rfl ?_
  refine r_insB (As := [.inl a1]) (st := []) C il_X9_212 co_X9_isLine (c_X9_isLine a1 m) (by decide) (by decide) rfl rfl (Nat.le_of_ble_eq_true rfl) dX9_twin_1 (fun r2 m1 => ?_)
  refine r_ifeqB (tgt := 11) C dX9_twin_4 (by decide) ?_ ?_
  · refine r_iconst (v := (-1)) C dX9_twin_11 (by decide) ?_
    exact r_ireturn C dX9_twin_12
  refine r_iload_n C dX9_twin_7 rfl rfl ?_
  refine r_if_ge (tgt := 13) C dX9_twin_8 (by decide) ?_ ?_
  · refine r_iconst (v := 0) C dX9_twin_13 (by decide) ?_
    refine r_istore_n (lv' := [some (.inr (9, 0)), some (.inl a1), some (.inl a2), some (.inl 0), none]) C dX9_twin_14 rfl (by decide) rfl ?_
    refine r_iconst (v := 0) C dX9_twin_15 (by decide) ?_
    refine r_istore (lv' := [some (.inr (9, 0)), some (.inl a1), some (.inl a2), some (.inl 0), some (.inl 0)]) C dX9_twin_16 (by decide) rfl ?_
    refine r_weak (lv' := [some (.inr (9, 0)), some (.inl a1), some (.inl a2), some (.inl 0), some (.inl 0)]) ⟨rfl, rfl, rfl, rfl, rfl, trivial⟩ ?_
    refine r_l2 (pj := 18) (fun v3 v4 => [some (.inr (9, 0)), some (.inl a1), some (.inl a2), some (.inl v3), some (.inl v4)]) (fun v3 v4 m5 k18 hk18 => ?_) _ _ _ _
    unfold X9_twin_b18
    refine r_iload C dX9_twin_18 rfl ?_
    refine r_sipush (v := 1024) C dX9_twin_20 (by decide) ?_
    refine r_icmp_ge (tgt := 63) C dX9_twin_23 (by decide) ?_ ?_
    · refine r_iconst (v := (-1)) C dX9_twin_63 (by decide) ?_
      exact r_ireturn C dX9_twin_64
    refine r_aload_n C dX9_twin_26 rfl rfl ?_
    refine r_iload_n C dX9_twin_27 rfl rfl ?_
    refine r_iload C dX9_twin_28 rfl ?_
    refine r_invI (t := 9) (kb := 0) (As := [.inl a1, .inl v4]) (st := []) C il_X9_273 co_X9_togetherIn (by decide) rfl (c_X9_togetherIn a1 v4 m5) (by decide) (by decide) rfl rfl (Nat.le_of_ble_eq_true rfl) dX9_twin_30 (fun r7 m6 => ?_)
    refine r_aload_n C dX9_twin_33 rfl rfl ?_
    refine r_get (v := .inr (47, 0)) C fl_X9_7 dX9_twin_34 rfl ?_
    refine r_bipush (v := 36) C dX9_twin_37 (by decide) ?_
    refine r_iald C rfl dX9_twin_39 (fun x8 => ?_)
    refine r_icmp_ge (tgt := 46) C dX9_twin_40 (by decide) ?_ ?_
    · refine r_iload_n C dX9_twin_46 rfl rfl ?_
      refine r_iload_n C dX9_twin_47 rfl rfl ?_
      refine r_icmp_ne (tgt := 54) C dX9_twin_48 (by decide) ?_ ?_
      · refine r_iinc (v := 1) C dX9_twin_54 (by decide) rfl (by decide) (fun x9 => ?_)
        show gw X eI _ [some (.inr (9, 0)), some (.inl a1), some (.inl a2), some (.inl x9), some (.inl v4)] _ _ _
        refine r_iinc (v := 1) C dX9_twin_57 (by decide) rfl (by decide) (fun x10 => ?_)
        show gw X eI _ [some (.inr (9, 0)), some (.inl a1), some (.inl a2), some (.inl x9), some (.inl x10)] _ _ _
        refine r_goto (tgt := 18) C dX9_twin_60 (by decide) ?_
        exact r_weak (lv' := [some (.inr (9, 0)), some (.inl a1), some (.inl a2), some (.inl x9), some (.inl x10)]) ⟨rfl, rfl, rfl, rfl, rfl, trivial⟩ (hk18 _ _ _)
      refine r_iload C dX9_twin_51 rfl ?_
      exact r_ireturn C dX9_twin_53
    refine r_goto (tgt := 57) C dX9_twin_43 (by decide) ?_
    refine r_iinc (v := 1) C dX9_twin_57 (by decide) rfl (by decide) (fun x11 => ?_)
    show gw X eI _ [some (.inr (9, 0)), some (.inl a1), some (.inl a2), some (.inl v3), some (.inl x11)] _ _ _
    refine r_goto (tgt := 18) C dX9_twin_60 (by decide) ?_
    exact r_weak (lv' := [some (.inr (9, 0)), some (.inl a1), some (.inl a2), some (.inl v3), some (.inl x11)]) ⟨rfl, rfl, rfl, rfl, rfl, trivial⟩ (hk18 _ _ _)
  refine r_iconst (v := (-1)) C dX9_twin_11 (by decide) ?_
  exact r_ireturn C dX9_twin_12
theorem dX9_together_0 : decode cX9_together 0 = .ok (.iload_n 1, 1) := by decide +kernel
theorem dX9_together_1 : decode cX9_together 1 = .ok (.invokestatic 212, 3) := by decide +kernel
theorem dX9_together_4 : decode cX9_together 4 = .ok (.ifCond .eq 19, 3) := by decide +kernel
theorem dX9_together_7 : decode cX9_together 7 = .ok (.iload_n 2, 1) := by decide +kernel
theorem dX9_together_8 : decode cX9_together 8 = .ok (.invokestatic 212, 3) := by decide +kernel
theorem dX9_together_11 : decode cX9_together 11 = .ok (.ifCond .eq 12, 3) := by decide +kernel
theorem dX9_together_14 : decode cX9_together 14 = .ok (.aload_n 0, 1) := by decide +kernel
theorem dX9_together_15 : decode cX9_together 15 = .ok (.iload_n 1, 1) := by decide +kernel
theorem dX9_together_16 : decode cX9_together 16 = .ok (.iload_n 2, 1) := by decide +kernel
theorem dX9_together_17 : decode cX9_together 17 = .ok (.invokevirtual 273, 3) := by decide +kernel
theorem dX9_together_20 : decode cX9_together 20 = .ok (.goto 4, 3) := by decide +kernel
theorem dX9_together_23 : decode cX9_together 23 = .ok (.iconst (-1), 1) := by decide +kernel
theorem dX9_together_24 : decode cX9_together 24 = .ok (.ireturn, 1) := by decide +kernel
def X9_together (a1 : Int32) (a2 : Int32) (m : gM) : Option (Int32 × gM) :=
  gCall (X9_isLine a1 m) (fun (r2 : Bool) (m1 : gM) => if r2 = true then (gCall (X9_isLine a2 m1) (fun (r4 : Bool) (m3 : gM) => if r4 = true then (gCall (X9_togetherIn a1 a2 m3) (fun (r6 : Int32) (m5 : gM) => some (r6, m5))) else (some ((-1), m3)))) else (some ((-1), m1)))
set_option maxRecDepth 100000 in
set_option maxHeartbeats 4000000 in
theorem c_X9_together (a1 : Int32) (a2 : Int32) (m : gM) : gCon eI yX9_together cX9_together 3 (some .int) 3 [.inr (9, 0), .inl a1, .inl a2] m (X9_together a1 a2 m) := by
  refine gCon.of (lv := [some (.inr (9, 0)), some (.inl a1), some (.inl a2)]) (by decide +kernel) (Nat.le_of_ble_eq_true rfl) rfl (fun X C => ?_)
  unfold X9_together
  refine r_iload_n C dX9_together_0 rfl rfl ?_
  refine r_insB (As := [.inl a1]) (st := []) C il_X9_212 co_X9_isLine (c_X9_isLine a1 m) (by decide) (by decide) rfl rfl (Nat.le_of_ble_eq_true rfl) dX9_together_1 (fun r2 m1 => ?_)
  refine r_ifeqB (tgt := 23) C dX9_together_4 (by decide) ?_ ?_
  · refine r_iconst (v := (-1)) C dX9_together_23 (by decide) ?_
    exact r_ireturn C dX9_together_24
  refine r_iload_n C dX9_together_7 rfl rfl ?_
  refine r_insB (As := [.inl a2]) (st := []) C il_X9_212 co_X9_isLine (c_X9_isLine a2 m1) (by decide) (by decide) rfl rfl (Nat.le_of_ble_eq_true rfl) dX9_together_8 (fun r4 m3 => ?_)
  refine r_ifeqB (tgt := 23) C dX9_together_11 (by decide) ?_ ?_
  · refine r_iconst (v := (-1)) C dX9_together_23 (by decide) ?_
    exact r_ireturn C dX9_together_24
  refine r_aload_n C dX9_together_14 rfl rfl ?_
  refine r_iload_n C dX9_together_15 rfl rfl ?_
  refine r_iload_n C dX9_together_16 rfl rfl ?_
  refine r_invI (t := 9) (kb := 0) (As := [.inl a1, .inl a2]) (st := []) C il_X9_273 co_X9_togetherIn (by decide) rfl (c_X9_togetherIn a1 a2 m3) (by decide) (by decide) rfl rfl (Nat.le_of_ble_eq_true rfl) dX9_together_17 (fun r6 m5 => ?_)
  refine r_goto (tgt := 24) C dX9_together_20 (by decide) ?_
  exact r_ireturn C dX9_together_24
theorem dX9_areTwins_0 : decode cX9_areTwins 0 = .ok (.aload_n 0, 1) := by decide +kernel
theorem dX9_areTwins_1 : decode cX9_areTwins 1 = .ok (.iload_n 1, 1) := by decide +kernel
theorem dX9_areTwins_2 : decode cX9_areTwins 2 = .ok (.iload_n 2, 1) := by decide +kernel
theorem dX9_areTwins_3 : decode cX9_areTwins 3 = .ok (.invokevirtual 273, 3) := by decide +kernel
theorem dX9_areTwins_6 : decode cX9_areTwins 6 = .ok (.aload_n 0, 1) := by decide +kernel
theorem dX9_areTwins_7 : decode cX9_areTwins 7 = .ok (.getfield 7, 3) := by decide +kernel
theorem dX9_areTwins_10 : decode cX9_areTwins 10 = .ok (.bipush 36, 2) := by decide +kernel
theorem dX9_areTwins_12 : decode cX9_areTwins 12 = .ok (.iaload, 1) := by decide +kernel
theorem dX9_areTwins_13 : decode cX9_areTwins 13 = .ok (.if_icmp .ne 7, 3) := by decide +kernel
theorem dX9_areTwins_16 : decode cX9_areTwins 16 = .ok (.iconst 1, 1) := by decide +kernel
theorem dX9_areTwins_17 : decode cX9_areTwins 17 = .ok (.goto 4, 3) := by decide +kernel
theorem dX9_areTwins_20 : decode cX9_areTwins 20 = .ok (.iconst 0, 1) := by decide +kernel
theorem dX9_areTwins_21 : decode cX9_areTwins 21 = .ok (.ireturn, 1) := by decide +kernel
def X9_areTwins (a1 : Int32) (a2 : Int32) (m : gM) : Option (Bool × gM) :=
  gCall (X9_togetherIn a1 a2 m) (fun (r2 : Int32) (m1 : gM) => gAt m1 47 0 36 (fun (x3 : Int32) => if r2 = x3 then (some (true, m1)) else (some (false, m1))))
set_option maxRecDepth 100000 in
set_option maxHeartbeats 4000000 in
theorem c_X9_areTwins (a1 : Int32) (a2 : Int32) (m : gM) : gCon eB yX9_areTwins cX9_areTwins 3 (some .boolean) 3 [.inr (9, 0), .inl a1, .inl a2] m (X9_areTwins a1 a2 m) := by
  refine gCon.of (lv := [some (.inr (9, 0)), some (.inl a1), some (.inl a2)]) (by decide +kernel) (Nat.le_of_ble_eq_true rfl) rfl (fun X C => ?_)
  unfold X9_areTwins
  refine r_aload_n C dX9_areTwins_0 rfl rfl ?_
  refine r_iload_n C dX9_areTwins_1 rfl rfl ?_
  refine r_iload_n C dX9_areTwins_2 rfl rfl ?_
  refine r_invI (t := 9) (kb := 0) (As := [.inl a1, .inl a2]) (st := []) C il_X9_273 co_X9_togetherIn (by decide) rfl (c_X9_togetherIn a1 a2 m) (by decide) (by decide) rfl rfl (Nat.le_of_ble_eq_true rfl) dX9_areTwins_3 (fun r2 m1 => ?_)
  refine r_aload_n C dX9_areTwins_6 rfl rfl ?_
  refine r_get (v := .inr (47, 0)) C fl_X9_7 dX9_areTwins_7 rfl ?_
  refine r_bipush (v := 36) C dX9_areTwins_10 (by decide) ?_
  refine r_iald C rfl dX9_areTwins_12 (fun x3 => ?_)
  refine r_icmp_ne (tgt := 20) C dX9_areTwins_13 (by decide) ?_ ?_
  · refine r_iconst (v := 0) C dX9_areTwins_20 (by decide) ?_
    exact r_zret0 C dX9_areTwins_21
  refine r_iconst (v := 1) C dX9_areTwins_16 (by decide) ?_
  refine r_goto (tgt := 21) C dX9_areTwins_17 (by decide) ?_
  exact r_zret1 C dX9_areTwins_21
theorem dX9_pairs_0 : decode cX9_pairs 0 = .ok (.iload_n 1, 1) := by decide +kernel
theorem dX9_pairs_1 : decode cX9_pairs 1 = .ok (.iconst 1, 1) := by decide +kernel
theorem dX9_pairs_2 : decode cX9_pairs 2 = .ok (.bipush 64, 2) := by decide +kernel
theorem dX9_pairs_4 : decode cX9_pairs 4 = .ok (.invokestatic 77, 3) := by decide +kernel
theorem dX9_pairs_7 : decode cX9_pairs 7 = .ok (.ifCond .ne 5, 3) := by decide +kernel
theorem dX9_pairs_10 : decode cX9_pairs 10 = .ok (.iconst (-1), 1) := by decide +kernel
theorem dX9_pairs_11 : decode cX9_pairs 11 = .ok (.ireturn, 1) := by decide +kernel
theorem dX9_pairs_12 : decode cX9_pairs 12 = .ok (.iconst 0, 1) := by decide +kernel
theorem dX9_pairs_13 : decode cX9_pairs 13 = .ok (.istore_n 2, 1) := by decide +kernel
theorem dX9_pairs_14 : decode cX9_pairs 14 = .ok (.iconst 0, 1) := by decide +kernel
theorem dX9_pairs_15 : decode cX9_pairs 15 = .ok (.istore_n 3, 1) := by decide +kernel
theorem dX9_pairs_16 : decode cX9_pairs 16 = .ok (.iload_n 3, 1) := by decide +kernel
theorem dX9_pairs_17 : decode cX9_pairs 17 = .ok (.iload_n 1, 1) := by decide +kernel
theorem dX9_pairs_18 : decode cX9_pairs 18 = .ok (.if_icmp .ge 42, 3) := by decide +kernel
theorem dX9_pairs_21 : decode cX9_pairs 21 = .ok (.iconst 0, 1) := by decide +kernel
theorem dX9_pairs_22 : decode cX9_pairs 22 = .ok (.istore 4, 2) := by decide +kernel
theorem dX9_pairs_24 : decode cX9_pairs 24 = .ok (.iload 4, 2) := by decide +kernel
theorem dX9_pairs_26 : decode cX9_pairs 26 = .ok (.iload_n 3, 1) := by decide +kernel
theorem dX9_pairs_27 : decode cX9_pairs 27 = .ok (.if_icmp .ge 27, 3) := by decide +kernel
theorem dX9_pairs_30 : decode cX9_pairs 30 = .ok (.iload_n 2, 1) := by decide +kernel
theorem dX9_pairs_31 : decode cX9_pairs 31 = .ok (.aload_n 0, 1) := by decide +kernel
theorem dX9_pairs_32 : decode cX9_pairs 32 = .ok (.iload_n 3, 1) := by decide +kernel
theorem dX9_pairs_33 : decode cX9_pairs 33 = .ok (.iload 4, 2) := by decide +kernel
theorem dX9_pairs_35 : decode cX9_pairs 35 = .ok (.invokevirtual 276, 3) := by decide +kernel
theorem dX9_pairs_38 : decode cX9_pairs 38 = .ok (.ifCond .eq 7, 3) := by decide +kernel
theorem dX9_pairs_41 : decode cX9_pairs 41 = .ok (.iconst 1, 1) := by decide +kernel
theorem dX9_pairs_42 : decode cX9_pairs 42 = .ok (.goto 4, 3) := by decide +kernel
theorem dX9_pairs_45 : decode cX9_pairs 45 = .ok (.iconst 0, 1) := by decide +kernel
theorem dX9_pairs_46 : decode cX9_pairs 46 = .ok (.iadd, 1) := by decide +kernel
theorem dX9_pairs_47 : decode cX9_pairs 47 = .ok (.istore_n 2, 1) := by decide +kernel
theorem dX9_pairs_48 : decode cX9_pairs 48 = .ok (.iinc 4 1, 3) := by decide +kernel
theorem dX9_pairs_51 : decode cX9_pairs 51 = .ok (.goto (-27), 3) := by decide +kernel
theorem dX9_pairs_54 : decode cX9_pairs 54 = .ok (.iinc 3 1, 3) := by decide +kernel
theorem dX9_pairs_57 : decode cX9_pairs 57 = .ok (.goto (-41), 3) := by decide +kernel
theorem dX9_pairs_60 : decode cX9_pairs 60 = .ok (.iload_n 2, 1) := by decide +kernel
theorem dX9_pairs_61 : decode cX9_pairs 61 = .ok (.ireturn, 1) := by decide +kernel
def X9_pairs_b24 (k16 : Int32 → Int32 → gM → Option (Int32 × gM)) (v4 : Int32) (v6 v7 : Int32) (m8 : gM) (k24 : Int32 → Int32 → gM → Option (Int32 × gM)) : Option (Int32 × gM) :=
  if v4 ≤ v7 then (gLet (v4 + 1) (fun (x9 : Int32) => k16 v6 x9 m8)) else (gCall (X9_areTwins v4 v7 m8) (fun (r11 : Bool) (m10 : gM) => if r11 = true then (gLet (v6 + 1) (fun (x14 : Int32) => gLet (v7 + 1) (fun (x15 : Int32) => k24 x14 x15 m10))) else (gLet (v6 + 0) (fun (x12 : Int32) => gLet (v7 + 1) (fun (x13 : Int32) => k24 x12 x13 m10)))))
def X9_pairs_b16 (a1 : Int32) (v3 v4 : Int32) (m5 : gM) (k16 : Int32 → Int32 → gM → Option (Int32 × gM)) : Option (Int32 × gM) :=
  if a1 ≤ v4 then (some (v3, m5)) else (gL2 FU (X9_pairs_b24 k16 v4) v3 0 m5)
def X9_pairs (a1 : Int32) (m : gM) : Option (Int32 × gM) :=
  gCall (X9_isIn a1 1 64 m) (fun (r2 : Bool) (m1 : gM) => if r2 = true then (gL2 FU (X9_pairs_b16 a1) 0 0 m1) else (some ((-1), m1)))
set_option maxRecDepth 100000 in
set_option maxHeartbeats 4000000 in
theorem c_X9_pairs (a1 : Int32) (m : gM) : gCon eI yX9_pairs cX9_pairs 5 (some .int) 4 [.inr (9, 0), .inl a1] m (X9_pairs a1 m) := by
  refine gCon.of (lv := [some (.inr (9, 0)), some (.inl a1), none, none, none]) (by decide +kernel) (Nat.le_of_ble_eq_true rfl) rfl (fun X C => ?_)
  unfold X9_pairs
  refine r_iload_n C dX9_pairs_0 rfl rfl ?_
  refine r_iconst (v := 1) C dX9_pairs_1 (by decide) ?_
  refine r_bipush (v := 64) C dX9_pairs_2 (by decide) ?_
  refine r_insB (As := [.inl a1, .inl 1, .inl 64]) (st := []) C il_X9_77 co_X9_isIn (c_X9_isIn a1 1 64 m) (by decide) (by decide) rfl rfl (Nat.le_of_ble_eq_true rfl) dX9_pairs_4 (fun r2 m1 => ?_)
  refine r_ifneB (tgt := 12) C dX9_pairs_7 (by decide) ?_ ?_
  · refine r_iconst (v := 0) C dX9_pairs_12 (by decide) ?_
    refine r_istore_n (lv' := [some (.inr (9, 0)), some (.inl a1), some (.inl 0), none, none]) C dX9_pairs_13 rfl (by decide) rfl ?_
    refine r_iconst (v := 0) C dX9_pairs_14 (by decide) ?_
    refine r_istore_n (lv' := [some (.inr (9, 0)), some (.inl a1), some (.inl 0), some (.inl 0), none]) C dX9_pairs_15 rfl (by decide) rfl ?_
    refine r_weak (lv' := [some (.inr (9, 0)), some (.inl a1), some (.inl 0), some (.inl 0), none]) ⟨rfl, rfl, rfl, rfl, trivial⟩ ?_
    refine r_l2 (pj := 16) (fun v3 v4 => [some (.inr (9, 0)), some (.inl a1), some (.inl v3), some (.inl v4), none]) (fun v3 v4 m5 k16 hk16 => ?_) _ _ _ _
    unfold X9_pairs_b16
    refine r_iload_n C dX9_pairs_16 rfl rfl ?_
    refine r_iload_n C dX9_pairs_17 rfl rfl ?_
    refine r_icmp_ge (tgt := 60) C dX9_pairs_18 (by decide) ?_ ?_
    · refine r_iload_n C dX9_pairs_60 rfl rfl ?_
      exact r_ireturn C dX9_pairs_61
    refine r_iconst (v := 0) C dX9_pairs_21 (by decide) ?_
    refine r_istore (lv' := [some (.inr (9, 0)), some (.inl a1), some (.inl v3), some (.inl v4), some (.inl 0)]) C dX9_pairs_22 (by decide) rfl ?_
    refine r_weak (lv' := [some (.inr (9, 0)), some (.inl a1), some (.inl v3), some (.inl v4), some (.inl 0)]) ⟨rfl, rfl, rfl, rfl, rfl, trivial⟩ ?_
    refine r_l2 (pj := 24) (fun v6 v7 => [some (.inr (9, 0)), some (.inl a1), some (.inl v6), some (.inl v4), some (.inl v7)]) (fun v6 v7 m8 k24 hk24 => ?_) _ _ _ _
    unfold X9_pairs_b24
    refine r_iload C dX9_pairs_24 rfl ?_
    refine r_iload_n C dX9_pairs_26 rfl rfl ?_
    refine r_icmp_ge (tgt := 54) C dX9_pairs_27 (by decide) ?_ ?_
    · refine r_iinc (v := 1) C dX9_pairs_54 (by decide) rfl (by decide) (fun x9 => ?_)
      show gw X eI _ [some (.inr (9, 0)), some (.inl a1), some (.inl v6), some (.inl x9), some (.inl v7)] _ _ _
      refine r_goto (tgt := 16) C dX9_pairs_57 (by decide) ?_
      exact r_weak (lv' := [some (.inr (9, 0)), some (.inl a1), some (.inl v6), some (.inl x9), none]) ⟨rfl, rfl, rfl, rfl, trivial⟩ (hk16 _ _ _)
    refine r_iload_n C dX9_pairs_30 rfl rfl ?_
    refine r_aload_n C dX9_pairs_31 rfl rfl ?_
    refine r_iload_n C dX9_pairs_32 rfl rfl ?_
    refine r_iload C dX9_pairs_33 rfl ?_
    refine r_invB (t := 9) (kb := 0) (As := [.inl v4, .inl v7]) (st := [.inl v6]) C il_X9_276 co_X9_areTwins (by decide) rfl (c_X9_areTwins v4 v7 m8) (by decide) (by decide) rfl rfl (Nat.le_of_ble_eq_true rfl) dX9_pairs_35 (fun r11 m10 => ?_)
    refine r_ifeqB (tgt := 45) C dX9_pairs_38 (by decide) ?_ ?_
    · refine r_iconst (v := 0) C dX9_pairs_45 (by decide) ?_
      refine r_iadd C dX9_pairs_46 ?_
      refine r_let (fun x12 => ?_)
      refine r_istore_n (lv' := [some (.inr (9, 0)), some (.inl a1), some (.inl x12), some (.inl v4), some (.inl v7)]) C dX9_pairs_47 rfl (by decide) rfl ?_
      refine r_iinc (v := 1) C dX9_pairs_48 (by decide) rfl (by decide) (fun x13 => ?_)
      show gw X eI _ [some (.inr (9, 0)), some (.inl a1), some (.inl x12), some (.inl v4), some (.inl x13)] _ _ _
      refine r_goto (tgt := 24) C dX9_pairs_51 (by decide) ?_
      exact r_weak (lv' := [some (.inr (9, 0)), some (.inl a1), some (.inl x12), some (.inl v4), some (.inl x13)]) ⟨rfl, rfl, rfl, rfl, rfl, trivial⟩ (hk24 _ _ _)
    refine r_iconst (v := 1) C dX9_pairs_41 (by decide) ?_
    refine r_goto (tgt := 46) C dX9_pairs_42 (by decide) ?_
    refine r_iadd C dX9_pairs_46 ?_
    refine r_let (fun x14 => ?_)
    refine r_istore_n (lv' := [some (.inr (9, 0)), some (.inl a1), some (.inl x14), some (.inl v4), some (.inl v7)]) C dX9_pairs_47 rfl (by decide) rfl ?_
    refine r_iinc (v := 1) C dX9_pairs_48 (by decide) rfl (by decide) (fun x15 => ?_)
    show gw X eI _ [some (.inr (9, 0)), some (.inl a1), some (.inl x14), some (.inl v4), some (.inl x15)] _ _ _
    refine r_goto (tgt := 24) C dX9_pairs_51 (by decide) ?_
    exact r_weak (lv' := [some (.inr (9, 0)), some (.inl a1), some (.inl x14), some (.inl v4), some (.inl x15)]) ⟨rfl, rfl, rfl, rfl, rfl, trivial⟩ (hk24 _ _ _)
  refine r_iconst (v := (-1)) C dX9_pairs_10 (by decide) ?_
  exact r_ireturn C dX9_pairs_11
theorem dX9_shares_0 : decode cX9_shares 0 = .ok (.iload_n 1, 1) := by decide +kernel
theorem dX9_shares_1 : decode cX9_shares 1 = .ok (.iconst 0, 1) := by decide +kernel
theorem dX9_shares_2 : decode cX9_shares 2 = .ok (.aload_n 0, 1) := by decide +kernel
theorem dX9_shares_3 : decode cX9_shares 3 = .ok (.getfield 7, 3) := by decide +kernel
theorem dX9_shares_6 : decode cX9_shares 6 = .ok (.bipush 36, 2) := by decide +kernel
theorem dX9_shares_8 : decode cX9_shares 8 = .ok (.iaload, 1) := by decide +kernel
theorem dX9_shares_9 : decode cX9_shares 9 = .ok (.invokestatic 77, 3) := by decide +kernel
theorem dX9_shares_12 : decode cX9_shares 12 = .ok (.ifCond .ne 5, 3) := by decide +kernel
theorem dX9_shares_15 : decode cX9_shares 15 = .ok (.iconst (-1), 1) := by decide +kernel
theorem dX9_shares_16 : decode cX9_shares 16 = .ok (.ireturn, 1) := by decide +kernel
theorem dX9_shares_17 : decode cX9_shares 17 = .ok (.iconst 0, 1) := by decide +kernel
theorem dX9_shares_18 : decode cX9_shares 18 = .ok (.istore_n 2, 1) := by decide +kernel
theorem dX9_shares_19 : decode cX9_shares 19 = .ok (.iconst 0, 1) := by decide +kernel
theorem dX9_shares_20 : decode cX9_shares 20 = .ok (.istore_n 3, 1) := by decide +kernel
theorem dX9_shares_21 : decode cX9_shares 21 = .ok (.iload_n 3, 1) := by decide +kernel
theorem dX9_shares_22 : decode cX9_shares 22 = .ok (.aload_n 0, 1) := by decide +kernel
theorem dX9_shares_23 : decode cX9_shares 23 = .ok (.getfield 7, 3) := by decide +kernel
theorem dX9_shares_26 : decode cX9_shares 26 = .ok (.iconst 3, 1) := by decide +kernel
theorem dX9_shares_27 : decode cX9_shares 27 = .ok (.iaload, 1) := by decide +kernel
theorem dX9_shares_28 : decode cX9_shares 28 = .ok (.if_icmp .ge 57, 3) := by decide +kernel
theorem dX9_shares_31 : decode cX9_shares 31 = .ok (.iconst 0, 1) := by decide +kernel
theorem dX9_shares_32 : decode cX9_shares 32 = .ok (.istore 4, 2) := by decide +kernel
theorem dX9_shares_34 : decode cX9_shares 34 = .ok (.iload 4, 2) := by decide +kernel
theorem dX9_shares_36 : decode cX9_shares 36 = .ok (.iload_n 3, 1) := by decide +kernel
theorem dX9_shares_37 : decode cX9_shares 37 = .ok (.if_icmp .ge 42, 3) := by decide +kernel
theorem dX9_shares_40 : decode cX9_shares 40 = .ok (.iload_n 2, 1) := by decide +kernel
theorem dX9_shares_41 : decode cX9_shares 41 = .ok (.aload_n 0, 1) := by decide +kernel
theorem dX9_shares_42 : decode cX9_shares 42 = .ok (.aload_n 0, 1) := by decide +kernel
theorem dX9_shares_43 : decode cX9_shares 43 = .ok (.getfield 7, 3) := by decide +kernel
theorem dX9_shares_46 : decode cX9_shares 46 = .ok (.iconst 4, 1) := by decide +kernel
theorem dX9_shares_47 : decode cX9_shares 47 = .ok (.iload_n 3, 1) := by decide +kernel
theorem dX9_shares_48 : decode cX9_shares 48 = .ok (.iadd, 1) := by decide +kernel
theorem dX9_shares_49 : decode cX9_shares 49 = .ok (.iaload, 1) := by decide +kernel
theorem dX9_shares_50 : decode cX9_shares 50 = .ok (.aload_n 0, 1) := by decide +kernel
theorem dX9_shares_51 : decode cX9_shares 51 = .ok (.getfield 7, 3) := by decide +kernel
theorem dX9_shares_54 : decode cX9_shares 54 = .ok (.iconst 4, 1) := by decide +kernel
theorem dX9_shares_55 : decode cX9_shares 55 = .ok (.iload 4, 2) := by decide +kernel
theorem dX9_shares_57 : decode cX9_shares 57 = .ok (.iadd, 1) := by decide +kernel
theorem dX9_shares_58 : decode cX9_shares 58 = .ok (.iaload, 1) := by decide +kernel
theorem dX9_shares_59 : decode cX9_shares 59 = .ok (.invokevirtual 273, 3) := by decide +kernel
theorem dX9_shares_62 : decode cX9_shares 62 = .ok (.iload_n 1, 1) := by decide +kernel
theorem dX9_shares_63 : decode cX9_shares 63 = .ok (.if_icmp .ne 7, 3) := by decide +kernel
theorem dX9_shares_66 : decode cX9_shares 66 = .ok (.iconst 1, 1) := by decide +kernel
theorem dX9_shares_67 : decode cX9_shares 67 = .ok (.goto 4, 3) := by decide +kernel
theorem dX9_shares_70 : decode cX9_shares 70 = .ok (.iconst 0, 1) := by decide +kernel
theorem dX9_shares_71 : decode cX9_shares 71 = .ok (.iadd, 1) := by decide +kernel
theorem dX9_shares_72 : decode cX9_shares 72 = .ok (.istore_n 2, 1) := by decide +kernel
theorem dX9_shares_73 : decode cX9_shares 73 = .ok (.iinc 4 1, 3) := by decide +kernel
theorem dX9_shares_76 : decode cX9_shares 76 = .ok (.goto (-42), 3) := by decide +kernel
theorem dX9_shares_79 : decode cX9_shares 79 = .ok (.iinc 3 1, 3) := by decide +kernel
theorem dX9_shares_82 : decode cX9_shares 82 = .ok (.goto (-61), 3) := by decide +kernel
theorem dX9_shares_85 : decode cX9_shares 85 = .ok (.iload_n 2, 1) := by decide +kernel
theorem dX9_shares_86 : decode cX9_shares 86 = .ok (.ireturn, 1) := by decide +kernel
def X9_shares_b34 (a1 : Int32) (k21 : Int32 → Int32 → gM → Option (Int32 × gM)) (v5 : Int32) (v8 v9 : Int32) (m10 : gM) (k34 : Int32 → Int32 → gM → Option (Int32 × gM)) : Option (Int32 × gM) :=
  if v5 ≤ v9 then (gLet (v5 + 1) (fun (x11 : Int32) => k21 v8 x11 m10)) else (gAt m10 47 0 (4 + v5) (fun (x12 : Int32) => gAt m10 47 0 (4 + v9) (fun (x13 : Int32) => gCall (X9_togetherIn x12 x13 m10) (fun (r15 : Int32) (m14 : gM) => if r15 = a1 then (gLet (v8 + 1) (fun (x18 : Int32) => gLet (v9 + 1) (fun (x19 : Int32) => k34 x18 x19 m14))) else (gLet (v8 + 0) (fun (x16 : Int32) => gLet (v9 + 1) (fun (x17 : Int32) => k34 x16 x17 m14)))))))
def X9_shares_b21 (a1 : Int32) (v4 v5 : Int32) (m6 : gM) (k21 : Int32 → Int32 → gM → Option (Int32 × gM)) : Option (Int32 × gM) :=
  gAt m6 47 0 3 (fun (x7 : Int32) => if x7 ≤ v5 then (some (v4, m6)) else (gL2 FU (X9_shares_b34 a1 k21 v5) v4 0 m6))
def X9_shares (a1 : Int32) (m : gM) : Option (Int32 × gM) :=
  gAt m 47 0 36 (fun (x1 : Int32) => gCall (X9_isIn a1 0 x1 m) (fun (r3 : Bool) (m2 : gM) => if r3 = true then (gL2 FU (X9_shares_b21 a1) 0 0 m2) else (some ((-1), m2))))
set_option maxRecDepth 100000 in
set_option maxHeartbeats 4000000 in
theorem c_X9_shares (a1 : Int32) (m : gM) : gCon eI yX9_shares cX9_shares 5 (some .int) 3 [.inr (9, 0), .inl a1] m (X9_shares a1 m) := by
  refine gCon.of (lv := [some (.inr (9, 0)), some (.inl a1), none, none, none]) (by decide +kernel) (Nat.le_of_ble_eq_true rfl) rfl (fun X C => ?_)
  unfold X9_shares
  refine r_iload_n C dX9_shares_0 rfl rfl ?_
  refine r_iconst (v := 0) C dX9_shares_1 (by decide) ?_
  refine r_aload_n C dX9_shares_2 rfl rfl ?_
  refine r_get (v := .inr (47, 0)) C fl_X9_7 dX9_shares_3 rfl ?_
  refine r_bipush (v := 36) C dX9_shares_6 (by decide) ?_
  refine r_iald C rfl dX9_shares_8 (fun x1 => ?_)
  refine r_insB (As := [.inl a1, .inl 0, .inl x1]) (st := []) C il_X9_77 co_X9_isIn (c_X9_isIn a1 0 x1 m) (by decide) (by decide) rfl rfl (Nat.le_of_ble_eq_true rfl) dX9_shares_9 (fun r3 m2 => ?_)
  refine r_ifneB (tgt := 17) C dX9_shares_12 (by decide) ?_ ?_
  · refine r_iconst (v := 0) C dX9_shares_17 (by decide) ?_
    refine r_istore_n (lv' := [some (.inr (9, 0)), some (.inl a1), some (.inl 0), none, none]) C dX9_shares_18 rfl (by decide) rfl ?_
    refine r_iconst (v := 0) C dX9_shares_19 (by decide) ?_
    refine r_istore_n (lv' := [some (.inr (9, 0)), some (.inl a1), some (.inl 0), some (.inl 0), none]) C dX9_shares_20 rfl (by decide) rfl ?_
    refine r_weak (lv' := [some (.inr (9, 0)), some (.inl a1), some (.inl 0), some (.inl 0), none]) ⟨rfl, rfl, rfl, rfl, trivial⟩ ?_
    refine r_l2 (pj := 21) (fun v4 v5 => [some (.inr (9, 0)), some (.inl a1), some (.inl v4), some (.inl v5), none]) (fun v4 v5 m6 k21 hk21 => ?_) _ _ _ _
    unfold X9_shares_b21
    refine r_iload_n C dX9_shares_21 rfl rfl ?_
    refine r_aload_n C dX9_shares_22 rfl rfl ?_
    refine r_get (v := .inr (47, 0)) C fl_X9_7 dX9_shares_23 rfl ?_
    refine r_iconst (v := 3) C dX9_shares_26 (by decide) ?_
    refine r_iald C rfl dX9_shares_27 (fun x7 => ?_)
    refine r_icmp_ge (tgt := 85) C dX9_shares_28 (by decide) ?_ ?_
    · refine r_iload_n C dX9_shares_85 rfl rfl ?_
      exact r_ireturn C dX9_shares_86
    refine r_iconst (v := 0) C dX9_shares_31 (by decide) ?_
    refine r_istore (lv' := [some (.inr (9, 0)), some (.inl a1), some (.inl v4), some (.inl v5), some (.inl 0)]) C dX9_shares_32 (by decide) rfl ?_
    refine r_weak (lv' := [some (.inr (9, 0)), some (.inl a1), some (.inl v4), some (.inl v5), some (.inl 0)]) ⟨rfl, rfl, rfl, rfl, rfl, trivial⟩ ?_
    refine r_l2 (pj := 34) (fun v8 v9 => [some (.inr (9, 0)), some (.inl a1), some (.inl v8), some (.inl v5), some (.inl v9)]) (fun v8 v9 m10 k34 hk34 => ?_) _ _ _ _
    unfold X9_shares_b34
    refine r_iload C dX9_shares_34 rfl ?_
    refine r_iload_n C dX9_shares_36 rfl rfl ?_
    refine r_icmp_ge (tgt := 79) C dX9_shares_37 (by decide) ?_ ?_
    · refine r_iinc (v := 1) C dX9_shares_79 (by decide) rfl (by decide) (fun x11 => ?_)
      show gw X eI _ [some (.inr (9, 0)), some (.inl a1), some (.inl v8), some (.inl x11), some (.inl v9)] _ _ _
      refine r_goto (tgt := 21) C dX9_shares_82 (by decide) ?_
      exact r_weak (lv' := [some (.inr (9, 0)), some (.inl a1), some (.inl v8), some (.inl x11), none]) ⟨rfl, rfl, rfl, rfl, trivial⟩ (hk21 _ _ _)
    refine r_iload_n C dX9_shares_40 rfl rfl ?_
    refine r_aload_n C dX9_shares_41 rfl rfl ?_
    refine r_aload_n C dX9_shares_42 rfl rfl ?_
    refine r_get (v := .inr (47, 0)) C fl_X9_7 dX9_shares_43 rfl ?_
    refine r_iconst (v := 4) C dX9_shares_46 (by decide) ?_
    refine r_iload_n C dX9_shares_47 rfl rfl ?_
    refine r_iadd C dX9_shares_48 ?_
    refine r_iald C rfl dX9_shares_49 (fun x12 => ?_)
    refine r_aload_n C dX9_shares_50 rfl rfl ?_
    refine r_get (v := .inr (47, 0)) C fl_X9_7 dX9_shares_51 rfl ?_
    refine r_iconst (v := 4) C dX9_shares_54 (by decide) ?_
    refine r_iload C dX9_shares_55 rfl ?_
    refine r_iadd C dX9_shares_57 ?_
    refine r_iald C rfl dX9_shares_58 (fun x13 => ?_)
    refine r_invI (t := 9) (kb := 0) (As := [.inl x12, .inl x13]) (st := [.inl v8]) C il_X9_273 co_X9_togetherIn (by decide) rfl (c_X9_togetherIn x12 x13 m10) (by decide) (by decide) rfl rfl (Nat.le_of_ble_eq_true rfl) dX9_shares_59 (fun r15 m14 => ?_)
    refine r_iload_n C dX9_shares_62 rfl rfl ?_
    refine r_icmp_ne (tgt := 70) C dX9_shares_63 (by decide) ?_ ?_
    · refine r_iconst (v := 0) C dX9_shares_70 (by decide) ?_
      refine r_iadd C dX9_shares_71 ?_
      refine r_let (fun x16 => ?_)
      refine r_istore_n (lv' := [some (.inr (9, 0)), some (.inl a1), some (.inl x16), some (.inl v5), some (.inl v9)]) C dX9_shares_72 rfl (by decide) rfl ?_
      refine r_iinc (v := 1) C dX9_shares_73 (by decide) rfl (by decide) (fun x17 => ?_)
      show gw X eI _ [some (.inr (9, 0)), some (.inl a1), some (.inl x16), some (.inl v5), some (.inl x17)] _ _ _
      refine r_goto (tgt := 34) C dX9_shares_76 (by decide) ?_
      exact r_weak (lv' := [some (.inr (9, 0)), some (.inl a1), some (.inl x16), some (.inl v5), some (.inl x17)]) ⟨rfl, rfl, rfl, rfl, rfl, trivial⟩ (hk34 _ _ _)
    refine r_iconst (v := 1) C dX9_shares_66 (by decide) ?_
    refine r_goto (tgt := 71) C dX9_shares_67 (by decide) ?_
    refine r_iadd C dX9_shares_71 ?_
    refine r_let (fun x18 => ?_)
    refine r_istore_n (lv' := [some (.inr (9, 0)), some (.inl a1), some (.inl x18), some (.inl v5), some (.inl v9)]) C dX9_shares_72 rfl (by decide) rfl ?_
    refine r_iinc (v := 1) C dX9_shares_73 (by decide) rfl (by decide) (fun x19 => ?_)
    show gw X eI _ [some (.inr (9, 0)), some (.inl a1), some (.inl x18), some (.inl v5), some (.inl x19)] _ _ _
    refine r_goto (tgt := 34) C dX9_shares_76 (by decide) ?_
    exact r_weak (lv' := [some (.inr (9, 0)), some (.inl a1), some (.inl x18), some (.inl v5), some (.inl x19)]) ⟨rfl, rfl, rfl, rfl, rfl, trivial⟩ (hk34 _ _ _)
  refine r_iconst (v := (-1)) C dX9_shares_15 (by decide) ?_
  exact r_ireturn C dX9_shares_16
theorem dX9_laySpread_0 : decode cX9_laySpread 0 = .ok (.aload_n 0, 1) := by decide +kernel
theorem dX9_laySpread_1 : decode cX9_laySpread 1 = .ok (.iconst 0, 1) := by decide +kernel
theorem dX9_laySpread_2 : decode cX9_laySpread 2 = .ok (.putfield 279, 3) := by decide +kernel
theorem dX9_laySpread_5 : decode cX9_laySpread 5 = .ok (.aload_n 0, 1) := by decide +kernel
theorem dX9_laySpread_6 : decode cX9_laySpread 6 = .ok (.iconst 0, 1) := by decide +kernel
theorem dX9_laySpread_7 : decode cX9_laySpread 7 = .ok (.putfield 282, 3) := by decide +kernel
theorem dX9_laySpread_10 : decode cX9_laySpread 10 = .ok (.iconst 0, 1) := by decide +kernel
theorem dX9_laySpread_11 : decode cX9_laySpread 11 = .ok (.istore 4, 2) := by decide +kernel
theorem dX9_laySpread_13 : decode cX9_laySpread 13 = .ok (.iload 4, 2) := by decide +kernel
theorem dX9_laySpread_15 : decode cX9_laySpread 15 = .ok (.bipush 16, 2) := by decide +kernel
theorem dX9_laySpread_17 : decode cX9_laySpread 17 = .ok (.if_icmp .ge 17, 3) := by decide +kernel
theorem dX9_laySpread_20 : decode cX9_laySpread 20 = .ok (.aload_n 0, 1) := by decide +kernel
theorem dX9_laySpread_21 : decode cX9_laySpread 21 = .ok (.getfield 48, 3) := by decide +kernel
theorem dX9_laySpread_24 : decode cX9_laySpread 24 = .ok (.iload 4, 2) := by decide +kernel
theorem dX9_laySpread_26 : decode cX9_laySpread 26 = .ok (.iconst 0, 1) := by decide +kernel
theorem dX9_laySpread_27 : decode cX9_laySpread 27 = .ok (.iastore, 1) := by decide +kernel
theorem dX9_laySpread_28 : decode cX9_laySpread 28 = .ok (.iinc 4 1, 3) := by decide +kernel
theorem dX9_laySpread_31 : decode cX9_laySpread 31 = .ok (.goto (-18), 3) := by decide +kernel
theorem dX9_laySpread_34 : decode cX9_laySpread 34 = .ok (.iconst 0, 1) := by decide +kernel
theorem dX9_laySpread_35 : decode cX9_laySpread 35 = .ok (.istore 4, 2) := by decide +kernel
theorem dX9_laySpread_37 : decode cX9_laySpread 37 = .ok (.iload 4, 2) := by decide +kernel
theorem dX9_laySpread_39 : decode cX9_laySpread 39 = .ok (.iload_n 3, 1) := by decide +kernel
theorem dX9_laySpread_40 : decode cX9_laySpread 40 = .ok (.if_icmp .ge 91, 3) := by decide +kernel
theorem dX9_laySpread_43 : decode cX9_laySpread 43 = .ok (.aload_n 0, 1) := by decide +kernel
theorem dX9_laySpread_44 : decode cX9_laySpread 44 = .ok (.iload 4, 2) := by decide +kernel
theorem dX9_laySpread_46 : decode cX9_laySpread 46 = .ok (.iload_n 2, 1) := by decide +kernel
theorem dX9_laySpread_47 : decode cX9_laySpread 47 = .ok (.imul, 1) := by decide +kernel
theorem dX9_laySpread_48 : decode cX9_laySpread 48 = .ok (.sipush 1024, 3) := by decide +kernel
theorem dX9_laySpread_51 : decode cX9_laySpread 51 = .ok (.irem, 1) := by decide +kernel
theorem dX9_laySpread_52 : decode cX9_laySpread 52 = .ok (.iload_n 1, 1) := by decide +kernel
theorem dX9_laySpread_53 : decode cX9_laySpread 53 = .ok (.invokevirtual 93, 3) := by decide +kernel
theorem dX9_laySpread_56 : decode cX9_laySpread 56 = .ok (.istore 5, 2) := by decide +kernel
theorem dX9_laySpread_58 : decode cX9_laySpread 58 = .ok (.aload_n 0, 1) := by decide +kernel
theorem dX9_laySpread_59 : decode cX9_laySpread 59 = .ok (.dup, 1) := by decide +kernel
theorem dX9_laySpread_60 : decode cX9_laySpread 60 = .ok (.getfield 279, 3) := by decide +kernel
theorem dX9_laySpread_63 : decode cX9_laySpread 63 = .ok (.aload_n 0, 1) := by decide +kernel
theorem dX9_laySpread_64 : decode cX9_laySpread 64 = .ok (.getfield 48, 3) := by decide +kernel
theorem dX9_laySpread_67 : decode cX9_laySpread 67 = .ok (.iload 5, 2) := by decide +kernel
theorem dX9_laySpread_69 : decode cX9_laySpread 69 = .ok (.iaload, 1) := by decide +kernel
theorem dX9_laySpread_70 : decode cX9_laySpread 70 = .ok (.ifCond .ne 7, 3) := by decide +kernel
theorem dX9_laySpread_73 : decode cX9_laySpread 73 = .ok (.iconst 1, 1) := by decide +kernel
theorem dX9_laySpread_74 : decode cX9_laySpread 74 = .ok (.goto 4, 3) := by decide +kernel
theorem dX9_laySpread_77 : decode cX9_laySpread 77 = .ok (.iconst 0, 1) := by decide +kernel
theorem dX9_laySpread_78 : decode cX9_laySpread 78 = .ok (.iadd, 1) := by decide +kernel
theorem dX9_laySpread_79 : decode cX9_laySpread 79 = .ok (.putfield 279, 3) := by decide +kernel
theorem dX9_laySpread_82 : decode cX9_laySpread 82 = .ok (.aload_n 0, 1) := by decide +kernel
theorem dX9_laySpread_83 : decode cX9_laySpread 83 = .ok (.getfield 48, 3) := by decide +kernel
theorem dX9_laySpread_86 : decode cX9_laySpread 86 = .ok (.iload 5, 2) := by decide +kernel
theorem dX9_laySpread_88 : decode cX9_laySpread 88 = .ok (.dup2, 1) := by decide +kernel
theorem dX9_laySpread_89 : decode cX9_laySpread 89 = .ok (.iaload, 1) := by decide +kernel
theorem dX9_laySpread_90 : decode cX9_laySpread 90 = .ok (.iconst 1, 1) := by decide +kernel
theorem dX9_laySpread_91 : decode cX9_laySpread 91 = .ok (.iadd, 1) := by decide +kernel
theorem dX9_laySpread_92 : decode cX9_laySpread 92 = .ok (.iastore, 1) := by decide +kernel
theorem dX9_laySpread_93 : decode cX9_laySpread 93 = .ok (.aload_n 0, 1) := by decide +kernel
theorem dX9_laySpread_94 : decode cX9_laySpread 94 = .ok (.aload_n 0, 1) := by decide +kernel
theorem dX9_laySpread_95 : decode cX9_laySpread 95 = .ok (.getfield 48, 3) := by decide +kernel
theorem dX9_laySpread_98 : decode cX9_laySpread 98 = .ok (.iload 5, 2) := by decide +kernel
theorem dX9_laySpread_100 : decode cX9_laySpread 100 = .ok (.iaload, 1) := by decide +kernel
theorem dX9_laySpread_101 : decode cX9_laySpread 101 = .ok (.aload_n 0, 1) := by decide +kernel
theorem dX9_laySpread_102 : decode cX9_laySpread 102 = .ok (.getfield 282, 3) := by decide +kernel
theorem dX9_laySpread_105 : decode cX9_laySpread 105 = .ok (.if_icmp .le 13, 3) := by decide +kernel
theorem dX9_laySpread_108 : decode cX9_laySpread 108 = .ok (.aload_n 0, 1) := by decide +kernel
theorem dX9_laySpread_109 : decode cX9_laySpread 109 = .ok (.getfield 48, 3) := by decide +kernel
theorem dX9_laySpread_112 : decode cX9_laySpread 112 = .ok (.iload 5, 2) := by decide +kernel
theorem dX9_laySpread_114 : decode cX9_laySpread 114 = .ok (.iaload, 1) := by decide +kernel
theorem dX9_laySpread_115 : decode cX9_laySpread 115 = .ok (.goto 7, 3) := by decide +kernel
theorem dX9_laySpread_118 : decode cX9_laySpread 118 = .ok (.aload_n 0, 1) := by decide +kernel
theorem dX9_laySpread_119 : decode cX9_laySpread 119 = .ok (.getfield 282, 3) := by decide +kernel
theorem dX9_laySpread_122 : decode cX9_laySpread 122 = .ok (.putfield 282, 3) := by decide +kernel
theorem dX9_laySpread_125 : decode cX9_laySpread 125 = .ok (.iinc 4 1, 3) := by decide +kernel
theorem dX9_laySpread_128 : decode cX9_laySpread 128 = .ok (.goto (-91), 3) := by decide +kernel
theorem dX9_laySpread_131 : decode cX9_laySpread 131 = .ok (.return_, 1) := by decide +kernel
def X9_laySpread_b37 (a1 : Int32) (a2 : Int32) (a3 : Int32) (v4 : Int32) (m5 : gM) (k37 : Int32 → gM → Option (Unit × gM)) : Option (Unit × gM) :=
  if a3 ≤ v4 then (some ((), m5)) else (gCall (X9_indexOf (gRem (v4 * a2) 1024) a1 m5) (fun (r7 : Int32) (m6 : gM) => gAt m6 57 0 r7 (fun (x8 : Int32) => gJ1 (fun (w9 : Int32) (m10 : gM) => gLet ((m6 9 0 22) + w9) (fun (x11 : Int32) => gSet m10 9 0 22 x11 (fun (m12 : gM) => gAt m12 57 0 r7 (fun (x13 : Int32) => gPut m12 57 0 r7 (x13 + 1) (fun (m14 : gM) => gAt m14 57 0 r7 (fun (x15 : Int32) => gJ1 (fun (w16 : Int32) (m17 : gM) => gSet m17 9 0 23 w16 (fun (m18 : gM) => gLet (v4 + 1) (fun (x19 : Int32) => k37 x19 m18))) (fun (j122 : Int32 → gM → Option (Unit × gM)) => if x15 ≤ (m14 9 0 23) then (j122 (m14 9 0 23) m14) else (gAt m14 57 0 r7 (fun (x20 : Int32) => j122 x20 m14))))))))) (fun (j78 : Int32 → gM → Option (Unit × gM)) => if x8 = 0 then (j78 1 m6) else (j78 0 m6)))))
def X9_laySpread_b13 (j34 : gM → Option (Unit × gM)) (v21 : Int32) (m22 : gM) (k13 : Int32 → gM → Option (Unit × gM)) : Option (Unit × gM) :=
  if 16 ≤ v21 then (j34 m22) else (gPut m22 57 0 v21 0 (fun (m23 : gM) => gLet (v21 + 1) (fun (x24 : Int32) => k13 x24 m23)))
def X9_laySpread (a1 : Int32) (a2 : Int32) (a3 : Int32) (m : gM) : Option (Unit × gM) :=
  gSet m 9 0 22 0 (fun (m1 : gM) => gSet m1 9 0 23 0 (fun (m2 : gM) => gJ0 (fun (m3 : gM) => gL1 FU (X9_laySpread_b37 a1 a2 a3) 0 m3) (fun (j34 : gM → Option (Unit × gM)) => gL1 FU (X9_laySpread_b13 j34) 0 m2)))
set_option maxRecDepth 100000 in
set_option maxHeartbeats 4000000 in
theorem c_X9_laySpread (a1 : Int32) (a2 : Int32) (a3 : Int32) (m : gM) : gCon eU yX9_laySpread cX9_laySpread 6 none 2 [.inr (9, 0), .inl a1, .inl a2, .inl a3] m (X9_laySpread a1 a2 a3 m) := by
  refine gCon.of (lv := [some (.inr (9, 0)), some (.inl a1), some (.inl a2), some (.inl a3), none, none]) (by decide +kernel) (Nat.le_of_ble_eq_true rfl) rfl (fun X C => ?_)
  unfold X9_laySpread
  refine r_aload_n C dX9_laySpread_0 rfl rfl ?_
  refine r_iconst (v := 0) C dX9_laySpread_1 (by decide) ?_
  refine r_put C fl_X9_279 rfl rfl rfl dX9_laySpread_2 (fun m1 => ?_)
  refine r_aload_n C dX9_laySpread_5 rfl rfl ?_
  refine r_iconst (v := 0) C dX9_laySpread_6 (by decide) ?_
  refine r_put C fl_X9_282 rfl rfl rfl dX9_laySpread_7 (fun m2 => ?_)
  refine r_iconst (v := 0) C dX9_laySpread_10 (by decide) ?_
  refine r_istore (lv' := [some (.inr (9, 0)), some (.inl a1), some (.inl a2), some (.inl a3), some (.inl 0), none]) C dX9_laySpread_11 (by decide) rfl ?_
  refine r_j0 34 [some (.inr (9, 0)), some (.inl a1), some (.inl a2), some (.inl a3), none, none] [] (fun m3 => ?_) (fun j34 hj34 => ?_)
  · refine r_iconst (v := 0) C dX9_laySpread_34 (by decide) ?_
    refine r_istore (lv' := [some (.inr (9, 0)), some (.inl a1), some (.inl a2), some (.inl a3), some (.inl 0), none]) C dX9_laySpread_35 (by decide) rfl ?_
    refine r_weak (lv' := [some (.inr (9, 0)), some (.inl a1), some (.inl a2), some (.inl a3), some (.inl 0), none]) ⟨rfl, rfl, rfl, rfl, rfl, trivial⟩ ?_
    refine r_l1 (pj := 37) (fun v4 => [some (.inr (9, 0)), some (.inl a1), some (.inl a2), some (.inl a3), some (.inl v4), none]) (fun v4 m5 k37 hk37 => ?_) _ _ _
    unfold X9_laySpread_b37
    refine r_iload C dX9_laySpread_37 rfl ?_
    refine r_iload_n C dX9_laySpread_39 rfl rfl ?_
    refine r_icmp_ge (tgt := 131) C dX9_laySpread_40 (by decide) ?_ ?_
    · exact r_return C dX9_laySpread_131
    refine r_aload_n C dX9_laySpread_43 rfl rfl ?_
    refine r_iload C dX9_laySpread_44 rfl ?_
    refine r_iload_n C dX9_laySpread_46 rfl rfl ?_
    refine r_imul C dX9_laySpread_47 ?_
    refine r_sipush (v := 1024) C dX9_laySpread_48 (by decide) ?_
    refine r_irem C dX9_laySpread_51 (by decide) ?_
    refine r_iload_n C dX9_laySpread_52 rfl rfl ?_
    refine r_invI (t := 9) (kb := 0) (As := [.inl (gRem (v4 * a2) 1024), .inl a1]) (st := []) C il_X9_93 co_X9_indexOf (by decide) rfl (c_X9_indexOf (gRem (v4 * a2) 1024) a1 m5) (by decide) (by decide) rfl rfl (Nat.le_of_ble_eq_true rfl) dX9_laySpread_53 (fun r7 m6 => ?_)
    refine r_istore (lv' := [some (.inr (9, 0)), some (.inl a1), some (.inl a2), some (.inl a3), some (.inl v4), some (.inl r7)]) C dX9_laySpread_56 (by decide) rfl ?_
    refine r_aload_n C dX9_laySpread_58 rfl rfl ?_
    refine r_dup C dX9_laySpread_59 ?_
    refine r_get (v := .inl (m6 9 0 22)) C fl_X9_279 dX9_laySpread_60 rfl ?_
    refine r_aload_n C dX9_laySpread_63 rfl rfl ?_
    refine r_get (v := .inr (57, 0)) C fl_X9_48 dX9_laySpread_64 rfl ?_
    refine r_iload C dX9_laySpread_67 rfl ?_
    refine r_iald C rfl dX9_laySpread_69 (fun x8 => ?_)
    refine r_j1 78 (fun w9 => [some (.inr (9, 0)), some (.inl a1), some (.inl a2), some (.inl a3), some (.inl v4), some (.inl r7)]) (fun w9 => [.inl w9, .inl (m6 9 0 22), .inr (9, 0)]) (fun w9 m10 => ?_) (fun j78 hj78 => ?_)
    · refine r_iadd C dX9_laySpread_78 ?_
      refine r_let (fun x11 => ?_)
      refine r_put C fl_X9_279 rfl rfl rfl dX9_laySpread_79 (fun m12 => ?_)
      refine r_aload_n C dX9_laySpread_82 rfl rfl ?_
      refine r_get (v := .inr (57, 0)) C fl_X9_48 dX9_laySpread_83 rfl ?_
      refine r_iload C dX9_laySpread_86 rfl ?_
      refine r_dup2 C dX9_laySpread_88 ?_
      refine r_iald C rfl dX9_laySpread_89 (fun x13 => ?_)
      refine r_iconst (v := 1) C dX9_laySpread_90 (by decide) ?_
      refine r_iadd C dX9_laySpread_91 ?_
      refine r_iast C rfl dX9_laySpread_92 (fun m14 => ?_)
      refine r_aload_n C dX9_laySpread_93 rfl rfl ?_
      refine r_aload_n C dX9_laySpread_94 rfl rfl ?_
      refine r_get (v := .inr (57, 0)) C fl_X9_48 dX9_laySpread_95 rfl ?_
      refine r_iload C dX9_laySpread_98 rfl ?_
      refine r_iald C rfl dX9_laySpread_100 (fun x15 => ?_)
      refine r_aload_n C dX9_laySpread_101 rfl rfl ?_
      refine r_get (v := .inl (m14 9 0 23)) C fl_X9_282 dX9_laySpread_102 rfl ?_
      refine r_j1 122 (fun w16 => [some (.inr (9, 0)), some (.inl a1), some (.inl a2), some (.inl a3), some (.inl v4), none]) (fun w16 => [.inl w16, .inr (9, 0)]) (fun w16 m17 => ?_) (fun j122 hj122 => ?_)
      · refine r_put C fl_X9_282 rfl rfl rfl dX9_laySpread_122 (fun m18 => ?_)
        refine r_iinc (v := 1) C dX9_laySpread_125 (by decide) rfl (by decide) (fun x19 => ?_)
        show gw X eU _ [some (.inr (9, 0)), some (.inl a1), some (.inl a2), some (.inl a3), some (.inl x19), none] _ _ _
        refine r_goto (tgt := 37) C dX9_laySpread_128 (by decide) ?_
        exact r_weak (lv' := [some (.inr (9, 0)), some (.inl a1), some (.inl a2), some (.inl a3), some (.inl x19), none]) ⟨rfl, rfl, rfl, rfl, rfl, trivial⟩ (hk37 _ _)
      refine r_icmp_le (tgt := 118) C dX9_laySpread_105 (by decide) ?_ ?_
      · refine r_aload_n C dX9_laySpread_118 rfl rfl ?_
        refine r_get (v := .inl (m14 9 0 23)) C fl_X9_282 dX9_laySpread_119 rfl ?_
        exact r_weak (lv' := [some (.inr (9, 0)), some (.inl a1), some (.inl a2), some (.inl a3), some (.inl v4), none]) ⟨rfl, rfl, rfl, rfl, rfl, trivial⟩ (hj122 _ _)
      refine r_aload_n C dX9_laySpread_108 rfl rfl ?_
      refine r_get (v := .inr (57, 0)) C fl_X9_48 dX9_laySpread_109 rfl ?_
      refine r_iload C dX9_laySpread_112 rfl ?_
      refine r_iald C rfl dX9_laySpread_114 (fun x20 => ?_)
      refine r_goto (tgt := 122) C dX9_laySpread_115 (by decide) ?_
      exact r_weak (lv' := [some (.inr (9, 0)), some (.inl a1), some (.inl a2), some (.inl a3), some (.inl v4), none]) ⟨rfl, rfl, rfl, rfl, rfl, trivial⟩ (hj122 _ _)
    refine r_if_ne (tgt := 77) C dX9_laySpread_70 (by decide) ?_ ?_
    · refine r_iconst (v := 0) C dX9_laySpread_77 (by decide) ?_
      exact r_weak (lv' := [some (.inr (9, 0)), some (.inl a1), some (.inl a2), some (.inl a3), some (.inl v4), some (.inl r7)]) ⟨rfl, rfl, rfl, rfl, rfl, rfl, trivial⟩ (hj78 _ _)
    refine r_iconst (v := 1) C dX9_laySpread_73 (by decide) ?_
    refine r_goto (tgt := 78) C dX9_laySpread_74 (by decide) ?_
    exact r_weak (lv' := [some (.inr (9, 0)), some (.inl a1), some (.inl a2), some (.inl a3), some (.inl v4), some (.inl r7)]) ⟨rfl, rfl, rfl, rfl, rfl, rfl, trivial⟩ (hj78 _ _)
  refine r_weak (lv' := [some (.inr (9, 0)), some (.inl a1), some (.inl a2), some (.inl a3), some (.inl 0), none]) ⟨rfl, rfl, rfl, rfl, rfl, trivial⟩ ?_
  refine r_l1 (pj := 13) (fun v21 => [some (.inr (9, 0)), some (.inl a1), some (.inl a2), some (.inl a3), some (.inl v21), none]) (fun v21 m22 k13 hk13 => ?_) _ _ _
  unfold X9_laySpread_b13
  refine r_iload C dX9_laySpread_13 rfl ?_
  refine r_bipush (v := 16) C dX9_laySpread_15 (by decide) ?_
  refine r_icmp_ge (tgt := 34) C dX9_laySpread_17 (by decide) ?_ ?_
  · exact r_weak (lv' := [some (.inr (9, 0)), some (.inl a1), some (.inl a2), some (.inl a3), none, none]) ⟨rfl, rfl, rfl, rfl, trivial⟩ (hj34 _)
  refine r_aload_n C dX9_laySpread_20 rfl rfl ?_
  refine r_get (v := .inr (57, 0)) C fl_X9_48 dX9_laySpread_21 rfl ?_
  refine r_iload C dX9_laySpread_24 rfl ?_
  refine r_iconst (v := 0) C dX9_laySpread_26 (by decide) ?_
  refine r_iast C rfl dX9_laySpread_27 (fun m23 => ?_)
  refine r_iinc (v := 1) C dX9_laySpread_28 (by decide) rfl (by decide) (fun x24 => ?_)
  show gw X eU _ [some (.inr (9, 0)), some (.inl a1), some (.inl a2), some (.inl a3), some (.inl x24), none] _ _ _
  refine r_goto (tgt := 13) C dX9_laySpread_31 (by decide) ?_
  exact r_weak (lv' := [some (.inr (9, 0)), some (.inl a1), some (.inl a2), some (.inl a3), some (.inl x24), none]) ⟨rfl, rfl, rfl, rfl, rfl, trivial⟩ (hk13 _ _)
theorem dX9_isStride_0 : decode cX9_isStride 0 = .ok (.aload_n 0, 1) := by decide +kernel
theorem dX9_isStride_1 : decode cX9_isStride 1 = .ok (.iload_n 1, 1) := by decide +kernel
theorem dX9_isStride_2 : decode cX9_isStride 2 = .ok (.invokevirtual 228, 3) := by decide +kernel
theorem dX9_isStride_5 : decode cX9_isStride 5 = .ok (.ifCond .eq 17, 3) := by decide +kernel
theorem dX9_isStride_8 : decode cX9_isStride 8 = .ok (.iload_n 2, 1) := by decide +kernel
theorem dX9_isStride_9 : decode cX9_isStride 9 = .ok (.iconst 1, 1) := by decide +kernel
theorem dX9_isStride_10 : decode cX9_isStride 10 = .ok (.bipush 64, 2) := by decide +kernel
theorem dX9_isStride_12 : decode cX9_isStride 12 = .ok (.invokestatic 77, 3) := by decide +kernel
theorem dX9_isStride_15 : decode cX9_isStride 15 = .ok (.ifCond .eq 7, 3) := by decide +kernel
theorem dX9_isStride_18 : decode cX9_isStride 18 = .ok (.iconst 1, 1) := by decide +kernel
theorem dX9_isStride_19 : decode cX9_isStride 19 = .ok (.goto 4, 3) := by decide +kernel
theorem dX9_isStride_22 : decode cX9_isStride 22 = .ok (.iconst 0, 1) := by decide +kernel
theorem dX9_isStride_23 : decode cX9_isStride 23 = .ok (.ireturn, 1) := by decide +kernel
def X9_isStride (a1 : Int32) (a2 : Int32) (m : gM) : Option (Bool × gM) :=
  gCall (X9_isWay a1 m) (fun (r2 : Bool) (m1 : gM) => if r2 = true then (gCall (X9_isIn a2 1 64 m1) (fun (r4 : Bool) (m3 : gM) => if r4 = true then (some (true, m3)) else (some (false, m3)))) else (some (false, m1)))
set_option maxRecDepth 100000 in
set_option maxHeartbeats 4000000 in
theorem c_X9_isStride (a1 : Int32) (a2 : Int32) (m : gM) : gCon eB yX9_isStride cX9_isStride 3 (some .boolean) 2 [.inr (9, 0), .inl a1, .inl a2] m (X9_isStride a1 a2 m) := by
  refine gCon.of (lv := [some (.inr (9, 0)), some (.inl a1), some (.inl a2)]) (by decide +kernel) (Nat.le_of_ble_eq_true rfl) rfl (fun X C => ?_)
  unfold X9_isStride
  refine r_aload_n C dX9_isStride_0 rfl rfl ?_
  refine r_iload_n C dX9_isStride_1 rfl rfl ?_
  refine r_invB (t := 9) (kb := 0) (As := [.inl a1]) (st := []) C il_X9_228 co_X9_isWay (by decide) rfl (c_X9_isWay a1 m) (by decide) (by decide) rfl rfl (Nat.le_of_ble_eq_true rfl) dX9_isStride_2 (fun r2 m1 => ?_)
  refine r_ifeqB (tgt := 22) C dX9_isStride_5 (by decide) ?_ ?_
  · refine r_iconst (v := 0) C dX9_isStride_22 (by decide) ?_
    exact r_zret0 C dX9_isStride_23
  refine r_iload_n C dX9_isStride_8 rfl rfl ?_
  refine r_iconst (v := 1) C dX9_isStride_9 (by decide) ?_
  refine r_bipush (v := 64) C dX9_isStride_10 (by decide) ?_
  refine r_insB (As := [.inl a2, .inl 1, .inl 64]) (st := []) C il_X9_77 co_X9_isIn (c_X9_isIn a2 1 64 m1) (by decide) (by decide) rfl rfl (Nat.le_of_ble_eq_true rfl) dX9_isStride_12 (fun r4 m3 => ?_)
  refine r_ifeqB (tgt := 22) C dX9_isStride_15 (by decide) ?_ ?_
  · refine r_iconst (v := 0) C dX9_isStride_22 (by decide) ?_
    exact r_zret0 C dX9_isStride_23
  refine r_iconst (v := 1) C dX9_isStride_18 (by decide) ?_
  refine r_goto (tgt := 23) C dX9_isStride_19 (by decide) ?_
  exact r_zret1 C dX9_isStride_23
theorem dX9_spread_0 : decode cX9_spread 0 = .ok (.aload_n 0, 1) := by decide +kernel
theorem dX9_spread_1 : decode cX9_spread 1 = .ok (.iload_n 1, 1) := by decide +kernel
theorem dX9_spread_2 : decode cX9_spread 2 = .ok (.iload_n 3, 1) := by decide +kernel
theorem dX9_spread_3 : decode cX9_spread 3 = .ok (.invokevirtual 285, 3) := by decide +kernel
theorem dX9_spread_6 : decode cX9_spread 6 = .ok (.ifCond .eq 24, 3) := by decide +kernel
theorem dX9_spread_9 : decode cX9_spread 9 = .ok (.iload_n 2, 1) := by decide +kernel
theorem dX9_spread_10 : decode cX9_spread 10 = .ok (.iconst 1, 1) := by decide +kernel
theorem dX9_spread_11 : decode cX9_spread 11 = .ok (.sipush 1023, 3) := by decide +kernel
theorem dX9_spread_14 : decode cX9_spread 14 = .ok (.invokestatic 77, 3) := by decide +kernel
theorem dX9_spread_17 : decode cX9_spread 17 = .ok (.ifCond .eq 13, 3) := by decide +kernel
theorem dX9_spread_20 : decode cX9_spread 20 = .ok (.iload 4, 2) := by decide +kernel
theorem dX9_spread_22 : decode cX9_spread 22 = .ok (.iconst 0, 1) := by decide +kernel
theorem dX9_spread_23 : decode cX9_spread 23 = .ok (.iconst 1, 1) := by decide +kernel
theorem dX9_spread_24 : decode cX9_spread 24 = .ok (.invokestatic 77, 3) := by decide +kernel
theorem dX9_spread_27 : decode cX9_spread 27 = .ok (.ifCond .ne 5, 3) := by decide +kernel
theorem dX9_spread_30 : decode cX9_spread 30 = .ok (.iconst (-1), 1) := by decide +kernel
theorem dX9_spread_31 : decode cX9_spread 31 = .ok (.ireturn, 1) := by decide +kernel
theorem dX9_spread_32 : decode cX9_spread 32 = .ok (.aload_n 0, 1) := by decide +kernel
theorem dX9_spread_33 : decode cX9_spread 33 = .ok (.iload_n 1, 1) := by decide +kernel
theorem dX9_spread_34 : decode cX9_spread 34 = .ok (.iload_n 2, 1) := by decide +kernel
theorem dX9_spread_35 : decode cX9_spread 35 = .ok (.iload_n 3, 1) := by decide +kernel
theorem dX9_spread_36 : decode cX9_spread 36 = .ok (.invokevirtual 288, 3) := by decide +kernel
theorem dX9_spread_39 : decode cX9_spread 39 = .ok (.iload 4, 2) := by decide +kernel
theorem dX9_spread_41 : decode cX9_spread 41 = .ok (.ifCond .ne 10, 3) := by decide +kernel
theorem dX9_spread_44 : decode cX9_spread 44 = .ok (.aload_n 0, 1) := by decide +kernel
theorem dX9_spread_45 : decode cX9_spread 45 = .ok (.getfield 279, 3) := by decide +kernel
theorem dX9_spread_48 : decode cX9_spread 48 = .ok (.goto 7, 3) := by decide +kernel
theorem dX9_spread_51 : decode cX9_spread 51 = .ok (.aload_n 0, 1) := by decide +kernel
theorem dX9_spread_52 : decode cX9_spread 52 = .ok (.getfield 282, 3) := by decide +kernel
theorem dX9_spread_55 : decode cX9_spread 55 = .ok (.ireturn, 1) := by decide +kernel
def X9_spread (a1 : Int32) (a2 : Int32) (a3 : Int32) (a4 : Int32) (m : gM) : Option (Int32 × gM) :=
  gCall (X9_isStride a1 a3 m) (fun (r2 : Bool) (m1 : gM) => if r2 = true then (gCall (X9_isIn a2 1 1023 m1) (fun (r4 : Bool) (m3 : gM) => if r4 = true then (gCall (X9_isIn a4 0 1 m3) (fun (r6 : Bool) (m5 : gM) => if r6 = true then (gCall (X9_laySpread a1 a2 a3 m5) (fun (r8 : Unit) (m7 : gM) => if a4 = 0 then (some ((m7 9 0 22), m7)) else (some ((m7 9 0 23), m7)))) else (some ((-1), m5)))) else (some ((-1), m3)))) else (some ((-1), m1)))
set_option maxRecDepth 100000 in
set_option maxHeartbeats 4000000 in
theorem c_X9_spread (a1 : Int32) (a2 : Int32) (a3 : Int32) (a4 : Int32) (m : gM) : gCon eI yX9_spread cX9_spread 5 (some .int) 3 [.inr (9, 0), .inl a1, .inl a2, .inl a3, .inl a4] m (X9_spread a1 a2 a3 a4 m) := by
  refine gCon.of (lv := [some (.inr (9, 0)), some (.inl a1), some (.inl a2), some (.inl a3), some (.inl a4)]) (by decide +kernel) (Nat.le_of_ble_eq_true rfl) rfl (fun X C => ?_)
  unfold X9_spread
  refine r_aload_n C dX9_spread_0 rfl rfl ?_
  refine r_iload_n C dX9_spread_1 rfl rfl ?_
  refine r_iload_n C dX9_spread_2 rfl rfl ?_
  refine r_invB (t := 9) (kb := 0) (As := [.inl a1, .inl a3]) (st := []) C il_X9_285 co_X9_isStride (by decide) rfl (c_X9_isStride a1 a3 m) (by decide) (by decide) rfl rfl (Nat.le_of_ble_eq_true rfl) dX9_spread_3 (fun r2 m1 => ?_)
  refine r_ifeqB (tgt := 30) C dX9_spread_6 (by decide) ?_ ?_
  · refine r_iconst (v := (-1)) C dX9_spread_30 (by decide) ?_
    exact r_ireturn C dX9_spread_31
  refine r_iload_n C dX9_spread_9 rfl rfl ?_
  refine r_iconst (v := 1) C dX9_spread_10 (by decide) ?_
  refine r_sipush (v := 1023) C dX9_spread_11 (by decide) ?_
  refine r_insB (As := [.inl a2, .inl 1, .inl 1023]) (st := []) C il_X9_77 co_X9_isIn (c_X9_isIn a2 1 1023 m1) (by decide) (by decide) rfl rfl (Nat.le_of_ble_eq_true rfl) dX9_spread_14 (fun r4 m3 => ?_)
  refine r_ifeqB (tgt := 30) C dX9_spread_17 (by decide) ?_ ?_
  · refine r_iconst (v := (-1)) C dX9_spread_30 (by decide) ?_
    exact r_ireturn C dX9_spread_31
  refine r_iload C dX9_spread_20 rfl ?_
  refine r_iconst (v := 0) C dX9_spread_22 (by decide) ?_
  refine r_iconst (v := 1) C dX9_spread_23 (by decide) ?_
  refine r_insB (As := [.inl a4, .inl 0, .inl 1]) (st := []) C il_X9_77 co_X9_isIn (c_X9_isIn a4 0 1 m3) (by decide) (by decide) rfl rfl (Nat.le_of_ble_eq_true rfl) dX9_spread_24 (fun r6 m5 => ?_)
  refine r_ifneB (tgt := 32) C dX9_spread_27 (by decide) ?_ ?_
  · refine r_aload_n C dX9_spread_32 rfl rfl ?_
    refine r_iload_n C dX9_spread_33 rfl rfl ?_
    refine r_iload_n C dX9_spread_34 rfl rfl ?_
    refine r_iload_n C dX9_spread_35 rfl rfl ?_
    refine r_invU (t := 9) (kb := 0) (As := [.inl a1, .inl a2, .inl a3]) (st := []) C il_X9_288 co_X9_laySpread (by decide) rfl (c_X9_laySpread a1 a2 a3 m5) (by decide) (by decide) rfl rfl (Nat.le_of_ble_eq_true rfl) dX9_spread_36 (fun r8 m7 => ?_)
    refine r_iload C dX9_spread_39 rfl ?_
    refine r_if_ne (tgt := 51) C dX9_spread_41 (by decide) ?_ ?_
    · refine r_aload_n C dX9_spread_51 rfl rfl ?_
      refine r_get (v := .inl (m7 9 0 23)) C fl_X9_282 dX9_spread_52 rfl ?_
      exact r_ireturn C dX9_spread_55
    refine r_aload_n C dX9_spread_44 rfl rfl ?_
    refine r_get (v := .inl (m7 9 0 22)) C fl_X9_279 dX9_spread_45 rfl ?_
    refine r_goto (tgt := 55) C dX9_spread_48 (by decide) ?_
    exact r_ireturn C dX9_spread_55
  refine r_iconst (v := (-1)) C dX9_spread_30 (by decide) ?_
  exact r_ireturn C dX9_spread_31
theorem dX9_isEven_0 : decode cX9_isEven 0 = .ok (.aload_n 0, 1) := by decide +kernel
theorem dX9_isEven_1 : decode cX9_isEven 1 = .ok (.iload_n 1, 1) := by decide +kernel
theorem dX9_isEven_2 : decode cX9_isEven 2 = .ok (.iload_n 2, 1) := by decide +kernel
theorem dX9_isEven_3 : decode cX9_isEven 3 = .ok (.aload_n 0, 1) := by decide +kernel
theorem dX9_isEven_4 : decode cX9_isEven 4 = .ok (.invokevirtual 81, 3) := by decide +kernel
theorem dX9_isEven_7 : decode cX9_isEven 7 = .ok (.invokevirtual 288, 3) := by decide +kernel
theorem dX9_isEven_10 : decode cX9_isEven 10 = .ok (.aload_n 0, 1) := by decide +kernel
theorem dX9_isEven_11 : decode cX9_isEven 11 = .ok (.getfield 279, 3) := by decide +kernel
theorem dX9_isEven_14 : decode cX9_isEven 14 = .ok (.aload_n 0, 1) := by decide +kernel
theorem dX9_isEven_15 : decode cX9_isEven 15 = .ok (.invokevirtual 81, 3) := by decide +kernel
theorem dX9_isEven_18 : decode cX9_isEven 18 = .ok (.if_icmp .ne 7, 3) := by decide +kernel
theorem dX9_isEven_21 : decode cX9_isEven 21 = .ok (.iconst 1, 1) := by decide +kernel
theorem dX9_isEven_22 : decode cX9_isEven 22 = .ok (.goto 4, 3) := by decide +kernel
theorem dX9_isEven_25 : decode cX9_isEven 25 = .ok (.iconst 0, 1) := by decide +kernel
theorem dX9_isEven_26 : decode cX9_isEven 26 = .ok (.ireturn, 1) := by decide +kernel
def X9_isEven (a1 : Int32) (a2 : Int32) (m : gM) : Option (Bool × gM) :=
  gCall (X9_slotsOf m) (fun (r2 : Int32) (m1 : gM) => gCall (X9_laySpread a1 a2 r2 m1) (fun (r4 : Unit) (m3 : gM) => gCall (X9_slotsOf m3) (fun (r6 : Int32) (m5 : gM) => if (m3 9 0 22) = r6 then (some (true, m5)) else (some (false, m5)))))
set_option maxRecDepth 100000 in
set_option maxHeartbeats 4000000 in
theorem c_X9_isEven (a1 : Int32) (a2 : Int32) (m : gM) : gCon eB yX9_isEven cX9_isEven 3 (some .boolean) 3 [.inr (9, 0), .inl a1, .inl a2] m (X9_isEven a1 a2 m) := by
  refine gCon.of (lv := [some (.inr (9, 0)), some (.inl a1), some (.inl a2)]) (by decide +kernel) (Nat.le_of_ble_eq_true rfl) rfl (fun X C => ?_)
  unfold X9_isEven
  refine r_aload_n C dX9_isEven_0 rfl rfl ?_
  refine r_iload_n C dX9_isEven_1 rfl rfl ?_
  refine r_iload_n C dX9_isEven_2 rfl rfl ?_
  refine r_aload_n C dX9_isEven_3 rfl rfl ?_
  refine r_invI (t := 9) (kb := 0) (As := []) (st := [.inl a2, .inl a1, .inr (9, 0)]) C il_X9_81 co_X9_slotsOf (by decide) rfl (c_X9_slotsOf m) (by decide) (by decide) rfl rfl (Nat.le_of_ble_eq_true rfl) dX9_isEven_4 (fun r2 m1 => ?_)
  refine r_invU (t := 9) (kb := 0) (As := [.inl a1, .inl a2, .inl r2]) (st := []) C il_X9_288 co_X9_laySpread (by decide) rfl (c_X9_laySpread a1 a2 r2 m1) (by decide) (by decide) rfl rfl (Nat.le_of_ble_eq_true rfl) dX9_isEven_7 (fun r4 m3 => ?_)
  refine r_aload_n C dX9_isEven_10 rfl rfl ?_
  refine r_get (v := .inl (m3 9 0 22)) C fl_X9_279 dX9_isEven_11 rfl ?_
  refine r_aload_n C dX9_isEven_14 rfl rfl ?_
  refine r_invI (t := 9) (kb := 0) (As := []) (st := [.inl (m3 9 0 22)]) C il_X9_81 co_X9_slotsOf (by decide) rfl (c_X9_slotsOf m3) (by decide) (by decide) rfl rfl (Nat.le_of_ble_eq_true rfl) dX9_isEven_15 (fun r6 m5 => ?_)
  refine r_icmp_ne (tgt := 25) C dX9_isEven_18 (by decide) ?_ ?_
  · refine r_iconst (v := 0) C dX9_isEven_25 (by decide) ?_
    exact r_zret0 C dX9_isEven_26
  refine r_iconst (v := 1) C dX9_isEven_21 (by decide) ?_
  refine r_goto (tgt := 26) C dX9_isEven_22 (by decide) ?_
  exact r_zret1 C dX9_isEven_26
theorem dX9_evenOf_0 : decode cX9_evenOf 0 = .ok (.iconst 0, 1) := by decide +kernel
theorem dX9_evenOf_1 : decode cX9_evenOf 1 = .ok (.istore_n 2, 1) := by decide +kernel
theorem dX9_evenOf_2 : decode cX9_evenOf 2 = .ok (.iconst 1, 1) := by decide +kernel
theorem dX9_evenOf_3 : decode cX9_evenOf 3 = .ok (.istore_n 3, 1) := by decide +kernel
theorem dX9_evenOf_4 : decode cX9_evenOf 4 = .ok (.iload_n 3, 1) := by decide +kernel
theorem dX9_evenOf_5 : decode cX9_evenOf 5 = .ok (.bipush 63, 2) := by decide +kernel
theorem dX9_evenOf_7 : decode cX9_evenOf 7 = .ok (.if_icmp .gt 26, 3) := by decide +kernel
theorem dX9_evenOf_10 : decode cX9_evenOf 10 = .ok (.iload_n 2, 1) := by decide +kernel
theorem dX9_evenOf_11 : decode cX9_evenOf 11 = .ok (.aload_n 0, 1) := by decide +kernel
theorem dX9_evenOf_12 : decode cX9_evenOf 12 = .ok (.iload_n 1, 1) := by decide +kernel
theorem dX9_evenOf_13 : decode cX9_evenOf 13 = .ok (.iload_n 3, 1) := by decide +kernel
theorem dX9_evenOf_14 : decode cX9_evenOf 14 = .ok (.invokevirtual 292, 3) := by decide +kernel
theorem dX9_evenOf_17 : decode cX9_evenOf 17 = .ok (.ifCond .eq 7, 3) := by decide +kernel
theorem dX9_evenOf_20 : decode cX9_evenOf 20 = .ok (.iconst 1, 1) := by decide +kernel
theorem dX9_evenOf_21 : decode cX9_evenOf 21 = .ok (.goto 4, 3) := by decide +kernel
theorem dX9_evenOf_24 : decode cX9_evenOf 24 = .ok (.iconst 0, 1) := by decide +kernel
theorem dX9_evenOf_25 : decode cX9_evenOf 25 = .ok (.iadd, 1) := by decide +kernel
theorem dX9_evenOf_26 : decode cX9_evenOf 26 = .ok (.istore_n 2, 1) := by decide +kernel
theorem dX9_evenOf_27 : decode cX9_evenOf 27 = .ok (.iinc 3 1, 3) := by decide +kernel
theorem dX9_evenOf_30 : decode cX9_evenOf 30 = .ok (.goto (-26), 3) := by decide +kernel
theorem dX9_evenOf_33 : decode cX9_evenOf 33 = .ok (.iload_n 2, 1) := by decide +kernel
theorem dX9_evenOf_34 : decode cX9_evenOf 34 = .ok (.ireturn, 1) := by decide +kernel
def X9_evenOf_b4 (a1 : Int32) (v1 v2 : Int32) (m3 : gM) (k4 : Int32 → Int32 → gM → Option (Int32 × gM)) : Option (Int32 × gM) :=
  if 63 < v2 then (some (v1, m3)) else (gCall (X9_isEven a1 v2 m3) (fun (r5 : Bool) (m4 : gM) => if r5 = true then (gLet (v1 + 1) (fun (x8 : Int32) => gLet (v2 + 1) (fun (x9 : Int32) => k4 x8 x9 m4))) else (gLet (v1 + 0) (fun (x6 : Int32) => gLet (v2 + 1) (fun (x7 : Int32) => k4 x6 x7 m4)))))
def X9_evenOf (a1 : Int32) (m : gM) : Option (Int32 × gM) :=
  gL2 FU (X9_evenOf_b4 a1) 0 1 m
set_option maxRecDepth 100000 in
set_option maxHeartbeats 4000000 in
theorem c_X9_evenOf (a1 : Int32) (m : gM) : gCon eI yX9_evenOf cX9_evenOf 4 (some .int) 4 [.inr (9, 0), .inl a1] m (X9_evenOf a1 m) := by
  refine gCon.of (lv := [some (.inr (9, 0)), some (.inl a1), none, none]) (by decide +kernel) (Nat.le_of_ble_eq_true rfl) rfl (fun X C => ?_)
  unfold X9_evenOf
  refine r_iconst (v := 0) C dX9_evenOf_0 (by decide) ?_
  refine r_istore_n (lv' := [some (.inr (9, 0)), some (.inl a1), some (.inl 0), none]) C dX9_evenOf_1 rfl (by decide) rfl ?_
  refine r_iconst (v := 1) C dX9_evenOf_2 (by decide) ?_
  refine r_istore_n (lv' := [some (.inr (9, 0)), some (.inl a1), some (.inl 0), some (.inl 1)]) C dX9_evenOf_3 rfl (by decide) rfl ?_
  refine r_weak (lv' := [some (.inr (9, 0)), some (.inl a1), some (.inl 0), some (.inl 1)]) ⟨rfl, rfl, rfl, rfl, trivial⟩ ?_
  refine r_l2 (pj := 4) (fun v1 v2 => [some (.inr (9, 0)), some (.inl a1), some (.inl v1), some (.inl v2)]) (fun v1 v2 m3 k4 hk4 => ?_) _ _ _ _
  unfold X9_evenOf_b4
  refine r_iload_n C dX9_evenOf_4 rfl rfl ?_
  refine r_bipush (v := 63) C dX9_evenOf_5 (by decide) ?_
  refine r_icmp_gt (tgt := 33) C dX9_evenOf_7 (by decide) ?_ ?_
  · refine r_iload_n C dX9_evenOf_33 rfl rfl ?_
    exact r_ireturn C dX9_evenOf_34
  refine r_iload_n C dX9_evenOf_10 rfl rfl ?_
  refine r_aload_n C dX9_evenOf_11 rfl rfl ?_
  refine r_iload_n C dX9_evenOf_12 rfl rfl ?_
  refine r_iload_n C dX9_evenOf_13 rfl rfl ?_
  refine r_invB (t := 9) (kb := 0) (As := [.inl a1, .inl v2]) (st := [.inl v1]) C il_X9_292 co_X9_isEven (by decide) rfl (c_X9_isEven a1 v2 m3) (by decide) (by decide) rfl rfl (Nat.le_of_ble_eq_true rfl) dX9_evenOf_14 (fun r5 m4 => ?_)
  refine r_ifeqB (tgt := 24) C dX9_evenOf_17 (by decide) ?_ ?_
  · refine r_iconst (v := 0) C dX9_evenOf_24 (by decide) ?_
    refine r_iadd C dX9_evenOf_25 ?_
    refine r_let (fun x6 => ?_)
    refine r_istore_n (lv' := [some (.inr (9, 0)), some (.inl a1), some (.inl x6), some (.inl v2)]) C dX9_evenOf_26 rfl (by decide) rfl ?_
    refine r_iinc (v := 1) C dX9_evenOf_27 (by decide) rfl (by decide) (fun x7 => ?_)
    show gw X eI _ [some (.inr (9, 0)), some (.inl a1), some (.inl x6), some (.inl x7)] _ _ _
    refine r_goto (tgt := 4) C dX9_evenOf_30 (by decide) ?_
    exact r_weak (lv' := [some (.inr (9, 0)), some (.inl a1), some (.inl x6), some (.inl x7)]) ⟨rfl, rfl, rfl, rfl, trivial⟩ (hk4 _ _ _)
  refine r_iconst (v := 1) C dX9_evenOf_20 (by decide) ?_
  refine r_goto (tgt := 25) C dX9_evenOf_21 (by decide) ?_
  refine r_iadd C dX9_evenOf_25 ?_
  refine r_let (fun x8 => ?_)
  refine r_istore_n (lv' := [some (.inr (9, 0)), some (.inl a1), some (.inl x8), some (.inl v2)]) C dX9_evenOf_26 rfl (by decide) rfl ?_
  refine r_iinc (v := 1) C dX9_evenOf_27 (by decide) rfl (by decide) (fun x9 => ?_)
  show gw X eI _ [some (.inr (9, 0)), some (.inl a1), some (.inl x8), some (.inl x9)] _ _ _
  refine r_goto (tgt := 4) C dX9_evenOf_30 (by decide) ?_
  exact r_weak (lv' := [some (.inr (9, 0)), some (.inl a1), some (.inl x8), some (.inl x9)]) ⟨rfl, rfl, rfl, rfl, trivial⟩ (hk4 _ _ _)
theorem dX9_even_0 : decode cX9_even 0 = .ok (.aload_n 0, 1) := by decide +kernel
theorem dX9_even_1 : decode cX9_even 1 = .ok (.iload_n 1, 1) := by decide +kernel
theorem dX9_even_2 : decode cX9_even 2 = .ok (.invokevirtual 228, 3) := by decide +kernel
theorem dX9_even_5 : decode cX9_even 5 = .ok (.ifCond .eq 11, 3) := by decide +kernel
theorem dX9_even_8 : decode cX9_even 8 = .ok (.aload_n 0, 1) := by decide +kernel
theorem dX9_even_9 : decode cX9_even 9 = .ok (.iload_n 1, 1) := by decide +kernel
theorem dX9_even_10 : decode cX9_even 10 = .ok (.invokevirtual 295, 3) := by decide +kernel
theorem dX9_even_13 : decode cX9_even 13 = .ok (.goto 4, 3) := by decide +kernel
theorem dX9_even_16 : decode cX9_even 16 = .ok (.iconst (-1), 1) := by decide +kernel
theorem dX9_even_17 : decode cX9_even 17 = .ok (.ireturn, 1) := by decide +kernel
def X9_even (a1 : Int32) (m : gM) : Option (Int32 × gM) :=
  gCall (X9_isWay a1 m) (fun (r2 : Bool) (m1 : gM) => if r2 = true then (gCall (X9_evenOf a1 m1) (fun (r4 : Int32) (m3 : gM) => some (r4, m3))) else (some ((-1), m1)))
set_option maxRecDepth 100000 in
set_option maxHeartbeats 4000000 in
theorem c_X9_even (a1 : Int32) (m : gM) : gCon eI yX9_even cX9_even 2 (some .int) 5 [.inr (9, 0), .inl a1] m (X9_even a1 m) := by
  refine gCon.of (lv := [some (.inr (9, 0)), some (.inl a1)]) (by decide +kernel) (Nat.le_of_ble_eq_true rfl) rfl (fun X C => ?_)
  unfold X9_even
  refine r_aload_n C dX9_even_0 rfl rfl ?_
  refine r_iload_n C dX9_even_1 rfl rfl ?_
  refine r_invB (t := 9) (kb := 0) (As := [.inl a1]) (st := []) C il_X9_228 co_X9_isWay (by decide) rfl (c_X9_isWay a1 m) (by decide) (by decide) rfl rfl (Nat.le_of_ble_eq_true rfl) dX9_even_2 (fun r2 m1 => ?_)
  refine r_ifeqB (tgt := 16) C dX9_even_5 (by decide) ?_ ?_
  · refine r_iconst (v := (-1)) C dX9_even_16 (by decide) ?_
    exact r_ireturn C dX9_even_17
  refine r_aload_n C dX9_even_8 rfl rfl ?_
  refine r_iload_n C dX9_even_9 rfl rfl ?_
  refine r_invI (t := 9) (kb := 0) (As := [.inl a1]) (st := []) C il_X9_295 co_X9_evenOf (by decide) rfl (c_X9_evenOf a1 m1) (by decide) (by decide) rfl rfl (Nat.le_of_ble_eq_true rfl) dX9_even_10 (fun r4 m3 => ?_)
  refine r_goto (tgt := 17) C dX9_even_13 (by decide) ?_
  exact r_ireturn C dX9_even_17
theorem dX9_evenAll_0 : decode cX9_evenAll 0 = .ok (.iconst 0, 1) := by decide +kernel
theorem dX9_evenAll_1 : decode cX9_evenAll 1 = .ok (.istore_n 1, 1) := by decide +kernel
theorem dX9_evenAll_2 : decode cX9_evenAll 2 = .ok (.iconst 1, 1) := by decide +kernel
theorem dX9_evenAll_3 : decode cX9_evenAll 3 = .ok (.istore_n 2, 1) := by decide +kernel
theorem dX9_evenAll_4 : decode cX9_evenAll 4 = .ok (.iload_n 2, 1) := by decide +kernel
theorem dX9_evenAll_5 : decode cX9_evenAll 5 = .ok (.bipush 63, 2) := by decide +kernel
theorem dX9_evenAll_7 : decode cX9_evenAll 7 = .ok (.if_icmp .gt 64, 3) := by decide +kernel
theorem dX9_evenAll_10 : decode cX9_evenAll 10 = .ok (.iconst 1, 1) := by decide +kernel
theorem dX9_evenAll_11 : decode cX9_evenAll 11 = .ok (.istore_n 3, 1) := by decide +kernel
theorem dX9_evenAll_12 : decode cX9_evenAll 12 = .ok (.iconst 0, 1) := by decide +kernel
theorem dX9_evenAll_13 : decode cX9_evenAll 13 = .ok (.istore 4, 2) := by decide +kernel
theorem dX9_evenAll_15 : decode cX9_evenAll 15 = .ok (.iload 4, 2) := by decide +kernel
theorem dX9_evenAll_17 : decode cX9_evenAll 17 = .ok (.aload_n 0, 1) := by decide +kernel
theorem dX9_evenAll_18 : decode cX9_evenAll 18 = .ok (.getfield 7, 3) := by decide +kernel
theorem dX9_evenAll_21 : decode cX9_evenAll 21 = .ok (.bipush 36, 2) := by decide +kernel
theorem dX9_evenAll_23 : decode cX9_evenAll 23 = .ok (.iaload, 1) := by decide +kernel
theorem dX9_evenAll_24 : decode cX9_evenAll 24 = .ok (.if_icmp .ge 29, 3) := by decide +kernel
theorem dX9_evenAll_27 : decode cX9_evenAll 27 = .ok (.iload_n 3, 1) := by decide +kernel
theorem dX9_evenAll_28 : decode cX9_evenAll 28 = .ok (.ifCond .eq 17, 3) := by decide +kernel
theorem dX9_evenAll_31 : decode cX9_evenAll 31 = .ok (.aload_n 0, 1) := by decide +kernel
theorem dX9_evenAll_32 : decode cX9_evenAll 32 = .ok (.iload 4, 2) := by decide +kernel
theorem dX9_evenAll_34 : decode cX9_evenAll 34 = .ok (.iload_n 2, 1) := by decide +kernel
theorem dX9_evenAll_35 : decode cX9_evenAll 35 = .ok (.invokevirtual 292, 3) := by decide +kernel
theorem dX9_evenAll_38 : decode cX9_evenAll 38 = .ok (.ifCond .eq 7, 3) := by decide +kernel
theorem dX9_evenAll_41 : decode cX9_evenAll 41 = .ok (.iconst 1, 1) := by decide +kernel
theorem dX9_evenAll_42 : decode cX9_evenAll 42 = .ok (.goto 4, 3) := by decide +kernel
theorem dX9_evenAll_45 : decode cX9_evenAll 45 = .ok (.iconst 0, 1) := by decide +kernel
theorem dX9_evenAll_46 : decode cX9_evenAll 46 = .ok (.istore_n 3, 1) := by decide +kernel
theorem dX9_evenAll_47 : decode cX9_evenAll 47 = .ok (.iinc 4 1, 3) := by decide +kernel
theorem dX9_evenAll_50 : decode cX9_evenAll 50 = .ok (.goto (-35), 3) := by decide +kernel
theorem dX9_evenAll_53 : decode cX9_evenAll 53 = .ok (.iload_n 1, 1) := by decide +kernel
theorem dX9_evenAll_54 : decode cX9_evenAll 54 = .ok (.iload_n 3, 1) := by decide +kernel
theorem dX9_evenAll_55 : decode cX9_evenAll 55 = .ok (.ifCond .eq 7, 3) := by decide +kernel
theorem dX9_evenAll_58 : decode cX9_evenAll 58 = .ok (.iconst 1, 1) := by decide +kernel
theorem dX9_evenAll_59 : decode cX9_evenAll 59 = .ok (.goto 4, 3) := by decide +kernel
theorem dX9_evenAll_62 : decode cX9_evenAll 62 = .ok (.iconst 0, 1) := by decide +kernel
theorem dX9_evenAll_63 : decode cX9_evenAll 63 = .ok (.iadd, 1) := by decide +kernel
theorem dX9_evenAll_64 : decode cX9_evenAll 64 = .ok (.istore_n 1, 1) := by decide +kernel
theorem dX9_evenAll_65 : decode cX9_evenAll 65 = .ok (.iinc 2 1, 3) := by decide +kernel
theorem dX9_evenAll_68 : decode cX9_evenAll 68 = .ok (.goto (-64), 3) := by decide +kernel
theorem dX9_evenAll_71 : decode cX9_evenAll 71 = .ok (.iload_n 1, 1) := by decide +kernel
theorem dX9_evenAll_72 : decode cX9_evenAll 72 = .ok (.ireturn, 1) := by decide +kernel
def X9_evenAll_b15 (j53 : Int32 → gM → Option (Int32 × gM)) (v2 : Int32) (v10 v11 : Int32) (m12 : gM) (k15 : Int32 → Int32 → gM → Option (Int32 × gM)) : Option (Int32 × gM) :=
  gAt m12 47 0 36 (fun (x13 : Int32) => if x13 ≤ v11 then (j53 v10 m12) else (if v10 = 0 then (gLet (v11 + 1) (fun (x14 : Int32) => k15 0 x14 m12)) else (gCall (X9_isEven v11 v2 m12) (fun (r16 : Bool) (m15 : gM) => if r16 = true then (gLet (v11 + 1) (fun (x18 : Int32) => k15 1 x18 m15)) else (gLet (v11 + 1) (fun (x17 : Int32) => k15 0 x17 m15))))))
def X9_evenAll_b4 (v1 v2 : Int32) (m3 : gM) (k4 : Int32 → Int32 → gM → Option (Int32 × gM)) : Option (Int32 × gM) :=
  if 63 < v2 then (some (v1, m3)) else (gJ1 (fun (v4 : Int32) (m5 : gM) => if v4 = 0 then (gLet (v1 + 0) (fun (x6 : Int32) => gLet (v2 + 1) (fun (x7 : Int32) => k4 x6 x7 m5))) else (gLet (v1 + 1) (fun (x8 : Int32) => gLet (v2 + 1) (fun (x9 : Int32) => k4 x8 x9 m5)))) (fun (j53 : Int32 → gM → Option (Int32 × gM)) => gL2 FU (X9_evenAll_b15 j53 v2) 1 0 m3))
def X9_evenAll (m : gM) : Option (Int32 × gM) :=
  gL2 FU X9_evenAll_b4 0 1 m
set_option maxRecDepth 100000 in
set_option maxHeartbeats 4000000 in
theorem c_X9_evenAll (m : gM) : gCon eI yX9_evenAll cX9_evenAll 5 (some .int) 4 [.inr (9, 0)] m (X9_evenAll m) := by
  refine gCon.of (lv := [some (.inr (9, 0)), none, none, none, none]) (by decide +kernel) (Nat.le_of_ble_eq_true rfl) rfl (fun X C => ?_)
  unfold X9_evenAll
  refine r_iconst (v := 0) C dX9_evenAll_0 (by decide) ?_
  refine r_istore_n (lv' := [some (.inr (9, 0)), some (.inl 0), none, none, none]) C dX9_evenAll_1 rfl (by decide) rfl ?_
  refine r_iconst (v := 1) C dX9_evenAll_2 (by decide) ?_
  refine r_istore_n (lv' := [some (.inr (9, 0)), some (.inl 0), some (.inl 1), none, none]) C dX9_evenAll_3 rfl (by decide) rfl ?_
  refine r_weak (lv' := [some (.inr (9, 0)), some (.inl 0), some (.inl 1), none, none]) ⟨rfl, rfl, rfl, trivial⟩ ?_
  refine r_l2 (pj := 4) (fun v1 v2 => [some (.inr (9, 0)), some (.inl v1), some (.inl v2), none, none]) (fun v1 v2 m3 k4 hk4 => ?_) _ _ _ _
  unfold X9_evenAll_b4
  refine r_iload_n C dX9_evenAll_4 rfl rfl ?_
  refine r_bipush (v := 63) C dX9_evenAll_5 (by decide) ?_
  refine r_icmp_gt (tgt := 71) C dX9_evenAll_7 (by decide) ?_ ?_
  · refine r_iload_n C dX9_evenAll_71 rfl rfl ?_
    exact r_ireturn C dX9_evenAll_72
  refine r_iconst (v := 1) C dX9_evenAll_10 (by decide) ?_
  refine r_istore_n (lv' := [some (.inr (9, 0)), some (.inl v1), some (.inl v2), some (.inl 1), none]) C dX9_evenAll_11 rfl (by decide) rfl ?_
  refine r_iconst (v := 0) C dX9_evenAll_12 (by decide) ?_
  refine r_istore (lv' := [some (.inr (9, 0)), some (.inl v1), some (.inl v2), some (.inl 1), some (.inl 0)]) C dX9_evenAll_13 (by decide) rfl ?_
  refine r_j1 53 (fun v4 => [some (.inr (9, 0)), some (.inl v1), some (.inl v2), some (.inl v4), none]) (fun v4 => []) (fun v4 m5 => ?_) (fun j53 hj53 => ?_)
  · refine r_iload_n C dX9_evenAll_53 rfl rfl ?_
    refine r_iload_n C dX9_evenAll_54 rfl rfl ?_
    refine r_if_eq (tgt := 62) C dX9_evenAll_55 (by decide) ?_ ?_
    · refine r_iconst (v := 0) C dX9_evenAll_62 (by decide) ?_
      refine r_iadd C dX9_evenAll_63 ?_
      refine r_let (fun x6 => ?_)
      refine r_istore_n (lv' := [some (.inr (9, 0)), some (.inl x6), some (.inl v2), some (.inl v4), none]) C dX9_evenAll_64 rfl (by decide) rfl ?_
      refine r_iinc (v := 1) C dX9_evenAll_65 (by decide) rfl (by decide) (fun x7 => ?_)
      show gw X eI _ [some (.inr (9, 0)), some (.inl x6), some (.inl x7), some (.inl v4), none] _ _ _
      refine r_goto (tgt := 4) C dX9_evenAll_68 (by decide) ?_
      exact r_weak (lv' := [some (.inr (9, 0)), some (.inl x6), some (.inl x7), none, none]) ⟨rfl, rfl, rfl, trivial⟩ (hk4 _ _ _)
    refine r_iconst (v := 1) C dX9_evenAll_58 (by decide) ?_
    refine r_goto (tgt := 63) C dX9_evenAll_59 (by decide) ?_
    refine r_iadd C dX9_evenAll_63 ?_
    refine r_let (fun x8 => ?_)
    refine r_istore_n (lv' := [some (.inr (9, 0)), some (.inl x8), some (.inl v2), some (.inl v4), none]) C dX9_evenAll_64 rfl (by decide) rfl ?_
    refine r_iinc (v := 1) C dX9_evenAll_65 (by decide) rfl (by decide) (fun x9 => ?_)
    show gw X eI _ [some (.inr (9, 0)), some (.inl x8), some (.inl x9), some (.inl v4), none] _ _ _
    refine r_goto (tgt := 4) C dX9_evenAll_68 (by decide) ?_
    exact r_weak (lv' := [some (.inr (9, 0)), some (.inl x8), some (.inl x9), none, none]) ⟨rfl, rfl, rfl, trivial⟩ (hk4 _ _ _)
  refine r_weak (lv' := [some (.inr (9, 0)), some (.inl v1), some (.inl v2), some (.inl 1), some (.inl 0)]) ⟨rfl, rfl, rfl, rfl, rfl, trivial⟩ ?_
  refine r_l2 (pj := 15) (fun v10 v11 => [some (.inr (9, 0)), some (.inl v1), some (.inl v2), some (.inl v10), some (.inl v11)]) (fun v10 v11 m12 k15 hk15 => ?_) _ _ _ _
  unfold X9_evenAll_b15
  refine r_iload C dX9_evenAll_15 rfl ?_
  refine r_aload_n C dX9_evenAll_17 rfl rfl ?_
  refine r_get (v := .inr (47, 0)) C fl_X9_7 dX9_evenAll_18 rfl ?_
  refine r_bipush (v := 36) C dX9_evenAll_21 (by decide) ?_
  refine r_iald C rfl dX9_evenAll_23 (fun x13 => ?_)
  refine r_icmp_ge (tgt := 53) C dX9_evenAll_24 (by decide) ?_ ?_
  · exact r_weak (lv' := [some (.inr (9, 0)), some (.inl v1), some (.inl v2), some (.inl v10), none]) ⟨rfl, rfl, rfl, rfl, trivial⟩ (hj53 _ _)
  refine r_iload_n C dX9_evenAll_27 rfl rfl ?_
  refine r_if_eq (tgt := 45) C dX9_evenAll_28 (by decide) ?_ ?_
  · refine r_iconst (v := 0) C dX9_evenAll_45 (by decide) ?_
    refine r_istore_n (lv' := [some (.inr (9, 0)), some (.inl v1), some (.inl v2), some (.inl 0), some (.inl v11)]) C dX9_evenAll_46 rfl (by decide) rfl ?_
    refine r_iinc (v := 1) C dX9_evenAll_47 (by decide) rfl (by decide) (fun x14 => ?_)
    show gw X eI _ [some (.inr (9, 0)), some (.inl v1), some (.inl v2), some (.inl 0), some (.inl x14)] _ _ _
    refine r_goto (tgt := 15) C dX9_evenAll_50 (by decide) ?_
    exact r_weak (lv' := [some (.inr (9, 0)), some (.inl v1), some (.inl v2), some (.inl 0), some (.inl x14)]) ⟨rfl, rfl, rfl, rfl, rfl, trivial⟩ (hk15 _ _ _)
  refine r_aload_n C dX9_evenAll_31 rfl rfl ?_
  refine r_iload C dX9_evenAll_32 rfl ?_
  refine r_iload_n C dX9_evenAll_34 rfl rfl ?_
  refine r_invB (t := 9) (kb := 0) (As := [.inl v11, .inl v2]) (st := []) C il_X9_292 co_X9_isEven (by decide) rfl (c_X9_isEven v11 v2 m12) (by decide) (by decide) rfl rfl (Nat.le_of_ble_eq_true rfl) dX9_evenAll_35 (fun r16 m15 => ?_)
  refine r_ifeqB (tgt := 45) C dX9_evenAll_38 (by decide) ?_ ?_
  · refine r_iconst (v := 0) C dX9_evenAll_45 (by decide) ?_
    refine r_istore_n (lv' := [some (.inr (9, 0)), some (.inl v1), some (.inl v2), some (.inl 0), some (.inl v11)]) C dX9_evenAll_46 rfl (by decide) rfl ?_
    refine r_iinc (v := 1) C dX9_evenAll_47 (by decide) rfl (by decide) (fun x17 => ?_)
    show gw X eI _ [some (.inr (9, 0)), some (.inl v1), some (.inl v2), some (.inl 0), some (.inl x17)] _ _ _
    refine r_goto (tgt := 15) C dX9_evenAll_50 (by decide) ?_
    exact r_weak (lv' := [some (.inr (9, 0)), some (.inl v1), some (.inl v2), some (.inl 0), some (.inl x17)]) ⟨rfl, rfl, rfl, rfl, rfl, trivial⟩ (hk15 _ _ _)
  refine r_iconst (v := 1) C dX9_evenAll_41 (by decide) ?_
  refine r_goto (tgt := 46) C dX9_evenAll_42 (by decide) ?_
  refine r_istore_n (lv' := [some (.inr (9, 0)), some (.inl v1), some (.inl v2), some (.inl 1), some (.inl v11)]) C dX9_evenAll_46 rfl (by decide) rfl ?_
  refine r_iinc (v := 1) C dX9_evenAll_47 (by decide) rfl (by decide) (fun x18 => ?_)
  show gw X eI _ [some (.inr (9, 0)), some (.inl v1), some (.inl v2), some (.inl 1), some (.inl x18)] _ _ _
  refine r_goto (tgt := 15) C dX9_evenAll_50 (by decide) ?_
  exact r_weak (lv' := [some (.inr (9, 0)), some (.inl v1), some (.inl v2), some (.inl 1), some (.inl x18)]) ⟨rfl, rfl, rfl, rfl, rfl, trivial⟩ (hk15 _ _ _)
theorem dX9_scattered_0 : decode cX9_scattered 0 = .ok (.iload_n 1, 1) := by decide +kernel
theorem dX9_scattered_1 : decode cX9_scattered 1 = .ok (.invokestatic 212, 3) := by decide +kernel
theorem dX9_scattered_4 : decode cX9_scattered 4 = .ok (.ifCond .eq 24, 3) := by decide +kernel
theorem dX9_scattered_7 : decode cX9_scattered 7 = .ok (.aload_n 0, 1) := by decide +kernel
theorem dX9_scattered_8 : decode cX9_scattered 8 = .ok (.iload_n 2, 1) := by decide +kernel
theorem dX9_scattered_9 : decode cX9_scattered 9 = .ok (.invokevirtual 228, 3) := by decide +kernel
theorem dX9_scattered_12 : decode cX9_scattered 12 = .ok (.ifCond .eq 16, 3) := by decide +kernel
theorem dX9_scattered_15 : decode cX9_scattered 15 = .ok (.aload_n 0, 1) := by decide +kernel
theorem dX9_scattered_16 : decode cX9_scattered 16 = .ok (.iload_n 3, 1) := by decide +kernel
theorem dX9_scattered_17 : decode cX9_scattered 17 = .ok (.invokevirtual 228, 3) := by decide +kernel
theorem dX9_scattered_20 : decode cX9_scattered 20 = .ok (.ifCond .eq 8, 3) := by decide +kernel
theorem dX9_scattered_23 : decode cX9_scattered 23 = .ok (.iload_n 2, 1) := by decide +kernel
theorem dX9_scattered_24 : decode cX9_scattered 24 = .ok (.iload_n 3, 1) := by decide +kernel
theorem dX9_scattered_25 : decode cX9_scattered 25 = .ok (.if_icmp .ne 5, 3) := by decide +kernel
theorem dX9_scattered_28 : decode cX9_scattered 28 = .ok (.iconst (-1), 1) := by decide +kernel
theorem dX9_scattered_29 : decode cX9_scattered 29 = .ok (.ireturn, 1) := by decide +kernel
theorem dX9_scattered_30 : decode cX9_scattered 30 = .ok (.iconst 0, 1) := by decide +kernel
theorem dX9_scattered_31 : decode cX9_scattered 31 = .ok (.istore 4, 2) := by decide +kernel
theorem dX9_scattered_33 : decode cX9_scattered 33 = .ok (.iconst 0, 1) := by decide +kernel
theorem dX9_scattered_34 : decode cX9_scattered 34 = .ok (.istore 5, 2) := by decide +kernel
theorem dX9_scattered_36 : decode cX9_scattered 36 = .ok (.iload 5, 2) := by decide +kernel
theorem dX9_scattered_38 : decode cX9_scattered 38 = .ok (.sipush 1024, 3) := by decide +kernel
theorem dX9_scattered_41 : decode cX9_scattered 41 = .ok (.if_icmp .ge 39, 3) := by decide +kernel
theorem dX9_scattered_44 : decode cX9_scattered 44 = .ok (.aload_n 0, 1) := by decide +kernel
theorem dX9_scattered_45 : decode cX9_scattered 45 = .ok (.iload 5, 2) := by decide +kernel
theorem dX9_scattered_47 : decode cX9_scattered 47 = .ok (.iload_n 2, 1) := by decide +kernel
theorem dX9_scattered_48 : decode cX9_scattered 48 = .ok (.invokevirtual 93, 3) := by decide +kernel
theorem dX9_scattered_51 : decode cX9_scattered 51 = .ok (.aload_n 0, 1) := by decide +kernel
theorem dX9_scattered_52 : decode cX9_scattered 52 = .ok (.iload_n 1, 1) := by decide +kernel
theorem dX9_scattered_53 : decode cX9_scattered 53 = .ok (.iload_n 2, 1) := by decide +kernel
theorem dX9_scattered_54 : decode cX9_scattered 54 = .ok (.invokevirtual 93, 3) := by decide +kernel
theorem dX9_scattered_57 : decode cX9_scattered 57 = .ok (.if_icmp .ne 17, 3) := by decide +kernel
theorem dX9_scattered_60 : decode cX9_scattered 60 = .ok (.iload 4, 2) := by decide +kernel
theorem dX9_scattered_62 : decode cX9_scattered 62 = .ok (.iconst 1, 1) := by decide +kernel
theorem dX9_scattered_63 : decode cX9_scattered 63 = .ok (.aload_n 0, 1) := by decide +kernel
theorem dX9_scattered_64 : decode cX9_scattered 64 = .ok (.iload 5, 2) := by decide +kernel
theorem dX9_scattered_66 : decode cX9_scattered 66 = .ok (.iload_n 3, 1) := by decide +kernel
theorem dX9_scattered_67 : decode cX9_scattered 67 = .ok (.invokevirtual 93, 3) := by decide +kernel
theorem dX9_scattered_70 : decode cX9_scattered 70 = .ok (.ishl, 1) := by decide +kernel
theorem dX9_scattered_71 : decode cX9_scattered 71 = .ok (.ior, 1) := by decide +kernel
theorem dX9_scattered_72 : decode cX9_scattered 72 = .ok (.istore 4, 2) := by decide +kernel
theorem dX9_scattered_74 : decode cX9_scattered 74 = .ok (.iinc 5 1, 3) := by decide +kernel
theorem dX9_scattered_77 : decode cX9_scattered 77 = .ok (.goto (-41), 3) := by decide +kernel
theorem dX9_scattered_80 : decode cX9_scattered 80 = .ok (.iload 4, 2) := by decide +kernel
theorem dX9_scattered_82 : decode cX9_scattered 82 = .ok (.invokestatic 89, 3) := by decide +kernel
theorem dX9_scattered_85 : decode cX9_scattered 85 = .ok (.ireturn, 1) := by decide +kernel
def X9_scattered_b36 (a1 : Int32) (a2 : Int32) (a3 : Int32) (j80 : Int32 → gM → Option (Int32 × gM)) (v11 v12 : Int32) (m13 : gM) (k36 : Int32 → Int32 → gM → Option (Int32 × gM)) : Option (Int32 × gM) :=
  if 1024 ≤ v12 then (j80 v11 m13) else (gCall (X9_indexOf v12 a2 m13) (fun (r15 : Int32) (m14 : gM) => gCall (X9_indexOf a1 a2 m14) (fun (r17 : Int32) (m16 : gM) => if r15 = r17 then (gCall (X9_indexOf v12 a3 m16) (fun (r20 : Int32) (m19 : gM) => gLet (v11 ||| (1 <<< (r20 &&& 31))) (fun (x21 : Int32) => gLet (v12 + 1) (fun (x22 : Int32) => k36 x21 x22 m19)))) else (gLet (v12 + 1) (fun (x18 : Int32) => k36 v11 x18 m16)))))
def X9_scattered (a1 : Int32) (a2 : Int32) (a3 : Int32) (m : gM) : Option (Int32 × gM) :=
  gCall (X9_isLine a1 m) (fun (r2 : Bool) (m1 : gM) => if r2 = true then (gCall (X9_isWay a2 m1) (fun (r4 : Bool) (m3 : gM) => if r4 = true then (gCall (X9_isWay a3 m3) (fun (r6 : Bool) (m5 : gM) => if r6 = true then (if a2 = a3 then (some ((-1), m5)) else (gJ1 (fun (v7 : Int32) (m8 : gM) => gCall (X9_many v7 m8) (fun (r10 : Int32) (m9 : gM) => some (r10, m9))) (fun (j80 : Int32 → gM → Option (Int32 × gM)) => gL2 FU (X9_scattered_b36 a1 a2 a3 j80) 0 0 m5))) else (some ((-1), m5)))) else (some ((-1), m3)))) else (some ((-1), m1)))
set_option maxRecDepth 100000 in
set_option maxHeartbeats 4000000 in
theorem c_X9_scattered (a1 : Int32) (a2 : Int32) (a3 : Int32) (m : gM) : gCon eI yX9_scattered cX9_scattered 6 (some .int) 2 [.inr (9, 0), .inl a1, .inl a2, .inl a3] m (X9_scattered a1 a2 a3 m) := by
  refine gCon.of (lv := [some (.inr (9, 0)), some (.inl a1), some (.inl a2), some (.inl a3), none, none]) (by decide +kernel) (Nat.le_of_ble_eq_true rfl) rfl (fun X C => ?_)
  unfold X9_scattered
  refine r_iload_n C dX9_scattered_0 rfl rfl ?_
  refine r_insB (As := [.inl a1]) (st := []) C il_X9_212 co_X9_isLine (c_X9_isLine a1 m) (by decide) (by decide) rfl rfl (Nat.le_of_ble_eq_true rfl) dX9_scattered_1 (fun r2 m1 => ?_)
  refine r_ifeqB (tgt := 28) C dX9_scattered_4 (by decide) ?_ ?_
  · refine r_iconst (v := (-1)) C dX9_scattered_28 (by decide) ?_
    exact r_ireturn C dX9_scattered_29
  refine r_aload_n C dX9_scattered_7 rfl rfl ?_
  refine r_iload_n C dX9_scattered_8 rfl rfl ?_
  refine r_invB (t := 9) (kb := 0) (As := [.inl a2]) (st := []) C il_X9_228 co_X9_isWay (by decide) rfl (c_X9_isWay a2 m1) (by decide) (by decide) rfl rfl (Nat.le_of_ble_eq_true rfl) dX9_scattered_9 (fun r4 m3 => ?_)
  refine r_ifeqB (tgt := 28) C dX9_scattered_12 (by decide) ?_ ?_
  · refine r_iconst (v := (-1)) C dX9_scattered_28 (by decide) ?_
    exact r_ireturn C dX9_scattered_29
  refine r_aload_n C dX9_scattered_15 rfl rfl ?_
  refine r_iload_n C dX9_scattered_16 rfl rfl ?_
  refine r_invB (t := 9) (kb := 0) (As := [.inl a3]) (st := []) C il_X9_228 co_X9_isWay (by decide) rfl (c_X9_isWay a3 m3) (by decide) (by decide) rfl rfl (Nat.le_of_ble_eq_true rfl) dX9_scattered_17 (fun r6 m5 => ?_)
  refine r_ifeqB (tgt := 28) C dX9_scattered_20 (by decide) ?_ ?_
  · refine r_iconst (v := (-1)) C dX9_scattered_28 (by decide) ?_
    exact r_ireturn C dX9_scattered_29
  refine r_iload_n C dX9_scattered_23 rfl rfl ?_
  refine r_iload_n C dX9_scattered_24 rfl rfl ?_
  refine r_icmp_ne (tgt := 30) C dX9_scattered_25 (by decide) ?_ ?_
  · refine r_iconst (v := 0) C dX9_scattered_30 (by decide) ?_
    refine r_istore (lv' := [some (.inr (9, 0)), some (.inl a1), some (.inl a2), some (.inl a3), some (.inl 0), none]) C dX9_scattered_31 (by decide) rfl ?_
    refine r_iconst (v := 0) C dX9_scattered_33 (by decide) ?_
    refine r_istore (lv' := [some (.inr (9, 0)), some (.inl a1), some (.inl a2), some (.inl a3), some (.inl 0), some (.inl 0)]) C dX9_scattered_34 (by decide) rfl ?_
    refine r_j1 80 (fun v7 => [none, none, none, none, some (.inl v7), none]) (fun v7 => []) (fun v7 m8 => ?_) (fun j80 hj80 => ?_)
    · refine r_iload C dX9_scattered_80 rfl ?_
      refine r_insI (As := [.inl v7]) (st := []) C il_X9_89 co_X9_many (c_X9_many v7 m8) (by decide) (by decide) rfl rfl (Nat.le_of_ble_eq_true rfl) dX9_scattered_82 (fun r10 m9 => ?_)
      exact r_ireturn C dX9_scattered_85
    refine r_weak (lv' := [some (.inr (9, 0)), some (.inl a1), some (.inl a2), some (.inl a3), some (.inl 0), some (.inl 0)]) ⟨rfl, rfl, rfl, rfl, rfl, rfl, trivial⟩ ?_
    refine r_l2 (pj := 36) (fun v11 v12 => [some (.inr (9, 0)), some (.inl a1), some (.inl a2), some (.inl a3), some (.inl v11), some (.inl v12)]) (fun v11 v12 m13 k36 hk36 => ?_) _ _ _ _
    unfold X9_scattered_b36
    refine r_iload C dX9_scattered_36 rfl ?_
    refine r_sipush (v := 1024) C dX9_scattered_38 (by decide) ?_
    refine r_icmp_ge (tgt := 80) C dX9_scattered_41 (by decide) ?_ ?_
    · exact r_weak (lv' := [none, none, none, none, some (.inl v11), none]) ⟨rfl, trivial⟩ (hj80 _ _)
    refine r_aload_n C dX9_scattered_44 rfl rfl ?_
    refine r_iload C dX9_scattered_45 rfl ?_
    refine r_iload_n C dX9_scattered_47 rfl rfl ?_
    refine r_invI (t := 9) (kb := 0) (As := [.inl v12, .inl a2]) (st := []) C il_X9_93 co_X9_indexOf (by decide) rfl (c_X9_indexOf v12 a2 m13) (by decide) (by decide) rfl rfl (Nat.le_of_ble_eq_true rfl) dX9_scattered_48 (fun r15 m14 => ?_)
    refine r_aload_n C dX9_scattered_51 rfl rfl ?_
    refine r_iload_n C dX9_scattered_52 rfl rfl ?_
    refine r_iload_n C dX9_scattered_53 rfl rfl ?_
    refine r_invI (t := 9) (kb := 0) (As := [.inl a1, .inl a2]) (st := [.inl r15]) C il_X9_93 co_X9_indexOf (by decide) rfl (c_X9_indexOf a1 a2 m14) (by decide) (by decide) rfl rfl (Nat.le_of_ble_eq_true rfl) dX9_scattered_54 (fun r17 m16 => ?_)
    refine r_icmp_ne (tgt := 74) C dX9_scattered_57 (by decide) ?_ ?_
    · refine r_iinc (v := 1) C dX9_scattered_74 (by decide) rfl (by decide) (fun x18 => ?_)
      show gw X eI _ [some (.inr (9, 0)), some (.inl a1), some (.inl a2), some (.inl a3), some (.inl v11), some (.inl x18)] _ _ _
      refine r_goto (tgt := 36) C dX9_scattered_77 (by decide) ?_
      exact r_weak (lv' := [some (.inr (9, 0)), some (.inl a1), some (.inl a2), some (.inl a3), some (.inl v11), some (.inl x18)]) ⟨rfl, rfl, rfl, rfl, rfl, rfl, trivial⟩ (hk36 _ _ _)
    refine r_iload C dX9_scattered_60 rfl ?_
    refine r_iconst (v := 1) C dX9_scattered_62 (by decide) ?_
    refine r_aload_n C dX9_scattered_63 rfl rfl ?_
    refine r_iload C dX9_scattered_64 rfl ?_
    refine r_iload_n C dX9_scattered_66 rfl rfl ?_
    refine r_invI (t := 9) (kb := 0) (As := [.inl v12, .inl a3]) (st := [.inl 1, .inl v11]) C il_X9_93 co_X9_indexOf (by decide) rfl (c_X9_indexOf v12 a3 m16) (by decide) (by decide) rfl rfl (Nat.le_of_ble_eq_true rfl) dX9_scattered_67 (fun r20 m19 => ?_)
    refine r_ishl C dX9_scattered_70 ?_
    refine r_ior C dX9_scattered_71 ?_
    refine r_let (fun x21 => ?_)
    refine r_istore (lv' := [some (.inr (9, 0)), some (.inl a1), some (.inl a2), some (.inl a3), some (.inl x21), some (.inl v12)]) C dX9_scattered_72 (by decide) rfl ?_
    refine r_iinc (v := 1) C dX9_scattered_74 (by decide) rfl (by decide) (fun x22 => ?_)
    show gw X eI _ [some (.inr (9, 0)), some (.inl a1), some (.inl a2), some (.inl a3), some (.inl x21), some (.inl x22)] _ _ _
    refine r_goto (tgt := 36) C dX9_scattered_77 (by decide) ?_
    exact r_weak (lv' := [some (.inr (9, 0)), some (.inl a1), some (.inl a2), some (.inl a3), some (.inl x21), some (.inl x22)]) ⟨rfl, rfl, rfl, rfl, rfl, rfl, trivial⟩ (hk36 _ _ _)
  refine r_iconst (v := (-1)) C dX9_scattered_28 (by decide) ?_
  exact r_ireturn C dX9_scattered_29
theorem dX9_worst_0 : decode cX9_worst 0 = .ok (.aload_n 0, 1) := by decide +kernel
theorem dX9_worst_1 : decode cX9_worst 1 = .ok (.iload_n 1, 1) := by decide +kernel
theorem dX9_worst_2 : decode cX9_worst 2 = .ok (.iload_n 2, 1) := by decide +kernel
theorem dX9_worst_3 : decode cX9_worst 3 = .ok (.invokevirtual 285, 3) := by decide +kernel
theorem dX9_worst_6 : decode cX9_worst 6 = .ok (.ifCond .ne 5, 3) := by decide +kernel
theorem dX9_worst_9 : decode cX9_worst 9 = .ok (.iconst (-1), 1) := by decide +kernel
theorem dX9_worst_10 : decode cX9_worst 10 = .ok (.ireturn, 1) := by decide +kernel
theorem dX9_worst_11 : decode cX9_worst 11 = .ok (.iconst (-1), 1) := by decide +kernel
theorem dX9_worst_12 : decode cX9_worst 12 = .ok (.istore_n 3, 1) := by decide +kernel
theorem dX9_worst_13 : decode cX9_worst 13 = .ok (.iconst 0, 1) := by decide +kernel
theorem dX9_worst_14 : decode cX9_worst 14 = .ok (.istore 4, 2) := by decide +kernel
theorem dX9_worst_16 : decode cX9_worst 16 = .ok (.iconst 1, 1) := by decide +kernel
theorem dX9_worst_17 : decode cX9_worst 17 = .ok (.istore 5, 2) := by decide +kernel
theorem dX9_worst_19 : decode cX9_worst 19 = .ok (.iload 5, 2) := by decide +kernel
theorem dX9_worst_21 : decode cX9_worst 21 = .ok (.bipush 63, 2) := by decide +kernel
theorem dX9_worst_23 : decode cX9_worst 23 = .ok (.if_icmp .gt 38, 3) := by decide +kernel
theorem dX9_worst_26 : decode cX9_worst 26 = .ok (.aload_n 0, 1) := by decide +kernel
theorem dX9_worst_27 : decode cX9_worst 27 = .ok (.iload_n 1, 1) := by decide +kernel
theorem dX9_worst_28 : decode cX9_worst 28 = .ok (.iload 5, 2) := by decide +kernel
theorem dX9_worst_30 : decode cX9_worst 30 = .ok (.iload_n 2, 1) := by decide +kernel
theorem dX9_worst_31 : decode cX9_worst 31 = .ok (.invokevirtual 288, 3) := by decide +kernel
theorem dX9_worst_34 : decode cX9_worst 34 = .ok (.aload_n 0, 1) := by decide +kernel
theorem dX9_worst_35 : decode cX9_worst 35 = .ok (.getfield 282, 3) := by decide +kernel
theorem dX9_worst_38 : decode cX9_worst 38 = .ok (.iload 4, 2) := by decide +kernel
theorem dX9_worst_40 : decode cX9_worst 40 = .ok (.if_icmp .gt 6, 3) := by decide +kernel
theorem dX9_worst_43 : decode cX9_worst 43 = .ok (.goto 12, 3) := by decide +kernel
theorem dX9_worst_46 : decode cX9_worst 46 = .ok (.iload 5, 2) := by decide +kernel
theorem dX9_worst_48 : decode cX9_worst 48 = .ok (.istore_n 3, 1) := by decide +kernel
theorem dX9_worst_49 : decode cX9_worst 49 = .ok (.aload_n 0, 1) := by decide +kernel
theorem dX9_worst_50 : decode cX9_worst 50 = .ok (.getfield 282, 3) := by decide +kernel
theorem dX9_worst_53 : decode cX9_worst 53 = .ok (.istore 4, 2) := by decide +kernel
theorem dX9_worst_55 : decode cX9_worst 55 = .ok (.iinc 5 1, 3) := by decide +kernel
theorem dX9_worst_58 : decode cX9_worst 58 = .ok (.goto (-39), 3) := by decide +kernel
theorem dX9_worst_61 : decode cX9_worst 61 = .ok (.iload_n 3, 1) := by decide +kernel
theorem dX9_worst_62 : decode cX9_worst 62 = .ok (.ireturn, 1) := by decide +kernel
def X9_worst_b19 (a1 : Int32) (a2 : Int32) (v3 v4 v5 : Int32) (m6 : gM) (k19 : Int32 → Int32 → Int32 → gM → Option (Int32 × gM)) : Option (Int32 × gM) :=
  if 63 < v5 then (some (v3, m6)) else (gCall (X9_laySpread a1 v5 a2 m6) (fun (r8 : Unit) (m7 : gM) => if v4 < (m7 9 0 23) then (gLet (v5 + 1) (fun (x9 : Int32) => k19 v5 (m7 9 0 23) x9 m7)) else (gLet (v5 + 1) (fun (x10 : Int32) => k19 v3 v4 x10 m7))))
def X9_worst (a1 : Int32) (a2 : Int32) (m : gM) : Option (Int32 × gM) :=
  gCall (X9_isStride a1 a2 m) (fun (r2 : Bool) (m1 : gM) => if r2 = true then (gL3 FU (X9_worst_b19 a1 a2) (-1) 0 1 m1) else (some ((-1), m1)))
set_option maxRecDepth 100000 in
set_option maxHeartbeats 4000000 in
theorem c_X9_worst (a1 : Int32) (a2 : Int32) (m : gM) : gCon eI yX9_worst cX9_worst 6 (some .int) 3 [.inr (9, 0), .inl a1, .inl a2] m (X9_worst a1 a2 m) := by
  refine gCon.of (lv := [some (.inr (9, 0)), some (.inl a1), some (.inl a2), none, none, none]) (by decide +kernel) (Nat.le_of_ble_eq_true rfl) rfl (fun X C => ?_)
  unfold X9_worst
  refine r_aload_n C dX9_worst_0 rfl rfl ?_
  refine r_iload_n C dX9_worst_1 rfl rfl ?_
  refine r_iload_n C dX9_worst_2 rfl rfl ?_
  refine r_invB (t := 9) (kb := 0) (As := [.inl a1, .inl a2]) (st := []) C il_X9_285 co_X9_isStride (by decide) rfl (c_X9_isStride a1 a2 m) (by decide) (by decide) rfl rfl (Nat.le_of_ble_eq_true rfl) dX9_worst_3 (fun r2 m1 => ?_)
  refine r_ifneB (tgt := 11) C dX9_worst_6 (by decide) ?_ ?_
  · refine r_iconst (v := (-1)) C dX9_worst_11 (by decide) ?_
    refine r_istore_n (lv' := [some (.inr (9, 0)), some (.inl a1), some (.inl a2), some (.inl (-1)), none, none]) C dX9_worst_12 rfl (by decide) rfl ?_
    refine r_iconst (v := 0) C dX9_worst_13 (by decide) ?_
    refine r_istore (lv' := [some (.inr (9, 0)), some (.inl a1), some (.inl a2), some (.inl (-1)), some (.inl 0), none]) C dX9_worst_14 (by decide) rfl ?_
    refine r_iconst (v := 1) C dX9_worst_16 (by decide) ?_
    refine r_istore (lv' := [some (.inr (9, 0)), some (.inl a1), some (.inl a2), some (.inl (-1)), some (.inl 0), some (.inl 1)]) C dX9_worst_17 (by decide) rfl ?_
    refine r_weak (lv' := [some (.inr (9, 0)), some (.inl a1), some (.inl a2), some (.inl (-1)), some (.inl 0), some (.inl 1)]) ⟨rfl, rfl, rfl, rfl, rfl, rfl, trivial⟩ ?_
    refine r_l3 (pj := 19) (fun v3 v4 v5 => [some (.inr (9, 0)), some (.inl a1), some (.inl a2), some (.inl v3), some (.inl v4), some (.inl v5)]) (fun v3 v4 v5 m6 k19 hk19 => ?_) _ _ _ _ _
    unfold X9_worst_b19
    refine r_iload C dX9_worst_19 rfl ?_
    refine r_bipush (v := 63) C dX9_worst_21 (by decide) ?_
    refine r_icmp_gt (tgt := 61) C dX9_worst_23 (by decide) ?_ ?_
    · refine r_iload_n C dX9_worst_61 rfl rfl ?_
      exact r_ireturn C dX9_worst_62
    refine r_aload_n C dX9_worst_26 rfl rfl ?_
    refine r_iload_n C dX9_worst_27 rfl rfl ?_
    refine r_iload C dX9_worst_28 rfl ?_
    refine r_iload_n C dX9_worst_30 rfl rfl ?_
    refine r_invU (t := 9) (kb := 0) (As := [.inl a1, .inl v5, .inl a2]) (st := []) C il_X9_288 co_X9_laySpread (by decide) rfl (c_X9_laySpread a1 v5 a2 m6) (by decide) (by decide) rfl rfl (Nat.le_of_ble_eq_true rfl) dX9_worst_31 (fun r8 m7 => ?_)
    refine r_aload_n C dX9_worst_34 rfl rfl ?_
    refine r_get (v := .inl (m7 9 0 23)) C fl_X9_282 dX9_worst_35 rfl ?_
    refine r_iload C dX9_worst_38 rfl ?_
    refine r_icmp_gt (tgt := 46) C dX9_worst_40 (by decide) ?_ ?_
    · refine r_iload C dX9_worst_46 rfl ?_
      refine r_istore_n (lv' := [some (.inr (9, 0)), some (.inl a1), some (.inl a2), some (.inl v5), some (.inl v4), some (.inl v5)]) C dX9_worst_48 rfl (by decide) rfl ?_
      refine r_aload_n C dX9_worst_49 rfl rfl ?_
      refine r_get (v := .inl (m7 9 0 23)) C fl_X9_282 dX9_worst_50 rfl ?_
      refine r_istore (lv' := [some (.inr (9, 0)), some (.inl a1), some (.inl a2), some (.inl v5), some (.inl (m7 9 0 23)), some (.inl v5)]) C dX9_worst_53 (by decide) rfl ?_
      refine r_iinc (v := 1) C dX9_worst_55 (by decide) rfl (by decide) (fun x9 => ?_)
      show gw X eI _ [some (.inr (9, 0)), some (.inl a1), some (.inl a2), some (.inl v5), some (.inl (m7 9 0 23)), some (.inl x9)] _ _ _
      refine r_goto (tgt := 19) C dX9_worst_58 (by decide) ?_
      exact r_weak (lv' := [some (.inr (9, 0)), some (.inl a1), some (.inl a2), some (.inl v5), some (.inl (m7 9 0 23)), some (.inl x9)]) ⟨rfl, rfl, rfl, rfl, rfl, rfl, trivial⟩ (hk19 _ _ _ _)
    refine r_goto (tgt := 55) C dX9_worst_43 (by decide) ?_
    refine r_iinc (v := 1) C dX9_worst_55 (by decide) rfl (by decide) (fun x10 => ?_)
    show gw X eI _ [some (.inr (9, 0)), some (.inl a1), some (.inl a2), some (.inl v3), some (.inl v4), some (.inl x10)] _ _ _
    refine r_goto (tgt := 19) C dX9_worst_58 (by decide) ?_
    exact r_weak (lv' := [some (.inr (9, 0)), some (.inl a1), some (.inl a2), some (.inl v3), some (.inl v4), some (.inl x10)]) ⟨rfl, rfl, rfl, rfl, rfl, rfl, trivial⟩ (hk19 _ _ _ _)
  refine r_iconst (v := (-1)) C dX9_worst_9 (by decide) ?_
  exact r_ireturn C dX9_worst_10
theorem dX9_flippedBy_0 : decode cX9_flippedBy 0 = .ok (.aload_n 0, 1) := by decide +kernel
theorem dX9_flippedBy_1 : decode cX9_flippedBy 1 = .ok (.getfield 7, 3) := by decide +kernel
theorem dX9_flippedBy_4 : decode cX9_flippedBy 4 = .ok (.iload_n 1, 1) := by decide +kernel
theorem dX9_flippedBy_5 : decode cX9_flippedBy 5 = .ok (.iload_n 2, 1) := by decide +kernel
theorem dX9_flippedBy_6 : decode cX9_flippedBy 6 = .ok (.invokestatic 85, 3) := by decide +kernel
theorem dX9_flippedBy_9 : decode cX9_flippedBy 9 = .ok (.dup2, 1) := by decide +kernel
theorem dX9_flippedBy_10 : decode cX9_flippedBy 10 = .ok (.iaload, 1) := by decide +kernel
theorem dX9_flippedBy_11 : decode cX9_flippedBy 11 = .ok (.iconst 1, 1) := by decide +kernel
theorem dX9_flippedBy_12 : decode cX9_flippedBy 12 = .ok (.iload_n 3, 1) := by decide +kernel
theorem dX9_flippedBy_13 : decode cX9_flippedBy 13 = .ok (.ishl, 1) := by decide +kernel
theorem dX9_flippedBy_14 : decode cX9_flippedBy 14 = .ok (.ixor, 1) := by decide +kernel
theorem dX9_flippedBy_15 : decode cX9_flippedBy 15 = .ok (.iastore, 1) := by decide +kernel
theorem dX9_flippedBy_16 : decode cX9_flippedBy 16 = .ok (.aload_n 0, 1) := by decide +kernel
theorem dX9_flippedBy_17 : decode cX9_flippedBy 17 = .ok (.iload_n 1, 1) := by decide +kernel
theorem dX9_flippedBy_18 : decode cX9_flippedBy 18 = .ok (.invokevirtual 295, 3) := by decide +kernel
theorem dX9_flippedBy_21 : decode cX9_flippedBy 21 = .ok (.istore 4, 2) := by decide +kernel
theorem dX9_flippedBy_23 : decode cX9_flippedBy 23 = .ok (.aload_n 0, 1) := by decide +kernel
theorem dX9_flippedBy_24 : decode cX9_flippedBy 24 = .ok (.getfield 7, 3) := by decide +kernel
theorem dX9_flippedBy_27 : decode cX9_flippedBy 27 = .ok (.iload_n 1, 1) := by decide +kernel
theorem dX9_flippedBy_28 : decode cX9_flippedBy 28 = .ok (.iload_n 2, 1) := by decide +kernel
theorem dX9_flippedBy_29 : decode cX9_flippedBy 29 = .ok (.invokestatic 85, 3) := by decide +kernel
theorem dX9_flippedBy_32 : decode cX9_flippedBy 32 = .ok (.dup2, 1) := by decide +kernel
theorem dX9_flippedBy_33 : decode cX9_flippedBy 33 = .ok (.iaload, 1) := by decide +kernel
theorem dX9_flippedBy_34 : decode cX9_flippedBy 34 = .ok (.iconst 1, 1) := by decide +kernel
theorem dX9_flippedBy_35 : decode cX9_flippedBy 35 = .ok (.iload_n 3, 1) := by decide +kernel
theorem dX9_flippedBy_36 : decode cX9_flippedBy 36 = .ok (.ishl, 1) := by decide +kernel
theorem dX9_flippedBy_37 : decode cX9_flippedBy 37 = .ok (.ixor, 1) := by decide +kernel
theorem dX9_flippedBy_38 : decode cX9_flippedBy 38 = .ok (.iastore, 1) := by decide +kernel
theorem dX9_flippedBy_39 : decode cX9_flippedBy 39 = .ok (.iload 4, 2) := by decide +kernel
theorem dX9_flippedBy_41 : decode cX9_flippedBy 41 = .ok (.ireturn, 1) := by decide +kernel
def X9_flippedBy (a1 : Int32) (a2 : Int32) (a3 : Int32) (m : gM) : Option (Int32 × gM) :=
  gCall (X9_maskAt a1 a2 m) (fun (r2 : Int32) (m1 : gM) => gAt m1 47 0 r2 (fun (x3 : Int32) => gPut m1 47 0 r2 (x3 ^^^ (1 <<< (a3 &&& 31))) (fun (m4 : gM) => gCall (X9_evenOf a1 m4) (fun (r6 : Int32) (m5 : gM) => gCall (X9_maskAt a1 a2 m5) (fun (r8 : Int32) (m7 : gM) => gAt m7 47 0 r8 (fun (x9 : Int32) => gPut m7 47 0 r8 (x9 ^^^ (1 <<< (a3 &&& 31))) (fun (m10 : gM) => some (r6, m10))))))))
set_option maxRecDepth 100000 in
set_option maxHeartbeats 4000000 in
theorem c_X9_flippedBy (a1 : Int32) (a2 : Int32) (a3 : Int32) (m : gM) : gCon eI yX9_flippedBy cX9_flippedBy 5 (some .int) 5 [.inr (9, 0), .inl a1, .inl a2, .inl a3] m (X9_flippedBy a1 a2 a3 m) := by
  refine gCon.of (lv := [some (.inr (9, 0)), some (.inl a1), some (.inl a2), some (.inl a3), none]) (by decide +kernel) (Nat.le_of_ble_eq_true rfl) rfl (fun X C => ?_)
  unfold X9_flippedBy
  refine r_aload_n C dX9_flippedBy_0 rfl rfl ?_
  refine r_get (v := .inr (47, 0)) C fl_X9_7 dX9_flippedBy_1 rfl ?_
  refine r_iload_n C dX9_flippedBy_4 rfl rfl ?_
  refine r_iload_n C dX9_flippedBy_5 rfl rfl ?_
  refine r_insI (As := [.inl a1, .inl a2]) (st := [.inr (47, 0)]) C il_X9_85 co_X9_maskAt (c_X9_maskAt a1 a2 m) (by decide) (by decide) rfl rfl (Nat.le_of_ble_eq_true rfl) dX9_flippedBy_6 (fun r2 m1 => ?_)
  refine r_dup2 C dX9_flippedBy_9 ?_
  refine r_iald C rfl dX9_flippedBy_10 (fun x3 => ?_)
  refine r_iconst (v := 1) C dX9_flippedBy_11 (by decide) ?_
  refine r_iload_n C dX9_flippedBy_12 rfl rfl ?_
  refine r_ishl C dX9_flippedBy_13 ?_
  refine r_ixor C dX9_flippedBy_14 ?_
  refine r_iast C rfl dX9_flippedBy_15 (fun m4 => ?_)
  refine r_aload_n C dX9_flippedBy_16 rfl rfl ?_
  refine r_iload_n C dX9_flippedBy_17 rfl rfl ?_
  refine r_invI (t := 9) (kb := 0) (As := [.inl a1]) (st := []) C il_X9_295 co_X9_evenOf (by decide) rfl (c_X9_evenOf a1 m4) (by decide) (by decide) rfl rfl (Nat.le_of_ble_eq_true rfl) dX9_flippedBy_18 (fun r6 m5 => ?_)
  refine r_istore (lv' := [some (.inr (9, 0)), some (.inl a1), some (.inl a2), some (.inl a3), some (.inl r6)]) C dX9_flippedBy_21 (by decide) rfl ?_
  refine r_aload_n C dX9_flippedBy_23 rfl rfl ?_
  refine r_get (v := .inr (47, 0)) C fl_X9_7 dX9_flippedBy_24 rfl ?_
  refine r_iload_n C dX9_flippedBy_27 rfl rfl ?_
  refine r_iload_n C dX9_flippedBy_28 rfl rfl ?_
  refine r_insI (As := [.inl a1, .inl a2]) (st := [.inr (47, 0)]) C il_X9_85 co_X9_maskAt (c_X9_maskAt a1 a2 m5) (by decide) (by decide) rfl rfl (Nat.le_of_ble_eq_true rfl) dX9_flippedBy_29 (fun r8 m7 => ?_)
  refine r_dup2 C dX9_flippedBy_32 ?_
  refine r_iald C rfl dX9_flippedBy_33 (fun x9 => ?_)
  refine r_iconst (v := 1) C dX9_flippedBy_34 (by decide) ?_
  refine r_iload_n C dX9_flippedBy_35 rfl rfl ?_
  refine r_ishl C dX9_flippedBy_36 ?_
  refine r_ixor C dX9_flippedBy_37 ?_
  refine r_iast C rfl dX9_flippedBy_38 (fun m10 => ?_)
  refine r_iload C dX9_flippedBy_39 rfl ?_
  exact r_ireturn C dX9_flippedBy_41
theorem dX9_flipped_0 : decode cX9_flipped 0 = .ok (.aload_n 0, 1) := by decide +kernel
theorem dX9_flipped_1 : decode cX9_flipped 1 = .ok (.iload_n 1, 1) := by decide +kernel
theorem dX9_flipped_2 : decode cX9_flipped 2 = .ok (.iload_n 2, 1) := by decide +kernel
theorem dX9_flipped_3 : decode cX9_flipped 3 = .ok (.invokevirtual 243, 3) := by decide +kernel
theorem dX9_flipped_6 : decode cX9_flipped 6 = .ok (.ifCond .eq 23, 3) := by decide +kernel
theorem dX9_flipped_9 : decode cX9_flipped 9 = .ok (.iload_n 3, 1) := by decide +kernel
theorem dX9_flipped_10 : decode cX9_flipped 10 = .ok (.iconst 0, 1) := by decide +kernel
theorem dX9_flipped_11 : decode cX9_flipped 11 = .ok (.bipush 9, 2) := by decide +kernel
theorem dX9_flipped_13 : decode cX9_flipped 13 = .ok (.invokestatic 77, 3) := by decide +kernel
theorem dX9_flipped_16 : decode cX9_flipped 16 = .ok (.ifCond .eq 13, 3) := by decide +kernel
theorem dX9_flipped_19 : decode cX9_flipped 19 = .ok (.aload_n 0, 1) := by decide +kernel
theorem dX9_flipped_20 : decode cX9_flipped 20 = .ok (.iload_n 1, 1) := by decide +kernel
theorem dX9_flipped_21 : decode cX9_flipped 21 = .ok (.iload_n 2, 1) := by decide +kernel
theorem dX9_flipped_22 : decode cX9_flipped 22 = .ok (.iload_n 3, 1) := by decide +kernel
theorem dX9_flipped_23 : decode cX9_flipped 23 = .ok (.invokevirtual 298, 3) := by decide +kernel
theorem dX9_flipped_26 : decode cX9_flipped 26 = .ok (.goto 4, 3) := by decide +kernel
theorem dX9_flipped_29 : decode cX9_flipped 29 = .ok (.iconst (-1), 1) := by decide +kernel
theorem dX9_flipped_30 : decode cX9_flipped 30 = .ok (.ireturn, 1) := by decide +kernel
def X9_flipped (a1 : Int32) (a2 : Int32) (a3 : Int32) (m : gM) : Option (Int32 × gM) :=
  gCall (X9_isBit a1 a2 m) (fun (r2 : Bool) (m1 : gM) => if r2 = true then (gCall (X9_isIn a3 0 9 m1) (fun (r4 : Bool) (m3 : gM) => if r4 = true then (gCall (X9_flippedBy a1 a2 a3 m3) (fun (r6 : Int32) (m5 : gM) => some (r6, m5))) else (some ((-1), m3)))) else (some ((-1), m1)))
set_option maxRecDepth 100000 in
set_option maxHeartbeats 4000000 in
theorem c_X9_flipped (a1 : Int32) (a2 : Int32) (a3 : Int32) (m : gM) : gCon eI yX9_flipped cX9_flipped 4 (some .int) 6 [.inr (9, 0), .inl a1, .inl a2, .inl a3] m (X9_flipped a1 a2 a3 m) := by
  refine gCon.of (lv := [some (.inr (9, 0)), some (.inl a1), some (.inl a2), some (.inl a3)]) (by decide +kernel) (Nat.le_of_ble_eq_true rfl) rfl (fun X C => ?_)
  unfold X9_flipped
  refine r_aload_n C dX9_flipped_0 rfl rfl ?_
  refine r_iload_n C dX9_flipped_1 rfl rfl ?_
  refine r_iload_n C dX9_flipped_2 rfl rfl ?_
  refine r_invB (t := 9) (kb := 0) (As := [.inl a1, .inl a2]) (st := []) C il_X9_243 co_X9_isBit (by decide) rfl (c_X9_isBit a1 a2 m) (by decide) (by decide) rfl rfl (Nat.le_of_ble_eq_true rfl) dX9_flipped_3 (fun r2 m1 => ?_)
  refine r_ifeqB (tgt := 29) C dX9_flipped_6 (by decide) ?_ ?_
  · refine r_iconst (v := (-1)) C dX9_flipped_29 (by decide) ?_
    exact r_ireturn C dX9_flipped_30
  refine r_iload_n C dX9_flipped_9 rfl rfl ?_
  refine r_iconst (v := 0) C dX9_flipped_10 (by decide) ?_
  refine r_bipush (v := 9) C dX9_flipped_11 (by decide) ?_
  refine r_insB (As := [.inl a3, .inl 0, .inl 9]) (st := []) C il_X9_77 co_X9_isIn (c_X9_isIn a3 0 9 m1) (by decide) (by decide) rfl rfl (Nat.le_of_ble_eq_true rfl) dX9_flipped_13 (fun r4 m3 => ?_)
  refine r_ifeqB (tgt := 29) C dX9_flipped_16 (by decide) ?_ ?_
  · refine r_iconst (v := (-1)) C dX9_flipped_29 (by decide) ?_
    exact r_ireturn C dX9_flipped_30
  refine r_aload_n C dX9_flipped_19 rfl rfl ?_
  refine r_iload_n C dX9_flipped_20 rfl rfl ?_
  refine r_iload_n C dX9_flipped_21 rfl rfl ?_
  refine r_iload_n C dX9_flipped_22 rfl rfl ?_
  refine r_invI (t := 9) (kb := 0) (As := [.inl a1, .inl a2, .inl a3]) (st := []) C il_X9_298 co_X9_flippedBy (by decide) rfl (c_X9_flippedBy a1 a2 a3 m3) (by decide) (by decide) rfl rfl (Nat.le_of_ble_eq_true rfl) dX9_flipped_23 (fun r6 m5 => ?_)
  refine r_goto (tgt := 30) C dX9_flipped_26 (by decide) ?_
  exact r_ireturn C dX9_flipped_30
theorem dX9_bestFlip_0 : decode cX9_bestFlip 0 = .ok (.aload_n 0, 1) := by decide +kernel
theorem dX9_bestFlip_1 : decode cX9_bestFlip 1 = .ok (.iload_n 1, 1) := by decide +kernel
theorem dX9_bestFlip_2 : decode cX9_bestFlip 2 = .ok (.invokevirtual 228, 3) := by decide +kernel
theorem dX9_bestFlip_5 : decode cX9_bestFlip 5 = .ok (.ifCond .ne 5, 3) := by decide +kernel
theorem dX9_bestFlip_8 : decode cX9_bestFlip 8 = .ok (.iconst (-1), 1) := by decide +kernel
theorem dX9_bestFlip_9 : decode cX9_bestFlip 9 = .ok (.ireturn, 1) := by decide +kernel
theorem dX9_bestFlip_10 : decode cX9_bestFlip 10 = .ok (.iconst (-1), 1) := by decide +kernel
theorem dX9_bestFlip_11 : decode cX9_bestFlip 11 = .ok (.istore_n 2, 1) := by decide +kernel
theorem dX9_bestFlip_12 : decode cX9_bestFlip 12 = .ok (.aload_n 0, 1) := by decide +kernel
theorem dX9_bestFlip_13 : decode cX9_bestFlip 13 = .ok (.iload_n 1, 1) := by decide +kernel
theorem dX9_bestFlip_14 : decode cX9_bestFlip 14 = .ok (.invokevirtual 295, 3) := by decide +kernel
theorem dX9_bestFlip_17 : decode cX9_bestFlip 17 = .ok (.istore_n 3, 1) := by decide +kernel
theorem dX9_bestFlip_18 : decode cX9_bestFlip 18 = .ok (.iconst 0, 1) := by decide +kernel
theorem dX9_bestFlip_19 : decode cX9_bestFlip 19 = .ok (.istore 4, 2) := by decide +kernel
theorem dX9_bestFlip_21 : decode cX9_bestFlip 21 = .ok (.iload 4, 2) := by decide +kernel
theorem dX9_bestFlip_23 : decode cX9_bestFlip 23 = .ok (.aload_n 0, 1) := by decide +kernel
theorem dX9_bestFlip_24 : decode cX9_bestFlip 24 = .ok (.getfield 7, 3) := by decide +kernel
theorem dX9_bestFlip_27 : decode cX9_bestFlip 27 = .ok (.bipush 37, 2) := by decide +kernel
theorem dX9_bestFlip_29 : decode cX9_bestFlip 29 = .ok (.iaload, 1) := by decide +kernel
theorem dX9_bestFlip_30 : decode cX9_bestFlip 30 = .ok (.if_icmp .ge 57, 3) := by decide +kernel
theorem dX9_bestFlip_33 : decode cX9_bestFlip 33 = .ok (.iconst 0, 1) := by decide +kernel
theorem dX9_bestFlip_34 : decode cX9_bestFlip 34 = .ok (.istore 5, 2) := by decide +kernel
theorem dX9_bestFlip_36 : decode cX9_bestFlip 36 = .ok (.iload 5, 2) := by decide +kernel
theorem dX9_bestFlip_38 : decode cX9_bestFlip 38 = .ok (.bipush 10, 2) := by decide +kernel
theorem dX9_bestFlip_40 : decode cX9_bestFlip 40 = .ok (.if_icmp .ge 41, 3) := by decide +kernel
theorem dX9_bestFlip_43 : decode cX9_bestFlip 43 = .ok (.aload_n 0, 1) := by decide +kernel
theorem dX9_bestFlip_44 : decode cX9_bestFlip 44 = .ok (.iload_n 1, 1) := by decide +kernel
theorem dX9_bestFlip_45 : decode cX9_bestFlip 45 = .ok (.iload 4, 2) := by decide +kernel
theorem dX9_bestFlip_47 : decode cX9_bestFlip 47 = .ok (.iload 5, 2) := by decide +kernel
theorem dX9_bestFlip_49 : decode cX9_bestFlip 49 = .ok (.invokevirtual 298, 3) := by decide +kernel
theorem dX9_bestFlip_52 : decode cX9_bestFlip 52 = .ok (.istore 6, 2) := by decide +kernel
theorem dX9_bestFlip_54 : decode cX9_bestFlip 54 = .ok (.iload 6, 2) := by decide +kernel
theorem dX9_bestFlip_56 : decode cX9_bestFlip 56 = .ok (.iload_n 3, 1) := by decide +kernel
theorem dX9_bestFlip_57 : decode cX9_bestFlip 57 = .ok (.if_icmp .gt 6, 3) := by decide +kernel
theorem dX9_bestFlip_60 : decode cX9_bestFlip 60 = .ok (.goto 15, 3) := by decide +kernel
theorem dX9_bestFlip_63 : decode cX9_bestFlip 63 = .ok (.bipush 16, 2) := by decide +kernel
theorem dX9_bestFlip_65 : decode cX9_bestFlip 65 = .ok (.iload 4, 2) := by decide +kernel
theorem dX9_bestFlip_67 : decode cX9_bestFlip 67 = .ok (.imul, 1) := by decide +kernel
theorem dX9_bestFlip_68 : decode cX9_bestFlip 68 = .ok (.iload 5, 2) := by decide +kernel
theorem dX9_bestFlip_70 : decode cX9_bestFlip 70 = .ok (.iadd, 1) := by decide +kernel
theorem dX9_bestFlip_71 : decode cX9_bestFlip 71 = .ok (.istore_n 2, 1) := by decide +kernel
theorem dX9_bestFlip_72 : decode cX9_bestFlip 72 = .ok (.iload 6, 2) := by decide +kernel
theorem dX9_bestFlip_74 : decode cX9_bestFlip 74 = .ok (.istore_n 3, 1) := by decide +kernel
theorem dX9_bestFlip_75 : decode cX9_bestFlip 75 = .ok (.iinc 5 1, 3) := by decide +kernel
theorem dX9_bestFlip_78 : decode cX9_bestFlip 78 = .ok (.goto (-42), 3) := by decide +kernel
theorem dX9_bestFlip_81 : decode cX9_bestFlip 81 = .ok (.iinc 4 1, 3) := by decide +kernel
theorem dX9_bestFlip_84 : decode cX9_bestFlip 84 = .ok (.goto (-63), 3) := by decide +kernel
theorem dX9_bestFlip_87 : decode cX9_bestFlip 87 = .ok (.iload_n 2, 1) := by decide +kernel
theorem dX9_bestFlip_88 : decode cX9_bestFlip 88 = .ok (.ireturn, 1) := by decide +kernel
def X9_bestFlip_b36 (a1 : Int32) (k21 : Int32 → Int32 → Int32 → gM → Option (Int32 × gM)) (v7 : Int32) (v10 v11 v12 : Int32) (m13 : gM) (k36 : Int32 → Int32 → Int32 → gM → Option (Int32 × gM)) : Option (Int32 × gM) :=
  if 10 ≤ v12 then (gLet (v7 + 1) (fun (x14 : Int32) => k21 v10 v11 x14 m13)) else (gCall (X9_flippedBy a1 v7 v12 m13) (fun (r16 : Int32) (m15 : gM) => if v11 < r16 then (gLet ((16 * v7) + v12) (fun (x17 : Int32) => gLet (v12 + 1) (fun (x18 : Int32) => k36 x17 r16 x18 m15))) else (gLet (v12 + 1) (fun (x19 : Int32) => k36 v10 v11 x19 m15))))
def X9_bestFlip_b21 (a1 : Int32) (v5 v6 v7 : Int32) (m8 : gM) (k21 : Int32 → Int32 → Int32 → gM → Option (Int32 × gM)) : Option (Int32 × gM) :=
  gAt m8 47 0 37 (fun (x9 : Int32) => if x9 ≤ v7 then (some (v5, m8)) else (gL3 FU (X9_bestFlip_b36 a1 k21 v7) v5 v6 0 m8))
def X9_bestFlip (a1 : Int32) (m : gM) : Option (Int32 × gM) :=
  gCall (X9_isWay a1 m) (fun (r2 : Bool) (m1 : gM) => if r2 = true then (gCall (X9_evenOf a1 m1) (fun (r4 : Int32) (m3 : gM) => gL3 FU (X9_bestFlip_b21 a1) (-1) r4 0 m3)) else (some ((-1), m1)))
set_option maxRecDepth 100000 in
set_option maxHeartbeats 4000000 in
theorem c_X9_bestFlip (a1 : Int32) (m : gM) : gCon eI yX9_bestFlip cX9_bestFlip 7 (some .int) 6 [.inr (9, 0), .inl a1] m (X9_bestFlip a1 m) := by
  refine gCon.of (lv := [some (.inr (9, 0)), some (.inl a1), none, none, none, none, none]) (by decide +kernel) (Nat.le_of_ble_eq_true rfl) rfl (fun X C => ?_)
  unfold X9_bestFlip
  refine r_aload_n C dX9_bestFlip_0 rfl rfl ?_
  refine r_iload_n C dX9_bestFlip_1 rfl rfl ?_
  refine r_invB (t := 9) (kb := 0) (As := [.inl a1]) (st := []) C il_X9_228 co_X9_isWay (by decide) rfl (c_X9_isWay a1 m) (by decide) (by decide) rfl rfl (Nat.le_of_ble_eq_true rfl) dX9_bestFlip_2 (fun r2 m1 => ?_)
  refine r_ifneB (tgt := 10) C dX9_bestFlip_5 (by decide) ?_ ?_
  · refine r_iconst (v := (-1)) C dX9_bestFlip_10 (by decide) ?_
    refine r_istore_n (lv' := [some (.inr (9, 0)), some (.inl a1), some (.inl (-1)), none, none, none, none]) C dX9_bestFlip_11 rfl (by decide) rfl ?_
    refine r_aload_n C dX9_bestFlip_12 rfl rfl ?_
    refine r_iload_n C dX9_bestFlip_13 rfl rfl ?_
    refine r_invI (t := 9) (kb := 0) (As := [.inl a1]) (st := []) C il_X9_295 co_X9_evenOf (by decide) rfl (c_X9_evenOf a1 m1) (by decide) (by decide) rfl rfl (Nat.le_of_ble_eq_true rfl) dX9_bestFlip_14 (fun r4 m3 => ?_)
    refine r_istore_n (lv' := [some (.inr (9, 0)), some (.inl a1), some (.inl (-1)), some (.inl r4), none, none, none]) C dX9_bestFlip_17 rfl (by decide) rfl ?_
    refine r_iconst (v := 0) C dX9_bestFlip_18 (by decide) ?_
    refine r_istore (lv' := [some (.inr (9, 0)), some (.inl a1), some (.inl (-1)), some (.inl r4), some (.inl 0), none, none]) C dX9_bestFlip_19 (by decide) rfl ?_
    refine r_weak (lv' := [some (.inr (9, 0)), some (.inl a1), some (.inl (-1)), some (.inl r4), some (.inl 0), none, none]) ⟨rfl, rfl, rfl, rfl, rfl, trivial⟩ ?_
    refine r_l3 (pj := 21) (fun v5 v6 v7 => [some (.inr (9, 0)), some (.inl a1), some (.inl v5), some (.inl v6), some (.inl v7), none, none]) (fun v5 v6 v7 m8 k21 hk21 => ?_) _ _ _ _ _
    unfold X9_bestFlip_b21
    refine r_iload C dX9_bestFlip_21 rfl ?_
    refine r_aload_n C dX9_bestFlip_23 rfl rfl ?_
    refine r_get (v := .inr (47, 0)) C fl_X9_7 dX9_bestFlip_24 rfl ?_
    refine r_bipush (v := 37) C dX9_bestFlip_27 (by decide) ?_
    refine r_iald C rfl dX9_bestFlip_29 (fun x9 => ?_)
    refine r_icmp_ge (tgt := 87) C dX9_bestFlip_30 (by decide) ?_ ?_
    · refine r_iload_n C dX9_bestFlip_87 rfl rfl ?_
      exact r_ireturn C dX9_bestFlip_88
    refine r_iconst (v := 0) C dX9_bestFlip_33 (by decide) ?_
    refine r_istore (lv' := [some (.inr (9, 0)), some (.inl a1), some (.inl v5), some (.inl v6), some (.inl v7), some (.inl 0), none]) C dX9_bestFlip_34 (by decide) rfl ?_
    refine r_weak (lv' := [some (.inr (9, 0)), some (.inl a1), some (.inl v5), some (.inl v6), some (.inl v7), some (.inl 0), none]) ⟨rfl, rfl, rfl, rfl, rfl, rfl, trivial⟩ ?_
    refine r_l3 (pj := 36) (fun v10 v11 v12 => [some (.inr (9, 0)), some (.inl a1), some (.inl v10), some (.inl v11), some (.inl v7), some (.inl v12), none]) (fun v10 v11 v12 m13 k36 hk36 => ?_) _ _ _ _ _
    unfold X9_bestFlip_b36
    refine r_iload C dX9_bestFlip_36 rfl ?_
    refine r_bipush (v := 10) C dX9_bestFlip_38 (by decide) ?_
    refine r_icmp_ge (tgt := 81) C dX9_bestFlip_40 (by decide) ?_ ?_
    · refine r_iinc (v := 1) C dX9_bestFlip_81 (by decide) rfl (by decide) (fun x14 => ?_)
      show gw X eI _ [some (.inr (9, 0)), some (.inl a1), some (.inl v10), some (.inl v11), some (.inl x14), some (.inl v12), none] _ _ _
      refine r_goto (tgt := 21) C dX9_bestFlip_84 (by decide) ?_
      exact r_weak (lv' := [some (.inr (9, 0)), some (.inl a1), some (.inl v10), some (.inl v11), some (.inl x14), none, none]) ⟨rfl, rfl, rfl, rfl, rfl, trivial⟩ (hk21 _ _ _ _)
    refine r_aload_n C dX9_bestFlip_43 rfl rfl ?_
    refine r_iload_n C dX9_bestFlip_44 rfl rfl ?_
    refine r_iload C dX9_bestFlip_45 rfl ?_
    refine r_iload C dX9_bestFlip_47 rfl ?_
    refine r_invI (t := 9) (kb := 0) (As := [.inl a1, .inl v7, .inl v12]) (st := []) C il_X9_298 co_X9_flippedBy (by decide) rfl (c_X9_flippedBy a1 v7 v12 m13) (by decide) (by decide) rfl rfl (Nat.le_of_ble_eq_true rfl) dX9_bestFlip_49 (fun r16 m15 => ?_)
    refine r_istore (lv' := [some (.inr (9, 0)), some (.inl a1), some (.inl v10), some (.inl v11), some (.inl v7), some (.inl v12), some (.inl r16)]) C dX9_bestFlip_52 (by decide) rfl ?_
    refine r_iload C dX9_bestFlip_54 rfl ?_
    refine r_iload_n C dX9_bestFlip_56 rfl rfl ?_
    refine r_icmp_gt (tgt := 63) C dX9_bestFlip_57 (by decide) ?_ ?_
    · refine r_bipush (v := 16) C dX9_bestFlip_63 (by decide) ?_
      refine r_iload C dX9_bestFlip_65 rfl ?_
      refine r_imul C dX9_bestFlip_67 ?_
      refine r_iload C dX9_bestFlip_68 rfl ?_
      refine r_iadd C dX9_bestFlip_70 ?_
      refine r_let (fun x17 => ?_)
      refine r_istore_n (lv' := [some (.inr (9, 0)), some (.inl a1), some (.inl x17), some (.inl v11), some (.inl v7), some (.inl v12), some (.inl r16)]) C dX9_bestFlip_71 rfl (by decide) rfl ?_
      refine r_iload C dX9_bestFlip_72 rfl ?_
      refine r_istore_n (lv' := [some (.inr (9, 0)), some (.inl a1), some (.inl x17), some (.inl r16), some (.inl v7), some (.inl v12), some (.inl r16)]) C dX9_bestFlip_74 rfl (by decide) rfl ?_
      refine r_iinc (v := 1) C dX9_bestFlip_75 (by decide) rfl (by decide) (fun x18 => ?_)
      show gw X eI _ [some (.inr (9, 0)), some (.inl a1), some (.inl x17), some (.inl r16), some (.inl v7), some (.inl x18), some (.inl r16)] _ _ _
      refine r_goto (tgt := 36) C dX9_bestFlip_78 (by decide) ?_
      exact r_weak (lv' := [some (.inr (9, 0)), some (.inl a1), some (.inl x17), some (.inl r16), some (.inl v7), some (.inl x18), none]) ⟨rfl, rfl, rfl, rfl, rfl, rfl, trivial⟩ (hk36 _ _ _ _)
    refine r_goto (tgt := 75) C dX9_bestFlip_60 (by decide) ?_
    refine r_iinc (v := 1) C dX9_bestFlip_75 (by decide) rfl (by decide) (fun x19 => ?_)
    show gw X eI _ [some (.inr (9, 0)), some (.inl a1), some (.inl v10), some (.inl v11), some (.inl v7), some (.inl x19), some (.inl r16)] _ _ _
    refine r_goto (tgt := 36) C dX9_bestFlip_78 (by decide) ?_
    exact r_weak (lv' := [some (.inr (9, 0)), some (.inl a1), some (.inl v10), some (.inl v11), some (.inl v7), some (.inl x19), none]) ⟨rfl, rfl, rfl, rfl, rfl, rfl, trivial⟩ (hk36 _ _ _ _)
  refine r_iconst (v := (-1)) C dX9_bestFlip_8 (by decide) ?_
  exact r_ireturn C dX9_bestFlip_9
theorem dX9_goOn_0 : decode cX9_goOn 0 = .ok (.iload_n 1, 1) := by decide +kernel
theorem dX9_goOn_1 : decode cX9_goOn 1 = .ok (.istore_n 2, 1) := by decide +kernel
theorem dX9_goOn_2 : decode cX9_goOn 2 = .ok (.iload_n 2, 1) := by decide +kernel
theorem dX9_goOn_3 : decode cX9_goOn 3 = .ok (.iconst (-1), 1) := by decide +kernel
theorem dX9_goOn_4 : decode cX9_goOn 4 = .ok (.if_icmp .eq 27, 3) := by decide +kernel
theorem dX9_goOn_7 : decode cX9_goOn 7 = .ok (.aload_n 0, 1) := by decide +kernel
theorem dX9_goOn_8 : decode cX9_goOn 8 = .ok (.getfield 57, 3) := by decide +kernel
theorem dX9_goOn_11 : decode cX9_goOn 11 = .ok (.iload_n 2, 1) := by decide +kernel
theorem dX9_goOn_12 : decode cX9_goOn 12 = .ok (.iaload, 1) := by decide +kernel
theorem dX9_goOn_13 : decode cX9_goOn 13 = .ok (.istore_n 3, 1) := by decide +kernel
theorem dX9_goOn_14 : decode cX9_goOn 14 = .ok (.aload_n 0, 1) := by decide +kernel
theorem dX9_goOn_15 : decode cX9_goOn 15 = .ok (.getfield 54, 3) := by decide +kernel
theorem dX9_goOn_18 : decode cX9_goOn 18 = .ok (.iload_n 2, 1) := by decide +kernel
theorem dX9_goOn_19 : decode cX9_goOn 19 = .ok (.iload_n 3, 1) := by decide +kernel
theorem dX9_goOn_20 : decode cX9_goOn 20 = .ok (.iastore, 1) := by decide +kernel
theorem dX9_goOn_21 : decode cX9_goOn 21 = .ok (.aload_n 0, 1) := by decide +kernel
theorem dX9_goOn_22 : decode cX9_goOn 22 = .ok (.getfield 60, 3) := by decide +kernel
theorem dX9_goOn_25 : decode cX9_goOn 25 = .ok (.iload_n 3, 1) := by decide +kernel
theorem dX9_goOn_26 : decode cX9_goOn 26 = .ok (.iaload, 1) := by decide +kernel
theorem dX9_goOn_27 : decode cX9_goOn 27 = .ok (.istore_n 2, 1) := by decide +kernel
theorem dX9_goOn_28 : decode cX9_goOn 28 = .ok (.goto (-26), 3) := by decide +kernel
theorem dX9_goOn_31 : decode cX9_goOn 31 = .ok (.return_, 1) := by decide +kernel
def X9_goOn_b2 (v1 : Int32) (m2 : gM) (k2 : Int32 → gM → Option (Unit × gM)) : Option (Unit × gM) :=
  if v1 = (-1) then (some ((), m2)) else (gAt m2 60 0 v1 (fun (x3 : Int32) => gPut m2 59 0 v1 x3 (fun (m4 : gM) => gAt m4 61 0 x3 (fun (x5 : Int32) => k2 x5 m4))))
def X9_goOn (a1 : Int32) (m : gM) : Option (Unit × gM) :=
  gL1 FU X9_goOn_b2 a1 m
set_option maxRecDepth 100000 in
set_option maxHeartbeats 4000000 in
theorem c_X9_goOn (a1 : Int32) (m : gM) : gCon eU yX9_goOn cX9_goOn 4 none 0 [.inr (9, 0), .inl a1] m (X9_goOn a1 m) := by
  refine gCon.of (lv := [some (.inr (9, 0)), some (.inl a1), none, none]) (by decide +kernel) (Nat.le_of_ble_eq_true rfl) rfl (fun X C => ?_)
  unfold X9_goOn
  refine r_iload_n C dX9_goOn_0 rfl rfl ?_
  refine r_istore_n (lv' := [some (.inr (9, 0)), some (.inl a1), some (.inl a1), none]) C dX9_goOn_1 rfl (by decide) rfl ?_
  refine r_weak (lv' := [some (.inr (9, 0)), none, some (.inl a1), none]) ⟨rfl, rfl, trivial⟩ ?_
  refine r_l1 (pj := 2) (fun v1 => [some (.inr (9, 0)), none, some (.inl v1), none]) (fun v1 m2 k2 hk2 => ?_) _ _ _
  unfold X9_goOn_b2
  refine r_iload_n C dX9_goOn_2 rfl rfl ?_
  refine r_iconst (v := (-1)) C dX9_goOn_3 (by decide) ?_
  refine r_icmp_eq (tgt := 31) C dX9_goOn_4 (by decide) ?_ ?_
  · exact r_return C dX9_goOn_31
  refine r_aload_n C dX9_goOn_7 rfl rfl ?_
  refine r_get (v := .inr (60, 0)) C fl_X9_57 dX9_goOn_8 rfl ?_
  refine r_iload_n C dX9_goOn_11 rfl rfl ?_
  refine r_iald C rfl dX9_goOn_12 (fun x3 => ?_)
  refine r_istore_n (lv' := [some (.inr (9, 0)), none, some (.inl v1), some (.inl x3)]) C dX9_goOn_13 rfl (by decide) rfl ?_
  refine r_aload_n C dX9_goOn_14 rfl rfl ?_
  refine r_get (v := .inr (59, 0)) C fl_X9_54 dX9_goOn_15 rfl ?_
  refine r_iload_n C dX9_goOn_18 rfl rfl ?_
  refine r_iload_n C dX9_goOn_19 rfl rfl ?_
  refine r_iast C rfl dX9_goOn_20 (fun m4 => ?_)
  refine r_aload_n C dX9_goOn_21 rfl rfl ?_
  refine r_get (v := .inr (61, 0)) C fl_X9_60 dX9_goOn_22 rfl ?_
  refine r_iload_n C dX9_goOn_25 rfl rfl ?_
  refine r_iald C rfl dX9_goOn_26 (fun x5 => ?_)
  refine r_istore_n (lv' := [some (.inr (9, 0)), none, some (.inl x5), some (.inl x3)]) C dX9_goOn_27 rfl (by decide) rfl ?_
  refine r_goto (tgt := 2) C dX9_goOn_28 (by decide) ?_
  exact r_weak (lv' := [some (.inr (9, 0)), none, some (.inl x5), none]) ⟨rfl, rfl, trivial⟩ (hk2 _ _)
theorem dX9_fits_0 : decode cX9_fits 0 = .ok (.iconst 0, 1) := by decide +kernel
theorem dX9_fits_1 : decode cX9_fits 1 = .ok (.istore_n 2, 1) := by decide +kernel
theorem dX9_fits_2 : decode cX9_fits 2 = .ok (.iload_n 2, 1) := by decide +kernel
theorem dX9_fits_3 : decode cX9_fits 3 = .ok (.bipush 64, 2) := by decide +kernel
theorem dX9_fits_5 : decode cX9_fits 5 = .ok (.if_icmp .ge 16, 3) := by decide +kernel
theorem dX9_fits_8 : decode cX9_fits 8 = .ok (.aload_n 0, 1) := by decide +kernel
theorem dX9_fits_9 : decode cX9_fits 9 = .ok (.getfield 57, 3) := by decide +kernel
theorem dX9_fits_12 : decode cX9_fits 12 = .ok (.iload_n 2, 1) := by decide +kernel
theorem dX9_fits_13 : decode cX9_fits 13 = .ok (.iconst (-1), 1) := by decide +kernel
theorem dX9_fits_14 : decode cX9_fits 14 = .ok (.iastore, 1) := by decide +kernel
theorem dX9_fits_15 : decode cX9_fits 15 = .ok (.iinc 2 1, 3) := by decide +kernel
theorem dX9_fits_18 : decode cX9_fits 18 = .ok (.goto (-16), 3) := by decide +kernel
theorem dX9_fits_21 : decode cX9_fits 21 = .ok (.iconst 1, 1) := by decide +kernel
theorem dX9_fits_22 : decode cX9_fits 22 = .ok (.istore_n 2, 1) := by decide +kernel
theorem dX9_fits_23 : decode cX9_fits 23 = .ok (.aload_n 0, 1) := by decide +kernel
theorem dX9_fits_24 : decode cX9_fits 24 = .ok (.getfield 63, 3) := by decide +kernel
theorem dX9_fits_27 : decode cX9_fits 27 = .ok (.iconst 0, 1) := by decide +kernel
theorem dX9_fits_28 : decode cX9_fits 28 = .ok (.iload_n 1, 1) := by decide +kernel
theorem dX9_fits_29 : decode cX9_fits 29 = .ok (.iastore, 1) := by decide +kernel
theorem dX9_fits_30 : decode cX9_fits 30 = .ok (.aload_n 0, 1) := by decide +kernel
theorem dX9_fits_31 : decode cX9_fits 31 = .ok (.getfield 60, 3) := by decide +kernel
theorem dX9_fits_34 : decode cX9_fits 34 = .ok (.iload_n 1, 1) := by decide +kernel
theorem dX9_fits_35 : decode cX9_fits 35 = .ok (.iconst (-1), 1) := by decide +kernel
theorem dX9_fits_36 : decode cX9_fits 36 = .ok (.iastore, 1) := by decide +kernel
theorem dX9_fits_37 : decode cX9_fits 37 = .ok (.iconst 0, 1) := by decide +kernel
theorem dX9_fits_38 : decode cX9_fits 38 = .ok (.istore_n 3, 1) := by decide +kernel
theorem dX9_fits_39 : decode cX9_fits 39 = .ok (.iload_n 3, 1) := by decide +kernel
theorem dX9_fits_40 : decode cX9_fits 40 = .ok (.iload_n 2, 1) := by decide +kernel
theorem dX9_fits_41 : decode cX9_fits 41 = .ok (.if_icmp .ge 125, 3) := by decide +kernel
theorem dX9_fits_44 : decode cX9_fits 44 = .ok (.aload_n 0, 1) := by decide +kernel
theorem dX9_fits_45 : decode cX9_fits 45 = .ok (.getfield 63, 3) := by decide +kernel
theorem dX9_fits_48 : decode cX9_fits 48 = .ok (.iload_n 3, 1) := by decide +kernel
theorem dX9_fits_49 : decode cX9_fits 49 = .ok (.iaload, 1) := by decide +kernel
theorem dX9_fits_50 : decode cX9_fits 50 = .ok (.istore 4, 2) := by decide +kernel
theorem dX9_fits_52 : decode cX9_fits 52 = .ok (.iconst 0, 1) := by decide +kernel
theorem dX9_fits_53 : decode cX9_fits 53 = .ok (.istore 5, 2) := by decide +kernel
theorem dX9_fits_55 : decode cX9_fits 55 = .ok (.iload 5, 2) := by decide +kernel
theorem dX9_fits_57 : decode cX9_fits 57 = .ok (.aload_n 0, 1) := by decide +kernel
theorem dX9_fits_58 : decode cX9_fits 58 = .ok (.getfield 7, 3) := by decide +kernel
theorem dX9_fits_61 : decode cX9_fits 61 = .ok (.bipush 36, 2) := by decide +kernel
theorem dX9_fits_63 : decode cX9_fits 63 = .ok (.iaload, 1) := by decide +kernel
theorem dX9_fits_64 : decode cX9_fits 64 = .ok (.if_icmp .ge 96, 3) := by decide +kernel
theorem dX9_fits_67 : decode cX9_fits 67 = .ok (.aload_n 0, 1) := by decide +kernel
theorem dX9_fits_68 : decode cX9_fits 68 = .ok (.aload_n 0, 1) := by decide +kernel
theorem dX9_fits_69 : decode cX9_fits 69 = .ok (.getfield 51, 3) := by decide +kernel
theorem dX9_fits_72 : decode cX9_fits 72 = .ok (.iload 4, 2) := by decide +kernel
theorem dX9_fits_74 : decode cX9_fits 74 = .ok (.iaload, 1) := by decide +kernel
theorem dX9_fits_75 : decode cX9_fits 75 = .ok (.iload 5, 2) := by decide +kernel
theorem dX9_fits_77 : decode cX9_fits 77 = .ok (.invokevirtual 99, 3) := by decide +kernel
theorem dX9_fits_80 : decode cX9_fits 80 = .ok (.istore 6, 2) := by decide +kernel
theorem dX9_fits_82 : decode cX9_fits 82 = .ok (.aload_n 0, 1) := by decide +kernel
theorem dX9_fits_83 : decode cX9_fits 83 = .ok (.getfield 57, 3) := by decide +kernel
theorem dX9_fits_86 : decode cX9_fits 86 = .ok (.iload 6, 2) := by decide +kernel
theorem dX9_fits_88 : decode cX9_fits 88 = .ok (.iaload, 1) := by decide +kernel
theorem dX9_fits_89 : decode cX9_fits 89 = .ok (.iconst (-1), 1) := by decide +kernel
theorem dX9_fits_90 : decode cX9_fits 90 = .ok (.if_icmp .eq 6, 3) := by decide +kernel
theorem dX9_fits_93 : decode cX9_fits 93 = .ok (.goto 61, 3) := by decide +kernel
theorem dX9_fits_96 : decode cX9_fits 96 = .ok (.aload_n 0, 1) := by decide +kernel
theorem dX9_fits_97 : decode cX9_fits 97 = .ok (.getfield 57, 3) := by decide +kernel
theorem dX9_fits_100 : decode cX9_fits 100 = .ok (.iload 6, 2) := by decide +kernel
theorem dX9_fits_102 : decode cX9_fits 102 = .ok (.iload 4, 2) := by decide +kernel
theorem dX9_fits_104 : decode cX9_fits 104 = .ok (.iastore, 1) := by decide +kernel
theorem dX9_fits_105 : decode cX9_fits 105 = .ok (.aload_n 0, 1) := by decide +kernel
theorem dX9_fits_106 : decode cX9_fits 106 = .ok (.getfield 54, 3) := by decide +kernel
theorem dX9_fits_109 : decode cX9_fits 109 = .ok (.iload 6, 2) := by decide +kernel
theorem dX9_fits_111 : decode cX9_fits 111 = .ok (.iaload, 1) := by decide +kernel
theorem dX9_fits_112 : decode cX9_fits 112 = .ok (.iconst (-1), 1) := by decide +kernel
theorem dX9_fits_113 : decode cX9_fits 113 = .ok (.if_icmp .ne 11, 3) := by decide +kernel
theorem dX9_fits_116 : decode cX9_fits 116 = .ok (.aload_n 0, 1) := by decide +kernel
theorem dX9_fits_117 : decode cX9_fits 117 = .ok (.iload 6, 2) := by decide +kernel
theorem dX9_fits_119 : decode cX9_fits 119 = .ok (.invokevirtual 301, 3) := by decide +kernel
theorem dX9_fits_122 : decode cX9_fits 122 = .ok (.iconst 1, 1) := by decide +kernel
theorem dX9_fits_123 : decode cX9_fits 123 = .ok (.ireturn, 1) := by decide +kernel
theorem dX9_fits_124 : decode cX9_fits 124 = .ok (.aload_n 0, 1) := by decide +kernel
theorem dX9_fits_125 : decode cX9_fits 125 = .ok (.getfield 60, 3) := by decide +kernel
theorem dX9_fits_128 : decode cX9_fits 128 = .ok (.aload_n 0, 1) := by decide +kernel
theorem dX9_fits_129 : decode cX9_fits 129 = .ok (.getfield 54, 3) := by decide +kernel
theorem dX9_fits_132 : decode cX9_fits 132 = .ok (.iload 6, 2) := by decide +kernel
theorem dX9_fits_134 : decode cX9_fits 134 = .ok (.iaload, 1) := by decide +kernel
theorem dX9_fits_135 : decode cX9_fits 135 = .ok (.iload 6, 2) := by decide +kernel
theorem dX9_fits_137 : decode cX9_fits 137 = .ok (.iastore, 1) := by decide +kernel
theorem dX9_fits_138 : decode cX9_fits 138 = .ok (.aload_n 0, 1) := by decide +kernel
theorem dX9_fits_139 : decode cX9_fits 139 = .ok (.getfield 63, 3) := by decide +kernel
theorem dX9_fits_142 : decode cX9_fits 142 = .ok (.iload_n 2, 1) := by decide +kernel
theorem dX9_fits_143 : decode cX9_fits 143 = .ok (.aload_n 0, 1) := by decide +kernel
theorem dX9_fits_144 : decode cX9_fits 144 = .ok (.getfield 54, 3) := by decide +kernel
theorem dX9_fits_147 : decode cX9_fits 147 = .ok (.iload 6, 2) := by decide +kernel
theorem dX9_fits_149 : decode cX9_fits 149 = .ok (.iaload, 1) := by decide +kernel
theorem dX9_fits_150 : decode cX9_fits 150 = .ok (.iastore, 1) := by decide +kernel
theorem dX9_fits_151 : decode cX9_fits 151 = .ok (.iinc 2 1, 3) := by decide +kernel
theorem dX9_fits_154 : decode cX9_fits 154 = .ok (.iinc 5 1, 3) := by decide +kernel
theorem dX9_fits_157 : decode cX9_fits 157 = .ok (.goto (-102), 3) := by decide +kernel
theorem dX9_fits_160 : decode cX9_fits 160 = .ok (.iinc 3 1, 3) := by decide +kernel
theorem dX9_fits_163 : decode cX9_fits 163 = .ok (.goto (-124), 3) := by decide +kernel
theorem dX9_fits_166 : decode cX9_fits 166 = .ok (.iconst 0, 1) := by decide +kernel
theorem dX9_fits_167 : decode cX9_fits 167 = .ok (.ireturn, 1) := by decide +kernel
def X9_fits_b55 (k39 : Int32 → Int32 → gM → Option (Bool × gM)) (j116 : Int32 → gM → Option (Bool × gM)) (v9 : Int32) (x11 : Int32) (v12 v13 : Int32) (m14 : gM) (k55 : Int32 → Int32 → gM → Option (Bool × gM)) : Option (Bool × gM) :=
  gAt m14 47 0 36 (fun (x15 : Int32) => if x15 ≤ v13 then (gLet (v9 + 1) (fun (x16 : Int32) => k39 v12 x16 m14)) else (gAt m14 58 0 x11 (fun (x17 : Int32) => gCall (X9_placeOf x17 v13 m14) (fun (r19 : Int32) (m18 : gM) => gAt m18 60 0 r19 (fun (x20 : Int32) => if x20 = (-1) then (gPut m18 60 0 r19 x11 (fun (m21 : gM) => gAt m21 59 0 r19 (fun (x22 : Int32) => if x22 = (-1) then (j116 r19 m21) else (gAt m21 59 0 r19 (fun (x23 : Int32) => gPut m21 61 0 x23 r19 (fun (m24 : gM) => gAt m24 59 0 r19 (fun (x25 : Int32) => gPut m24 62 0 v12 x25 (fun (m26 : gM) => gLet (v12 + 1) (fun (x27 : Int32) => gLet (v13 + 1) (fun (x28 : Int32) => k55 x27 x28 m26)))))))))) else (gLet (v13 + 1) (fun (x29 : Int32) => k55 v12 x29 m18)))))))
def X9_fits_b39 (j116 : Int32 → gM → Option (Bool × gM)) (v8 v9 : Int32) (m10 : gM) (k39 : Int32 → Int32 → gM → Option (Bool × gM)) : Option (Bool × gM) :=
  if v8 ≤ v9 then (some (false, m10)) else (gAt m10 62 0 v9 (fun (x11 : Int32) => gL2 FU (X9_fits_b55 k39 j116 v9 x11) v8 0 m10))
def X9_fits_b2 (j21 : gM → Option (Bool × gM)) (v30 : Int32) (m31 : gM) (k2 : Int32 → gM → Option (Bool × gM)) : Option (Bool × gM) :=
  if 64 ≤ v30 then (j21 m31) else (gPut m31 60 0 v30 (-1) (fun (m32 : gM) => gLet (v30 + 1) (fun (x33 : Int32) => k2 x33 m32)))
def X9_fits (a1 : Int32) (m : gM) : Option (Bool × gM) :=
  gJ0 (fun (m1 : gM) => gPut m1 62 0 0 a1 (fun (m2 : gM) => gPut m2 61 0 a1 (-1) (fun (m3 : gM) => gJ1 (fun (v4 : Int32) (m5 : gM) => gCall (X9_goOn v4 m5) (fun (r7 : Unit) (m6 : gM) => some (true, m6))) (fun (j116 : Int32 → gM → Option (Bool × gM)) => gL2 FU (X9_fits_b39 j116) 1 0 m3)))) (fun (j21 : gM → Option (Bool × gM)) => gL1 FU (X9_fits_b2 j21) 0 m)
set_option maxRecDepth 100000 in
set_option maxHeartbeats 4000000 in
theorem c_X9_fits (a1 : Int32) (m : gM) : gCon eB yX9_fits cX9_fits 7 (some .boolean) 3 [.inr (9, 0), .inl a1] m (X9_fits a1 m) := by
  refine gCon.of (lv := [some (.inr (9, 0)), some (.inl a1), none, none, none, none, none]) (by decide +kernel) (Nat.le_of_ble_eq_true rfl) rfl (fun X C => ?_)
  unfold X9_fits
  refine r_iconst (v := 0) C dX9_fits_0 (by decide) ?_
  refine r_istore_n (lv' := [some (.inr (9, 0)), some (.inl a1), some (.inl 0), none, none, none, none]) C dX9_fits_1 rfl (by decide) rfl ?_
  refine r_j0 21 [some (.inr (9, 0)), some (.inl a1), none, none, none, none, none] [] (fun m1 => ?_) (fun j21 hj21 => ?_)
  · refine r_iconst (v := 1) C dX9_fits_21 (by decide) ?_
    refine r_istore_n (lv' := [some (.inr (9, 0)), some (.inl a1), some (.inl 1), none, none, none, none]) C dX9_fits_22 rfl (by decide) rfl ?_
    refine r_aload_n C dX9_fits_23 rfl rfl ?_
    refine r_get (v := .inr (62, 0)) C fl_X9_63 dX9_fits_24 rfl ?_
    refine r_iconst (v := 0) C dX9_fits_27 (by decide) ?_
    refine r_iload_n C dX9_fits_28 rfl rfl ?_
    refine r_iast C rfl dX9_fits_29 (fun m2 => ?_)
    refine r_aload_n C dX9_fits_30 rfl rfl ?_
    refine r_get (v := .inr (61, 0)) C fl_X9_60 dX9_fits_31 rfl ?_
    refine r_iload_n C dX9_fits_34 rfl rfl ?_
    refine r_iconst (v := (-1)) C dX9_fits_35 (by decide) ?_
    refine r_iast C rfl dX9_fits_36 (fun m3 => ?_)
    refine r_iconst (v := 0) C dX9_fits_37 (by decide) ?_
    refine r_istore_n (lv' := [some (.inr (9, 0)), some (.inl a1), some (.inl 1), some (.inl 0), none, none, none]) C dX9_fits_38 rfl (by decide) rfl ?_
    refine r_j1 116 (fun v4 => [some (.inr (9, 0)), none, none, none, none, none, some (.inl v4)]) (fun v4 => []) (fun v4 m5 => ?_) (fun j116 hj116 => ?_)
    · refine r_aload_n C dX9_fits_116 rfl rfl ?_
      refine r_iload C dX9_fits_117 rfl ?_
      refine r_invU (t := 9) (kb := 0) (As := [.inl v4]) (st := []) C il_X9_301 co_X9_goOn (by decide) rfl (c_X9_goOn v4 m5) (by decide) (by decide) rfl rfl (Nat.le_of_ble_eq_true rfl) dX9_fits_119 (fun r7 m6 => ?_)
      refine r_iconst (v := 1) C dX9_fits_122 (by decide) ?_
      exact r_zret1 C dX9_fits_123
    refine r_weak (lv' := [some (.inr (9, 0)), none, some (.inl 1), some (.inl 0), none, none, none]) ⟨rfl, rfl, rfl, trivial⟩ ?_
    refine r_l2 (pj := 39) (fun v8 v9 => [some (.inr (9, 0)), none, some (.inl v8), some (.inl v9), none, none, none]) (fun v8 v9 m10 k39 hk39 => ?_) _ _ _ _
    unfold X9_fits_b39
    refine r_iload_n C dX9_fits_39 rfl rfl ?_
    refine r_iload_n C dX9_fits_40 rfl rfl ?_
    refine r_icmp_ge (tgt := 166) C dX9_fits_41 (by decide) ?_ ?_
    · refine r_iconst (v := 0) C dX9_fits_166 (by decide) ?_
      exact r_zret0 C dX9_fits_167
    refine r_aload_n C dX9_fits_44 rfl rfl ?_
    refine r_get (v := .inr (62, 0)) C fl_X9_63 dX9_fits_45 rfl ?_
    refine r_iload_n C dX9_fits_48 rfl rfl ?_
    refine r_iald C rfl dX9_fits_49 (fun x11 => ?_)
    refine r_istore (lv' := [some (.inr (9, 0)), none, some (.inl v8), some (.inl v9), some (.inl x11), none, none]) C dX9_fits_50 (by decide) rfl ?_
    refine r_iconst (v := 0) C dX9_fits_52 (by decide) ?_
    refine r_istore (lv' := [some (.inr (9, 0)), none, some (.inl v8), some (.inl v9), some (.inl x11), some (.inl 0), none]) C dX9_fits_53 (by decide) rfl ?_
    refine r_weak (lv' := [some (.inr (9, 0)), none, some (.inl v8), some (.inl v9), some (.inl x11), some (.inl 0), none]) ⟨rfl, rfl, rfl, rfl, rfl, trivial⟩ ?_
    refine r_l2 (pj := 55) (fun v12 v13 => [some (.inr (9, 0)), none, some (.inl v12), some (.inl v9), some (.inl x11), some (.inl v13), none]) (fun v12 v13 m14 k55 hk55 => ?_) _ _ _ _
    unfold X9_fits_b55
    refine r_iload C dX9_fits_55 rfl ?_
    refine r_aload_n C dX9_fits_57 rfl rfl ?_
    refine r_get (v := .inr (47, 0)) C fl_X9_7 dX9_fits_58 rfl ?_
    refine r_bipush (v := 36) C dX9_fits_61 (by decide) ?_
    refine r_iald C rfl dX9_fits_63 (fun x15 => ?_)
    refine r_icmp_ge (tgt := 160) C dX9_fits_64 (by decide) ?_ ?_
    · refine r_iinc (v := 1) C dX9_fits_160 (by decide) rfl (by decide) (fun x16 => ?_)
      show gw X eB _ [some (.inr (9, 0)), none, some (.inl v12), some (.inl x16), some (.inl x11), some (.inl v13), none] _ _ _
      refine r_goto (tgt := 39) C dX9_fits_163 (by decide) ?_
      exact r_weak (lv' := [some (.inr (9, 0)), none, some (.inl v12), some (.inl x16), none, none, none]) ⟨rfl, rfl, rfl, trivial⟩ (hk39 _ _ _)
    refine r_aload_n C dX9_fits_67 rfl rfl ?_
    refine r_aload_n C dX9_fits_68 rfl rfl ?_
    refine r_get (v := .inr (58, 0)) C fl_X9_51 dX9_fits_69 rfl ?_
    refine r_iload C dX9_fits_72 rfl ?_
    refine r_iald C rfl dX9_fits_74 (fun x17 => ?_)
    refine r_iload C dX9_fits_75 rfl ?_
    refine r_invI (t := 9) (kb := 0) (As := [.inl x17, .inl v13]) (st := []) C il_X9_99 co_X9_placeOf (by decide) rfl (c_X9_placeOf x17 v13 m14) (by decide) (by decide) rfl rfl (Nat.le_of_ble_eq_true rfl) dX9_fits_77 (fun r19 m18 => ?_)
    refine r_istore (lv' := [some (.inr (9, 0)), none, some (.inl v12), some (.inl v9), some (.inl x11), some (.inl v13), some (.inl r19)]) C dX9_fits_80 (by decide) rfl ?_
    refine r_aload_n C dX9_fits_82 rfl rfl ?_
    refine r_get (v := .inr (60, 0)) C fl_X9_57 dX9_fits_83 rfl ?_
    refine r_iload C dX9_fits_86 rfl ?_
    refine r_iald C rfl dX9_fits_88 (fun x20 => ?_)
    refine r_iconst (v := (-1)) C dX9_fits_89 (by decide) ?_
    refine r_icmp_eq (tgt := 96) C dX9_fits_90 (by decide) ?_ ?_
    · refine r_aload_n C dX9_fits_96 rfl rfl ?_
      refine r_get (v := .inr (60, 0)) C fl_X9_57 dX9_fits_97 rfl ?_
      refine r_iload C dX9_fits_100 rfl ?_
      refine r_iload C dX9_fits_102 rfl ?_
      refine r_iast C rfl dX9_fits_104 (fun m21 => ?_)
      refine r_aload_n C dX9_fits_105 rfl rfl ?_
      refine r_get (v := .inr (59, 0)) C fl_X9_54 dX9_fits_106 rfl ?_
      refine r_iload C dX9_fits_109 rfl ?_
      refine r_iald C rfl dX9_fits_111 (fun x22 => ?_)
      refine r_iconst (v := (-1)) C dX9_fits_112 (by decide) ?_
      refine r_icmp_ne (tgt := 124) C dX9_fits_113 (by decide) ?_ ?_
      · refine r_aload_n C dX9_fits_124 rfl rfl ?_
        refine r_get (v := .inr (61, 0)) C fl_X9_60 dX9_fits_125 rfl ?_
        refine r_aload_n C dX9_fits_128 rfl rfl ?_
        refine r_get (v := .inr (59, 0)) C fl_X9_54 dX9_fits_129 rfl ?_
        refine r_iload C dX9_fits_132 rfl ?_
        refine r_iald C rfl dX9_fits_134 (fun x23 => ?_)
        refine r_iload C dX9_fits_135 rfl ?_
        refine r_iast C rfl dX9_fits_137 (fun m24 => ?_)
        refine r_aload_n C dX9_fits_138 rfl rfl ?_
        refine r_get (v := .inr (62, 0)) C fl_X9_63 dX9_fits_139 rfl ?_
        refine r_iload_n C dX9_fits_142 rfl rfl ?_
        refine r_aload_n C dX9_fits_143 rfl rfl ?_
        refine r_get (v := .inr (59, 0)) C fl_X9_54 dX9_fits_144 rfl ?_
        refine r_iload C dX9_fits_147 rfl ?_
        refine r_iald C rfl dX9_fits_149 (fun x25 => ?_)
        refine r_iast C rfl dX9_fits_150 (fun m26 => ?_)
        refine r_iinc (v := 1) C dX9_fits_151 (by decide) rfl (by decide) (fun x27 => ?_)
        show gw X eB _ [some (.inr (9, 0)), none, some (.inl x27), some (.inl v9), some (.inl x11), some (.inl v13), some (.inl r19)] _ _ _
        refine r_iinc (v := 1) C dX9_fits_154 (by decide) rfl (by decide) (fun x28 => ?_)
        show gw X eB _ [some (.inr (9, 0)), none, some (.inl x27), some (.inl v9), some (.inl x11), some (.inl x28), some (.inl r19)] _ _ _
        refine r_goto (tgt := 55) C dX9_fits_157 (by decide) ?_
        exact r_weak (lv' := [some (.inr (9, 0)), none, some (.inl x27), some (.inl v9), some (.inl x11), some (.inl x28), none]) ⟨rfl, rfl, rfl, rfl, rfl, trivial⟩ (hk55 _ _ _)
      exact r_weak (lv' := [some (.inr (9, 0)), none, none, none, none, none, some (.inl r19)]) ⟨rfl, rfl, trivial⟩ (hj116 _ _)
    refine r_goto (tgt := 154) C dX9_fits_93 (by decide) ?_
    refine r_iinc (v := 1) C dX9_fits_154 (by decide) rfl (by decide) (fun x29 => ?_)
    show gw X eB _ [some (.inr (9, 0)), none, some (.inl v12), some (.inl v9), some (.inl x11), some (.inl x29), some (.inl r19)] _ _ _
    refine r_goto (tgt := 55) C dX9_fits_157 (by decide) ?_
    exact r_weak (lv' := [some (.inr (9, 0)), none, some (.inl v12), some (.inl v9), some (.inl x11), some (.inl x29), none]) ⟨rfl, rfl, rfl, rfl, rfl, trivial⟩ (hk55 _ _ _)
  refine r_weak (lv' := [some (.inr (9, 0)), some (.inl a1), some (.inl 0), none, none, none, none]) ⟨rfl, rfl, rfl, trivial⟩ ?_
  refine r_l1 (pj := 2) (fun v30 => [some (.inr (9, 0)), some (.inl a1), some (.inl v30), none, none, none, none]) (fun v30 m31 k2 hk2 => ?_) _ _ _
  unfold X9_fits_b2
  refine r_iload_n C dX9_fits_2 rfl rfl ?_
  refine r_bipush (v := 64) C dX9_fits_3 (by decide) ?_
  refine r_icmp_ge (tgt := 21) C dX9_fits_5 (by decide) ?_ ?_
  · exact r_weak (lv' := [some (.inr (9, 0)), some (.inl a1), none, none, none, none, none]) ⟨rfl, rfl, trivial⟩ (hj21 _)
  refine r_aload_n C dX9_fits_8 rfl rfl ?_
  refine r_get (v := .inr (60, 0)) C fl_X9_57 dX9_fits_9 rfl ?_
  refine r_iload_n C dX9_fits_12 rfl rfl ?_
  refine r_iconst (v := (-1)) C dX9_fits_13 (by decide) ?_
  refine r_iast C rfl dX9_fits_14 (fun m32 => ?_)
  refine r_iinc (v := 1) C dX9_fits_15 (by decide) rfl (by decide) (fun x33 => ?_)
  show gw X eB _ [some (.inr (9, 0)), some (.inl a1), some (.inl x33), none, none, none, none] _ _ _
  refine r_goto (tgt := 2) C dX9_fits_18 (by decide) ?_
  exact r_weak (lv' := [some (.inr (9, 0)), some (.inl a1), some (.inl x33), none, none, none, none]) ⟨rfl, rfl, rfl, trivial⟩ (hk2 _ _)
theorem dX9_layFitted_0 : decode cX9_layFitted 0 = .ok (.iconst 0, 1) := by decide +kernel
theorem dX9_layFitted_1 : decode cX9_layFitted 1 = .ok (.istore_n 1, 1) := by decide +kernel
theorem dX9_layFitted_2 : decode cX9_layFitted 2 = .ok (.iload_n 1, 1) := by decide +kernel
theorem dX9_layFitted_3 : decode cX9_layFitted 3 = .ok (.bipush 64, 2) := by decide +kernel
theorem dX9_layFitted_5 : decode cX9_layFitted 5 = .ok (.if_icmp .ge 16, 3) := by decide +kernel
theorem dX9_layFitted_8 : decode cX9_layFitted 8 = .ok (.aload_n 0, 1) := by decide +kernel
theorem dX9_layFitted_9 : decode cX9_layFitted 9 = .ok (.getfield 54, 3) := by decide +kernel
theorem dX9_layFitted_12 : decode cX9_layFitted 12 = .ok (.iload_n 1, 1) := by decide +kernel
theorem dX9_layFitted_13 : decode cX9_layFitted 13 = .ok (.iconst (-1), 1) := by decide +kernel
theorem dX9_layFitted_14 : decode cX9_layFitted 14 = .ok (.iastore, 1) := by decide +kernel
theorem dX9_layFitted_15 : decode cX9_layFitted 15 = .ok (.iinc 1 1, 3) := by decide +kernel
theorem dX9_layFitted_18 : decode cX9_layFitted 18 = .ok (.goto (-16), 3) := by decide +kernel
theorem dX9_layFitted_21 : decode cX9_layFitted 21 = .ok (.return_, 1) := by decide +kernel
def X9_layFitted_b2 (v1 : Int32) (m2 : gM) (k2 : Int32 → gM → Option (Unit × gM)) : Option (Unit × gM) :=
  if 64 ≤ v1 then (some ((), m2)) else (gPut m2 59 0 v1 (-1) (fun (m3 : gM) => gLet (v1 + 1) (fun (x4 : Int32) => k2 x4 m3)))
def X9_layFitted (m : gM) : Option (Unit × gM) :=
  gL1 FU X9_layFitted_b2 0 m
set_option maxRecDepth 100000 in
set_option maxHeartbeats 4000000 in
theorem c_X9_layFitted (m : gM) : gCon eU yX9_layFitted cX9_layFitted 2 none 0 [.inr (9, 0)] m (X9_layFitted m) := by
  refine gCon.of (lv := [some (.inr (9, 0)), none]) (by decide +kernel) (Nat.le_of_ble_eq_true rfl) rfl (fun X C => ?_)
  unfold X9_layFitted
  refine r_iconst (v := 0) C dX9_layFitted_0 (by decide) ?_
  refine r_istore_n (lv' := [some (.inr (9, 0)), some (.inl 0)]) C dX9_layFitted_1 rfl (by decide) rfl ?_
  refine r_weak (lv' := [some (.inr (9, 0)), some (.inl 0)]) ⟨rfl, rfl, trivial⟩ ?_
  refine r_l1 (pj := 2) (fun v1 => [some (.inr (9, 0)), some (.inl v1)]) (fun v1 m2 k2 hk2 => ?_) _ _ _
  unfold X9_layFitted_b2
  refine r_iload_n C dX9_layFitted_2 rfl rfl ?_
  refine r_bipush (v := 64) C dX9_layFitted_3 (by decide) ?_
  refine r_icmp_ge (tgt := 21) C dX9_layFitted_5 (by decide) ?_ ?_
  · exact r_return C dX9_layFitted_21
  refine r_aload_n C dX9_layFitted_8 rfl rfl ?_
  refine r_get (v := .inr (59, 0)) C fl_X9_54 dX9_layFitted_9 rfl ?_
  refine r_iload_n C dX9_layFitted_12 rfl rfl ?_
  refine r_iconst (v := (-1)) C dX9_layFitted_13 (by decide) ?_
  refine r_iast C rfl dX9_layFitted_14 (fun m3 => ?_)
  refine r_iinc (v := 1) C dX9_layFitted_15 (by decide) rfl (by decide) (fun x4 => ?_)
  show gw X eU _ [some (.inr (9, 0)), some (.inl x4)] _ _ _
  refine r_goto (tgt := 2) C dX9_layFitted_18 (by decide) ?_
  exact r_weak (lv' := [some (.inr (9, 0)), some (.inl x4)]) ⟨rfl, rfl, trivial⟩ (hk2 _ _)
theorem dX9_fitting_0 : decode cX9_fitting 0 = .ok (.iconst 0, 1) := by decide +kernel
theorem dX9_fitting_1 : decode cX9_fitting 1 = .ok (.istore_n 1, 1) := by decide +kernel
theorem dX9_fitting_2 : decode cX9_fitting 2 = .ok (.aload_n 0, 1) := by decide +kernel
theorem dX9_fitting_3 : decode cX9_fitting 3 = .ok (.invokevirtual 304, 3) := by decide +kernel
theorem dX9_fitting_6 : decode cX9_fitting 6 = .ok (.iconst 0, 1) := by decide +kernel
theorem dX9_fitting_7 : decode cX9_fitting 7 = .ok (.istore_n 2, 1) := by decide +kernel
theorem dX9_fitting_8 : decode cX9_fitting 8 = .ok (.iload_n 2, 1) := by decide +kernel
theorem dX9_fitting_9 : decode cX9_fitting 9 = .ok (.aload_n 0, 1) := by decide +kernel
theorem dX9_fitting_10 : decode cX9_fitting 10 = .ok (.getfield 7, 3) := by decide +kernel
theorem dX9_fitting_13 : decode cX9_fitting 13 = .ok (.iconst 3, 1) := by decide +kernel
theorem dX9_fitting_14 : decode cX9_fitting 14 = .ok (.iaload, 1) := by decide +kernel
theorem dX9_fitting_15 : decode cX9_fitting 15 = .ok (.if_icmp .ge 39, 3) := by decide +kernel
theorem dX9_fitting_18 : decode cX9_fitting 18 = .ok (.aload_n 0, 1) := by decide +kernel
theorem dX9_fitting_19 : decode cX9_fitting 19 = .ok (.getfield 51, 3) := by decide +kernel
theorem dX9_fitting_22 : decode cX9_fitting 22 = .ok (.iload_n 2, 1) := by decide +kernel
theorem dX9_fitting_23 : decode cX9_fitting 23 = .ok (.aload_n 0, 1) := by decide +kernel
theorem dX9_fitting_24 : decode cX9_fitting 24 = .ok (.getfield 7, 3) := by decide +kernel
theorem dX9_fitting_27 : decode cX9_fitting 27 = .ok (.iconst 4, 1) := by decide +kernel
theorem dX9_fitting_28 : decode cX9_fitting 28 = .ok (.iload_n 2, 1) := by decide +kernel
theorem dX9_fitting_29 : decode cX9_fitting 29 = .ok (.iadd, 1) := by decide +kernel
theorem dX9_fitting_30 : decode cX9_fitting 30 = .ok (.iaload, 1) := by decide +kernel
theorem dX9_fitting_31 : decode cX9_fitting 31 = .ok (.iastore, 1) := by decide +kernel
theorem dX9_fitting_32 : decode cX9_fitting 32 = .ok (.iload_n 1, 1) := by decide +kernel
theorem dX9_fitting_33 : decode cX9_fitting 33 = .ok (.aload_n 0, 1) := by decide +kernel
theorem dX9_fitting_34 : decode cX9_fitting 34 = .ok (.iload_n 2, 1) := by decide +kernel
theorem dX9_fitting_35 : decode cX9_fitting 35 = .ok (.invokevirtual 307, 3) := by decide +kernel
theorem dX9_fitting_38 : decode cX9_fitting 38 = .ok (.ifCond .eq 7, 3) := by decide +kernel
theorem dX9_fitting_41 : decode cX9_fitting 41 = .ok (.iconst 1, 1) := by decide +kernel
theorem dX9_fitting_42 : decode cX9_fitting 42 = .ok (.goto 4, 3) := by decide +kernel
theorem dX9_fitting_45 : decode cX9_fitting 45 = .ok (.iconst 0, 1) := by decide +kernel
theorem dX9_fitting_46 : decode cX9_fitting 46 = .ok (.iadd, 1) := by decide +kernel
theorem dX9_fitting_47 : decode cX9_fitting 47 = .ok (.istore_n 1, 1) := by decide +kernel
theorem dX9_fitting_48 : decode cX9_fitting 48 = .ok (.iinc 2 1, 3) := by decide +kernel
theorem dX9_fitting_51 : decode cX9_fitting 51 = .ok (.goto (-43), 3) := by decide +kernel
theorem dX9_fitting_54 : decode cX9_fitting 54 = .ok (.iload_n 1, 1) := by decide +kernel
theorem dX9_fitting_55 : decode cX9_fitting 55 = .ok (.ireturn, 1) := by decide +kernel
def X9_fitting_b8 (v3 v4 : Int32) (m5 : gM) (k8 : Int32 → Int32 → gM → Option (Int32 × gM)) : Option (Int32 × gM) :=
  gAt m5 47 0 3 (fun (x6 : Int32) => if x6 ≤ v4 then (some (v3, m5)) else (gAt m5 47 0 (4 + v4) (fun (x7 : Int32) => gPut m5 58 0 v4 x7 (fun (m8 : gM) => gCall (X9_fits v4 m8) (fun (r10 : Bool) (m9 : gM) => if r10 = true then (gLet (v3 + 1) (fun (x13 : Int32) => gLet (v4 + 1) (fun (x14 : Int32) => k8 x13 x14 m9))) else (gLet (v3 + 0) (fun (x11 : Int32) => gLet (v4 + 1) (fun (x12 : Int32) => k8 x11 x12 m9))))))))
def X9_fitting (m : gM) : Option (Int32 × gM) :=
  gCall (X9_layFitted m) (fun (r2 : Unit) (m1 : gM) => gL2 FU X9_fitting_b8 0 0 m1)
set_option maxRecDepth 100000 in
set_option maxHeartbeats 4000000 in
theorem c_X9_fitting (m : gM) : gCon eI yX9_fitting cX9_fitting 3 (some .int) 4 [.inr (9, 0)] m (X9_fitting m) := by
  refine gCon.of (lv := [some (.inr (9, 0)), none, none]) (by decide +kernel) (Nat.le_of_ble_eq_true rfl) rfl (fun X C => ?_)
  unfold X9_fitting
  refine r_iconst (v := 0) C dX9_fitting_0 (by decide) ?_
  refine r_istore_n (lv' := [some (.inr (9, 0)), some (.inl 0), none]) C dX9_fitting_1 rfl (by decide) rfl ?_
  refine r_aload_n C dX9_fitting_2 rfl rfl ?_
  refine r_invU (t := 9) (kb := 0) (As := []) (st := []) C il_X9_304 co_X9_layFitted (by decide) rfl (c_X9_layFitted m) (by decide) (by decide) rfl rfl (Nat.le_of_ble_eq_true rfl) dX9_fitting_3 (fun r2 m1 => ?_)
  refine r_iconst (v := 0) C dX9_fitting_6 (by decide) ?_
  refine r_istore_n (lv' := [some (.inr (9, 0)), some (.inl 0), some (.inl 0)]) C dX9_fitting_7 rfl (by decide) rfl ?_
  refine r_weak (lv' := [some (.inr (9, 0)), some (.inl 0), some (.inl 0)]) ⟨rfl, rfl, rfl, trivial⟩ ?_
  refine r_l2 (pj := 8) (fun v3 v4 => [some (.inr (9, 0)), some (.inl v3), some (.inl v4)]) (fun v3 v4 m5 k8 hk8 => ?_) _ _ _ _
  unfold X9_fitting_b8
  refine r_iload_n C dX9_fitting_8 rfl rfl ?_
  refine r_aload_n C dX9_fitting_9 rfl rfl ?_
  refine r_get (v := .inr (47, 0)) C fl_X9_7 dX9_fitting_10 rfl ?_
  refine r_iconst (v := 3) C dX9_fitting_13 (by decide) ?_
  refine r_iald C rfl dX9_fitting_14 (fun x6 => ?_)
  refine r_icmp_ge (tgt := 54) C dX9_fitting_15 (by decide) ?_ ?_
  · refine r_iload_n C dX9_fitting_54 rfl rfl ?_
    exact r_ireturn C dX9_fitting_55
  refine r_aload_n C dX9_fitting_18 rfl rfl ?_
  refine r_get (v := .inr (58, 0)) C fl_X9_51 dX9_fitting_19 rfl ?_
  refine r_iload_n C dX9_fitting_22 rfl rfl ?_
  refine r_aload_n C dX9_fitting_23 rfl rfl ?_
  refine r_get (v := .inr (47, 0)) C fl_X9_7 dX9_fitting_24 rfl ?_
  refine r_iconst (v := 4) C dX9_fitting_27 (by decide) ?_
  refine r_iload_n C dX9_fitting_28 rfl rfl ?_
  refine r_iadd C dX9_fitting_29 ?_
  refine r_iald C rfl dX9_fitting_30 (fun x7 => ?_)
  refine r_iast C rfl dX9_fitting_31 (fun m8 => ?_)
  refine r_iload_n C dX9_fitting_32 rfl rfl ?_
  refine r_aload_n C dX9_fitting_33 rfl rfl ?_
  refine r_iload_n C dX9_fitting_34 rfl rfl ?_
  refine r_invB (t := 9) (kb := 0) (As := [.inl v4]) (st := [.inl v3]) C il_X9_307 co_X9_fits (by decide) rfl (c_X9_fits v4 m8) (by decide) (by decide) rfl rfl (Nat.le_of_ble_eq_true rfl) dX9_fitting_35 (fun r10 m9 => ?_)
  refine r_ifeqB (tgt := 45) C dX9_fitting_38 (by decide) ?_ ?_
  · refine r_iconst (v := 0) C dX9_fitting_45 (by decide) ?_
    refine r_iadd C dX9_fitting_46 ?_
    refine r_let (fun x11 => ?_)
    refine r_istore_n (lv' := [some (.inr (9, 0)), some (.inl x11), some (.inl v4)]) C dX9_fitting_47 rfl (by decide) rfl ?_
    refine r_iinc (v := 1) C dX9_fitting_48 (by decide) rfl (by decide) (fun x12 => ?_)
    show gw X eI _ [some (.inr (9, 0)), some (.inl x11), some (.inl x12)] _ _ _
    refine r_goto (tgt := 8) C dX9_fitting_51 (by decide) ?_
    exact r_weak (lv' := [some (.inr (9, 0)), some (.inl x11), some (.inl x12)]) ⟨rfl, rfl, rfl, trivial⟩ (hk8 _ _ _)
  refine r_iconst (v := 1) C dX9_fitting_41 (by decide) ?_
  refine r_goto (tgt := 46) C dX9_fitting_42 (by decide) ?_
  refine r_iadd C dX9_fitting_46 ?_
  refine r_let (fun x13 => ?_)
  refine r_istore_n (lv' := [some (.inr (9, 0)), some (.inl x13), some (.inl v4)]) C dX9_fitting_47 rfl (by decide) rfl ?_
  refine r_iinc (v := 1) C dX9_fitting_48 (by decide) rfl (by decide) (fun x14 => ?_)
  show gw X eI _ [some (.inr (9, 0)), some (.inl x13), some (.inl x14)] _ _ _
  refine r_goto (tgt := 8) C dX9_fitting_51 (by decide) ?_
  exact r_weak (lv' := [some (.inr (9, 0)), some (.inl x13), some (.inl x14)]) ⟨rfl, rfl, rfl, trivial⟩ (hk8 _ _ _)
theorem dX9_room_0 : decode cX9_room 0 = .ok (.iload_n 1, 1) := by decide +kernel
theorem dX9_room_1 : decode cX9_room 1 = .ok (.iconst 1, 1) := by decide +kernel
theorem dX9_room_2 : decode cX9_room 2 = .ok (.sipush 1023, 3) := by decide +kernel
theorem dX9_room_5 : decode cX9_room 5 = .ok (.invokestatic 77, 3) := by decide +kernel
theorem dX9_room_8 : decode cX9_room 8 = .ok (.ifCond .ne 5, 3) := by decide +kernel
theorem dX9_room_11 : decode cX9_room 11 = .ok (.iconst (-1), 1) := by decide +kernel
theorem dX9_room_12 : decode cX9_room 12 = .ok (.ireturn, 1) := by decide +kernel
theorem dX9_room_13 : decode cX9_room 13 = .ok (.iconst 0, 1) := by decide +kernel
theorem dX9_room_14 : decode cX9_room 14 = .ok (.istore_n 2, 1) := by decide +kernel
theorem dX9_room_15 : decode cX9_room 15 = .ok (.aload_n 0, 1) := by decide +kernel
theorem dX9_room_16 : decode cX9_room 16 = .ok (.invokevirtual 304, 3) := by decide +kernel
theorem dX9_room_19 : decode cX9_room 19 = .ok (.iconst 0, 1) := by decide +kernel
theorem dX9_room_20 : decode cX9_room 20 = .ok (.istore_n 3, 1) := by decide +kernel
theorem dX9_room_21 : decode cX9_room 21 = .ok (.iload_n 3, 1) := by decide +kernel
theorem dX9_room_22 : decode cX9_room 22 = .ok (.bipush 64, 2) := by decide +kernel
theorem dX9_room_24 : decode cX9_room 24 = .ok (.if_icmp .ge 89, 3) := by decide +kernel
theorem dX9_room_27 : decode cX9_room 27 = .ok (.iload_n 3, 1) := by decide +kernel
theorem dX9_room_28 : decode cX9_room 28 = .ok (.iload_n 1, 1) := by decide +kernel
theorem dX9_room_29 : decode cX9_room 29 = .ok (.imul, 1) := by decide +kernel
theorem dX9_room_30 : decode cX9_room 30 = .ok (.sipush 1024, 3) := by decide +kernel
theorem dX9_room_33 : decode cX9_room 33 = .ok (.irem, 1) := by decide +kernel
theorem dX9_room_34 : decode cX9_room 34 = .ok (.istore 4, 2) := by decide +kernel
theorem dX9_room_36 : decode cX9_room 36 = .ok (.iconst 1, 1) := by decide +kernel
theorem dX9_room_37 : decode cX9_room 37 = .ok (.istore 5, 2) := by decide +kernel
theorem dX9_room_39 : decode cX9_room 39 = .ok (.iconst 0, 1) := by decide +kernel
theorem dX9_room_40 : decode cX9_room 40 = .ok (.istore 6, 2) := by decide +kernel
theorem dX9_room_42 : decode cX9_room 42 = .ok (.iload 6, 2) := by decide +kernel
theorem dX9_room_44 : decode cX9_room 44 = .ok (.iload_n 2, 1) := by decide +kernel
theorem dX9_room_45 : decode cX9_room 45 = .ok (.if_icmp .ge 33, 3) := by decide +kernel
theorem dX9_room_48 : decode cX9_room 48 = .ok (.iload 5, 2) := by decide +kernel
theorem dX9_room_50 : decode cX9_room 50 = .ok (.ifCond .eq 19, 3) := by decide +kernel
theorem dX9_room_53 : decode cX9_room 53 = .ok (.aload_n 0, 1) := by decide +kernel
theorem dX9_room_54 : decode cX9_room 54 = .ok (.getfield 51, 3) := by decide +kernel
theorem dX9_room_57 : decode cX9_room 57 = .ok (.iload 6, 2) := by decide +kernel
theorem dX9_room_59 : decode cX9_room 59 = .ok (.iaload, 1) := by decide +kernel
theorem dX9_room_60 : decode cX9_room 60 = .ok (.iload 4, 2) := by decide +kernel
theorem dX9_room_62 : decode cX9_room 62 = .ok (.if_icmp .eq 7, 3) := by decide +kernel
theorem dX9_room_65 : decode cX9_room 65 = .ok (.iconst 1, 1) := by decide +kernel
theorem dX9_room_66 : decode cX9_room 66 = .ok (.goto 4, 3) := by decide +kernel
theorem dX9_room_69 : decode cX9_room 69 = .ok (.iconst 0, 1) := by decide +kernel
theorem dX9_room_70 : decode cX9_room 70 = .ok (.istore 5, 2) := by decide +kernel
theorem dX9_room_72 : decode cX9_room 72 = .ok (.iinc 6 1, 3) := by decide +kernel
theorem dX9_room_75 : decode cX9_room 75 = .ok (.goto (-33), 3) := by decide +kernel
theorem dX9_room_78 : decode cX9_room 78 = .ok (.iload 5, 2) := by decide +kernel
theorem dX9_room_80 : decode cX9_room 80 = .ok (.ifCond .ne 6, 3) := by decide +kernel
theorem dX9_room_83 : decode cX9_room 83 = .ok (.goto 24, 3) := by decide +kernel
theorem dX9_room_86 : decode cX9_room 86 = .ok (.aload_n 0, 1) := by decide +kernel
theorem dX9_room_87 : decode cX9_room 87 = .ok (.getfield 51, 3) := by decide +kernel
theorem dX9_room_90 : decode cX9_room 90 = .ok (.iload_n 2, 1) := by decide +kernel
theorem dX9_room_91 : decode cX9_room 91 = .ok (.iload 4, 2) := by decide +kernel
theorem dX9_room_93 : decode cX9_room 93 = .ok (.iastore, 1) := by decide +kernel
theorem dX9_room_94 : decode cX9_room 94 = .ok (.aload_n 0, 1) := by decide +kernel
theorem dX9_room_95 : decode cX9_room 95 = .ok (.iload_n 2, 1) := by decide +kernel
theorem dX9_room_96 : decode cX9_room 96 = .ok (.invokevirtual 307, 3) := by decide +kernel
theorem dX9_room_99 : decode cX9_room 99 = .ok (.ifCond .ne 5, 3) := by decide +kernel
theorem dX9_room_102 : decode cX9_room 102 = .ok (.iload_n 3, 1) := by decide +kernel
theorem dX9_room_103 : decode cX9_room 103 = .ok (.ireturn, 1) := by decide +kernel
theorem dX9_room_104 : decode cX9_room 104 = .ok (.iinc 2 1, 3) := by decide +kernel
theorem dX9_room_107 : decode cX9_room 107 = .ok (.iinc 3 1, 3) := by decide +kernel
theorem dX9_room_110 : decode cX9_room 110 = .ok (.goto (-89), 3) := by decide +kernel
theorem dX9_room_113 : decode cX9_room 113 = .ok (.bipush 64, 2) := by decide +kernel
theorem dX9_room_115 : decode cX9_room 115 = .ok (.ireturn, 1) := by decide +kernel
def X9_room_b42 (j78 : Int32 → gM → Option (Int32 × gM)) (v5 : Int32) (x8 : Int32) (v17 v18 : Int32) (m19 : gM) (k42 : Int32 → Int32 → gM → Option (Int32 × gM)) : Option (Int32 × gM) :=
  if v5 ≤ v18 then (j78 v17 m19) else (if v17 = 0 then (gLet (v18 + 1) (fun (x20 : Int32) => k42 0 x20 m19)) else (gAt m19 58 0 v18 (fun (x21 : Int32) => if x21 = x8 then (gLet (v18 + 1) (fun (x22 : Int32) => k42 0 x22 m19)) else (gLet (v18 + 1) (fun (x23 : Int32) => k42 1 x23 m19)))))
def X9_room_b21 (a1 : Int32) (v5 v6 : Int32) (m7 : gM) (k21 : Int32 → Int32 → gM → Option (Int32 × gM)) : Option (Int32 × gM) :=
  if 64 ≤ v6 then (some (64, m7)) else (gLet (gRem (v6 * a1) 1024) (fun (x8 : Int32) => gJ1 (fun (v9 : Int32) (m10 : gM) => if v9 = 0 then (gLet (v6 + 1) (fun (x16 : Int32) => k21 v5 x16 m10)) else (gPut m10 58 0 v5 x8 (fun (m11 : gM) => gCall (X9_fits v5 m11) (fun (r13 : Bool) (m12 : gM) => if r13 = true then (gLet (v5 + 1) (fun (x14 : Int32) => gLet (v6 + 1) (fun (x15 : Int32) => k21 x14 x15 m12))) else (some (v6, m12)))))) (fun (j78 : Int32 → gM → Option (Int32 × gM)) => gL2 FU (X9_room_b42 j78 v5 x8) 1 0 m7)))
def X9_room (a1 : Int32) (m : gM) : Option (Int32 × gM) :=
  gCall (X9_isIn a1 1 1023 m) (fun (r2 : Bool) (m1 : gM) => if r2 = true then (gCall (X9_layFitted m1) (fun (r4 : Unit) (m3 : gM) => gL2 FU (X9_room_b21 a1) 0 0 m3)) else (some ((-1), m1)))
set_option maxRecDepth 100000 in
set_option maxHeartbeats 4000000 in
theorem c_X9_room (a1 : Int32) (m : gM) : gCon eI yX9_room cX9_room 7 (some .int) 4 [.inr (9, 0), .inl a1] m (X9_room a1 m) := by
  refine gCon.of (lv := [some (.inr (9, 0)), some (.inl a1), none, none, none, none, none]) (by decide +kernel) (Nat.le_of_ble_eq_true rfl) rfl (fun X C => ?_)
  unfold X9_room
  refine r_iload_n C dX9_room_0 rfl rfl ?_
  refine r_iconst (v := 1) C dX9_room_1 (by decide) ?_
  refine r_sipush (v := 1023) C dX9_room_2 (by decide) ?_
  refine r_insB (As := [.inl a1, .inl 1, .inl 1023]) (st := []) C il_X9_77 co_X9_isIn (c_X9_isIn a1 1 1023 m) (by decide) (by decide) rfl rfl (Nat.le_of_ble_eq_true rfl) dX9_room_5 (fun r2 m1 => ?_)
  refine r_ifneB (tgt := 13) C dX9_room_8 (by decide) ?_ ?_
  · refine r_iconst (v := 0) C dX9_room_13 (by decide) ?_
    refine r_istore_n (lv' := [some (.inr (9, 0)), some (.inl a1), some (.inl 0), none, none, none, none]) C dX9_room_14 rfl (by decide) rfl ?_
    refine r_aload_n C dX9_room_15 rfl rfl ?_
    refine r_invU (t := 9) (kb := 0) (As := []) (st := []) C il_X9_304 co_X9_layFitted (by decide) rfl (c_X9_layFitted m1) (by decide) (by decide) rfl rfl (Nat.le_of_ble_eq_true rfl) dX9_room_16 (fun r4 m3 => ?_)
    refine r_iconst (v := 0) C dX9_room_19 (by decide) ?_
    refine r_istore_n (lv' := [some (.inr (9, 0)), some (.inl a1), some (.inl 0), some (.inl 0), none, none, none]) C dX9_room_20 rfl (by decide) rfl ?_
    refine r_weak (lv' := [some (.inr (9, 0)), some (.inl a1), some (.inl 0), some (.inl 0), none, none, none]) ⟨rfl, rfl, rfl, rfl, trivial⟩ ?_
    refine r_l2 (pj := 21) (fun v5 v6 => [some (.inr (9, 0)), some (.inl a1), some (.inl v5), some (.inl v6), none, none, none]) (fun v5 v6 m7 k21 hk21 => ?_) _ _ _ _
    unfold X9_room_b21
    refine r_iload_n C dX9_room_21 rfl rfl ?_
    refine r_bipush (v := 64) C dX9_room_22 (by decide) ?_
    refine r_icmp_ge (tgt := 113) C dX9_room_24 (by decide) ?_ ?_
    · refine r_bipush (v := 64) C dX9_room_113 (by decide) ?_
      exact r_ireturn C dX9_room_115
    refine r_iload_n C dX9_room_27 rfl rfl ?_
    refine r_iload_n C dX9_room_28 rfl rfl ?_
    refine r_imul C dX9_room_29 ?_
    refine r_sipush (v := 1024) C dX9_room_30 (by decide) ?_
    refine r_irem C dX9_room_33 (by decide) ?_
    refine r_let (fun x8 => ?_)
    refine r_istore (lv' := [some (.inr (9, 0)), some (.inl a1), some (.inl v5), some (.inl v6), some (.inl x8), none, none]) C dX9_room_34 (by decide) rfl ?_
    refine r_iconst (v := 1) C dX9_room_36 (by decide) ?_
    refine r_istore (lv' := [some (.inr (9, 0)), some (.inl a1), some (.inl v5), some (.inl v6), some (.inl x8), some (.inl 1), none]) C dX9_room_37 (by decide) rfl ?_
    refine r_iconst (v := 0) C dX9_room_39 (by decide) ?_
    refine r_istore (lv' := [some (.inr (9, 0)), some (.inl a1), some (.inl v5), some (.inl v6), some (.inl x8), some (.inl 1), some (.inl 0)]) C dX9_room_40 (by decide) rfl ?_
    refine r_j1 78 (fun v9 => [some (.inr (9, 0)), some (.inl a1), some (.inl v5), some (.inl v6), some (.inl x8), some (.inl v9), none]) (fun v9 => []) (fun v9 m10 => ?_) (fun j78 hj78 => ?_)
    · refine r_iload C dX9_room_78 rfl ?_
      refine r_if_ne (tgt := 86) C dX9_room_80 (by decide) ?_ ?_
      · refine r_aload_n C dX9_room_86 rfl rfl ?_
        refine r_get (v := .inr (58, 0)) C fl_X9_51 dX9_room_87 rfl ?_
        refine r_iload_n C dX9_room_90 rfl rfl ?_
        refine r_iload C dX9_room_91 rfl ?_
        refine r_iast C rfl dX9_room_93 (fun m11 => ?_)
        refine r_aload_n C dX9_room_94 rfl rfl ?_
        refine r_iload_n C dX9_room_95 rfl rfl ?_
        refine r_invB (t := 9) (kb := 0) (As := [.inl v5]) (st := []) C il_X9_307 co_X9_fits (by decide) rfl (c_X9_fits v5 m11) (by decide) (by decide) rfl rfl (Nat.le_of_ble_eq_true rfl) dX9_room_96 (fun r13 m12 => ?_)
        refine r_ifneB (tgt := 104) C dX9_room_99 (by decide) ?_ ?_
        · refine r_iinc (v := 1) C dX9_room_104 (by decide) rfl (by decide) (fun x14 => ?_)
          show gw X eI _ [some (.inr (9, 0)), some (.inl a1), some (.inl x14), some (.inl v6), some (.inl x8), some (.inl v9), none] _ _ _
          refine r_iinc (v := 1) C dX9_room_107 (by decide) rfl (by decide) (fun x15 => ?_)
          show gw X eI _ [some (.inr (9, 0)), some (.inl a1), some (.inl x14), some (.inl x15), some (.inl x8), some (.inl v9), none] _ _ _
          refine r_goto (tgt := 21) C dX9_room_110 (by decide) ?_
          exact r_weak (lv' := [some (.inr (9, 0)), some (.inl a1), some (.inl x14), some (.inl x15), none, none, none]) ⟨rfl, rfl, rfl, rfl, trivial⟩ (hk21 _ _ _)
        refine r_iload_n C dX9_room_102 rfl rfl ?_
        exact r_ireturn C dX9_room_103
      refine r_goto (tgt := 107) C dX9_room_83 (by decide) ?_
      refine r_iinc (v := 1) C dX9_room_107 (by decide) rfl (by decide) (fun x16 => ?_)
      show gw X eI _ [some (.inr (9, 0)), some (.inl a1), some (.inl v5), some (.inl x16), some (.inl x8), some (.inl v9), none] _ _ _
      refine r_goto (tgt := 21) C dX9_room_110 (by decide) ?_
      exact r_weak (lv' := [some (.inr (9, 0)), some (.inl a1), some (.inl v5), some (.inl x16), none, none, none]) ⟨rfl, rfl, rfl, rfl, trivial⟩ (hk21 _ _ _)
    refine r_weak (lv' := [some (.inr (9, 0)), some (.inl a1), some (.inl v5), some (.inl v6), some (.inl x8), some (.inl 1), some (.inl 0)]) ⟨rfl, rfl, rfl, rfl, rfl, rfl, rfl, trivial⟩ ?_
    refine r_l2 (pj := 42) (fun v17 v18 => [some (.inr (9, 0)), some (.inl a1), some (.inl v5), some (.inl v6), some (.inl x8), some (.inl v17), some (.inl v18)]) (fun v17 v18 m19 k42 hk42 => ?_) _ _ _ _
    unfold X9_room_b42
    refine r_iload C dX9_room_42 rfl ?_
    refine r_iload_n C dX9_room_44 rfl rfl ?_
    refine r_icmp_ge (tgt := 78) C dX9_room_45 (by decide) ?_ ?_
    · exact r_weak (lv' := [some (.inr (9, 0)), some (.inl a1), some (.inl v5), some (.inl v6), some (.inl x8), some (.inl v17), none]) ⟨rfl, rfl, rfl, rfl, rfl, rfl, trivial⟩ (hj78 _ _)
    refine r_iload C dX9_room_48 rfl ?_
    refine r_if_eq (tgt := 69) C dX9_room_50 (by decide) ?_ ?_
    · refine r_iconst (v := 0) C dX9_room_69 (by decide) ?_
      refine r_istore (lv' := [some (.inr (9, 0)), some (.inl a1), some (.inl v5), some (.inl v6), some (.inl x8), some (.inl 0), some (.inl v18)]) C dX9_room_70 (by decide) rfl ?_
      refine r_iinc (v := 1) C dX9_room_72 (by decide) rfl (by decide) (fun x20 => ?_)
      show gw X eI _ [some (.inr (9, 0)), some (.inl a1), some (.inl v5), some (.inl v6), some (.inl x8), some (.inl 0), some (.inl x20)] _ _ _
      refine r_goto (tgt := 42) C dX9_room_75 (by decide) ?_
      exact r_weak (lv' := [some (.inr (9, 0)), some (.inl a1), some (.inl v5), some (.inl v6), some (.inl x8), some (.inl 0), some (.inl x20)]) ⟨rfl, rfl, rfl, rfl, rfl, rfl, rfl, trivial⟩ (hk42 _ _ _)
    refine r_aload_n C dX9_room_53 rfl rfl ?_
    refine r_get (v := .inr (58, 0)) C fl_X9_51 dX9_room_54 rfl ?_
    refine r_iload C dX9_room_57 rfl ?_
    refine r_iald C rfl dX9_room_59 (fun x21 => ?_)
    refine r_iload C dX9_room_60 rfl ?_
    refine r_icmp_eq (tgt := 69) C dX9_room_62 (by decide) ?_ ?_
    · refine r_iconst (v := 0) C dX9_room_69 (by decide) ?_
      refine r_istore (lv' := [some (.inr (9, 0)), some (.inl a1), some (.inl v5), some (.inl v6), some (.inl x8), some (.inl 0), some (.inl v18)]) C dX9_room_70 (by decide) rfl ?_
      refine r_iinc (v := 1) C dX9_room_72 (by decide) rfl (by decide) (fun x22 => ?_)
      show gw X eI _ [some (.inr (9, 0)), some (.inl a1), some (.inl v5), some (.inl v6), some (.inl x8), some (.inl 0), some (.inl x22)] _ _ _
      refine r_goto (tgt := 42) C dX9_room_75 (by decide) ?_
      exact r_weak (lv' := [some (.inr (9, 0)), some (.inl a1), some (.inl v5), some (.inl v6), some (.inl x8), some (.inl 0), some (.inl x22)]) ⟨rfl, rfl, rfl, rfl, rfl, rfl, rfl, trivial⟩ (hk42 _ _ _)
    refine r_iconst (v := 1) C dX9_room_65 (by decide) ?_
    refine r_goto (tgt := 70) C dX9_room_66 (by decide) ?_
    refine r_istore (lv' := [some (.inr (9, 0)), some (.inl a1), some (.inl v5), some (.inl v6), some (.inl x8), some (.inl 1), some (.inl v18)]) C dX9_room_70 (by decide) rfl ?_
    refine r_iinc (v := 1) C dX9_room_72 (by decide) rfl (by decide) (fun x23 => ?_)
    show gw X eI _ [some (.inr (9, 0)), some (.inl a1), some (.inl v5), some (.inl v6), some (.inl x8), some (.inl 1), some (.inl x23)] _ _ _
    refine r_goto (tgt := 42) C dX9_room_75 (by decide) ?_
    exact r_weak (lv' := [some (.inr (9, 0)), some (.inl a1), some (.inl v5), some (.inl v6), some (.inl x8), some (.inl 1), some (.inl x23)]) ⟨rfl, rfl, rfl, rfl, rfl, rfl, rfl, trivial⟩ (hk42 _ _ _)
  refine r_iconst (v := (-1)) C dX9_room_11 (by decide) ?_
  exact r_ireturn C dX9_room_12
theorem dX9_crowd_0 : decode cX9_crowd 0 = .ok (.aload_n 0, 1) := by decide +kernel
theorem dX9_crowd_1 : decode cX9_crowd 1 = .ok (.iload_n 1, 1) := by decide +kernel
theorem dX9_crowd_2 : decode cX9_crowd 2 = .ok (.invokevirtual 228, 3) := by decide +kernel
theorem dX9_crowd_5 : decode cX9_crowd 5 = .ok (.ifCond .ne 5, 3) := by decide +kernel
theorem dX9_crowd_8 : decode cX9_crowd 8 = .ok (.iconst (-1), 1) := by decide +kernel
theorem dX9_crowd_9 : decode cX9_crowd 9 = .ok (.ireturn, 1) := by decide +kernel
theorem dX9_crowd_10 : decode cX9_crowd 10 = .ok (.iconst 0, 1) := by decide +kernel
theorem dX9_crowd_11 : decode cX9_crowd 11 = .ok (.istore_n 3, 1) := by decide +kernel
theorem dX9_crowd_12 : decode cX9_crowd 12 = .ok (.iconst 0, 1) := by decide +kernel
theorem dX9_crowd_13 : decode cX9_crowd 13 = .ok (.istore 4, 2) := by decide +kernel
theorem dX9_crowd_15 : decode cX9_crowd 15 = .ok (.iload 4, 2) := by decide +kernel
theorem dX9_crowd_17 : decode cX9_crowd 17 = .ok (.bipush 16, 2) := by decide +kernel
theorem dX9_crowd_19 : decode cX9_crowd 19 = .ok (.if_icmp .ge 17, 3) := by decide +kernel
theorem dX9_crowd_22 : decode cX9_crowd 22 = .ok (.aload_n 0, 1) := by decide +kernel
theorem dX9_crowd_23 : decode cX9_crowd 23 = .ok (.getfield 48, 3) := by decide +kernel
theorem dX9_crowd_26 : decode cX9_crowd 26 = .ok (.iload 4, 2) := by decide +kernel
theorem dX9_crowd_28 : decode cX9_crowd 28 = .ok (.iconst 0, 1) := by decide +kernel
theorem dX9_crowd_29 : decode cX9_crowd 29 = .ok (.iastore, 1) := by decide +kernel
theorem dX9_crowd_30 : decode cX9_crowd 30 = .ok (.iinc 4 1, 3) := by decide +kernel
theorem dX9_crowd_33 : decode cX9_crowd 33 = .ok (.goto (-18), 3) := by decide +kernel
theorem dX9_crowd_36 : decode cX9_crowd 36 = .ok (.iconst 0, 1) := by decide +kernel
theorem dX9_crowd_37 : decode cX9_crowd 37 = .ok (.istore 4, 2) := by decide +kernel
theorem dX9_crowd_39 : decode cX9_crowd 39 = .ok (.iload 4, 2) := by decide +kernel
theorem dX9_crowd_41 : decode cX9_crowd 41 = .ok (.aload_n 0, 1) := by decide +kernel
theorem dX9_crowd_42 : decode cX9_crowd 42 = .ok (.getfield 7, 3) := by decide +kernel
theorem dX9_crowd_45 : decode cX9_crowd 45 = .ok (.iconst 3, 1) := by decide +kernel
theorem dX9_crowd_46 : decode cX9_crowd 46 = .ok (.iaload, 1) := by decide +kernel
theorem dX9_crowd_47 : decode cX9_crowd 47 = .ok (.if_icmp .ge 32, 3) := by decide +kernel
theorem dX9_crowd_50 : decode cX9_crowd 50 = .ok (.aload_n 0, 1) := by decide +kernel
theorem dX9_crowd_51 : decode cX9_crowd 51 = .ok (.getfield 48, 3) := by decide +kernel
theorem dX9_crowd_54 : decode cX9_crowd 54 = .ok (.aload_n 0, 1) := by decide +kernel
theorem dX9_crowd_55 : decode cX9_crowd 55 = .ok (.aload_n 0, 1) := by decide +kernel
theorem dX9_crowd_56 : decode cX9_crowd 56 = .ok (.getfield 7, 3) := by decide +kernel
theorem dX9_crowd_59 : decode cX9_crowd 59 = .ok (.iconst 4, 1) := by decide +kernel
theorem dX9_crowd_60 : decode cX9_crowd 60 = .ok (.iload 4, 2) := by decide +kernel
theorem dX9_crowd_62 : decode cX9_crowd 62 = .ok (.iadd, 1) := by decide +kernel
theorem dX9_crowd_63 : decode cX9_crowd 63 = .ok (.iaload, 1) := by decide +kernel
theorem dX9_crowd_64 : decode cX9_crowd 64 = .ok (.iload_n 1, 1) := by decide +kernel
theorem dX9_crowd_65 : decode cX9_crowd 65 = .ok (.invokevirtual 93, 3) := by decide +kernel
theorem dX9_crowd_68 : decode cX9_crowd 68 = .ok (.dup2, 1) := by decide +kernel
theorem dX9_crowd_69 : decode cX9_crowd 69 = .ok (.iaload, 1) := by decide +kernel
theorem dX9_crowd_70 : decode cX9_crowd 70 = .ok (.iconst 1, 1) := by decide +kernel
theorem dX9_crowd_71 : decode cX9_crowd 71 = .ok (.iadd, 1) := by decide +kernel
theorem dX9_crowd_72 : decode cX9_crowd 72 = .ok (.iastore, 1) := by decide +kernel
theorem dX9_crowd_73 : decode cX9_crowd 73 = .ok (.iinc 4 1, 3) := by decide +kernel
theorem dX9_crowd_76 : decode cX9_crowd 76 = .ok (.goto (-37), 3) := by decide +kernel
theorem dX9_crowd_79 : decode cX9_crowd 79 = .ok (.iconst 1, 1) := by decide +kernel
theorem dX9_crowd_80 : decode cX9_crowd 80 = .ok (.istore 4, 2) := by decide +kernel
theorem dX9_crowd_82 : decode cX9_crowd 82 = .ok (.iload 4, 2) := by decide +kernel
theorem dX9_crowd_84 : decode cX9_crowd 84 = .ok (.aload_n 0, 1) := by decide +kernel
theorem dX9_crowd_85 : decode cX9_crowd 85 = .ok (.invokevirtual 81, 3) := by decide +kernel
theorem dX9_crowd_88 : decode cX9_crowd 88 = .ok (.if_icmp .ge 28, 3) := by decide +kernel
theorem dX9_crowd_91 : decode cX9_crowd 91 = .ok (.aload_n 0, 1) := by decide +kernel
theorem dX9_crowd_92 : decode cX9_crowd 92 = .ok (.getfield 48, 3) := by decide +kernel
theorem dX9_crowd_95 : decode cX9_crowd 95 = .ok (.iload 4, 2) := by decide +kernel
theorem dX9_crowd_97 : decode cX9_crowd 97 = .ok (.iaload, 1) := by decide +kernel
theorem dX9_crowd_98 : decode cX9_crowd 98 = .ok (.aload_n 0, 1) := by decide +kernel
theorem dX9_crowd_99 : decode cX9_crowd 99 = .ok (.getfield 48, 3) := by decide +kernel
theorem dX9_crowd_102 : decode cX9_crowd 102 = .ok (.iload_n 3, 1) := by decide +kernel
theorem dX9_crowd_103 : decode cX9_crowd 103 = .ok (.iaload, 1) := by decide +kernel
theorem dX9_crowd_104 : decode cX9_crowd 104 = .ok (.if_icmp .le 6, 3) := by decide +kernel
theorem dX9_crowd_107 : decode cX9_crowd 107 = .ok (.iload 4, 2) := by decide +kernel
theorem dX9_crowd_109 : decode cX9_crowd 109 = .ok (.istore_n 3, 1) := by decide +kernel
theorem dX9_crowd_110 : decode cX9_crowd 110 = .ok (.iinc 4 1, 3) := by decide +kernel
theorem dX9_crowd_113 : decode cX9_crowd 113 = .ok (.goto (-31), 3) := by decide +kernel
theorem dX9_crowd_116 : decode cX9_crowd 116 = .ok (.iload_n 2, 1) := by decide +kernel
theorem dX9_crowd_117 : decode cX9_crowd 117 = .ok (.ifCond .eq 12, 3) := by decide +kernel
theorem dX9_crowd_120 : decode cX9_crowd 120 = .ok (.aload_n 0, 1) := by decide +kernel
theorem dX9_crowd_121 : decode cX9_crowd 121 = .ok (.getfield 48, 3) := by decide +kernel
theorem dX9_crowd_124 : decode cX9_crowd 124 = .ok (.iload_n 3, 1) := by decide +kernel
theorem dX9_crowd_125 : decode cX9_crowd 125 = .ok (.iaload, 1) := by decide +kernel
theorem dX9_crowd_126 : decode cX9_crowd 126 = .ok (.goto 4, 3) := by decide +kernel
theorem dX9_crowd_129 : decode cX9_crowd 129 = .ok (.iload_n 3, 1) := by decide +kernel
theorem dX9_crowd_130 : decode cX9_crowd 130 = .ok (.ireturn, 1) := by decide +kernel
def X9_crowd_b82 (j116 : Int32 → gM → Option (Int32 × gM)) (v8 v9 : Int32) (m10 : gM) (k82 : Int32 → Int32 → gM → Option (Int32 × gM)) : Option (Int32 × gM) :=
  gCall (X9_slotsOf m10) (fun (r12 : Int32) (m11 : gM) => if r12 ≤ v9 then (j116 v8 m11) else (gAt m11 57 0 v9 (fun (x13 : Int32) => gAt m11 57 0 v8 (fun (x14 : Int32) => if x13 ≤ x14 then (gLet (v9 + 1) (fun (x15 : Int32) => k82 v8 x15 m11)) else (gLet (v9 + 1) (fun (x16 : Int32) => k82 v9 x16 m11))))))
def X9_crowd_b39 (a1 : Int32) (j79 : gM → Option (Int32 × gM)) (v17 : Int32) (m18 : gM) (k39 : Int32 → gM → Option (Int32 × gM)) : Option (Int32 × gM) :=
  gAt m18 47 0 3 (fun (x19 : Int32) => if x19 ≤ v17 then (j79 m18) else (gAt m18 47 0 (4 + v17) (fun (x20 : Int32) => gCall (X9_indexOf x20 a1 m18) (fun (r22 : Int32) (m21 : gM) => gAt m21 57 0 r22 (fun (x23 : Int32) => gPut m21 57 0 r22 (x23 + 1) (fun (m24 : gM) => gLet (v17 + 1) (fun (x25 : Int32) => k39 x25 m24)))))))
def X9_crowd_b15 (j36 : gM → Option (Int32 × gM)) (v26 : Int32) (m27 : gM) (k15 : Int32 → gM → Option (Int32 × gM)) : Option (Int32 × gM) :=
  if 16 ≤ v26 then (j36 m27) else (gPut m27 57 0 v26 0 (fun (m28 : gM) => gLet (v26 + 1) (fun (x29 : Int32) => k15 x29 m28)))
def X9_crowd (a1 : Int32) (a2 : Int32) (m : gM) : Option (Int32 × gM) :=
  gCall (X9_isWay a1 m) (fun (r2 : Bool) (m1 : gM) => if r2 = true then (gJ0 (fun (m3 : gM) => gJ0 (fun (m4 : gM) => gJ1 (fun (v5 : Int32) (m6 : gM) => if a2 = 0 then (some (v5, m6)) else (gAt m6 57 0 v5 (fun (x7 : Int32) => some (x7, m6)))) (fun (j116 : Int32 → gM → Option (Int32 × gM)) => gL2 FU (X9_crowd_b82 j116) 0 1 m4)) (fun (j79 : gM → Option (Int32 × gM)) => gL1 FU (X9_crowd_b39 a1 j79) 0 m3)) (fun (j36 : gM → Option (Int32 × gM)) => gL1 FU (X9_crowd_b15 j36) 0 m1)) else (some ((-1), m1)))
set_option maxRecDepth 100000 in
set_option maxHeartbeats 4000000 in
theorem c_X9_crowd (a1 : Int32) (a2 : Int32) (m : gM) : gCon eI yX9_crowd cX9_crowd 5 (some .int) 2 [.inr (9, 0), .inl a1, .inl a2] m (X9_crowd a1 a2 m) := by
  refine gCon.of (lv := [some (.inr (9, 0)), some (.inl a1), some (.inl a2), none, none]) (by decide +kernel) (Nat.le_of_ble_eq_true rfl) rfl (fun X C => ?_)
  unfold X9_crowd
  refine r_aload_n C dX9_crowd_0 rfl rfl ?_
  refine r_iload_n C dX9_crowd_1 rfl rfl ?_
  refine r_invB (t := 9) (kb := 0) (As := [.inl a1]) (st := []) C il_X9_228 co_X9_isWay (by decide) rfl (c_X9_isWay a1 m) (by decide) (by decide) rfl rfl (Nat.le_of_ble_eq_true rfl) dX9_crowd_2 (fun r2 m1 => ?_)
  refine r_ifneB (tgt := 10) C dX9_crowd_5 (by decide) ?_ ?_
  · refine r_iconst (v := 0) C dX9_crowd_10 (by decide) ?_
    refine r_istore_n (lv' := [some (.inr (9, 0)), some (.inl a1), some (.inl a2), some (.inl 0), none]) C dX9_crowd_11 rfl (by decide) rfl ?_
    refine r_iconst (v := 0) C dX9_crowd_12 (by decide) ?_
    refine r_istore (lv' := [some (.inr (9, 0)), some (.inl a1), some (.inl a2), some (.inl 0), some (.inl 0)]) C dX9_crowd_13 (by decide) rfl ?_
    refine r_j0 36 [some (.inr (9, 0)), some (.inl a1), some (.inl a2), some (.inl 0), none] [] (fun m3 => ?_) (fun j36 hj36 => ?_)
    · refine r_iconst (v := 0) C dX9_crowd_36 (by decide) ?_
      refine r_istore (lv' := [some (.inr (9, 0)), some (.inl a1), some (.inl a2), some (.inl 0), some (.inl 0)]) C dX9_crowd_37 (by decide) rfl ?_
      refine r_j0 79 [some (.inr (9, 0)), none, some (.inl a2), some (.inl 0), none] [] (fun m4 => ?_) (fun j79 hj79 => ?_)
      · refine r_iconst (v := 1) C dX9_crowd_79 (by decide) ?_
        refine r_istore (lv' := [some (.inr (9, 0)), none, some (.inl a2), some (.inl 0), some (.inl 1)]) C dX9_crowd_80 (by decide) rfl ?_
        refine r_j1 116 (fun v5 => [some (.inr (9, 0)), none, some (.inl a2), some (.inl v5), none]) (fun v5 => []) (fun v5 m6 => ?_) (fun j116 hj116 => ?_)
        · refine r_iload_n C dX9_crowd_116 rfl rfl ?_
          refine r_if_eq (tgt := 129) C dX9_crowd_117 (by decide) ?_ ?_
          · refine r_iload_n C dX9_crowd_129 rfl rfl ?_
            exact r_ireturn C dX9_crowd_130
          refine r_aload_n C dX9_crowd_120 rfl rfl ?_
          refine r_get (v := .inr (57, 0)) C fl_X9_48 dX9_crowd_121 rfl ?_
          refine r_iload_n C dX9_crowd_124 rfl rfl ?_
          refine r_iald C rfl dX9_crowd_125 (fun x7 => ?_)
          refine r_goto (tgt := 130) C dX9_crowd_126 (by decide) ?_
          exact r_ireturn C dX9_crowd_130
        refine r_weak (lv' := [some (.inr (9, 0)), none, some (.inl a2), some (.inl 0), some (.inl 1)]) ⟨rfl, rfl, rfl, rfl, trivial⟩ ?_
        refine r_l2 (pj := 82) (fun v8 v9 => [some (.inr (9, 0)), none, some (.inl a2), some (.inl v8), some (.inl v9)]) (fun v8 v9 m10 k82 hk82 => ?_) _ _ _ _
        unfold X9_crowd_b82
        refine r_iload C dX9_crowd_82 rfl ?_
        refine r_aload_n C dX9_crowd_84 rfl rfl ?_
        refine r_invI (t := 9) (kb := 0) (As := []) (st := [.inl v9]) C il_X9_81 co_X9_slotsOf (by decide) rfl (c_X9_slotsOf m10) (by decide) (by decide) rfl rfl (Nat.le_of_ble_eq_true rfl) dX9_crowd_85 (fun r12 m11 => ?_)
        refine r_icmp_ge (tgt := 116) C dX9_crowd_88 (by decide) ?_ ?_
        · exact r_weak (lv' := [some (.inr (9, 0)), none, some (.inl a2), some (.inl v8), none]) ⟨rfl, rfl, rfl, trivial⟩ (hj116 _ _)
        refine r_aload_n C dX9_crowd_91 rfl rfl ?_
        refine r_get (v := .inr (57, 0)) C fl_X9_48 dX9_crowd_92 rfl ?_
        refine r_iload C dX9_crowd_95 rfl ?_
        refine r_iald C rfl dX9_crowd_97 (fun x13 => ?_)
        refine r_aload_n C dX9_crowd_98 rfl rfl ?_
        refine r_get (v := .inr (57, 0)) C fl_X9_48 dX9_crowd_99 rfl ?_
        refine r_iload_n C dX9_crowd_102 rfl rfl ?_
        refine r_iald C rfl dX9_crowd_103 (fun x14 => ?_)
        refine r_icmp_le (tgt := 110) C dX9_crowd_104 (by decide) ?_ ?_
        · refine r_iinc (v := 1) C dX9_crowd_110 (by decide) rfl (by decide) (fun x15 => ?_)
          show gw X eI _ [some (.inr (9, 0)), none, some (.inl a2), some (.inl v8), some (.inl x15)] _ _ _
          refine r_goto (tgt := 82) C dX9_crowd_113 (by decide) ?_
          exact r_weak (lv' := [some (.inr (9, 0)), none, some (.inl a2), some (.inl v8), some (.inl x15)]) ⟨rfl, rfl, rfl, rfl, trivial⟩ (hk82 _ _ _)
        refine r_iload C dX9_crowd_107 rfl ?_
        refine r_istore_n (lv' := [some (.inr (9, 0)), none, some (.inl a2), some (.inl v9), some (.inl v9)]) C dX9_crowd_109 rfl (by decide) rfl ?_
        refine r_iinc (v := 1) C dX9_crowd_110 (by decide) rfl (by decide) (fun x16 => ?_)
        show gw X eI _ [some (.inr (9, 0)), none, some (.inl a2), some (.inl v9), some (.inl x16)] _ _ _
        refine r_goto (tgt := 82) C dX9_crowd_113 (by decide) ?_
        exact r_weak (lv' := [some (.inr (9, 0)), none, some (.inl a2), some (.inl v9), some (.inl x16)]) ⟨rfl, rfl, rfl, rfl, trivial⟩ (hk82 _ _ _)
      refine r_weak (lv' := [some (.inr (9, 0)), some (.inl a1), some (.inl a2), some (.inl 0), some (.inl 0)]) ⟨rfl, rfl, rfl, rfl, rfl, trivial⟩ ?_
      refine r_l1 (pj := 39) (fun v17 => [some (.inr (9, 0)), some (.inl a1), some (.inl a2), some (.inl 0), some (.inl v17)]) (fun v17 m18 k39 hk39 => ?_) _ _ _
      unfold X9_crowd_b39
      refine r_iload C dX9_crowd_39 rfl ?_
      refine r_aload_n C dX9_crowd_41 rfl rfl ?_
      refine r_get (v := .inr (47, 0)) C fl_X9_7 dX9_crowd_42 rfl ?_
      refine r_iconst (v := 3) C dX9_crowd_45 (by decide) ?_
      refine r_iald C rfl dX9_crowd_46 (fun x19 => ?_)
      refine r_icmp_ge (tgt := 79) C dX9_crowd_47 (by decide) ?_ ?_
      · exact r_weak (lv' := [some (.inr (9, 0)), none, some (.inl a2), some (.inl 0), none]) ⟨rfl, rfl, rfl, trivial⟩ (hj79 _)
      refine r_aload_n C dX9_crowd_50 rfl rfl ?_
      refine r_get (v := .inr (57, 0)) C fl_X9_48 dX9_crowd_51 rfl ?_
      refine r_aload_n C dX9_crowd_54 rfl rfl ?_
      refine r_aload_n C dX9_crowd_55 rfl rfl ?_
      refine r_get (v := .inr (47, 0)) C fl_X9_7 dX9_crowd_56 rfl ?_
      refine r_iconst (v := 4) C dX9_crowd_59 (by decide) ?_
      refine r_iload C dX9_crowd_60 rfl ?_
      refine r_iadd C dX9_crowd_62 ?_
      refine r_iald C rfl dX9_crowd_63 (fun x20 => ?_)
      refine r_iload_n C dX9_crowd_64 rfl rfl ?_
      refine r_invI (t := 9) (kb := 0) (As := [.inl x20, .inl a1]) (st := [.inr (57, 0)]) C il_X9_93 co_X9_indexOf (by decide) rfl (c_X9_indexOf x20 a1 m18) (by decide) (by decide) rfl rfl (Nat.le_of_ble_eq_true rfl) dX9_crowd_65 (fun r22 m21 => ?_)
      refine r_dup2 C dX9_crowd_68 ?_
      refine r_iald C rfl dX9_crowd_69 (fun x23 => ?_)
      refine r_iconst (v := 1) C dX9_crowd_70 (by decide) ?_
      refine r_iadd C dX9_crowd_71 ?_
      refine r_iast C rfl dX9_crowd_72 (fun m24 => ?_)
      refine r_iinc (v := 1) C dX9_crowd_73 (by decide) rfl (by decide) (fun x25 => ?_)
      show gw X eI _ [some (.inr (9, 0)), some (.inl a1), some (.inl a2), some (.inl 0), some (.inl x25)] _ _ _
      refine r_goto (tgt := 39) C dX9_crowd_76 (by decide) ?_
      exact r_weak (lv' := [some (.inr (9, 0)), some (.inl a1), some (.inl a2), some (.inl 0), some (.inl x25)]) ⟨rfl, rfl, rfl, rfl, rfl, trivial⟩ (hk39 _ _)
    refine r_weak (lv' := [some (.inr (9, 0)), some (.inl a1), some (.inl a2), some (.inl 0), some (.inl 0)]) ⟨rfl, rfl, rfl, rfl, rfl, trivial⟩ ?_
    refine r_l1 (pj := 15) (fun v26 => [some (.inr (9, 0)), some (.inl a1), some (.inl a2), some (.inl 0), some (.inl v26)]) (fun v26 m27 k15 hk15 => ?_) _ _ _
    unfold X9_crowd_b15
    refine r_iload C dX9_crowd_15 rfl ?_
    refine r_bipush (v := 16) C dX9_crowd_17 (by decide) ?_
    refine r_icmp_ge (tgt := 36) C dX9_crowd_19 (by decide) ?_ ?_
    · exact r_weak (lv' := [some (.inr (9, 0)), some (.inl a1), some (.inl a2), some (.inl 0), none]) ⟨rfl, rfl, rfl, rfl, trivial⟩ (hj36 _)
    refine r_aload_n C dX9_crowd_22 rfl rfl ?_
    refine r_get (v := .inr (57, 0)) C fl_X9_48 dX9_crowd_23 rfl ?_
    refine r_iload C dX9_crowd_26 rfl ?_
    refine r_iconst (v := 0) C dX9_crowd_28 (by decide) ?_
    refine r_iast C rfl dX9_crowd_29 (fun m28 => ?_)
    refine r_iinc (v := 1) C dX9_crowd_30 (by decide) rfl (by decide) (fun x29 => ?_)
    show gw X eI _ [some (.inr (9, 0)), some (.inl a1), some (.inl a2), some (.inl 0), some (.inl x29)] _ _ _
    refine r_goto (tgt := 15) C dX9_crowd_33 (by decide) ?_
    exact r_weak (lv' := [some (.inr (9, 0)), some (.inl a1), some (.inl a2), some (.inl 0), some (.inl x29)]) ⟨rfl, rfl, rfl, rfl, rfl, trivial⟩ (hk15 _ _)
  refine r_iconst (v := (-1)) C dX9_crowd_8 (by decide) ?_
  exact r_ireturn C dX9_crowd_9
theorem dX9_fittingPlainly_0 : decode cX9_fittingPlainly 0 = .ok (.aload_n 0, 1) := by decide +kernel
theorem dX9_fittingPlainly_1 : decode cX9_fittingPlainly 1 = .ok (.invokevirtual 310, 3) := by decide +kernel
theorem dX9_fittingPlainly_4 : decode cX9_fittingPlainly 4 = .ok (.aload_n 0, 1) := by decide +kernel
theorem dX9_fittingPlainly_5 : decode cX9_fittingPlainly 5 = .ok (.iconst 0, 1) := by decide +kernel
theorem dX9_fittingPlainly_6 : decode cX9_fittingPlainly 6 = .ok (.invokevirtual 69, 3) := by decide +kernel
theorem dX9_fittingPlainly_9 : decode cX9_fittingPlainly 9 = .ok (.aload_n 0, 1) := by decide +kernel
theorem dX9_fittingPlainly_10 : decode cX9_fittingPlainly 10 = .ok (.invokevirtual 313, 3) := by decide +kernel
theorem dX9_fittingPlainly_13 : decode cX9_fittingPlainly 13 = .ok (.istore_n 1, 1) := by decide +kernel
theorem dX9_fittingPlainly_14 : decode cX9_fittingPlainly 14 = .ok (.aload_n 0, 1) := by decide +kernel
theorem dX9_fittingPlainly_15 : decode cX9_fittingPlainly 15 = .ok (.invokevirtual 316, 3) := by decide +kernel
theorem dX9_fittingPlainly_18 : decode cX9_fittingPlainly 18 = .ok (.iload_n 1, 1) := by decide +kernel
theorem dX9_fittingPlainly_19 : decode cX9_fittingPlainly 19 = .ok (.ireturn, 1) := by decide +kernel
def X9_fittingPlainly (m : gM) : Option (Int32 × gM) :=
  gCall (X9_putAside m) (fun (r2 : Unit) (m1 : gM) => gCall (X9_layFamily 0 m1) (fun (r4 : Unit) (m3 : gM) => gCall (X9_fitting m3) (fun (r6 : Int32) (m5 : gM) => gCall (X9_bringBack m5) (fun (r8 : Unit) (m7 : gM) => some (r6, m7)))))
set_option maxRecDepth 100000 in
set_option maxHeartbeats 4000000 in
theorem c_X9_fittingPlainly (m : gM) : gCon eI yX9_fittingPlainly cX9_fittingPlainly 2 (some .int) 5 [.inr (9, 0)] m (X9_fittingPlainly m) := by
  refine gCon.of (lv := [some (.inr (9, 0)), none]) (by decide +kernel) (Nat.le_of_ble_eq_true rfl) rfl (fun X C => ?_)
  unfold X9_fittingPlainly
  refine r_aload_n C dX9_fittingPlainly_0 rfl rfl ?_
  refine r_invU (t := 9) (kb := 0) (As := []) (st := []) C il_X9_310 co_X9_putAside (by decide) rfl (c_X9_putAside m) (by decide) (by decide) rfl rfl (Nat.le_of_ble_eq_true rfl) dX9_fittingPlainly_1 (fun r2 m1 => ?_)
  refine r_aload_n C dX9_fittingPlainly_4 rfl rfl ?_
  refine r_iconst (v := 0) C dX9_fittingPlainly_5 (by decide) ?_
  refine r_invU (t := 9) (kb := 0) (As := [.inl 0]) (st := []) C il_X9_69 co_X9_layFamily (by decide) rfl (c_X9_layFamily 0 m1) (by decide) (by decide) rfl rfl (Nat.le_of_ble_eq_true rfl) dX9_fittingPlainly_6 (fun r4 m3 => ?_)
  refine r_aload_n C dX9_fittingPlainly_9 rfl rfl ?_
  refine r_invI (t := 9) (kb := 0) (As := []) (st := []) C il_X9_313 co_X9_fitting (by decide) rfl (c_X9_fitting m3) (by decide) (by decide) rfl rfl (Nat.le_of_ble_eq_true rfl) dX9_fittingPlainly_10 (fun r6 m5 => ?_)
  refine r_istore_n (lv' := [some (.inr (9, 0)), some (.inl r6)]) C dX9_fittingPlainly_13 rfl (by decide) rfl ?_
  refine r_aload_n C dX9_fittingPlainly_14 rfl rfl ?_
  refine r_invU (t := 9) (kb := 0) (As := []) (st := []) C il_X9_316 co_X9_bringBack (by decide) rfl (c_X9_bringBack m5) (by decide) (by decide) rfl rfl (Nat.le_of_ble_eq_true rfl) dX9_fittingPlainly_15 (fun r8 m7 => ?_)
  refine r_iload_n C dX9_fittingPlainly_18 rfl rfl ?_
  exact r_ireturn C dX9_fittingPlainly_19
theorem dX9_pieceOf_0 : decode cX9_pieceOf 0 = .ok (.iconst 1, 1) := by decide +kernel
theorem dX9_pieceOf_1 : decode cX9_pieceOf 1 = .ok (.iload_n 1, 1) := by decide +kernel
theorem dX9_pieceOf_2 : decode cX9_pieceOf 2 = .ok (.ishl, 1) := by decide +kernel
theorem dX9_pieceOf_3 : decode cX9_pieceOf 3 = .ok (.istore_n 2, 1) := by decide +kernel
theorem dX9_pieceOf_4 : decode cX9_pieceOf 4 = .ok (.iconst 0, 1) := by decide +kernel
theorem dX9_pieceOf_5 : decode cX9_pieceOf 5 = .ok (.istore_n 3, 1) := by decide +kernel
theorem dX9_pieceOf_6 : decode cX9_pieceOf 6 = .ok (.iload_n 3, 1) := by decide +kernel
theorem dX9_pieceOf_7 : decode cX9_pieceOf 7 = .ok (.iload_n 2, 1) := by decide +kernel
theorem dX9_pieceOf_8 : decode cX9_pieceOf 8 = .ok (.if_icmp .eq 90, 3) := by decide +kernel
theorem dX9_pieceOf_11 : decode cX9_pieceOf 11 = .ok (.iload_n 2, 1) := by decide +kernel
theorem dX9_pieceOf_12 : decode cX9_pieceOf 12 = .ok (.istore_n 3, 1) := by decide +kernel
theorem dX9_pieceOf_13 : decode cX9_pieceOf 13 = .ok (.iconst 0, 1) := by decide +kernel
theorem dX9_pieceOf_14 : decode cX9_pieceOf 14 = .ok (.istore 4, 2) := by decide +kernel
theorem dX9_pieceOf_16 : decode cX9_pieceOf 16 = .ok (.iload 4, 2) := by decide +kernel
theorem dX9_pieceOf_18 : decode cX9_pieceOf 18 = .ok (.aload_n 0, 1) := by decide +kernel
theorem dX9_pieceOf_19 : decode cX9_pieceOf 19 = .ok (.getfield 7, 3) := by decide +kernel
theorem dX9_pieceOf_22 : decode cX9_pieceOf 22 = .ok (.iconst 3, 1) := by decide +kernel
theorem dX9_pieceOf_23 : decode cX9_pieceOf 23 = .ok (.iaload, 1) := by decide +kernel
theorem dX9_pieceOf_24 : decode cX9_pieceOf 24 = .ok (.if_icmp .ge 71, 3) := by decide +kernel
theorem dX9_pieceOf_27 : decode cX9_pieceOf 27 = .ok (.iconst 0, 1) := by decide +kernel
theorem dX9_pieceOf_28 : decode cX9_pieceOf 28 = .ok (.istore 5, 2) := by decide +kernel
theorem dX9_pieceOf_30 : decode cX9_pieceOf 30 = .ok (.iload 5, 2) := by decide +kernel
theorem dX9_pieceOf_32 : decode cX9_pieceOf 32 = .ok (.aload_n 0, 1) := by decide +kernel
theorem dX9_pieceOf_33 : decode cX9_pieceOf 33 = .ok (.getfield 7, 3) := by decide +kernel
theorem dX9_pieceOf_36 : decode cX9_pieceOf 36 = .ok (.iconst 3, 1) := by decide +kernel
theorem dX9_pieceOf_37 : decode cX9_pieceOf 37 = .ok (.iaload, 1) := by decide +kernel
theorem dX9_pieceOf_38 : decode cX9_pieceOf 38 = .ok (.if_icmp .ge 51, 3) := by decide +kernel
theorem dX9_pieceOf_41 : decode cX9_pieceOf 41 = .ok (.iload_n 3, 1) := by decide +kernel
theorem dX9_pieceOf_42 : decode cX9_pieceOf 42 = .ok (.iload 4, 2) := by decide +kernel
theorem dX9_pieceOf_44 : decode cX9_pieceOf 44 = .ok (.ishr, 1) := by decide +kernel
theorem dX9_pieceOf_45 : decode cX9_pieceOf 45 = .ok (.iconst 1, 1) := by decide +kernel
theorem dX9_pieceOf_46 : decode cX9_pieceOf 46 = .ok (.iand, 1) := by decide +kernel
theorem dX9_pieceOf_47 : decode cX9_pieceOf 47 = .ok (.iconst 1, 1) := by decide +kernel
theorem dX9_pieceOf_48 : decode cX9_pieceOf 48 = .ok (.if_icmp .ne 35, 3) := by decide +kernel
theorem dX9_pieceOf_51 : decode cX9_pieceOf 51 = .ok (.aload_n 0, 1) := by decide +kernel
theorem dX9_pieceOf_52 : decode cX9_pieceOf 52 = .ok (.aload_n 0, 1) := by decide +kernel
theorem dX9_pieceOf_53 : decode cX9_pieceOf 53 = .ok (.getfield 7, 3) := by decide +kernel
theorem dX9_pieceOf_56 : decode cX9_pieceOf 56 = .ok (.iconst 4, 1) := by decide +kernel
theorem dX9_pieceOf_57 : decode cX9_pieceOf 57 = .ok (.iload 4, 2) := by decide +kernel
theorem dX9_pieceOf_59 : decode cX9_pieceOf 59 = .ok (.iadd, 1) := by decide +kernel
theorem dX9_pieceOf_60 : decode cX9_pieceOf 60 = .ok (.iaload, 1) := by decide +kernel
theorem dX9_pieceOf_61 : decode cX9_pieceOf 61 = .ok (.aload_n 0, 1) := by decide +kernel
theorem dX9_pieceOf_62 : decode cX9_pieceOf 62 = .ok (.getfield 7, 3) := by decide +kernel
theorem dX9_pieceOf_65 : decode cX9_pieceOf 65 = .ok (.iconst 4, 1) := by decide +kernel
theorem dX9_pieceOf_66 : decode cX9_pieceOf 66 = .ok (.iload 5, 2) := by decide +kernel
theorem dX9_pieceOf_68 : decode cX9_pieceOf 68 = .ok (.iadd, 1) := by decide +kernel
theorem dX9_pieceOf_69 : decode cX9_pieceOf 69 = .ok (.iaload, 1) := by decide +kernel
theorem dX9_pieceOf_70 : decode cX9_pieceOf 70 = .ok (.invokevirtual 273, 3) := by decide +kernel
theorem dX9_pieceOf_73 : decode cX9_pieceOf 73 = .ok (.ifCond .le 10, 3) := by decide +kernel
theorem dX9_pieceOf_76 : decode cX9_pieceOf 76 = .ok (.iload_n 2, 1) := by decide +kernel
theorem dX9_pieceOf_77 : decode cX9_pieceOf 77 = .ok (.iconst 1, 1) := by decide +kernel
theorem dX9_pieceOf_78 : decode cX9_pieceOf 78 = .ok (.iload 5, 2) := by decide +kernel
theorem dX9_pieceOf_80 : decode cX9_pieceOf 80 = .ok (.ishl, 1) := by decide +kernel
theorem dX9_pieceOf_81 : decode cX9_pieceOf 81 = .ok (.ior, 1) := by decide +kernel
theorem dX9_pieceOf_82 : decode cX9_pieceOf 82 = .ok (.istore_n 2, 1) := by decide +kernel
theorem dX9_pieceOf_83 : decode cX9_pieceOf 83 = .ok (.iinc 5 1, 3) := by decide +kernel
theorem dX9_pieceOf_86 : decode cX9_pieceOf 86 = .ok (.goto (-56), 3) := by decide +kernel
theorem dX9_pieceOf_89 : decode cX9_pieceOf 89 = .ok (.iinc 4 1, 3) := by decide +kernel
theorem dX9_pieceOf_92 : decode cX9_pieceOf 92 = .ok (.goto (-76), 3) := by decide +kernel
theorem dX9_pieceOf_95 : decode cX9_pieceOf 95 = .ok (.goto (-89), 3) := by decide +kernel
theorem dX9_pieceOf_98 : decode cX9_pieceOf 98 = .ok (.iload_n 2, 1) := by decide +kernel
theorem dX9_pieceOf_99 : decode cX9_pieceOf 99 = .ok (.ireturn, 1) := by decide +kernel
def X9_pieceOf_b30 (k16 : Int32 → Int32 → gM → Option (Int32 × gM)) (v2 : Int32) (v6 : Int32) (v9 v10 : Int32) (m11 : gM) (k30 : Int32 → Int32 → gM → Option (Int32 × gM)) : Option (Int32 × gM) :=
  gAt m11 47 0 3 (fun (x12 : Int32) => if x12 ≤ v10 then (gLet (v6 + 1) (fun (x13 : Int32) => k16 v9 x13 m11)) else (if ((v2 >>> (v6 &&& 31)) &&& 1) = 1 then (gAt m11 47 0 (4 + v6) (fun (x15 : Int32) => gAt m11 47 0 (4 + v10) (fun (x16 : Int32) => gCall (X9_togetherIn x15 x16 m11) (fun (r18 : Int32) (m17 : gM) => if r18 ≤ 0 then (gLet (v10 + 1) (fun (x19 : Int32) => k30 v9 x19 m17)) else (gLet (v9 ||| (1 <<< (v10 &&& 31))) (fun (x20 : Int32) => gLet (v10 + 1) (fun (x21 : Int32) => k30 x20 x21 m17))))))) else (gLet (v10 + 1) (fun (x14 : Int32) => k30 v9 x14 m11))))
def X9_pieceOf_b16 (k6 : Int32 → Int32 → gM → Option (Int32 × gM)) (v2 : Int32) (v5 v6 : Int32) (m7 : gM) (k16 : Int32 → Int32 → gM → Option (Int32 × gM)) : Option (Int32 × gM) :=
  gAt m7 47 0 3 (fun (x8 : Int32) => if x8 ≤ v6 then (k6 v5 v2 m7) else (gL2 FU (X9_pieceOf_b30 k16 v2 v6) v5 0 m7))
def X9_pieceOf_b6 (v2 v3 : Int32) (m4 : gM) (k6 : Int32 → Int32 → gM → Option (Int32 × gM)) : Option (Int32 × gM) :=
  if v3 = v2 then (some (v2, m4)) else (gL2 FU (X9_pieceOf_b16 k6 v2) v2 0 m4)
def X9_pieceOf (a1 : Int32) (m : gM) : Option (Int32 × gM) :=
  gLet (1 <<< (a1 &&& 31)) (fun (x1 : Int32) => gL2 FU X9_pieceOf_b6 x1 0 m)
set_option maxRecDepth 100000 in
set_option maxHeartbeats 4000000 in
theorem c_X9_pieceOf (a1 : Int32) (m : gM) : gCon eI yX9_pieceOf cX9_pieceOf 6 (some .int) 3 [.inr (9, 0), .inl a1] m (X9_pieceOf a1 m) := by
  refine gCon.of (lv := [some (.inr (9, 0)), some (.inl a1), none, none, none, none]) (by decide +kernel) (Nat.le_of_ble_eq_true rfl) rfl (fun X C => ?_)
  unfold X9_pieceOf
  refine r_iconst (v := 1) C dX9_pieceOf_0 (by decide) ?_
  refine r_iload_n C dX9_pieceOf_1 rfl rfl ?_
  refine r_ishl C dX9_pieceOf_2 ?_
  refine r_let (fun x1 => ?_)
  refine r_istore_n (lv' := [some (.inr (9, 0)), some (.inl a1), some (.inl x1), none, none, none]) C dX9_pieceOf_3 rfl (by decide) rfl ?_
  refine r_iconst (v := 0) C dX9_pieceOf_4 (by decide) ?_
  refine r_istore_n (lv' := [some (.inr (9, 0)), some (.inl a1), some (.inl x1), some (.inl 0), none, none]) C dX9_pieceOf_5 rfl (by decide) rfl ?_
  refine r_weak (lv' := [some (.inr (9, 0)), none, some (.inl x1), some (.inl 0), none, none]) ⟨rfl, rfl, rfl, trivial⟩ ?_
  refine r_l2 (pj := 6) (fun v2 v3 => [some (.inr (9, 0)), none, some (.inl v2), some (.inl v3), none, none]) (fun v2 v3 m4 k6 hk6 => ?_) _ _ _ _
  unfold X9_pieceOf_b6
  refine r_iload_n C dX9_pieceOf_6 rfl rfl ?_
  refine r_iload_n C dX9_pieceOf_7 rfl rfl ?_
  refine r_icmp_eq (tgt := 98) C dX9_pieceOf_8 (by decide) ?_ ?_
  · refine r_iload_n C dX9_pieceOf_98 rfl rfl ?_
    exact r_ireturn C dX9_pieceOf_99
  refine r_iload_n C dX9_pieceOf_11 rfl rfl ?_
  refine r_istore_n (lv' := [some (.inr (9, 0)), none, some (.inl v2), some (.inl v2), none, none]) C dX9_pieceOf_12 rfl (by decide) rfl ?_
  refine r_iconst (v := 0) C dX9_pieceOf_13 (by decide) ?_
  refine r_istore (lv' := [some (.inr (9, 0)), none, some (.inl v2), some (.inl v2), some (.inl 0), none]) C dX9_pieceOf_14 (by decide) rfl ?_
  refine r_weak (lv' := [some (.inr (9, 0)), none, some (.inl v2), some (.inl v2), some (.inl 0), none]) ⟨rfl, rfl, rfl, rfl, trivial⟩ ?_
  refine r_l2 (pj := 16) (fun v5 v6 => [some (.inr (9, 0)), none, some (.inl v5), some (.inl v2), some (.inl v6), none]) (fun v5 v6 m7 k16 hk16 => ?_) _ _ _ _
  unfold X9_pieceOf_b16
  refine r_iload C dX9_pieceOf_16 rfl ?_
  refine r_aload_n C dX9_pieceOf_18 rfl rfl ?_
  refine r_get (v := .inr (47, 0)) C fl_X9_7 dX9_pieceOf_19 rfl ?_
  refine r_iconst (v := 3) C dX9_pieceOf_22 (by decide) ?_
  refine r_iald C rfl dX9_pieceOf_23 (fun x8 => ?_)
  refine r_icmp_ge (tgt := 95) C dX9_pieceOf_24 (by decide) ?_ ?_
  · refine r_goto (tgt := 6) C dX9_pieceOf_95 (by decide) ?_
    exact r_weak (lv' := [some (.inr (9, 0)), none, some (.inl v5), some (.inl v2), none, none]) ⟨rfl, rfl, rfl, trivial⟩ (hk6 _ _ _)
  refine r_iconst (v := 0) C dX9_pieceOf_27 (by decide) ?_
  refine r_istore (lv' := [some (.inr (9, 0)), none, some (.inl v5), some (.inl v2), some (.inl v6), some (.inl 0)]) C dX9_pieceOf_28 (by decide) rfl ?_
  refine r_weak (lv' := [some (.inr (9, 0)), none, some (.inl v5), some (.inl v2), some (.inl v6), some (.inl 0)]) ⟨rfl, rfl, rfl, rfl, rfl, trivial⟩ ?_
  refine r_l2 (pj := 30) (fun v9 v10 => [some (.inr (9, 0)), none, some (.inl v9), some (.inl v2), some (.inl v6), some (.inl v10)]) (fun v9 v10 m11 k30 hk30 => ?_) _ _ _ _
  unfold X9_pieceOf_b30
  refine r_iload C dX9_pieceOf_30 rfl ?_
  refine r_aload_n C dX9_pieceOf_32 rfl rfl ?_
  refine r_get (v := .inr (47, 0)) C fl_X9_7 dX9_pieceOf_33 rfl ?_
  refine r_iconst (v := 3) C dX9_pieceOf_36 (by decide) ?_
  refine r_iald C rfl dX9_pieceOf_37 (fun x12 => ?_)
  refine r_icmp_ge (tgt := 89) C dX9_pieceOf_38 (by decide) ?_ ?_
  · refine r_iinc (v := 1) C dX9_pieceOf_89 (by decide) rfl (by decide) (fun x13 => ?_)
    show gw X eI _ [some (.inr (9, 0)), none, some (.inl v9), some (.inl v2), some (.inl x13), some (.inl v10)] _ _ _
    refine r_goto (tgt := 16) C dX9_pieceOf_92 (by decide) ?_
    exact r_weak (lv' := [some (.inr (9, 0)), none, some (.inl v9), some (.inl v2), some (.inl x13), none]) ⟨rfl, rfl, rfl, rfl, trivial⟩ (hk16 _ _ _)
  refine r_iload_n C dX9_pieceOf_41 rfl rfl ?_
  refine r_iload C dX9_pieceOf_42 rfl ?_
  refine r_ishr C dX9_pieceOf_44 ?_
  refine r_iconst (v := 1) C dX9_pieceOf_45 (by decide) ?_
  refine r_iand C dX9_pieceOf_46 ?_
  refine r_iconst (v := 1) C dX9_pieceOf_47 (by decide) ?_
  refine r_icmp_ne (tgt := 83) C dX9_pieceOf_48 (by decide) ?_ ?_
  · refine r_iinc (v := 1) C dX9_pieceOf_83 (by decide) rfl (by decide) (fun x14 => ?_)
    show gw X eI _ [some (.inr (9, 0)), none, some (.inl v9), some (.inl v2), some (.inl v6), some (.inl x14)] _ _ _
    refine r_goto (tgt := 30) C dX9_pieceOf_86 (by decide) ?_
    exact r_weak (lv' := [some (.inr (9, 0)), none, some (.inl v9), some (.inl v2), some (.inl v6), some (.inl x14)]) ⟨rfl, rfl, rfl, rfl, rfl, trivial⟩ (hk30 _ _ _)
  refine r_aload_n C dX9_pieceOf_51 rfl rfl ?_
  refine r_aload_n C dX9_pieceOf_52 rfl rfl ?_
  refine r_get (v := .inr (47, 0)) C fl_X9_7 dX9_pieceOf_53 rfl ?_
  refine r_iconst (v := 4) C dX9_pieceOf_56 (by decide) ?_
  refine r_iload C dX9_pieceOf_57 rfl ?_
  refine r_iadd C dX9_pieceOf_59 ?_
  refine r_iald C rfl dX9_pieceOf_60 (fun x15 => ?_)
  refine r_aload_n C dX9_pieceOf_61 rfl rfl ?_
  refine r_get (v := .inr (47, 0)) C fl_X9_7 dX9_pieceOf_62 rfl ?_
  refine r_iconst (v := 4) C dX9_pieceOf_65 (by decide) ?_
  refine r_iload C dX9_pieceOf_66 rfl ?_
  refine r_iadd C dX9_pieceOf_68 ?_
  refine r_iald C rfl dX9_pieceOf_69 (fun x16 => ?_)
  refine r_invI (t := 9) (kb := 0) (As := [.inl x15, .inl x16]) (st := []) C il_X9_273 co_X9_togetherIn (by decide) rfl (c_X9_togetherIn x15 x16 m11) (by decide) (by decide) rfl rfl (Nat.le_of_ble_eq_true rfl) dX9_pieceOf_70 (fun r18 m17 => ?_)
  refine r_if_le (tgt := 83) C dX9_pieceOf_73 (by decide) ?_ ?_
  · refine r_iinc (v := 1) C dX9_pieceOf_83 (by decide) rfl (by decide) (fun x19 => ?_)
    show gw X eI _ [some (.inr (9, 0)), none, some (.inl v9), some (.inl v2), some (.inl v6), some (.inl x19)] _ _ _
    refine r_goto (tgt := 30) C dX9_pieceOf_86 (by decide) ?_
    exact r_weak (lv' := [some (.inr (9, 0)), none, some (.inl v9), some (.inl v2), some (.inl v6), some (.inl x19)]) ⟨rfl, rfl, rfl, rfl, rfl, trivial⟩ (hk30 _ _ _)
  refine r_iload_n C dX9_pieceOf_76 rfl rfl ?_
  refine r_iconst (v := 1) C dX9_pieceOf_77 (by decide) ?_
  refine r_iload C dX9_pieceOf_78 rfl ?_
  refine r_ishl C dX9_pieceOf_80 ?_
  refine r_ior C dX9_pieceOf_81 ?_
  refine r_let (fun x20 => ?_)
  refine r_istore_n (lv' := [some (.inr (9, 0)), none, some (.inl x20), some (.inl v2), some (.inl v6), some (.inl v10)]) C dX9_pieceOf_82 rfl (by decide) rfl ?_
  refine r_iinc (v := 1) C dX9_pieceOf_83 (by decide) rfl (by decide) (fun x21 => ?_)
  show gw X eI _ [some (.inr (9, 0)), none, some (.inl x20), some (.inl v2), some (.inl v6), some (.inl x21)] _ _ _
  refine r_goto (tgt := 30) C dX9_pieceOf_86 (by decide) ?_
  exact r_weak (lv' := [some (.inr (9, 0)), none, some (.inl x20), some (.inl v2), some (.inl v6), some (.inl x21)]) ⟨rfl, rfl, rfl, rfl, rfl, trivial⟩ (hk30 _ _ _)
theorem dX9_pieces_0 : decode cX9_pieces 0 = .ok (.iconst 0, 1) := by decide +kernel
theorem dX9_pieces_1 : decode cX9_pieces 1 = .ok (.istore_n 1, 1) := by decide +kernel
theorem dX9_pieces_2 : decode cX9_pieces 2 = .ok (.iconst 0, 1) := by decide +kernel
theorem dX9_pieces_3 : decode cX9_pieces 3 = .ok (.istore_n 2, 1) := by decide +kernel
theorem dX9_pieces_4 : decode cX9_pieces 4 = .ok (.iconst 0, 1) := by decide +kernel
theorem dX9_pieces_5 : decode cX9_pieces 5 = .ok (.istore_n 3, 1) := by decide +kernel
theorem dX9_pieces_6 : decode cX9_pieces 6 = .ok (.iload_n 3, 1) := by decide +kernel
theorem dX9_pieces_7 : decode cX9_pieces 7 = .ok (.aload_n 0, 1) := by decide +kernel
theorem dX9_pieces_8 : decode cX9_pieces 8 = .ok (.getfield 7, 3) := by decide +kernel
theorem dX9_pieces_11 : decode cX9_pieces 11 = .ok (.iconst 3, 1) := by decide +kernel
theorem dX9_pieces_12 : decode cX9_pieces 12 = .ok (.iaload, 1) := by decide +kernel
theorem dX9_pieces_13 : decode cX9_pieces 13 = .ok (.if_icmp .ge 32, 3) := by decide +kernel
theorem dX9_pieces_16 : decode cX9_pieces 16 = .ok (.iload_n 2, 1) := by decide +kernel
theorem dX9_pieces_17 : decode cX9_pieces 17 = .ok (.iload_n 3, 1) := by decide +kernel
theorem dX9_pieces_18 : decode cX9_pieces 18 = .ok (.ishr, 1) := by decide +kernel
theorem dX9_pieces_19 : decode cX9_pieces 19 = .ok (.iconst 1, 1) := by decide +kernel
theorem dX9_pieces_20 : decode cX9_pieces 20 = .ok (.iand, 1) := by decide +kernel
theorem dX9_pieces_21 : decode cX9_pieces 21 = .ok (.iconst 1, 1) := by decide +kernel
theorem dX9_pieces_22 : decode cX9_pieces 22 = .ok (.if_icmp .ne 6, 3) := by decide +kernel
theorem dX9_pieces_25 : decode cX9_pieces 25 = .ok (.goto 14, 3) := by decide +kernel
theorem dX9_pieces_28 : decode cX9_pieces 28 = .ok (.iload_n 2, 1) := by decide +kernel
theorem dX9_pieces_29 : decode cX9_pieces 29 = .ok (.aload_n 0, 1) := by decide +kernel
theorem dX9_pieces_30 : decode cX9_pieces 30 = .ok (.iload_n 3, 1) := by decide +kernel
theorem dX9_pieces_31 : decode cX9_pieces 31 = .ok (.invokevirtual 319, 3) := by decide +kernel
theorem dX9_pieces_34 : decode cX9_pieces 34 = .ok (.ior, 1) := by decide +kernel
theorem dX9_pieces_35 : decode cX9_pieces 35 = .ok (.istore_n 2, 1) := by decide +kernel
theorem dX9_pieces_36 : decode cX9_pieces 36 = .ok (.iinc 1 1, 3) := by decide +kernel
theorem dX9_pieces_39 : decode cX9_pieces 39 = .ok (.iinc 3 1, 3) := by decide +kernel
theorem dX9_pieces_42 : decode cX9_pieces 42 = .ok (.goto (-36), 3) := by decide +kernel
theorem dX9_pieces_45 : decode cX9_pieces 45 = .ok (.iload_n 1, 1) := by decide +kernel
theorem dX9_pieces_46 : decode cX9_pieces 46 = .ok (.ireturn, 1) := by decide +kernel
def X9_pieces_b6 (v1 v2 v3 : Int32) (m4 : gM) (k6 : Int32 → Int32 → Int32 → gM → Option (Int32 × gM)) : Option (Int32 × gM) :=
  gAt m4 47 0 3 (fun (x5 : Int32) => if x5 ≤ v3 then (some (v1, m4)) else (if ((v2 >>> (v3 &&& 31)) &&& 1) = 1 then (gLet (v3 + 1) (fun (x11 : Int32) => k6 v1 v2 x11 m4)) else (gCall (X9_pieceOf v3 m4) (fun (r7 : Int32) (m6 : gM) => gLet (v2 ||| r7) (fun (x8 : Int32) => gLet (v1 + 1) (fun (x9 : Int32) => gLet (v3 + 1) (fun (x10 : Int32) => k6 x9 x8 x10 m6)))))))
def X9_pieces (m : gM) : Option (Int32 × gM) :=
  gL3 FU X9_pieces_b6 0 0 0 m
set_option maxRecDepth 100000 in
set_option maxHeartbeats 4000000 in
theorem c_X9_pieces (m : gM) : gCon eI yX9_pieces cX9_pieces 4 (some .int) 4 [.inr (9, 0)] m (X9_pieces m) := by
  refine gCon.of (lv := [some (.inr (9, 0)), none, none, none]) (by decide +kernel) (Nat.le_of_ble_eq_true rfl) rfl (fun X C => ?_)
  unfold X9_pieces
  refine r_iconst (v := 0) C dX9_pieces_0 (by decide) ?_
  refine r_istore_n (lv' := [some (.inr (9, 0)), some (.inl 0), none, none]) C dX9_pieces_1 rfl (by decide) rfl ?_
  refine r_iconst (v := 0) C dX9_pieces_2 (by decide) ?_
  refine r_istore_n (lv' := [some (.inr (9, 0)), some (.inl 0), some (.inl 0), none]) C dX9_pieces_3 rfl (by decide) rfl ?_
  refine r_iconst (v := 0) C dX9_pieces_4 (by decide) ?_
  refine r_istore_n (lv' := [some (.inr (9, 0)), some (.inl 0), some (.inl 0), some (.inl 0)]) C dX9_pieces_5 rfl (by decide) rfl ?_
  refine r_weak (lv' := [some (.inr (9, 0)), some (.inl 0), some (.inl 0), some (.inl 0)]) ⟨rfl, rfl, rfl, rfl, trivial⟩ ?_
  refine r_l3 (pj := 6) (fun v1 v2 v3 => [some (.inr (9, 0)), some (.inl v1), some (.inl v2), some (.inl v3)]) (fun v1 v2 v3 m4 k6 hk6 => ?_) _ _ _ _ _
  unfold X9_pieces_b6
  refine r_iload_n C dX9_pieces_6 rfl rfl ?_
  refine r_aload_n C dX9_pieces_7 rfl rfl ?_
  refine r_get (v := .inr (47, 0)) C fl_X9_7 dX9_pieces_8 rfl ?_
  refine r_iconst (v := 3) C dX9_pieces_11 (by decide) ?_
  refine r_iald C rfl dX9_pieces_12 (fun x5 => ?_)
  refine r_icmp_ge (tgt := 45) C dX9_pieces_13 (by decide) ?_ ?_
  · refine r_iload_n C dX9_pieces_45 rfl rfl ?_
    exact r_ireturn C dX9_pieces_46
  refine r_iload_n C dX9_pieces_16 rfl rfl ?_
  refine r_iload_n C dX9_pieces_17 rfl rfl ?_
  refine r_ishr C dX9_pieces_18 ?_
  refine r_iconst (v := 1) C dX9_pieces_19 (by decide) ?_
  refine r_iand C dX9_pieces_20 ?_
  refine r_iconst (v := 1) C dX9_pieces_21 (by decide) ?_
  refine r_icmp_ne (tgt := 28) C dX9_pieces_22 (by decide) ?_ ?_
  · refine r_iload_n C dX9_pieces_28 rfl rfl ?_
    refine r_aload_n C dX9_pieces_29 rfl rfl ?_
    refine r_iload_n C dX9_pieces_30 rfl rfl ?_
    refine r_invI (t := 9) (kb := 0) (As := [.inl v3]) (st := [.inl v2]) C il_X9_319 co_X9_pieceOf (by decide) rfl (c_X9_pieceOf v3 m4) (by decide) (by decide) rfl rfl (Nat.le_of_ble_eq_true rfl) dX9_pieces_31 (fun r7 m6 => ?_)
    refine r_ior C dX9_pieces_34 ?_
    refine r_let (fun x8 => ?_)
    refine r_istore_n (lv' := [some (.inr (9, 0)), some (.inl v1), some (.inl x8), some (.inl v3)]) C dX9_pieces_35 rfl (by decide) rfl ?_
    refine r_iinc (v := 1) C dX9_pieces_36 (by decide) rfl (by decide) (fun x9 => ?_)
    show gw X eI _ [some (.inr (9, 0)), some (.inl x9), some (.inl x8), some (.inl v3)] _ _ _
    refine r_iinc (v := 1) C dX9_pieces_39 (by decide) rfl (by decide) (fun x10 => ?_)
    show gw X eI _ [some (.inr (9, 0)), some (.inl x9), some (.inl x8), some (.inl x10)] _ _ _
    refine r_goto (tgt := 6) C dX9_pieces_42 (by decide) ?_
    exact r_weak (lv' := [some (.inr (9, 0)), some (.inl x9), some (.inl x8), some (.inl x10)]) ⟨rfl, rfl, rfl, rfl, trivial⟩ (hk6 _ _ _ _)
  refine r_goto (tgt := 39) C dX9_pieces_25 (by decide) ?_
  refine r_iinc (v := 1) C dX9_pieces_39 (by decide) rfl (by decide) (fun x11 => ?_)
  show gw X eI _ [some (.inr (9, 0)), some (.inl v1), some (.inl v2), some (.inl x11)] _ _ _
  refine r_goto (tgt := 6) C dX9_pieces_42 (by decide) ?_
  exact r_weak (lv' := [some (.inr (9, 0)), some (.inl v1), some (.inl v2), some (.inl x11)]) ⟨rfl, rfl, rfl, rfl, trivial⟩ (hk6 _ _ _ _)
theorem dX9_piece_0 : decode cX9_piece 0 = .ok (.aload_n 0, 1) := by decide +kernel
theorem dX9_piece_1 : decode cX9_piece 1 = .ok (.iload_n 1, 1) := by decide +kernel
theorem dX9_piece_2 : decode cX9_piece 2 = .ok (.invokevirtual 261, 3) := by decide +kernel
theorem dX9_piece_5 : decode cX9_piece 5 = .ok (.istore_n 2, 1) := by decide +kernel
theorem dX9_piece_6 : decode cX9_piece 6 = .ok (.iload_n 2, 1) := by decide +kernel
theorem dX9_piece_7 : decode cX9_piece 7 = .ok (.iconst (-1), 1) := by decide +kernel
theorem dX9_piece_8 : decode cX9_piece 8 = .ok (.if_icmp .ne 7, 3) := by decide +kernel
theorem dX9_piece_11 : decode cX9_piece 11 = .ok (.iconst (-1), 1) := by decide +kernel
theorem dX9_piece_12 : decode cX9_piece 12 = .ok (.goto 11, 3) := by decide +kernel
theorem dX9_piece_15 : decode cX9_piece 15 = .ok (.aload_n 0, 1) := by decide +kernel
theorem dX9_piece_16 : decode cX9_piece 16 = .ok (.iload_n 2, 1) := by decide +kernel
theorem dX9_piece_17 : decode cX9_piece 17 = .ok (.invokevirtual 319, 3) := by decide +kernel
theorem dX9_piece_20 : decode cX9_piece 20 = .ok (.invokestatic 89, 3) := by decide +kernel
theorem dX9_piece_23 : decode cX9_piece 23 = .ok (.ireturn, 1) := by decide +kernel
def X9_piece (a1 : Int32) (m : gM) : Option (Int32 × gM) :=
  gCall (X9_gatheredAt a1 m) (fun (r2 : Int32) (m1 : gM) => if r2 = (-1) then (some ((-1), m1)) else (gCall (X9_pieceOf r2 m1) (fun (r4 : Int32) (m3 : gM) => gCall (X9_many r4 m3) (fun (r6 : Int32) (m5 : gM) => some (r6, m5)))))
set_option maxRecDepth 100000 in
set_option maxHeartbeats 4000000 in
theorem c_X9_piece (a1 : Int32) (m : gM) : gCon eI yX9_piece cX9_piece 3 (some .int) 4 [.inr (9, 0), .inl a1] m (X9_piece a1 m) := by
  refine gCon.of (lv := [some (.inr (9, 0)), some (.inl a1), none]) (by decide +kernel) (Nat.le_of_ble_eq_true rfl) rfl (fun X C => ?_)
  unfold X9_piece
  refine r_aload_n C dX9_piece_0 rfl rfl ?_
  refine r_iload_n C dX9_piece_1 rfl rfl ?_
  refine r_invI (t := 9) (kb := 0) (As := [.inl a1]) (st := []) C il_X9_261 co_X9_gatheredAt (by decide) rfl (c_X9_gatheredAt a1 m) (by decide) (by decide) rfl rfl (Nat.le_of_ble_eq_true rfl) dX9_piece_2 (fun r2 m1 => ?_)
  refine r_istore_n (lv' := [some (.inr (9, 0)), some (.inl a1), some (.inl r2)]) C dX9_piece_5 rfl (by decide) rfl ?_
  refine r_iload_n C dX9_piece_6 rfl rfl ?_
  refine r_iconst (v := (-1)) C dX9_piece_7 (by decide) ?_
  refine r_icmp_ne (tgt := 15) C dX9_piece_8 (by decide) ?_ ?_
  · refine r_aload_n C dX9_piece_15 rfl rfl ?_
    refine r_iload_n C dX9_piece_16 rfl rfl ?_
    refine r_invI (t := 9) (kb := 0) (As := [.inl r2]) (st := []) C il_X9_319 co_X9_pieceOf (by decide) rfl (c_X9_pieceOf r2 m1) (by decide) (by decide) rfl rfl (Nat.le_of_ble_eq_true rfl) dX9_piece_17 (fun r4 m3 => ?_)
    refine r_insI (As := [.inl r4]) (st := []) C il_X9_89 co_X9_many (c_X9_many r4 m3) (by decide) (by decide) rfl rfl (Nat.le_of_ble_eq_true rfl) dX9_piece_20 (fun r6 m5 => ?_)
    exact r_ireturn C dX9_piece_23
  refine r_iconst (v := (-1)) C dX9_piece_11 (by decide) ?_
  refine r_goto (tgt := 23) C dX9_piece_12 (by decide) ?_
  exact r_ireturn C dX9_piece_23
theorem dX9_reach_0 : decode cX9_reach 0 = .ok (.iload_n 1, 1) := by decide +kernel
theorem dX9_reach_1 : decode cX9_reach 1 = .ok (.invokestatic 212, 3) := by decide +kernel
theorem dX9_reach_4 : decode cX9_reach 4 = .ok (.ifCond .eq 12, 3) := by decide +kernel
theorem dX9_reach_7 : decode cX9_reach 7 = .ok (.iload_n 2, 1) := by decide +kernel
theorem dX9_reach_8 : decode cX9_reach 8 = .ok (.iconst 0, 1) := by decide +kernel
theorem dX9_reach_9 : decode cX9_reach 9 = .ok (.iconst 3, 1) := by decide +kernel
theorem dX9_reach_10 : decode cX9_reach 10 = .ok (.invokestatic 77, 3) := by decide +kernel
theorem dX9_reach_13 : decode cX9_reach 13 = .ok (.ifCond .ne 5, 3) := by decide +kernel
theorem dX9_reach_16 : decode cX9_reach 16 = .ok (.iconst (-1), 1) := by decide +kernel
theorem dX9_reach_17 : decode cX9_reach 17 = .ok (.ireturn, 1) := by decide +kernel
theorem dX9_reach_18 : decode cX9_reach 18 = .ok (.aload_n 0, 1) := by decide +kernel
theorem dX9_reach_19 : decode cX9_reach 19 = .ok (.iload_n 1, 1) := by decide +kernel
theorem dX9_reach_20 : decode cX9_reach 20 = .ok (.iload_n 2, 1) := by decide +kernel
theorem dX9_reach_21 : decode cX9_reach 21 = .ok (.invokevirtual 193, 3) := by decide +kernel
theorem dX9_reach_24 : decode cX9_reach 24 = .ok (.aload_n 0, 1) := by decide +kernel
theorem dX9_reach_25 : decode cX9_reach 25 = .ok (.getfield 171, 3) := by decide +kernel
theorem dX9_reach_28 : decode cX9_reach 28 = .ok (.ireturn, 1) := by decide +kernel
def X9_reach (a1 : Int32) (a2 : Int32) (m : gM) : Option (Int32 × gM) :=
  gCall (X9_isLine a1 m) (fun (r2 : Bool) (m1 : gM) => if r2 = true then (gCall (X9_isIn a2 0 3 m1) (fun (r4 : Bool) (m3 : gM) => if r4 = true then (gCall (X9_layFound a1 a2 m3) (fun (r6 : Unit) (m5 : gM) => some ((m5 9 0 18), m5))) else (some ((-1), m3)))) else (some ((-1), m1)))
set_option maxRecDepth 100000 in
set_option maxHeartbeats 4000000 in
theorem c_X9_reach (a1 : Int32) (a2 : Int32) (m : gM) : gCon eI yX9_reach cX9_reach 3 (some .int) 5 [.inr (9, 0), .inl a1, .inl a2] m (X9_reach a1 a2 m) := by
  refine gCon.of (lv := [some (.inr (9, 0)), some (.inl a1), some (.inl a2)]) (by decide +kernel) (Nat.le_of_ble_eq_true rfl) rfl (fun X C => ?_)
  unfold X9_reach
  refine r_iload_n C dX9_reach_0 rfl rfl ?_
  refine r_insB (As := [.inl a1]) (st := []) C il_X9_212 co_X9_isLine (c_X9_isLine a1 m) (by decide) (by decide) rfl rfl (Nat.le_of_ble_eq_true rfl) dX9_reach_1 (fun r2 m1 => ?_)
  refine r_ifeqB (tgt := 16) C dX9_reach_4 (by decide) ?_ ?_
  · refine r_iconst (v := (-1)) C dX9_reach_16 (by decide) ?_
    exact r_ireturn C dX9_reach_17
  refine r_iload_n C dX9_reach_7 rfl rfl ?_
  refine r_iconst (v := 0) C dX9_reach_8 (by decide) ?_
  refine r_iconst (v := 3) C dX9_reach_9 (by decide) ?_
  refine r_insB (As := [.inl a2, .inl 0, .inl 3]) (st := []) C il_X9_77 co_X9_isIn (c_X9_isIn a2 0 3 m1) (by decide) (by decide) rfl rfl (Nat.le_of_ble_eq_true rfl) dX9_reach_10 (fun r4 m3 => ?_)
  refine r_ifneB (tgt := 18) C dX9_reach_13 (by decide) ?_ ?_
  · refine r_aload_n C dX9_reach_18 rfl rfl ?_
    refine r_iload_n C dX9_reach_19 rfl rfl ?_
    refine r_iload_n C dX9_reach_20 rfl rfl ?_
    refine r_invU (t := 9) (kb := 0) (As := [.inl a1, .inl a2]) (st := []) C il_X9_193 co_X9_layFound (by decide) rfl (c_X9_layFound a1 a2 m3) (by decide) (by decide) rfl rfl (Nat.le_of_ble_eq_true rfl) dX9_reach_21 (fun r6 m5 => ?_)
    refine r_aload_n C dX9_reach_24 rfl rfl ?_
    refine r_get (v := .inl (m5 9 0 18)) C fl_X9_171 dX9_reach_25 rfl ?_
    exact r_ireturn C dX9_reach_28
  refine r_iconst (v := (-1)) C dX9_reach_16 (by decide) ?_
  exact r_ireturn C dX9_reach_17
theorem dX9_candidate_0 : decode cX9_candidate 0 = .ok (.iload_n 1, 1) := by decide +kernel
theorem dX9_candidate_1 : decode cX9_candidate 1 = .ok (.invokestatic 212, 3) := by decide +kernel
theorem dX9_candidate_4 : decode cX9_candidate 4 = .ok (.ifCond .ne 5, 3) := by decide +kernel
theorem dX9_candidate_7 : decode cX9_candidate 7 = .ok (.iconst (-1), 1) := by decide +kernel
theorem dX9_candidate_8 : decode cX9_candidate 8 = .ok (.ireturn, 1) := by decide +kernel
theorem dX9_candidate_9 : decode cX9_candidate 9 = .ok (.aload_n 0, 1) := by decide +kernel
theorem dX9_candidate_10 : decode cX9_candidate 10 = .ok (.iload_n 1, 1) := by decide +kernel
theorem dX9_candidate_11 : decode cX9_candidate 11 = .ok (.aload_n 0, 1) := by decide +kernel
theorem dX9_candidate_12 : decode cX9_candidate 12 = .ok (.getfield 7, 3) := by decide +kernel
theorem dX9_candidate_15 : decode cX9_candidate 15 = .ok (.bipush 38, 2) := by decide +kernel
theorem dX9_candidate_17 : decode cX9_candidate 17 = .ok (.iaload, 1) := by decide +kernel
theorem dX9_candidate_18 : decode cX9_candidate 18 = .ok (.invokevirtual 193, 3) := by decide +kernel
theorem dX9_candidate_21 : decode cX9_candidate 21 = .ok (.iload_n 2, 1) := by decide +kernel
theorem dX9_candidate_22 : decode cX9_candidate 22 = .ok (.iconst (-1), 1) := by decide +kernel
theorem dX9_candidate_23 : decode cX9_candidate 23 = .ok (.if_icmp .ne 10, 3) := by decide +kernel
theorem dX9_candidate_26 : decode cX9_candidate 26 = .ok (.aload_n 0, 1) := by decide +kernel
theorem dX9_candidate_27 : decode cX9_candidate 27 = .ok (.getfield 171, 3) := by decide +kernel
theorem dX9_candidate_30 : decode cX9_candidate 30 = .ok (.goto 27, 3) := by decide +kernel
theorem dX9_candidate_33 : decode cX9_candidate 33 = .ok (.iload_n 2, 1) := by decide +kernel
theorem dX9_candidate_34 : decode cX9_candidate 34 = .ok (.iconst 0, 1) := by decide +kernel
theorem dX9_candidate_35 : decode cX9_candidate 35 = .ok (.aload_n 0, 1) := by decide +kernel
theorem dX9_candidate_36 : decode cX9_candidate 36 = .ok (.getfield 171, 3) := by decide +kernel
theorem dX9_candidate_39 : decode cX9_candidate 39 = .ok (.iconst 1, 1) := by decide +kernel
theorem dX9_candidate_40 : decode cX9_candidate 40 = .ok (.isub, 1) := by decide +kernel
theorem dX9_candidate_41 : decode cX9_candidate 41 = .ok (.invokestatic 77, 3) := by decide +kernel
theorem dX9_candidate_44 : decode cX9_candidate 44 = .ok (.ifCond .eq 12, 3) := by decide +kernel
theorem dX9_candidate_47 : decode cX9_candidate 47 = .ok (.aload_n 0, 1) := by decide +kernel
theorem dX9_candidate_48 : decode cX9_candidate 48 = .ok (.getfield 32, 3) := by decide +kernel
theorem dX9_candidate_51 : decode cX9_candidate 51 = .ok (.iload_n 2, 1) := by decide +kernel
theorem dX9_candidate_52 : decode cX9_candidate 52 = .ok (.iaload, 1) := by decide +kernel
theorem dX9_candidate_53 : decode cX9_candidate 53 = .ok (.goto 4, 3) := by decide +kernel
theorem dX9_candidate_56 : decode cX9_candidate 56 = .ok (.iconst (-1), 1) := by decide +kernel
theorem dX9_candidate_57 : decode cX9_candidate 57 = .ok (.ireturn, 1) := by decide +kernel
def X9_candidate (a1 : Int32) (a2 : Int32) (m : gM) : Option (Int32 × gM) :=
  gCall (X9_isLine a1 m) (fun (r2 : Bool) (m1 : gM) => if r2 = true then (gAt m1 47 0 38 (fun (x3 : Int32) => gCall (X9_layFound a1 x3 m1) (fun (r5 : Unit) (m4 : gM) => if a2 = (-1) then (some ((m4 9 0 18), m4)) else (gCall (X9_isIn a2 0 ((m4 9 0 18) - 1) m4) (fun (r7 : Bool) (m6 : gM) => if r7 = true then (gAt m6 52 0 a2 (fun (x8 : Int32) => some (x8, m6))) else (some ((-1), m6))))))) else (some ((-1), m1)))
set_option maxRecDepth 100000 in
set_option maxHeartbeats 4000000 in
theorem c_X9_candidate (a1 : Int32) (a2 : Int32) (m : gM) : gCon eI yX9_candidate cX9_candidate 3 (some .int) 5 [.inr (9, 0), .inl a1, .inl a2] m (X9_candidate a1 a2 m) := by
  refine gCon.of (lv := [some (.inr (9, 0)), some (.inl a1), some (.inl a2)]) (by decide +kernel) (Nat.le_of_ble_eq_true rfl) rfl (fun X C => ?_)
  unfold X9_candidate
  refine r_iload_n C dX9_candidate_0 rfl rfl ?_
  refine r_insB (As := [.inl a1]) (st := []) C il_X9_212 co_X9_isLine (c_X9_isLine a1 m) (by decide) (by decide) rfl rfl (Nat.le_of_ble_eq_true rfl) dX9_candidate_1 (fun r2 m1 => ?_)
  refine r_ifneB (tgt := 9) C dX9_candidate_4 (by decide) ?_ ?_
  · refine r_aload_n C dX9_candidate_9 rfl rfl ?_
    refine r_iload_n C dX9_candidate_10 rfl rfl ?_
    refine r_aload_n C dX9_candidate_11 rfl rfl ?_
    refine r_get (v := .inr (47, 0)) C fl_X9_7 dX9_candidate_12 rfl ?_
    refine r_bipush (v := 38) C dX9_candidate_15 (by decide) ?_
    refine r_iald C rfl dX9_candidate_17 (fun x3 => ?_)
    refine r_invU (t := 9) (kb := 0) (As := [.inl a1, .inl x3]) (st := []) C il_X9_193 co_X9_layFound (by decide) rfl (c_X9_layFound a1 x3 m1) (by decide) (by decide) rfl rfl (Nat.le_of_ble_eq_true rfl) dX9_candidate_18 (fun r5 m4 => ?_)
    refine r_iload_n C dX9_candidate_21 rfl rfl ?_
    refine r_iconst (v := (-1)) C dX9_candidate_22 (by decide) ?_
    refine r_icmp_ne (tgt := 33) C dX9_candidate_23 (by decide) ?_ ?_
    · refine r_iload_n C dX9_candidate_33 rfl rfl ?_
      refine r_iconst (v := 0) C dX9_candidate_34 (by decide) ?_
      refine r_aload_n C dX9_candidate_35 rfl rfl ?_
      refine r_get (v := .inl (m4 9 0 18)) C fl_X9_171 dX9_candidate_36 rfl ?_
      refine r_iconst (v := 1) C dX9_candidate_39 (by decide) ?_
      refine r_isub C dX9_candidate_40 ?_
      refine r_insB (As := [.inl a2, .inl 0, .inl ((m4 9 0 18) - 1)]) (st := []) C il_X9_77 co_X9_isIn (c_X9_isIn a2 0 ((m4 9 0 18) - 1) m4) (by decide) (by decide) rfl rfl (Nat.le_of_ble_eq_true rfl) dX9_candidate_41 (fun r7 m6 => ?_)
      refine r_ifeqB (tgt := 56) C dX9_candidate_44 (by decide) ?_ ?_
      · refine r_iconst (v := (-1)) C dX9_candidate_56 (by decide) ?_
        exact r_ireturn C dX9_candidate_57
      refine r_aload_n C dX9_candidate_47 rfl rfl ?_
      refine r_get (v := .inr (52, 0)) C fl_X9_32 dX9_candidate_48 rfl ?_
      refine r_iload_n C dX9_candidate_51 rfl rfl ?_
      refine r_iald C rfl dX9_candidate_52 (fun x8 => ?_)
      refine r_goto (tgt := 57) C dX9_candidate_53 (by decide) ?_
      exact r_ireturn C dX9_candidate_57
    refine r_aload_n C dX9_candidate_26 rfl rfl ?_
    refine r_get (v := .inl (m4 9 0 18)) C fl_X9_171 dX9_candidate_27 rfl ?_
    refine r_goto (tgt := 57) C dX9_candidate_30 (by decide) ?_
    exact r_ireturn C dX9_candidate_57
  refine r_iconst (v := (-1)) C dX9_candidate_7 (by decide) ?_
  exact r_ireturn C dX9_candidate_8
