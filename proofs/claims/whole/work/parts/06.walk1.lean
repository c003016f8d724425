theorem dX9_copy_0 : decode cX9_copy 0 = .ok (.iconst 0, 1) := by decide +kernel
theorem dX9_copy_1 : decode cX9_copy 1 = .ok (.istore_n 2, 1) := by decide +kernel
theorem dX9_copy_2 : decode cX9_copy 2 = .ok (.iload_n 2, 1) := by decide +kernel
theorem dX9_copy_3 : decode cX9_copy 3 = .ok (.sipush 30843, 3) := by decide +kernel
theorem dX9_copy_6 : decode cX9_copy 6 = .ok (.if_icmp .ge 15, 3) := by decide +kernel
theorem dX9_copy_9 : decode cX9_copy 9 = .ok (.aload_n 1, 1) := by decide +kernel
theorem dX9_copy_10 : decode cX9_copy 10 = .ok (.iload_n 2, 1) := by decide +kernel
theorem dX9_copy_11 : decode cX9_copy 11 = .ok (.aload_n 0, 1) := by decide +kernel
theorem dX9_copy_12 : decode cX9_copy 12 = .ok (.iload_n 2, 1) := by decide +kernel
theorem dX9_copy_13 : decode cX9_copy 13 = .ok (.iaload, 1) := by decide +kernel
theorem dX9_copy_14 : decode cX9_copy 14 = .ok (.iastore, 1) := by decide +kernel
theorem dX9_copy_15 : decode cX9_copy 15 = .ok (.iinc 2 1, 3) := by decide +kernel
theorem dX9_copy_18 : decode cX9_copy 18 = .ok (.goto (-16), 3) := by decide +kernel
theorem dX9_copy_21 : decode cX9_copy 21 = .ok (.return_, 1) := by decide +kernel
def X9_copy_b2 (t1 : Nat) (u1 : Nat) (t2 : Nat) (u2 : Nat) (v1 : Int32) (m2 : gM) (k2 : Int32 → gM → Option (Unit × gM)) : Option (Unit × gM) :=
  if 30843 ≤ v1 then (some ((), m2)) else (gAt m2 t1 u1 v1 (fun (x3 : Int32) => gPut m2 t2 u2 v1 x3 (fun (m4 : gM) => gLet (v1 + 1) (fun (x5 : Int32) => k2 x5 m4))))
def X9_copy (t1 u1 : Nat) (t2 u2 : Nat) (m : gM) : Option (Unit × gM) :=
  gL1 FU (X9_copy_b2 t1 u1 t2 u2) 0 m
set_option maxRecDepth 100000 in
set_option maxHeartbeats 4000000 in
theorem c_X9_copy (t1 u1 : Nat) (t2 u2 : Nat) (ht1 : gia t1 = true) (ht2 : gia t2 = true) (m : gM) : gCon eU yX9_copy cX9_copy 3 none 0 [.inr (t1, u1), .inr (t2, u2)] m (X9_copy t1 u1 t2 u2 m) := by
  refine gCon.of (lv := [some (.inr (t1, u1)), some (.inr (t2, u2)), none]) (by decide +kernel) (Nat.le_of_ble_eq_true rfl) rfl (fun X C => ?_)
  unfold X9_copy
  refine r_iconst (v := 0) C dX9_copy_0 (by decide) ?_
  refine r_istore_n (lv' := [some (.inr (t1, u1)), some (.inr (t2, u2)), some (.inl 0)]) C dX9_copy_1 rfl (by decide) rfl ?_
  refine r_weak (lv' := [some (.inr (t1, u1)), some (.inr (t2, u2)), some (.inl 0)]) ⟨rfl, rfl, rfl, trivial⟩ ?_
  refine r_l1 (pj := 2) (fun v1 => [some (.inr (t1, u1)), some (.inr (t2, u2)), some (.inl v1)]) (fun v1 m2 k2 hk2 => ?_) _ _ _
  unfold X9_copy_b2
  refine r_iload_n C dX9_copy_2 rfl rfl ?_
  refine r_sipush (v := 30843) C dX9_copy_3 (by decide) ?_
  refine r_icmp_ge (tgt := 21) C dX9_copy_6 (by decide) ?_ ?_
  · exact r_return C dX9_copy_21
  refine r_aload_n C dX9_copy_9 rfl rfl ?_
  refine r_iload_n C dX9_copy_10 rfl rfl ?_
  refine r_aload_n C dX9_copy_11 rfl rfl ?_
  refine r_iload_n C dX9_copy_12 rfl rfl ?_
  refine r_iald C ht1 dX9_copy_13 (fun x3 => ?_)
  refine r_iast C ht2 dX9_copy_14 (fun m4 => ?_)
  refine r_iinc (v := 1) C dX9_copy_15 (by decide) rfl (by decide) (fun x5 => ?_)
  show gw X eU _ [some (.inr (t1, u1)), some (.inr (t2, u2)), some (.inl x5)] _ _ _
  refine r_goto (tgt := 2) C dX9_copy_18 (by decide) ?_
  exact r_weak (lv' := [some (.inr (t1, u1)), some (.inr (t2, u2)), some (.inl x5)]) ⟨rfl, rfl, rfl, trivial⟩ (hk2 _ _)
theorem dX9_isIn_0 : decode cX9_isIn 0 = .ok (.iload_n 0, 1) := by decide +kernel
theorem dX9_isIn_1 : decode cX9_isIn 1 = .ok (.iload_n 1, 1) := by decide +kernel
theorem dX9_isIn_2 : decode cX9_isIn 2 = .ok (.if_icmp .lt 12, 3) := by decide +kernel
theorem dX9_isIn_5 : decode cX9_isIn 5 = .ok (.iload_n 0, 1) := by decide +kernel
theorem dX9_isIn_6 : decode cX9_isIn 6 = .ok (.iload_n 2, 1) := by decide +kernel
theorem dX9_isIn_7 : decode cX9_isIn 7 = .ok (.if_icmp .gt 7, 3) := by decide +kernel
theorem dX9_isIn_10 : decode cX9_isIn 10 = .ok (.iconst 1, 1) := by decide +kernel
theorem dX9_isIn_11 : decode cX9_isIn 11 = .ok (.goto 4, 3) := by decide +kernel
theorem dX9_isIn_14 : decode cX9_isIn 14 = .ok (.iconst 0, 1) := by decide +kernel
theorem dX9_isIn_15 : decode cX9_isIn 15 = .ok (.ireturn, 1) := by decide +kernel
def X9_isIn (a1 : Int32) (a2 : Int32) (a3 : Int32) (m : gM) : Option (Bool × gM) :=
  if a1 < a2 then (some (false, m)) else (if a3 < a1 then (some (false, m)) else (some (true, m)))
set_option maxRecDepth 100000 in
set_option maxHeartbeats 4000000 in
theorem c_X9_isIn (a1 : Int32) (a2 : Int32) (a3 : Int32) (m : gM) : gCon eB yX9_isIn cX9_isIn 3 (some .boolean) 0 [.inl a1, .inl a2, .inl a3] m (X9_isIn a1 a2 a3 m) := by
  refine gCon.of (lv := [some (.inl a1), some (.inl a2), some (.inl a3)]) (by decide +kernel) (Nat.le_of_ble_eq_true rfl) rfl (fun X C => ?_)
  unfold X9_isIn
  refine r_iload_n C dX9_isIn_0 rfl rfl ?_
  refine r_iload_n C dX9_isIn_1 rfl rfl ?_
  refine r_icmp_lt (tgt := 14) C dX9_isIn_2 (by decide) ?_ ?_
  · refine r_iconst (v := 0) C dX9_isIn_14 (by decide) ?_
    exact r_zret0 C dX9_isIn_15
  refine r_iload_n C dX9_isIn_5 rfl rfl ?_
  refine r_iload_n C dX9_isIn_6 rfl rfl ?_
  refine r_icmp_gt (tgt := 14) C dX9_isIn_7 (by decide) ?_ ?_
  · refine r_iconst (v := 0) C dX9_isIn_14 (by decide) ?_
    exact r_zret0 C dX9_isIn_15
  refine r_iconst (v := 1) C dX9_isIn_10 (by decide) ?_
  refine r_goto (tgt := 15) C dX9_isIn_11 (by decide) ?_
  exact r_zret1 C dX9_isIn_15
theorem dX9_isLine_0 : decode cX9_isLine 0 = .ok (.iload_n 0, 1) := by decide +kernel
theorem dX9_isLine_1 : decode cX9_isLine 1 = .ok (.iconst 0, 1) := by decide +kernel
theorem dX9_isLine_2 : decode cX9_isLine 2 = .ok (.sipush 1023, 3) := by decide +kernel
theorem dX9_isLine_5 : decode cX9_isLine 5 = .ok (.invokestatic 77, 3) := by decide +kernel
theorem dX9_isLine_8 : decode cX9_isLine 8 = .ok (.ireturn, 1) := by decide +kernel
def X9_isLine (a1 : Int32) (m : gM) : Option (Bool × gM) :=
  gCall (X9_isIn a1 0 1023 m) (fun (r2 : Bool) (m1 : gM) => some (r2, m1))
set_option maxRecDepth 100000 in
set_option maxHeartbeats 4000000 in
theorem c_X9_isLine (a1 : Int32) (m : gM) : gCon eB yX9_isLine cX9_isLine 1 (some .boolean) 1 [.inl a1] m (X9_isLine a1 m) := by
  refine gCon.of (lv := [some (.inl a1)]) (by decide +kernel) (Nat.le_of_ble_eq_true rfl) rfl (fun X C => ?_)
  unfold X9_isLine
  refine r_iload_n C dX9_isLine_0 rfl rfl ?_
  refine r_iconst (v := 0) C dX9_isLine_1 (by decide) ?_
  refine r_sipush (v := 1023) C dX9_isLine_2 (by decide) ?_
  refine r_insB (As := [.inl a1, .inl 0, .inl 1023]) (st := []) C il_X9_77 co_X9_isIn (c_X9_isIn a1 0 1023 m) (by decide) (by decide) rfl rfl (Nat.le_of_ble_eq_true rfl) dX9_isLine_5 (fun r2 m1 => ?_)
  exact r_zretB C dX9_isLine_8
theorem dX9_isWay_0 : decode cX9_isWay 0 = .ok (.iload_n 1, 1) := by decide +kernel
theorem dX9_isWay_1 : decode cX9_isWay 1 = .ok (.iconst 0, 1) := by decide +kernel
theorem dX9_isWay_2 : decode cX9_isWay 2 = .ok (.aload_n 0, 1) := by decide +kernel
theorem dX9_isWay_3 : decode cX9_isWay 3 = .ok (.getfield 7, 3) := by decide +kernel
theorem dX9_isWay_6 : decode cX9_isWay 6 = .ok (.bipush 36, 2) := by decide +kernel
theorem dX9_isWay_8 : decode cX9_isWay 8 = .ok (.iaload, 1) := by decide +kernel
theorem dX9_isWay_9 : decode cX9_isWay 9 = .ok (.iconst 1, 1) := by decide +kernel
theorem dX9_isWay_10 : decode cX9_isWay 10 = .ok (.isub, 1) := by decide +kernel
theorem dX9_isWay_11 : decode cX9_isWay 11 = .ok (.invokestatic 77, 3) := by decide +kernel
theorem dX9_isWay_14 : decode cX9_isWay 14 = .ok (.ireturn, 1) := by decide +kernel
def X9_isWay (a1 : Int32) (m : gM) : Option (Bool × gM) :=
  gAt m 47 0 36 (fun (x1 : Int32) => gCall (X9_isIn a1 0 (x1 - 1) m) (fun (r3 : Bool) (m2 : gM) => some (r3, m2)))
set_option maxRecDepth 100000 in
set_option maxHeartbeats 4000000 in
theorem c_X9_isWay (a1 : Int32) (m : gM) : gCon eB yX9_isWay cX9_isWay 2 (some .boolean) 1 [.inr (9, 0), .inl a1] m (X9_isWay a1 m) := by
  refine gCon.of (lv := [some (.inr (9, 0)), some (.inl a1)]) (by decide +kernel) (Nat.le_of_ble_eq_true rfl) rfl (fun X C => ?_)
  unfold X9_isWay
  refine r_iload_n C dX9_isWay_0 rfl rfl ?_
  refine r_iconst (v := 0) C dX9_isWay_1 (by decide) ?_
  refine r_aload_n C dX9_isWay_2 rfl rfl ?_
  refine r_get (v := .inr (47, 0)) C fl_X9_7 dX9_isWay_3 rfl ?_
  refine r_bipush (v := 36) C dX9_isWay_6 (by decide) ?_
  refine r_iald C rfl dX9_isWay_8 (fun x1 => ?_)
  refine r_iconst (v := 1) C dX9_isWay_9 (by decide) ?_
  refine r_isub C dX9_isWay_10 ?_
  refine r_insB (As := [.inl a1, .inl 0, .inl (x1 - 1)]) (st := []) C il_X9_77 co_X9_isIn (c_X9_isIn a1 0 (x1 - 1) m) (by decide) (by decide) rfl rfl (Nat.le_of_ble_eq_true rfl) dX9_isWay_11 (fun r3 m2 => ?_)
  exact r_zretB C dX9_isWay_14
theorem dX9_slotsOf_0 : decode cX9_slotsOf 0 = .ok (.iconst 1, 1) := by decide +kernel
theorem dX9_slotsOf_1 : decode cX9_slotsOf 1 = .ok (.aload_n 0, 1) := by decide +kernel
theorem dX9_slotsOf_2 : decode cX9_slotsOf 2 = .ok (.getfield 7, 3) := by decide +kernel
theorem dX9_slotsOf_5 : decode cX9_slotsOf 5 = .ok (.bipush 37, 2) := by decide +kernel
theorem dX9_slotsOf_7 : decode cX9_slotsOf 7 = .ok (.iaload, 1) := by decide +kernel
theorem dX9_slotsOf_8 : decode cX9_slotsOf 8 = .ok (.ishl, 1) := by decide +kernel
theorem dX9_slotsOf_9 : decode cX9_slotsOf 9 = .ok (.ireturn, 1) := by decide +kernel
def X9_slotsOf (m : gM) : Option (Int32 × gM) :=
  gAt m 47 0 37 (fun (x1 : Int32) => some (1 <<< (x1 &&& 31), m))
set_option maxRecDepth 100000 in
set_option maxHeartbeats 4000000 in
theorem c_X9_slotsOf (m : gM) : gCon eI yX9_slotsOf cX9_slotsOf 1 (some .int) 0 [.inr (9, 0)] m (X9_slotsOf m) := by
  refine gCon.of (lv := [some (.inr (9, 0))]) (by decide +kernel) (Nat.le_of_ble_eq_true rfl) rfl (fun X C => ?_)
  unfold X9_slotsOf
  refine r_iconst (v := 1) C dX9_slotsOf_0 (by decide) ?_
  refine r_aload_n C dX9_slotsOf_1 rfl rfl ?_
  refine r_get (v := .inr (47, 0)) C fl_X9_7 dX9_slotsOf_2 rfl ?_
  refine r_bipush (v := 37) C dX9_slotsOf_5 (by decide) ?_
  refine r_iald C rfl dX9_slotsOf_7 (fun x1 => ?_)
  refine r_ishl C dX9_slotsOf_8 ?_
  exact r_ireturn C dX9_slotsOf_9
theorem dX9_slotsAll_0 : decode cX9_slotsAll 0 = .ok (.aload_n 0, 1) := by decide +kernel
theorem dX9_slotsAll_1 : decode cX9_slotsAll 1 = .ok (.getfield 7, 3) := by decide +kernel
theorem dX9_slotsAll_4 : decode cX9_slotsAll 4 = .ok (.bipush 36, 2) := by decide +kernel
theorem dX9_slotsAll_6 : decode cX9_slotsAll 6 = .ok (.iaload, 1) := by decide +kernel
theorem dX9_slotsAll_7 : decode cX9_slotsAll 7 = .ok (.aload_n 0, 1) := by decide +kernel
theorem dX9_slotsAll_8 : decode cX9_slotsAll 8 = .ok (.invokevirtual 81, 3) := by decide +kernel
theorem dX9_slotsAll_11 : decode cX9_slotsAll 11 = .ok (.imul, 1) := by decide +kernel
theorem dX9_slotsAll_12 : decode cX9_slotsAll 12 = .ok (.ireturn, 1) := by decide +kernel
def X9_slotsAll (m : gM) : Option (Int32 × gM) :=
  gAt m 47 0 36 (fun (x1 : Int32) => gCall (X9_slotsOf m) (fun (r3 : Int32) (m2 : gM) => some (x1 * r3, m2)))
set_option maxRecDepth 100000 in
set_option maxHeartbeats 4000000 in
theorem c_X9_slotsAll (m : gM) : gCon eI yX9_slotsAll cX9_slotsAll 1 (some .int) 1 [.inr (9, 0)] m (X9_slotsAll m) := by
  refine gCon.of (lv := [some (.inr (9, 0))]) (by decide +kernel) (Nat.le_of_ble_eq_true rfl) rfl (fun X C => ?_)
  unfold X9_slotsAll
  refine r_aload_n C dX9_slotsAll_0 rfl rfl ?_
  refine r_get (v := .inr (47, 0)) C fl_X9_7 dX9_slotsAll_1 rfl ?_
  refine r_bipush (v := 36) C dX9_slotsAll_4 (by decide) ?_
  refine r_iald C rfl dX9_slotsAll_6 (fun x1 => ?_)
  refine r_aload_n C dX9_slotsAll_7 rfl rfl ?_
  refine r_invI (t := 9) (kb := 0) (As := []) (st := [.inl x1]) C il_X9_81 co_X9_slotsOf (by decide) rfl (c_X9_slotsOf m) (by decide) (by decide) rfl rfl (Nat.le_of_ble_eq_true rfl) dX9_slotsAll_8 (fun r3 m2 => ?_)
  refine r_imul C dX9_slotsAll_11 ?_
  exact r_ireturn C dX9_slotsAll_12
theorem dX9_many_0 : decode cX9_many 0 = .ok (.iconst 0, 1) := by decide +kernel
theorem dX9_many_1 : decode cX9_many 1 = .ok (.istore_n 1, 1) := by decide +kernel
theorem dX9_many_2 : decode cX9_many 2 = .ok (.iload_n 0, 1) := by decide +kernel
theorem dX9_many_3 : decode cX9_many 3 = .ok (.istore_n 2, 1) := by decide +kernel
theorem dX9_many_4 : decode cX9_many 4 = .ok (.iload_n 2, 1) := by decide +kernel
theorem dX9_many_5 : decode cX9_many 5 = .ok (.ifCond .eq 15, 3) := by decide +kernel
theorem dX9_many_8 : decode cX9_many 8 = .ok (.iinc 1 1, 3) := by decide +kernel
theorem dX9_many_11 : decode cX9_many 11 = .ok (.iload_n 2, 1) := by decide +kernel
theorem dX9_many_12 : decode cX9_many 12 = .ok (.iload_n 2, 1) := by decide +kernel
theorem dX9_many_13 : decode cX9_many 13 = .ok (.iconst 1, 1) := by decide +kernel
theorem dX9_many_14 : decode cX9_many 14 = .ok (.isub, 1) := by decide +kernel
theorem dX9_many_15 : decode cX9_many 15 = .ok (.iand, 1) := by decide +kernel
theorem dX9_many_16 : decode cX9_many 16 = .ok (.istore_n 2, 1) := by decide +kernel
theorem dX9_many_17 : decode cX9_many 17 = .ok (.goto (-13), 3) := by decide +kernel
theorem dX9_many_20 : decode cX9_many 20 = .ok (.iload_n 1, 1) := by decide +kernel
theorem dX9_many_21 : decode cX9_many 21 = .ok (.ireturn, 1) := by decide +kernel
def X9_many_b4 (v1 v2 : Int32) (m3 : gM) (k4 : Int32 → Int32 → gM → Option (Int32 × gM)) : Option (Int32 × gM) :=
  if v2 = 0 then (some (v1, m3)) else (gLet (v1 + 1) (fun (x4 : Int32) => gLet (v2 &&& (v2 - 1)) (fun (x5 : Int32) => k4 x4 x5 m3)))
def X9_many (a1 : Int32) (m : gM) : Option (Int32 × gM) :=
  gL2 FU X9_many_b4 0 a1 m
set_option maxRecDepth 100000 in
set_option maxHeartbeats 4000000 in
theorem c_X9_many (a1 : Int32) (m : gM) : gCon eI yX9_many cX9_many 3 (some .int) 0 [.inl a1] m (X9_many a1 m) := by
  refine gCon.of (lv := [some (.inl a1), none, none]) (by decide +kernel) (Nat.le_of_ble_eq_true rfl) rfl (fun X C => ?_)
  unfold X9_many
  refine r_iconst (v := 0) C dX9_many_0 (by decide) ?_
  refine r_istore_n (lv' := [some (.inl a1), some (.inl 0), none]) C dX9_many_1 rfl (by decide) rfl ?_
  refine r_iload_n C dX9_many_2 rfl rfl ?_
  refine r_istore_n (lv' := [some (.inl a1), some (.inl 0), some (.inl a1)]) C dX9_many_3 rfl (by decide) rfl ?_
  refine r_weak (lv' := [none, some (.inl 0), some (.inl a1)]) ⟨rfl, rfl, trivial⟩ ?_
  refine r_l2 (pj := 4) (fun v1 v2 => [none, some (.inl v1), some (.inl v2)]) (fun v1 v2 m3 k4 hk4 => ?_) _ _ _ _
  unfold X9_many_b4
  refine r_iload_n C dX9_many_4 rfl rfl ?_
  refine r_if_eq (tgt := 20) C dX9_many_5 (by decide) ?_ ?_
  · refine r_iload_n C dX9_many_20 rfl rfl ?_
    exact r_ireturn C dX9_many_21
  refine r_iinc (v := 1) C dX9_many_8 (by decide) rfl (by decide) (fun x4 => ?_)
  show gw X eI _ [none, some (.inl x4), some (.inl v2)] _ _ _
  refine r_iload_n C dX9_many_11 rfl rfl ?_
  refine r_iload_n C dX9_many_12 rfl rfl ?_
  refine r_iconst (v := 1) C dX9_many_13 (by decide) ?_
  refine r_isub C dX9_many_14 ?_
  refine r_iand C dX9_many_15 ?_
  refine r_let (fun x5 => ?_)
  refine r_istore_n (lv' := [none, some (.inl x4), some (.inl x5)]) C dX9_many_16 rfl (by decide) rfl ?_
  refine r_goto (tgt := 4) C dX9_many_17 (by decide) ?_
  exact r_weak (lv' := [none, some (.inl x4), some (.inl x5)]) ⟨rfl, rfl, trivial⟩ (hk4 _ _ _)
theorem dX9_maskAt_0 : decode cX9_maskAt 0 = .ok (.bipush 47, 2) := by decide +kernel
theorem dX9_maskAt_2 : decode cX9_maskAt 2 = .ok (.iconst 4, 1) := by decide +kernel
theorem dX9_maskAt_3 : decode cX9_maskAt 3 = .ok (.iload_n 0, 1) := by decide +kernel
theorem dX9_maskAt_4 : decode cX9_maskAt 4 = .ok (.imul, 1) := by decide +kernel
theorem dX9_maskAt_5 : decode cX9_maskAt 5 = .ok (.iadd, 1) := by decide +kernel
theorem dX9_maskAt_6 : decode cX9_maskAt 6 = .ok (.iload_n 1, 1) := by decide +kernel
theorem dX9_maskAt_7 : decode cX9_maskAt 7 = .ok (.iadd, 1) := by decide +kernel
theorem dX9_maskAt_8 : decode cX9_maskAt 8 = .ok (.ireturn, 1) := by decide +kernel
def X9_maskAt (a1 : Int32) (a2 : Int32) (m : gM) : Option (Int32 × gM) :=
  some ((47 + (4 * a1)) + a2, m)
set_option maxRecDepth 100000 in
set_option maxHeartbeats 4000000 in
theorem c_X9_maskAt (a1 : Int32) (a2 : Int32) (m : gM) : gCon eI yX9_maskAt cX9_maskAt 2 (some .int) 0 [.inl a1, .inl a2] m (X9_maskAt a1 a2 m) := by
  refine gCon.of (lv := [some (.inl a1), some (.inl a2)]) (by decide +kernel) (Nat.le_of_ble_eq_true rfl) rfl (fun X C => ?_)
  unfold X9_maskAt
  refine r_bipush (v := 47) C dX9_maskAt_0 (by decide) ?_
  refine r_iconst (v := 4) C dX9_maskAt_2 (by decide) ?_
  refine r_iload_n C dX9_maskAt_3 rfl rfl ?_
  refine r_imul C dX9_maskAt_4 ?_
  refine r_iadd C dX9_maskAt_5 ?_
  refine r_iload_n C dX9_maskAt_6 rfl rfl ?_
  refine r_iadd C dX9_maskAt_7 ?_
  exact r_ireturn C dX9_maskAt_8
theorem dX9_indexOf_0 : decode cX9_indexOf 0 = .ok (.iconst 0, 1) := by decide +kernel
theorem dX9_indexOf_1 : decode cX9_indexOf 1 = .ok (.istore_n 3, 1) := by decide +kernel
theorem dX9_indexOf_2 : decode cX9_indexOf 2 = .ok (.iconst 0, 1) := by decide +kernel
theorem dX9_indexOf_3 : decode cX9_indexOf 3 = .ok (.istore 4, 2) := by decide +kernel
theorem dX9_indexOf_5 : decode cX9_indexOf 5 = .ok (.iload 4, 2) := by decide +kernel
theorem dX9_indexOf_7 : decode cX9_indexOf 7 = .ok (.aload_n 0, 1) := by decide +kernel
theorem dX9_indexOf_8 : decode cX9_indexOf 8 = .ok (.getfield 7, 3) := by decide +kernel
theorem dX9_indexOf_11 : decode cX9_indexOf 11 = .ok (.bipush 37, 2) := by decide +kernel
theorem dX9_indexOf_13 : decode cX9_indexOf 13 = .ok (.iaload, 1) := by decide +kernel
theorem dX9_indexOf_14 : decode cX9_indexOf 14 = .ok (.if_icmp .ge 33, 3) := by decide +kernel
theorem dX9_indexOf_17 : decode cX9_indexOf 17 = .ok (.iload_n 3, 1) := by decide +kernel
theorem dX9_indexOf_18 : decode cX9_indexOf 18 = .ok (.iload_n 1, 1) := by decide +kernel
theorem dX9_indexOf_19 : decode cX9_indexOf 19 = .ok (.aload_n 0, 1) := by decide +kernel
theorem dX9_indexOf_20 : decode cX9_indexOf 20 = .ok (.getfield 7, 3) := by decide +kernel
theorem dX9_indexOf_23 : decode cX9_indexOf 23 = .ok (.iload_n 2, 1) := by decide +kernel
theorem dX9_indexOf_24 : decode cX9_indexOf 24 = .ok (.iload 4, 2) := by decide +kernel
theorem dX9_indexOf_26 : decode cX9_indexOf 26 = .ok (.invokestatic 85, 3) := by decide +kernel
theorem dX9_indexOf_29 : decode cX9_indexOf 29 = .ok (.iaload, 1) := by decide +kernel
theorem dX9_indexOf_30 : decode cX9_indexOf 30 = .ok (.iand, 1) := by decide +kernel
theorem dX9_indexOf_31 : decode cX9_indexOf 31 = .ok (.invokestatic 89, 3) := by decide +kernel
theorem dX9_indexOf_34 : decode cX9_indexOf 34 = .ok (.iconst 2, 1) := by decide +kernel
theorem dX9_indexOf_35 : decode cX9_indexOf 35 = .ok (.irem, 1) := by decide +kernel
theorem dX9_indexOf_36 : decode cX9_indexOf 36 = .ok (.iload 4, 2) := by decide +kernel
theorem dX9_indexOf_38 : decode cX9_indexOf 38 = .ok (.ishl, 1) := by decide +kernel
theorem dX9_indexOf_39 : decode cX9_indexOf 39 = .ok (.ior, 1) := by decide +kernel
theorem dX9_indexOf_40 : decode cX9_indexOf 40 = .ok (.istore_n 3, 1) := by decide +kernel
theorem dX9_indexOf_41 : decode cX9_indexOf 41 = .ok (.iinc 4 1, 3) := by decide +kernel
theorem dX9_indexOf_44 : decode cX9_indexOf 44 = .ok (.goto (-39), 3) := by decide +kernel
theorem dX9_indexOf_47 : decode cX9_indexOf 47 = .ok (.iload_n 3, 1) := by decide +kernel
theorem dX9_indexOf_48 : decode cX9_indexOf 48 = .ok (.ireturn, 1) := by decide +kernel
def X9_indexOf_b5 (a1 : Int32) (a2 : Int32) (v1 v2 : Int32) (m3 : gM) (k5 : Int32 → Int32 → gM → Option (Int32 × gM)) : Option (Int32 × gM) :=
  gAt m3 47 0 37 (fun (x4 : Int32) => if x4 ≤ v2 then (some (v1, m3)) else (gCall (X9_maskAt a2 v2 m3) (fun (r6 : Int32) (m5 : gM) => gAt m5 47 0 r6 (fun (x7 : Int32) => gCall (X9_many (a1 &&& x7) m5) (fun (r9 : Int32) (m8 : gM) => gLet (v1 ||| ((gRem r9 2) <<< (v2 &&& 31))) (fun (x10 : Int32) => gLet (v2 + 1) (fun (x11 : Int32) => k5 x10 x11 m8)))))))
def X9_indexOf (a1 : Int32) (a2 : Int32) (m : gM) : Option (Int32 × gM) :=
  gL2 FU (X9_indexOf_b5 a1 a2) 0 0 m
set_option maxRecDepth 100000 in
set_option maxHeartbeats 4000000 in
theorem c_X9_indexOf (a1 : Int32) (a2 : Int32) (m : gM) : gCon eI yX9_indexOf cX9_indexOf 5 (some .int) 1 [.inr (9, 0), .inl a1, .inl a2] m (X9_indexOf a1 a2 m) := by
  refine gCon.of (lv := [some (.inr (9, 0)), some (.inl a1), some (.inl a2), none, none]) (by decide +kernel) (Nat.le_of_ble_eq_true rfl) rfl (fun X C => ?_)
  unfold X9_indexOf
  refine r_iconst (v := 0) C dX9_indexOf_0 (by decide) ?_
  refine r_istore_n (lv' := [some (.inr (9, 0)), some (.inl a1), some (.inl a2), some (.inl 0), none]) C dX9_indexOf_1 rfl (by decide) rfl ?_
  refine r_iconst (v := 0) C dX9_indexOf_2 (by decide) ?_
  refine r_istore (lv' := [some (.inr (9, 0)), some (.inl a1), some (.inl a2), some (.inl 0), some (.inl 0)]) C dX9_indexOf_3 (by decide) rfl ?_
  refine r_weak (lv' := [some (.inr (9, 0)), some (.inl a1), some (.inl a2), some (.inl 0), some (.inl 0)]) ⟨rfl, rfl, rfl, rfl, rfl, trivial⟩ ?_
  refine r_l2 (pj := 5) (fun v1 v2 => [some (.inr (9, 0)), some (.inl a1), some (.inl a2), some (.inl v1), some (.inl v2)]) (fun v1 v2 m3 k5 hk5 => ?_) _ _ _ _
  unfold X9_indexOf_b5
  refine r_iload C dX9_indexOf_5 rfl ?_
  refine r_aload_n C dX9_indexOf_7 rfl rfl ?_
  refine r_get (v := .inr (47, 0)) C fl_X9_7 dX9_indexOf_8 rfl ?_
  refine r_bipush (v := 37) C dX9_indexOf_11 (by decide) ?_
  refine r_iald C rfl dX9_indexOf_13 (fun x4 => ?_)
  refine r_icmp_ge (tgt := 47) C dX9_indexOf_14 (by decide) ?_ ?_
  · refine r_iload_n C dX9_indexOf_47 rfl rfl ?_
    exact r_ireturn C dX9_indexOf_48
  refine r_iload_n C dX9_indexOf_17 rfl rfl ?_
  refine r_iload_n C dX9_indexOf_18 rfl rfl ?_
  refine r_aload_n C dX9_indexOf_19 rfl rfl ?_
  refine r_get (v := .inr (47, 0)) C fl_X9_7 dX9_indexOf_20 rfl ?_
  refine r_iload_n C dX9_indexOf_23 rfl rfl ?_
  refine r_iload C dX9_indexOf_24 rfl ?_
  refine r_insI (As := [.inl a2, .inl v2]) (st := [.inr (47, 0), .inl a1, .inl v1]) C il_X9_85 co_X9_maskAt (c_X9_maskAt a2 v2 m3) (by decide) (by decide) rfl rfl (Nat.le_of_ble_eq_true rfl) dX9_indexOf_26 (fun r6 m5 => ?_)
  refine r_iald C rfl dX9_indexOf_29 (fun x7 => ?_)
  refine r_iand C dX9_indexOf_30 ?_
  refine r_insI (As := [.inl (a1 &&& x7)]) (st := [.inl v1]) C il_X9_89 co_X9_many (c_X9_many (a1 &&& x7) m5) (by decide) (by decide) rfl rfl (Nat.le_of_ble_eq_true rfl) dX9_indexOf_31 (fun r9 m8 => ?_)
  refine r_iconst (v := 2) C dX9_indexOf_34 (by decide) ?_
  refine r_irem C dX9_indexOf_35 (by decide) ?_
  refine r_iload C dX9_indexOf_36 rfl ?_
  refine r_ishl C dX9_indexOf_38 ?_
  refine r_ior C dX9_indexOf_39 ?_
  refine r_let (fun x10 => ?_)
  refine r_istore_n (lv' := [some (.inr (9, 0)), some (.inl a1), some (.inl a2), some (.inl x10), some (.inl v2)]) C dX9_indexOf_40 rfl (by decide) rfl ?_
  refine r_iinc (v := 1) C dX9_indexOf_41 (by decide) rfl (by decide) (fun x11 => ?_)
  show gw X eI _ [some (.inr (9, 0)), some (.inl a1), some (.inl a2), some (.inl x10), some (.inl x11)] _ _ _
  refine r_goto (tgt := 5) C dX9_indexOf_44 (by decide) ?_
  exact r_weak (lv' := [some (.inr (9, 0)), some (.inl a1), some (.inl a2), some (.inl x10), some (.inl x11)]) ⟨rfl, rfl, rfl, rfl, rfl, trivial⟩ (hk5 _ _ _)
theorem dX9_at_0 : decode cX9_at 0 = .ok (.bipush 63, 2) := by decide +kernel
theorem dX9_at_2 : decode cX9_at 2 = .ok (.iconst 5, 1) := by decide +kernel
theorem dX9_at_3 : decode cX9_at 3 = .ok (.iload_n 0, 1) := by decide +kernel
theorem dX9_at_4 : decode cX9_at 4 = .ok (.imul, 1) := by decide +kernel
theorem dX9_at_5 : decode cX9_at 5 = .ok (.iadd, 1) := by decide +kernel
theorem dX9_at_6 : decode cX9_at 6 = .ok (.ireturn, 1) := by decide +kernel
def X9_at (a1 : Int32) (m : gM) : Option (Int32 × gM) :=
  some (63 + (5 * a1), m)
set_option maxRecDepth 100000 in
set_option maxHeartbeats 4000000 in
theorem c_X9_at (a1 : Int32) (m : gM) : gCon eI yX9_at cX9_at 1 (some .int) 0 [.inl a1] m (X9_at a1 m) := by
  refine gCon.of (lv := [some (.inl a1)]) (by decide +kernel) (Nat.le_of_ble_eq_true rfl) rfl (fun X C => ?_)
  unfold X9_at
  refine r_bipush (v := 63) C dX9_at_0 (by decide) ?_
  refine r_iconst (v := 5) C dX9_at_2 (by decide) ?_
  refine r_iload_n C dX9_at_3 rfl rfl ?_
  refine r_imul C dX9_at_4 ?_
  refine r_iadd C dX9_at_5 ?_
  exact r_ireturn C dX9_at_6
theorem dX9_placeOf_0 : decode cX9_placeOf 0 = .ok (.bipush 16, 2) := by decide +kernel
theorem dX9_placeOf_2 : decode cX9_placeOf 2 = .ok (.iload_n 2, 1) := by decide +kernel
theorem dX9_placeOf_3 : decode cX9_placeOf 3 = .ok (.imul, 1) := by decide +kernel
theorem dX9_placeOf_4 : decode cX9_placeOf 4 = .ok (.aload_n 0, 1) := by decide +kernel
theorem dX9_placeOf_5 : decode cX9_placeOf 5 = .ok (.iload_n 1, 1) := by decide +kernel
theorem dX9_placeOf_6 : decode cX9_placeOf 6 = .ok (.iload_n 2, 1) := by decide +kernel
theorem dX9_placeOf_7 : decode cX9_placeOf 7 = .ok (.invokevirtual 93, 3) := by decide +kernel
theorem dX9_placeOf_10 : decode cX9_placeOf 10 = .ok (.iadd, 1) := by decide +kernel
theorem dX9_placeOf_11 : decode cX9_placeOf 11 = .ok (.ireturn, 1) := by decide +kernel
def X9_placeOf (a1 : Int32) (a2 : Int32) (m : gM) : Option (Int32 × gM) :=
  gCall (X9_indexOf a1 a2 m) (fun (r2 : Int32) (m1 : gM) => some ((16 * a2) + r2, m1))
set_option maxRecDepth 100000 in
set_option maxHeartbeats 4000000 in
theorem c_X9_placeOf (a1 : Int32) (a2 : Int32) (m : gM) : gCon eI yX9_placeOf cX9_placeOf 3 (some .int) 2 [.inr (9, 0), .inl a1, .inl a2] m (X9_placeOf a1 a2 m) := by
  refine gCon.of (lv := [some (.inr (9, 0)), some (.inl a1), some (.inl a2)]) (by decide +kernel) (Nat.le_of_ble_eq_true rfl) rfl (fun X C => ?_)
  unfold X9_placeOf
  refine r_bipush (v := 16) C dX9_placeOf_0 (by decide) ?_
  refine r_iload_n C dX9_placeOf_2 rfl rfl ?_
  refine r_imul C dX9_placeOf_3 ?_
  refine r_aload_n C dX9_placeOf_4 rfl rfl ?_
  refine r_iload_n C dX9_placeOf_5 rfl rfl ?_
  refine r_iload_n C dX9_placeOf_6 rfl rfl ?_
  refine r_invI (t := 9) (kb := 0) (As := [.inl a1, .inl a2]) (st := [.inl (16 * a2)]) C il_X9_93 co_X9_indexOf (by decide) rfl (c_X9_indexOf a1 a2 m) (by decide) (by decide) rfl rfl (Nat.le_of_ble_eq_true rfl) dX9_placeOf_7 (fun r2 m1 => ?_)
  refine r_iadd C dX9_placeOf_10 ?_
  exact r_ireturn C dX9_placeOf_11
theorem dX9_lineAt_0 : decode cX9_lineAt 0 = .ok (.aload_n 0, 1) := by decide +kernel
theorem dX9_lineAt_1 : decode cX9_lineAt 1 = .ok (.getfield 7, 3) := by decide +kernel
theorem dX9_lineAt_4 : decode cX9_lineAt 4 = .ok (.iload_n 1, 1) := by decide +kernel
theorem dX9_lineAt_5 : decode cX9_lineAt 5 = .ok (.invokestatic 96, 3) := by decide +kernel
theorem dX9_lineAt_8 : decode cX9_lineAt 8 = .ok (.iconst 0, 1) := by decide +kernel
theorem dX9_lineAt_9 : decode cX9_lineAt 9 = .ok (.iadd, 1) := by decide +kernel
theorem dX9_lineAt_10 : decode cX9_lineAt 10 = .ok (.iaload, 1) := by decide +kernel
theorem dX9_lineAt_11 : decode cX9_lineAt 11 = .ok (.iconst 1, 1) := by decide +kernel
theorem dX9_lineAt_12 : decode cX9_lineAt 12 = .ok (.isub, 1) := by decide +kernel
theorem dX9_lineAt_13 : decode cX9_lineAt 13 = .ok (.ireturn, 1) := by decide +kernel
def X9_lineAt (a1 : Int32) (m : gM) : Option (Int32 × gM) :=
  gCall (X9_at a1 m) (fun (r2 : Int32) (m1 : gM) => gAt m1 47 0 (r2 + 0) (fun (x3 : Int32) => some (x3 - 1, m1)))
set_option maxRecDepth 100000 in
set_option maxHeartbeats 4000000 in
theorem c_X9_lineAt (a1 : Int32) (m : gM) : gCon eI yX9_lineAt cX9_lineAt 2 (some .int) 1 [.inr (9, 0), .inl a1] m (X9_lineAt a1 m) := by
  refine gCon.of (lv := [some (.inr (9, 0)), some (.inl a1)]) (by decide +kernel) (Nat.le_of_ble_eq_true rfl) rfl (fun X C => ?_)
  unfold X9_lineAt
  refine r_aload_n C dX9_lineAt_0 rfl rfl ?_
  refine r_get (v := .inr (47, 0)) C fl_X9_7 dX9_lineAt_1 rfl ?_
  refine r_iload_n C dX9_lineAt_4 rfl rfl ?_
  refine r_insI (As := [.inl a1]) (st := [.inr (47, 0)]) C il_X9_96 co_X9_at (c_X9_at a1 m) (by decide) (by decide) rfl rfl (Nat.le_of_ble_eq_true rfl) dX9_lineAt_5 (fun r2 m1 => ?_)
  refine r_iconst (v := 0) C dX9_lineAt_8 (by decide) ?_
  refine r_iadd C dX9_lineAt_9 ?_
  refine r_iald C rfl dX9_lineAt_10 (fun x3 => ?_)
  refine r_iconst (v := 1) C dX9_lineAt_11 (by decide) ?_
  refine r_isub C dX9_lineAt_12 ?_
  exact r_ireturn C dX9_lineAt_13
theorem dX9_placeWith_0 : decode cX9_placeWith 0 = .ok (.iconst 0, 1) := by decide +kernel
theorem dX9_placeWith_1 : decode cX9_placeWith 1 = .ok (.istore_n 2, 1) := by decide +kernel
theorem dX9_placeWith_2 : decode cX9_placeWith 2 = .ok (.iload_n 2, 1) := by decide +kernel
theorem dX9_placeWith_3 : decode cX9_placeWith 3 = .ok (.aload_n 0, 1) := by decide +kernel
theorem dX9_placeWith_4 : decode cX9_placeWith 4 = .ok (.getfield 7, 3) := by decide +kernel
theorem dX9_placeWith_7 : decode cX9_placeWith 7 = .ok (.bipush 36, 2) := by decide +kernel
theorem dX9_placeWith_9 : decode cX9_placeWith 9 = .ok (.iaload, 1) := by decide +kernel
theorem dX9_placeWith_10 : decode cX9_placeWith 10 = .ok (.if_icmp .ge 30, 3) := by decide +kernel
theorem dX9_placeWith_13 : decode cX9_placeWith 13 = .ok (.aload_n 0, 1) := by decide +kernel
theorem dX9_placeWith_14 : decode cX9_placeWith 14 = .ok (.aload_n 0, 1) := by decide +kernel
theorem dX9_placeWith_15 : decode cX9_placeWith 15 = .ok (.iload_n 1, 1) := by decide +kernel
theorem dX9_placeWith_16 : decode cX9_placeWith 16 = .ok (.iload_n 2, 1) := by decide +kernel
theorem dX9_placeWith_17 : decode cX9_placeWith 17 = .ok (.invokevirtual 99, 3) := by decide +kernel
theorem dX9_placeWith_20 : decode cX9_placeWith 20 = .ok (.invokevirtual 102, 3) := by decide +kernel
theorem dX9_placeWith_23 : decode cX9_placeWith 23 = .ok (.iload_n 1, 1) := by decide +kernel
theorem dX9_placeWith_24 : decode cX9_placeWith 24 = .ok (.if_icmp .ne 10, 3) := by decide +kernel
theorem dX9_placeWith_27 : decode cX9_placeWith 27 = .ok (.aload_n 0, 1) := by decide +kernel
theorem dX9_placeWith_28 : decode cX9_placeWith 28 = .ok (.iload_n 1, 1) := by decide +kernel
theorem dX9_placeWith_29 : decode cX9_placeWith 29 = .ok (.iload_n 2, 1) := by decide +kernel
theorem dX9_placeWith_30 : decode cX9_placeWith 30 = .ok (.invokevirtual 99, 3) := by decide +kernel
theorem dX9_placeWith_33 : decode cX9_placeWith 33 = .ok (.ireturn, 1) := by decide +kernel
theorem dX9_placeWith_34 : decode cX9_placeWith 34 = .ok (.iinc 2 1, 3) := by decide +kernel
theorem dX9_placeWith_37 : decode cX9_placeWith 37 = .ok (.goto (-35), 3) := by decide +kernel
theorem dX9_placeWith_40 : decode cX9_placeWith 40 = .ok (.iconst (-1), 1) := by decide +kernel
theorem dX9_placeWith_41 : decode cX9_placeWith 41 = .ok (.ireturn, 1) := by decide +kernel
def X9_placeWith_b2 (a1 : Int32) (j27 : Int32 → gM → Option (Int32 × gM)) (v5 : Int32) (m6 : gM) (k2 : Int32 → gM → Option (Int32 × gM)) : Option (Int32 × gM) :=
  gAt m6 47 0 36 (fun (x7 : Int32) => if x7 ≤ v5 then (some ((-1), m6)) else (gCall (X9_placeOf a1 v5 m6) (fun (r9 : Int32) (m8 : gM) => gCall (X9_lineAt r9 m8) (fun (r11 : Int32) (m10 : gM) => if r11 = a1 then (j27 v5 m10) else (gLet (v5 + 1) (fun (x12 : Int32) => k2 x12 m10))))))
def X9_placeWith (a1 : Int32) (m : gM) : Option (Int32 × gM) :=
  gJ1 (fun (v1 : Int32) (m2 : gM) => gCall (X9_placeOf a1 v1 m2) (fun (r4 : Int32) (m3 : gM) => some (r4, m3))) (fun (j27 : Int32 → gM → Option (Int32 × gM)) => gL1 FU (X9_placeWith_b2 a1 j27) 0 m)
set_option maxRecDepth 100000 in
set_option maxHeartbeats 4000000 in
theorem c_X9_placeWith (a1 : Int32) (m : gM) : gCon eI yX9_placeWith cX9_placeWith 3 (some .int) 3 [.inr (9, 0), .inl a1] m (X9_placeWith a1 m) := by
  refine gCon.of (lv := [some (.inr (9, 0)), some (.inl a1), none]) (by decide +kernel) (Nat.le_of_ble_eq_true rfl) rfl (fun X C => ?_)
  unfold X9_placeWith
  refine r_iconst (v := 0) C dX9_placeWith_0 (by decide) ?_
  refine r_istore_n (lv' := [some (.inr (9, 0)), some (.inl a1), some (.inl 0)]) C dX9_placeWith_1 rfl (by decide) rfl ?_
  refine r_j1 27 (fun v1 => [some (.inr (9, 0)), some (.inl a1), some (.inl v1)]) (fun v1 => []) (fun v1 m2 => ?_) (fun j27 hj27 => ?_)
  · refine r_aload_n C dX9_placeWith_27 rfl rfl ?_
    refine r_iload_n C dX9_placeWith_28 rfl rfl ?_
    refine r_iload_n C dX9_placeWith_29 rfl rfl ?_
    refine r_invI (t := 9) (kb := 0) (As := [.inl a1, .inl v1]) (st := []) C il_X9_99 co_X9_placeOf (by decide) rfl (c_X9_placeOf a1 v1 m2) (by decide) (by decide) rfl rfl (Nat.le_of_ble_eq_true rfl) dX9_placeWith_30 (fun r4 m3 => ?_)
    exact r_ireturn C dX9_placeWith_33
  refine r_weak (lv' := [some (.inr (9, 0)), some (.inl a1), some (.inl 0)]) ⟨rfl, rfl, rfl, trivial⟩ ?_
  refine r_l1 (pj := 2) (fun v5 => [some (.inr (9, 0)), some (.inl a1), some (.inl v5)]) (fun v5 m6 k2 hk2 => ?_) _ _ _
  unfold X9_placeWith_b2
  refine r_iload_n C dX9_placeWith_2 rfl rfl ?_
  refine r_aload_n C dX9_placeWith_3 rfl rfl ?_
  refine r_get (v := .inr (47, 0)) C fl_X9_7 dX9_placeWith_4 rfl ?_
  refine r_bipush (v := 36) C dX9_placeWith_7 (by decide) ?_
  refine r_iald C rfl dX9_placeWith_9 (fun x7 => ?_)
  refine r_icmp_ge (tgt := 40) C dX9_placeWith_10 (by decide) ?_ ?_
  · refine r_iconst (v := (-1)) C dX9_placeWith_40 (by decide) ?_
    exact r_ireturn C dX9_placeWith_41
  refine r_aload_n C dX9_placeWith_13 rfl rfl ?_
  refine r_aload_n C dX9_placeWith_14 rfl rfl ?_
  refine r_iload_n C dX9_placeWith_15 rfl rfl ?_
  refine r_iload_n C dX9_placeWith_16 rfl rfl ?_
  refine r_invI (t := 9) (kb := 0) (As := [.inl a1, .inl v5]) (st := [.inr (9, 0)]) C il_X9_99 co_X9_placeOf (by decide) rfl (c_X9_placeOf a1 v5 m6) (by decide) (by decide) rfl rfl (Nat.le_of_ble_eq_true rfl) dX9_placeWith_17 (fun r9 m8 => ?_)
  refine r_invI (t := 9) (kb := 0) (As := [.inl r9]) (st := []) C il_X9_102 co_X9_lineAt (by decide) rfl (c_X9_lineAt r9 m8) (by decide) (by decide) rfl rfl (Nat.le_of_ble_eq_true rfl) dX9_placeWith_20 (fun r11 m10 => ?_)
  refine r_iload_n C dX9_placeWith_23 rfl rfl ?_
  refine r_icmp_ne (tgt := 34) C dX9_placeWith_24 (by decide) ?_ ?_
  · refine r_iinc (v := 1) C dX9_placeWith_34 (by decide) rfl (by decide) (fun x12 => ?_)
    show gw X eI _ [some (.inr (9, 0)), some (.inl a1), some (.inl x12)] _ _ _
    refine r_goto (tgt := 2) C dX9_placeWith_37 (by decide) ?_
    exact r_weak (lv' := [some (.inr (9, 0)), some (.inl a1), some (.inl x12)]) ⟨rfl, rfl, rfl, trivial⟩ (hk2 _ _)
  exact r_weak (lv' := [some (.inr (9, 0)), some (.inl a1), some (.inl v5)]) ⟨rfl, rfl, rfl, trivial⟩ (hj27 _ _)
theorem dX9_four_0 : decode cX9_four 0 = .ok (.bipush 24, 2) := by decide +kernel
theorem dX9_four_2 : decode cX9_four 2 = .ok (.istore_n 2, 1) := by decide +kernel
theorem dX9_four_3 : decode cX9_four 3 = .ok (.iload_n 2, 1) := by decide +kernel
theorem dX9_four_4 : decode cX9_four 4 = .ok (.ifCond .lt 35, 3) := by decide +kernel
theorem dX9_four_7 : decode cX9_four 7 = .ok (.aload_n 0, 1) := by decide +kernel
theorem dX9_four_8 : decode cX9_four 8 = .ok (.getfield 19, 3) := by decide +kernel
theorem dX9_four_11 : decode cX9_four 11 = .ok (.aload_n 0, 1) := by decide +kernel
theorem dX9_four_12 : decode cX9_four 12 = .ok (.getfield 105, 3) := by decide +kernel
theorem dX9_four_15 : decode cX9_four 15 = .ok (.iload_n 1, 1) := by decide +kernel
theorem dX9_four_16 : decode cX9_four 16 = .ok (.iload_n 2, 1) := by decide +kernel
theorem dX9_four_17 : decode cX9_four 17 = .ok (.ishr, 1) := by decide +kernel
theorem dX9_four_18 : decode cX9_four 18 = .ok (.sipush 255, 3) := by decide +kernel
theorem dX9_four_21 : decode cX9_four 21 = .ok (.iand, 1) := by decide +kernel
theorem dX9_four_22 : decode cX9_four 22 = .ok (.iastore, 1) := by decide +kernel
theorem dX9_four_23 : decode cX9_four 23 = .ok (.aload_n 0, 1) := by decide +kernel
theorem dX9_four_24 : decode cX9_four 24 = .ok (.dup, 1) := by decide +kernel
theorem dX9_four_25 : decode cX9_four 25 = .ok (.getfield 105, 3) := by decide +kernel
theorem dX9_four_28 : decode cX9_four 28 = .ok (.iconst 1, 1) := by decide +kernel
theorem dX9_four_29 : decode cX9_four 29 = .ok (.iadd, 1) := by decide +kernel
theorem dX9_four_30 : decode cX9_four 30 = .ok (.putfield 105, 3) := by decide +kernel
theorem dX9_four_33 : decode cX9_four 33 = .ok (.iinc 2 (-8), 3) := by decide +kernel
theorem dX9_four_36 : decode cX9_four 36 = .ok (.goto (-33), 3) := by decide +kernel
theorem dX9_four_39 : decode cX9_four 39 = .ok (.return_, 1) := by decide +kernel
def X9_four_b3 (a1 : Int32) (v1 : Int32) (m2 : gM) (k3 : Int32 → gM → Option (Unit × gM)) : Option (Unit × gM) :=
  if v1 < 0 then (some ((), m2)) else (gPut m2 50 0 (m2 9 0 4) ((a1 >>> (v1 &&& 31)) &&& 255) (fun (m3 : gM) => gLet ((m3 9 0 4) + 1) (fun (x4 : Int32) => gSet m3 9 0 4 x4 (fun (m5 : gM) => gLet (v1 + (-8)) (fun (x6 : Int32) => k3 x6 m5)))))
def X9_four (a1 : Int32) (m : gM) : Option (Unit × gM) :=
  gL1 FU (X9_four_b3 a1) 24 m
set_option maxRecDepth 100000 in
set_option maxHeartbeats 4000000 in
theorem c_X9_four (a1 : Int32) (m : gM) : gCon eU yX9_four cX9_four 3 none 0 [.inr (9, 0), .inl a1] m (X9_four a1 m) := by
  refine gCon.of (lv := [some (.inr (9, 0)), some (.inl a1), none]) (by decide +kernel) (Nat.le_of_ble_eq_true rfl) rfl (fun X C => ?_)
  unfold X9_four
  refine r_bipush (v := 24) C dX9_four_0 (by decide) ?_
  refine r_istore_n (lv' := [some (.inr (9, 0)), some (.inl a1), some (.inl 24)]) C dX9_four_2 rfl (by decide) rfl ?_
  refine r_weak (lv' := [some (.inr (9, 0)), some (.inl a1), some (.inl 24)]) ⟨rfl, rfl, rfl, trivial⟩ ?_
  refine r_l1 (pj := 3) (fun v1 => [some (.inr (9, 0)), some (.inl a1), some (.inl v1)]) (fun v1 m2 k3 hk3 => ?_) _ _ _
  unfold X9_four_b3
  refine r_iload_n C dX9_four_3 rfl rfl ?_
  refine r_if_lt (tgt := 39) C dX9_four_4 (by decide) ?_ ?_
  · exact r_return C dX9_four_39
  refine r_aload_n C dX9_four_7 rfl rfl ?_
  refine r_get (v := .inr (50, 0)) C fl_X9_19 dX9_four_8 rfl ?_
  refine r_aload_n C dX9_four_11 rfl rfl ?_
  refine r_get (v := .inl (m2 9 0 4)) C fl_X9_105 dX9_four_12 rfl ?_
  refine r_iload_n C dX9_four_15 rfl rfl ?_
  refine r_iload_n C dX9_four_16 rfl rfl ?_
  refine r_ishr C dX9_four_17 ?_
  refine r_sipush (v := 255) C dX9_four_18 (by decide) ?_
  refine r_iand C dX9_four_21 ?_
  refine r_iast C rfl dX9_four_22 (fun m3 => ?_)
  refine r_aload_n C dX9_four_23 rfl rfl ?_
  refine r_dup C dX9_four_24 ?_
  refine r_get (v := .inl (m3 9 0 4)) C fl_X9_105 dX9_four_25 rfl ?_
  refine r_iconst (v := 1) C dX9_four_28 (by decide) ?_
  refine r_iadd C dX9_four_29 ?_
  refine r_let (fun x4 => ?_)
  refine r_put C fl_X9_105 rfl rfl rfl dX9_four_30 (fun m5 => ?_)
  refine r_iinc (v := (-8)) C dX9_four_33 (by decide) rfl (by decide) (fun x6 => ?_)
  show gw X eU _ [some (.inr (9, 0)), some (.inl a1), some (.inl x6)] _ _ _
  refine r_goto (tgt := 3) C dX9_four_36 (by decide) ?_
  exact r_weak (lv' := [some (.inr (9, 0)), some (.inl a1), some (.inl x6)]) ⟨rfl, rfl, rfl, trivial⟩ (hk3 _ _)
theorem dX9_feed_0 : decode cX9_feed 0 = .ok (.aload_n 0, 1) := by decide +kernel
theorem dX9_feed_1 : decode cX9_feed 1 = .ok (.getfield 105, 3) := by decide +kernel
theorem dX9_feed_4 : decode cX9_feed 4 = .ok (.bipush 20, 2) := by decide +kernel
theorem dX9_feed_6 : decode cX9_feed 6 = .ok (.iadd, 1) := by decide +kernel
theorem dX9_feed_7 : decode cX9_feed 7 = .ok (.sipush 300, 3) := by decide +kernel
theorem dX9_feed_10 : decode cX9_feed 10 = .ok (.if_icmp .le 5, 3) := by decide +kernel
theorem dX9_feed_13 : decode cX9_feed 13 = .ok (.iconst (-1), 1) := by decide +kernel
theorem dX9_feed_14 : decode cX9_feed 14 = .ok (.ireturn, 1) := by decide +kernel
theorem dX9_feed_15 : decode cX9_feed 15 = .ok (.aload_n 0, 1) := by decide +kernel
theorem dX9_feed_16 : decode cX9_feed 16 = .ok (.iload_n 1, 1) := by decide +kernel
theorem dX9_feed_17 : decode cX9_feed 17 = .ok (.invokevirtual 108, 3) := by decide +kernel
theorem dX9_feed_20 : decode cX9_feed 20 = .ok (.aload_n 0, 1) := by decide +kernel
theorem dX9_feed_21 : decode cX9_feed 21 = .ok (.iload_n 2, 1) := by decide +kernel
theorem dX9_feed_22 : decode cX9_feed 22 = .ok (.invokevirtual 108, 3) := by decide +kernel
theorem dX9_feed_25 : decode cX9_feed 25 = .ok (.aload_n 0, 1) := by decide +kernel
theorem dX9_feed_26 : decode cX9_feed 26 = .ok (.iload_n 3, 1) := by decide +kernel
theorem dX9_feed_27 : decode cX9_feed 27 = .ok (.invokevirtual 108, 3) := by decide +kernel
theorem dX9_feed_30 : decode cX9_feed 30 = .ok (.aload_n 0, 1) := by decide +kernel
theorem dX9_feed_31 : decode cX9_feed 31 = .ok (.iload 4, 2) := by decide +kernel
theorem dX9_feed_33 : decode cX9_feed 33 = .ok (.invokevirtual 108, 3) := by decide +kernel
theorem dX9_feed_36 : decode cX9_feed 36 = .ok (.aload_n 0, 1) := by decide +kernel
theorem dX9_feed_37 : decode cX9_feed 37 = .ok (.iload 5, 2) := by decide +kernel
theorem dX9_feed_39 : decode cX9_feed 39 = .ok (.invokevirtual 108, 3) := by decide +kernel
theorem dX9_feed_42 : decode cX9_feed 42 = .ok (.aload_n 0, 1) := by decide +kernel
theorem dX9_feed_43 : decode cX9_feed 43 = .ok (.getfield 105, 3) := by decide +kernel
theorem dX9_feed_46 : decode cX9_feed 46 = .ok (.ireturn, 1) := by decide +kernel
def X9_feed (a1 : Int32) (a2 : Int32) (a3 : Int32) (a4 : Int32) (a5 : Int32) (m : gM) : Option (Int32 × gM) :=
  if ((m 9 0 4) + 20) ≤ 300 then (gCall (X9_four a1 m) (fun (r2 : Unit) (m1 : gM) => gCall (X9_four a2 m1) (fun (r4 : Unit) (m3 : gM) => gCall (X9_four a3 m3) (fun (r6 : Unit) (m5 : gM) => gCall (X9_four a4 m5) (fun (r8 : Unit) (m7 : gM) => gCall (X9_four a5 m7) (fun (r10 : Unit) (m9 : gM) => some ((m9 9 0 4), m9))))))) else (some ((-1), m))
set_option maxRecDepth 100000 in
set_option maxHeartbeats 4000000 in
theorem c_X9_feed (a1 : Int32) (a2 : Int32) (a3 : Int32) (a4 : Int32) (a5 : Int32) (m : gM) : gCon eI yX9_feed cX9_feed 6 (some .int) 1 [.inr (9, 0), .inl a1, .inl a2, .inl a3, .inl a4, .inl a5] m (X9_feed a1 a2 a3 a4 a5 m) := by
  refine gCon.of (lv := [some (.inr (9, 0)), some (.inl a1), some (.inl a2), some (.inl a3), some (.inl a4), some (.inl a5)]) (by decide +kernel) (Nat.le_of_ble_eq_true rfl) rfl (fun X C => ?_)
  unfold X9_feed
  refine r_aload_n C dX9_feed_0 rfl rfl ?_
  refine r_get (v := .inl (m 9 0 4)) C fl_X9_105 dX9_feed_1 rfl ?_
  refine r_bipush (v := 20) C dX9_feed_4 (by decide) ?_
  refine r_iadd C dX9_feed_6 ?_
  refine r_sipush (v := 300) C dX9_feed_7 (by decide) ?_
  refine r_icmp_le (tgt := 15) C dX9_feed_10 (by decide) ?_ ?_
  · refine r_aload_n C dX9_feed_15 rfl rfl ?_
    refine r_iload_n C dX9_feed_16 rfl rfl ?_
    refine r_invU (t := 9) (kb := 0) (As := [.inl a1]) (st := []) C il_X9_108 co_X9_four (by decide) rfl (c_X9_four a1 m) (by decide) (by decide) rfl rfl (Nat.le_of_ble_eq_true rfl) dX9_feed_17 (fun r2 m1 => ?_)
    refine r_aload_n C dX9_feed_20 rfl rfl ?_
    refine r_iload_n C dX9_feed_21 rfl rfl ?_
    refine r_invU (t := 9) (kb := 0) (As := [.inl a2]) (st := []) C il_X9_108 co_X9_four (by decide) rfl (c_X9_four a2 m1) (by decide) (by decide) rfl rfl (Nat.le_of_ble_eq_true rfl) dX9_feed_22 (fun r4 m3 => ?_)
    refine r_aload_n C dX9_feed_25 rfl rfl ?_
    refine r_iload_n C dX9_feed_26 rfl rfl ?_
    refine r_invU (t := 9) (kb := 0) (As := [.inl a3]) (st := []) C il_X9_108 co_X9_four (by decide) rfl (c_X9_four a3 m3) (by decide) (by decide) rfl rfl (Nat.le_of_ble_eq_true rfl) dX9_feed_27 (fun r6 m5 => ?_)
    refine r_aload_n C dX9_feed_30 rfl rfl ?_
    refine r_iload C dX9_feed_31 rfl ?_
    refine r_invU (t := 9) (kb := 0) (As := [.inl a4]) (st := []) C il_X9_108 co_X9_four (by decide) rfl (c_X9_four a4 m5) (by decide) (by decide) rfl rfl (Nat.le_of_ble_eq_true rfl) dX9_feed_33 (fun r8 m7 => ?_)
    refine r_aload_n C dX9_feed_36 rfl rfl ?_
    refine r_iload C dX9_feed_37 rfl ?_
    refine r_invU (t := 9) (kb := 0) (As := [.inl a5]) (st := []) C il_X9_108 co_X9_four (by decide) rfl (c_X9_four a5 m7) (by decide) (by decide) rfl rfl (Nat.le_of_ble_eq_true rfl) dX9_feed_39 (fun r10 m9 => ?_)
    refine r_aload_n C dX9_feed_42 rfl rfl ?_
    refine r_get (v := .inl (m9 9 0 4)) C fl_X9_105 dX9_feed_43 rfl ?_
    exact r_ireturn C dX9_feed_46
  refine r_iconst (v := (-1)) C dX9_feed_13 (by decide) ?_
  exact r_ireturn C dX9_feed_14
theorem dX9_end_0 : decode cX9_end 0 = .ok (.iload_n 1, 1) := by decide +kernel
theorem dX9_end_1 : decode cX9_end 1 = .ok (.iconst 0, 1) := by decide +kernel
theorem dX9_end_2 : decode cX9_end 2 = .ok (.aload_n 0, 1) := by decide +kernel
theorem dX9_end_3 : decode cX9_end 3 = .ok (.getfield 105, 3) := by decide +kernel
theorem dX9_end_6 : decode cX9_end 6 = .ok (.invokestatic 77, 3) := by decide +kernel
theorem dX9_end_9 : decode cX9_end 9 = .ok (.ifCond .ne 5, 3) := by decide +kernel
theorem dX9_end_12 : decode cX9_end 12 = .ok (.iconst (-1), 1) := by decide +kernel
theorem dX9_end_13 : decode cX9_end 13 = .ok (.ireturn, 1) := by decide +kernel
theorem dX9_end_14 : decode cX9_end 14 = .ok (.aload_n 0, 1) := by decide +kernel
theorem dX9_end_15 : decode cX9_end 15 = .ok (.iload_n 1, 1) := by decide +kernel
theorem dX9_end_16 : decode cX9_end 16 = .ok (.putfield 105, 3) := by decide +kernel
theorem dX9_end_19 : decode cX9_end 19 = .ok (.iload_n 1, 1) := by decide +kernel
theorem dX9_end_20 : decode cX9_end 20 = .ok (.ireturn, 1) := by decide +kernel
def X9_end (a1 : Int32) (m : gM) : Option (Int32 × gM) :=
  gCall (X9_isIn a1 0 (m 9 0 4) m) (fun (r2 : Bool) (m1 : gM) => if r2 = true then (gSet m1 9 0 4 a1 (fun (m3 : gM) => some (a1, m3))) else (some ((-1), m1)))
set_option maxRecDepth 100000 in
set_option maxHeartbeats 4000000 in
theorem c_X9_end (a1 : Int32) (m : gM) : gCon eI yX9_end cX9_end 2 (some .int) 1 [.inr (9, 0), .inl a1] m (X9_end a1 m) := by
  refine gCon.of (lv := [some (.inr (9, 0)), some (.inl a1)]) (by decide +kernel) (Nat.le_of_ble_eq_true rfl) rfl (fun X C => ?_)
  unfold X9_end
  refine r_iload_n C dX9_end_0 rfl rfl ?_
  refine r_iconst (v := 0) C dX9_end_1 (by decide) ?_
  refine r_aload_n C dX9_end_2 rfl rfl ?_
  refine r_get (v := .inl (m 9 0 4)) C fl_X9_105 dX9_end_3 rfl ?_
  refine r_insB (As := [.inl a1, .inl 0, .inl (m 9 0 4)]) (st := []) C il_X9_77 co_X9_isIn (c_X9_isIn a1 0 (m 9 0 4) m) (by decide) (by decide) rfl rfl (Nat.le_of_ble_eq_true rfl) dX9_end_6 (fun r2 m1 => ?_)
  refine r_ifneB (tgt := 14) C dX9_end_9 (by decide) ?_ ?_
  · refine r_aload_n C dX9_end_14 rfl rfl ?_
    refine r_iload_n C dX9_end_15 rfl rfl ?_
    refine r_put C fl_X9_105 rfl rfl rfl dX9_end_16 (fun m3 => ?_)
    refine r_iload_n C dX9_end_19 rfl rfl ?_
    exact r_ireturn C dX9_end_20
  refine r_iconst (v := (-1)) C dX9_end_12 (by decide) ?_
  exact r_ireturn C dX9_end_13
theorem dX9_byteAt_0 : decode cX9_byteAt 0 = .ok (.iload_n 1, 1) := by decide +kernel
theorem dX9_byteAt_1 : decode cX9_byteAt 1 = .ok (.aload_n 0, 1) := by decide +kernel
theorem dX9_byteAt_2 : decode cX9_byteAt 2 = .ok (.getfield 105, 3) := by decide +kernel
theorem dX9_byteAt_5 : decode cX9_byteAt 5 = .ok (.if_icmp .ge 12, 3) := by decide +kernel
theorem dX9_byteAt_8 : decode cX9_byteAt 8 = .ok (.aload_n 0, 1) := by decide +kernel
theorem dX9_byteAt_9 : decode cX9_byteAt 9 = .ok (.getfield 19, 3) := by decide +kernel
theorem dX9_byteAt_12 : decode cX9_byteAt 12 = .ok (.iload_n 1, 1) := by decide +kernel
theorem dX9_byteAt_13 : decode cX9_byteAt 13 = .ok (.iaload, 1) := by decide +kernel
theorem dX9_byteAt_14 : decode cX9_byteAt 14 = .ok (.goto 4, 3) := by decide +kernel
theorem dX9_byteAt_17 : decode cX9_byteAt 17 = .ok (.iconst (-1), 1) := by decide +kernel
theorem dX9_byteAt_18 : decode cX9_byteAt 18 = .ok (.ireturn, 1) := by decide +kernel
def X9_byteAt (a1 : Int32) (m : gM) : Option (Int32 × gM) :=
  if (m 9 0 4) ≤ a1 then (some ((-1), m)) else (gAt m 50 0 a1 (fun (x1 : Int32) => some (x1, m)))
set_option maxRecDepth 100000 in
set_option maxHeartbeats 4000000 in
theorem c_X9_byteAt (a1 : Int32) (m : gM) : gCon eI yX9_byteAt cX9_byteAt 2 (some .int) 0 [.inr (9, 0), .inl a1] m (X9_byteAt a1 m) := by
  refine gCon.of (lv := [some (.inr (9, 0)), some (.inl a1)]) (by decide +kernel) (Nat.le_of_ble_eq_true rfl) rfl (fun X C => ?_)
  unfold X9_byteAt
  refine r_iload_n C dX9_byteAt_0 rfl rfl ?_
  refine r_aload_n C dX9_byteAt_1 rfl rfl ?_
  refine r_get (v := .inl (m 9 0 4)) C fl_X9_105 dX9_byteAt_2 rfl ?_
  refine r_icmp_ge (tgt := 17) C dX9_byteAt_5 (by decide) ?_ ?_
  · refine r_iconst (v := (-1)) C dX9_byteAt_17 (by decide) ?_
    exact r_ireturn C dX9_byteAt_18
  refine r_aload_n C dX9_byteAt_8 rfl rfl ?_
  refine r_get (v := .inr (50, 0)) C fl_X9_19 dX9_byteAt_9 rfl ?_
  refine r_iload_n C dX9_byteAt_12 rfl rfl ?_
  refine r_iald C rfl dX9_byteAt_13 (fun x1 => ?_)
  refine r_goto (tgt := 18) C dX9_byteAt_14 (by decide) ?_
  exact r_ireturn C dX9_byteAt_18
theorem dX9_isFigure_0 : decode cX9_isFigure 0 = .ok (.iload_n 0, 1) := by decide +kernel
theorem dX9_isFigure_1 : decode cX9_isFigure 1 = .ok (.bipush 48, 2) := by decide +kernel
theorem dX9_isFigure_3 : decode cX9_isFigure 3 = .ok (.if_icmp .lt 13, 3) := by decide +kernel
theorem dX9_isFigure_6 : decode cX9_isFigure 6 = .ok (.iload_n 0, 1) := by decide +kernel
theorem dX9_isFigure_7 : decode cX9_isFigure 7 = .ok (.bipush 57, 2) := by decide +kernel
theorem dX9_isFigure_9 : decode cX9_isFigure 9 = .ok (.if_icmp .gt 7, 3) := by decide +kernel
theorem dX9_isFigure_12 : decode cX9_isFigure 12 = .ok (.iconst 1, 1) := by decide +kernel
theorem dX9_isFigure_13 : decode cX9_isFigure 13 = .ok (.goto 4, 3) := by decide +kernel
theorem dX9_isFigure_16 : decode cX9_isFigure 16 = .ok (.iconst 0, 1) := by decide +kernel
theorem dX9_isFigure_17 : decode cX9_isFigure 17 = .ok (.ireturn, 1) := by decide +kernel
def X9_isFigure (a1 : Int32) (m : gM) : Option (Bool × gM) :=
  if a1 < 48 then (some (false, m)) else (if 57 < a1 then (some (false, m)) else (some (true, m)))
set_option maxRecDepth 100000 in
set_option maxHeartbeats 4000000 in
theorem c_X9_isFigure (a1 : Int32) (m : gM) : gCon eB yX9_isFigure cX9_isFigure 1 (some .boolean) 0 [.inl a1] m (X9_isFigure a1 m) := by
  refine gCon.of (lv := [some (.inl a1)]) (by decide +kernel) (Nat.le_of_ble_eq_true rfl) rfl (fun X C => ?_)
  unfold X9_isFigure
  refine r_iload_n C dX9_isFigure_0 rfl rfl ?_
  refine r_bipush (v := 48) C dX9_isFigure_1 (by decide) ?_
  refine r_icmp_lt (tgt := 16) C dX9_isFigure_3 (by decide) ?_ ?_
  · refine r_iconst (v := 0) C dX9_isFigure_16 (by decide) ?_
    exact r_zret0 C dX9_isFigure_17
  refine r_iload_n C dX9_isFigure_6 rfl rfl ?_
  refine r_bipush (v := 57) C dX9_isFigure_7 (by decide) ?_
  refine r_icmp_gt (tgt := 16) C dX9_isFigure_9 (by decide) ?_ ?_
  · refine r_iconst (v := 0) C dX9_isFigure_16 (by decide) ?_
    exact r_zret0 C dX9_isFigure_17
  refine r_iconst (v := 1) C dX9_isFigure_12 (by decide) ?_
  refine r_goto (tgt := 17) C dX9_isFigure_13 (by decide) ?_
  exact r_zret1 C dX9_isFigure_17
theorem dX9_isSign_0 : decode cX9_isSign 0 = .ok (.iload_n 0, 1) := by decide +kernel
theorem dX9_isSign_1 : decode cX9_isSign 1 = .ok (.bipush 114, 2) := by decide +kernel
theorem dX9_isSign_3 : decode cX9_isSign 3 = .ok (.if_icmp .eq 39, 3) := by decide +kernel
theorem dX9_isSign_6 : decode cX9_isSign 6 = .ok (.iload_n 0, 1) := by decide +kernel
theorem dX9_isSign_7 : decode cX9_isSign 7 = .ok (.bipush 119, 2) := by decide +kernel
theorem dX9_isSign_9 : decode cX9_isSign 9 = .ok (.if_icmp .eq 33, 3) := by decide +kernel
theorem dX9_isSign_12 : decode cX9_isSign 12 = .ok (.iload_n 0, 1) := by decide +kernel
theorem dX9_isSign_13 : decode cX9_isSign 13 = .ok (.bipush 43, 2) := by decide +kernel
theorem dX9_isSign_15 : decode cX9_isSign 15 = .ok (.if_icmp .eq 27, 3) := by decide +kernel
theorem dX9_isSign_18 : decode cX9_isSign 18 = .ok (.iload_n 0, 1) := by decide +kernel
theorem dX9_isSign_19 : decode cX9_isSign 19 = .ok (.bipush 42, 2) := by decide +kernel
theorem dX9_isSign_21 : decode cX9_isSign 21 = .ok (.if_icmp .eq 21, 3) := by decide +kernel
theorem dX9_isSign_24 : decode cX9_isSign 24 = .ok (.iload_n 0, 1) := by decide +kernel
theorem dX9_isSign_25 : decode cX9_isSign 25 = .ok (.bipush 58, 2) := by decide +kernel
theorem dX9_isSign_27 : decode cX9_isSign 27 = .ok (.if_icmp .eq 15, 3) := by decide +kernel
theorem dX9_isSign_30 : decode cX9_isSign 30 = .ok (.iload_n 0, 1) := by decide +kernel
theorem dX9_isSign_31 : decode cX9_isSign 31 = .ok (.bipush 40, 2) := by decide +kernel
theorem dX9_isSign_33 : decode cX9_isSign 33 = .ok (.if_icmp .eq 9, 3) := by decide +kernel
theorem dX9_isSign_36 : decode cX9_isSign 36 = .ok (.iload_n 0, 1) := by decide +kernel
theorem dX9_isSign_37 : decode cX9_isSign 37 = .ok (.bipush 41, 2) := by decide +kernel
theorem dX9_isSign_39 : decode cX9_isSign 39 = .ok (.if_icmp .ne 7, 3) := by decide +kernel
theorem dX9_isSign_42 : decode cX9_isSign 42 = .ok (.iconst 1, 1) := by decide +kernel
theorem dX9_isSign_43 : decode cX9_isSign 43 = .ok (.goto 4, 3) := by decide +kernel
theorem dX9_isSign_46 : decode cX9_isSign 46 = .ok (.iconst 0, 1) := by decide +kernel
theorem dX9_isSign_47 : decode cX9_isSign 47 = .ok (.ireturn, 1) := by decide +kernel
def X9_isSign (a1 : Int32) (m : gM) : Option (Bool × gM) :=
  if a1 = 114 then (some (true, m)) else (if a1 = 119 then (some (true, m)) else (if a1 = 43 then (some (true, m)) else (if a1 = 42 then (some (true, m)) else (if a1 = 58 then (some (true, m)) else (if a1 = 40 then (some (true, m)) else (if a1 = 41 then (some (true, m)) else (some (false, m))))))))
set_option maxRecDepth 100000 in
set_option maxHeartbeats 4000000 in
theorem c_X9_isSign (a1 : Int32) (m : gM) : gCon eB yX9_isSign cX9_isSign 1 (some .boolean) 0 [.inl a1] m (X9_isSign a1 m) := by
  refine gCon.of (lv := [some (.inl a1)]) (by decide +kernel) (Nat.le_of_ble_eq_true rfl) rfl (fun X C => ?_)
  unfold X9_isSign
  refine r_iload_n C dX9_isSign_0 rfl rfl ?_
  refine r_bipush (v := 114) C dX9_isSign_1 (by decide) ?_
  refine r_icmp_eq (tgt := 42) C dX9_isSign_3 (by decide) ?_ ?_
  · refine r_iconst (v := 1) C dX9_isSign_42 (by decide) ?_
    refine r_goto (tgt := 47) C dX9_isSign_43 (by decide) ?_
    exact r_zret1 C dX9_isSign_47
  refine r_iload_n C dX9_isSign_6 rfl rfl ?_
  refine r_bipush (v := 119) C dX9_isSign_7 (by decide) ?_
  refine r_icmp_eq (tgt := 42) C dX9_isSign_9 (by decide) ?_ ?_
  · refine r_iconst (v := 1) C dX9_isSign_42 (by decide) ?_
    refine r_goto (tgt := 47) C dX9_isSign_43 (by decide) ?_
    exact r_zret1 C dX9_isSign_47
  refine r_iload_n C dX9_isSign_12 rfl rfl ?_
  refine r_bipush (v := 43) C dX9_isSign_13 (by decide) ?_
  refine r_icmp_eq (tgt := 42) C dX9_isSign_15 (by decide) ?_ ?_
  · refine r_iconst (v := 1) C dX9_isSign_42 (by decide) ?_
    refine r_goto (tgt := 47) C dX9_isSign_43 (by decide) ?_
    exact r_zret1 C dX9_isSign_47
  refine r_iload_n C dX9_isSign_18 rfl rfl ?_
  refine r_bipush (v := 42) C dX9_isSign_19 (by decide) ?_
  refine r_icmp_eq (tgt := 42) C dX9_isSign_21 (by decide) ?_ ?_
  · refine r_iconst (v := 1) C dX9_isSign_42 (by decide) ?_
    refine r_goto (tgt := 47) C dX9_isSign_43 (by decide) ?_
    exact r_zret1 C dX9_isSign_47
  refine r_iload_n C dX9_isSign_24 rfl rfl ?_
  refine r_bipush (v := 58) C dX9_isSign_25 (by decide) ?_
  refine r_icmp_eq (tgt := 42) C dX9_isSign_27 (by decide) ?_ ?_
  · refine r_iconst (v := 1) C dX9_isSign_42 (by decide) ?_
    refine r_goto (tgt := 47) C dX9_isSign_43 (by decide) ?_
    exact r_zret1 C dX9_isSign_47
  refine r_iload_n C dX9_isSign_30 rfl rfl ?_
  refine r_bipush (v := 40) C dX9_isSign_31 (by decide) ?_
  refine r_icmp_eq (tgt := 42) C dX9_isSign_33 (by decide) ?_ ?_
  · refine r_iconst (v := 1) C dX9_isSign_42 (by decide) ?_
    refine r_goto (tgt := 47) C dX9_isSign_43 (by decide) ?_
    exact r_zret1 C dX9_isSign_47
  refine r_iload_n C dX9_isSign_36 rfl rfl ?_
  refine r_bipush (v := 41) C dX9_isSign_37 (by decide) ?_
  refine r_icmp_ne (tgt := 46) C dX9_isSign_39 (by decide) ?_ ?_
  · refine r_iconst (v := 0) C dX9_isSign_46 (by decide) ?_
    exact r_zret0 C dX9_isSign_47
  refine r_iconst (v := 1) C dX9_isSign_42 (by decide) ?_
  refine r_goto (tgt := 47) C dX9_isSign_43 (by decide) ?_
  exact r_zret1 C dX9_isSign_47
theorem dX9_nextToken_0 : decode cX9_nextToken 0 = .ok (.aload_n 0, 1) := by decide +kernel
theorem dX9_nextToken_1 : decode cX9_nextToken 1 = .ok (.aload_n 0, 1) := by decide +kernel
theorem dX9_nextToken_2 : decode cX9_nextToken 2 = .ok (.getfield 111, 3) := by decide +kernel
theorem dX9_nextToken_5 : decode cX9_nextToken 5 = .ok (.invokevirtual 113, 3) := by decide +kernel
theorem dX9_nextToken_8 : decode cX9_nextToken 8 = .ok (.bipush 32, 2) := by decide +kernel
theorem dX9_nextToken_10 : decode cX9_nextToken 10 = .ok (.if_icmp .eq 16, 3) := by decide +kernel
theorem dX9_nextToken_13 : decode cX9_nextToken 13 = .ok (.aload_n 0, 1) := by decide +kernel
theorem dX9_nextToken_14 : decode cX9_nextToken 14 = .ok (.aload_n 0, 1) := by decide +kernel
theorem dX9_nextToken_15 : decode cX9_nextToken 15 = .ok (.getfield 111, 3) := by decide +kernel
theorem dX9_nextToken_18 : decode cX9_nextToken 18 = .ok (.invokevirtual 113, 3) := by decide +kernel
theorem dX9_nextToken_21 : decode cX9_nextToken 21 = .ok (.bipush 10, 2) := by decide +kernel
theorem dX9_nextToken_23 : decode cX9_nextToken 23 = .ok (.if_icmp .ne 16, 3) := by decide +kernel
theorem dX9_nextToken_26 : decode cX9_nextToken 26 = .ok (.aload_n 0, 1) := by decide +kernel
theorem dX9_nextToken_27 : decode cX9_nextToken 27 = .ok (.dup, 1) := by decide +kernel
theorem dX9_nextToken_28 : decode cX9_nextToken 28 = .ok (.getfield 111, 3) := by decide +kernel
theorem dX9_nextToken_31 : decode cX9_nextToken 31 = .ok (.iconst 1, 1) := by decide +kernel
theorem dX9_nextToken_32 : decode cX9_nextToken 32 = .ok (.iadd, 1) := by decide +kernel
theorem dX9_nextToken_33 : decode cX9_nextToken 33 = .ok (.putfield 111, 3) := by decide +kernel
theorem dX9_nextToken_36 : decode cX9_nextToken 36 = .ok (.goto (-36), 3) := by decide +kernel
theorem dX9_nextToken_39 : decode cX9_nextToken 39 = .ok (.aload_n 0, 1) := by decide +kernel
theorem dX9_nextToken_40 : decode cX9_nextToken 40 = .ok (.aload_n 0, 1) := by decide +kernel
theorem dX9_nextToken_41 : decode cX9_nextToken 41 = .ok (.getfield 111, 3) := by decide +kernel
theorem dX9_nextToken_44 : decode cX9_nextToken 44 = .ok (.putfield 116, 3) := by decide +kernel
theorem dX9_nextToken_47 : decode cX9_nextToken 47 = .ok (.aload_n 0, 1) := by decide +kernel
theorem dX9_nextToken_48 : decode cX9_nextToken 48 = .ok (.iconst 0, 1) := by decide +kernel
theorem dX9_nextToken_49 : decode cX9_nextToken 49 = .ok (.putfield 119, 3) := by decide +kernel
theorem dX9_nextToken_52 : decode cX9_nextToken 52 = .ok (.aload_n 0, 1) := by decide +kernel
theorem dX9_nextToken_53 : decode cX9_nextToken 53 = .ok (.aload_n 0, 1) := by decide +kernel
theorem dX9_nextToken_54 : decode cX9_nextToken 54 = .ok (.getfield 111, 3) := by decide +kernel
theorem dX9_nextToken_57 : decode cX9_nextToken 57 = .ok (.invokevirtual 113, 3) := by decide +kernel
theorem dX9_nextToken_60 : decode cX9_nextToken 60 = .ok (.istore_n 1, 1) := by decide +kernel
theorem dX9_nextToken_61 : decode cX9_nextToken 61 = .ok (.iload_n 1, 1) := by decide +kernel
theorem dX9_nextToken_62 : decode cX9_nextToken 62 = .ok (.ifCond .ge 11, 3) := by decide +kernel
theorem dX9_nextToken_65 : decode cX9_nextToken 65 = .ok (.aload_n 0, 1) := by decide +kernel
theorem dX9_nextToken_66 : decode cX9_nextToken 66 = .ok (.iconst 0, 1) := by decide +kernel
theorem dX9_nextToken_67 : decode cX9_nextToken 67 = .ok (.putfield 122, 3) := by decide +kernel
theorem dX9_nextToken_70 : decode cX9_nextToken 70 = .ok (.goto 107, 3) := by decide +kernel
theorem dX9_nextToken_73 : decode cX9_nextToken 73 = .ok (.iload_n 1, 1) := by decide +kernel
theorem dX9_nextToken_74 : decode cX9_nextToken 74 = .ok (.invokestatic 125, 3) := by decide +kernel
theorem dX9_nextToken_77 : decode cX9_nextToken 77 = .ok (.ifCond .eq 74, 3) := by decide +kernel
theorem dX9_nextToken_80 : decode cX9_nextToken 80 = .ok (.aload_n 0, 1) := by decide +kernel
theorem dX9_nextToken_81 : decode cX9_nextToken 81 = .ok (.iconst 1, 1) := by decide +kernel
theorem dX9_nextToken_82 : decode cX9_nextToken 82 = .ok (.putfield 122, 3) := by decide +kernel
theorem dX9_nextToken_85 : decode cX9_nextToken 85 = .ok (.aload_n 0, 1) := by decide +kernel
theorem dX9_nextToken_86 : decode cX9_nextToken 86 = .ok (.aload_n 0, 1) := by decide +kernel
theorem dX9_nextToken_87 : decode cX9_nextToken 87 = .ok (.getfield 111, 3) := by decide +kernel
theorem dX9_nextToken_90 : decode cX9_nextToken 90 = .ok (.invokevirtual 113, 3) := by decide +kernel
theorem dX9_nextToken_93 : decode cX9_nextToken 93 = .ok (.invokestatic 125, 3) := by decide +kernel
theorem dX9_nextToken_96 : decode cX9_nextToken 96 = .ok (.ifCond .eq 81, 3) := by decide +kernel
theorem dX9_nextToken_99 : decode cX9_nextToken 99 = .ok (.aload_n 0, 1) := by decide +kernel
theorem dX9_nextToken_100 : decode cX9_nextToken 100 = .ok (.aload_n 0, 1) := by decide +kernel
theorem dX9_nextToken_101 : decode cX9_nextToken 101 = .ok (.getfield 119, 3) := by decide +kernel
theorem dX9_nextToken_104 : decode cX9_nextToken 104 = .ok (.ldc 129, 2) := by decide +kernel
theorem dX9_nextToken_106 : decode cX9_nextToken 106 = .ok (.if_icmp .le 10, 3) := by decide +kernel
theorem dX9_nextToken_109 : decode cX9_nextToken 109 = .ok (.aload_n 0, 1) := by decide +kernel
theorem dX9_nextToken_110 : decode cX9_nextToken 110 = .ok (.getfield 119, 3) := by decide +kernel
theorem dX9_nextToken_113 : decode cX9_nextToken 113 = .ok (.goto 22, 3) := by decide +kernel
theorem dX9_nextToken_116 : decode cX9_nextToken 116 = .ok (.bipush 10, 2) := by decide +kernel
theorem dX9_nextToken_118 : decode cX9_nextToken 118 = .ok (.aload_n 0, 1) := by decide +kernel
theorem dX9_nextToken_119 : decode cX9_nextToken 119 = .ok (.getfield 119, 3) := by decide +kernel
theorem dX9_nextToken_122 : decode cX9_nextToken 122 = .ok (.imul, 1) := by decide +kernel
theorem dX9_nextToken_123 : decode cX9_nextToken 123 = .ok (.aload_n 0, 1) := by decide +kernel
theorem dX9_nextToken_124 : decode cX9_nextToken 124 = .ok (.aload_n 0, 1) := by decide +kernel
theorem dX9_nextToken_125 : decode cX9_nextToken 125 = .ok (.getfield 111, 3) := by decide +kernel
theorem dX9_nextToken_128 : decode cX9_nextToken 128 = .ok (.invokevirtual 113, 3) := by decide +kernel
theorem dX9_nextToken_131 : decode cX9_nextToken 131 = .ok (.iadd, 1) := by decide +kernel
theorem dX9_nextToken_132 : decode cX9_nextToken 132 = .ok (.bipush 48, 2) := by decide +kernel
theorem dX9_nextToken_134 : decode cX9_nextToken 134 = .ok (.isub, 1) := by decide +kernel
theorem dX9_nextToken_135 : decode cX9_nextToken 135 = .ok (.putfield 119, 3) := by decide +kernel
theorem dX9_nextToken_138 : decode cX9_nextToken 138 = .ok (.aload_n 0, 1) := by decide +kernel
theorem dX9_nextToken_139 : decode cX9_nextToken 139 = .ok (.dup, 1) := by decide +kernel
theorem dX9_nextToken_140 : decode cX9_nextToken 140 = .ok (.getfield 111, 3) := by decide +kernel
theorem dX9_nextToken_143 : decode cX9_nextToken 143 = .ok (.iconst 1, 1) := by decide +kernel
theorem dX9_nextToken_144 : decode cX9_nextToken 144 = .ok (.iadd, 1) := by decide +kernel
theorem dX9_nextToken_145 : decode cX9_nextToken 145 = .ok (.putfield 111, 3) := by decide +kernel
theorem dX9_nextToken_148 : decode cX9_nextToken 148 = .ok (.goto (-63), 3) := by decide +kernel
theorem dX9_nextToken_151 : decode cX9_nextToken 151 = .ok (.aload_n 0, 1) := by decide +kernel
theorem dX9_nextToken_152 : decode cX9_nextToken 152 = .ok (.iload_n 1, 1) := by decide +kernel
theorem dX9_nextToken_153 : decode cX9_nextToken 153 = .ok (.invokestatic 130, 3) := by decide +kernel
theorem dX9_nextToken_156 : decode cX9_nextToken 156 = .ok (.ifCond .eq 7, 3) := by decide +kernel
theorem dX9_nextToken_159 : decode cX9_nextToken 159 = .ok (.iload_n 1, 1) := by decide +kernel
theorem dX9_nextToken_160 : decode cX9_nextToken 160 = .ok (.goto 4, 3) := by decide +kernel
theorem dX9_nextToken_163 : decode cX9_nextToken 163 = .ok (.iconst 2, 1) := by decide +kernel
theorem dX9_nextToken_164 : decode cX9_nextToken 164 = .ok (.putfield 122, 3) := by decide +kernel
theorem dX9_nextToken_167 : decode cX9_nextToken 167 = .ok (.aload_n 0, 1) := by decide +kernel
theorem dX9_nextToken_168 : decode cX9_nextToken 168 = .ok (.dup, 1) := by decide +kernel
theorem dX9_nextToken_169 : decode cX9_nextToken 169 = .ok (.getfield 111, 3) := by decide +kernel
theorem dX9_nextToken_172 : decode cX9_nextToken 172 = .ok (.iconst 1, 1) := by decide +kernel
theorem dX9_nextToken_173 : decode cX9_nextToken 173 = .ok (.iadd, 1) := by decide +kernel
theorem dX9_nextToken_174 : decode cX9_nextToken 174 = .ok (.putfield 111, 3) := by decide +kernel
theorem dX9_nextToken_177 : decode cX9_nextToken 177 = .ok (.return_, 1) := by decide +kernel
def X9_nextToken_b85 (m16 : gM) (k85 : gM → Option (Unit × gM)) : Option (Unit × gM) :=
  gCall (X9_byteAt (m16 9 0 7) m16) (fun (r18 : Int32) (m17 : gM) => gCall (X9_isFigure r18 m17) (fun (r20 : Bool) (m19 : gM) => if r20 = true then (gJ1 (fun (w21 : Int32) (m22 : gM) => gSet m22 9 0 10 w21 (fun (m23 : gM) => gLet ((m23 9 0 7) + 1) (fun (x24 : Int32) => gSet m23 9 0 7 x24 (fun (m25 : gM) => k85 m25)))) (fun (j135 : Int32 → gM → Option (Unit × gM)) => if (m19 9 0 10) ≤ 99999 then (gCall (X9_byteAt (m19 9 0 7) m19) (fun (r27 : Int32) (m26 : gM) => j135 (((10 * (m19 9 0 10)) + r27) - 48) m26)) else (j135 (m19 9 0 10) m19))) else (some ((), m19))))
def X9_nextToken_b0 (j39 : gM → Option (Unit × gM)) (m29 : gM) (k0 : gM → Option (Unit × gM)) : Option (Unit × gM) :=
  gCall (X9_byteAt (m29 9 0 7) m29) (fun (r31 : Int32) (m30 : gM) => gJ0 (fun (m32 : gM) => gLet ((m32 9 0 7) + 1) (fun (x33 : Int32) => gSet m32 9 0 7 x33 (fun (m34 : gM) => k0 m34))) (fun (j26 : gM → Option (Unit × gM)) => if r31 = 32 then (j26 m30) else (gCall (X9_byteAt (m30 9 0 7) m30) (fun (r36 : Int32) (m35 : gM) => if r36 = 10 then (j26 m35) else (j39 m35)))))
def X9_nextToken (m : gM) : Option (Unit × gM) :=
  gJ0 (fun (m1 : gM) => gSet m1 9 0 8 (m1 9 0 7) (fun (m2 : gM) => gSet m2 9 0 10 0 (fun (m3 : gM) => gCall (X9_byteAt (m3 9 0 7) m3) (fun (r5 : Int32) (m4 : gM) => if 0 ≤ r5 then (gCall (X9_isFigure r5 m4) (fun (r7 : Bool) (m6 : gM) => if r7 = true then (gSet m6 9 0 9 1 (fun (m15 : gM) => gL0 FU X9_nextToken_b85 m15)) else (gCall (X9_isSign r5 m6) (fun (r9 : Bool) (m8 : gM) => gJ1 (fun (w10 : Int32) (m11 : gM) => gSet m11 9 0 9 w10 (fun (m12 : gM) => gLet ((m12 9 0 7) + 1) (fun (x13 : Int32) => gSet m12 9 0 7 x13 (fun (m14 : gM) => some ((), m14))))) (fun (j164 : Int32 → gM → Option (Unit × gM)) => if r9 = true then (j164 r5 m8) else (j164 2 m8)))))) else (gSet m4 9 0 9 0 (fun (m28 : gM) => some ((), m28))))))) (fun (j39 : gM → Option (Unit × gM)) => gL0 FU (X9_nextToken_b0 j39) m)
set_option maxRecDepth 100000 in
set_option maxHeartbeats 4000000 in
theorem c_X9_nextToken (m : gM) : gCon eU yX9_nextToken cX9_nextToken 2 none 1 [.inr (9, 0)] m (X9_nextToken m) := by
  refine gCon.of (lv := [some (.inr (9, 0)), none]) (by decide +kernel) (Nat.le_of_ble_eq_true rfl) rfl (fun X C => ?_)
  unfold X9_nextToken
  refine r_j0 39 [some (.inr (9, 0)), none] [] (fun m1 => ?_) (fun j39 hj39 => ?_)
  · refine r_aload_n C dX9_nextToken_39 rfl rfl ?_
    refine r_aload_n C dX9_nextToken_40 rfl rfl ?_
    refine r_get (v := .inl (m1 9 0 7)) C fl_X9_111 dX9_nextToken_41 rfl ?_
    refine r_put C fl_X9_116 rfl rfl rfl dX9_nextToken_44 (fun m2 => ?_)
    refine r_aload_n C dX9_nextToken_47 rfl rfl ?_
    refine r_iconst (v := 0) C dX9_nextToken_48 (by decide) ?_
    refine r_put C fl_X9_119 rfl rfl rfl dX9_nextToken_49 (fun m3 => ?_)
    refine r_aload_n C dX9_nextToken_52 rfl rfl ?_
    refine r_aload_n C dX9_nextToken_53 rfl rfl ?_
    refine r_get (v := .inl (m3 9 0 7)) C fl_X9_111 dX9_nextToken_54 rfl ?_
    refine r_invI (t := 9) (kb := 0) (As := [.inl (m3 9 0 7)]) (st := []) C il_X9_113 co_X9_byteAt (by decide) rfl (c_X9_byteAt (m3 9 0 7) m3) (by decide) (by decide) rfl rfl (Nat.le_of_ble_eq_true rfl) dX9_nextToken_57 (fun r5 m4 => ?_)
    refine r_istore_n (lv' := [some (.inr (9, 0)), some (.inl r5)]) C dX9_nextToken_60 rfl (by decide) rfl ?_
    refine r_iload_n C dX9_nextToken_61 rfl rfl ?_
    refine r_if_ge (tgt := 73) C dX9_nextToken_62 (by decide) ?_ ?_
    · refine r_iload_n C dX9_nextToken_73 rfl rfl ?_
      refine r_insB (As := [.inl r5]) (st := []) C il_X9_125 co_X9_isFigure (c_X9_isFigure r5 m4) (by decide) (by decide) rfl rfl (Nat.le_of_ble_eq_true rfl) dX9_nextToken_74 (fun r7 m6 => ?_)
      refine r_ifeqB (tgt := 151) C dX9_nextToken_77 (by decide) ?_ ?_
      · refine r_aload_n C dX9_nextToken_151 rfl rfl ?_
        refine r_iload_n C dX9_nextToken_152 rfl rfl ?_
        refine r_insB (As := [.inl r5]) (st := [.inr (9, 0)]) C il_X9_130 co_X9_isSign (c_X9_isSign r5 m6) (by decide) (by decide) rfl rfl (Nat.le_of_ble_eq_true rfl) dX9_nextToken_153 (fun r9 m8 => ?_)
        refine r_j1 164 (fun w10 => [some (.inr (9, 0)), none]) (fun w10 => [.inl w10, .inr (9, 0)]) (fun w10 m11 => ?_) (fun j164 hj164 => ?_)
        · refine r_put C fl_X9_122 rfl rfl rfl dX9_nextToken_164 (fun m12 => ?_)
          refine r_aload_n C dX9_nextToken_167 rfl rfl ?_
          refine r_dup C dX9_nextToken_168 ?_
          refine r_get (v := .inl (m12 9 0 7)) C fl_X9_111 dX9_nextToken_169 rfl ?_
          refine r_iconst (v := 1) C dX9_nextToken_172 (by decide) ?_
          refine r_iadd C dX9_nextToken_173 ?_
          refine r_let (fun x13 => ?_)
          refine r_put C fl_X9_111 rfl rfl rfl dX9_nextToken_174 (fun m14 => ?_)
          exact r_return C dX9_nextToken_177
        refine r_ifeqB (tgt := 163) C dX9_nextToken_156 (by decide) ?_ ?_
        · refine r_iconst (v := 2) C dX9_nextToken_163 (by decide) ?_
          exact r_weak (lv' := [some (.inr (9, 0)), none]) ⟨rfl, trivial⟩ (hj164 _ _)
        refine r_iload_n C dX9_nextToken_159 rfl rfl ?_
        refine r_goto (tgt := 164) C dX9_nextToken_160 (by decide) ?_
        exact r_weak (lv' := [some (.inr (9, 0)), none]) ⟨rfl, trivial⟩ (hj164 _ _)
      refine r_aload_n C dX9_nextToken_80 rfl rfl ?_
      refine r_iconst (v := 1) C dX9_nextToken_81 (by decide) ?_
      refine r_put C fl_X9_122 rfl rfl rfl dX9_nextToken_82 (fun m15 => ?_)
      refine r_weak (lv' := [some (.inr (9, 0)), none]) ⟨rfl, trivial⟩ ?_
      refine r_l0 (pj := 85) [some (.inr (9, 0)), none] (fun m16 k85 hk85 => ?_) _ _
      unfold X9_nextToken_b85
      refine r_aload_n C dX9_nextToken_85 rfl rfl ?_
      refine r_aload_n C dX9_nextToken_86 rfl rfl ?_
      refine r_get (v := .inl (m16 9 0 7)) C fl_X9_111 dX9_nextToken_87 rfl ?_
      refine r_invI (t := 9) (kb := 0) (As := [.inl (m16 9 0 7)]) (st := []) C il_X9_113 co_X9_byteAt (by decide) rfl (c_X9_byteAt (m16 9 0 7) m16) (by decide) (by decide) rfl rfl (Nat.le_of_ble_eq_true rfl) dX9_nextToken_90 (fun r18 m17 => ?_)
      refine r_insB (As := [.inl r18]) (st := []) C il_X9_125 co_X9_isFigure (c_X9_isFigure r18 m17) (by decide) (by decide) rfl rfl (Nat.le_of_ble_eq_true rfl) dX9_nextToken_93 (fun r20 m19 => ?_)
      refine r_ifeqB (tgt := 177) C dX9_nextToken_96 (by decide) ?_ ?_
      · exact r_return C dX9_nextToken_177
      refine r_aload_n C dX9_nextToken_99 rfl rfl ?_
      refine r_aload_n C dX9_nextToken_100 rfl rfl ?_
      refine r_get (v := .inl (m19 9 0 10)) C fl_X9_119 dX9_nextToken_101 rfl ?_
      refine r_ldc (v := 99999) C kc_X9_129 dX9_nextToken_104 ?_
      refine r_j1 135 (fun w21 => [some (.inr (9, 0)), none]) (fun w21 => [.inl w21, .inr (9, 0)]) (fun w21 m22 => ?_) (fun j135 hj135 => ?_)
      · refine r_put C fl_X9_119 rfl rfl rfl dX9_nextToken_135 (fun m23 => ?_)
        refine r_aload_n C dX9_nextToken_138 rfl rfl ?_
        refine r_dup C dX9_nextToken_139 ?_
        refine r_get (v := .inl (m23 9 0 7)) C fl_X9_111 dX9_nextToken_140 rfl ?_
        refine r_iconst (v := 1) C dX9_nextToken_143 (by decide) ?_
        refine r_iadd C dX9_nextToken_144 ?_
        refine r_let (fun x24 => ?_)
        refine r_put C fl_X9_111 rfl rfl rfl dX9_nextToken_145 (fun m25 => ?_)
        refine r_goto (tgt := 85) C dX9_nextToken_148 (by decide) ?_
        exact r_weak (lv' := [some (.inr (9, 0)), none]) ⟨rfl, trivial⟩ (hk85 _)
      refine r_icmp_le (tgt := 116) C dX9_nextToken_106 (by decide) ?_ ?_
      · refine r_bipush (v := 10) C dX9_nextToken_116 (by decide) ?_
        refine r_aload_n C dX9_nextToken_118 rfl rfl ?_
        refine r_get (v := .inl (m19 9 0 10)) C fl_X9_119 dX9_nextToken_119 rfl ?_
        refine r_imul C dX9_nextToken_122 ?_
        refine r_aload_n C dX9_nextToken_123 rfl rfl ?_
        refine r_aload_n C dX9_nextToken_124 rfl rfl ?_
        refine r_get (v := .inl (m19 9 0 7)) C fl_X9_111 dX9_nextToken_125 rfl ?_
        refine r_invI (t := 9) (kb := 0) (As := [.inl (m19 9 0 7)]) (st := [.inl (10 * (m19 9 0 10)), .inr (9, 0)]) C il_X9_113 co_X9_byteAt (by decide) rfl (c_X9_byteAt (m19 9 0 7) m19) (by decide) (by decide) rfl rfl (Nat.le_of_ble_eq_true rfl) dX9_nextToken_128 (fun r27 m26 => ?_)
        refine r_iadd C dX9_nextToken_131 ?_
        refine r_bipush (v := 48) C dX9_nextToken_132 (by decide) ?_
        refine r_isub C dX9_nextToken_134 ?_
        exact r_weak (lv' := [some (.inr (9, 0)), none]) ⟨rfl, trivial⟩ (hj135 _ _)
      refine r_aload_n C dX9_nextToken_109 rfl rfl ?_
      refine r_get (v := .inl (m19 9 0 10)) C fl_X9_119 dX9_nextToken_110 rfl ?_
      refine r_goto (tgt := 135) C dX9_nextToken_113 (by decide) ?_
      exact r_weak (lv' := [some (.inr (9, 0)), none]) ⟨rfl, trivial⟩ (hj135 _ _)
    refine r_aload_n C dX9_nextToken_65 rfl rfl ?_
    refine r_iconst (v := 0) C dX9_nextToken_66 (by decide) ?_
    refine r_put C fl_X9_122 rfl rfl rfl dX9_nextToken_67 (fun m28 => ?_)
    refine r_goto (tgt := 177) C dX9_nextToken_70 (by decide) ?_
    exact r_return C dX9_nextToken_177
  refine r_weak (lv' := [some (.inr (9, 0)), none]) ⟨rfl, trivial⟩ ?_
  refine r_l0 (pj := 0) [some (.inr (9, 0)), none] (fun m29 k0 hk0 => ?_) _ _
  unfold X9_nextToken_b0
  refine r_aload_n C dX9_nextToken_0 rfl rfl ?_
  refine r_aload_n C dX9_nextToken_1 rfl rfl ?_
  refine r_get (v := .inl (m29 9 0 7)) C fl_X9_111 dX9_nextToken_2 rfl ?_
  refine r_invI (t := 9) (kb := 0) (As := [.inl (m29 9 0 7)]) (st := []) C il_X9_113 co_X9_byteAt (by decide) rfl (c_X9_byteAt (m29 9 0 7) m29) (by decide) (by decide) rfl rfl (Nat.le_of_ble_eq_true rfl) dX9_nextToken_5 (fun r31 m30 => ?_)
  refine r_bipush (v := 32) C dX9_nextToken_8 (by decide) ?_
  refine r_j0 26 [some (.inr (9, 0)), none] [] (fun m32 => ?_) (fun j26 hj26 => ?_)
  · refine r_aload_n C dX9_nextToken_26 rfl rfl ?_
    refine r_dup C dX9_nextToken_27 ?_
    refine r_get (v := .inl (m32 9 0 7)) C fl_X9_111 dX9_nextToken_28 rfl ?_
    refine r_iconst (v := 1) C dX9_nextToken_31 (by decide) ?_
    refine r_iadd C dX9_nextToken_32 ?_
    refine r_let (fun x33 => ?_)
    refine r_put C fl_X9_111 rfl rfl rfl dX9_nextToken_33 (fun m34 => ?_)
    refine r_goto (tgt := 0) C dX9_nextToken_36 (by decide) ?_
    exact r_weak (lv' := [some (.inr (9, 0)), none]) ⟨rfl, trivial⟩ (hk0 _)
  refine r_icmp_eq (tgt := 26) C dX9_nextToken_10 (by decide) ?_ ?_
  · exact r_weak (lv' := [some (.inr (9, 0)), none]) ⟨rfl, trivial⟩ (hj26 _)
  refine r_aload_n C dX9_nextToken_13 rfl rfl ?_
  refine r_aload_n C dX9_nextToken_14 rfl rfl ?_
  refine r_get (v := .inl (m30 9 0 7)) C fl_X9_111 dX9_nextToken_15 rfl ?_
  refine r_invI (t := 9) (kb := 0) (As := [.inl (m30 9 0 7)]) (st := []) C il_X9_113 co_X9_byteAt (by decide) rfl (c_X9_byteAt (m30 9 0 7) m30) (by decide) (by decide) rfl rfl (Nat.le_of_ble_eq_true rfl) dX9_nextToken_18 (fun r36 m35 => ?_)
  refine r_bipush (v := 10) C dX9_nextToken_21 (by decide) ?_
  refine r_icmp_ne (tgt := 39) C dX9_nextToken_23 (by decide) ?_ ?_
  · exact r_weak (lv' := [some (.inr (9, 0)), none]) ⟨rfl, trivial⟩ (hj39 _)
  exact r_weak (lv' := [some (.inr (9, 0)), none]) ⟨rfl, trivial⟩ (hj26 _)
theorem dX9_lay_0 : decode cX9_lay 0 = .ok (.aload_n 0, 1) := by decide +kernel
theorem dX9_lay_1 : decode cX9_lay 1 = .ok (.getfield 16, 3) := by decide +kernel
theorem dX9_lay_4 : decode cX9_lay 4 = .ok (.aload_n 0, 1) := by decide +kernel
theorem dX9_lay_5 : decode cX9_lay 5 = .ok (.getfield 133, 3) := by decide +kernel
theorem dX9_lay_8 : decode cX9_lay 8 = .ok (.iaload, 1) := by decide +kernel
theorem dX9_lay_9 : decode cX9_lay 9 = .ok (.istore_n 3, 1) := by decide +kernel
theorem dX9_lay_10 : decode cX9_lay 10 = .ok (.iload_n 3, 1) := by decide +kernel
theorem dX9_lay_11 : decode cX9_lay 11 = .ok (.sipush 600, 3) := by decide +kernel
theorem dX9_lay_14 : decode cX9_lay 14 = .ok (.if_icmp .ne 9, 3) := by decide +kernel
theorem dX9_lay_17 : decode cX9_lay 17 = .ok (.aload_n 0, 1) := by decide +kernel
theorem dX9_lay_18 : decode cX9_lay 18 = .ok (.iconst 1, 1) := by decide +kernel
theorem dX9_lay_19 : decode cX9_lay 19 = .ok (.putfield 136, 3) := by decide +kernel
theorem dX9_lay_22 : decode cX9_lay 22 = .ok (.return_, 1) := by decide +kernel
theorem dX9_lay_23 : decode cX9_lay 23 = .ok (.aload_n 0, 1) := by decide +kernel
theorem dX9_lay_24 : decode cX9_lay 24 = .ok (.getfield 16, 3) := by decide +kernel
theorem dX9_lay_27 : decode cX9_lay 27 = .ok (.aload_n 0, 1) := by decide +kernel
theorem dX9_lay_28 : decode cX9_lay 28 = .ok (.getfield 133, 3) := by decide +kernel
theorem dX9_lay_31 : decode cX9_lay 31 = .ok (.iconst 1, 1) := by decide +kernel
theorem dX9_lay_32 : decode cX9_lay 32 = .ok (.iadd, 1) := by decide +kernel
theorem dX9_lay_33 : decode cX9_lay 33 = .ok (.iconst 2, 1) := by decide +kernel
theorem dX9_lay_34 : decode cX9_lay 34 = .ok (.iload_n 3, 1) := by decide +kernel
theorem dX9_lay_35 : decode cX9_lay 35 = .ok (.imul, 1) := by decide +kernel
theorem dX9_lay_36 : decode cX9_lay 36 = .ok (.iadd, 1) := by decide +kernel
theorem dX9_lay_37 : decode cX9_lay 37 = .ok (.iload_n 1, 1) := by decide +kernel
theorem dX9_lay_38 : decode cX9_lay 38 = .ok (.iastore, 1) := by decide +kernel
theorem dX9_lay_39 : decode cX9_lay 39 = .ok (.aload_n 0, 1) := by decide +kernel
theorem dX9_lay_40 : decode cX9_lay 40 = .ok (.getfield 16, 3) := by decide +kernel
theorem dX9_lay_43 : decode cX9_lay 43 = .ok (.aload_n 0, 1) := by decide +kernel
theorem dX9_lay_44 : decode cX9_lay 44 = .ok (.getfield 133, 3) := by decide +kernel
theorem dX9_lay_47 : decode cX9_lay 47 = .ok (.iconst 2, 1) := by decide +kernel
theorem dX9_lay_48 : decode cX9_lay 48 = .ok (.iadd, 1) := by decide +kernel
theorem dX9_lay_49 : decode cX9_lay 49 = .ok (.iconst 2, 1) := by decide +kernel
theorem dX9_lay_50 : decode cX9_lay 50 = .ok (.iload_n 3, 1) := by decide +kernel
theorem dX9_lay_51 : decode cX9_lay 51 = .ok (.imul, 1) := by decide +kernel
theorem dX9_lay_52 : decode cX9_lay 52 = .ok (.iadd, 1) := by decide +kernel
theorem dX9_lay_53 : decode cX9_lay 53 = .ok (.iload_n 2, 1) := by decide +kernel
theorem dX9_lay_54 : decode cX9_lay 54 = .ok (.iastore, 1) := by decide +kernel
theorem dX9_lay_55 : decode cX9_lay 55 = .ok (.aload_n 0, 1) := by decide +kernel
theorem dX9_lay_56 : decode cX9_lay 56 = .ok (.getfield 16, 3) := by decide +kernel
theorem dX9_lay_59 : decode cX9_lay 59 = .ok (.aload_n 0, 1) := by decide +kernel
theorem dX9_lay_60 : decode cX9_lay 60 = .ok (.getfield 133, 3) := by decide +kernel
theorem dX9_lay_63 : decode cX9_lay 63 = .ok (.dup2, 1) := by decide +kernel
theorem dX9_lay_64 : decode cX9_lay 64 = .ok (.iaload, 1) := by decide +kernel
theorem dX9_lay_65 : decode cX9_lay 65 = .ok (.iconst 1, 1) := by decide +kernel
theorem dX9_lay_66 : decode cX9_lay 66 = .ok (.iadd, 1) := by decide +kernel
theorem dX9_lay_67 : decode cX9_lay 67 = .ok (.iastore, 1) := by decide +kernel
theorem dX9_lay_68 : decode cX9_lay 68 = .ok (.return_, 1) := by decide +kernel
def X9_lay (a1 : Int32) (a2 : Int32) (m : gM) : Option (Unit × gM) :=
  gAt m 49 0 (m 9 0 11) (fun (x1 : Int32) => if x1 = 600 then (gSet m 9 0 12 1 (fun (m6 : gM) => some ((), m6))) else (gPut m 49 0 (((m 9 0 11) + 1) + (2 * x1)) a1 (fun (m2 : gM) => gPut m2 49 0 (((m2 9 0 11) + 2) + (2 * x1)) a2 (fun (m3 : gM) => gAt m3 49 0 (m3 9 0 11) (fun (x4 : Int32) => gPut m3 49 0 (m3 9 0 11) (x4 + 1) (fun (m5 : gM) => some ((), m5)))))))
set_option maxRecDepth 100000 in
set_option maxHeartbeats 4000000 in
theorem c_X9_lay (a1 : Int32) (a2 : Int32) (m : gM) : gCon eU yX9_lay cX9_lay 4 none 0 [.inr (9, 0), .inl a1, .inl a2] m (X9_lay a1 a2 m) := by
  refine gCon.of (lv := [some (.inr (9, 0)), some (.inl a1), some (.inl a2), none]) (by decide +kernel) (Nat.le_of_ble_eq_true rfl) rfl (fun X C => ?_)
  unfold X9_lay
  refine r_aload_n C dX9_lay_0 rfl rfl ?_
  refine r_get (v := .inr (49, 0)) C fl_X9_16 dX9_lay_1 rfl ?_
  refine r_aload_n C dX9_lay_4 rfl rfl ?_
  refine r_get (v := .inl (m 9 0 11)) C fl_X9_133 dX9_lay_5 rfl ?_
  refine r_iald C rfl dX9_lay_8 (fun x1 => ?_)
  refine r_istore_n (lv' := [some (.inr (9, 0)), some (.inl a1), some (.inl a2), some (.inl x1)]) C dX9_lay_9 rfl (by decide) rfl ?_
  refine r_iload_n C dX9_lay_10 rfl rfl ?_
  refine r_sipush (v := 600) C dX9_lay_11 (by decide) ?_
  refine r_icmp_ne (tgt := 23) C dX9_lay_14 (by decide) ?_ ?_
  · refine r_aload_n C dX9_lay_23 rfl rfl ?_
    refine r_get (v := .inr (49, 0)) C fl_X9_16 dX9_lay_24 rfl ?_
    refine r_aload_n C dX9_lay_27 rfl rfl ?_
    refine r_get (v := .inl (m 9 0 11)) C fl_X9_133 dX9_lay_28 rfl ?_
    refine r_iconst (v := 1) C dX9_lay_31 (by decide) ?_
    refine r_iadd C dX9_lay_32 ?_
    refine r_iconst (v := 2) C dX9_lay_33 (by decide) ?_
    refine r_iload_n C dX9_lay_34 rfl rfl ?_
    refine r_imul C dX9_lay_35 ?_
    refine r_iadd C dX9_lay_36 ?_
    refine r_iload_n C dX9_lay_37 rfl rfl ?_
    refine r_iast C rfl dX9_lay_38 (fun m2 => ?_)
    refine r_aload_n C dX9_lay_39 rfl rfl ?_
    refine r_get (v := .inr (49, 0)) C fl_X9_16 dX9_lay_40 rfl ?_
    refine r_aload_n C dX9_lay_43 rfl rfl ?_
    refine r_get (v := .inl (m2 9 0 11)) C fl_X9_133 dX9_lay_44 rfl ?_
    refine r_iconst (v := 2) C dX9_lay_47 (by decide) ?_
    refine r_iadd C dX9_lay_48 ?_
    refine r_iconst (v := 2) C dX9_lay_49 (by decide) ?_
    refine r_iload_n C dX9_lay_50 rfl rfl ?_
    refine r_imul C dX9_lay_51 ?_
    refine r_iadd C dX9_lay_52 ?_
    refine r_iload_n C dX9_lay_53 rfl rfl ?_
    refine r_iast C rfl dX9_lay_54 (fun m3 => ?_)
    refine r_aload_n C dX9_lay_55 rfl rfl ?_
    refine r_get (v := .inr (49, 0)) C fl_X9_16 dX9_lay_56 rfl ?_
    refine r_aload_n C dX9_lay_59 rfl rfl ?_
    refine r_get (v := .inl (m3 9 0 11)) C fl_X9_133 dX9_lay_60 rfl ?_
    refine r_dup2 C dX9_lay_63 ?_
    refine r_iald C rfl dX9_lay_64 (fun x4 => ?_)
    refine r_iconst (v := 1) C dX9_lay_65 (by decide) ?_
    refine r_iadd C dX9_lay_66 ?_
    refine r_iast C rfl dX9_lay_67 (fun m5 => ?_)
    exact r_return C dX9_lay_68
  refine r_aload_n C dX9_lay_17 rfl rfl ?_
  refine r_iconst (v := 1) C dX9_lay_18 (by decide) ?_
  refine r_putG C fl_X9_136 rfl rfl rfl rfl dX9_lay_19 (fun m6 => ?_)
  exact r_return C dX9_lay_22
theorem dX9_numberIn_0 : decode cX9_numberIn 0 = .ok (.aload_n 0, 1) := by decide +kernel
theorem dX9_numberIn_1 : decode cX9_numberIn 1 = .ok (.getfield 122, 3) := by decide +kernel
theorem dX9_numberIn_4 : decode cX9_numberIn 4 = .ok (.iconst 1, 1) := by decide +kernel
theorem dX9_numberIn_5 : decode cX9_numberIn 5 = .ok (.if_icmp .eq 5, 3) := by decide +kernel
theorem dX9_numberIn_8 : decode cX9_numberIn 8 = .ok (.iconst 1, 1) := by decide +kernel
theorem dX9_numberIn_9 : decode cX9_numberIn 9 = .ok (.ireturn, 1) := by decide +kernel
theorem dX9_numberIn_10 : decode cX9_numberIn 10 = .ok (.aload_n 0, 1) := by decide +kernel
theorem dX9_numberIn_11 : decode cX9_numberIn 11 = .ok (.getfield 119, 3) := by decide +kernel
theorem dX9_numberIn_14 : decode cX9_numberIn 14 = .ok (.iload_n 1, 1) := by decide +kernel
theorem dX9_numberIn_15 : decode cX9_numberIn 15 = .ok (.iload_n 2, 1) := by decide +kernel
theorem dX9_numberIn_16 : decode cX9_numberIn 16 = .ok (.invokestatic 77, 3) := by decide +kernel
theorem dX9_numberIn_19 : decode cX9_numberIn 19 = .ok (.ifCond .eq 7, 3) := by decide +kernel
theorem dX9_numberIn_22 : decode cX9_numberIn 22 = .ok (.iconst 0, 1) := by decide +kernel
theorem dX9_numberIn_23 : decode cX9_numberIn 23 = .ok (.goto 4, 3) := by decide +kernel
theorem dX9_numberIn_26 : decode cX9_numberIn 26 = .ok (.iconst 2, 1) := by decide +kernel
theorem dX9_numberIn_27 : decode cX9_numberIn 27 = .ok (.ireturn, 1) := by decide +kernel
def X9_numberIn (a1 : Int32) (a2 : Int32) (m : gM) : Option (Int32 × gM) :=
  if (m 9 0 9) = 1 then (gCall (X9_isIn (m 9 0 10) a1 a2 m) (fun (r2 : Bool) (m1 : gM) => if r2 = true then (some (0, m1)) else (some (2, m1)))) else (some (1, m))
set_option maxRecDepth 100000 in
set_option maxHeartbeats 4000000 in
theorem c_X9_numberIn (a1 : Int32) (a2 : Int32) (m : gM) : gCon eI yX9_numberIn cX9_numberIn 3 (some .int) 1 [.inr (9, 0), .inl a1, .inl a2] m (X9_numberIn a1 a2 m) := by
  refine gCon.of (lv := [some (.inr (9, 0)), some (.inl a1), some (.inl a2)]) (by decide +kernel) (Nat.le_of_ble_eq_true rfl) rfl (fun X C => ?_)
  unfold X9_numberIn
  refine r_aload_n C dX9_numberIn_0 rfl rfl ?_
  refine r_get (v := .inl (m 9 0 9)) C fl_X9_122 dX9_numberIn_1 rfl ?_
  refine r_iconst (v := 1) C dX9_numberIn_4 (by decide) ?_
  refine r_icmp_eq (tgt := 10) C dX9_numberIn_5 (by decide) ?_ ?_
  · refine r_aload_n C dX9_numberIn_10 rfl rfl ?_
    refine r_get (v := .inl (m 9 0 10)) C fl_X9_119 dX9_numberIn_11 rfl ?_
    refine r_iload_n C dX9_numberIn_14 rfl rfl ?_
    refine r_iload_n C dX9_numberIn_15 rfl rfl ?_
    refine r_insB (As := [.inl (m 9 0 10), .inl a1, .inl a2]) (st := []) C il_X9_77 co_X9_isIn (c_X9_isIn (m 9 0 10) a1 a2 m) (by decide) (by decide) rfl rfl (Nat.le_of_ble_eq_true rfl) dX9_numberIn_16 (fun r2 m1 => ?_)
    refine r_ifeqB (tgt := 26) C dX9_numberIn_19 (by decide) ?_ ?_
    · refine r_iconst (v := 2) C dX9_numberIn_26 (by decide) ?_
      exact r_ireturn C dX9_numberIn_27
    refine r_iconst (v := 0) C dX9_numberIn_22 (by decide) ?_
    refine r_goto (tgt := 27) C dX9_numberIn_23 (by decide) ?_
    exact r_ireturn C dX9_numberIn_27
  refine r_iconst (v := 1) C dX9_numberIn_8 (by decide) ?_
  exact r_ireturn C dX9_numberIn_9
theorem dX9_askItem_0 : decode cX9_askItem 0 = .ok (.aload_n 0, 1) := by decide +kernel
theorem dX9_askItem_1 : decode cX9_askItem 1 = .ok (.invokevirtual 140, 3) := by decide +kernel
theorem dX9_askItem_4 : decode cX9_askItem 4 = .ok (.aload_n 0, 1) := by decide +kernel
theorem dX9_askItem_5 : decode cX9_askItem 5 = .ok (.iconst 0, 1) := by decide +kernel
theorem dX9_askItem_6 : decode cX9_askItem 6 = .ok (.sipush 1023, 3) := by decide +kernel
theorem dX9_askItem_9 : decode cX9_askItem 9 = .ok (.invokevirtual 143, 3) := by decide +kernel
theorem dX9_askItem_12 : decode cX9_askItem 12 = .ok (.istore_n 1, 1) := by decide +kernel
theorem dX9_askItem_13 : decode cX9_askItem 13 = .ok (.iload_n 1, 1) := by decide +kernel
theorem dX9_askItem_14 : decode cX9_askItem 14 = .ok (.ifCond .eq 5, 3) := by decide +kernel
theorem dX9_askItem_17 : decode cX9_askItem 17 = .ok (.iload_n 1, 1) := by decide +kernel
theorem dX9_askItem_18 : decode cX9_askItem 18 = .ok (.ireturn, 1) := by decide +kernel
theorem dX9_askItem_19 : decode cX9_askItem 19 = .ok (.aload_n 0, 1) := by decide +kernel
theorem dX9_askItem_20 : decode cX9_askItem 20 = .ok (.getfield 119, 3) := by decide +kernel
theorem dX9_askItem_23 : decode cX9_askItem 23 = .ok (.istore_n 2, 1) := by decide +kernel
theorem dX9_askItem_24 : decode cX9_askItem 24 = .ok (.aload_n 0, 1) := by decide +kernel
theorem dX9_askItem_25 : decode cX9_askItem 25 = .ok (.invokevirtual 140, 3) := by decide +kernel
theorem dX9_askItem_28 : decode cX9_askItem 28 = .ok (.aload_n 0, 1) := by decide +kernel
theorem dX9_askItem_29 : decode cX9_askItem 29 = .ok (.getfield 122, 3) := by decide +kernel
theorem dX9_askItem_32 : decode cX9_askItem 32 = .ok (.bipush 43, 2) := by decide +kernel
theorem dX9_askItem_34 : decode cX9_askItem 34 = .ok (.if_icmp .eq 11, 3) := by decide +kernel
theorem dX9_askItem_37 : decode cX9_askItem 37 = .ok (.aload_n 0, 1) := by decide +kernel
theorem dX9_askItem_38 : decode cX9_askItem 38 = .ok (.iload_n 2, 1) := by decide +kernel
theorem dX9_askItem_39 : decode cX9_askItem 39 = .ok (.iconst (-1), 1) := by decide +kernel
theorem dX9_askItem_40 : decode cX9_askItem 40 = .ok (.invokevirtual 146, 3) := by decide +kernel
theorem dX9_askItem_43 : decode cX9_askItem 43 = .ok (.iconst 0, 1) := by decide +kernel
theorem dX9_askItem_44 : decode cX9_askItem 44 = .ok (.ireturn, 1) := by decide +kernel
theorem dX9_askItem_45 : decode cX9_askItem 45 = .ok (.aload_n 0, 1) := by decide +kernel
theorem dX9_askItem_46 : decode cX9_askItem 46 = .ok (.invokevirtual 140, 3) := by decide +kernel
theorem dX9_askItem_49 : decode cX9_askItem 49 = .ok (.aload_n 0, 1) := by decide +kernel
theorem dX9_askItem_50 : decode cX9_askItem 50 = .ok (.iconst 0, 1) := by decide +kernel
theorem dX9_askItem_51 : decode cX9_askItem 51 = .ok (.sipush 1023, 3) := by decide +kernel
theorem dX9_askItem_54 : decode cX9_askItem 54 = .ok (.invokevirtual 143, 3) := by decide +kernel
theorem dX9_askItem_57 : decode cX9_askItem 57 = .ok (.istore_n 1, 1) := by decide +kernel
theorem dX9_askItem_58 : decode cX9_askItem 58 = .ok (.iload_n 1, 1) := by decide +kernel
theorem dX9_askItem_59 : decode cX9_askItem 59 = .ok (.ifCond .eq 5, 3) := by decide +kernel
theorem dX9_askItem_62 : decode cX9_askItem 62 = .ok (.iload_n 1, 1) := by decide +kernel
theorem dX9_askItem_63 : decode cX9_askItem 63 = .ok (.ireturn, 1) := by decide +kernel
theorem dX9_askItem_64 : decode cX9_askItem 64 = .ok (.aload_n 0, 1) := by decide +kernel
theorem dX9_askItem_65 : decode cX9_askItem 65 = .ok (.getfield 119, 3) := by decide +kernel
theorem dX9_askItem_68 : decode cX9_askItem 68 = .ok (.istore_n 3, 1) := by decide +kernel
theorem dX9_askItem_69 : decode cX9_askItem 69 = .ok (.aload_n 0, 1) := by decide +kernel
theorem dX9_askItem_70 : decode cX9_askItem 70 = .ok (.invokevirtual 140, 3) := by decide +kernel
theorem dX9_askItem_73 : decode cX9_askItem 73 = .ok (.aload_n 0, 1) := by decide +kernel
theorem dX9_askItem_74 : decode cX9_askItem 74 = .ok (.getfield 122, 3) := by decide +kernel
theorem dX9_askItem_77 : decode cX9_askItem 77 = .ok (.bipush 42, 2) := by decide +kernel
theorem dX9_askItem_79 : decode cX9_askItem 79 = .ok (.if_icmp .eq 5, 3) := by decide +kernel
theorem dX9_askItem_82 : decode cX9_askItem 82 = .ok (.iconst 1, 1) := by decide +kernel
theorem dX9_askItem_83 : decode cX9_askItem 83 = .ok (.ireturn, 1) := by decide +kernel
theorem dX9_askItem_84 : decode cX9_askItem 84 = .ok (.aload_n 0, 1) := by decide +kernel
theorem dX9_askItem_85 : decode cX9_askItem 85 = .ok (.invokevirtual 140, 3) := by decide +kernel
theorem dX9_askItem_88 : decode cX9_askItem 88 = .ok (.aload_n 0, 1) := by decide +kernel
theorem dX9_askItem_89 : decode cX9_askItem 89 = .ok (.iconst 1, 1) := by decide +kernel
theorem dX9_askItem_90 : decode cX9_askItem 90 = .ok (.bipush 99, 2) := by decide +kernel
theorem dX9_askItem_92 : decode cX9_askItem 92 = .ok (.invokevirtual 143, 3) := by decide +kernel
theorem dX9_askItem_95 : decode cX9_askItem 95 = .ok (.istore_n 1, 1) := by decide +kernel
theorem dX9_askItem_96 : decode cX9_askItem 96 = .ok (.iload_n 1, 1) := by decide +kernel
theorem dX9_askItem_97 : decode cX9_askItem 97 = .ok (.ifCond .eq 5, 3) := by decide +kernel
theorem dX9_askItem_100 : decode cX9_askItem 100 = .ok (.iload_n 1, 1) := by decide +kernel
theorem dX9_askItem_101 : decode cX9_askItem 101 = .ok (.ireturn, 1) := by decide +kernel
theorem dX9_askItem_102 : decode cX9_askItem 102 = .ok (.iconst 0, 1) := by decide +kernel
theorem dX9_askItem_103 : decode cX9_askItem 103 = .ok (.istore 4, 2) := by decide +kernel
theorem dX9_askItem_105 : decode cX9_askItem 105 = .ok (.iload 4, 2) := by decide +kernel
theorem dX9_askItem_107 : decode cX9_askItem 107 = .ok (.aload_n 0, 1) := by decide +kernel
theorem dX9_askItem_108 : decode cX9_askItem 108 = .ok (.getfield 119, 3) := by decide +kernel
theorem dX9_askItem_111 : decode cX9_askItem 111 = .ok (.if_icmp .ge 24, 3) := by decide +kernel
theorem dX9_askItem_114 : decode cX9_askItem 114 = .ok (.aload_n 0, 1) := by decide +kernel
theorem dX9_askItem_115 : decode cX9_askItem 115 = .ok (.iload_n 2, 1) := by decide +kernel
theorem dX9_askItem_116 : decode cX9_askItem 116 = .ok (.iload 4, 2) := by decide +kernel
theorem dX9_askItem_118 : decode cX9_askItem 118 = .ok (.iload_n 3, 1) := by decide +kernel
theorem dX9_askItem_119 : decode cX9_askItem 119 = .ok (.imul, 1) := by decide +kernel
theorem dX9_askItem_120 : decode cX9_askItem 120 = .ok (.iadd, 1) := by decide +kernel
theorem dX9_askItem_121 : decode cX9_askItem 121 = .ok (.sipush 1024, 3) := by decide +kernel
theorem dX9_askItem_124 : decode cX9_askItem 124 = .ok (.irem, 1) := by decide +kernel
theorem dX9_askItem_125 : decode cX9_askItem 125 = .ok (.iconst (-1), 1) := by decide +kernel
theorem dX9_askItem_126 : decode cX9_askItem 126 = .ok (.invokevirtual 146, 3) := by decide +kernel
theorem dX9_askItem_129 : decode cX9_askItem 129 = .ok (.iinc 4 1, 3) := by decide +kernel
theorem dX9_askItem_132 : decode cX9_askItem 132 = .ok (.goto (-27), 3) := by decide +kernel
theorem dX9_askItem_135 : decode cX9_askItem 135 = .ok (.aload_n 0, 1) := by decide +kernel
theorem dX9_askItem_136 : decode cX9_askItem 136 = .ok (.invokevirtual 140, 3) := by decide +kernel
theorem dX9_askItem_139 : decode cX9_askItem 139 = .ok (.iconst 0, 1) := by decide +kernel
theorem dX9_askItem_140 : decode cX9_askItem 140 = .ok (.ireturn, 1) := by decide +kernel
def X9_askItem_b105 (j135 : gM → Option (Int32 × gM)) (m3 : gM) (m9 : gM) (v20 : Int32) (m21 : gM) (k105 : Int32 → gM → Option (Int32 × gM)) : Option (Int32 × gM) :=
  if (m21 9 0 10) ≤ v20 then (j135 m21) else (gCall (X9_lay (gRem ((m3 9 0 10) + (v20 * (m9 9 0 10))) 1024) (-1) m21) (fun (r23 : Unit) (m22 : gM) => gLet (v20 + 1) (fun (x24 : Int32) => k105 x24 m22)))
def X9_askItem (m : gM) : Option (Int32 × gM) :=
  gCall (X9_nextToken m) (fun (r2 : Unit) (m1 : gM) => gCall (X9_numberIn 0 1023 m1) (fun (r4 : Int32) (m3 : gM) => if r4 = 0 then (gCall (X9_nextToken m3) (fun (r6 : Unit) (m5 : gM) => if (m5 9 0 9) = 43 then (gCall (X9_nextToken m5) (fun (r8 : Unit) (m7 : gM) => gCall (X9_numberIn 0 1023 m7) (fun (r10 : Int32) (m9 : gM) => if r10 = 0 then (gCall (X9_nextToken m9) (fun (r12 : Unit) (m11 : gM) => if (m11 9 0 9) = 42 then (gCall (X9_nextToken m11) (fun (r14 : Unit) (m13 : gM) => gCall (X9_numberIn 1 99 m13) (fun (r16 : Int32) (m15 : gM) => if r16 = 0 then (gJ0 (fun (m17 : gM) => gCall (X9_nextToken m17) (fun (r19 : Unit) (m18 : gM) => some (0, m18))) (fun (j135 : gM → Option (Int32 × gM)) => gL1 FU (X9_askItem_b105 j135 m3 m9) 0 m15)) else (some (r16, m15))))) else (some (1, m11)))) else (some (r10, m9))))) else (gCall (X9_lay (m3 9 0 10) (-1) m5) (fun (r26 : Unit) (m25 : gM) => some (0, m25))))) else (some (r4, m3))))
set_option maxRecDepth 100000 in
set_option maxHeartbeats 4000000 in
theorem c_X9_askItem (m : gM) : gCon eI yX9_askItem cX9_askItem 5 (some .int) 2 [.inr (9, 0)] m (X9_askItem m) := by
  refine gCon.of (lv := [some (.inr (9, 0)), none, none, none, none]) (by decide +kernel) (Nat.le_of_ble_eq_true rfl) rfl (fun X C => ?_)
  unfold X9_askItem
  refine r_aload_n C dX9_askItem_0 rfl rfl ?_
  refine r_invU (t := 9) (kb := 0) (As := []) (st := []) C il_X9_140 co_X9_nextToken (by decide) rfl (c_X9_nextToken m) (by decide) (by decide) rfl rfl (Nat.le_of_ble_eq_true rfl) dX9_askItem_1 (fun r2 m1 => ?_)
  refine r_aload_n C dX9_askItem_4 rfl rfl ?_
  refine r_iconst (v := 0) C dX9_askItem_5 (by decide) ?_
  refine r_sipush (v := 1023) C dX9_askItem_6 (by decide) ?_
  refine r_invI (t := 9) (kb := 0) (As := [.inl 0, .inl 1023]) (st := []) C il_X9_143 co_X9_numberIn (by decide) rfl (c_X9_numberIn 0 1023 m1) (by decide) (by decide) rfl rfl (Nat.le_of_ble_eq_true rfl) dX9_askItem_9 (fun r4 m3 => ?_)
  refine r_istore_n (lv' := [some (.inr (9, 0)), some (.inl r4), none, none, none]) C dX9_askItem_12 rfl (by decide) rfl ?_
  refine r_iload_n C dX9_askItem_13 rfl rfl ?_
  refine r_if_eq (tgt := 19) C dX9_askItem_14 (by decide) ?_ ?_
  · refine r_aload_n C dX9_askItem_19 rfl rfl ?_
    refine r_get (v := .inl (m3 9 0 10)) C fl_X9_119 dX9_askItem_20 rfl ?_
    refine r_istore_n (lv' := [some (.inr (9, 0)), some (.inl r4), some (.inl (m3 9 0 10)), none, none]) C dX9_askItem_23 rfl (by decide) rfl ?_
    refine r_aload_n C dX9_askItem_24 rfl rfl ?_
    refine r_invU (t := 9) (kb := 0) (As := []) (st := []) C il_X9_140 co_X9_nextToken (by decide) rfl (c_X9_nextToken m3) (by decide) (by decide) rfl rfl (Nat.le_of_ble_eq_true rfl) dX9_askItem_25 (fun r6 m5 => ?_)
    refine r_aload_n C dX9_askItem_28 rfl rfl ?_
    refine r_get (v := .inl (m5 9 0 9)) C fl_X9_122 dX9_askItem_29 rfl ?_
    refine r_bipush (v := 43) C dX9_askItem_32 (by decide) ?_
    refine r_icmp_eq (tgt := 45) C dX9_askItem_34 (by decide) ?_ ?_
    · refine r_aload_n C dX9_askItem_45 rfl rfl ?_
      refine r_invU (t := 9) (kb := 0) (As := []) (st := []) C il_X9_140 co_X9_nextToken (by decide) rfl (c_X9_nextToken m5) (by decide) (by decide) rfl rfl (Nat.le_of_ble_eq_true rfl) dX9_askItem_46 (fun r8 m7 => ?_)
      refine r_aload_n C dX9_askItem_49 rfl rfl ?_
      refine r_iconst (v := 0) C dX9_askItem_50 (by decide) ?_
      refine r_sipush (v := 1023) C dX9_askItem_51 (by decide) ?_
      refine r_invI (t := 9) (kb := 0) (As := [.inl 0, .inl 1023]) (st := []) C il_X9_143 co_X9_numberIn (by decide) rfl (c_X9_numberIn 0 1023 m7) (by decide) (by decide) rfl rfl (Nat.le_of_ble_eq_true rfl) dX9_askItem_54 (fun r10 m9 => ?_)
      refine r_istore_n (lv' := [some (.inr (9, 0)), some (.inl r10), some (.inl (m3 9 0 10)), none, none]) C dX9_askItem_57 rfl (by decide) rfl ?_
      refine r_iload_n C dX9_askItem_58 rfl rfl ?_
      refine r_if_eq (tgt := 64) C dX9_askItem_59 (by decide) ?_ ?_
      · refine r_aload_n C dX9_askItem_64 rfl rfl ?_
        refine r_get (v := .inl (m9 9 0 10)) C fl_X9_119 dX9_askItem_65 rfl ?_
        refine r_istore_n (lv' := [some (.inr (9, 0)), some (.inl r10), some (.inl (m3 9 0 10)), some (.inl (m9 9 0 10)), none]) C dX9_askItem_68 rfl (by decide) rfl ?_
        refine r_aload_n C dX9_askItem_69 rfl rfl ?_
        refine r_invU (t := 9) (kb := 0) (As := []) (st := []) C il_X9_140 co_X9_nextToken (by decide) rfl (c_X9_nextToken m9) (by decide) (by decide) rfl rfl (Nat.le_of_ble_eq_true rfl) dX9_askItem_70 (fun r12 m11 => ?_)
        refine r_aload_n C dX9_askItem_73 rfl rfl ?_
        refine r_get (v := .inl (m11 9 0 9)) C fl_X9_122 dX9_askItem_74 rfl ?_
        refine r_bipush (v := 42) C dX9_askItem_77 (by decide) ?_
        refine r_icmp_eq (tgt := 84) C dX9_askItem_79 (by decide) ?_ ?_
        · refine r_aload_n C dX9_askItem_84 rfl rfl ?_
          refine r_invU (t := 9) (kb := 0) (As := []) (st := []) C il_X9_140 co_X9_nextToken (by decide) rfl (c_X9_nextToken m11) (by decide) (by decide) rfl rfl (Nat.le_of_ble_eq_true rfl) dX9_askItem_85 (fun r14 m13 => ?_)
          refine r_aload_n C dX9_askItem_88 rfl rfl ?_
          refine r_iconst (v := 1) C dX9_askItem_89 (by decide) ?_
          refine r_bipush (v := 99) C dX9_askItem_90 (by decide) ?_
          refine r_invI (t := 9) (kb := 0) (As := [.inl 1, .inl 99]) (st := []) C il_X9_143 co_X9_numberIn (by decide) rfl (c_X9_numberIn 1 99 m13) (by decide) (by decide) rfl rfl (Nat.le_of_ble_eq_true rfl) dX9_askItem_92 (fun r16 m15 => ?_)
          refine r_istore_n (lv' := [some (.inr (9, 0)), some (.inl r16), some (.inl (m3 9 0 10)), some (.inl (m9 9 0 10)), none]) C dX9_askItem_95 rfl (by decide) rfl ?_
          refine r_iload_n C dX9_askItem_96 rfl rfl ?_
          refine r_if_eq (tgt := 102) C dX9_askItem_97 (by decide) ?_ ?_
          · refine r_iconst (v := 0) C dX9_askItem_102 (by decide) ?_
            refine r_istore (lv' := [some (.inr (9, 0)), some (.inl r16), some (.inl (m3 9 0 10)), some (.inl (m9 9 0 10)), some (.inl 0)]) C dX9_askItem_103 (by decide) rfl ?_
            refine r_j0 135 [some (.inr (9, 0)), none, none, none, none] [] (fun m17 => ?_) (fun j135 hj135 => ?_)
            · refine r_aload_n C dX9_askItem_135 rfl rfl ?_
              refine r_invU (t := 9) (kb := 0) (As := []) (st := []) C il_X9_140 co_X9_nextToken (by decide) rfl (c_X9_nextToken m17) (by decide) (by decide) rfl rfl (Nat.le_of_ble_eq_true rfl) dX9_askItem_136 (fun r19 m18 => ?_)
              refine r_iconst (v := 0) C dX9_askItem_139 (by decide) ?_
              exact r_ireturn C dX9_askItem_140
            refine r_weak (lv' := [some (.inr (9, 0)), none, some (.inl (m3 9 0 10)), some (.inl (m9 9 0 10)), some (.inl 0)]) ⟨rfl, rfl, rfl, rfl, trivial⟩ ?_
            refine r_l1 (pj := 105) (fun v20 => [some (.inr (9, 0)), none, some (.inl (m3 9 0 10)), some (.inl (m9 9 0 10)), some (.inl v20)]) (fun v20 m21 k105 hk105 => ?_) _ _ _
            unfold X9_askItem_b105
            refine r_iload C dX9_askItem_105 rfl ?_
            refine r_aload_n C dX9_askItem_107 rfl rfl ?_
            refine r_get (v := .inl (m21 9 0 10)) C fl_X9_119 dX9_askItem_108 rfl ?_
            refine r_icmp_ge (tgt := 135) C dX9_askItem_111 (by decide) ?_ ?_
            · exact r_weak (lv' := [some (.inr (9, 0)), none, none, none, none]) ⟨rfl, trivial⟩ (hj135 _)
            refine r_aload_n C dX9_askItem_114 rfl rfl ?_
            refine r_iload_n C dX9_askItem_115 rfl rfl ?_
            refine r_iload C dX9_askItem_116 rfl ?_
            refine r_iload_n C dX9_askItem_118 rfl rfl ?_
            refine r_imul C dX9_askItem_119 ?_
            refine r_iadd C dX9_askItem_120 ?_
            refine r_sipush (v := 1024) C dX9_askItem_121 (by decide) ?_
            refine r_irem C dX9_askItem_124 (by decide) ?_
            refine r_iconst (v := (-1)) C dX9_askItem_125 (by decide) ?_
            refine r_invU (t := 9) (kb := 0) (As := [.inl (gRem ((m3 9 0 10) + (v20 * (m9 9 0 10))) 1024), .inl (-1)]) (st := []) C il_X9_146 co_X9_lay (by decide) rfl (c_X9_lay (gRem ((m3 9 0 10) + (v20 * (m9 9 0 10))) 1024) (-1) m21) (by decide) (by decide) rfl rfl (Nat.le_of_ble_eq_true rfl) dX9_askItem_126 (fun r23 m22 => ?_)
            refine r_iinc (v := 1) C dX9_askItem_129 (by decide) rfl (by decide) (fun x24 => ?_)
            show gw X eI _ [some (.inr (9, 0)), none, some (.inl (m3 9 0 10)), some (.inl (m9 9 0 10)), some (.inl x24)] _ _ _
            refine r_goto (tgt := 105) C dX9_askItem_132 (by decide) ?_
            exact r_weak (lv' := [some (.inr (9, 0)), none, some (.inl (m3 9 0 10)), some (.inl (m9 9 0 10)), some (.inl x24)]) ⟨rfl, rfl, rfl, rfl, trivial⟩ (hk105 _ _)
          refine r_iload_n C dX9_askItem_100 rfl rfl ?_
          exact r_ireturn C dX9_askItem_101
        refine r_iconst (v := 1) C dX9_askItem_82 (by decide) ?_
        exact r_ireturn C dX9_askItem_83
      refine r_iload_n C dX9_askItem_62 rfl rfl ?_
      exact r_ireturn C dX9_askItem_63
    refine r_aload_n C dX9_askItem_37 rfl rfl ?_
    refine r_iload_n C dX9_askItem_38 rfl rfl ?_
    refine r_iconst (v := (-1)) C dX9_askItem_39 (by decide) ?_
    refine r_invU (t := 9) (kb := 0) (As := [.inl (m3 9 0 10), .inl (-1)]) (st := []) C il_X9_146 co_X9_lay (by decide) rfl (c_X9_lay (m3 9 0 10) (-1) m5) (by decide) (by decide) rfl rfl (Nat.le_of_ble_eq_true rfl) dX9_askItem_40 (fun r26 m25 => ?_)
    refine r_iconst (v := 0) C dX9_askItem_43 (by decide) ?_
    exact r_ireturn C dX9_askItem_44
  refine r_iload_n C dX9_askItem_17 rfl rfl ?_
  exact r_ireturn C dX9_askItem_18
theorem dX9_writeItem_0 : decode cX9_writeItem 0 = .ok (.aload_n 0, 1) := by decide +kernel
theorem dX9_writeItem_1 : decode cX9_writeItem 1 = .ok (.invokevirtual 140, 3) := by decide +kernel
theorem dX9_writeItem_4 : decode cX9_writeItem 4 = .ok (.aload_n 0, 1) := by decide +kernel
theorem dX9_writeItem_5 : decode cX9_writeItem 5 = .ok (.iconst 0, 1) := by decide +kernel
theorem dX9_writeItem_6 : decode cX9_writeItem 6 = .ok (.sipush 1023, 3) := by decide +kernel
theorem dX9_writeItem_9 : decode cX9_writeItem 9 = .ok (.invokevirtual 143, 3) := by decide +kernel
theorem dX9_writeItem_12 : decode cX9_writeItem 12 = .ok (.istore_n 1, 1) := by decide +kernel
theorem dX9_writeItem_13 : decode cX9_writeItem 13 = .ok (.iload_n 1, 1) := by decide +kernel
theorem dX9_writeItem_14 : decode cX9_writeItem 14 = .ok (.ifCond .eq 5, 3) := by decide +kernel
theorem dX9_writeItem_17 : decode cX9_writeItem 17 = .ok (.iload_n 1, 1) := by decide +kernel
theorem dX9_writeItem_18 : decode cX9_writeItem 18 = .ok (.ireturn, 1) := by decide +kernel
theorem dX9_writeItem_19 : decode cX9_writeItem 19 = .ok (.aload_n 0, 1) := by decide +kernel
theorem dX9_writeItem_20 : decode cX9_writeItem 20 = .ok (.getfield 119, 3) := by decide +kernel
theorem dX9_writeItem_23 : decode cX9_writeItem 23 = .ok (.istore_n 2, 1) := by decide +kernel
theorem dX9_writeItem_24 : decode cX9_writeItem 24 = .ok (.aload_n 0, 1) := by decide +kernel
theorem dX9_writeItem_25 : decode cX9_writeItem 25 = .ok (.invokevirtual 140, 3) := by decide +kernel
theorem dX9_writeItem_28 : decode cX9_writeItem 28 = .ok (.aload_n 0, 1) := by decide +kernel
theorem dX9_writeItem_29 : decode cX9_writeItem 29 = .ok (.getfield 122, 3) := by decide +kernel
theorem dX9_writeItem_32 : decode cX9_writeItem 32 = .ok (.bipush 58, 2) := by decide +kernel
theorem dX9_writeItem_34 : decode cX9_writeItem 34 = .ok (.if_icmp .eq 5, 3) := by decide +kernel
theorem dX9_writeItem_37 : decode cX9_writeItem 37 = .ok (.iconst 1, 1) := by decide +kernel
theorem dX9_writeItem_38 : decode cX9_writeItem 38 = .ok (.ireturn, 1) := by decide +kernel
theorem dX9_writeItem_39 : decode cX9_writeItem 39 = .ok (.aload_n 0, 1) := by decide +kernel
theorem dX9_writeItem_40 : decode cX9_writeItem 40 = .ok (.invokevirtual 140, 3) := by decide +kernel
theorem dX9_writeItem_43 : decode cX9_writeItem 43 = .ok (.aload_n 0, 1) := by decide +kernel
theorem dX9_writeItem_44 : decode cX9_writeItem 44 = .ok (.iconst 0, 1) := by decide +kernel
theorem dX9_writeItem_45 : decode cX9_writeItem 45 = .ok (.sipush 9999, 3) := by decide +kernel
theorem dX9_writeItem_48 : decode cX9_writeItem 48 = .ok (.invokevirtual 143, 3) := by decide +kernel
theorem dX9_writeItem_51 : decode cX9_writeItem 51 = .ok (.istore_n 1, 1) := by decide +kernel
theorem dX9_writeItem_52 : decode cX9_writeItem 52 = .ok (.iload_n 1, 1) := by decide +kernel
theorem dX9_writeItem_53 : decode cX9_writeItem 53 = .ok (.ifCond .eq 5, 3) := by decide +kernel
theorem dX9_writeItem_56 : decode cX9_writeItem 56 = .ok (.iload_n 1, 1) := by decide +kernel
theorem dX9_writeItem_57 : decode cX9_writeItem 57 = .ok (.ireturn, 1) := by decide +kernel
theorem dX9_writeItem_58 : decode cX9_writeItem 58 = .ok (.aload_n 0, 1) := by decide +kernel
theorem dX9_writeItem_59 : decode cX9_writeItem 59 = .ok (.iload_n 2, 1) := by decide +kernel
theorem dX9_writeItem_60 : decode cX9_writeItem 60 = .ok (.aload_n 0, 1) := by decide +kernel
theorem dX9_writeItem_61 : decode cX9_writeItem 61 = .ok (.getfield 119, 3) := by decide +kernel
theorem dX9_writeItem_64 : decode cX9_writeItem 64 = .ok (.invokevirtual 146, 3) := by decide +kernel
theorem dX9_writeItem_67 : decode cX9_writeItem 67 = .ok (.aload_n 0, 1) := by decide +kernel
theorem dX9_writeItem_68 : decode cX9_writeItem 68 = .ok (.invokevirtual 140, 3) := by decide +kernel
theorem dX9_writeItem_71 : decode cX9_writeItem 71 = .ok (.iconst 0, 1) := by decide +kernel
theorem dX9_writeItem_72 : decode cX9_writeItem 72 = .ok (.ireturn, 1) := by decide +kernel
def X9_writeItem (m : gM) : Option (Int32 × gM) :=
  gCall (X9_nextToken m) (fun (r2 : Unit) (m1 : gM) => gCall (X9_numberIn 0 1023 m1) (fun (r4 : Int32) (m3 : gM) => if r4 = 0 then (gCall (X9_nextToken m3) (fun (r6 : Unit) (m5 : gM) => if (m5 9 0 9) = 58 then (gCall (X9_nextToken m5) (fun (r8 : Unit) (m7 : gM) => gCall (X9_numberIn 0 9999 m7) (fun (r10 : Int32) (m9 : gM) => if r10 = 0 then (gCall (X9_lay (m3 9 0 10) (m9 9 0 10) m9) (fun (r12 : Unit) (m11 : gM) => gCall (X9_nextToken m11) (fun (r14 : Unit) (m13 : gM) => some (0, m13)))) else (some (r10, m9))))) else (some (1, m5)))) else (some (r4, m3))))
set_option maxRecDepth 100000 in
set_option maxHeartbeats 4000000 in
theorem c_X9_writeItem (m : gM) : gCon eI yX9_writeItem cX9_writeItem 3 (some .int) 2 [.inr (9, 0)] m (X9_writeItem m) := by
  refine gCon.of (lv := [some (.inr (9, 0)), none, none]) (by decide +kernel) (Nat.le_of_ble_eq_true rfl) rfl (fun X C => ?_)
  unfold X9_writeItem
  refine r_aload_n C dX9_writeItem_0 rfl rfl ?_
  refine r_invU (t := 9) (kb := 0) (As := []) (st := []) C il_X9_140 co_X9_nextToken (by decide) rfl (c_X9_nextToken m) (by decide) (by decide) rfl rfl (Nat.le_of_ble_eq_true rfl) dX9_writeItem_1 (fun r2 m1 => ?_)
  refine r_aload_n C dX9_writeItem_4 rfl rfl ?_
  refine r_iconst (v := 0) C dX9_writeItem_5 (by decide) ?_
  refine r_sipush (v := 1023) C dX9_writeItem_6 (by decide) ?_
  refine r_invI (t := 9) (kb := 0) (As := [.inl 0, .inl 1023]) (st := []) C il_X9_143 co_X9_numberIn (by decide) rfl (c_X9_numberIn 0 1023 m1) (by decide) (by decide) rfl rfl (Nat.le_of_ble_eq_true rfl) dX9_writeItem_9 (fun r4 m3 => ?_)
  refine r_istore_n (lv' := [some (.inr (9, 0)), some (.inl r4), none]) C dX9_writeItem_12 rfl (by decide) rfl ?_
  refine r_iload_n C dX9_writeItem_13 rfl rfl ?_
  refine r_if_eq (tgt := 19) C dX9_writeItem_14 (by decide) ?_ ?_
  · refine r_aload_n C dX9_writeItem_19 rfl rfl ?_
    refine r_get (v := .inl (m3 9 0 10)) C fl_X9_119 dX9_writeItem_20 rfl ?_
    refine r_istore_n (lv' := [some (.inr (9, 0)), some (.inl r4), some (.inl (m3 9 0 10))]) C dX9_writeItem_23 rfl (by decide) rfl ?_
    refine r_aload_n C dX9_writeItem_24 rfl rfl ?_
    refine r_invU (t := 9) (kb := 0) (As := []) (st := []) C il_X9_140 co_X9_nextToken (by decide) rfl (c_X9_nextToken m3) (by decide) (by decide) rfl rfl (Nat.le_of_ble_eq_true rfl) dX9_writeItem_25 (fun r6 m5 => ?_)
    refine r_aload_n C dX9_writeItem_28 rfl rfl ?_
    refine r_get (v := .inl (m5 9 0 9)) C fl_X9_122 dX9_writeItem_29 rfl ?_
    refine r_bipush (v := 58) C dX9_writeItem_32 (by decide) ?_
    refine r_icmp_eq (tgt := 39) C dX9_writeItem_34 (by decide) ?_ ?_
    · refine r_aload_n C dX9_writeItem_39 rfl rfl ?_
      refine r_invU (t := 9) (kb := 0) (As := []) (st := []) C il_X9_140 co_X9_nextToken (by decide) rfl (c_X9_nextToken m5) (by decide) (by decide) rfl rfl (Nat.le_of_ble_eq_true rfl) dX9_writeItem_40 (fun r8 m7 => ?_)
      refine r_aload_n C dX9_writeItem_43 rfl rfl ?_
      refine r_iconst (v := 0) C dX9_writeItem_44 (by decide) ?_
      refine r_sipush (v := 9999) C dX9_writeItem_45 (by decide) ?_
      refine r_invI (t := 9) (kb := 0) (As := [.inl 0, .inl 9999]) (st := []) C il_X9_143 co_X9_numberIn (by decide) rfl (c_X9_numberIn 0 9999 m7) (by decide) (by decide) rfl rfl (Nat.le_of_ble_eq_true rfl) dX9_writeItem_48 (fun r10 m9 => ?_)
      refine r_istore_n (lv' := [some (.inr (9, 0)), some (.inl r10), some (.inl (m3 9 0 10))]) C dX9_writeItem_51 rfl (by decide) rfl ?_
      refine r_iload_n C dX9_writeItem_52 rfl rfl ?_
      refine r_if_eq (tgt := 58) C dX9_writeItem_53 (by decide) ?_ ?_
      · refine r_aload_n C dX9_writeItem_58 rfl rfl ?_
        refine r_iload_n C dX9_writeItem_59 rfl rfl ?_
        refine r_aload_n C dX9_writeItem_60 rfl rfl ?_
        refine r_get (v := .inl (m9 9 0 10)) C fl_X9_119 dX9_writeItem_61 rfl ?_
        refine r_invU (t := 9) (kb := 0) (As := [.inl (m3 9 0 10), .inl (m9 9 0 10)]) (st := []) C il_X9_146 co_X9_lay (by decide) rfl (c_X9_lay (m3 9 0 10) (m9 9 0 10) m9) (by decide) (by decide) rfl rfl (Nat.le_of_ble_eq_true rfl) dX9_writeItem_64 (fun r12 m11 => ?_)
        refine r_aload_n C dX9_writeItem_67 rfl rfl ?_
        refine r_invU (t := 9) (kb := 0) (As := []) (st := []) C il_X9_140 co_X9_nextToken (by decide) rfl (c_X9_nextToken m11) (by decide) (by decide) rfl rfl (Nat.le_of_ble_eq_true rfl) dX9_writeItem_68 (fun r14 m13 => ?_)
        refine r_iconst (v := 0) C dX9_writeItem_71 (by decide) ?_
        exact r_ireturn C dX9_writeItem_72
      refine r_iload_n C dX9_writeItem_56 rfl rfl ?_
      exact r_ireturn C dX9_writeItem_57
    refine r_iconst (v := 1) C dX9_writeItem_37 (by decide) ?_
    exact r_ireturn C dX9_writeItem_38
  refine r_iload_n C dX9_writeItem_17 rfl rfl ?_
  exact r_ireturn C dX9_writeItem_18
theorem dX9_openItem_0 : decode cX9_openItem 0 = .ok (.aload_n 0, 1) := by decide +kernel
theorem dX9_openItem_1 : decode cX9_openItem 1 = .ok (.getfield 150, 3) := by decide +kernel
theorem dX9_openItem_4 : decode cX9_openItem 4 = .ok (.iconst 4, 1) := by decide +kernel
theorem dX9_openItem_5 : decode cX9_openItem 5 = .ok (.if_icmp .ne 5, 3) := by decide +kernel
theorem dX9_openItem_8 : decode cX9_openItem 8 = .ok (.iconst 3, 1) := by decide +kernel
theorem dX9_openItem_9 : decode cX9_openItem 9 = .ok (.ireturn, 1) := by decide +kernel
theorem dX9_openItem_10 : decode cX9_openItem 10 = .ok (.aload_n 0, 1) := by decide +kernel
theorem dX9_openItem_11 : decode cX9_openItem 11 = .ok (.getfield 29, 3) := by decide +kernel
theorem dX9_openItem_14 : decode cX9_openItem 14 = .ok (.aload_n 0, 1) := by decide +kernel
theorem dX9_openItem_15 : decode cX9_openItem 15 = .ok (.getfield 150, 3) := by decide +kernel
theorem dX9_openItem_18 : decode cX9_openItem 18 = .ok (.aload_n 0, 1) := by decide +kernel
theorem dX9_openItem_19 : decode cX9_openItem 19 = .ok (.getfield 16, 3) := by decide +kernel
theorem dX9_openItem_22 : decode cX9_openItem 22 = .ok (.aload_n 0, 1) := by decide +kernel
theorem dX9_openItem_23 : decode cX9_openItem 23 = .ok (.getfield 133, 3) := by decide +kernel
theorem dX9_openItem_26 : decode cX9_openItem 26 = .ok (.iaload, 1) := by decide +kernel
theorem dX9_openItem_27 : decode cX9_openItem 27 = .ok (.iastore, 1) := by decide +kernel
theorem dX9_openItem_28 : decode cX9_openItem 28 = .ok (.aload_n 0, 1) := by decide +kernel
theorem dX9_openItem_29 : decode cX9_openItem 29 = .ok (.dup, 1) := by decide +kernel
theorem dX9_openItem_30 : decode cX9_openItem 30 = .ok (.getfield 150, 3) := by decide +kernel
theorem dX9_openItem_33 : decode cX9_openItem 33 = .ok (.iconst 1, 1) := by decide +kernel
theorem dX9_openItem_34 : decode cX9_openItem 34 = .ok (.iadd, 1) := by decide +kernel
theorem dX9_openItem_35 : decode cX9_openItem 35 = .ok (.putfield 150, 3) := by decide +kernel
theorem dX9_openItem_38 : decode cX9_openItem 38 = .ok (.aload_n 0, 1) := by decide +kernel
theorem dX9_openItem_39 : decode cX9_openItem 39 = .ok (.invokevirtual 140, 3) := by decide +kernel
theorem dX9_openItem_42 : decode cX9_openItem 42 = .ok (.iconst 0, 1) := by decide +kernel
theorem dX9_openItem_43 : decode cX9_openItem 43 = .ok (.ireturn, 1) := by decide +kernel
def X9_openItem (m : gM) : Option (Int32 × gM) :=
  if (m 9 0 14) = 4 then (some (3, m)) else (gAt m 49 0 (m 9 0 11) (fun (x1 : Int32) => gPut m 51 0 (m 9 0 14) x1 (fun (m2 : gM) => gLet ((m2 9 0 14) + 1) (fun (x3 : Int32) => gSet m2 9 0 14 x3 (fun (m4 : gM) => gCall (X9_nextToken m4) (fun (r6 : Unit) (m5 : gM) => some (0, m5)))))))
set_option maxRecDepth 100000 in
set_option maxHeartbeats 4000000 in
theorem c_X9_openItem (m : gM) : gCon eI yX9_openItem cX9_openItem 1 (some .int) 2 [.inr (9, 0)] m (X9_openItem m) := by
  refine gCon.of (lv := [some (.inr (9, 0))]) (by decide +kernel) (Nat.le_of_ble_eq_true rfl) rfl (fun X C => ?_)
  unfold X9_openItem
  refine r_aload_n C dX9_openItem_0 rfl rfl ?_
  refine r_get (v := .inl (m 9 0 14)) C fl_X9_150 dX9_openItem_1 rfl ?_
  refine r_iconst (v := 4) C dX9_openItem_4 (by decide) ?_
  refine r_icmp_ne (tgt := 10) C dX9_openItem_5 (by decide) ?_ ?_
  · refine r_aload_n C dX9_openItem_10 rfl rfl ?_
    refine r_get (v := .inr (51, 0)) C fl_X9_29 dX9_openItem_11 rfl ?_
    refine r_aload_n C dX9_openItem_14 rfl rfl ?_
    refine r_get (v := .inl (m 9 0 14)) C fl_X9_150 dX9_openItem_15 rfl ?_
    refine r_aload_n C dX9_openItem_18 rfl rfl ?_
    refine r_get (v := .inr (49, 0)) C fl_X9_16 dX9_openItem_19 rfl ?_
    refine r_aload_n C dX9_openItem_22 rfl rfl ?_
    refine r_get (v := .inl (m 9 0 11)) C fl_X9_133 dX9_openItem_23 rfl ?_
    refine r_iald C rfl dX9_openItem_26 (fun x1 => ?_)
    refine r_iast C rfl dX9_openItem_27 (fun m2 => ?_)
    refine r_aload_n C dX9_openItem_28 rfl rfl ?_
    refine r_dup C dX9_openItem_29 ?_
    refine r_get (v := .inl (m2 9 0 14)) C fl_X9_150 dX9_openItem_30 rfl ?_
    refine r_iconst (v := 1) C dX9_openItem_33 (by decide) ?_
    refine r_iadd C dX9_openItem_34 ?_
    refine r_let (fun x3 => ?_)
    refine r_put C fl_X9_150 rfl rfl rfl dX9_openItem_35 (fun m4 => ?_)
    refine r_aload_n C dX9_openItem_38 rfl rfl ?_
    refine r_invU (t := 9) (kb := 0) (As := []) (st := []) C il_X9_140 co_X9_nextToken (by decide) rfl (c_X9_nextToken m4) (by decide) (by decide) rfl rfl (Nat.le_of_ble_eq_true rfl) dX9_openItem_39 (fun r6 m5 => ?_)
    refine r_iconst (v := 0) C dX9_openItem_42 (by decide) ?_
    exact r_ireturn C dX9_openItem_43
  refine r_iconst (v := 3) C dX9_openItem_8 (by decide) ?_
  exact r_ireturn C dX9_openItem_9
theorem dX9_shutItem_0 : decode cX9_shutItem 0 = .ok (.aload_n 0, 1) := by decide +kernel
theorem dX9_shutItem_1 : decode cX9_shutItem 1 = .ok (.getfield 150, 3) := by decide +kernel
theorem dX9_shutItem_4 : decode cX9_shutItem 4 = .ok (.ifCond .ne 5, 3) := by decide +kernel
theorem dX9_shutItem_7 : decode cX9_shutItem 7 = .ok (.iconst 1, 1) := by decide +kernel
theorem dX9_shutItem_8 : decode cX9_shutItem 8 = .ok (.ireturn, 1) := by decide +kernel
theorem dX9_shutItem_9 : decode cX9_shutItem 9 = .ok (.aload_n 0, 1) := by decide +kernel
theorem dX9_shutItem_10 : decode cX9_shutItem 10 = .ok (.invokevirtual 140, 3) := by decide +kernel
theorem dX9_shutItem_13 : decode cX9_shutItem 13 = .ok (.aload_n 0, 1) := by decide +kernel
theorem dX9_shutItem_14 : decode cX9_shutItem 14 = .ok (.iconst 1, 1) := by decide +kernel
theorem dX9_shutItem_15 : decode cX9_shutItem 15 = .ok (.bipush 9, 2) := by decide +kernel
theorem dX9_shutItem_17 : decode cX9_shutItem 17 = .ok (.invokevirtual 143, 3) := by decide +kernel
theorem dX9_shutItem_20 : decode cX9_shutItem 20 = .ok (.istore_n 1, 1) := by decide +kernel
theorem dX9_shutItem_21 : decode cX9_shutItem 21 = .ok (.iload_n 1, 1) := by decide +kernel
theorem dX9_shutItem_22 : decode cX9_shutItem 22 = .ok (.ifCond .eq 5, 3) := by decide +kernel
theorem dX9_shutItem_25 : decode cX9_shutItem 25 = .ok (.iload_n 1, 1) := by decide +kernel
theorem dX9_shutItem_26 : decode cX9_shutItem 26 = .ok (.ireturn, 1) := by decide +kernel
theorem dX9_shutItem_27 : decode cX9_shutItem 27 = .ok (.aload_n 0, 1) := by decide +kernel
theorem dX9_shutItem_28 : decode cX9_shutItem 28 = .ok (.dup, 1) := by decide +kernel
theorem dX9_shutItem_29 : decode cX9_shutItem 29 = .ok (.getfield 150, 3) := by decide +kernel
theorem dX9_shutItem_32 : decode cX9_shutItem 32 = .ok (.iconst 1, 1) := by decide +kernel
theorem dX9_shutItem_33 : decode cX9_shutItem 33 = .ok (.isub, 1) := by decide +kernel
theorem dX9_shutItem_34 : decode cX9_shutItem 34 = .ok (.putfield 150, 3) := by decide +kernel
theorem dX9_shutItem_37 : decode cX9_shutItem 37 = .ok (.aload_n 0, 1) := by decide +kernel
theorem dX9_shutItem_38 : decode cX9_shutItem 38 = .ok (.getfield 16, 3) := by decide +kernel
theorem dX9_shutItem_41 : decode cX9_shutItem 41 = .ok (.aload_n 0, 1) := by decide +kernel
theorem dX9_shutItem_42 : decode cX9_shutItem 42 = .ok (.getfield 133, 3) := by decide +kernel
theorem dX9_shutItem_45 : decode cX9_shutItem 45 = .ok (.iaload, 1) := by decide +kernel
theorem dX9_shutItem_46 : decode cX9_shutItem 46 = .ok (.istore_n 2, 1) := by decide +kernel
theorem dX9_shutItem_47 : decode cX9_shutItem 47 = .ok (.iconst 1, 1) := by decide +kernel
theorem dX9_shutItem_48 : decode cX9_shutItem 48 = .ok (.istore_n 3, 1) := by decide +kernel
theorem dX9_shutItem_49 : decode cX9_shutItem 49 = .ok (.iload_n 3, 1) := by decide +kernel
theorem dX9_shutItem_50 : decode cX9_shutItem 50 = .ok (.aload_n 0, 1) := by decide +kernel
theorem dX9_shutItem_51 : decode cX9_shutItem 51 = .ok (.getfield 119, 3) := by decide +kernel
theorem dX9_shutItem_54 : decode cX9_shutItem 54 = .ok (.if_icmp .ge 68, 3) := by decide +kernel
theorem dX9_shutItem_57 : decode cX9_shutItem 57 = .ok (.aload_n 0, 1) := by decide +kernel
theorem dX9_shutItem_58 : decode cX9_shutItem 58 = .ok (.getfield 29, 3) := by decide +kernel
theorem dX9_shutItem_61 : decode cX9_shutItem 61 = .ok (.aload_n 0, 1) := by decide +kernel
theorem dX9_shutItem_62 : decode cX9_shutItem 62 = .ok (.getfield 150, 3) := by decide +kernel
theorem dX9_shutItem_65 : decode cX9_shutItem 65 = .ok (.iaload, 1) := by decide +kernel
theorem dX9_shutItem_66 : decode cX9_shutItem 66 = .ok (.istore 4, 2) := by decide +kernel
theorem dX9_shutItem_68 : decode cX9_shutItem 68 = .ok (.iload 4, 2) := by decide +kernel
theorem dX9_shutItem_70 : decode cX9_shutItem 70 = .ok (.iload_n 2, 1) := by decide +kernel
theorem dX9_shutItem_71 : decode cX9_shutItem 71 = .ok (.if_icmp .ge 45, 3) := by decide +kernel
theorem dX9_shutItem_74 : decode cX9_shutItem 74 = .ok (.aload_n 0, 1) := by decide +kernel
theorem dX9_shutItem_75 : decode cX9_shutItem 75 = .ok (.aload_n 0, 1) := by decide +kernel
theorem dX9_shutItem_76 : decode cX9_shutItem 76 = .ok (.getfield 16, 3) := by decide +kernel
theorem dX9_shutItem_79 : decode cX9_shutItem 79 = .ok (.aload_n 0, 1) := by decide +kernel
theorem dX9_shutItem_80 : decode cX9_shutItem 80 = .ok (.getfield 133, 3) := by decide +kernel
theorem dX9_shutItem_83 : decode cX9_shutItem 83 = .ok (.iconst 1, 1) := by decide +kernel
theorem dX9_shutItem_84 : decode cX9_shutItem 84 = .ok (.iadd, 1) := by decide +kernel
theorem dX9_shutItem_85 : decode cX9_shutItem 85 = .ok (.iconst 2, 1) := by decide +kernel
theorem dX9_shutItem_86 : decode cX9_shutItem 86 = .ok (.iload 4, 2) := by decide +kernel
theorem dX9_shutItem_88 : decode cX9_shutItem 88 = .ok (.imul, 1) := by decide +kernel
theorem dX9_shutItem_89 : decode cX9_shutItem 89 = .ok (.iadd, 1) := by decide +kernel
theorem dX9_shutItem_90 : decode cX9_shutItem 90 = .ok (.iaload, 1) := by decide +kernel
theorem dX9_shutItem_91 : decode cX9_shutItem 91 = .ok (.aload_n 0, 1) := by decide +kernel
theorem dX9_shutItem_92 : decode cX9_shutItem 92 = .ok (.getfield 16, 3) := by decide +kernel
theorem dX9_shutItem_95 : decode cX9_shutItem 95 = .ok (.aload_n 0, 1) := by decide +kernel
theorem dX9_shutItem_96 : decode cX9_shutItem 96 = .ok (.getfield 133, 3) := by decide +kernel
theorem dX9_shutItem_99 : decode cX9_shutItem 99 = .ok (.iconst 2, 1) := by decide +kernel
theorem dX9_shutItem_100 : decode cX9_shutItem 100 = .ok (.iadd, 1) := by decide +kernel
theorem dX9_shutItem_101 : decode cX9_shutItem 101 = .ok (.iconst 2, 1) := by decide +kernel
theorem dX9_shutItem_102 : decode cX9_shutItem 102 = .ok (.iload 4, 2) := by decide +kernel
theorem dX9_shutItem_104 : decode cX9_shutItem 104 = .ok (.imul, 1) := by decide +kernel
theorem dX9_shutItem_105 : decode cX9_shutItem 105 = .ok (.iadd, 1) := by decide +kernel
theorem dX9_shutItem_106 : decode cX9_shutItem 106 = .ok (.iaload, 1) := by decide +kernel
theorem dX9_shutItem_107 : decode cX9_shutItem 107 = .ok (.invokevirtual 146, 3) := by decide +kernel
theorem dX9_shutItem_110 : decode cX9_shutItem 110 = .ok (.iinc 4 1, 3) := by decide +kernel
theorem dX9_shutItem_113 : decode cX9_shutItem 113 = .ok (.goto (-45), 3) := by decide +kernel
theorem dX9_shutItem_116 : decode cX9_shutItem 116 = .ok (.iinc 3 1, 3) := by decide +kernel
theorem dX9_shutItem_119 : decode cX9_shutItem 119 = .ok (.goto (-70), 3) := by decide +kernel
theorem dX9_shutItem_122 : decode cX9_shutItem 122 = .ok (.aload_n 0, 1) := by decide +kernel
theorem dX9_shutItem_123 : decode cX9_shutItem 123 = .ok (.invokevirtual 140, 3) := by decide +kernel
theorem dX9_shutItem_126 : decode cX9_shutItem 126 = .ok (.iconst 0, 1) := by decide +kernel
theorem dX9_shutItem_127 : decode cX9_shutItem 127 = .ok (.ireturn, 1) := by decide +kernel
def X9_shutItem_b68 (k49 : Int32 → gM → Option (Int32 × gM)) (v11 : Int32) (x7 : Int32) (v14 : Int32) (m15 : gM) (k68 : Int32 → gM → Option (Int32 × gM)) : Option (Int32 × gM) :=
  if x7 ≤ v14 then (gLet (v11 + 1) (fun (x16 : Int32) => k49 x16 m15)) else (gAt m15 49 0 (((m15 9 0 11) + 1) + (2 * v14)) (fun (x17 : Int32) => gAt m15 49 0 (((m15 9 0 11) + 2) + (2 * v14)) (fun (x18 : Int32) => gCall (X9_lay x17 x18 m15) (fun (r20 : Unit) (m19 : gM) => gLet (v14 + 1) (fun (x21 : Int32) => k68 x21 m19)))))
def X9_shutItem_b49 (j122 : gM → Option (Int32 × gM)) (x7 : Int32) (v11 : Int32) (m12 : gM) (k49 : Int32 → gM → Option (Int32 × gM)) : Option (Int32 × gM) :=
  if (m12 9 0 10) ≤ v11 then (j122 m12) else (gAt m12 51 0 (m12 9 0 14) (fun (x13 : Int32) => gL1 FU (X9_shutItem_b68 k49 v11 x7) x13 m12))
def X9_shutItem (m : gM) : Option (Int32 × gM) :=
  if (m 9 0 14) = 0 then (some (1, m)) else (gCall (X9_nextToken m) (fun (r2 : Unit) (m1 : gM) => gCall (X9_numberIn 1 9 m1) (fun (r4 : Int32) (m3 : gM) => if r4 = 0 then (gLet ((m3 9 0 14) - 1) (fun (x5 : Int32) => gSet m3 9 0 14 x5 (fun (m6 : gM) => gAt m6 49 0 (m6 9 0 11) (fun (x7 : Int32) => gJ0 (fun (m8 : gM) => gCall (X9_nextToken m8) (fun (r10 : Unit) (m9 : gM) => some (0, m9))) (fun (j122 : gM → Option (Int32 × gM)) => gL1 FU (X9_shutItem_b49 j122 x7) 1 m6))))) else (some (r4, m3)))))
set_option maxRecDepth 100000 in
set_option maxHeartbeats 4000000 in
theorem c_X9_shutItem (m : gM) : gCon eI yX9_shutItem cX9_shutItem 5 (some .int) 2 [.inr (9, 0)] m (X9_shutItem m) := by
  refine gCon.of (lv := [some (.inr (9, 0)), none, none, none, none]) (by decide +kernel) (Nat.le_of_ble_eq_true rfl) rfl (fun X C => ?_)
  unfold X9_shutItem
  refine r_aload_n C dX9_shutItem_0 rfl rfl ?_
  refine r_get (v := .inl (m 9 0 14)) C fl_X9_150 dX9_shutItem_1 rfl ?_
  refine r_if_ne (tgt := 9) C dX9_shutItem_4 (by decide) ?_ ?_
  · refine r_aload_n C dX9_shutItem_9 rfl rfl ?_
    refine r_invU (t := 9) (kb := 0) (As := []) (st := []) C il_X9_140 co_X9_nextToken (by decide) rfl (c_X9_nextToken m) (by decide) (by decide) rfl rfl (Nat.le_of_ble_eq_true rfl) dX9_shutItem_10 (fun r2 m1 => ?_)
    refine r_aload_n C dX9_shutItem_13 rfl rfl ?_
    refine r_iconst (v := 1) C dX9_shutItem_14 (by decide) ?_
    refine r_bipush (v := 9) C dX9_shutItem_15 (by decide) ?_
    refine r_invI (t := 9) (kb := 0) (As := [.inl 1, .inl 9]) (st := []) C il_X9_143 co_X9_numberIn (by decide) rfl (c_X9_numberIn 1 9 m1) (by decide) (by decide) rfl rfl (Nat.le_of_ble_eq_true rfl) dX9_shutItem_17 (fun r4 m3 => ?_)
    refine r_istore_n (lv' := [some (.inr (9, 0)), some (.inl r4), none, none, none]) C dX9_shutItem_20 rfl (by decide) rfl ?_
    refine r_iload_n C dX9_shutItem_21 rfl rfl ?_
    refine r_if_eq (tgt := 27) C dX9_shutItem_22 (by decide) ?_ ?_
    · refine r_aload_n C dX9_shutItem_27 rfl rfl ?_
      refine r_dup C dX9_shutItem_28 ?_
      refine r_get (v := .inl (m3 9 0 14)) C fl_X9_150 dX9_shutItem_29 rfl ?_
      refine r_iconst (v := 1) C dX9_shutItem_32 (by decide) ?_
      refine r_isub C dX9_shutItem_33 ?_
      refine r_let (fun x5 => ?_)
      refine r_put C fl_X9_150 rfl rfl rfl dX9_shutItem_34 (fun m6 => ?_)
      refine r_aload_n C dX9_shutItem_37 rfl rfl ?_
      refine r_get (v := .inr (49, 0)) C fl_X9_16 dX9_shutItem_38 rfl ?_
      refine r_aload_n C dX9_shutItem_41 rfl rfl ?_
      refine r_get (v := .inl (m6 9 0 11)) C fl_X9_133 dX9_shutItem_42 rfl ?_
      refine r_iald C rfl dX9_shutItem_45 (fun x7 => ?_)
      refine r_istore_n (lv' := [some (.inr (9, 0)), some (.inl r4), some (.inl x7), none, none]) C dX9_shutItem_46 rfl (by decide) rfl ?_
      refine r_iconst (v := 1) C dX9_shutItem_47 (by decide) ?_
      refine r_istore_n (lv' := [some (.inr (9, 0)), some (.inl r4), some (.inl x7), some (.inl 1), none]) C dX9_shutItem_48 rfl (by decide) rfl ?_
      refine r_j0 122 [some (.inr (9, 0)), none, none, none, none] [] (fun m8 => ?_) (fun j122 hj122 => ?_)
      · refine r_aload_n C dX9_shutItem_122 rfl rfl ?_
        refine r_invU (t := 9) (kb := 0) (As := []) (st := []) C il_X9_140 co_X9_nextToken (by decide) rfl (c_X9_nextToken m8) (by decide) (by decide) rfl rfl (Nat.le_of_ble_eq_true rfl) dX9_shutItem_123 (fun r10 m9 => ?_)
        refine r_iconst (v := 0) C dX9_shutItem_126 (by decide) ?_
        exact r_ireturn C dX9_shutItem_127
      refine r_weak (lv' := [some (.inr (9, 0)), none, some (.inl x7), some (.inl 1), none]) ⟨rfl, rfl, rfl, trivial⟩ ?_
      refine r_l1 (pj := 49) (fun v11 => [some (.inr (9, 0)), none, some (.inl x7), some (.inl v11), none]) (fun v11 m12 k49 hk49 => ?_) _ _ _
      unfold X9_shutItem_b49
      refine r_iload_n C dX9_shutItem_49 rfl rfl ?_
      refine r_aload_n C dX9_shutItem_50 rfl rfl ?_
      refine r_get (v := .inl (m12 9 0 10)) C fl_X9_119 dX9_shutItem_51 rfl ?_
      refine r_icmp_ge (tgt := 122) C dX9_shutItem_54 (by decide) ?_ ?_
      · exact r_weak (lv' := [some (.inr (9, 0)), none, none, none, none]) ⟨rfl, trivial⟩ (hj122 _)
      refine r_aload_n C dX9_shutItem_57 rfl rfl ?_
      refine r_get (v := .inr (51, 0)) C fl_X9_29 dX9_shutItem_58 rfl ?_
      refine r_aload_n C dX9_shutItem_61 rfl rfl ?_
      refine r_get (v := .inl (m12 9 0 14)) C fl_X9_150 dX9_shutItem_62 rfl ?_
      refine r_iald C rfl dX9_shutItem_65 (fun x13 => ?_)
      refine r_istore (lv' := [some (.inr (9, 0)), none, some (.inl x7), some (.inl v11), some (.inl x13)]) C dX9_shutItem_66 (by decide) rfl ?_
      refine r_weak (lv' := [some (.inr (9, 0)), none, some (.inl x7), some (.inl v11), some (.inl x13)]) ⟨rfl, rfl, rfl, rfl, trivial⟩ ?_
      refine r_l1 (pj := 68) (fun v14 => [some (.inr (9, 0)), none, some (.inl x7), some (.inl v11), some (.inl v14)]) (fun v14 m15 k68 hk68 => ?_) _ _ _
      unfold X9_shutItem_b68
      refine r_iload C dX9_shutItem_68 rfl ?_
      refine r_iload_n C dX9_shutItem_70 rfl rfl ?_
      refine r_icmp_ge (tgt := 116) C dX9_shutItem_71 (by decide) ?_ ?_
      · refine r_iinc (v := 1) C dX9_shutItem_116 (by decide) rfl (by decide) (fun x16 => ?_)
        show gw X eI _ [some (.inr (9, 0)), none, some (.inl x7), some (.inl x16), some (.inl v14)] _ _ _
        refine r_goto (tgt := 49) C dX9_shutItem_119 (by decide) ?_
        exact r_weak (lv' := [some (.inr (9, 0)), none, some (.inl x7), some (.inl x16), none]) ⟨rfl, rfl, rfl, trivial⟩ (hk49 _ _)
      refine r_aload_n C dX9_shutItem_74 rfl rfl ?_
      refine r_aload_n C dX9_shutItem_75 rfl rfl ?_
      refine r_get (v := .inr (49, 0)) C fl_X9_16 dX9_shutItem_76 rfl ?_
      refine r_aload_n C dX9_shutItem_79 rfl rfl ?_
      refine r_get (v := .inl (m15 9 0 11)) C fl_X9_133 dX9_shutItem_80 rfl ?_
      refine r_iconst (v := 1) C dX9_shutItem_83 (by decide) ?_
      refine r_iadd C dX9_shutItem_84 ?_
      refine r_iconst (v := 2) C dX9_shutItem_85 (by decide) ?_
      refine r_iload C dX9_shutItem_86 rfl ?_
      refine r_imul C dX9_shutItem_88 ?_
      refine r_iadd C dX9_shutItem_89 ?_
      refine r_iald C rfl dX9_shutItem_90 (fun x17 => ?_)
      refine r_aload_n C dX9_shutItem_91 rfl rfl ?_
      refine r_get (v := .inr (49, 0)) C fl_X9_16 dX9_shutItem_92 rfl ?_
      refine r_aload_n C dX9_shutItem_95 rfl rfl ?_
      refine r_get (v := .inl (m15 9 0 11)) C fl_X9_133 dX9_shutItem_96 rfl ?_
      refine r_iconst (v := 2) C dX9_shutItem_99 (by decide) ?_
      refine r_iadd C dX9_shutItem_100 ?_
      refine r_iconst (v := 2) C dX9_shutItem_101 (by decide) ?_
      refine r_iload C dX9_shutItem_102 rfl ?_
      refine r_imul C dX9_shutItem_104 ?_
      refine r_iadd C dX9_shutItem_105 ?_
      refine r_iald C rfl dX9_shutItem_106 (fun x18 => ?_)
      refine r_invU (t := 9) (kb := 0) (As := [.inl x17, .inl x18]) (st := []) C il_X9_146 co_X9_lay (by decide) rfl (c_X9_lay x17 x18 m15) (by decide) (by decide) rfl rfl (Nat.le_of_ble_eq_true rfl) dX9_shutItem_107 (fun r20 m19 => ?_)
      refine r_iinc (v := 1) C dX9_shutItem_110 (by decide) rfl (by decide) (fun x21 => ?_)
      show gw X eI _ [some (.inr (9, 0)), none, some (.inl x7), some (.inl v11), some (.inl x21)] _ _ _
      refine r_goto (tgt := 68) C dX9_shutItem_113 (by decide) ?_
      exact r_weak (lv' := [some (.inr (9, 0)), none, some (.inl x7), some (.inl v11), some (.inl x21)]) ⟨rfl, rfl, rfl, rfl, trivial⟩ (hk68 _ _)
    refine r_iload_n C dX9_shutItem_25 rfl rfl ?_
    exact r_ireturn C dX9_shutItem_26
  refine r_iconst (v := 1) C dX9_shutItem_7 (by decide) ?_
  exact r_ireturn C dX9_shutItem_8
theorem dX9_item_0 : decode cX9_item 0 = .ok (.aload_n 0, 1) := by decide +kernel
theorem dX9_item_1 : decode cX9_item 1 = .ok (.getfield 122, 3) := by decide +kernel
theorem dX9_item_4 : decode cX9_item 4 = .ok (.lookupswitch 64 #[(40, 54), (41, 59), (114, 44), (119, 49)], 44) := by decide +kernel
theorem dX9_item_48 : decode cX9_item 48 = .ok (.aload_n 0, 1) := by decide +kernel
theorem dX9_item_49 : decode cX9_item 49 = .ok (.invokevirtual 153, 3) := by decide +kernel
theorem dX9_item_52 : decode cX9_item 52 = .ok (.ireturn, 1) := by decide +kernel
theorem dX9_item_53 : decode cX9_item 53 = .ok (.aload_n 0, 1) := by decide +kernel
theorem dX9_item_54 : decode cX9_item 54 = .ok (.invokevirtual 156, 3) := by decide +kernel
theorem dX9_item_57 : decode cX9_item 57 = .ok (.ireturn, 1) := by decide +kernel
theorem dX9_item_58 : decode cX9_item 58 = .ok (.aload_n 0, 1) := by decide +kernel
theorem dX9_item_59 : decode cX9_item 59 = .ok (.invokevirtual 159, 3) := by decide +kernel
theorem dX9_item_62 : decode cX9_item 62 = .ok (.ireturn, 1) := by decide +kernel
theorem dX9_item_63 : decode cX9_item 63 = .ok (.aload_n 0, 1) := by decide +kernel
theorem dX9_item_64 : decode cX9_item 64 = .ok (.invokevirtual 162, 3) := by decide +kernel
theorem dX9_item_67 : decode cX9_item 67 = .ok (.ireturn, 1) := by decide +kernel
theorem dX9_item_68 : decode cX9_item 68 = .ok (.iconst 1, 1) := by decide +kernel
theorem dX9_item_69 : decode cX9_item 69 = .ok (.ireturn, 1) := by decide +kernel
def X9_item (m : gM) : Option (Int32 × gM) :=
  if (m 9 0 9) = 40 then (gCall (X9_openItem m) (fun (r2 : Int32) (m1 : gM) => some (r2, m1))) else (if (m 9 0 9) = 41 then (gCall (X9_shutItem m) (fun (r4 : Int32) (m3 : gM) => some (r4, m3))) else (if (m 9 0 9) = 114 then (gCall (X9_askItem m) (fun (r6 : Int32) (m5 : gM) => some (r6, m5))) else (if (m 9 0 9) = 119 then (gCall (X9_writeItem m) (fun (r8 : Int32) (m7 : gM) => some (r8, m7))) else (some (1, m)))))
set_option maxRecDepth 100000 in
set_option maxHeartbeats 4000000 in
theorem c_X9_item (m : gM) : gCon eI yX9_item cX9_item 1 (some .int) 3 [.inr (9, 0)] m (X9_item m) := by
  refine gCon.of (lv := [some (.inr (9, 0))]) (by decide +kernel) (Nat.le_of_ble_eq_true rfl) rfl (fun X C => ?_)
  unfold X9_item
  refine r_aload_n C dX9_item_0 rfl rfl ?_
  refine r_get (v := .inl (m 9 0 9)) C fl_X9_122 dX9_item_1 rfl ?_
  refine r_peel (v := 40) ?_ (fun h40 => ?_)
  · refine r_lsw (x := 40) (off := 54) (tgt := 58) C dX9_item_4 (by decide) (by decide) (by decide) ?_
    refine r_aload_n C dX9_item_58 rfl rfl ?_
    refine r_invI (t := 9) (kb := 0) (As := []) (st := []) C il_X9_159 co_X9_openItem (by decide) rfl (c_X9_openItem m) (by decide) (by decide) rfl rfl (Nat.le_of_ble_eq_true rfl) dX9_item_59 (fun r2 m1 => ?_)
    exact r_ireturn C dX9_item_62
  refine r_peel (v := 41) ?_ (fun h41 => ?_)
  · refine r_lsw (x := 41) (off := 59) (tgt := 63) C dX9_item_4 (by decide) (by decide) (by decide) ?_
    refine r_aload_n C dX9_item_63 rfl rfl ?_
    refine r_invI (t := 9) (kb := 0) (As := []) (st := []) C il_X9_162 co_X9_shutItem (by decide) rfl (c_X9_shutItem m) (by decide) (by decide) rfl rfl (Nat.le_of_ble_eq_true rfl) dX9_item_64 (fun r4 m3 => ?_)
    exact r_ireturn C dX9_item_67
  refine r_peel (v := 114) ?_ (fun h114 => ?_)
  · refine r_lsw (x := 114) (off := 44) (tgt := 48) C dX9_item_4 (by decide) (by decide) (by decide) ?_
    refine r_aload_n C dX9_item_48 rfl rfl ?_
    refine r_invI (t := 9) (kb := 0) (As := []) (st := []) C il_X9_153 co_X9_askItem (by decide) rfl (c_X9_askItem m) (by decide) (by decide) rfl rfl (Nat.le_of_ble_eq_true rfl) dX9_item_49 (fun r6 m5 => ?_)
    exact r_ireturn C dX9_item_52
  refine r_peel (v := 119) ?_ (fun h119 => ?_)
  · refine r_lsw (x := 119) (off := 49) (tgt := 53) C dX9_item_4 (by decide) (by decide) (by decide) ?_
    refine r_aload_n C dX9_item_53 rfl rfl ?_
    refine r_invI (t := 9) (kb := 0) (As := []) (st := []) C il_X9_156 co_X9_writeItem (by decide) rfl (c_X9_writeItem m) (by decide) (by decide) rfl rfl (Nat.le_of_ble_eq_true rfl) dX9_item_54 (fun r8 m7 => ?_)
    exact r_ireturn C dX9_item_57
  refine r_lsw (off := 64) (tgt := 68) C dX9_item_4 (by decide) (by rw [lv_osw h40 (by decide), lv_osw h41 (by decide), lv_osw h114 (by decide), lv_osw h119 (by decide)]; rfl) (by decide) ?_
  refine r_iconst (v := 1) C dX9_item_68 (by decide) ?_
  exact r_ireturn C dX9_item_69
theorem dX9_readText_0 : decode cX9_readText 0 = .ok (.aload_n 0, 1) := by decide +kernel
theorem dX9_readText_1 : decode cX9_readText 1 = .ok (.sipush 1201, 3) := by decide +kernel
theorem dX9_readText_4 : decode cX9_readText 4 = .ok (.aload_n 0, 1) := by decide +kernel
theorem dX9_readText_5 : decode cX9_readText 5 = .ok (.getfield 7, 3) := by decide +kernel
theorem dX9_readText_8 : decode cX9_readText 8 = .ok (.iconst 0, 1) := by decide +kernel
theorem dX9_readText_9 : decode cX9_readText 9 = .ok (.iaload, 1) := by decide +kernel
theorem dX9_readText_10 : decode cX9_readText 10 = .ok (.imul, 1) := by decide +kernel
theorem dX9_readText_11 : decode cX9_readText 11 = .ok (.putfield 133, 3) := by decide +kernel
theorem dX9_readText_14 : decode cX9_readText 14 = .ok (.aload_n 0, 1) := by decide +kernel
theorem dX9_readText_15 : decode cX9_readText 15 = .ok (.getfield 16, 3) := by decide +kernel
theorem dX9_readText_18 : decode cX9_readText 18 = .ok (.aload_n 0, 1) := by decide +kernel
theorem dX9_readText_19 : decode cX9_readText 19 = .ok (.getfield 133, 3) := by decide +kernel
theorem dX9_readText_22 : decode cX9_readText 22 = .ok (.iconst 0, 1) := by decide +kernel
theorem dX9_readText_23 : decode cX9_readText 23 = .ok (.iastore, 1) := by decide +kernel
theorem dX9_readText_24 : decode cX9_readText 24 = .ok (.aload_n 0, 1) := by decide +kernel
theorem dX9_readText_25 : decode cX9_readText 25 = .ok (.iconst 0, 1) := by decide +kernel
theorem dX9_readText_26 : decode cX9_readText 26 = .ok (.putfield 136, 3) := by decide +kernel
theorem dX9_readText_29 : decode cX9_readText 29 = .ok (.aload_n 0, 1) := by decide +kernel
theorem dX9_readText_30 : decode cX9_readText 30 = .ok (.iconst 0, 1) := by decide +kernel
theorem dX9_readText_31 : decode cX9_readText 31 = .ok (.putfield 150, 3) := by decide +kernel
theorem dX9_readText_34 : decode cX9_readText 34 = .ok (.aload_n 0, 1) := by decide +kernel
theorem dX9_readText_35 : decode cX9_readText 35 = .ok (.iconst 0, 1) := by decide +kernel
theorem dX9_readText_36 : decode cX9_readText 36 = .ok (.putfield 111, 3) := by decide +kernel
theorem dX9_readText_39 : decode cX9_readText 39 = .ok (.aload_n 0, 1) := by decide +kernel
theorem dX9_readText_40 : decode cX9_readText 40 = .ok (.invokevirtual 140, 3) := by decide +kernel
theorem dX9_readText_43 : decode cX9_readText 43 = .ok (.aload_n 0, 1) := by decide +kernel
theorem dX9_readText_44 : decode cX9_readText 44 = .ok (.getfield 122, 3) := by decide +kernel
theorem dX9_readText_47 : decode cX9_readText 47 = .ok (.ifCond .eq 17, 3) := by decide +kernel
theorem dX9_readText_50 : decode cX9_readText 50 = .ok (.aload_n 0, 1) := by decide +kernel
theorem dX9_readText_51 : decode cX9_readText 51 = .ok (.invokevirtual 165, 3) := by decide +kernel
theorem dX9_readText_54 : decode cX9_readText 54 = .ok (.istore_n 1, 1) := by decide +kernel
theorem dX9_readText_55 : decode cX9_readText 55 = .ok (.iload_n 1, 1) := by decide +kernel
theorem dX9_readText_56 : decode cX9_readText 56 = .ok (.ifCond .eq 5, 3) := by decide +kernel
theorem dX9_readText_59 : decode cX9_readText 59 = .ok (.iload_n 1, 1) := by decide +kernel
theorem dX9_readText_60 : decode cX9_readText 60 = .ok (.ireturn, 1) := by decide +kernel
theorem dX9_readText_61 : decode cX9_readText 61 = .ok (.goto (-18), 3) := by decide +kernel
theorem dX9_readText_64 : decode cX9_readText 64 = .ok (.aload_n 0, 1) := by decide +kernel
theorem dX9_readText_65 : decode cX9_readText 65 = .ok (.getfield 150, 3) := by decide +kernel
theorem dX9_readText_68 : decode cX9_readText 68 = .ok (.ifCond .le 5, 3) := by decide +kernel
theorem dX9_readText_71 : decode cX9_readText 71 = .ok (.iconst 1, 1) := by decide +kernel
theorem dX9_readText_72 : decode cX9_readText 72 = .ok (.ireturn, 1) := by decide +kernel
theorem dX9_readText_73 : decode cX9_readText 73 = .ok (.aload_n 0, 1) := by decide +kernel
theorem dX9_readText_74 : decode cX9_readText 74 = .ok (.getfield 136, 3) := by decide +kernel
theorem dX9_readText_77 : decode cX9_readText 77 = .ok (.ifCond .eq 7, 3) := by decide +kernel
theorem dX9_readText_80 : decode cX9_readText 80 = .ok (.iconst 4, 1) := by decide +kernel
theorem dX9_readText_81 : decode cX9_readText 81 = .ok (.goto 4, 3) := by decide +kernel
theorem dX9_readText_84 : decode cX9_readText 84 = .ok (.iconst 0, 1) := by decide +kernel
theorem dX9_readText_85 : decode cX9_readText 85 = .ok (.ireturn, 1) := by decide +kernel
def X9_readText_b43 (j64 : gM → Option (Int32 × gM)) (m11 : gM) (k43 : gM → Option (Int32 × gM)) : Option (Int32 × gM) :=
  if (m11 9 0 9) = 0 then (j64 m11) else (gCall (X9_item m11) (fun (r13 : Int32) (m12 : gM) => if r13 = 0 then (k43 m12) else (some (r13, m12))))
def X9_readText (m : gM) : Option (Int32 × gM) :=
  gAt m 47 0 0 (fun (x1 : Int32) => gLet (1201 * x1) (fun (x2 : Int32) => gSet m 9 0 11 x2 (fun (m3 : gM) => gPut m3 49 0 (m3 9 0 11) 0 (fun (m4 : gM) => gSet m4 9 0 12 0 (fun (m5 : gM) => gSet m5 9 0 14 0 (fun (m6 : gM) => gSet m6 9 0 7 0 (fun (m7 : gM) => gCall (X9_nextToken m7) (fun (r9 : Unit) (m8 : gM) => gJ0 (fun (m10 : gM) => if (m10 9 0 14) ≤ 0 then (if (m10 9 0 12) = 0 then (some (0, m10)) else (some (4, m10))) else (some (1, m10))) (fun (j64 : gM → Option (Int32 × gM)) => gL0 FU (X9_readText_b43 j64) m8)))))))))
set_option maxRecDepth 100000 in
set_option maxHeartbeats 4000000 in
theorem c_X9_readText (m : gM) : gCon eI yX9_readText cX9_readText 2 (some .int) 4 [.inr (9, 0)] m (X9_readText m) := by
  refine gCon.of (lv := [some (.inr (9, 0)), none]) (by decide +kernel) (Nat.le_of_ble_eq_true rfl) rfl (fun X C => ?_)
  unfold X9_readText
  refine r_aload_n C dX9_readText_0 rfl rfl ?_
  refine r_sipush (v := 1201) C dX9_readText_1 (by decide) ?_
  refine r_aload_n C dX9_readText_4 rfl rfl ?_
  refine r_get (v := .inr (47, 0)) C fl_X9_7 dX9_readText_5 rfl ?_
  refine r_iconst (v := 0) C dX9_readText_8 (by decide) ?_
  refine r_iald C rfl dX9_readText_9 (fun x1 => ?_)
  refine r_imul C dX9_readText_10 ?_
  refine r_let (fun x2 => ?_)
  refine r_put C fl_X9_133 rfl rfl rfl dX9_readText_11 (fun m3 => ?_)
  refine r_aload_n C dX9_readText_14 rfl rfl ?_
  refine r_get (v := .inr (49, 0)) C fl_X9_16 dX9_readText_15 rfl ?_
  refine r_aload_n C dX9_readText_18 rfl rfl ?_
  refine r_get (v := .inl (m3 9 0 11)) C fl_X9_133 dX9_readText_19 rfl ?_
  refine r_iconst (v := 0) C dX9_readText_22 (by decide) ?_
  refine r_iast C rfl dX9_readText_23 (fun m4 => ?_)
  refine r_aload_n C dX9_readText_24 rfl rfl ?_
  refine r_iconst (v := 0) C dX9_readText_25 (by decide) ?_
  refine r_putG C fl_X9_136 rfl rfl rfl rfl dX9_readText_26 (fun m5 => ?_)
  refine r_aload_n C dX9_readText_29 rfl rfl ?_
  refine r_iconst (v := 0) C dX9_readText_30 (by decide) ?_
  refine r_put C fl_X9_150 rfl rfl rfl dX9_readText_31 (fun m6 => ?_)
  refine r_aload_n C dX9_readText_34 rfl rfl ?_
  refine r_iconst (v := 0) C dX9_readText_35 (by decide) ?_
  refine r_put C fl_X9_111 rfl rfl rfl dX9_readText_36 (fun m7 => ?_)
  refine r_aload_n C dX9_readText_39 rfl rfl ?_
  refine r_invU (t := 9) (kb := 0) (As := []) (st := []) C il_X9_140 co_X9_nextToken (by decide) rfl (c_X9_nextToken m7) (by decide) (by decide) rfl rfl (Nat.le_of_ble_eq_true rfl) dX9_readText_40 (fun r9 m8 => ?_)
  refine r_j0 64 [some (.inr (9, 0)), none] [] (fun m10 => ?_) (fun j64 hj64 => ?_)
  · refine r_aload_n C dX9_readText_64 rfl rfl ?_
    refine r_get (v := .inl (m10 9 0 14)) C fl_X9_150 dX9_readText_65 rfl ?_
    refine r_if_le (tgt := 73) C dX9_readText_68 (by decide) ?_ ?_
    · refine r_aload_n C dX9_readText_73 rfl rfl ?_
      refine r_get (v := .inl (m10 9 0 12)) C fl_X9_136 dX9_readText_74 rfl ?_
      refine r_if_eq (tgt := 84) C dX9_readText_77 (by decide) ?_ ?_
      · refine r_iconst (v := 0) C dX9_readText_84 (by decide) ?_
        exact r_ireturn C dX9_readText_85
      refine r_iconst (v := 4) C dX9_readText_80 (by decide) ?_
      refine r_goto (tgt := 85) C dX9_readText_81 (by decide) ?_
      exact r_ireturn C dX9_readText_85
    refine r_iconst (v := 1) C dX9_readText_71 (by decide) ?_
    exact r_ireturn C dX9_readText_72
  refine r_weak (lv' := [some (.inr (9, 0)), none]) ⟨rfl, trivial⟩ ?_
  refine r_l0 (pj := 43) [some (.inr (9, 0)), none] (fun m11 k43 hk43 => ?_) _ _
  unfold X9_readText_b43
  refine r_aload_n C dX9_readText_43 rfl rfl ?_
  refine r_get (v := .inl (m11 9 0 9)) C fl_X9_122 dX9_readText_44 rfl ?_
  refine r_if_eq (tgt := 64) C dX9_readText_47 (by decide) ?_ ?_
  · exact r_weak (lv' := [some (.inr (9, 0)), none]) ⟨rfl, trivial⟩ (hj64 _)
  refine r_aload_n C dX9_readText_50 rfl rfl ?_
  refine r_invI (t := 9) (kb := 0) (As := []) (st := []) C il_X9_165 co_X9_item (by decide) rfl (c_X9_item m11) (by decide) (by decide) rfl rfl (Nat.le_of_ble_eq_true rfl) dX9_readText_51 (fun r13 m12 => ?_)
  refine r_istore_n (lv' := [some (.inr (9, 0)), some (.inl r13)]) C dX9_readText_54 rfl (by decide) rfl ?_
  refine r_iload_n C dX9_readText_55 rfl rfl ?_
  refine r_if_eq (tgt := 61) C dX9_readText_56 (by decide) ?_ ?_
  · refine r_goto (tgt := 43) C dX9_readText_61 (by decide) ?_
    exact r_weak (lv' := [some (.inr (9, 0)), none]) ⟨rfl, trivial⟩ (hk43 _)
  refine r_iload_n C dX9_readText_59 rfl rfl ?_
  exact r_ireturn C dX9_readText_60
theorem dX9_text_0 : decode cX9_text 0 = .ok (.aload_n 0, 1) := by decide +kernel
theorem dX9_text_1 : decode cX9_text 1 = .ok (.getfield 7, 3) := by decide +kernel
theorem dX9_text_4 : decode cX9_text 4 = .ok (.iconst 0, 1) := by decide +kernel
theorem dX9_text_5 : decode cX9_text 5 = .ok (.iaload, 1) := by decide +kernel
theorem dX9_text_6 : decode cX9_text 6 = .ok (.iconst 4, 1) := by decide +kernel
theorem dX9_text_7 : decode cX9_text 7 = .ok (.if_icmp .ne 5, 3) := by decide +kernel
theorem dX9_text_10 : decode cX9_text 10 = .ok (.iconst (-1), 1) := by decide +kernel
theorem dX9_text_11 : decode cX9_text 11 = .ok (.ireturn, 1) := by decide +kernel
theorem dX9_text_12 : decode cX9_text 12 = .ok (.aload_n 0, 1) := by decide +kernel
theorem dX9_text_13 : decode cX9_text 13 = .ok (.aload_n 0, 1) := by decide +kernel
theorem dX9_text_14 : decode cX9_text 14 = .ok (.invokevirtual 168, 3) := by decide +kernel
theorem dX9_text_17 : decode cX9_text 17 = .ok (.putfield 22, 3) := by decide +kernel
theorem dX9_text_20 : decode cX9_text 20 = .ok (.aload_n 0, 1) := by decide +kernel
theorem dX9_text_21 : decode cX9_text 21 = .ok (.aload_n 0, 1) := by decide +kernel
theorem dX9_text_22 : decode cX9_text 22 = .ok (.getfield 22, 3) := by decide +kernel
theorem dX9_text_25 : decode cX9_text 25 = .ok (.ifCond .ne 7, 3) := by decide +kernel
theorem dX9_text_28 : decode cX9_text 28 = .ok (.iconst (-1), 1) := by decide +kernel
theorem dX9_text_29 : decode cX9_text 29 = .ok (.goto 7, 3) := by decide +kernel
theorem dX9_text_32 : decode cX9_text 32 = .ok (.aload_n 0, 1) := by decide +kernel
theorem dX9_text_33 : decode cX9_text 33 = .ok (.getfield 116, 3) := by decide +kernel
theorem dX9_text_36 : decode cX9_text 36 = .ok (.putfield 26, 3) := by decide +kernel
theorem dX9_text_39 : decode cX9_text 39 = .ok (.aload_n 0, 1) := by decide +kernel
theorem dX9_text_40 : decode cX9_text 40 = .ok (.iconst 0, 1) := by decide +kernel
theorem dX9_text_41 : decode cX9_text 41 = .ok (.putfield 105, 3) := by decide +kernel
theorem dX9_text_44 : decode cX9_text 44 = .ok (.aload_n 0, 1) := by decide +kernel
theorem dX9_text_45 : decode cX9_text 45 = .ok (.getfield 22, 3) := by decide +kernel
theorem dX9_text_48 : decode cX9_text 48 = .ok (.ifCond .eq 5, 3) := by decide +kernel
theorem dX9_text_51 : decode cX9_text 51 = .ok (.iconst (-1), 1) := by decide +kernel
theorem dX9_text_52 : decode cX9_text 52 = .ok (.ireturn, 1) := by decide +kernel
theorem dX9_text_53 : decode cX9_text 53 = .ok (.aload_n 0, 1) := by decide +kernel
theorem dX9_text_54 : decode cX9_text 54 = .ok (.getfield 7, 3) := by decide +kernel
theorem dX9_text_57 : decode cX9_text 57 = .ok (.iconst 0, 1) := by decide +kernel
theorem dX9_text_58 : decode cX9_text 58 = .ok (.dup2, 1) := by decide +kernel
theorem dX9_text_59 : decode cX9_text 59 = .ok (.iaload, 1) := by decide +kernel
theorem dX9_text_60 : decode cX9_text 60 = .ok (.iconst 1, 1) := by decide +kernel
theorem dX9_text_61 : decode cX9_text 61 = .ok (.iadd, 1) := by decide +kernel
theorem dX9_text_62 : decode cX9_text 62 = .ok (.iastore, 1) := by decide +kernel
theorem dX9_text_63 : decode cX9_text 63 = .ok (.aload_n 0, 1) := by decide +kernel
theorem dX9_text_64 : decode cX9_text 64 = .ok (.getfield 7, 3) := by decide +kernel
theorem dX9_text_67 : decode cX9_text 67 = .ok (.iconst 0, 1) := by decide +kernel
theorem dX9_text_68 : decode cX9_text 68 = .ok (.iaload, 1) := by decide +kernel
theorem dX9_text_69 : decode cX9_text 69 = .ok (.iconst 1, 1) := by decide +kernel
theorem dX9_text_70 : decode cX9_text 70 = .ok (.isub, 1) := by decide +kernel
theorem dX9_text_71 : decode cX9_text 71 = .ok (.ireturn, 1) := by decide +kernel
def X9_text (m : gM) : Option (Int32 × gM) :=
  gAt m 47 0 0 (fun (x1 : Int32) => if x1 = 4 then (some ((-1), m)) else (gCall (X9_readText m) (fun (r3 : Int32) (m2 : gM) => gSet m2 9 0 5 r3 (fun (m4 : gM) => gJ1 (fun (w5 : Int32) (m6 : gM) => gSet m6 9 0 6 w5 (fun (m7 : gM) => gSet m7 9 0 4 0 (fun (m8 : gM) => if (m8 9 0 5) = 0 then (gAt m8 47 0 0 (fun (x9 : Int32) => gPut m8 47 0 0 (x9 + 1) (fun (m10 : gM) => gAt m10 47 0 0 (fun (x11 : Int32) => some (x11 - 1, m10))))) else (some ((-1), m8))))) (fun (j36 : Int32 → gM → Option (Int32 × gM)) => if (m4 9 0 5) = 0 then (j36 (-1) m4) else (j36 (m4 9 0 8) m4))))))
set_option maxRecDepth 100000 in
set_option maxHeartbeats 4000000 in
theorem c_X9_text (m : gM) : gCon eI yX9_text cX9_text 1 (some .int) 5 [.inr (9, 0)] m (X9_text m) := by
  refine gCon.of (lv := [some (.inr (9, 0))]) (by decide +kernel) (Nat.le_of_ble_eq_true rfl) rfl (fun X C => ?_)
  unfold X9_text
  refine r_aload_n C dX9_text_0 rfl rfl ?_
  refine r_get (v := .inr (47, 0)) C fl_X9_7 dX9_text_1 rfl ?_
  refine r_iconst (v := 0) C dX9_text_4 (by decide) ?_
  refine r_iald C rfl dX9_text_5 (fun x1 => ?_)
  refine r_iconst (v := 4) C dX9_text_6 (by decide) ?_
  refine r_icmp_ne (tgt := 12) C dX9_text_7 (by decide) ?_ ?_
  · refine r_aload_n C dX9_text_12 rfl rfl ?_
    refine r_aload_n C dX9_text_13 rfl rfl ?_
    refine r_invI (t := 9) (kb := 0) (As := []) (st := [.inr (9, 0)]) C il_X9_168 co_X9_readText (by decide) rfl (c_X9_readText m) (by decide) (by decide) rfl rfl (Nat.le_of_ble_eq_true rfl) dX9_text_14 (fun r3 m2 => ?_)
    refine r_put C fl_X9_22 rfl rfl rfl dX9_text_17 (fun m4 => ?_)
    refine r_aload_n C dX9_text_20 rfl rfl ?_
    refine r_aload_n C dX9_text_21 rfl rfl ?_
    refine r_get (v := .inl (m4 9 0 5)) C fl_X9_22 dX9_text_22 rfl ?_
    refine r_j1 36 (fun w5 => [some (.inr (9, 0))]) (fun w5 => [.inl w5, .inr (9, 0)]) (fun w5 m6 => ?_) (fun j36 hj36 => ?_)
    · refine r_put C fl_X9_26 rfl rfl rfl dX9_text_36 (fun m7 => ?_)
      refine r_aload_n C dX9_text_39 rfl rfl ?_
      refine r_iconst (v := 0) C dX9_text_40 (by decide) ?_
      refine r_put C fl_X9_105 rfl rfl rfl dX9_text_41 (fun m8 => ?_)
      refine r_aload_n C dX9_text_44 rfl rfl ?_
      refine r_get (v := .inl (m8 9 0 5)) C fl_X9_22 dX9_text_45 rfl ?_
      refine r_if_eq (tgt := 53) C dX9_text_48 (by decide) ?_ ?_
      · refine r_aload_n C dX9_text_53 rfl rfl ?_
        refine r_get (v := .inr (47, 0)) C fl_X9_7 dX9_text_54 rfl ?_
        refine r_iconst (v := 0) C dX9_text_57 (by decide) ?_
        refine r_dup2 C dX9_text_58 ?_
        refine r_iald C rfl dX9_text_59 (fun x9 => ?_)
        refine r_iconst (v := 1) C dX9_text_60 (by decide) ?_
        refine r_iadd C dX9_text_61 ?_
        refine r_iast C rfl dX9_text_62 (fun m10 => ?_)
        refine r_aload_n C dX9_text_63 rfl rfl ?_
        refine r_get (v := .inr (47, 0)) C fl_X9_7 dX9_text_64 rfl ?_
        refine r_iconst (v := 0) C dX9_text_67 (by decide) ?_
        refine r_iald C rfl dX9_text_68 (fun x11 => ?_)
        refine r_iconst (v := 1) C dX9_text_69 (by decide) ?_
        refine r_isub C dX9_text_70 ?_
        exact r_ireturn C dX9_text_71
      refine r_iconst (v := (-1)) C dX9_text_51 (by decide) ?_
      exact r_ireturn C dX9_text_52
    refine r_if_ne (tgt := 32) C dX9_text_25 (by decide) ?_ ?_
    · refine r_aload_n C dX9_text_32 rfl rfl ?_
      refine r_get (v := .inl (m4 9 0 8)) C fl_X9_116 dX9_text_33 rfl ?_
      exact r_weak (lv' := [some (.inr (9, 0))]) ⟨rfl, trivial⟩ (hj36 _ _)
    refine r_iconst (v := (-1)) C dX9_text_28 (by decide) ?_
    refine r_goto (tgt := 36) C dX9_text_29 (by decide) ?_
    exact r_weak (lv' := [some (.inr (9, 0))]) ⟨rfl, trivial⟩ (hj36 _ _)
  refine r_iconst (v := (-1)) C dX9_text_10 (by decide) ?_
  exact r_ireturn C dX9_text_11
theorem dX9_fault_0 : decode cX9_fault 0 = .ok (.iload_n 1, 1) := by decide +kernel
theorem dX9_fault_1 : decode cX9_fault 1 = .ok (.ifCond .ne 10, 3) := by decide +kernel
theorem dX9_fault_4 : decode cX9_fault 4 = .ok (.aload_n 0, 1) := by decide +kernel
theorem dX9_fault_5 : decode cX9_fault 5 = .ok (.getfield 22, 3) := by decide +kernel
theorem dX9_fault_8 : decode cX9_fault 8 = .ok (.goto 16, 3) := by decide +kernel
theorem dX9_fault_11 : decode cX9_fault 11 = .ok (.iload_n 1, 1) := by decide +kernel
theorem dX9_fault_12 : decode cX9_fault 12 = .ok (.iconst 1, 1) := by decide +kernel
theorem dX9_fault_13 : decode cX9_fault 13 = .ok (.if_icmp .ne 10, 3) := by decide +kernel
theorem dX9_fault_16 : decode cX9_fault 16 = .ok (.aload_n 0, 1) := by decide +kernel
theorem dX9_fault_17 : decode cX9_fault 17 = .ok (.getfield 26, 3) := by decide +kernel
theorem dX9_fault_20 : decode cX9_fault 20 = .ok (.goto 4, 3) := by decide +kernel
theorem dX9_fault_23 : decode cX9_fault 23 = .ok (.iconst (-1), 1) := by decide +kernel
theorem dX9_fault_24 : decode cX9_fault 24 = .ok (.ireturn, 1) := by decide +kernel
def X9_fault (a1 : Int32) (m : gM) : Option (Int32 × gM) :=
  if a1 = 0 then (some ((m 9 0 5), m)) else (if a1 = 1 then (some ((m 9 0 6), m)) else (some ((-1), m)))
set_option maxRecDepth 100000 in
set_option maxHeartbeats 4000000 in
theorem c_X9_fault (a1 : Int32) (m : gM) : gCon eI yX9_fault cX9_fault 2 (some .int) 0 [.inr (9, 0), .inl a1] m (X9_fault a1 m) := by
  refine gCon.of (lv := [some (.inr (9, 0)), some (.inl a1)]) (by decide +kernel) (Nat.le_of_ble_eq_true rfl) rfl (fun X C => ?_)
  unfold X9_fault
  refine r_iload_n C dX9_fault_0 rfl rfl ?_
  refine r_if_ne (tgt := 11) C dX9_fault_1 (by decide) ?_ ?_
  · refine r_iload_n C dX9_fault_11 rfl rfl ?_
    refine r_iconst (v := 1) C dX9_fault_12 (by decide) ?_
    refine r_icmp_ne (tgt := 23) C dX9_fault_13 (by decide) ?_ ?_
    · refine r_iconst (v := (-1)) C dX9_fault_23 (by decide) ?_
      exact r_ireturn C dX9_fault_24
    refine r_aload_n C dX9_fault_16 rfl rfl ?_
    refine r_get (v := .inl (m 9 0 6)) C fl_X9_26 dX9_fault_17 rfl ?_
    refine r_goto (tgt := 24) C dX9_fault_20 (by decide) ?_
    exact r_ireturn C dX9_fault_24
  refine r_aload_n C dX9_fault_4 rfl rfl ?_
  refine r_get (v := .inl (m 9 0 5)) C fl_X9_22 dX9_fault_5 rfl ?_
  refine r_goto (tgt := 24) C dX9_fault_8 (by decide) ?_
  exact r_ireturn C dX9_fault_24
theorem dX9_find_0 : decode cX9_find 0 = .ok (.aload_n 0, 1) := by decide +kernel
theorem dX9_find_1 : decode cX9_find 1 = .ok (.getfield 38, 3) := by decide +kernel
theorem dX9_find_4 : decode cX9_find 4 = .ok (.iload_n 1, 1) := by decide +kernel
theorem dX9_find_5 : decode cX9_find 5 = .ok (.baload, 1) := by decide +kernel
theorem dX9_find_6 : decode cX9_find 6 = .ok (.ifCond .ne 18, 3) := by decide +kernel
theorem dX9_find_9 : decode cX9_find 9 = .ok (.aload_n 0, 1) := by decide +kernel
theorem dX9_find_10 : decode cX9_find 10 = .ok (.getfield 7, 3) := by decide +kernel
theorem dX9_find_13 : decode cX9_find 13 = .ok (.iload_n 1, 1) := by decide +kernel
theorem dX9_find_14 : decode cX9_find 14 = .ok (.invokestatic 96, 3) := by decide +kernel
theorem dX9_find_17 : decode cX9_find 17 = .ok (.iconst 4, 1) := by decide +kernel
theorem dX9_find_18 : decode cX9_find 18 = .ok (.iadd, 1) := by decide +kernel
theorem dX9_find_19 : decode cX9_find 19 = .ok (.iaload, 1) := by decide +kernel
theorem dX9_find_20 : decode cX9_find 20 = .ok (.iconst 1, 1) := by decide +kernel
theorem dX9_find_21 : decode cX9_find 21 = .ok (.if_icmp .ne 4, 3) := by decide +kernel
theorem dX9_find_24 : decode cX9_find 24 = .ok (.return_, 1) := by decide +kernel
theorem dX9_find_25 : decode cX9_find 25 = .ok (.aload_n 0, 1) := by decide +kernel
theorem dX9_find_26 : decode cX9_find 26 = .ok (.getfield 38, 3) := by decide +kernel
theorem dX9_find_29 : decode cX9_find 29 = .ok (.iload_n 1, 1) := by decide +kernel
theorem dX9_find_30 : decode cX9_find 30 = .ok (.iconst 1, 1) := by decide +kernel
theorem dX9_find_31 : decode cX9_find 31 = .ok (.bastore, 1) := by decide +kernel
theorem dX9_find_32 : decode cX9_find 32 = .ok (.aload_n 0, 1) := by decide +kernel
theorem dX9_find_33 : decode cX9_find 33 = .ok (.getfield 32, 3) := by decide +kernel
theorem dX9_find_36 : decode cX9_find 36 = .ok (.aload_n 0, 1) := by decide +kernel
theorem dX9_find_37 : decode cX9_find 37 = .ok (.getfield 171, 3) := by decide +kernel
theorem dX9_find_40 : decode cX9_find 40 = .ok (.iload_n 1, 1) := by decide +kernel
theorem dX9_find_41 : decode cX9_find 41 = .ok (.iastore, 1) := by decide +kernel
theorem dX9_find_42 : decode cX9_find 42 = .ok (.aload_n 0, 1) := by decide +kernel
theorem dX9_find_43 : decode cX9_find 43 = .ok (.getfield 35, 3) := by decide +kernel
theorem dX9_find_46 : decode cX9_find 46 = .ok (.aload_n 0, 1) := by decide +kernel
theorem dX9_find_47 : decode cX9_find 47 = .ok (.getfield 171, 3) := by decide +kernel
theorem dX9_find_50 : decode cX9_find 50 = .ok (.iload_n 2, 1) := by decide +kernel
theorem dX9_find_51 : decode cX9_find 51 = .ok (.iastore, 1) := by decide +kernel
theorem dX9_find_52 : decode cX9_find 52 = .ok (.aload_n 0, 1) := by decide +kernel
theorem dX9_find_53 : decode cX9_find 53 = .ok (.dup, 1) := by decide +kernel
theorem dX9_find_54 : decode cX9_find 54 = .ok (.getfield 171, 3) := by decide +kernel
theorem dX9_find_57 : decode cX9_find 57 = .ok (.iconst 1, 1) := by decide +kernel
theorem dX9_find_58 : decode cX9_find 58 = .ok (.iadd, 1) := by decide +kernel
theorem dX9_find_59 : decode cX9_find 59 = .ok (.putfield 171, 3) := by decide +kernel
theorem dX9_find_62 : decode cX9_find 62 = .ok (.return_, 1) := by decide +kernel
def X9_find (a1 : Int32) (a2 : Int32) (m : gM) : Option (Unit × gM) :=
  gAt m 54 0 a1 (fun (x1 : Int32) => if x1 = 0 then (gCall (X9_at a1 m) (fun (r3 : Int32) (m2 : gM) => gAt m2 47 0 (r3 + 4) (fun (x4 : Int32) => if x4 = 1 then (some ((), m2)) else (gPut m2 54 0 a1 1 (fun (m5 : gM) => gPut m5 52 0 (m5 9 0 18) a1 (fun (m6 : gM) => gPut m6 53 0 (m6 9 0 18) a2 (fun (m7 : gM) => gLet ((m7 9 0 18) + 1) (fun (x8 : Int32) => gSet m7 9 0 18 x8 (fun (m9 : gM) => some ((), m9)))))))))) else (some ((), m)))
set_option maxRecDepth 100000 in
set_option maxHeartbeats 4000000 in
theorem c_X9_find (a1 : Int32) (a2 : Int32) (m : gM) : gCon eU yX9_find cX9_find 3 none 1 [.inr (9, 0), .inl a1, .inl a2] m (X9_find a1 a2 m) := by
  refine gCon.of (lv := [some (.inr (9, 0)), some (.inl a1), some (.inl a2)]) (by decide +kernel) (Nat.le_of_ble_eq_true rfl) rfl (fun X C => ?_)
  unfold X9_find
  refine r_aload_n C dX9_find_0 rfl rfl ?_
  refine r_get (v := .inr (54, 0)) C fl_X9_38 dX9_find_1 rfl ?_
  refine r_iload_n C dX9_find_4 rfl rfl ?_
  refine r_zald C dX9_find_5 (fun x1 => ?_)
  refine r_if_ne (tgt := 24) C dX9_find_6 (by decide) ?_ ?_
  · exact r_return C dX9_find_24
  refine r_aload_n C dX9_find_9 rfl rfl ?_
  refine r_get (v := .inr (47, 0)) C fl_X9_7 dX9_find_10 rfl ?_
  refine r_iload_n C dX9_find_13 rfl rfl ?_
  refine r_insI (As := [.inl a1]) (st := [.inr (47, 0)]) C il_X9_96 co_X9_at (c_X9_at a1 m) (by decide) (by decide) rfl rfl (Nat.le_of_ble_eq_true rfl) dX9_find_14 (fun r3 m2 => ?_)
  refine r_iconst (v := 4) C dX9_find_17 (by decide) ?_
  refine r_iadd C dX9_find_18 ?_
  refine r_iald C rfl dX9_find_19 (fun x4 => ?_)
  refine r_iconst (v := 1) C dX9_find_20 (by decide) ?_
  refine r_icmp_ne (tgt := 25) C dX9_find_21 (by decide) ?_ ?_
  · refine r_aload_n C dX9_find_25 rfl rfl ?_
    refine r_get (v := .inr (54, 0)) C fl_X9_38 dX9_find_26 rfl ?_
    refine r_iload_n C dX9_find_29 rfl rfl ?_
    refine r_iconst (v := 1) C dX9_find_30 (by decide) ?_
    refine r_zast C rfl dX9_find_31 (fun m5 => ?_)
    refine r_aload_n C dX9_find_32 rfl rfl ?_
    refine r_get (v := .inr (52, 0)) C fl_X9_32 dX9_find_33 rfl ?_
    refine r_aload_n C dX9_find_36 rfl rfl ?_
    refine r_get (v := .inl (m5 9 0 18)) C fl_X9_171 dX9_find_37 rfl ?_
    refine r_iload_n C dX9_find_40 rfl rfl ?_
    refine r_iast C rfl dX9_find_41 (fun m6 => ?_)
    refine r_aload_n C dX9_find_42 rfl rfl ?_
    refine r_get (v := .inr (53, 0)) C fl_X9_35 dX9_find_43 rfl ?_
    refine r_aload_n C dX9_find_46 rfl rfl ?_
    refine r_get (v := .inl (m6 9 0 18)) C fl_X9_171 dX9_find_47 rfl ?_
    refine r_iload_n C dX9_find_50 rfl rfl ?_
    refine r_iast C rfl dX9_find_51 (fun m7 => ?_)
    refine r_aload_n C dX9_find_52 rfl rfl ?_
    refine r_dup C dX9_find_53 ?_
    refine r_get (v := .inl (m7 9 0 18)) C fl_X9_171 dX9_find_54 rfl ?_
    refine r_iconst (v := 1) C dX9_find_57 (by decide) ?_
    refine r_iadd C dX9_find_58 ?_
    refine r_let (fun x8 => ?_)
    refine r_put C fl_X9_171 rfl rfl rfl dX9_find_59 (fun m9 => ?_)
    exact r_return C dX9_find_62
  exact r_return C dX9_find_24
theorem dX9_layFound_0 : decode cX9_layFound 0 = .ok (.aload_n 0, 1) := by decide +kernel
theorem dX9_layFound_1 : decode cX9_layFound 1 = .ok (.iconst 0, 1) := by decide +kernel
theorem dX9_layFound_2 : decode cX9_layFound 2 = .ok (.putfield 171, 3) := by decide +kernel
theorem dX9_layFound_5 : decode cX9_layFound 5 = .ok (.iconst 0, 1) := by decide +kernel
theorem dX9_layFound_6 : decode cX9_layFound 6 = .ok (.istore_n 3, 1) := by decide +kernel
theorem dX9_layFound_7 : decode cX9_layFound 7 = .ok (.iload_n 3, 1) := by decide +kernel
theorem dX9_layFound_8 : decode cX9_layFound 8 = .ok (.bipush 64, 2) := by decide +kernel
theorem dX9_layFound_10 : decode cX9_layFound 10 = .ok (.if_icmp .ge 16, 3) := by decide +kernel
theorem dX9_layFound_13 : decode cX9_layFound 13 = .ok (.aload_n 0, 1) := by decide +kernel
theorem dX9_layFound_14 : decode cX9_layFound 14 = .ok (.getfield 38, 3) := by decide +kernel
theorem dX9_layFound_17 : decode cX9_layFound 17 = .ok (.iload_n 3, 1) := by decide +kernel
theorem dX9_layFound_18 : decode cX9_layFound 18 = .ok (.iconst 0, 1) := by decide +kernel
theorem dX9_layFound_19 : decode cX9_layFound 19 = .ok (.bastore, 1) := by decide +kernel
theorem dX9_layFound_20 : decode cX9_layFound 20 = .ok (.iinc 3 1, 3) := by decide +kernel
theorem dX9_layFound_23 : decode cX9_layFound 23 = .ok (.goto (-16), 3) := by decide +kernel
theorem dX9_layFound_26 : decode cX9_layFound 26 = .ok (.aload_n 0, 1) := by decide +kernel
theorem dX9_layFound_27 : decode cX9_layFound 27 = .ok (.iload_n 1, 1) := by decide +kernel
theorem dX9_layFound_28 : decode cX9_layFound 28 = .ok (.invokevirtual 174, 3) := by decide +kernel
theorem dX9_layFound_31 : decode cX9_layFound 31 = .ok (.iconst (-1), 1) := by decide +kernel
theorem dX9_layFound_32 : decode cX9_layFound 32 = .ok (.if_icmp .eq 4, 3) := by decide +kernel
theorem dX9_layFound_35 : decode cX9_layFound 35 = .ok (.return_, 1) := by decide +kernel
theorem dX9_layFound_36 : decode cX9_layFound 36 = .ok (.iconst 0, 1) := by decide +kernel
theorem dX9_layFound_37 : decode cX9_layFound 37 = .ok (.istore_n 3, 1) := by decide +kernel
theorem dX9_layFound_38 : decode cX9_layFound 38 = .ok (.iload_n 3, 1) := by decide +kernel
theorem dX9_layFound_39 : decode cX9_layFound 39 = .ok (.aload_n 0, 1) := by decide +kernel
theorem dX9_layFound_40 : decode cX9_layFound 40 = .ok (.getfield 7, 3) := by decide +kernel
theorem dX9_layFound_43 : decode cX9_layFound 43 = .ok (.bipush 36, 2) := by decide +kernel
theorem dX9_layFound_45 : decode cX9_layFound 45 = .ok (.iaload, 1) := by decide +kernel
theorem dX9_layFound_46 : decode cX9_layFound 46 = .ok (.if_icmp .ge 20, 3) := by decide +kernel
theorem dX9_layFound_49 : decode cX9_layFound 49 = .ok (.aload_n 0, 1) := by decide +kernel
theorem dX9_layFound_50 : decode cX9_layFound 50 = .ok (.aload_n 0, 1) := by decide +kernel
theorem dX9_layFound_51 : decode cX9_layFound 51 = .ok (.iload_n 1, 1) := by decide +kernel
theorem dX9_layFound_52 : decode cX9_layFound 52 = .ok (.iload_n 3, 1) := by decide +kernel
theorem dX9_layFound_53 : decode cX9_layFound 53 = .ok (.invokevirtual 99, 3) := by decide +kernel
theorem dX9_layFound_56 : decode cX9_layFound 56 = .ok (.iconst (-1), 1) := by decide +kernel
theorem dX9_layFound_57 : decode cX9_layFound 57 = .ok (.invokevirtual 177, 3) := by decide +kernel
theorem dX9_layFound_60 : decode cX9_layFound 60 = .ok (.iinc 3 1, 3) := by decide +kernel
theorem dX9_layFound_63 : decode cX9_layFound 63 = .ok (.goto (-25), 3) := by decide +kernel
theorem dX9_layFound_66 : decode cX9_layFound 66 = .ok (.iconst 0, 1) := by decide +kernel
theorem dX9_layFound_67 : decode cX9_layFound 67 = .ok (.istore_n 3, 1) := by decide +kernel
theorem dX9_layFound_68 : decode cX9_layFound 68 = .ok (.iconst 0, 1) := by decide +kernel
theorem dX9_layFound_69 : decode cX9_layFound 69 = .ok (.istore 4, 2) := by decide +kernel
theorem dX9_layFound_71 : decode cX9_layFound 71 = .ok (.iload 4, 2) := by decide +kernel
theorem dX9_layFound_73 : decode cX9_layFound 73 = .ok (.iload_n 2, 1) := by decide +kernel
theorem dX9_layFound_74 : decode cX9_layFound 74 = .ok (.if_icmp .ge 103, 3) := by decide +kernel
theorem dX9_layFound_77 : decode cX9_layFound 77 = .ok (.aload_n 0, 1) := by decide +kernel
theorem dX9_layFound_78 : decode cX9_layFound 78 = .ok (.getfield 171, 3) := by decide +kernel
theorem dX9_layFound_81 : decode cX9_layFound 81 = .ok (.istore 5, 2) := by decide +kernel
theorem dX9_layFound_83 : decode cX9_layFound 83 = .ok (.iload_n 3, 1) := by decide +kernel
theorem dX9_layFound_84 : decode cX9_layFound 84 = .ok (.istore 6, 2) := by decide +kernel
theorem dX9_layFound_86 : decode cX9_layFound 86 = .ok (.iload 6, 2) := by decide +kernel
theorem dX9_layFound_88 : decode cX9_layFound 88 = .ok (.iload 5, 2) := by decide +kernel
theorem dX9_layFound_90 : decode cX9_layFound 90 = .ok (.if_icmp .ge 78, 3) := by decide +kernel
theorem dX9_layFound_93 : decode cX9_layFound 93 = .ok (.aload_n 0, 1) := by decide +kernel
theorem dX9_layFound_94 : decode cX9_layFound 94 = .ok (.aload_n 0, 1) := by decide +kernel
theorem dX9_layFound_95 : decode cX9_layFound 95 = .ok (.getfield 32, 3) := by decide +kernel
theorem dX9_layFound_98 : decode cX9_layFound 98 = .ok (.iload 6, 2) := by decide +kernel
theorem dX9_layFound_100 : decode cX9_layFound 100 = .ok (.iaload, 1) := by decide +kernel
theorem dX9_layFound_101 : decode cX9_layFound 101 = .ok (.invokevirtual 102, 3) := by decide +kernel
theorem dX9_layFound_104 : decode cX9_layFound 104 = .ok (.istore 7, 2) := by decide +kernel
theorem dX9_layFound_106 : decode cX9_layFound 106 = .ok (.iconst 0, 1) := by decide +kernel
theorem dX9_layFound_107 : decode cX9_layFound 107 = .ok (.istore 8, 2) := by decide +kernel
theorem dX9_layFound_109 : decode cX9_layFound 109 = .ok (.iload 8, 2) := by decide +kernel
theorem dX9_layFound_111 : decode cX9_layFound 111 = .ok (.aload_n 0, 1) := by decide +kernel
theorem dX9_layFound_112 : decode cX9_layFound 112 = .ok (.getfield 7, 3) := by decide +kernel
theorem dX9_layFound_115 : decode cX9_layFound 115 = .ok (.bipush 36, 2) := by decide +kernel
theorem dX9_layFound_117 : decode cX9_layFound 117 = .ok (.iaload, 1) := by decide +kernel
theorem dX9_layFound_118 : decode cX9_layFound 118 = .ok (.if_icmp .ge 44, 3) := by decide +kernel
theorem dX9_layFound_121 : decode cX9_layFound 121 = .ok (.iload 7, 2) := by decide +kernel
theorem dX9_layFound_123 : decode cX9_layFound 123 = .ok (.iconst (-1), 1) := by decide +kernel
theorem dX9_layFound_124 : decode cX9_layFound 124 = .ok (.if_icmp .eq 38, 3) := by decide +kernel
theorem dX9_layFound_127 : decode cX9_layFound 127 = .ok (.iload 8, 2) := by decide +kernel
theorem dX9_layFound_129 : decode cX9_layFound 129 = .ok (.aload_n 0, 1) := by decide +kernel
theorem dX9_layFound_130 : decode cX9_layFound 130 = .ok (.getfield 32, 3) := by decide +kernel
theorem dX9_layFound_133 : decode cX9_layFound 133 = .ok (.iload 6, 2) := by decide +kernel
theorem dX9_layFound_135 : decode cX9_layFound 135 = .ok (.iaload, 1) := by decide +kernel
theorem dX9_layFound_136 : decode cX9_layFound 136 = .ok (.bipush 16, 2) := by decide +kernel
theorem dX9_layFound_138 : decode cX9_layFound 138 = .ok (.idiv, 1) := by decide +kernel
theorem dX9_layFound_139 : decode cX9_layFound 139 = .ok (.if_icmp .eq 17, 3) := by decide +kernel
theorem dX9_layFound_142 : decode cX9_layFound 142 = .ok (.aload_n 0, 1) := by decide +kernel
theorem dX9_layFound_143 : decode cX9_layFound 143 = .ok (.aload_n 0, 1) := by decide +kernel
theorem dX9_layFound_144 : decode cX9_layFound 144 = .ok (.iload 7, 2) := by decide +kernel
theorem dX9_layFound_146 : decode cX9_layFound 146 = .ok (.iload 8, 2) := by decide +kernel
theorem dX9_layFound_148 : decode cX9_layFound 148 = .ok (.invokevirtual 99, 3) := by decide +kernel
theorem dX9_layFound_151 : decode cX9_layFound 151 = .ok (.iload 6, 2) := by decide +kernel
theorem dX9_layFound_153 : decode cX9_layFound 153 = .ok (.invokevirtual 177, 3) := by decide +kernel
theorem dX9_layFound_156 : decode cX9_layFound 156 = .ok (.iinc 8 1, 3) := by decide +kernel
theorem dX9_layFound_159 : decode cX9_layFound 159 = .ok (.goto (-50), 3) := by decide +kernel
theorem dX9_layFound_162 : decode cX9_layFound 162 = .ok (.iinc 6 1, 3) := by decide +kernel
theorem dX9_layFound_165 : decode cX9_layFound 165 = .ok (.goto (-79), 3) := by decide +kernel
theorem dX9_layFound_168 : decode cX9_layFound 168 = .ok (.iload 5, 2) := by decide +kernel
theorem dX9_layFound_170 : decode cX9_layFound 170 = .ok (.istore_n 3, 1) := by decide +kernel
theorem dX9_layFound_171 : decode cX9_layFound 171 = .ok (.iinc 4 1, 3) := by decide +kernel
theorem dX9_layFound_174 : decode cX9_layFound 174 = .ok (.goto (-103), 3) := by decide +kernel
theorem dX9_layFound_177 : decode cX9_layFound 177 = .ok (.return_, 1) := by decide +kernel
def X9_layFound_b109 (k86 : Int32 → gM → Option (Unit × gM)) (r14 : Int32) (v9 : Int32) (v15 : Int32) (m16 : gM) (k109 : Int32 → gM → Option (Unit × gM)) : Option (Unit × gM) :=
  gAt m16 47 0 36 (fun (x17 : Int32) => if x17 ≤ v15 then (gLet (v9 + 1) (fun (x18 : Int32) => k86 x18 m16)) else (if r14 = (-1) then (gLet (v9 + 1) (fun (x19 : Int32) => k86 x19 m16)) else (gAt m16 52 0 v9 (fun (x20 : Int32) => if v15 = (x20 / 16) then (gLet (v15 + 1) (fun (x21 : Int32) => k109 x21 m16)) else (gCall (X9_placeOf r14 v15 m16) (fun (r23 : Int32) (m22 : gM) => gCall (X9_find r23 v9 m22) (fun (r25 : Unit) (m24 : gM) => gLet (v15 + 1) (fun (x26 : Int32) => k109 x26 m24))))))))
def X9_layFound_b86 (k71 : Int32 → Int32 → gM → Option (Unit × gM)) (m8 : gM) (v7 : Int32) (v9 : Int32) (m10 : gM) (k86 : Int32 → gM → Option (Unit × gM)) : Option (Unit × gM) :=
  if (m8 9 0 18) ≤ v9 then (gLet (v7 + 1) (fun (x11 : Int32) => k71 (m8 9 0 18) x11 m10)) else (gAt m10 52 0 v9 (fun (x12 : Int32) => gCall (X9_lineAt x12 m10) (fun (r14 : Int32) (m13 : gM) => gL1 FU (X9_layFound_b109 k86 r14 v9) 0 m13)))
def X9_layFound_b71 (a2 : Int32) (v6 v7 : Int32) (m8 : gM) (k71 : Int32 → Int32 → gM → Option (Unit × gM)) : Option (Unit × gM) :=
  if a2 ≤ v7 then (some ((), m8)) else (gL1 FU (X9_layFound_b86 k71 m8 v7) v6 m8)
def X9_layFound_b38 (a1 : Int32) (j66 : gM → Option (Unit × gM)) (v27 : Int32) (m28 : gM) (k38 : Int32 → gM → Option (Unit × gM)) : Option (Unit × gM) :=
  gAt m28 47 0 36 (fun (x29 : Int32) => if x29 ≤ v27 then (j66 m28) else (gCall (X9_placeOf a1 v27 m28) (fun (r31 : Int32) (m30 : gM) => gCall (X9_find r31 (-1) m30) (fun (r33 : Unit) (m32 : gM) => gLet (v27 + 1) (fun (x34 : Int32) => k38 x34 m32)))))
def X9_layFound_b7 (j26 : gM → Option (Unit × gM)) (v35 : Int32) (m36 : gM) (k7 : Int32 → gM → Option (Unit × gM)) : Option (Unit × gM) :=
  if 64 ≤ v35 then (j26 m36) else (gPut m36 54 0 v35 0 (fun (m37 : gM) => gLet (v35 + 1) (fun (x38 : Int32) => k7 x38 m37)))
def X9_layFound (a1 : Int32) (a2 : Int32) (m : gM) : Option (Unit × gM) :=
  gSet m 9 0 18 0 (fun (m1 : gM) => gJ0 (fun (m2 : gM) => gCall (X9_placeWith a1 m2) (fun (r4 : Int32) (m3 : gM) => if r4 = (-1) then (gJ0 (fun (m5 : gM) => gL2 FU (X9_layFound_b71 a2) 0 0 m5) (fun (j66 : gM → Option (Unit × gM)) => gL1 FU (X9_layFound_b38 a1 j66) 0 m3)) else (some ((), m3)))) (fun (j26 : gM → Option (Unit × gM)) => gL1 FU (X9_layFound_b7 j26) 0 m1))
set_option maxRecDepth 100000 in
set_option maxHeartbeats 4000000 in
theorem c_X9_layFound (a1 : Int32) (a2 : Int32) (m : gM) : gCon eU yX9_layFound cX9_layFound 9 none 4 [.inr (9, 0), .inl a1, .inl a2] m (X9_layFound a1 a2 m) := by
  refine gCon.of (lv := [some (.inr (9, 0)), some (.inl a1), some (.inl a2), none, none, none, none, none, none]) (by decide +kernel) (Nat.le_of_ble_eq_true rfl) rfl (fun X C => ?_)
  unfold X9_layFound
  refine r_aload_n C dX9_layFound_0 rfl rfl ?_
  refine r_iconst (v := 0) C dX9_layFound_1 (by decide) ?_
  refine r_put C fl_X9_171 rfl rfl rfl dX9_layFound_2 (fun m1 => ?_)
  refine r_iconst (v := 0) C dX9_layFound_5 (by decide) ?_
  refine r_istore_n (lv' := [some (.inr (9, 0)), some (.inl a1), some (.inl a2), some (.inl 0), none, none, none, none, none]) C dX9_layFound_6 rfl (by decide) rfl ?_
  refine r_j0 26 [some (.inr (9, 0)), some (.inl a1), some (.inl a2), none, none, none, none, none, none] [] (fun m2 => ?_) (fun j26 hj26 => ?_)
  · refine r_aload_n C dX9_layFound_26 rfl rfl ?_
    refine r_iload_n C dX9_layFound_27 rfl rfl ?_
    refine r_invI (t := 9) (kb := 0) (As := [.inl a1]) (st := []) C il_X9_174 co_X9_placeWith (by decide) rfl (c_X9_placeWith a1 m2) (by decide) (by decide) rfl rfl (Nat.le_of_ble_eq_true rfl) dX9_layFound_28 (fun r4 m3 => ?_)
    refine r_iconst (v := (-1)) C dX9_layFound_31 (by decide) ?_
    refine r_icmp_eq (tgt := 36) C dX9_layFound_32 (by decide) ?_ ?_
    · refine r_iconst (v := 0) C dX9_layFound_36 (by decide) ?_
      refine r_istore_n (lv' := [some (.inr (9, 0)), some (.inl a1), some (.inl a2), some (.inl 0), none, none, none, none, none]) C dX9_layFound_37 rfl (by decide) rfl ?_
      refine r_j0 66 [some (.inr (9, 0)), none, some (.inl a2), none, none, none, none, none, none] [] (fun m5 => ?_) (fun j66 hj66 => ?_)
      · refine r_iconst (v := 0) C dX9_layFound_66 (by decide) ?_
        refine r_istore_n (lv' := [some (.inr (9, 0)), none, some (.inl a2), some (.inl 0), none, none, none, none, none]) C dX9_layFound_67 rfl (by decide) rfl ?_
        refine r_iconst (v := 0) C dX9_layFound_68 (by decide) ?_
        refine r_istore (lv' := [some (.inr (9, 0)), none, some (.inl a2), some (.inl 0), some (.inl 0), none, none, none, none]) C dX9_layFound_69 (by decide) rfl ?_
        refine r_weak (lv' := [some (.inr (9, 0)), none, some (.inl a2), some (.inl 0), some (.inl 0), none, none, none, none]) ⟨rfl, rfl, rfl, rfl, trivial⟩ ?_
        refine r_l2 (pj := 71) (fun v6 v7 => [some (.inr (9, 0)), none, some (.inl a2), some (.inl v6), some (.inl v7), none, none, none, none]) (fun v6 v7 m8 k71 hk71 => ?_) _ _ _ _
        unfold X9_layFound_b71
        refine r_iload C dX9_layFound_71 rfl ?_
        refine r_iload_n C dX9_layFound_73 rfl rfl ?_
        refine r_icmp_ge (tgt := 177) C dX9_layFound_74 (by decide) ?_ ?_
        · exact r_return C dX9_layFound_177
        refine r_aload_n C dX9_layFound_77 rfl rfl ?_
        refine r_get (v := .inl (m8 9 0 18)) C fl_X9_171 dX9_layFound_78 rfl ?_
        refine r_istore (lv' := [some (.inr (9, 0)), none, some (.inl a2), some (.inl v6), some (.inl v7), some (.inl (m8 9 0 18)), none, none, none]) C dX9_layFound_81 (by decide) rfl ?_
        refine r_iload_n C dX9_layFound_83 rfl rfl ?_
        refine r_istore (lv' := [some (.inr (9, 0)), none, some (.inl a2), some (.inl v6), some (.inl v7), some (.inl (m8 9 0 18)), some (.inl v6), none, none]) C dX9_layFound_84 (by decide) rfl ?_
        refine r_weak (lv' := [some (.inr (9, 0)), none, some (.inl a2), none, some (.inl v7), some (.inl (m8 9 0 18)), some (.inl v6), none, none]) ⟨rfl, rfl, rfl, rfl, rfl, trivial⟩ ?_
        refine r_l1 (pj := 86) (fun v9 => [some (.inr (9, 0)), none, some (.inl a2), none, some (.inl v7), some (.inl (m8 9 0 18)), some (.inl v9), none, none]) (fun v9 m10 k86 hk86 => ?_) _ _ _
        unfold X9_layFound_b86
        refine r_iload C dX9_layFound_86 rfl ?_
        refine r_iload C dX9_layFound_88 rfl ?_
        refine r_icmp_ge (tgt := 168) C dX9_layFound_90 (by decide) ?_ ?_
        · refine r_iload C dX9_layFound_168 rfl ?_
          refine r_istore_n (lv' := [some (.inr (9, 0)), none, some (.inl a2), some (.inl (m8 9 0 18)), some (.inl v7), some (.inl (m8 9 0 18)), some (.inl v9), none, none]) C dX9_layFound_170 rfl (by decide) rfl ?_
          refine r_iinc (v := 1) C dX9_layFound_171 (by decide) rfl (by decide) (fun x11 => ?_)
          show gw X eU _ [some (.inr (9, 0)), none, some (.inl a2), some (.inl (m8 9 0 18)), some (.inl x11), some (.inl (m8 9 0 18)), some (.inl v9), none, none] _ _ _
          refine r_goto (tgt := 71) C dX9_layFound_174 (by decide) ?_
          exact r_weak (lv' := [some (.inr (9, 0)), none, some (.inl a2), some (.inl (m8 9 0 18)), some (.inl x11), none, none, none, none]) ⟨rfl, rfl, rfl, rfl, trivial⟩ (hk71 _ _ _)
        refine r_aload_n C dX9_layFound_93 rfl rfl ?_
        refine r_aload_n C dX9_layFound_94 rfl rfl ?_
        refine r_get (v := .inr (52, 0)) C fl_X9_32 dX9_layFound_95 rfl ?_
        refine r_iload C dX9_layFound_98 rfl ?_
        refine r_iald C rfl dX9_layFound_100 (fun x12 => ?_)
        refine r_invI (t := 9) (kb := 0) (As := [.inl x12]) (st := []) C il_X9_102 co_X9_lineAt (by decide) rfl (c_X9_lineAt x12 m10) (by decide) (by decide) rfl rfl (Nat.le_of_ble_eq_true rfl) dX9_layFound_101 (fun r14 m13 => ?_)
        refine r_istore (lv' := [some (.inr (9, 0)), none, some (.inl a2), none, some (.inl v7), some (.inl (m8 9 0 18)), some (.inl v9), some (.inl r14), none]) C dX9_layFound_104 (by decide) rfl ?_
        refine r_iconst (v := 0) C dX9_layFound_106 (by decide) ?_
        refine r_istore (lv' := [some (.inr (9, 0)), none, some (.inl a2), none, some (.inl v7), some (.inl (m8 9 0 18)), some (.inl v9), some (.inl r14), some (.inl 0)]) C dX9_layFound_107 (by decide) rfl ?_
        refine r_weak (lv' := [some (.inr (9, 0)), none, some (.inl a2), none, some (.inl v7), some (.inl (m8 9 0 18)), some (.inl v9), some (.inl r14), some (.inl 0)]) ⟨rfl, rfl, rfl, rfl, rfl, rfl, rfl, trivial⟩ ?_
        refine r_l1 (pj := 109) (fun v15 => [some (.inr (9, 0)), none, some (.inl a2), none, some (.inl v7), some (.inl (m8 9 0 18)), some (.inl v9), some (.inl r14), some (.inl v15)]) (fun v15 m16 k109 hk109 => ?_) _ _ _
        unfold X9_layFound_b109
        refine r_iload C dX9_layFound_109 rfl ?_
        refine r_aload_n C dX9_layFound_111 rfl rfl ?_
        refine r_get (v := .inr (47, 0)) C fl_X9_7 dX9_layFound_112 rfl ?_
        refine r_bipush (v := 36) C dX9_layFound_115 (by decide) ?_
        refine r_iald C rfl dX9_layFound_117 (fun x17 => ?_)
        refine r_icmp_ge (tgt := 162) C dX9_layFound_118 (by decide) ?_ ?_
        · refine r_iinc (v := 1) C dX9_layFound_162 (by decide) rfl (by decide) (fun x18 => ?_)
          show gw X eU _ [some (.inr (9, 0)), none, some (.inl a2), none, some (.inl v7), some (.inl (m8 9 0 18)), some (.inl x18), some (.inl r14), some (.inl v15)] _ _ _
          refine r_goto (tgt := 86) C dX9_layFound_165 (by decide) ?_
          exact r_weak (lv' := [some (.inr (9, 0)), none, some (.inl a2), none, some (.inl v7), some (.inl (m8 9 0 18)), some (.inl x18), none, none]) ⟨rfl, rfl, rfl, rfl, rfl, trivial⟩ (hk86 _ _)
        refine r_iload C dX9_layFound_121 rfl ?_
        refine r_iconst (v := (-1)) C dX9_layFound_123 (by decide) ?_
        refine r_icmp_eq (tgt := 162) C dX9_layFound_124 (by decide) ?_ ?_
        · refine r_iinc (v := 1) C dX9_layFound_162 (by decide) rfl (by decide) (fun x19 => ?_)
          show gw X eU _ [some (.inr (9, 0)), none, some (.inl a2), none, some (.inl v7), some (.inl (m8 9 0 18)), some (.inl x19), some (.inl r14), some (.inl v15)] _ _ _
          refine r_goto (tgt := 86) C dX9_layFound_165 (by decide) ?_
          exact r_weak (lv' := [some (.inr (9, 0)), none, some (.inl a2), none, some (.inl v7), some (.inl (m8 9 0 18)), some (.inl x19), none, none]) ⟨rfl, rfl, rfl, rfl, rfl, trivial⟩ (hk86 _ _)
        refine r_iload C dX9_layFound_127 rfl ?_
        refine r_aload_n C dX9_layFound_129 rfl rfl ?_
        refine r_get (v := .inr (52, 0)) C fl_X9_32 dX9_layFound_130 rfl ?_
        refine r_iload C dX9_layFound_133 rfl ?_
        refine r_iald C rfl dX9_layFound_135 (fun x20 => ?_)
        refine r_bipush (v := 16) C dX9_layFound_136 (by decide) ?_
        refine r_idiv C dX9_layFound_138 (by decide) ?_
        refine r_icmp_eq (tgt := 156) C dX9_layFound_139 (by decide) ?_ ?_
        · refine r_iinc (v := 1) C dX9_layFound_156 (by decide) rfl (by decide) (fun x21 => ?_)
          show gw X eU _ [some (.inr (9, 0)), none, some (.inl a2), none, some (.inl v7), some (.inl (m8 9 0 18)), some (.inl v9), some (.inl r14), some (.inl x21)] _ _ _
          refine r_goto (tgt := 109) C dX9_layFound_159 (by decide) ?_
          exact r_weak (lv' := [some (.inr (9, 0)), none, some (.inl a2), none, some (.inl v7), some (.inl (m8 9 0 18)), some (.inl v9), some (.inl r14), some (.inl x21)]) ⟨rfl, rfl, rfl, rfl, rfl, rfl, rfl, trivial⟩ (hk109 _ _)
        refine r_aload_n C dX9_layFound_142 rfl rfl ?_
        refine r_aload_n C dX9_layFound_143 rfl rfl ?_
        refine r_iload C dX9_layFound_144 rfl ?_
        refine r_iload C dX9_layFound_146 rfl ?_
        refine r_invI (t := 9) (kb := 0) (As := [.inl r14, .inl v15]) (st := [.inr (9, 0)]) C il_X9_99 co_X9_placeOf (by decide) rfl (c_X9_placeOf r14 v15 m16) (by decide) (by decide) rfl rfl (Nat.le_of_ble_eq_true rfl) dX9_layFound_148 (fun r23 m22 => ?_)
        refine r_iload C dX9_layFound_151 rfl ?_
        refine r_invU (t := 9) (kb := 0) (As := [.inl r23, .inl v9]) (st := []) C il_X9_177 co_X9_find (by decide) rfl (c_X9_find r23 v9 m22) (by decide) (by decide) rfl rfl (Nat.le_of_ble_eq_true rfl) dX9_layFound_153 (fun r25 m24 => ?_)
        refine r_iinc (v := 1) C dX9_layFound_156 (by decide) rfl (by decide) (fun x26 => ?_)
        show gw X eU _ [some (.inr (9, 0)), none, some (.inl a2), none, some (.inl v7), some (.inl (m8 9 0 18)), some (.inl v9), some (.inl r14), some (.inl x26)] _ _ _
        refine r_goto (tgt := 109) C dX9_layFound_159 (by decide) ?_
        exact r_weak (lv' := [some (.inr (9, 0)), none, some (.inl a2), none, some (.inl v7), some (.inl (m8 9 0 18)), some (.inl v9), some (.inl r14), some (.inl x26)]) ⟨rfl, rfl, rfl, rfl, rfl, rfl, rfl, trivial⟩ (hk109 _ _)
      refine r_weak (lv' := [some (.inr (9, 0)), some (.inl a1), some (.inl a2), some (.inl 0), none, none, none, none, none]) ⟨rfl, rfl, rfl, rfl, trivial⟩ ?_
      refine r_l1 (pj := 38) (fun v27 => [some (.inr (9, 0)), some (.inl a1), some (.inl a2), some (.inl v27), none, none, none, none, none]) (fun v27 m28 k38 hk38 => ?_) _ _ _
      unfold X9_layFound_b38
      refine r_iload_n C dX9_layFound_38 rfl rfl ?_
      refine r_aload_n C dX9_layFound_39 rfl rfl ?_
      refine r_get (v := .inr (47, 0)) C fl_X9_7 dX9_layFound_40 rfl ?_
      refine r_bipush (v := 36) C dX9_layFound_43 (by decide) ?_
      refine r_iald C rfl dX9_layFound_45 (fun x29 => ?_)
      refine r_icmp_ge (tgt := 66) C dX9_layFound_46 (by decide) ?_ ?_
      · exact r_weak (lv' := [some (.inr (9, 0)), none, some (.inl a2), none, none, none, none, none, none]) ⟨rfl, rfl, trivial⟩ (hj66 _)
      refine r_aload_n C dX9_layFound_49 rfl rfl ?_
      refine r_aload_n C dX9_layFound_50 rfl rfl ?_
      refine r_iload_n C dX9_layFound_51 rfl rfl ?_
      refine r_iload_n C dX9_layFound_52 rfl rfl ?_
      refine r_invI (t := 9) (kb := 0) (As := [.inl a1, .inl v27]) (st := [.inr (9, 0)]) C il_X9_99 co_X9_placeOf (by decide) rfl (c_X9_placeOf a1 v27 m28) (by decide) (by decide) rfl rfl (Nat.le_of_ble_eq_true rfl) dX9_layFound_53 (fun r31 m30 => ?_)
      refine r_iconst (v := (-1)) C dX9_layFound_56 (by decide) ?_
      refine r_invU (t := 9) (kb := 0) (As := [.inl r31, .inl (-1)]) (st := []) C il_X9_177 co_X9_find (by decide) rfl (c_X9_find r31 (-1) m30) (by decide) (by decide) rfl rfl (Nat.le_of_ble_eq_true rfl) dX9_layFound_57 (fun r33 m32 => ?_)
      refine r_iinc (v := 1) C dX9_layFound_60 (by decide) rfl (by decide) (fun x34 => ?_)
      show gw X eU _ [some (.inr (9, 0)), some (.inl a1), some (.inl a2), some (.inl x34), none, none, none, none, none] _ _ _
      refine r_goto (tgt := 38) C dX9_layFound_63 (by decide) ?_
      exact r_weak (lv' := [some (.inr (9, 0)), some (.inl a1), some (.inl a2), some (.inl x34), none, none, none, none, none]) ⟨rfl, rfl, rfl, rfl, trivial⟩ (hk38 _ _)
    exact r_return C dX9_layFound_35
  refine r_weak (lv' := [some (.inr (9, 0)), some (.inl a1), some (.inl a2), some (.inl 0), none, none, none, none, none]) ⟨rfl, rfl, rfl, rfl, trivial⟩ ?_
  refine r_l1 (pj := 7) (fun v35 => [some (.inr (9, 0)), some (.inl a1), some (.inl a2), some (.inl v35), none, none, none, none, none]) (fun v35 m36 k7 hk7 => ?_) _ _ _
  unfold X9_layFound_b7
  refine r_iload_n C dX9_layFound_7 rfl rfl ?_
  refine r_bipush (v := 64) C dX9_layFound_8 (by decide) ?_
  refine r_icmp_ge (tgt := 26) C dX9_layFound_10 (by decide) ?_ ?_
  · exact r_weak (lv' := [some (.inr (9, 0)), some (.inl a1), some (.inl a2), none, none, none, none, none, none]) ⟨rfl, rfl, rfl, trivial⟩ (hj26 _)
  refine r_aload_n C dX9_layFound_13 rfl rfl ?_
  refine r_get (v := .inr (54, 0)) C fl_X9_38 dX9_layFound_14 rfl ?_
  refine r_iload_n C dX9_layFound_17 rfl rfl ?_
  refine r_iconst (v := 0) C dX9_layFound_18 (by decide) ?_
  refine r_zast C rfl dX9_layFound_19 (fun m37 => ?_)
  refine r_iinc (v := 1) C dX9_layFound_20 (by decide) rfl (by decide) (fun x38 => ?_)
  show gw X eU _ [some (.inr (9, 0)), some (.inl a1), some (.inl a2), some (.inl x38), none, none, none, none, none] _ _ _
  refine r_goto (tgt := 7) C dX9_layFound_23 (by decide) ?_
  exact r_weak (lv' := [some (.inr (9, 0)), some (.inl a1), some (.inl a2), some (.inl x38), none, none, none, none, none]) ⟨rfl, rfl, rfl, rfl, trivial⟩ (hk7 _ _)
theorem dX9_taken_0 : decode cX9_taken 0 = .ok (.iconst 0, 1) := by decide +kernel
theorem dX9_taken_1 : decode cX9_taken 1 = .ok (.istore_n 1, 1) := by decide +kernel
theorem dX9_taken_2 : decode cX9_taken 2 = .ok (.iconst 0, 1) := by decide +kernel
theorem dX9_taken_3 : decode cX9_taken 3 = .ok (.istore_n 2, 1) := by decide +kernel
theorem dX9_taken_4 : decode cX9_taken 4 = .ok (.iload_n 2, 1) := by decide +kernel
theorem dX9_taken_5 : decode cX9_taken 5 = .ok (.aload_n 0, 1) := by decide +kernel
theorem dX9_taken_6 : decode cX9_taken 6 = .ok (.getfield 171, 3) := by decide +kernel
theorem dX9_taken_9 : decode cX9_taken 9 = .ok (.if_icmp .ge 25, 3) := by decide +kernel
theorem dX9_taken_12 : decode cX9_taken 12 = .ok (.aload_n 0, 1) := by decide +kernel
theorem dX9_taken_13 : decode cX9_taken 13 = .ok (.aload_n 0, 1) := by decide +kernel
theorem dX9_taken_14 : decode cX9_taken 14 = .ok (.getfield 32, 3) := by decide +kernel
theorem dX9_taken_17 : decode cX9_taken 17 = .ok (.iload_n 2, 1) := by decide +kernel
theorem dX9_taken_18 : decode cX9_taken 18 = .ok (.iaload, 1) := by decide +kernel
theorem dX9_taken_19 : decode cX9_taken 19 = .ok (.invokevirtual 102, 3) := by decide +kernel
theorem dX9_taken_22 : decode cX9_taken 22 = .ok (.iconst (-1), 1) := by decide +kernel
theorem dX9_taken_23 : decode cX9_taken 23 = .ok (.if_icmp .ne 5, 3) := by decide +kernel
theorem dX9_taken_26 : decode cX9_taken 26 = .ok (.iload_n 2, 1) := by decide +kernel
theorem dX9_taken_27 : decode cX9_taken 27 = .ok (.ireturn, 1) := by decide +kernel
theorem dX9_taken_28 : decode cX9_taken 28 = .ok (.iinc 2 1, 3) := by decide +kernel
theorem dX9_taken_31 : decode cX9_taken 31 = .ok (.goto (-27), 3) := by decide +kernel
theorem dX9_taken_34 : decode cX9_taken 34 = .ok (.iconst 1, 1) := by decide +kernel
theorem dX9_taken_35 : decode cX9_taken 35 = .ok (.istore_n 2, 1) := by decide +kernel
theorem dX9_taken_36 : decode cX9_taken 36 = .ok (.iload_n 2, 1) := by decide +kernel
theorem dX9_taken_37 : decode cX9_taken 37 = .ok (.aload_n 0, 1) := by decide +kernel
theorem dX9_taken_38 : decode cX9_taken 38 = .ok (.getfield 171, 3) := by decide +kernel
theorem dX9_taken_41 : decode cX9_taken 41 = .ok (.if_icmp .ge 46, 3) := by decide +kernel
theorem dX9_taken_44 : decode cX9_taken 44 = .ok (.aload_n 0, 1) := by decide +kernel
theorem dX9_taken_45 : decode cX9_taken 45 = .ok (.getfield 7, 3) := by decide +kernel
theorem dX9_taken_48 : decode cX9_taken 48 = .ok (.aload_n 0, 1) := by decide +kernel
theorem dX9_taken_49 : decode cX9_taken 49 = .ok (.getfield 32, 3) := by decide +kernel
theorem dX9_taken_52 : decode cX9_taken 52 = .ok (.iload_n 2, 1) := by decide +kernel
theorem dX9_taken_53 : decode cX9_taken 53 = .ok (.iaload, 1) := by decide +kernel
theorem dX9_taken_54 : decode cX9_taken 54 = .ok (.invokestatic 96, 3) := by decide +kernel
theorem dX9_taken_57 : decode cX9_taken 57 = .ok (.iconst 3, 1) := by decide +kernel
theorem dX9_taken_58 : decode cX9_taken 58 = .ok (.iadd, 1) := by decide +kernel
theorem dX9_taken_59 : decode cX9_taken 59 = .ok (.iaload, 1) := by decide +kernel
theorem dX9_taken_60 : decode cX9_taken 60 = .ok (.aload_n 0, 1) := by decide +kernel
theorem dX9_taken_61 : decode cX9_taken 61 = .ok (.getfield 7, 3) := by decide +kernel
theorem dX9_taken_64 : decode cX9_taken 64 = .ok (.aload_n 0, 1) := by decide +kernel
theorem dX9_taken_65 : decode cX9_taken 65 = .ok (.getfield 32, 3) := by decide +kernel
theorem dX9_taken_68 : decode cX9_taken 68 = .ok (.iload_n 1, 1) := by decide +kernel
theorem dX9_taken_69 : decode cX9_taken 69 = .ok (.iaload, 1) := by decide +kernel
theorem dX9_taken_70 : decode cX9_taken 70 = .ok (.invokestatic 96, 3) := by decide +kernel
theorem dX9_taken_73 : decode cX9_taken 73 = .ok (.iconst 3, 1) := by decide +kernel
theorem dX9_taken_74 : decode cX9_taken 74 = .ok (.iadd, 1) := by decide +kernel
theorem dX9_taken_75 : decode cX9_taken 75 = .ok (.iaload, 1) := by decide +kernel
theorem dX9_taken_76 : decode cX9_taken 76 = .ok (.if_icmp .le 5, 3) := by decide +kernel
theorem dX9_taken_79 : decode cX9_taken 79 = .ok (.iload_n 2, 1) := by decide +kernel
theorem dX9_taken_80 : decode cX9_taken 80 = .ok (.istore_n 1, 1) := by decide +kernel
theorem dX9_taken_81 : decode cX9_taken 81 = .ok (.iinc 2 1, 3) := by decide +kernel
theorem dX9_taken_84 : decode cX9_taken 84 = .ok (.goto (-48), 3) := by decide +kernel
theorem dX9_taken_87 : decode cX9_taken 87 = .ok (.iload_n 1, 1) := by decide +kernel
theorem dX9_taken_88 : decode cX9_taken 88 = .ok (.ireturn, 1) := by decide +kernel
def X9_taken_b36 (v2 v3 : Int32) (m4 : gM) (k36 : Int32 → Int32 → gM → Option (Int32 × gM)) : Option (Int32 × gM) :=
  if (m4 9 0 18) ≤ v3 then (some (v2, m4)) else (gAt m4 52 0 v3 (fun (x5 : Int32) => gCall (X9_at x5 m4) (fun (r7 : Int32) (m6 : gM) => gAt m6 47 0 (r7 + 3) (fun (x8 : Int32) => gAt m6 52 0 v2 (fun (x9 : Int32) => gCall (X9_at x9 m6) (fun (r11 : Int32) (m10 : gM) => gAt m10 47 0 (r11 + 3) (fun (x12 : Int32) => if x8 ≤ x12 then (gLet (v3 + 1) (fun (x13 : Int32) => k36 v2 x13 m10)) else (gLet (v3 + 1) (fun (x14 : Int32) => k36 v3 x14 m10)))))))))
def X9_taken_b4 (j34 : gM → Option (Int32 × gM)) (v15 : Int32) (m16 : gM) (k4 : Int32 → gM → Option (Int32 × gM)) : Option (Int32 × gM) :=
  if (m16 9 0 18) ≤ v15 then (j34 m16) else (gAt m16 52 0 v15 (fun (x17 : Int32) => gCall (X9_lineAt x17 m16) (fun (r19 : Int32) (m18 : gM) => if r19 = (-1) then (some (v15, m18)) else (gLet (v15 + 1) (fun (x20 : Int32) => k4 x20 m18)))))
def X9_taken (m : gM) : Option (Int32 × gM) :=
  gJ0 (fun (m1 : gM) => gL2 FU X9_taken_b36 0 1 m1) (fun (j34 : gM → Option (Int32 × gM)) => gL1 FU (X9_taken_b4 j34) 0 m)
set_option maxRecDepth 100000 in
set_option maxHeartbeats 4000000 in
theorem c_X9_taken (m : gM) : gCon eI yX9_taken cX9_taken 3 (some .int) 2 [.inr (9, 0)] m (X9_taken m) := by
  refine gCon.of (lv := [some (.inr (9, 0)), none, none]) (by decide +kernel) (Nat.le_of_ble_eq_true rfl) rfl (fun X C => ?_)
  unfold X9_taken
  refine r_iconst (v := 0) C dX9_taken_0 (by decide) ?_
  refine r_istore_n (lv' := [some (.inr (9, 0)), some (.inl 0), none]) C dX9_taken_1 rfl (by decide) rfl ?_
  refine r_iconst (v := 0) C dX9_taken_2 (by decide) ?_
  refine r_istore_n (lv' := [some (.inr (9, 0)), some (.inl 0), some (.inl 0)]) C dX9_taken_3 rfl (by decide) rfl ?_
  refine r_j0 34 [some (.inr (9, 0)), some (.inl 0), none] [] (fun m1 => ?_) (fun j34 hj34 => ?_)
  · refine r_iconst (v := 1) C dX9_taken_34 (by decide) ?_
    refine r_istore_n (lv' := [some (.inr (9, 0)), some (.inl 0), some (.inl 1)]) C dX9_taken_35 rfl (by decide) rfl ?_
    refine r_weak (lv' := [some (.inr (9, 0)), some (.inl 0), some (.inl 1)]) ⟨rfl, rfl, rfl, trivial⟩ ?_
    refine r_l2 (pj := 36) (fun v2 v3 => [some (.inr (9, 0)), some (.inl v2), some (.inl v3)]) (fun v2 v3 m4 k36 hk36 => ?_) _ _ _ _
    unfold X9_taken_b36
    refine r_iload_n C dX9_taken_36 rfl rfl ?_
    refine r_aload_n C dX9_taken_37 rfl rfl ?_
    refine r_get (v := .inl (m4 9 0 18)) C fl_X9_171 dX9_taken_38 rfl ?_
    refine r_icmp_ge (tgt := 87) C dX9_taken_41 (by decide) ?_ ?_
    · refine r_iload_n C dX9_taken_87 rfl rfl ?_
      exact r_ireturn C dX9_taken_88
    refine r_aload_n C dX9_taken_44 rfl rfl ?_
    refine r_get (v := .inr (47, 0)) C fl_X9_7 dX9_taken_45 rfl ?_
    refine r_aload_n C dX9_taken_48 rfl rfl ?_
    refine r_get (v := .inr (52, 0)) C fl_X9_32 dX9_taken_49 rfl ?_
    refine r_iload_n C dX9_taken_52 rfl rfl ?_
    refine r_iald C rfl dX9_taken_53 (fun x5 => ?_)
    refine r_insI (As := [.inl x5]) (st := [.inr (47, 0)]) C il_X9_96 co_X9_at (c_X9_at x5 m4) (by decide) (by decide) rfl rfl (Nat.le_of_ble_eq_true rfl) dX9_taken_54 (fun r7 m6 => ?_)
    refine r_iconst (v := 3) C dX9_taken_57 (by decide) ?_
    refine r_iadd C dX9_taken_58 ?_
    refine r_iald C rfl dX9_taken_59 (fun x8 => ?_)
    refine r_aload_n C dX9_taken_60 rfl rfl ?_
    refine r_get (v := .inr (47, 0)) C fl_X9_7 dX9_taken_61 rfl ?_
    refine r_aload_n C dX9_taken_64 rfl rfl ?_
    refine r_get (v := .inr (52, 0)) C fl_X9_32 dX9_taken_65 rfl ?_
    refine r_iload_n C dX9_taken_68 rfl rfl ?_
    refine r_iald C rfl dX9_taken_69 (fun x9 => ?_)
    refine r_insI (As := [.inl x9]) (st := [.inr (47, 0), .inl x8]) C il_X9_96 co_X9_at (c_X9_at x9 m6) (by decide) (by decide) rfl rfl (Nat.le_of_ble_eq_true rfl) dX9_taken_70 (fun r11 m10 => ?_)
    refine r_iconst (v := 3) C dX9_taken_73 (by decide) ?_
    refine r_iadd C dX9_taken_74 ?_
    refine r_iald C rfl dX9_taken_75 (fun x12 => ?_)
    refine r_icmp_le (tgt := 81) C dX9_taken_76 (by decide) ?_ ?_
    · refine r_iinc (v := 1) C dX9_taken_81 (by decide) rfl (by decide) (fun x13 => ?_)
      show gw X eI _ [some (.inr (9, 0)), some (.inl v2), some (.inl x13)] _ _ _
      refine r_goto (tgt := 36) C dX9_taken_84 (by decide) ?_
      exact r_weak (lv' := [some (.inr (9, 0)), some (.inl v2), some (.inl x13)]) ⟨rfl, rfl, rfl, trivial⟩ (hk36 _ _ _)
    refine r_iload_n C dX9_taken_79 rfl rfl ?_
    refine r_istore_n (lv' := [some (.inr (9, 0)), some (.inl v3), some (.inl v3)]) C dX9_taken_80 rfl (by decide) rfl ?_
    refine r_iinc (v := 1) C dX9_taken_81 (by decide) rfl (by decide) (fun x14 => ?_)
    show gw X eI _ [some (.inr (9, 0)), some (.inl v3), some (.inl x14)] _ _ _
    refine r_goto (tgt := 36) C dX9_taken_84 (by decide) ?_
    exact r_weak (lv' := [some (.inr (9, 0)), some (.inl v3), some (.inl x14)]) ⟨rfl, rfl, rfl, trivial⟩ (hk36 _ _ _)
  refine r_weak (lv' := [some (.inr (9, 0)), some (.inl 0), some (.inl 0)]) ⟨rfl, rfl, rfl, trivial⟩ ?_
  refine r_l1 (pj := 4) (fun v15 => [some (.inr (9, 0)), some (.inl 0), some (.inl v15)]) (fun v15 m16 k4 hk4 => ?_) _ _ _
  unfold X9_taken_b4
  refine r_iload_n C dX9_taken_4 rfl rfl ?_
  refine r_aload_n C dX9_taken_5 rfl rfl ?_
  refine r_get (v := .inl (m16 9 0 18)) C fl_X9_171 dX9_taken_6 rfl ?_
  refine r_icmp_ge (tgt := 34) C dX9_taken_9 (by decide) ?_ ?_
  · exact r_weak (lv' := [some (.inr (9, 0)), some (.inl 0), none]) ⟨rfl, rfl, trivial⟩ (hj34 _)
  refine r_aload_n C dX9_taken_12 rfl rfl ?_
  refine r_aload_n C dX9_taken_13 rfl rfl ?_
  refine r_get (v := .inr (52, 0)) C fl_X9_32 dX9_taken_14 rfl ?_
  refine r_iload_n C dX9_taken_17 rfl rfl ?_
  refine r_iald C rfl dX9_taken_18 (fun x17 => ?_)
  refine r_invI (t := 9) (kb := 0) (As := [.inl x17]) (st := []) C il_X9_102 co_X9_lineAt (by decide) rfl (c_X9_lineAt x17 m16) (by decide) (by decide) rfl rfl (Nat.le_of_ble_eq_true rfl) dX9_taken_19 (fun r19 m18 => ?_)
  refine r_iconst (v := (-1)) C dX9_taken_22 (by decide) ?_
  refine r_icmp_ne (tgt := 28) C dX9_taken_23 (by decide) ?_ ?_
  · refine r_iinc (v := 1) C dX9_taken_28 (by decide) rfl (by decide) (fun x20 => ?_)
    show gw X eI _ [some (.inr (9, 0)), some (.inl 0), some (.inl x20)] _ _ _
    refine r_goto (tgt := 4) C dX9_taken_31 (by decide) ?_
    exact r_weak (lv' := [some (.inr (9, 0)), some (.inl 0), some (.inl x20)]) ⟨rfl, rfl, rfl, trivial⟩ (hk4 _ _)
  refine r_iload_n C dX9_taken_26 rfl rfl ?_
  exact r_ireturn C dX9_taken_27
theorem dX9_writeDown_0 : decode cX9_writeDown 0 = .ok (.aload_n 0, 1) := by decide +kernel
theorem dX9_writeDown_1 : decode cX9_writeDown 1 = .ok (.getfield 7, 3) := by decide +kernel
theorem dX9_writeDown_4 : decode cX9_writeDown 4 = .ok (.bipush 46, 2) := by decide +kernel
theorem dX9_writeDown_6 : decode cX9_writeDown 6 = .ok (.iaload, 1) := by decide +kernel
theorem dX9_writeDown_7 : decode cX9_writeDown 7 = .ok (.bipush 24, 2) := by decide +kernel
theorem dX9_writeDown_9 : decode cX9_writeDown 9 = .ok (.if_icmp .ne 49, 3) := by decide +kernel
theorem dX9_writeDown_12 : decode cX9_writeDown 12 = .ok (.sipush 1407, 3) := by decide +kernel
theorem dX9_writeDown_15 : decode cX9_writeDown 15 = .ok (.istore 5, 2) := by decide +kernel
theorem dX9_writeDown_17 : decode cX9_writeDown 17 = .ok (.iload 5, 2) := by decide +kernel
theorem dX9_writeDown_19 : decode cX9_writeDown 19 = .ok (.sipush 1499, 3) := by decide +kernel
theorem dX9_writeDown_22 : decode cX9_writeDown 22 = .ok (.if_icmp .ge 25, 3) := by decide +kernel
theorem dX9_writeDown_25 : decode cX9_writeDown 25 = .ok (.aload_n 0, 1) := by decide +kernel
theorem dX9_writeDown_26 : decode cX9_writeDown 26 = .ok (.getfield 7, 3) := by decide +kernel
theorem dX9_writeDown_29 : decode cX9_writeDown 29 = .ok (.iload 5, 2) := by decide +kernel
theorem dX9_writeDown_31 : decode cX9_writeDown 31 = .ok (.aload_n 0, 1) := by decide +kernel
theorem dX9_writeDown_32 : decode cX9_writeDown 32 = .ok (.getfield 7, 3) := by decide +kernel
theorem dX9_writeDown_35 : decode cX9_writeDown 35 = .ok (.iload 5, 2) := by decide +kernel
theorem dX9_writeDown_37 : decode cX9_writeDown 37 = .ok (.iconst 4, 1) := by decide +kernel
theorem dX9_writeDown_38 : decode cX9_writeDown 38 = .ok (.iadd, 1) := by decide +kernel
theorem dX9_writeDown_39 : decode cX9_writeDown 39 = .ok (.iaload, 1) := by decide +kernel
theorem dX9_writeDown_40 : decode cX9_writeDown 40 = .ok (.iastore, 1) := by decide +kernel
theorem dX9_writeDown_41 : decode cX9_writeDown 41 = .ok (.iinc 5 1, 3) := by decide +kernel
theorem dX9_writeDown_44 : decode cX9_writeDown 44 = .ok (.goto (-27), 3) := by decide +kernel
theorem dX9_writeDown_47 : decode cX9_writeDown 47 = .ok (.aload_n 0, 1) := by decide +kernel
theorem dX9_writeDown_48 : decode cX9_writeDown 48 = .ok (.getfield 7, 3) := by decide +kernel
theorem dX9_writeDown_51 : decode cX9_writeDown 51 = .ok (.bipush 46, 2) := by decide +kernel
theorem dX9_writeDown_53 : decode cX9_writeDown 53 = .ok (.dup2, 1) := by decide +kernel
theorem dX9_writeDown_54 : decode cX9_writeDown 54 = .ok (.iaload, 1) := by decide +kernel
theorem dX9_writeDown_55 : decode cX9_writeDown 55 = .ok (.iconst 1, 1) := by decide +kernel
theorem dX9_writeDown_56 : decode cX9_writeDown 56 = .ok (.isub, 1) := by decide +kernel
theorem dX9_writeDown_57 : decode cX9_writeDown 57 = .ok (.iastore, 1) := by decide +kernel
theorem dX9_writeDown_58 : decode cX9_writeDown 58 = .ok (.sipush 1407, 3) := by decide +kernel
theorem dX9_writeDown_61 : decode cX9_writeDown 61 = .ok (.iconst 4, 1) := by decide +kernel
theorem dX9_writeDown_62 : decode cX9_writeDown 62 = .ok (.aload_n 0, 1) := by decide +kernel
theorem dX9_writeDown_63 : decode cX9_writeDown 63 = .ok (.getfield 7, 3) := by decide +kernel
theorem dX9_writeDown_66 : decode cX9_writeDown 66 = .ok (.bipush 46, 2) := by decide +kernel
theorem dX9_writeDown_68 : decode cX9_writeDown 68 = .ok (.iaload, 1) := by decide +kernel
theorem dX9_writeDown_69 : decode cX9_writeDown 69 = .ok (.imul, 1) := by decide +kernel
theorem dX9_writeDown_70 : decode cX9_writeDown 70 = .ok (.iadd, 1) := by decide +kernel
theorem dX9_writeDown_71 : decode cX9_writeDown 71 = .ok (.istore 5, 2) := by decide +kernel
theorem dX9_writeDown_73 : decode cX9_writeDown 73 = .ok (.aload_n 0, 1) := by decide +kernel
theorem dX9_writeDown_74 : decode cX9_writeDown 74 = .ok (.getfield 7, 3) := by decide +kernel
theorem dX9_writeDown_77 : decode cX9_writeDown 77 = .ok (.iload 5, 2) := by decide +kernel
theorem dX9_writeDown_79 : decode cX9_writeDown 79 = .ok (.iload_n 1, 1) := by decide +kernel
theorem dX9_writeDown_80 : decode cX9_writeDown 80 = .ok (.iastore, 1) := by decide +kernel
theorem dX9_writeDown_81 : decode cX9_writeDown 81 = .ok (.aload_n 0, 1) := by decide +kernel
theorem dX9_writeDown_82 : decode cX9_writeDown 82 = .ok (.getfield 7, 3) := by decide +kernel
theorem dX9_writeDown_85 : decode cX9_writeDown 85 = .ok (.iload 5, 2) := by decide +kernel
theorem dX9_writeDown_87 : decode cX9_writeDown 87 = .ok (.iconst 1, 1) := by decide +kernel
theorem dX9_writeDown_88 : decode cX9_writeDown 88 = .ok (.iadd, 1) := by decide +kernel
theorem dX9_writeDown_89 : decode cX9_writeDown 89 = .ok (.iload_n 2, 1) := by decide +kernel
theorem dX9_writeDown_90 : decode cX9_writeDown 90 = .ok (.iastore, 1) := by decide +kernel
theorem dX9_writeDown_91 : decode cX9_writeDown 91 = .ok (.aload_n 0, 1) := by decide +kernel
theorem dX9_writeDown_92 : decode cX9_writeDown 92 = .ok (.getfield 7, 3) := by decide +kernel
theorem dX9_writeDown_95 : decode cX9_writeDown 95 = .ok (.iload 5, 2) := by decide +kernel
theorem dX9_writeDown_97 : decode cX9_writeDown 97 = .ok (.iconst 2, 1) := by decide +kernel
theorem dX9_writeDown_98 : decode cX9_writeDown 98 = .ok (.iadd, 1) := by decide +kernel
theorem dX9_writeDown_99 : decode cX9_writeDown 99 = .ok (.iload_n 3, 1) := by decide +kernel
theorem dX9_writeDown_100 : decode cX9_writeDown 100 = .ok (.iastore, 1) := by decide +kernel
theorem dX9_writeDown_101 : decode cX9_writeDown 101 = .ok (.aload_n 0, 1) := by decide +kernel
theorem dX9_writeDown_102 : decode cX9_writeDown 102 = .ok (.getfield 7, 3) := by decide +kernel
theorem dX9_writeDown_105 : decode cX9_writeDown 105 = .ok (.iload 5, 2) := by decide +kernel
theorem dX9_writeDown_107 : decode cX9_writeDown 107 = .ok (.iconst 3, 1) := by decide +kernel
theorem dX9_writeDown_108 : decode cX9_writeDown 108 = .ok (.iadd, 1) := by decide +kernel
theorem dX9_writeDown_109 : decode cX9_writeDown 109 = .ok (.iload 4, 2) := by decide +kernel
theorem dX9_writeDown_111 : decode cX9_writeDown 111 = .ok (.iastore, 1) := by decide +kernel
theorem dX9_writeDown_112 : decode cX9_writeDown 112 = .ok (.aload_n 0, 1) := by decide +kernel
theorem dX9_writeDown_113 : decode cX9_writeDown 113 = .ok (.getfield 7, 3) := by decide +kernel
theorem dX9_writeDown_116 : decode cX9_writeDown 116 = .ok (.bipush 46, 2) := by decide +kernel
theorem dX9_writeDown_118 : decode cX9_writeDown 118 = .ok (.dup2, 1) := by decide +kernel
theorem dX9_writeDown_119 : decode cX9_writeDown 119 = .ok (.iaload, 1) := by decide +kernel
theorem dX9_writeDown_120 : decode cX9_writeDown 120 = .ok (.iconst 1, 1) := by decide +kernel
theorem dX9_writeDown_121 : decode cX9_writeDown 121 = .ok (.iadd, 1) := by decide +kernel
theorem dX9_writeDown_122 : decode cX9_writeDown 122 = .ok (.iastore, 1) := by decide +kernel
theorem dX9_writeDown_123 : decode cX9_writeDown 123 = .ok (.return_, 1) := by decide +kernel
def X9_writeDown_b17 (j47 : gM → Option (Unit × gM)) (v14 : Int32) (m15 : gM) (k17 : Int32 → gM → Option (Unit × gM)) : Option (Unit × gM) :=
  if 1499 ≤ v14 then (j47 m15) else (gAt m15 47 0 (v14 + 4) (fun (x16 : Int32) => gPut m15 47 0 v14 x16 (fun (m17 : gM) => gLet (v14 + 1) (fun (x18 : Int32) => k17 x18 m17))))
def X9_writeDown (a1 : Int32) (a2 : Int32) (a3 : Int32) (a4 : Int32) (m : gM) : Option (Unit × gM) :=
  gAt m 47 0 46 (fun (x1 : Int32) => gJ0 (fun (m2 : gM) => gAt m2 47 0 46 (fun (x3 : Int32) => gLet (1407 + (4 * x3)) (fun (x4 : Int32) => gPut m2 47 0 x4 a1 (fun (m5 : gM) => gPut m5 47 0 (x4 + 1) a2 (fun (m6 : gM) => gPut m6 47 0 (x4 + 2) a3 (fun (m7 : gM) => gPut m7 47 0 (x4 + 3) a4 (fun (m8 : gM) => gAt m8 47 0 46 (fun (x9 : Int32) => gPut m8 47 0 46 (x9 + 1) (fun (m10 : gM) => some ((), m10)))))))))) (fun (j58 : gM → Option (Unit × gM)) => if x1 = 24 then (gJ0 (fun (m11 : gM) => gAt m11 47 0 46 (fun (x12 : Int32) => gPut m11 47 0 46 (x12 - 1) (fun (m13 : gM) => j58 m13))) (fun (j47 : gM → Option (Unit × gM)) => gL1 FU (X9_writeDown_b17 j47) 1407 m)) else (j58 m)))
set_option maxRecDepth 100000 in
set_option maxHeartbeats 4000000 in
theorem c_X9_writeDown (a1 : Int32) (a2 : Int32) (a3 : Int32) (a4 : Int32) (m : gM) : gCon eU yX9_writeDown cX9_writeDown 6 none 0 [.inr (9, 0), .inl a1, .inl a2, .inl a3, .inl a4] m (X9_writeDown a1 a2 a3 a4 m) := by
  refine gCon.of (lv := [some (.inr (9, 0)), some (.inl a1), some (.inl a2), some (.inl a3), some (.inl a4), none]) (by decide +kernel) (Nat.le_of_ble_eq_true rfl) rfl (fun X C => ?_)
  unfold X9_writeDown
  refine r_aload_n C dX9_writeDown_0 rfl rfl ?_
  refine r_get (v := .inr (47, 0)) C fl_X9_7 dX9_writeDown_1 rfl ?_
  refine r_bipush (v := 46) C dX9_writeDown_4 (by decide) ?_
  refine r_iald C rfl dX9_writeDown_6 (fun x1 => ?_)
  refine r_bipush (v := 24) C dX9_writeDown_7 (by decide) ?_
  refine r_j0 58 [some (.inr (9, 0)), some (.inl a1), some (.inl a2), some (.inl a3), some (.inl a4), none] [] (fun m2 => ?_) (fun j58 hj58 => ?_)
  · refine r_sipush (v := 1407) C dX9_writeDown_58 (by decide) ?_
    refine r_iconst (v := 4) C dX9_writeDown_61 (by decide) ?_
    refine r_aload_n C dX9_writeDown_62 rfl rfl ?_
    refine r_get (v := .inr (47, 0)) C fl_X9_7 dX9_writeDown_63 rfl ?_
    refine r_bipush (v := 46) C dX9_writeDown_66 (by decide) ?_
    refine r_iald C rfl dX9_writeDown_68 (fun x3 => ?_)
    refine r_imul C dX9_writeDown_69 ?_
    refine r_iadd C dX9_writeDown_70 ?_
    refine r_let (fun x4 => ?_)
    refine r_istore (lv' := [some (.inr (9, 0)), some (.inl a1), some (.inl a2), some (.inl a3), some (.inl a4), some (.inl x4)]) C dX9_writeDown_71 (by decide) rfl ?_
    refine r_aload_n C dX9_writeDown_73 rfl rfl ?_
    refine r_get (v := .inr (47, 0)) C fl_X9_7 dX9_writeDown_74 rfl ?_
    refine r_iload C dX9_writeDown_77 rfl ?_
    refine r_iload_n C dX9_writeDown_79 rfl rfl ?_
    refine r_iast C rfl dX9_writeDown_80 (fun m5 => ?_)
    refine r_aload_n C dX9_writeDown_81 rfl rfl ?_
    refine r_get (v := .inr (47, 0)) C fl_X9_7 dX9_writeDown_82 rfl ?_
    refine r_iload C dX9_writeDown_85 rfl ?_
    refine r_iconst (v := 1) C dX9_writeDown_87 (by decide) ?_
    refine r_iadd C dX9_writeDown_88 ?_
    refine r_iload_n C dX9_writeDown_89 rfl rfl ?_
    refine r_iast C rfl dX9_writeDown_90 (fun m6 => ?_)
    refine r_aload_n C dX9_writeDown_91 rfl rfl ?_
    refine r_get (v := .inr (47, 0)) C fl_X9_7 dX9_writeDown_92 rfl ?_
    refine r_iload C dX9_writeDown_95 rfl ?_
    refine r_iconst (v := 2) C dX9_writeDown_97 (by decide) ?_
    refine r_iadd C dX9_writeDown_98 ?_
    refine r_iload_n C dX9_writeDown_99 rfl rfl ?_
    refine r_iast C rfl dX9_writeDown_100 (fun m7 => ?_)
    refine r_aload_n C dX9_writeDown_101 rfl rfl ?_
    refine r_get (v := .inr (47, 0)) C fl_X9_7 dX9_writeDown_102 rfl ?_
    refine r_iload C dX9_writeDown_105 rfl ?_
    refine r_iconst (v := 3) C dX9_writeDown_107 (by decide) ?_
    refine r_iadd C dX9_writeDown_108 ?_
    refine r_iload C dX9_writeDown_109 rfl ?_
    refine r_iast C rfl dX9_writeDown_111 (fun m8 => ?_)
    refine r_aload_n C dX9_writeDown_112 rfl rfl ?_
    refine r_get (v := .inr (47, 0)) C fl_X9_7 dX9_writeDown_113 rfl ?_
    refine r_bipush (v := 46) C dX9_writeDown_116 (by decide) ?_
    refine r_dup2 C dX9_writeDown_118 ?_
    refine r_iald C rfl dX9_writeDown_119 (fun x9 => ?_)
    refine r_iconst (v := 1) C dX9_writeDown_120 (by decide) ?_
    refine r_iadd C dX9_writeDown_121 ?_
    refine r_iast C rfl dX9_writeDown_122 (fun m10 => ?_)
    exact r_return C dX9_writeDown_123
  refine r_icmp_ne (tgt := 58) C dX9_writeDown_9 (by decide) ?_ ?_
  · exact r_weak (lv' := [some (.inr (9, 0)), some (.inl a1), some (.inl a2), some (.inl a3), some (.inl a4), none]) ⟨rfl, rfl, rfl, rfl, rfl, trivial⟩ (hj58 _)
  refine r_sipush (v := 1407) C dX9_writeDown_12 (by decide) ?_
  refine r_istore (lv' := [some (.inr (9, 0)), some (.inl a1), some (.inl a2), some (.inl a3), some (.inl a4), some (.inl 1407)]) C dX9_writeDown_15 (by decide) rfl ?_
  refine r_j0 47 [some (.inr (9, 0)), some (.inl a1), some (.inl a2), some (.inl a3), some (.inl a4), none] [] (fun m11 => ?_) (fun j47 hj47 => ?_)
  · refine r_aload_n C dX9_writeDown_47 rfl rfl ?_
    refine r_get (v := .inr (47, 0)) C fl_X9_7 dX9_writeDown_48 rfl ?_
    refine r_bipush (v := 46) C dX9_writeDown_51 (by decide) ?_
    refine r_dup2 C dX9_writeDown_53 ?_
    refine r_iald C rfl dX9_writeDown_54 (fun x12 => ?_)
    refine r_iconst (v := 1) C dX9_writeDown_55 (by decide) ?_
    refine r_isub C dX9_writeDown_56 ?_
    refine r_iast C rfl dX9_writeDown_57 (fun m13 => ?_)
    exact r_weak (lv' := [some (.inr (9, 0)), some (.inl a1), some (.inl a2), some (.inl a3), some (.inl a4), none]) ⟨rfl, rfl, rfl, rfl, rfl, trivial⟩ (hj58 _)
  refine r_weak (lv' := [some (.inr (9, 0)), some (.inl a1), some (.inl a2), some (.inl a3), some (.inl a4), some (.inl 1407)]) ⟨rfl, rfl, rfl, rfl, rfl, rfl, trivial⟩ ?_
  refine r_l1 (pj := 17) (fun v14 => [some (.inr (9, 0)), some (.inl a1), some (.inl a2), some (.inl a3), some (.inl a4), some (.inl v14)]) (fun v14 m15 k17 hk17 => ?_) _ _ _
  unfold X9_writeDown_b17
  refine r_iload C dX9_writeDown_17 rfl ?_
  refine r_sipush (v := 1499) C dX9_writeDown_19 (by decide) ?_
  refine r_icmp_ge (tgt := 47) C dX9_writeDown_22 (by decide) ?_ ?_
  · exact r_weak (lv' := [some (.inr (9, 0)), some (.inl a1), some (.inl a2), some (.inl a3), some (.inl a4), none]) ⟨rfl, rfl, rfl, rfl, rfl, trivial⟩ (hj47 _)
  refine r_aload_n C dX9_writeDown_25 rfl rfl ?_
  refine r_get (v := .inr (47, 0)) C fl_X9_7 dX9_writeDown_26 rfl ?_
  refine r_iload C dX9_writeDown_29 rfl ?_
  refine r_aload_n C dX9_writeDown_31 rfl rfl ?_
  refine r_get (v := .inr (47, 0)) C fl_X9_7 dX9_writeDown_32 rfl ?_
  refine r_iload C dX9_writeDown_35 rfl ?_
  refine r_iconst (v := 4) C dX9_writeDown_37 (by decide) ?_
  refine r_iadd C dX9_writeDown_38 ?_
  refine r_iald C rfl dX9_writeDown_39 (fun x16 => ?_)
  refine r_iast C rfl dX9_writeDown_40 (fun m17 => ?_)
  refine r_iinc (v := 1) C dX9_writeDown_41 (by decide) rfl (by decide) (fun x18 => ?_)
  show gw X eU _ [some (.inr (9, 0)), some (.inl a1), some (.inl a2), some (.inl a3), some (.inl a4), some (.inl x18)] _ _ _
  refine r_goto (tgt := 17) C dX9_writeDown_44 (by decide) ?_
  exact r_weak (lv' := [some (.inr (9, 0)), some (.inl a1), some (.inl a2), some (.inl a3), some (.inl a4), some (.inl x18)]) ⟨rfl, rfl, rfl, rfl, rfl, rfl, trivial⟩ (hk17 _ _)
theorem dX9_goesBack_0 : decode cX9_goesBack 0 = .ok (.aload_n 0, 1) := by decide +kernel
theorem dX9_goesBack_1 : decode cX9_goesBack 1 = .ok (.getfield 7, 3) := by decide +kernel
theorem dX9_goesBack_4 : decode cX9_goesBack 4 = .ok (.iload_n 1, 1) := by decide +kernel
theorem dX9_goesBack_5 : decode cX9_goesBack 5 = .ok (.invokestatic 96, 3) := by decide +kernel
theorem dX9_goesBack_8 : decode cX9_goesBack 8 = .ok (.iconst 2, 1) := by decide +kernel
theorem dX9_goesBack_9 : decode cX9_goesBack 9 = .ok (.iadd, 1) := by decide +kernel
theorem dX9_goesBack_10 : decode cX9_goesBack 10 = .ok (.iaload, 1) := by decide +kernel
theorem dX9_goesBack_11 : decode cX9_goesBack 11 = .ok (.ifCond .ne 5, 3) := by decide +kernel
theorem dX9_goesBack_14 : decode cX9_goesBack 14 = .ok (.iconst 0, 1) := by decide +kernel
theorem dX9_goesBack_15 : decode cX9_goesBack 15 = .ok (.ireturn, 1) := by decide +kernel
theorem dX9_goesBack_16 : decode cX9_goesBack 16 = .ok (.aload_n 0, 1) := by decide +kernel
theorem dX9_goesBack_17 : decode cX9_goesBack 17 = .ok (.getfield 7, 3) := by decide +kernel
theorem dX9_goesBack_20 : decode cX9_goesBack 20 = .ok (.sipush 383, 3) := by decide +kernel
theorem dX9_goesBack_23 : decode cX9_goesBack 23 = .ok (.aload_n 0, 1) := by decide +kernel
theorem dX9_goesBack_24 : decode cX9_goesBack 24 = .ok (.iload_n 1, 1) := by decide +kernel
theorem dX9_goesBack_25 : decode cX9_goesBack 25 = .ok (.invokevirtual 102, 3) := by decide +kernel
theorem dX9_goesBack_28 : decode cX9_goesBack 28 = .ok (.iadd, 1) := by decide +kernel
theorem dX9_goesBack_29 : decode cX9_goesBack 29 = .ok (.aload_n 0, 1) := by decide +kernel
theorem dX9_goesBack_30 : decode cX9_goesBack 30 = .ok (.getfield 7, 3) := by decide +kernel
theorem dX9_goesBack_33 : decode cX9_goesBack 33 = .ok (.iload_n 1, 1) := by decide +kernel
theorem dX9_goesBack_34 : decode cX9_goesBack 34 = .ok (.invokestatic 96, 3) := by decide +kernel
theorem dX9_goesBack_37 : decode cX9_goesBack 37 = .ok (.iconst 1, 1) := by decide +kernel
theorem dX9_goesBack_38 : decode cX9_goesBack 38 = .ok (.iadd, 1) := by decide +kernel
theorem dX9_goesBack_39 : decode cX9_goesBack 39 = .ok (.iaload, 1) := by decide +kernel
theorem dX9_goesBack_40 : decode cX9_goesBack 40 = .ok (.iastore, 1) := by decide +kernel
theorem dX9_goesBack_41 : decode cX9_goesBack 41 = .ok (.aload_n 0, 1) := by decide +kernel
theorem dX9_goesBack_42 : decode cX9_goesBack 42 = .ok (.getfield 7, 3) := by decide +kernel
theorem dX9_goesBack_45 : decode cX9_goesBack 45 = .ok (.bipush 42, 2) := by decide +kernel
theorem dX9_goesBack_47 : decode cX9_goesBack 47 = .ok (.dup2, 1) := by decide +kernel
theorem dX9_goesBack_48 : decode cX9_goesBack 48 = .ok (.iaload, 1) := by decide +kernel
theorem dX9_goesBack_49 : decode cX9_goesBack 49 = .ok (.iconst 1, 1) := by decide +kernel
theorem dX9_goesBack_50 : decode cX9_goesBack 50 = .ok (.iadd, 1) := by decide +kernel
theorem dX9_goesBack_51 : decode cX9_goesBack 51 = .ok (.iastore, 1) := by decide +kernel
theorem dX9_goesBack_52 : decode cX9_goesBack 52 = .ok (.iconst 1, 1) := by decide +kernel
theorem dX9_goesBack_53 : decode cX9_goesBack 53 = .ok (.ireturn, 1) := by decide +kernel
def X9_goesBack (a1 : Int32) (m : gM) : Option (Bool × gM) :=
  gCall (X9_at a1 m) (fun (r2 : Int32) (m1 : gM) => gAt m1 47 0 (r2 + 2) (fun (x3 : Int32) => if x3 = 0 then (some (false, m1)) else (gCall (X9_lineAt a1 m1) (fun (r5 : Int32) (m4 : gM) => gCall (X9_at a1 m4) (fun (r7 : Int32) (m6 : gM) => gAt m6 47 0 (r7 + 1) (fun (x8 : Int32) => gPut m6 47 0 (383 + r5) x8 (fun (m9 : gM) => gAt m9 47 0 42 (fun (x10 : Int32) => gPut m9 47 0 42 (x10 + 1) (fun (m11 : gM) => some (true, m11))))))))))
set_option maxRecDepth 100000 in
set_option maxHeartbeats 4000000 in
theorem c_X9_goesBack (a1 : Int32) (m : gM) : gCon eB yX9_goesBack cX9_goesBack 2 (some .boolean) 2 [.inr (9, 0), .inl a1] m (X9_goesBack a1 m) := by
  refine gCon.of (lv := [some (.inr (9, 0)), some (.inl a1)]) (by decide +kernel) (Nat.le_of_ble_eq_true rfl) rfl (fun X C => ?_)
  unfold X9_goesBack
  refine r_aload_n C dX9_goesBack_0 rfl rfl ?_
  refine r_get (v := .inr (47, 0)) C fl_X9_7 dX9_goesBack_1 rfl ?_
  refine r_iload_n C dX9_goesBack_4 rfl rfl ?_
  refine r_insI (As := [.inl a1]) (st := [.inr (47, 0)]) C il_X9_96 co_X9_at (c_X9_at a1 m) (by decide) (by decide) rfl rfl (Nat.le_of_ble_eq_true rfl) dX9_goesBack_5 (fun r2 m1 => ?_)
  refine r_iconst (v := 2) C dX9_goesBack_8 (by decide) ?_
  refine r_iadd C dX9_goesBack_9 ?_
  refine r_iald C rfl dX9_goesBack_10 (fun x3 => ?_)
  refine r_if_ne (tgt := 16) C dX9_goesBack_11 (by decide) ?_ ?_
  · refine r_aload_n C dX9_goesBack_16 rfl rfl ?_
    refine r_get (v := .inr (47, 0)) C fl_X9_7 dX9_goesBack_17 rfl ?_
    refine r_sipush (v := 383) C dX9_goesBack_20 (by decide) ?_
    refine r_aload_n C dX9_goesBack_23 rfl rfl ?_
    refine r_iload_n C dX9_goesBack_24 rfl rfl ?_
    refine r_invI (t := 9) (kb := 0) (As := [.inl a1]) (st := [.inl 383, .inr (47, 0)]) C il_X9_102 co_X9_lineAt (by decide) rfl (c_X9_lineAt a1 m1) (by decide) (by decide) rfl rfl (Nat.le_of_ble_eq_true rfl) dX9_goesBack_25 (fun r5 m4 => ?_)
    refine r_iadd C dX9_goesBack_28 ?_
    refine r_aload_n C dX9_goesBack_29 rfl rfl ?_
    refine r_get (v := .inr (47, 0)) C fl_X9_7 dX9_goesBack_30 rfl ?_
    refine r_iload_n C dX9_goesBack_33 rfl rfl ?_
    refine r_insI (As := [.inl a1]) (st := [.inr (47, 0), .inl (383 + r5), .inr (47, 0)]) C il_X9_96 co_X9_at (c_X9_at a1 m4) (by decide) (by decide) rfl rfl (Nat.le_of_ble_eq_true rfl) dX9_goesBack_34 (fun r7 m6 => ?_)
    refine r_iconst (v := 1) C dX9_goesBack_37 (by decide) ?_
    refine r_iadd C dX9_goesBack_38 ?_
    refine r_iald C rfl dX9_goesBack_39 (fun x8 => ?_)
    refine r_iast C rfl dX9_goesBack_40 (fun m9 => ?_)
    refine r_aload_n C dX9_goesBack_41 rfl rfl ?_
    refine r_get (v := .inr (47, 0)) C fl_X9_7 dX9_goesBack_42 rfl ?_
    refine r_bipush (v := 42) C dX9_goesBack_45 (by decide) ?_
    refine r_dup2 C dX9_goesBack_47 ?_
    refine r_iald C rfl dX9_goesBack_48 (fun x10 => ?_)
    refine r_iconst (v := 1) C dX9_goesBack_49 (by decide) ?_
    refine r_iadd C dX9_goesBack_50 ?_
    refine r_iast C rfl dX9_goesBack_51 (fun m11 => ?_)
    refine r_iconst (v := 1) C dX9_goesBack_52 (by decide) ?_
    exact r_zret1 C dX9_goesBack_53
  refine r_iconst (v := 0) C dX9_goesBack_14 (by decide) ?_
  exact r_zret0 C dX9_goesBack_15
theorem dX9_layLine_0 : decode cX9_layLine 0 = .ok (.iload_n 1, 1) := by decide +kernel
theorem dX9_layLine_1 : decode cX9_layLine 1 = .ok (.invokestatic 96, 3) := by decide +kernel
theorem dX9_layLine_4 : decode cX9_layLine 4 = .ok (.istore_n 3, 1) := by decide +kernel
theorem dX9_layLine_5 : decode cX9_layLine 5 = .ok (.aload_n 0, 1) := by decide +kernel
theorem dX9_layLine_6 : decode cX9_layLine 6 = .ok (.getfield 7, 3) := by decide +kernel
theorem dX9_layLine_9 : decode cX9_layLine 9 = .ok (.iload_n 3, 1) := by decide +kernel
theorem dX9_layLine_10 : decode cX9_layLine 10 = .ok (.iconst 0, 1) := by decide +kernel
theorem dX9_layLine_11 : decode cX9_layLine 11 = .ok (.iadd, 1) := by decide +kernel
theorem dX9_layLine_12 : decode cX9_layLine 12 = .ok (.iload_n 2, 1) := by decide +kernel
theorem dX9_layLine_13 : decode cX9_layLine 13 = .ok (.iconst 1, 1) := by decide +kernel
theorem dX9_layLine_14 : decode cX9_layLine 14 = .ok (.iadd, 1) := by decide +kernel
theorem dX9_layLine_15 : decode cX9_layLine 15 = .ok (.iastore, 1) := by decide +kernel
theorem dX9_layLine_16 : decode cX9_layLine 16 = .ok (.aload_n 0, 1) := by decide +kernel
theorem dX9_layLine_17 : decode cX9_layLine 17 = .ok (.getfield 7, 3) := by decide +kernel
theorem dX9_layLine_20 : decode cX9_layLine 20 = .ok (.iload_n 3, 1) := by decide +kernel
theorem dX9_layLine_21 : decode cX9_layLine 21 = .ok (.iconst 1, 1) := by decide +kernel
theorem dX9_layLine_22 : decode cX9_layLine 22 = .ok (.iadd, 1) := by decide +kernel
theorem dX9_layLine_23 : decode cX9_layLine 23 = .ok (.aload_n 0, 1) := by decide +kernel
theorem dX9_layLine_24 : decode cX9_layLine 24 = .ok (.getfield 7, 3) := by decide +kernel
theorem dX9_layLine_27 : decode cX9_layLine 27 = .ok (.sipush 383, 3) := by decide +kernel
theorem dX9_layLine_30 : decode cX9_layLine 30 = .ok (.iload_n 2, 1) := by decide +kernel
theorem dX9_layLine_31 : decode cX9_layLine 31 = .ok (.iadd, 1) := by decide +kernel
theorem dX9_layLine_32 : decode cX9_layLine 32 = .ok (.iaload, 1) := by decide +kernel
theorem dX9_layLine_33 : decode cX9_layLine 33 = .ok (.iastore, 1) := by decide +kernel
theorem dX9_layLine_34 : decode cX9_layLine 34 = .ok (.aload_n 0, 1) := by decide +kernel
theorem dX9_layLine_35 : decode cX9_layLine 35 = .ok (.getfield 7, 3) := by decide +kernel
theorem dX9_layLine_38 : decode cX9_layLine 38 = .ok (.iload_n 3, 1) := by decide +kernel
theorem dX9_layLine_39 : decode cX9_layLine 39 = .ok (.iconst 2, 1) := by decide +kernel
theorem dX9_layLine_40 : decode cX9_layLine 40 = .ok (.iadd, 1) := by decide +kernel
theorem dX9_layLine_41 : decode cX9_layLine 41 = .ok (.iconst 0, 1) := by decide +kernel
theorem dX9_layLine_42 : decode cX9_layLine 42 = .ok (.iastore, 1) := by decide +kernel
theorem dX9_layLine_43 : decode cX9_layLine 43 = .ok (.aload_n 0, 1) := by decide +kernel
theorem dX9_layLine_44 : decode cX9_layLine 44 = .ok (.getfield 7, 3) := by decide +kernel
theorem dX9_layLine_47 : decode cX9_layLine 47 = .ok (.iload_n 3, 1) := by decide +kernel
theorem dX9_layLine_48 : decode cX9_layLine 48 = .ok (.iconst 3, 1) := by decide +kernel
theorem dX9_layLine_49 : decode cX9_layLine 49 = .ok (.iadd, 1) := by decide +kernel
theorem dX9_layLine_50 : decode cX9_layLine 50 = .ok (.iconst 2, 1) := by decide +kernel
theorem dX9_layLine_51 : decode cX9_layLine 51 = .ok (.iastore, 1) := by decide +kernel
theorem dX9_layLine_52 : decode cX9_layLine 52 = .ok (.aload_n 0, 1) := by decide +kernel
theorem dX9_layLine_53 : decode cX9_layLine 53 = .ok (.getfield 7, 3) := by decide +kernel
theorem dX9_layLine_56 : decode cX9_layLine 56 = .ok (.iload_n 3, 1) := by decide +kernel
theorem dX9_layLine_57 : decode cX9_layLine 57 = .ok (.iconst 4, 1) := by decide +kernel
theorem dX9_layLine_58 : decode cX9_layLine 58 = .ok (.iadd, 1) := by decide +kernel
theorem dX9_layLine_59 : decode cX9_layLine 59 = .ok (.iconst 0, 1) := by decide +kernel
theorem dX9_layLine_60 : decode cX9_layLine 60 = .ok (.iastore, 1) := by decide +kernel
theorem dX9_layLine_61 : decode cX9_layLine 61 = .ok (.return_, 1) := by decide +kernel
def X9_layLine (a1 : Int32) (a2 : Int32) (m : gM) : Option (Unit × gM) :=
  gCall (X9_at a1 m) (fun (r2 : Int32) (m1 : gM) => gPut m1 47 0 (r2 + 0) (a2 + 1) (fun (m3 : gM) => gAt m3 47 0 (383 + a2) (fun (x4 : Int32) => gPut m3 47 0 (r2 + 1) x4 (fun (m5 : gM) => gPut m5 47 0 (r2 + 2) 0 (fun (m6 : gM) => gPut m6 47 0 (r2 + 3) 2 (fun (m7 : gM) => gPut m7 47 0 (r2 + 4) 0 (fun (m8 : gM) => some ((), m8))))))))
set_option maxRecDepth 100000 in
set_option maxHeartbeats 4000000 in
theorem c_X9_layLine (a1 : Int32) (a2 : Int32) (m : gM) : gCon eU yX9_layLine cX9_layLine 4 none 1 [.inr (9, 0), .inl a1, .inl a2] m (X9_layLine a1 a2 m) := by
  refine gCon.of (lv := [some (.inr (9, 0)), some (.inl a1), some (.inl a2), none]) (by decide +kernel) (Nat.le_of_ble_eq_true rfl) rfl (fun X C => ?_)
  unfold X9_layLine
  refine r_iload_n C dX9_layLine_0 rfl rfl ?_
  refine r_insI (As := [.inl a1]) (st := []) C il_X9_96 co_X9_at (c_X9_at a1 m) (by decide) (by decide) rfl rfl (Nat.le_of_ble_eq_true rfl) dX9_layLine_1 (fun r2 m1 => ?_)
  refine r_istore_n (lv' := [some (.inr (9, 0)), some (.inl a1), some (.inl a2), some (.inl r2)]) C dX9_layLine_4 rfl (by decide) rfl ?_
  refine r_aload_n C dX9_layLine_5 rfl rfl ?_
  refine r_get (v := .inr (47, 0)) C fl_X9_7 dX9_layLine_6 rfl ?_
  refine r_iload_n C dX9_layLine_9 rfl rfl ?_
  refine r_iconst (v := 0) C dX9_layLine_10 (by decide) ?_
  refine r_iadd C dX9_layLine_11 ?_
  refine r_iload_n C dX9_layLine_12 rfl rfl ?_
  refine r_iconst (v := 1) C dX9_layLine_13 (by decide) ?_
  refine r_iadd C dX9_layLine_14 ?_
  refine r_iast C rfl dX9_layLine_15 (fun m3 => ?_)
  refine r_aload_n C dX9_layLine_16 rfl rfl ?_
  refine r_get (v := .inr (47, 0)) C fl_X9_7 dX9_layLine_17 rfl ?_
  refine r_iload_n C dX9_layLine_20 rfl rfl ?_
  refine r_iconst (v := 1) C dX9_layLine_21 (by decide) ?_
  refine r_iadd C dX9_layLine_22 ?_
  refine r_aload_n C dX9_layLine_23 rfl rfl ?_
  refine r_get (v := .inr (47, 0)) C fl_X9_7 dX9_layLine_24 rfl ?_
  refine r_sipush (v := 383) C dX9_layLine_27 (by decide) ?_
  refine r_iload_n C dX9_layLine_30 rfl rfl ?_
  refine r_iadd C dX9_layLine_31 ?_
  refine r_iald C rfl dX9_layLine_32 (fun x4 => ?_)
  refine r_iast C rfl dX9_layLine_33 (fun m5 => ?_)
  refine r_aload_n C dX9_layLine_34 rfl rfl ?_
  refine r_get (v := .inr (47, 0)) C fl_X9_7 dX9_layLine_35 rfl ?_
  refine r_iload_n C dX9_layLine_38 rfl rfl ?_
  refine r_iconst (v := 2) C dX9_layLine_39 (by decide) ?_
  refine r_iadd C dX9_layLine_40 ?_
  refine r_iconst (v := 0) C dX9_layLine_41 (by decide) ?_
  refine r_iast C rfl dX9_layLine_42 (fun m6 => ?_)
  refine r_aload_n C dX9_layLine_43 rfl rfl ?_
  refine r_get (v := .inr (47, 0)) C fl_X9_7 dX9_layLine_44 rfl ?_
  refine r_iload_n C dX9_layLine_47 rfl rfl ?_
  refine r_iconst (v := 3) C dX9_layLine_48 (by decide) ?_
  refine r_iadd C dX9_layLine_49 ?_
  refine r_iconst (v := 2) C dX9_layLine_50 (by decide) ?_
  refine r_iast C rfl dX9_layLine_51 (fun m7 => ?_)
  refine r_aload_n C dX9_layLine_52 rfl rfl ?_
  refine r_get (v := .inr (47, 0)) C fl_X9_7 dX9_layLine_53 rfl ?_
  refine r_iload_n C dX9_layLine_56 rfl rfl ?_
  refine r_iconst (v := 4) C dX9_layLine_57 (by decide) ?_
  refine r_iadd C dX9_layLine_58 ?_
  refine r_iconst (v := 0) C dX9_layLine_59 (by decide) ?_
  refine r_iast C rfl dX9_layLine_60 (fun m8 => ?_)
  exact r_return C dX9_layLine_61
theorem dX9_comeIn_0 : decode cX9_comeIn 0 = .ok (.aload_n 0, 1) := by decide +kernel
theorem dX9_comeIn_1 : decode cX9_comeIn 1 = .ok (.invokevirtual 180, 3) := by decide +kernel
theorem dX9_comeIn_4 : decode cX9_comeIn 4 = .ok (.istore_n 2, 1) := by decide +kernel
theorem dX9_comeIn_5 : decode cX9_comeIn 5 = .ok (.aload_n 0, 1) := by decide +kernel
theorem dX9_comeIn_6 : decode cX9_comeIn 6 = .ok (.aload_n 0, 1) := by decide +kernel
theorem dX9_comeIn_7 : decode cX9_comeIn 7 = .ok (.getfield 32, 3) := by decide +kernel
theorem dX9_comeIn_10 : decode cX9_comeIn 10 = .ok (.iload_n 2, 1) := by decide +kernel
theorem dX9_comeIn_11 : decode cX9_comeIn 11 = .ok (.iaload, 1) := by decide +kernel
theorem dX9_comeIn_12 : decode cX9_comeIn 12 = .ok (.invokevirtual 102, 3) := by decide +kernel
theorem dX9_comeIn_15 : decode cX9_comeIn 15 = .ok (.istore_n 3, 1) := by decide +kernel
theorem dX9_comeIn_16 : decode cX9_comeIn 16 = .ok (.iload_n 3, 1) := by decide +kernel
theorem dX9_comeIn_17 : decode cX9_comeIn 17 = .ok (.iconst (-1), 1) := by decide +kernel
theorem dX9_comeIn_18 : decode cX9_comeIn 18 = .ok (.if_icmp .eq 85, 3) := by decide +kernel
theorem dX9_comeIn_21 : decode cX9_comeIn 21 = .ok (.iconst 3, 1) := by decide +kernel
theorem dX9_comeIn_22 : decode cX9_comeIn 22 = .ok (.aload_n 0, 1) := by decide +kernel
theorem dX9_comeIn_23 : decode cX9_comeIn 23 = .ok (.getfield 7, 3) := by decide +kernel
theorem dX9_comeIn_26 : decode cX9_comeIn 26 = .ok (.aload_n 0, 1) := by decide +kernel
theorem dX9_comeIn_27 : decode cX9_comeIn 27 = .ok (.getfield 32, 3) := by decide +kernel
theorem dX9_comeIn_30 : decode cX9_comeIn 30 = .ok (.iload_n 2, 1) := by decide +kernel
theorem dX9_comeIn_31 : decode cX9_comeIn 31 = .ok (.iaload, 1) := by decide +kernel
theorem dX9_comeIn_32 : decode cX9_comeIn 32 = .ok (.invokestatic 96, 3) := by decide +kernel
theorem dX9_comeIn_35 : decode cX9_comeIn 35 = .ok (.iconst 3, 1) := by decide +kernel
theorem dX9_comeIn_36 : decode cX9_comeIn 36 = .ok (.iadd, 1) := by decide +kernel
theorem dX9_comeIn_37 : decode cX9_comeIn 37 = .ok (.iaload, 1) := by decide +kernel
theorem dX9_comeIn_38 : decode cX9_comeIn 38 = .ok (.isub, 1) := by decide +kernel
theorem dX9_comeIn_39 : decode cX9_comeIn 39 = .ok (.istore 4, 2) := by decide +kernel
theorem dX9_comeIn_41 : decode cX9_comeIn 41 = .ok (.iconst 0, 1) := by decide +kernel
theorem dX9_comeIn_42 : decode cX9_comeIn 42 = .ok (.istore 5, 2) := by decide +kernel
theorem dX9_comeIn_44 : decode cX9_comeIn 44 = .ok (.iload 5, 2) := by decide +kernel
theorem dX9_comeIn_46 : decode cX9_comeIn 46 = .ok (.aload_n 0, 1) := by decide +kernel
theorem dX9_comeIn_47 : decode cX9_comeIn 47 = .ok (.getfield 171, 3) := by decide +kernel
theorem dX9_comeIn_50 : decode cX9_comeIn 50 = .ok (.if_icmp .ge 31, 3) := by decide +kernel
theorem dX9_comeIn_53 : decode cX9_comeIn 53 = .ok (.aload_n 0, 1) := by decide +kernel
theorem dX9_comeIn_54 : decode cX9_comeIn 54 = .ok (.getfield 7, 3) := by decide +kernel
theorem dX9_comeIn_57 : decode cX9_comeIn 57 = .ok (.aload_n 0, 1) := by decide +kernel
theorem dX9_comeIn_58 : decode cX9_comeIn 58 = .ok (.getfield 32, 3) := by decide +kernel
theorem dX9_comeIn_61 : decode cX9_comeIn 61 = .ok (.iload 5, 2) := by decide +kernel
theorem dX9_comeIn_63 : decode cX9_comeIn 63 = .ok (.iaload, 1) := by decide +kernel
theorem dX9_comeIn_64 : decode cX9_comeIn 64 = .ok (.invokestatic 96, 3) := by decide +kernel
theorem dX9_comeIn_67 : decode cX9_comeIn 67 = .ok (.iconst 3, 1) := by decide +kernel
theorem dX9_comeIn_68 : decode cX9_comeIn 68 = .ok (.iadd, 1) := by decide +kernel
theorem dX9_comeIn_69 : decode cX9_comeIn 69 = .ok (.dup2, 1) := by decide +kernel
theorem dX9_comeIn_70 : decode cX9_comeIn 70 = .ok (.iaload, 1) := by decide +kernel
theorem dX9_comeIn_71 : decode cX9_comeIn 71 = .ok (.iload 4, 2) := by decide +kernel
theorem dX9_comeIn_73 : decode cX9_comeIn 73 = .ok (.iadd, 1) := by decide +kernel
theorem dX9_comeIn_74 : decode cX9_comeIn 74 = .ok (.iastore, 1) := by decide +kernel
theorem dX9_comeIn_75 : decode cX9_comeIn 75 = .ok (.iinc 5 1, 3) := by decide +kernel
theorem dX9_comeIn_78 : decode cX9_comeIn 78 = .ok (.goto (-34), 3) := by decide +kernel
theorem dX9_comeIn_81 : decode cX9_comeIn 81 = .ok (.aload_n 0, 1) := by decide +kernel
theorem dX9_comeIn_82 : decode cX9_comeIn 82 = .ok (.aload_n 0, 1) := by decide +kernel
theorem dX9_comeIn_83 : decode cX9_comeIn 83 = .ok (.getfield 32, 3) := by decide +kernel
theorem dX9_comeIn_86 : decode cX9_comeIn 86 = .ok (.iload_n 2, 1) := by decide +kernel
theorem dX9_comeIn_87 : decode cX9_comeIn 87 = .ok (.iaload, 1) := by decide +kernel
theorem dX9_comeIn_88 : decode cX9_comeIn 88 = .ok (.invokevirtual 183, 3) := by decide +kernel
theorem dX9_comeIn_91 : decode cX9_comeIn 91 = .ok (.pop, 1) := by decide +kernel
theorem dX9_comeIn_92 : decode cX9_comeIn 92 = .ok (.aload_n 0, 1) := by decide +kernel
theorem dX9_comeIn_93 : decode cX9_comeIn 93 = .ok (.getfield 7, 3) := by decide +kernel
theorem dX9_comeIn_96 : decode cX9_comeIn 96 = .ok (.bipush 41, 2) := by decide +kernel
theorem dX9_comeIn_98 : decode cX9_comeIn 98 = .ok (.dup2, 1) := by decide +kernel
theorem dX9_comeIn_99 : decode cX9_comeIn 99 = .ok (.iaload, 1) := by decide +kernel
theorem dX9_comeIn_100 : decode cX9_comeIn 100 = .ok (.iconst 1, 1) := by decide +kernel
theorem dX9_comeIn_101 : decode cX9_comeIn 101 = .ok (.iadd, 1) := by decide +kernel
theorem dX9_comeIn_102 : decode cX9_comeIn 102 = .ok (.iastore, 1) := by decide +kernel
theorem dX9_comeIn_103 : decode cX9_comeIn 103 = .ok (.iconst 0, 1) := by decide +kernel
theorem dX9_comeIn_104 : decode cX9_comeIn 104 = .ok (.istore 4, 2) := by decide +kernel
theorem dX9_comeIn_106 : decode cX9_comeIn 106 = .ok (.aload_n 0, 1) := by decide +kernel
theorem dX9_comeIn_107 : decode cX9_comeIn 107 = .ok (.getfield 35, 3) := by decide +kernel
theorem dX9_comeIn_110 : decode cX9_comeIn 110 = .ok (.iload_n 2, 1) := by decide +kernel
theorem dX9_comeIn_111 : decode cX9_comeIn 111 = .ok (.iaload, 1) := by decide +kernel
theorem dX9_comeIn_112 : decode cX9_comeIn 112 = .ok (.iconst (-1), 1) := by decide +kernel
theorem dX9_comeIn_113 : decode cX9_comeIn 113 = .ok (.if_icmp .eq 70, 3) := by decide +kernel
theorem dX9_comeIn_116 : decode cX9_comeIn 116 = .ok (.iconst 0, 1) := by decide +kernel
theorem dX9_comeIn_117 : decode cX9_comeIn 117 = .ok (.istore 5, 2) := by decide +kernel
theorem dX9_comeIn_119 : decode cX9_comeIn 119 = .ok (.iload 5, 2) := by decide +kernel
theorem dX9_comeIn_121 : decode cX9_comeIn 121 = .ok (.iconst 5, 1) := by decide +kernel
theorem dX9_comeIn_122 : decode cX9_comeIn 122 = .ok (.if_icmp .ge 48, 3) := by decide +kernel
theorem dX9_comeIn_125 : decode cX9_comeIn 125 = .ok (.aload_n 0, 1) := by decide +kernel
theorem dX9_comeIn_126 : decode cX9_comeIn 126 = .ok (.getfield 7, 3) := by decide +kernel
theorem dX9_comeIn_129 : decode cX9_comeIn 129 = .ok (.aload_n 0, 1) := by decide +kernel
theorem dX9_comeIn_130 : decode cX9_comeIn 130 = .ok (.getfield 32, 3) := by decide +kernel
theorem dX9_comeIn_133 : decode cX9_comeIn 133 = .ok (.iload_n 2, 1) := by decide +kernel
theorem dX9_comeIn_134 : decode cX9_comeIn 134 = .ok (.iaload, 1) := by decide +kernel
theorem dX9_comeIn_135 : decode cX9_comeIn 135 = .ok (.invokestatic 96, 3) := by decide +kernel
theorem dX9_comeIn_138 : decode cX9_comeIn 138 = .ok (.iload 5, 2) := by decide +kernel
theorem dX9_comeIn_140 : decode cX9_comeIn 140 = .ok (.iadd, 1) := by decide +kernel
theorem dX9_comeIn_141 : decode cX9_comeIn 141 = .ok (.aload_n 0, 1) := by decide +kernel
theorem dX9_comeIn_142 : decode cX9_comeIn 142 = .ok (.getfield 7, 3) := by decide +kernel
theorem dX9_comeIn_145 : decode cX9_comeIn 145 = .ok (.aload_n 0, 1) := by decide +kernel
theorem dX9_comeIn_146 : decode cX9_comeIn 146 = .ok (.getfield 32, 3) := by decide +kernel
theorem dX9_comeIn_149 : decode cX9_comeIn 149 = .ok (.aload_n 0, 1) := by decide +kernel
theorem dX9_comeIn_150 : decode cX9_comeIn 150 = .ok (.getfield 35, 3) := by decide +kernel
theorem dX9_comeIn_153 : decode cX9_comeIn 153 = .ok (.iload_n 2, 1) := by decide +kernel
theorem dX9_comeIn_154 : decode cX9_comeIn 154 = .ok (.iaload, 1) := by decide +kernel
theorem dX9_comeIn_155 : decode cX9_comeIn 155 = .ok (.iaload, 1) := by decide +kernel
theorem dX9_comeIn_156 : decode cX9_comeIn 156 = .ok (.invokestatic 96, 3) := by decide +kernel
theorem dX9_comeIn_159 : decode cX9_comeIn 159 = .ok (.iload 5, 2) := by decide +kernel
theorem dX9_comeIn_161 : decode cX9_comeIn 161 = .ok (.iadd, 1) := by decide +kernel
theorem dX9_comeIn_162 : decode cX9_comeIn 162 = .ok (.iaload, 1) := by decide +kernel
theorem dX9_comeIn_163 : decode cX9_comeIn 163 = .ok (.iastore, 1) := by decide +kernel
theorem dX9_comeIn_164 : decode cX9_comeIn 164 = .ok (.iinc 5 1, 3) := by decide +kernel
theorem dX9_comeIn_167 : decode cX9_comeIn 167 = .ok (.goto (-48), 3) := by decide +kernel
theorem dX9_comeIn_170 : decode cX9_comeIn 170 = .ok (.iinc 4 1, 3) := by decide +kernel
theorem dX9_comeIn_173 : decode cX9_comeIn 173 = .ok (.aload_n 0, 1) := by decide +kernel
theorem dX9_comeIn_174 : decode cX9_comeIn 174 = .ok (.getfield 35, 3) := by decide +kernel
theorem dX9_comeIn_177 : decode cX9_comeIn 177 = .ok (.iload_n 2, 1) := by decide +kernel
theorem dX9_comeIn_178 : decode cX9_comeIn 178 = .ok (.iaload, 1) := by decide +kernel
theorem dX9_comeIn_179 : decode cX9_comeIn 179 = .ok (.istore_n 2, 1) := by decide +kernel
theorem dX9_comeIn_180 : decode cX9_comeIn 180 = .ok (.goto (-74), 3) := by decide +kernel
theorem dX9_comeIn_183 : decode cX9_comeIn 183 = .ok (.aload_n 0, 1) := by decide +kernel
theorem dX9_comeIn_184 : decode cX9_comeIn 184 = .ok (.getfield 7, 3) := by decide +kernel
theorem dX9_comeIn_187 : decode cX9_comeIn 187 = .ok (.bipush 43, 2) := by decide +kernel
theorem dX9_comeIn_189 : decode cX9_comeIn 189 = .ok (.dup2, 1) := by decide +kernel
theorem dX9_comeIn_190 : decode cX9_comeIn 190 = .ok (.iaload, 1) := by decide +kernel
theorem dX9_comeIn_191 : decode cX9_comeIn 191 = .ok (.iload 4, 2) := by decide +kernel
theorem dX9_comeIn_193 : decode cX9_comeIn 193 = .ok (.iadd, 1) := by decide +kernel
theorem dX9_comeIn_194 : decode cX9_comeIn 194 = .ok (.iastore, 1) := by decide +kernel
theorem dX9_comeIn_195 : decode cX9_comeIn 195 = .ok (.aload_n 0, 1) := by decide +kernel
theorem dX9_comeIn_196 : decode cX9_comeIn 196 = .ok (.aload_n 0, 1) := by decide +kernel
theorem dX9_comeIn_197 : decode cX9_comeIn 197 = .ok (.getfield 32, 3) := by decide +kernel
theorem dX9_comeIn_200 : decode cX9_comeIn 200 = .ok (.iload_n 2, 1) := by decide +kernel
theorem dX9_comeIn_201 : decode cX9_comeIn 201 = .ok (.iaload, 1) := by decide +kernel
theorem dX9_comeIn_202 : decode cX9_comeIn 202 = .ok (.iload_n 1, 1) := by decide +kernel
theorem dX9_comeIn_203 : decode cX9_comeIn 203 = .ok (.invokevirtual 186, 3) := by decide +kernel
theorem dX9_comeIn_206 : decode cX9_comeIn 206 = .ok (.aload_n 0, 1) := by decide +kernel
theorem dX9_comeIn_207 : decode cX9_comeIn 207 = .ok (.iload_n 1, 1) := by decide +kernel
theorem dX9_comeIn_208 : decode cX9_comeIn 208 = .ok (.iload_n 3, 1) := by decide +kernel
theorem dX9_comeIn_209 : decode cX9_comeIn 209 = .ok (.iload 4, 2) := by decide +kernel
theorem dX9_comeIn_211 : decode cX9_comeIn 211 = .ok (.iconst 0, 1) := by decide +kernel
theorem dX9_comeIn_212 : decode cX9_comeIn 212 = .ok (.invokevirtual 189, 3) := by decide +kernel
theorem dX9_comeIn_215 : decode cX9_comeIn 215 = .ok (.return_, 1) := by decide +kernel
def X9_comeIn_b119 (j170 : gM → Option (Unit × gM)) (v17 : Int32) (v24 : Int32) (m25 : gM) (k119 : Int32 → gM → Option (Unit × gM)) : Option (Unit × gM) :=
  if 5 ≤ v24 then (j170 m25) else (gAt m25 52 0 v17 (fun (x26 : Int32) => gCall (X9_at x26 m25) (fun (r28 : Int32) (m27 : gM) => gAt m27 53 0 v17 (fun (x29 : Int32) => gAt m27 52 0 x29 (fun (x30 : Int32) => gCall (X9_at x30 m27) (fun (r32 : Int32) (m31 : gM) => gAt m31 47 0 (r32 + v24) (fun (x33 : Int32) => gPut m31 47 0 (r28 + v24) x33 (fun (m34 : gM) => gLet (v24 + 1) (fun (x35 : Int32) => k119 x35 m34)))))))))
def X9_comeIn_b106 (j183 : Int32 → Int32 → gM → Option (Unit × gM)) (v17 v18 : Int32) (m19 : gM) (k106 : Int32 → Int32 → gM → Option (Unit × gM)) : Option (Unit × gM) :=
  gAt m19 53 0 v17 (fun (x20 : Int32) => if x20 = (-1) then (j183 v17 v18 m19) else (gJ0 (fun (m21 : gM) => gLet (v18 + 1) (fun (x22 : Int32) => gAt m21 53 0 v17 (fun (x23 : Int32) => k106 x23 x22 m21))) (fun (j170 : gM → Option (Unit × gM)) => gL1 FU (X9_comeIn_b119 j170 v17) 0 m19)))
def X9_comeIn_b44 (j81 : gM → Option (Unit × gM)) (x40 : Int32) (v47 : Int32) (m48 : gM) (k44 : Int32 → gM → Option (Unit × gM)) : Option (Unit × gM) :=
  if (m48 9 0 18) ≤ v47 then (j81 m48) else (gAt m48 52 0 v47 (fun (x49 : Int32) => gCall (X9_at x49 m48) (fun (r51 : Int32) (m50 : gM) => gLet (r51 + 3) (fun (x52 : Int32) => gAt m50 47 0 x52 (fun (x53 : Int32) => gPut m50 47 0 x52 (x53 + x40) (fun (m54 : gM) => gLet (v47 + 1) (fun (x55 : Int32) => k44 x55 m54)))))))
def X9_comeIn (a1 : Int32) (m : gM) : Option (Unit × gM) :=
  gCall (X9_taken m) (fun (r2 : Int32) (m1 : gM) => gAt m1 52 0 r2 (fun (x3 : Int32) => gCall (X9_lineAt x3 m1) (fun (r5 : Int32) (m4 : gM) => gJ0 (fun (m6 : gM) => gJ2 (fun (v7 v8 : Int32) (m9 : gM) => gAt m9 47 0 43 (fun (x10 : Int32) => gPut m9 47 0 43 (x10 + v8) (fun (m11 : gM) => gAt m11 52 0 v7 (fun (x12 : Int32) => gCall (X9_layLine x12 a1 m11) (fun (r14 : Unit) (m13 : gM) => gCall (X9_writeDown a1 r5 v8 0 m13) (fun (r16 : Unit) (m15 : gM) => some ((), m15))))))) (fun (j183 : Int32 → Int32 → gM → Option (Unit × gM)) => gL2 FU (X9_comeIn_b106 j183) r2 0 m6)) (fun (j103 : gM → Option (Unit × gM)) => if r5 = (-1) then (j103 m4) else (gAt m4 52 0 r2 (fun (x36 : Int32) => gCall (X9_at x36 m4) (fun (r38 : Int32) (m37 : gM) => gAt m37 47 0 (r38 + 3) (fun (x39 : Int32) => gLet (3 - x39) (fun (x40 : Int32) => gJ0 (fun (m41 : gM) => gAt m41 52 0 r2 (fun (x42 : Int32) => gCall (X9_goesBack x42 m41) (fun (r44 : Bool) (m43 : gM) => gAt m43 47 0 41 (fun (x45 : Int32) => gPut m43 47 0 41 (x45 + 1) (fun (m46 : gM) => j103 m46))))) (fun (j81 : gM → Option (Unit × gM)) => gL1 FU (X9_comeIn_b44 j81 x40) 0 m37))))))))))
set_option maxRecDepth 100000 in
set_option maxHeartbeats 4000000 in
theorem c_X9_comeIn (a1 : Int32) (m : gM) : gCon eU yX9_comeIn cX9_comeIn 6 none 3 [.inr (9, 0), .inl a1] m (X9_comeIn a1 m) := by
  refine gCon.of (lv := [some (.inr (9, 0)), some (.inl a1), none, none, none, none]) (by decide +kernel) (Nat.le_of_ble_eq_true rfl) rfl (fun X C => ?_)
  unfold X9_comeIn
  refine r_aload_n C dX9_comeIn_0 rfl rfl ?_
  refine r_invI (t := 9) (kb := 0) (As := []) (st := []) C il_X9_180 co_X9_taken (by decide) rfl (c_X9_taken m) (by decide) (by decide) rfl rfl (Nat.le_of_ble_eq_true rfl) dX9_comeIn_1 (fun r2 m1 => ?_)
  refine r_istore_n (lv' := [some (.inr (9, 0)), some (.inl a1), some (.inl r2), none, none, none]) C dX9_comeIn_4 rfl (by decide) rfl ?_
  refine r_aload_n C dX9_comeIn_5 rfl rfl ?_
  refine r_aload_n C dX9_comeIn_6 rfl rfl ?_
  refine r_get (v := .inr (52, 0)) C fl_X9_32 dX9_comeIn_7 rfl ?_
  refine r_iload_n C dX9_comeIn_10 rfl rfl ?_
  refine r_iald C rfl dX9_comeIn_11 (fun x3 => ?_)
  refine r_invI (t := 9) (kb := 0) (As := [.inl x3]) (st := []) C il_X9_102 co_X9_lineAt (by decide) rfl (c_X9_lineAt x3 m1) (by decide) (by decide) rfl rfl (Nat.le_of_ble_eq_true rfl) dX9_comeIn_12 (fun r5 m4 => ?_)
  refine r_istore_n (lv' := [some (.inr (9, 0)), some (.inl a1), some (.inl r2), some (.inl r5), none, none]) C dX9_comeIn_15 rfl (by decide) rfl ?_
  refine r_iload_n C dX9_comeIn_16 rfl rfl ?_
  refine r_iconst (v := (-1)) C dX9_comeIn_17 (by decide) ?_
  refine r_j0 103 [some (.inr (9, 0)), some (.inl a1), some (.inl r2), some (.inl r5), none, none] [] (fun m6 => ?_) (fun j103 hj103 => ?_)
  · refine r_iconst (v := 0) C dX9_comeIn_103 (by decide) ?_
    refine r_istore (lv' := [some (.inr (9, 0)), some (.inl a1), some (.inl r2), some (.inl r5), some (.inl 0), none]) C dX9_comeIn_104 (by decide) rfl ?_
    refine r_j2 183 (fun v7 v8 => [some (.inr (9, 0)), some (.inl a1), some (.inl v7), some (.inl r5), some (.inl v8), none]) (fun v7 v8 => []) (fun v7 v8 m9 => ?_) (fun j183 hj183 => ?_)
    · refine r_aload_n C dX9_comeIn_183 rfl rfl ?_
      refine r_get (v := .inr (47, 0)) C fl_X9_7 dX9_comeIn_184 rfl ?_
      refine r_bipush (v := 43) C dX9_comeIn_187 (by decide) ?_
      refine r_dup2 C dX9_comeIn_189 ?_
      refine r_iald C rfl dX9_comeIn_190 (fun x10 => ?_)
      refine r_iload C dX9_comeIn_191 rfl ?_
      refine r_iadd C dX9_comeIn_193 ?_
      refine r_iast C rfl dX9_comeIn_194 (fun m11 => ?_)
      refine r_aload_n C dX9_comeIn_195 rfl rfl ?_
      refine r_aload_n C dX9_comeIn_196 rfl rfl ?_
      refine r_get (v := .inr (52, 0)) C fl_X9_32 dX9_comeIn_197 rfl ?_
      refine r_iload_n C dX9_comeIn_200 rfl rfl ?_
      refine r_iald C rfl dX9_comeIn_201 (fun x12 => ?_)
      refine r_iload_n C dX9_comeIn_202 rfl rfl ?_
      refine r_invU (t := 9) (kb := 0) (As := [.inl x12, .inl a1]) (st := []) C il_X9_186 co_X9_layLine (by decide) rfl (c_X9_layLine x12 a1 m11) (by decide) (by decide) rfl rfl (Nat.le_of_ble_eq_true rfl) dX9_comeIn_203 (fun r14 m13 => ?_)
      refine r_aload_n C dX9_comeIn_206 rfl rfl ?_
      refine r_iload_n C dX9_comeIn_207 rfl rfl ?_
      refine r_iload_n C dX9_comeIn_208 rfl rfl ?_
      refine r_iload C dX9_comeIn_209 rfl ?_
      refine r_iconst (v := 0) C dX9_comeIn_211 (by decide) ?_
      refine r_invU (t := 9) (kb := 0) (As := [.inl a1, .inl r5, .inl v8, .inl 0]) (st := []) C il_X9_189 co_X9_writeDown (by decide) rfl (c_X9_writeDown a1 r5 v8 0 m13) (by decide) (by decide) rfl rfl (Nat.le_of_ble_eq_true rfl) dX9_comeIn_212 (fun r16 m15 => ?_)
      exact r_return C dX9_comeIn_215
    refine r_weak (lv' := [some (.inr (9, 0)), some (.inl a1), some (.inl r2), some (.inl r5), some (.inl 0), none]) ⟨rfl, rfl, rfl, rfl, rfl, trivial⟩ ?_
    refine r_l2 (pj := 106) (fun v17 v18 => [some (.inr (9, 0)), some (.inl a1), some (.inl v17), some (.inl r5), some (.inl v18), none]) (fun v17 v18 m19 k106 hk106 => ?_) _ _ _ _
    unfold X9_comeIn_b106
    refine r_aload_n C dX9_comeIn_106 rfl rfl ?_
    refine r_get (v := .inr (53, 0)) C fl_X9_35 dX9_comeIn_107 rfl ?_
    refine r_iload_n C dX9_comeIn_110 rfl rfl ?_
    refine r_iald C rfl dX9_comeIn_111 (fun x20 => ?_)
    refine r_iconst (v := (-1)) C dX9_comeIn_112 (by decide) ?_
    refine r_icmp_eq (tgt := 183) C dX9_comeIn_113 (by decide) ?_ ?_
    · exact r_weak (lv' := [some (.inr (9, 0)), some (.inl a1), some (.inl v17), some (.inl r5), some (.inl v18), none]) ⟨rfl, rfl, rfl, rfl, rfl, trivial⟩ (hj183 _ _ _)
    refine r_iconst (v := 0) C dX9_comeIn_116 (by decide) ?_
    refine r_istore (lv' := [some (.inr (9, 0)), some (.inl a1), some (.inl v17), some (.inl r5), some (.inl v18), some (.inl 0)]) C dX9_comeIn_117 (by decide) rfl ?_
    refine r_j0 170 [some (.inr (9, 0)), some (.inl a1), some (.inl v17), some (.inl r5), some (.inl v18), none] [] (fun m21 => ?_) (fun j170 hj170 => ?_)
    · refine r_iinc (v := 1) C dX9_comeIn_170 (by decide) rfl (by decide) (fun x22 => ?_)
      show gw X eU _ [some (.inr (9, 0)), some (.inl a1), some (.inl v17), some (.inl r5), some (.inl x22), none] _ _ _
      refine r_aload_n C dX9_comeIn_173 rfl rfl ?_
      refine r_get (v := .inr (53, 0)) C fl_X9_35 dX9_comeIn_174 rfl ?_
      refine r_iload_n C dX9_comeIn_177 rfl rfl ?_
      refine r_iald C rfl dX9_comeIn_178 (fun x23 => ?_)
      refine r_istore_n (lv' := [some (.inr (9, 0)), some (.inl a1), some (.inl x23), some (.inl r5), some (.inl x22), none]) C dX9_comeIn_179 rfl (by decide) rfl ?_
      refine r_goto (tgt := 106) C dX9_comeIn_180 (by decide) ?_
      exact r_weak (lv' := [some (.inr (9, 0)), some (.inl a1), some (.inl x23), some (.inl r5), some (.inl x22), none]) ⟨rfl, rfl, rfl, rfl, rfl, trivial⟩ (hk106 _ _ _)
    refine r_weak (lv' := [some (.inr (9, 0)), some (.inl a1), some (.inl v17), some (.inl r5), some (.inl v18), some (.inl 0)]) ⟨rfl, rfl, rfl, rfl, rfl, rfl, trivial⟩ ?_
    refine r_l1 (pj := 119) (fun v24 => [some (.inr (9, 0)), some (.inl a1), some (.inl v17), some (.inl r5), some (.inl v18), some (.inl v24)]) (fun v24 m25 k119 hk119 => ?_) _ _ _
    unfold X9_comeIn_b119
    refine r_iload C dX9_comeIn_119 rfl ?_
    refine r_iconst (v := 5) C dX9_comeIn_121 (by decide) ?_
    refine r_icmp_ge (tgt := 170) C dX9_comeIn_122 (by decide) ?_ ?_
    · exact r_weak (lv' := [some (.inr (9, 0)), some (.inl a1), some (.inl v17), some (.inl r5), some (.inl v18), none]) ⟨rfl, rfl, rfl, rfl, rfl, trivial⟩ (hj170 _)
    refine r_aload_n C dX9_comeIn_125 rfl rfl ?_
    refine r_get (v := .inr (47, 0)) C fl_X9_7 dX9_comeIn_126 rfl ?_
    refine r_aload_n C dX9_comeIn_129 rfl rfl ?_
    refine r_get (v := .inr (52, 0)) C fl_X9_32 dX9_comeIn_130 rfl ?_
    refine r_iload_n C dX9_comeIn_133 rfl rfl ?_
    refine r_iald C rfl dX9_comeIn_134 (fun x26 => ?_)
    refine r_insI (As := [.inl x26]) (st := [.inr (47, 0)]) C il_X9_96 co_X9_at (c_X9_at x26 m25) (by decide) (by decide) rfl rfl (Nat.le_of_ble_eq_true rfl) dX9_comeIn_135 (fun r28 m27 => ?_)
    refine r_iload C dX9_comeIn_138 rfl ?_
    refine r_iadd C dX9_comeIn_140 ?_
    refine r_aload_n C dX9_comeIn_141 rfl rfl ?_
    refine r_get (v := .inr (47, 0)) C fl_X9_7 dX9_comeIn_142 rfl ?_
    refine r_aload_n C dX9_comeIn_145 rfl rfl ?_
    refine r_get (v := .inr (52, 0)) C fl_X9_32 dX9_comeIn_146 rfl ?_
    refine r_aload_n C dX9_comeIn_149 rfl rfl ?_
    refine r_get (v := .inr (53, 0)) C fl_X9_35 dX9_comeIn_150 rfl ?_
    refine r_iload_n C dX9_comeIn_153 rfl rfl ?_
    refine r_iald C rfl dX9_comeIn_154 (fun x29 => ?_)
    refine r_iald C rfl dX9_comeIn_155 (fun x30 => ?_)
    refine r_insI (As := [.inl x30]) (st := [.inr (47, 0), .inl (r28 + v24), .inr (47, 0)]) C il_X9_96 co_X9_at (c_X9_at x30 m27) (by decide) (by decide) rfl rfl (Nat.le_of_ble_eq_true rfl) dX9_comeIn_156 (fun r32 m31 => ?_)
    refine r_iload C dX9_comeIn_159 rfl ?_
    refine r_iadd C dX9_comeIn_161 ?_
    refine r_iald C rfl dX9_comeIn_162 (fun x33 => ?_)
    refine r_iast C rfl dX9_comeIn_163 (fun m34 => ?_)
    refine r_iinc (v := 1) C dX9_comeIn_164 (by decide) rfl (by decide) (fun x35 => ?_)
    show gw X eU _ [some (.inr (9, 0)), some (.inl a1), some (.inl v17), some (.inl r5), some (.inl v18), some (.inl x35)] _ _ _
    refine r_goto (tgt := 119) C dX9_comeIn_167 (by decide) ?_
    exact r_weak (lv' := [some (.inr (9, 0)), some (.inl a1), some (.inl v17), some (.inl r5), some (.inl v18), some (.inl x35)]) ⟨rfl, rfl, rfl, rfl, rfl, rfl, trivial⟩ (hk119 _ _)
  refine r_icmp_eq (tgt := 103) C dX9_comeIn_18 (by decide) ?_ ?_
  · exact r_weak (lv' := [some (.inr (9, 0)), some (.inl a1), some (.inl r2), some (.inl r5), none, none]) ⟨rfl, rfl, rfl, rfl, trivial⟩ (hj103 _)
  refine r_iconst (v := 3) C dX9_comeIn_21 (by decide) ?_
  refine r_aload_n C dX9_comeIn_22 rfl rfl ?_
  refine r_get (v := .inr (47, 0)) C fl_X9_7 dX9_comeIn_23 rfl ?_
  refine r_aload_n C dX9_comeIn_26 rfl rfl ?_
  refine r_get (v := .inr (52, 0)) C fl_X9_32 dX9_comeIn_27 rfl ?_
  refine r_iload_n C dX9_comeIn_30 rfl rfl ?_
  refine r_iald C rfl dX9_comeIn_31 (fun x36 => ?_)
  refine r_insI (As := [.inl x36]) (st := [.inr (47, 0), .inl 3]) C il_X9_96 co_X9_at (c_X9_at x36 m4) (by decide) (by decide) rfl rfl (Nat.le_of_ble_eq_true rfl) dX9_comeIn_32 (fun r38 m37 => ?_)
  refine r_iconst (v := 3) C dX9_comeIn_35 (by decide) ?_
  refine r_iadd C dX9_comeIn_36 ?_
  refine r_iald C rfl dX9_comeIn_37 (fun x39 => ?_)
  refine r_isub C dX9_comeIn_38 ?_
  refine r_let (fun x40 => ?_)
  refine r_istore (lv' := [some (.inr (9, 0)), some (.inl a1), some (.inl r2), some (.inl r5), some (.inl x40), none]) C dX9_comeIn_39 (by decide) rfl ?_
  refine r_iconst (v := 0) C dX9_comeIn_41 (by decide) ?_
  refine r_istore (lv' := [some (.inr (9, 0)), some (.inl a1), some (.inl r2), some (.inl r5), some (.inl x40), some (.inl 0)]) C dX9_comeIn_42 (by decide) rfl ?_
  refine r_j0 81 [some (.inr (9, 0)), some (.inl a1), some (.inl r2), some (.inl r5), none, none] [] (fun m41 => ?_) (fun j81 hj81 => ?_)
  · refine r_aload_n C dX9_comeIn_81 rfl rfl ?_
    refine r_aload_n C dX9_comeIn_82 rfl rfl ?_
    refine r_get (v := .inr (52, 0)) C fl_X9_32 dX9_comeIn_83 rfl ?_
    refine r_iload_n C dX9_comeIn_86 rfl rfl ?_
    refine r_iald C rfl dX9_comeIn_87 (fun x42 => ?_)
    refine r_invB (t := 9) (kb := 0) (As := [.inl x42]) (st := []) C il_X9_183 co_X9_goesBack (by decide) rfl (c_X9_goesBack x42 m41) (by decide) (by decide) rfl rfl (Nat.le_of_ble_eq_true rfl) dX9_comeIn_88 (fun r44 m43 => ?_)
    refine r_pop C dX9_comeIn_91 ?_
    refine r_aload_n C dX9_comeIn_92 rfl rfl ?_
    refine r_get (v := .inr (47, 0)) C fl_X9_7 dX9_comeIn_93 rfl ?_
    refine r_bipush (v := 41) C dX9_comeIn_96 (by decide) ?_
    refine r_dup2 C dX9_comeIn_98 ?_
    refine r_iald C rfl dX9_comeIn_99 (fun x45 => ?_)
    refine r_iconst (v := 1) C dX9_comeIn_100 (by decide) ?_
    refine r_iadd C dX9_comeIn_101 ?_
    refine r_iast C rfl dX9_comeIn_102 (fun m46 => ?_)
    exact r_weak (lv' := [some (.inr (9, 0)), some (.inl a1), some (.inl r2), some (.inl r5), none, none]) ⟨rfl, rfl, rfl, rfl, trivial⟩ (hj103 _)
  refine r_weak (lv' := [some (.inr (9, 0)), some (.inl a1), some (.inl r2), some (.inl r5), some (.inl x40), some (.inl 0)]) ⟨rfl, rfl, rfl, rfl, rfl, rfl, trivial⟩ ?_
  refine r_l1 (pj := 44) (fun v47 => [some (.inr (9, 0)), some (.inl a1), some (.inl r2), some (.inl r5), some (.inl x40), some (.inl v47)]) (fun v47 m48 k44 hk44 => ?_) _ _ _
  unfold X9_comeIn_b44
  refine r_iload C dX9_comeIn_44 rfl ?_
  refine r_aload_n C dX9_comeIn_46 rfl rfl ?_
  refine r_get (v := .inl (m48 9 0 18)) C fl_X9_171 dX9_comeIn_47 rfl ?_
  refine r_icmp_ge (tgt := 81) C dX9_comeIn_50 (by decide) ?_ ?_
  · exact r_weak (lv' := [some (.inr (9, 0)), some (.inl a1), some (.inl r2), some (.inl r5), none, none]) ⟨rfl, rfl, rfl, rfl, trivial⟩ (hj81 _)
  refine r_aload_n C dX9_comeIn_53 rfl rfl ?_
  refine r_get (v := .inr (47, 0)) C fl_X9_7 dX9_comeIn_54 rfl ?_
  refine r_aload_n C dX9_comeIn_57 rfl rfl ?_
  refine r_get (v := .inr (52, 0)) C fl_X9_32 dX9_comeIn_58 rfl ?_
  refine r_iload C dX9_comeIn_61 rfl ?_
  refine r_iald C rfl dX9_comeIn_63 (fun x49 => ?_)
  refine r_insI (As := [.inl x49]) (st := [.inr (47, 0)]) C il_X9_96 co_X9_at (c_X9_at x49 m48) (by decide) (by decide) rfl rfl (Nat.le_of_ble_eq_true rfl) dX9_comeIn_64 (fun r51 m50 => ?_)
  refine r_iconst (v := 3) C dX9_comeIn_67 (by decide) ?_
  refine r_iadd C dX9_comeIn_68 ?_
  refine r_let (fun x52 => ?_)
  refine r_dup2 C dX9_comeIn_69 ?_
  refine r_iald C rfl dX9_comeIn_70 (fun x53 => ?_)
  refine r_iload C dX9_comeIn_71 rfl ?_
  refine r_iadd C dX9_comeIn_73 ?_
  refine r_iast C rfl dX9_comeIn_74 (fun m54 => ?_)
  refine r_iinc (v := 1) C dX9_comeIn_75 (by decide) rfl (by decide) (fun x55 => ?_)
  show gw X eU _ [some (.inr (9, 0)), some (.inl a1), some (.inl r2), some (.inl r5), some (.inl x40), some (.inl x55)] _ _ _
  refine r_goto (tgt := 44) C dX9_comeIn_78 (by decide) ?_
  exact r_weak (lv' := [some (.inr (9, 0)), some (.inl a1), some (.inl r2), some (.inl r5), some (.inl x40), some (.inl x55)]) ⟨rfl, rfl, rfl, rfl, rfl, rfl, trivial⟩ (hk44 _ _)
