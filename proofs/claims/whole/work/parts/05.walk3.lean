theorem dX7_inSlot_0 : decode cX7_inSlot 0 = .ok (.iload_n 1, 1) := by decide +kernel
theorem dX7_inSlot_1 : decode cX7_inSlot 1 = .ok (.ifCond .lt 21, 3) := by decide +kernel
theorem dX7_inSlot_4 : decode cX7_inSlot 4 = .ok (.iload_n 1, 1) := by decide +kernel
theorem dX7_inSlot_5 : decode cX7_inSlot 5 = .ok (.aload_n 0, 1) := by decide +kernel
theorem dX7_inSlot_6 : decode cX7_inSlot 6 = .ok (.getfield 15, 3) := by decide +kernel
theorem dX7_inSlot_9 : decode cX7_inSlot 9 = .ok (.arraylength, 1) := by decide +kernel
theorem dX7_inSlot_10 : decode cX7_inSlot 10 = .ok (.if_icmp .ge 12, 3) := by decide +kernel
theorem dX7_inSlot_13 : decode cX7_inSlot 13 = .ok (.aload_n 0, 1) := by decide +kernel
theorem dX7_inSlot_14 : decode cX7_inSlot 14 = .ok (.getfield 15, 3) := by decide +kernel
theorem dX7_inSlot_17 : decode cX7_inSlot 17 = .ok (.iload_n 1, 1) := by decide +kernel
theorem dX7_inSlot_18 : decode cX7_inSlot 18 = .ok (.iaload, 1) := by decide +kernel
theorem dX7_inSlot_19 : decode cX7_inSlot 19 = .ok (.goto 4, 3) := by decide +kernel
theorem dX7_inSlot_22 : decode cX7_inSlot 22 = .ok (.iconst 0, 1) := by decide +kernel
theorem dX7_inSlot_23 : decode cX7_inSlot 23 = .ok (.ireturn, 1) := by decide +kernel
def X7_inSlot (a1 : Int32) (m : gM) : Option (Int32 × gM) :=
  if a1 < 0 then (some (0, m)) else (if 16 ≤ a1 then (some (0, m)) else (gAt m 44 0 a1 (fun (x1 : Int32) => some (x1, m))))
set_option maxRecDepth 100000 in
set_option maxHeartbeats 4000000 in
theorem c_X7_inSlot (a1 : Int32) (m : gM) : gCon eI yX7_inSlot cX7_inSlot 2 (some .int) 0 [.inr (7, 0), .inl a1] m (X7_inSlot a1 m) := by
  refine gCon.of (lv := [some (.inr (7, 0)), some (.inl a1)]) (by decide +kernel) (Nat.le_of_ble_eq_true rfl) rfl (fun X C => ?_)
  unfold X7_inSlot
  refine r_iload_n C dX7_inSlot_0 rfl rfl ?_
  refine r_if_lt (tgt := 22) C dX7_inSlot_1 (by decide) ?_ ?_
  · refine r_iconst (v := 0) C dX7_inSlot_22 (by decide) ?_
    exact r_ireturn C dX7_inSlot_23
  refine r_iload_n C dX7_inSlot_4 rfl rfl ?_
  refine r_aload_n C dX7_inSlot_5 rfl rfl ?_
  refine r_get (v := .inr (44, 0)) C fl_X7_15 dX7_inSlot_6 rfl ?_
  refine r_alen (v := 16) C (by decide) rfl dX7_inSlot_9 ?_
  refine r_icmp_ge (tgt := 22) C dX7_inSlot_10 (by decide) ?_ ?_
  · refine r_iconst (v := 0) C dX7_inSlot_22 (by decide) ?_
    exact r_ireturn C dX7_inSlot_23
  refine r_aload_n C dX7_inSlot_13 rfl rfl ?_
  refine r_get (v := .inr (44, 0)) C fl_X7_15 dX7_inSlot_14 rfl ?_
  refine r_iload_n C dX7_inSlot_17 rfl rfl ?_
  refine r_iald C rfl dX7_inSlot_18 (fun x1 => ?_)
  refine r_goto (tgt := 23) C dX7_inSlot_19 (by decide) ?_
  exact r_ireturn C dX7_inSlot_23
theorem dX7_isEven_0 : decode cX7_isEven 0 = .ok (.iconst 0, 1) := by decide +kernel
theorem dX7_isEven_1 : decode cX7_isEven 1 = .ok (.istore 4, 2) := by decide +kernel
theorem dX7_isEven_3 : decode cX7_isEven 3 = .ok (.iconst 0, 1) := by decide +kernel
theorem dX7_isEven_4 : decode cX7_isEven 4 = .ok (.istore 5, 2) := by decide +kernel
theorem dX7_isEven_6 : decode cX7_isEven 6 = .ok (.iload 5, 2) := by decide +kernel
theorem dX7_isEven_8 : decode cX7_isEven 8 = .ok (.aload_n 1, 1) := by decide +kernel
theorem dX7_isEven_9 : decode cX7_isEven 9 = .ok (.invokevirtual 60, 3) := by decide +kernel
theorem dX7_isEven_12 : decode cX7_isEven 12 = .ok (.if_icmp .ge 43, 3) := by decide +kernel
theorem dX7_isEven_15 : decode cX7_isEven 15 = .ok (.iconst 1, 1) := by decide +kernel
theorem dX7_isEven_16 : decode cX7_isEven 16 = .ok (.aload_n 1, 1) := by decide +kernel
theorem dX7_isEven_17 : decode cX7_isEven 17 = .ok (.iload 5, 2) := by decide +kernel
theorem dX7_isEven_19 : decode cX7_isEven 19 = .ok (.iload_n 3, 1) := by decide +kernel
theorem dX7_isEven_20 : decode cX7_isEven 20 = .ok (.imul, 1) := by decide +kernel
theorem dX7_isEven_21 : decode cX7_isEven 21 = .ok (.sipush 1024, 3) := by decide +kernel
theorem dX7_isEven_24 : decode cX7_isEven 24 = .ok (.irem, 1) := by decide +kernel
theorem dX7_isEven_25 : decode cX7_isEven 25 = .ok (.iload_n 2, 1) := by decide +kernel
theorem dX7_isEven_26 : decode cX7_isEven 26 = .ok (.invokevirtual 52, 3) := by decide +kernel
theorem dX7_isEven_29 : decode cX7_isEven 29 = .ok (.ishl, 1) := by decide +kernel
theorem dX7_isEven_30 : decode cX7_isEven 30 = .ok (.istore 6, 2) := by decide +kernel
theorem dX7_isEven_32 : decode cX7_isEven 32 = .ok (.iload 4, 2) := by decide +kernel
theorem dX7_isEven_34 : decode cX7_isEven 34 = .ok (.iload 6, 2) := by decide +kernel
theorem dX7_isEven_36 : decode cX7_isEven 36 = .ok (.iand, 1) := by decide +kernel
theorem dX7_isEven_37 : decode cX7_isEven 37 = .ok (.ifCond .eq 5, 3) := by decide +kernel
theorem dX7_isEven_40 : decode cX7_isEven 40 = .ok (.iconst 0, 1) := by decide +kernel
theorem dX7_isEven_41 : decode cX7_isEven 41 = .ok (.ireturn, 1) := by decide +kernel
theorem dX7_isEven_42 : decode cX7_isEven 42 = .ok (.iload 4, 2) := by decide +kernel
theorem dX7_isEven_44 : decode cX7_isEven 44 = .ok (.iload 6, 2) := by decide +kernel
theorem dX7_isEven_46 : decode cX7_isEven 46 = .ok (.ior, 1) := by decide +kernel
theorem dX7_isEven_47 : decode cX7_isEven 47 = .ok (.istore 4, 2) := by decide +kernel
theorem dX7_isEven_49 : decode cX7_isEven 49 = .ok (.iinc 5 1, 3) := by decide +kernel
theorem dX7_isEven_52 : decode cX7_isEven 52 = .ok (.goto (-46), 3) := by decide +kernel
theorem dX7_isEven_55 : decode cX7_isEven 55 = .ok (.iconst 1, 1) := by decide +kernel
theorem dX7_isEven_56 : decode cX7_isEven 56 = .ok (.ireturn, 1) := by decide +kernel
def X7_isEven_b6 (o1 : Nat) (a2 : Int32) (a3 : Int32) (v1 v2 : Int32) (m3 : gM) (k6 : Int32 → Int32 → gM → Option (Bool × gM)) : Option (Bool × gM) :=
  gCall (X3_slotsOfWay o1 m3) (fun (r5 : Int32) (m4 : gM) => if r5 ≤ v2 then (some (true, m4)) else (gCall (X3_indexOf o1 (gRem (v2 * a3) 1024) a2 m4) (fun (r7 : Int32) (m6 : gM) => gLet (1 <<< (r7 &&& 31)) (fun (x8 : Int32) => if (v1 &&& x8) = 0 then (gLet (v1 ||| x8) (fun (x9 : Int32) => gLet (v2 + 1) (fun (x10 : Int32) => k6 x9 x10 m6))) else (some (false, m6))))))
def X7_isEven (o1 : Nat) (a2 : Int32) (a3 : Int32) (m : gM) : Option (Bool × gM) :=
  gL2 FU (X7_isEven_b6 o1 a2 a3) 0 0 m
set_option maxRecDepth 100000 in
set_option maxHeartbeats 4000000 in
theorem c_X7_isEven (o1 : Nat) (a2 : Int32) (a3 : Int32) (m : gM) : gCon eB yX7_isEven cX7_isEven 7 (some .boolean) 2 [.inr (7, 0), .inr (3, o1), .inl a2, .inl a3] m (X7_isEven o1 a2 a3 m) := by
  refine gCon.of (lv := [some (.inr (7, 0)), some (.inr (3, o1)), some (.inl a2), some (.inl a3), none, none, none]) (by decide +kernel) (Nat.le_of_ble_eq_true rfl) rfl (fun X C => ?_)
  unfold X7_isEven
  refine r_iconst (v := 0) C dX7_isEven_0 (by decide) ?_
  refine r_istore (lv' := [some (.inr (7, 0)), some (.inr (3, o1)), some (.inl a2), some (.inl a3), some (.inl 0), none, none]) C dX7_isEven_1 (by decide) rfl ?_
  refine r_iconst (v := 0) C dX7_isEven_3 (by decide) ?_
  refine r_istore (lv' := [some (.inr (7, 0)), some (.inr (3, o1)), some (.inl a2), some (.inl a3), some (.inl 0), some (.inl 0), none]) C dX7_isEven_4 (by decide) rfl ?_
  refine r_weak (lv' := [none, some (.inr (3, o1)), some (.inl a2), some (.inl a3), some (.inl 0), some (.inl 0), none]) ⟨rfl, rfl, rfl, rfl, rfl, trivial⟩ ?_
  refine r_l2 (pj := 6) (fun v1 v2 => [none, some (.inr (3, o1)), some (.inl a2), some (.inl a3), some (.inl v1), some (.inl v2), none]) (fun v1 v2 m3 k6 hk6 => ?_) _ _ _ _
  unfold X7_isEven_b6
  refine r_iload C dX7_isEven_6 rfl ?_
  refine r_aload_n C dX7_isEven_8 rfl rfl ?_
  refine r_invI (t := 3) (kb := o1) (As := []) (st := [.inl v2]) C il_X7_60 co_X3_slotsOfWay (by decide) rfl (c_X3_slotsOfWay o1 m3) (by decide) (by decide) rfl rfl (Nat.le_of_ble_eq_true rfl) dX7_isEven_9 (fun r5 m4 => ?_)
  refine r_icmp_ge (tgt := 55) C dX7_isEven_12 (by decide) ?_ ?_
  · refine r_iconst (v := 1) C dX7_isEven_55 (by decide) ?_
    exact r_zret1 C dX7_isEven_56
  refine r_iconst (v := 1) C dX7_isEven_15 (by decide) ?_
  refine r_aload_n C dX7_isEven_16 rfl rfl ?_
  refine r_iload C dX7_isEven_17 rfl ?_
  refine r_iload_n C dX7_isEven_19 rfl rfl ?_
  refine r_imul C dX7_isEven_20 ?_
  refine r_sipush (v := 1024) C dX7_isEven_21 (by decide) ?_
  refine r_irem C dX7_isEven_24 (by decide) ?_
  refine r_iload_n C dX7_isEven_25 rfl rfl ?_
  refine r_invI (t := 3) (kb := o1) (As := [.inl (gRem (v2 * a3) 1024), .inl a2]) (st := [.inl 1]) C il_X7_52 co_X3_indexOf (by decide) rfl (c_X3_indexOf o1 (gRem (v2 * a3) 1024) a2 m4) (by decide) (by decide) rfl rfl (Nat.le_of_ble_eq_true rfl) dX7_isEven_26 (fun r7 m6 => ?_)
  refine r_ishl C dX7_isEven_29 ?_
  refine r_let (fun x8 => ?_)
  refine r_istore (lv' := [none, some (.inr (3, o1)), some (.inl a2), some (.inl a3), some (.inl v1), some (.inl v2), some (.inl x8)]) C dX7_isEven_30 (by decide) rfl ?_
  refine r_iload C dX7_isEven_32 rfl ?_
  refine r_iload C dX7_isEven_34 rfl ?_
  refine r_iand C dX7_isEven_36 ?_
  refine r_if_eq (tgt := 42) C dX7_isEven_37 (by decide) ?_ ?_
  · refine r_iload C dX7_isEven_42 rfl ?_
    refine r_iload C dX7_isEven_44 rfl ?_
    refine r_ior C dX7_isEven_46 ?_
    refine r_let (fun x9 => ?_)
    refine r_istore (lv' := [none, some (.inr (3, o1)), some (.inl a2), some (.inl a3), some (.inl x9), some (.inl v2), some (.inl x8)]) C dX7_isEven_47 (by decide) rfl ?_
    refine r_iinc (v := 1) C dX7_isEven_49 (by decide) rfl (by decide) (fun x10 => ?_)
    show gw X eB _ [none, some (.inr (3, o1)), some (.inl a2), some (.inl a3), some (.inl x9), some (.inl x10), some (.inl x8)] _ _ _
    refine r_goto (tgt := 6) C dX7_isEven_52 (by decide) ?_
    exact r_weak (lv' := [none, some (.inr (3, o1)), some (.inl a2), some (.inl a3), some (.inl x9), some (.inl x10), none]) ⟨rfl, rfl, rfl, rfl, rfl, trivial⟩ (hk6 _ _ _)
  refine r_iconst (v := 0) C dX7_isEven_40 (by decide) ?_
  exact r_zret0 C dX7_isEven_41
theorem dX7_isEvenInAll_0 : decode cX7_isEvenInAll 0 = .ok (.iconst 0, 1) := by decide +kernel
theorem dX7_isEvenInAll_1 : decode cX7_isEvenInAll 1 = .ok (.istore_n 3, 1) := by decide +kernel
theorem dX7_isEvenInAll_2 : decode cX7_isEvenInAll 2 = .ok (.iload_n 3, 1) := by decide +kernel
theorem dX7_isEvenInAll_3 : decode cX7_isEvenInAll 3 = .ok (.aload_n 1, 1) := by decide +kernel
theorem dX7_isEvenInAll_4 : decode cX7_isEvenInAll 4 = .ok (.getfield 18, 3) := by decide +kernel
theorem dX7_isEvenInAll_7 : decode cX7_isEvenInAll 7 = .ok (.if_icmp .ge 21, 3) := by decide +kernel
theorem dX7_isEvenInAll_10 : decode cX7_isEvenInAll 10 = .ok (.aload_n 0, 1) := by decide +kernel
theorem dX7_isEvenInAll_11 : decode cX7_isEvenInAll 11 = .ok (.aload_n 1, 1) := by decide +kernel
theorem dX7_isEvenInAll_12 : decode cX7_isEvenInAll 12 = .ok (.iload_n 3, 1) := by decide +kernel
theorem dX7_isEvenInAll_13 : decode cX7_isEvenInAll 13 = .ok (.iload_n 2, 1) := by decide +kernel
theorem dX7_isEvenInAll_14 : decode cX7_isEvenInAll 14 = .ok (.invokevirtual 64, 3) := by decide +kernel
theorem dX7_isEvenInAll_17 : decode cX7_isEvenInAll 17 = .ok (.ifCond .ne 5, 3) := by decide +kernel
theorem dX7_isEvenInAll_20 : decode cX7_isEvenInAll 20 = .ok (.iconst 0, 1) := by decide +kernel
theorem dX7_isEvenInAll_21 : decode cX7_isEvenInAll 21 = .ok (.ireturn, 1) := by decide +kernel
theorem dX7_isEvenInAll_22 : decode cX7_isEvenInAll 22 = .ok (.iinc 3 1, 3) := by decide +kernel
theorem dX7_isEvenInAll_25 : decode cX7_isEvenInAll 25 = .ok (.goto (-23), 3) := by decide +kernel
theorem dX7_isEvenInAll_28 : decode cX7_isEvenInAll 28 = .ok (.iconst 1, 1) := by decide +kernel
theorem dX7_isEvenInAll_29 : decode cX7_isEvenInAll 29 = .ok (.ireturn, 1) := by decide +kernel
def X7_isEvenInAll_b2 (o1 : Nat) (a2 : Int32) (v1 : Int32) (m2 : gM) (k2 : Int32 → gM → Option (Bool × gM)) : Option (Bool × gM) :=
  if (m2 3 o1 0) ≤ v1 then (some (true, m2)) else (gCall (X7_isEven o1 v1 a2 m2) (fun (r4 : Bool) (m3 : gM) => if r4 = true then (gLet (v1 + 1) (fun (x5 : Int32) => k2 x5 m3)) else (some (false, m3))))
def X7_isEvenInAll (o1 : Nat) (a2 : Int32) (m : gM) : Option (Bool × gM) :=
  gL1 FU (X7_isEvenInAll_b2 o1 a2) 0 m
set_option maxRecDepth 100000 in
set_option maxHeartbeats 4000000 in
theorem c_X7_isEvenInAll (o1 : Nat) (a2 : Int32) (m : gM) : gCon eB yX7_isEvenInAll cX7_isEvenInAll 4 (some .boolean) 3 [.inr (7, 0), .inr (3, o1), .inl a2] m (X7_isEvenInAll o1 a2 m) := by
  refine gCon.of (lv := [some (.inr (7, 0)), some (.inr (3, o1)), some (.inl a2), none]) (by decide +kernel) (Nat.le_of_ble_eq_true rfl) rfl (fun X C => ?_)
  unfold X7_isEvenInAll
  refine r_iconst (v := 0) C dX7_isEvenInAll_0 (by decide) ?_
  refine r_istore_n (lv' := [some (.inr (7, 0)), some (.inr (3, o1)), some (.inl a2), some (.inl 0)]) C dX7_isEvenInAll_1 rfl (by decide) rfl ?_
  refine r_weak (lv' := [some (.inr (7, 0)), some (.inr (3, o1)), some (.inl a2), some (.inl 0)]) ⟨rfl, rfl, rfl, rfl, trivial⟩ ?_
  refine r_l1 (pj := 2) (fun v1 => [some (.inr (7, 0)), some (.inr (3, o1)), some (.inl a2), some (.inl v1)]) (fun v1 m2 k2 hk2 => ?_) _ _ _
  unfold X7_isEvenInAll_b2
  refine r_iload_n C dX7_isEvenInAll_2 rfl rfl ?_
  refine r_aload_n C dX7_isEvenInAll_3 rfl rfl ?_
  refine r_get (v := .inl (m2 3 o1 0)) C fl_X7_18 dX7_isEvenInAll_4 rfl ?_
  refine r_icmp_ge (tgt := 28) C dX7_isEvenInAll_7 (by decide) ?_ ?_
  · refine r_iconst (v := 1) C dX7_isEvenInAll_28 (by decide) ?_
    exact r_zret1 C dX7_isEvenInAll_29
  refine r_aload_n C dX7_isEvenInAll_10 rfl rfl ?_
  refine r_aload_n C dX7_isEvenInAll_11 rfl rfl ?_
  refine r_iload_n C dX7_isEvenInAll_12 rfl rfl ?_
  refine r_iload_n C dX7_isEvenInAll_13 rfl rfl ?_
  refine r_invB (t := 7) (kb := 0) (As := [.inr (3, o1), .inl v1, .inl a2]) (st := []) C il_X7_64 co_X7_isEven (by decide) rfl (c_X7_isEven o1 v1 a2 m2) (by decide) (by decide) rfl rfl (Nat.le_of_ble_eq_true rfl) dX7_isEvenInAll_14 (fun r4 m3 => ?_)
  refine r_ifneB (tgt := 22) C dX7_isEvenInAll_17 (by decide) ?_ ?_
  · refine r_iinc (v := 1) C dX7_isEvenInAll_22 (by decide) rfl (by decide) (fun x5 => ?_)
    show gw X eB _ [some (.inr (7, 0)), some (.inr (3, o1)), some (.inl a2), some (.inl x5)] _ _ _
    refine r_goto (tgt := 2) C dX7_isEvenInAll_25 (by decide) ?_
    exact r_weak (lv' := [some (.inr (7, 0)), some (.inr (3, o1)), some (.inl a2), some (.inl x5)]) ⟨rfl, rfl, rfl, rfl, trivial⟩ (hk2 _ _)
  refine r_iconst (v := 0) C dX7_isEvenInAll_20 (by decide) ?_
  exact r_zret0 C dX7_isEvenInAll_21
theorem dX7_evenStrides_0 : decode cX7_evenStrides 0 = .ok (.iconst 0, 1) := by decide +kernel
theorem dX7_evenStrides_1 : decode cX7_evenStrides 1 = .ok (.istore_n 3, 1) := by decide +kernel
theorem dX7_evenStrides_2 : decode cX7_evenStrides 2 = .ok (.iconst 1, 1) := by decide +kernel
theorem dX7_evenStrides_3 : decode cX7_evenStrides 3 = .ok (.istore 4, 2) := by decide +kernel
theorem dX7_evenStrides_5 : decode cX7_evenStrides 5 = .ok (.iload 4, 2) := by decide +kernel
theorem dX7_evenStrides_7 : decode cX7_evenStrides 7 = .ok (.bipush 63, 2) := by decide +kernel
theorem dX7_evenStrides_9 : decode cX7_evenStrides 9 = .ok (.if_icmp .gt 23, 3) := by decide +kernel
theorem dX7_evenStrides_12 : decode cX7_evenStrides 12 = .ok (.aload_n 0, 1) := by decide +kernel
theorem dX7_evenStrides_13 : decode cX7_evenStrides 13 = .ok (.aload_n 1, 1) := by decide +kernel
theorem dX7_evenStrides_14 : decode cX7_evenStrides 14 = .ok (.iload_n 2, 1) := by decide +kernel
theorem dX7_evenStrides_15 : decode cX7_evenStrides 15 = .ok (.iload 4, 2) := by decide +kernel
theorem dX7_evenStrides_17 : decode cX7_evenStrides 17 = .ok (.invokevirtual 64, 3) := by decide +kernel
theorem dX7_evenStrides_20 : decode cX7_evenStrides 20 = .ok (.ifCond .eq 6, 3) := by decide +kernel
theorem dX7_evenStrides_23 : decode cX7_evenStrides 23 = .ok (.iinc 3 1, 3) := by decide +kernel
theorem dX7_evenStrides_26 : decode cX7_evenStrides 26 = .ok (.iinc 4 1, 3) := by decide +kernel
theorem dX7_evenStrides_29 : decode cX7_evenStrides 29 = .ok (.goto (-24), 3) := by decide +kernel
theorem dX7_evenStrides_32 : decode cX7_evenStrides 32 = .ok (.iload_n 3, 1) := by decide +kernel
theorem dX7_evenStrides_33 : decode cX7_evenStrides 33 = .ok (.ireturn, 1) := by decide +kernel
def X7_evenStrides_b5 (o1 : Nat) (a2 : Int32) (v1 v2 : Int32) (m3 : gM) (k5 : Int32 → Int32 → gM → Option (Int32 × gM)) : Option (Int32 × gM) :=
  if 63 < v2 then (some (v1, m3)) else (gCall (X7_isEven o1 a2 v2 m3) (fun (r5 : Bool) (m4 : gM) => if r5 = true then (gLet (v1 + 1) (fun (x7 : Int32) => gLet (v2 + 1) (fun (x8 : Int32) => k5 x7 x8 m4))) else (gLet (v2 + 1) (fun (x6 : Int32) => k5 v1 x6 m4))))
def X7_evenStrides (o1 : Nat) (a2 : Int32) (m : gM) : Option (Int32 × gM) :=
  gL2 FU (X7_evenStrides_b5 o1 a2) 0 1 m
set_option maxRecDepth 100000 in
set_option maxHeartbeats 4000000 in
theorem c_X7_evenStrides (o1 : Nat) (a2 : Int32) (m : gM) : gCon eI yX7_evenStrides cX7_evenStrides 5 (some .int) 3 [.inr (7, 0), .inr (3, o1), .inl a2] m (X7_evenStrides o1 a2 m) := by
  refine gCon.of (lv := [some (.inr (7, 0)), some (.inr (3, o1)), some (.inl a2), none, none]) (by decide +kernel) (Nat.le_of_ble_eq_true rfl) rfl (fun X C => ?_)
  unfold X7_evenStrides
  refine r_iconst (v := 0) C dX7_evenStrides_0 (by decide) ?_
  refine r_istore_n (lv' := [some (.inr (7, 0)), some (.inr (3, o1)), some (.inl a2), some (.inl 0), none]) C dX7_evenStrides_1 rfl (by decide) rfl ?_
  refine r_iconst (v := 1) C dX7_evenStrides_2 (by decide) ?_
  refine r_istore (lv' := [some (.inr (7, 0)), some (.inr (3, o1)), some (.inl a2), some (.inl 0), some (.inl 1)]) C dX7_evenStrides_3 (by decide) rfl ?_
  refine r_weak (lv' := [some (.inr (7, 0)), some (.inr (3, o1)), some (.inl a2), some (.inl 0), some (.inl 1)]) ⟨rfl, rfl, rfl, rfl, rfl, trivial⟩ ?_
  refine r_l2 (pj := 5) (fun v1 v2 => [some (.inr (7, 0)), some (.inr (3, o1)), some (.inl a2), some (.inl v1), some (.inl v2)]) (fun v1 v2 m3 k5 hk5 => ?_) _ _ _ _
  unfold X7_evenStrides_b5
  refine r_iload C dX7_evenStrides_5 rfl ?_
  refine r_bipush (v := 63) C dX7_evenStrides_7 (by decide) ?_
  refine r_icmp_gt (tgt := 32) C dX7_evenStrides_9 (by decide) ?_ ?_
  · refine r_iload_n C dX7_evenStrides_32 rfl rfl ?_
    exact r_ireturn C dX7_evenStrides_33
  refine r_aload_n C dX7_evenStrides_12 rfl rfl ?_
  refine r_aload_n C dX7_evenStrides_13 rfl rfl ?_
  refine r_iload_n C dX7_evenStrides_14 rfl rfl ?_
  refine r_iload C dX7_evenStrides_15 rfl ?_
  refine r_invB (t := 7) (kb := 0) (As := [.inr (3, o1), .inl a2, .inl v2]) (st := []) C il_X7_64 co_X7_isEven (by decide) rfl (c_X7_isEven o1 a2 v2 m3) (by decide) (by decide) rfl rfl (Nat.le_of_ble_eq_true rfl) dX7_evenStrides_17 (fun r5 m4 => ?_)
  refine r_ifeqB (tgt := 26) C dX7_evenStrides_20 (by decide) ?_ ?_
  · refine r_iinc (v := 1) C dX7_evenStrides_26 (by decide) rfl (by decide) (fun x6 => ?_)
    show gw X eI _ [some (.inr (7, 0)), some (.inr (3, o1)), some (.inl a2), some (.inl v1), some (.inl x6)] _ _ _
    refine r_goto (tgt := 5) C dX7_evenStrides_29 (by decide) ?_
    exact r_weak (lv' := [some (.inr (7, 0)), some (.inr (3, o1)), some (.inl a2), some (.inl v1), some (.inl x6)]) ⟨rfl, rfl, rfl, rfl, rfl, trivial⟩ (hk5 _ _ _)
  refine r_iinc (v := 1) C dX7_evenStrides_23 (by decide) rfl (by decide) (fun x7 => ?_)
  show gw X eI _ [some (.inr (7, 0)), some (.inr (3, o1)), some (.inl a2), some (.inl x7), some (.inl v2)] _ _ _
  refine r_iinc (v := 1) C dX7_evenStrides_26 (by decide) rfl (by decide) (fun x8 => ?_)
  show gw X eI _ [some (.inr (7, 0)), some (.inr (3, o1)), some (.inl a2), some (.inl x7), some (.inl x8)] _ _ _
  refine r_goto (tgt := 5) C dX7_evenStrides_29 (by decide) ?_
  exact r_weak (lv' := [some (.inr (7, 0)), some (.inr (3, o1)), some (.inl a2), some (.inl x7), some (.inl x8)]) ⟨rfl, rfl, rfl, rfl, rfl, trivial⟩ (hk5 _ _ _)
theorem dX7_slotsScattered_0 : decode cX7_slotsScattered 0 = .ok (.aload_n 1, 1) := by decide +kernel
theorem dX7_slotsScattered_1 : decode cX7_slotsScattered 1 = .ok (.iload_n 2, 1) := by decide +kernel
theorem dX7_slotsScattered_2 : decode cX7_slotsScattered 2 = .ok (.iload_n 3, 1) := by decide +kernel
theorem dX7_slotsScattered_3 : decode cX7_slotsScattered 3 = .ok (.invokevirtual 52, 3) := by decide +kernel
theorem dX7_slotsScattered_6 : decode cX7_slotsScattered 6 = .ok (.istore 5, 2) := by decide +kernel
theorem dX7_slotsScattered_8 : decode cX7_slotsScattered 8 = .ok (.aload_n 0, 1) := by decide +kernel
theorem dX7_slotsScattered_9 : decode cX7_slotsScattered 9 = .ok (.getfield 15, 3) := by decide +kernel
theorem dX7_slotsScattered_12 : decode cX7_slotsScattered 12 = .ok (.iconst 0, 1) := by decide +kernel
theorem dX7_slotsScattered_13 : decode cX7_slotsScattered 13 = .ok (.invokestatic 46, 3) := by decide +kernel
theorem dX7_slotsScattered_16 : decode cX7_slotsScattered 16 = .ok (.iconst 0, 1) := by decide +kernel
theorem dX7_slotsScattered_17 : decode cX7_slotsScattered 17 = .ok (.istore 6, 2) := by decide +kernel
theorem dX7_slotsScattered_19 : decode cX7_slotsScattered 19 = .ok (.iload 6, 2) := by decide +kernel
theorem dX7_slotsScattered_21 : decode cX7_slotsScattered 21 = .ok (.sipush 1024, 3) := by decide +kernel
theorem dX7_slotsScattered_24 : decode cX7_slotsScattered 24 = .ok (.if_icmp .ge 38, 3) := by decide +kernel
theorem dX7_slotsScattered_27 : decode cX7_slotsScattered 27 = .ok (.aload_n 1, 1) := by decide +kernel
theorem dX7_slotsScattered_28 : decode cX7_slotsScattered 28 = .ok (.iload 6, 2) := by decide +kernel
theorem dX7_slotsScattered_30 : decode cX7_slotsScattered 30 = .ok (.iload_n 3, 1) := by decide +kernel
theorem dX7_slotsScattered_31 : decode cX7_slotsScattered 31 = .ok (.invokevirtual 52, 3) := by decide +kernel
theorem dX7_slotsScattered_34 : decode cX7_slotsScattered 34 = .ok (.iload 5, 2) := by decide +kernel
theorem dX7_slotsScattered_36 : decode cX7_slotsScattered 36 = .ok (.if_icmp .ne 20, 3) := by decide +kernel
theorem dX7_slotsScattered_39 : decode cX7_slotsScattered 39 = .ok (.aload_n 0, 1) := by decide +kernel
theorem dX7_slotsScattered_40 : decode cX7_slotsScattered 40 = .ok (.getfield 15, 3) := by decide +kernel
theorem dX7_slotsScattered_43 : decode cX7_slotsScattered 43 = .ok (.aload_n 1, 1) := by decide +kernel
theorem dX7_slotsScattered_44 : decode cX7_slotsScattered 44 = .ok (.iload 6, 2) := by decide +kernel
theorem dX7_slotsScattered_46 : decode cX7_slotsScattered 46 = .ok (.iload 4, 2) := by decide +kernel
theorem dX7_slotsScattered_48 : decode cX7_slotsScattered 48 = .ok (.invokevirtual 52, 3) := by decide +kernel
theorem dX7_slotsScattered_51 : decode cX7_slotsScattered 51 = .ok (.dup2, 1) := by decide +kernel
theorem dX7_slotsScattered_52 : decode cX7_slotsScattered 52 = .ok (.iaload, 1) := by decide +kernel
theorem dX7_slotsScattered_53 : decode cX7_slotsScattered 53 = .ok (.iconst 1, 1) := by decide +kernel
theorem dX7_slotsScattered_54 : decode cX7_slotsScattered 54 = .ok (.iadd, 1) := by decide +kernel
theorem dX7_slotsScattered_55 : decode cX7_slotsScattered 55 = .ok (.iastore, 1) := by decide +kernel
theorem dX7_slotsScattered_56 : decode cX7_slotsScattered 56 = .ok (.iinc 6 1, 3) := by decide +kernel
theorem dX7_slotsScattered_59 : decode cX7_slotsScattered 59 = .ok (.goto (-40), 3) := by decide +kernel
theorem dX7_slotsScattered_62 : decode cX7_slotsScattered 62 = .ok (.aload_n 0, 1) := by decide +kernel
theorem dX7_slotsScattered_63 : decode cX7_slotsScattered 63 = .ok (.invokevirtual 68, 3) := by decide +kernel
theorem dX7_slotsScattered_66 : decode cX7_slotsScattered 66 = .ok (.ireturn, 1) := by decide +kernel
def X7_slotsScattered_b19 (o1 : Nat) (a3 : Int32) (a4 : Int32) (j62 : gM → Option (Int32 × gM)) (r2 : Int32) (v8 : Int32) (m9 : gM) (k19 : Int32 → gM → Option (Int32 × gM)) : Option (Int32 × gM) :=
  if 1024 ≤ v8 then (j62 m9) else (gCall (X3_indexOf o1 v8 a3 m9) (fun (r11 : Int32) (m10 : gM) => if r11 = r2 then (gCall (X3_indexOf o1 v8 a4 m10) (fun (r14 : Int32) (m13 : gM) => gAt m13 44 0 r14 (fun (x15 : Int32) => gPut m13 44 0 r14 (x15 + 1) (fun (m16 : gM) => gLet (v8 + 1) (fun (x17 : Int32) => k19 x17 m16))))) else (gLet (v8 + 1) (fun (x12 : Int32) => k19 x12 m10))))
def X7_slotsScattered (o1 : Nat) (a2 : Int32) (a3 : Int32) (a4 : Int32) (m : gM) : Option (Int32 × gM) :=
  gCall (X3_indexOf o1 a2 a3 m) (fun (r2 : Int32) (m1 : gM) => gCall (J7_fill_53178 44 0 0 m1) (fun (r4 : Unit) (m3 : gM) => gJ0 (fun (m5 : gM) => gCall (X7_slotsUsed m5) (fun (r7 : Int32) (m6 : gM) => some (r7, m6))) (fun (j62 : gM → Option (Int32 × gM)) => gL1 FU (X7_slotsScattered_b19 o1 a3 a4 j62 r2) 0 m3)))
set_option maxRecDepth 100000 in
set_option maxHeartbeats 4000000 in
theorem c_X7_slotsScattered (o1 : Nat) (a2 : Int32) (a3 : Int32) (a4 : Int32) (m : gM) : gCon eI yX7_slotsScattered cX7_slotsScattered 7 (some .int) 2 [.inr (7, 0), .inr (3, o1), .inl a2, .inl a3, .inl a4] m (X7_slotsScattered o1 a2 a3 a4 m) := by
  refine gCon.of (lv := [some (.inr (7, 0)), some (.inr (3, o1)), some (.inl a2), some (.inl a3), some (.inl a4), none, none]) (by decide +kernel) (Nat.le_of_ble_eq_true rfl) rfl (fun X C => ?_)
  unfold X7_slotsScattered
  refine r_aload_n C dX7_slotsScattered_0 rfl rfl ?_
  refine r_iload_n C dX7_slotsScattered_1 rfl rfl ?_
  refine r_iload_n C dX7_slotsScattered_2 rfl rfl ?_
  refine r_invI (t := 3) (kb := o1) (As := [.inl a2, .inl a3]) (st := []) C il_X7_52 co_X3_indexOf (by decide) rfl (c_X3_indexOf o1 a2 a3 m) (by decide) (by decide) rfl rfl (Nat.le_of_ble_eq_true rfl) dX7_slotsScattered_3 (fun r2 m1 => ?_)
  refine r_istore (lv' := [some (.inr (7, 0)), some (.inr (3, o1)), some (.inl a2), some (.inl a3), some (.inl a4), some (.inl r2), none]) C dX7_slotsScattered_6 (by decide) rfl ?_
  refine r_aload_n C dX7_slotsScattered_8 rfl rfl ?_
  refine r_get (v := .inr (44, 0)) C fl_X7_15 dX7_slotsScattered_9 rfl ?_
  refine r_iconst (v := 0) C dX7_slotsScattered_12 (by decide) ?_
  refine r_insU (As := [.inr (44, 0), .inl 0]) (st := []) C il_X7_46 co_J7_fill_53178 (c_J7_fill_53178 44 0 0 rfl m1) (by decide) (by decide) rfl rfl (Nat.le_of_ble_eq_true rfl) dX7_slotsScattered_13 (fun r4 m3 => ?_)
  refine r_iconst (v := 0) C dX7_slotsScattered_16 (by decide) ?_
  refine r_istore (lv' := [some (.inr (7, 0)), some (.inr (3, o1)), some (.inl a2), some (.inl a3), some (.inl a4), some (.inl r2), some (.inl 0)]) C dX7_slotsScattered_17 (by decide) rfl ?_
  refine r_j0 62 [some (.inr (7, 0)), none, none, none, none, none, none] [] (fun m5 => ?_) (fun j62 hj62 => ?_)
  · refine r_aload_n C dX7_slotsScattered_62 rfl rfl ?_
    refine r_invI (t := 7) (kb := 0) (As := []) (st := []) C il_X7_68 co_X7_slotsUsed (by decide) rfl (c_X7_slotsUsed m5) (by decide) (by decide) rfl rfl (Nat.le_of_ble_eq_true rfl) dX7_slotsScattered_63 (fun r7 m6 => ?_)
    exact r_ireturn C dX7_slotsScattered_66
  refine r_weak (lv' := [some (.inr (7, 0)), some (.inr (3, o1)), none, some (.inl a3), some (.inl a4), some (.inl r2), some (.inl 0)]) ⟨rfl, rfl, rfl, rfl, rfl, rfl, trivial⟩ ?_
  refine r_l1 (pj := 19) (fun v8 => [some (.inr (7, 0)), some (.inr (3, o1)), none, some (.inl a3), some (.inl a4), some (.inl r2), some (.inl v8)]) (fun v8 m9 k19 hk19 => ?_) _ _ _
  unfold X7_slotsScattered_b19
  refine r_iload C dX7_slotsScattered_19 rfl ?_
  refine r_sipush (v := 1024) C dX7_slotsScattered_21 (by decide) ?_
  refine r_icmp_ge (tgt := 62) C dX7_slotsScattered_24 (by decide) ?_ ?_
  · exact r_weak (lv' := [some (.inr (7, 0)), none, none, none, none, none, none]) ⟨rfl, trivial⟩ (hj62 _)
  refine r_aload_n C dX7_slotsScattered_27 rfl rfl ?_
  refine r_iload C dX7_slotsScattered_28 rfl ?_
  refine r_iload_n C dX7_slotsScattered_30 rfl rfl ?_
  refine r_invI (t := 3) (kb := o1) (As := [.inl v8, .inl a3]) (st := []) C il_X7_52 co_X3_indexOf (by decide) rfl (c_X3_indexOf o1 v8 a3 m9) (by decide) (by decide) rfl rfl (Nat.le_of_ble_eq_true rfl) dX7_slotsScattered_31 (fun r11 m10 => ?_)
  refine r_iload C dX7_slotsScattered_34 rfl ?_
  refine r_icmp_ne (tgt := 56) C dX7_slotsScattered_36 (by decide) ?_ ?_
  · refine r_iinc (v := 1) C dX7_slotsScattered_56 (by decide) rfl (by decide) (fun x12 => ?_)
    show gw X eI _ [some (.inr (7, 0)), some (.inr (3, o1)), none, some (.inl a3), some (.inl a4), some (.inl r2), some (.inl x12)] _ _ _
    refine r_goto (tgt := 19) C dX7_slotsScattered_59 (by decide) ?_
    exact r_weak (lv' := [some (.inr (7, 0)), some (.inr (3, o1)), none, some (.inl a3), some (.inl a4), some (.inl r2), some (.inl x12)]) ⟨rfl, rfl, rfl, rfl, rfl, rfl, trivial⟩ (hk19 _ _)
  refine r_aload_n C dX7_slotsScattered_39 rfl rfl ?_
  refine r_get (v := .inr (44, 0)) C fl_X7_15 dX7_slotsScattered_40 rfl ?_
  refine r_aload_n C dX7_slotsScattered_43 rfl rfl ?_
  refine r_iload C dX7_slotsScattered_44 rfl ?_
  refine r_iload C dX7_slotsScattered_46 rfl ?_
  refine r_invI (t := 3) (kb := o1) (As := [.inl v8, .inl a4]) (st := [.inr (44, 0)]) C il_X7_52 co_X3_indexOf (by decide) rfl (c_X3_indexOf o1 v8 a4 m10) (by decide) (by decide) rfl rfl (Nat.le_of_ble_eq_true rfl) dX7_slotsScattered_48 (fun r14 m13 => ?_)
  refine r_dup2 C dX7_slotsScattered_51 ?_
  refine r_iald C rfl dX7_slotsScattered_52 (fun x15 => ?_)
  refine r_iconst (v := 1) C dX7_slotsScattered_53 (by decide) ?_
  refine r_iadd C dX7_slotsScattered_54 ?_
  refine r_iast C rfl dX7_slotsScattered_55 (fun m16 => ?_)
  refine r_iinc (v := 1) C dX7_slotsScattered_56 (by decide) rfl (by decide) (fun x17 => ?_)
  show gw X eI _ [some (.inr (7, 0)), some (.inr (3, o1)), none, some (.inl a3), some (.inl a4), some (.inl r2), some (.inl x17)] _ _ _
  refine r_goto (tgt := 19) C dX7_slotsScattered_59 (by decide) ?_
  exact r_weak (lv' := [some (.inr (7, 0)), some (.inr (3, o1)), none, some (.inl a3), some (.inl a4), some (.inl r2), some (.inl x17)]) ⟨rfl, rfl, rfl, rfl, rfl, rfl, trivial⟩ (hk19 _ _)
theorem dX7_worstStride_0 : decode cX7_worstStride 0 = .ok (.iconst 1, 1) := by decide +kernel
theorem dX7_worstStride_1 : decode cX7_worstStride 1 = .ok (.istore 4, 2) := by decide +kernel
theorem dX7_worstStride_3 : decode cX7_worstStride 3 = .ok (.iconst 0, 1) := by decide +kernel
theorem dX7_worstStride_4 : decode cX7_worstStride 4 = .ok (.istore 5, 2) := by decide +kernel
theorem dX7_worstStride_6 : decode cX7_worstStride 6 = .ok (.iconst 1, 1) := by decide +kernel
theorem dX7_worstStride_7 : decode cX7_worstStride 7 = .ok (.istore 6, 2) := by decide +kernel
theorem dX7_worstStride_9 : decode cX7_worstStride 9 = .ok (.iload 6, 2) := by decide +kernel
theorem dX7_worstStride_11 : decode cX7_worstStride 11 = .ok (.bipush 63, 2) := by decide +kernel
theorem dX7_worstStride_13 : decode cX7_worstStride 13 = .ok (.if_icmp .gt 39, 3) := by decide +kernel
theorem dX7_worstStride_16 : decode cX7_worstStride 16 = .ok (.aload_n 0, 1) := by decide +kernel
theorem dX7_worstStride_17 : decode cX7_worstStride 17 = .ok (.aload_n 1, 1) := by decide +kernel
theorem dX7_worstStride_18 : decode cX7_worstStride 18 = .ok (.iload_n 2, 1) := by decide +kernel
theorem dX7_worstStride_19 : decode cX7_worstStride 19 = .ok (.iload 6, 2) := by decide +kernel
theorem dX7_worstStride_21 : decode cX7_worstStride 21 = .ok (.iload_n 3, 1) := by decide +kernel
theorem dX7_worstStride_22 : decode cX7_worstStride 22 = .ok (.invokevirtual 71, 3) := by decide +kernel
theorem dX7_worstStride_25 : decode cX7_worstStride 25 = .ok (.aload_n 0, 1) := by decide +kernel
theorem dX7_worstStride_26 : decode cX7_worstStride 26 = .ok (.invokevirtual 75, 3) := by decide +kernel
theorem dX7_worstStride_29 : decode cX7_worstStride 29 = .ok (.istore 7, 2) := by decide +kernel
theorem dX7_worstStride_31 : decode cX7_worstStride 31 = .ok (.iload 7, 2) := by decide +kernel
theorem dX7_worstStride_33 : decode cX7_worstStride 33 = .ok (.iload 5, 2) := by decide +kernel
theorem dX7_worstStride_35 : decode cX7_worstStride 35 = .ok (.if_icmp .le 11, 3) := by decide +kernel
theorem dX7_worstStride_38 : decode cX7_worstStride 38 = .ok (.iload 7, 2) := by decide +kernel
theorem dX7_worstStride_40 : decode cX7_worstStride 40 = .ok (.istore 5, 2) := by decide +kernel
theorem dX7_worstStride_42 : decode cX7_worstStride 42 = .ok (.iload 6, 2) := by decide +kernel
theorem dX7_worstStride_44 : decode cX7_worstStride 44 = .ok (.istore 4, 2) := by decide +kernel
theorem dX7_worstStride_46 : decode cX7_worstStride 46 = .ok (.iinc 6 1, 3) := by decide +kernel
theorem dX7_worstStride_49 : decode cX7_worstStride 49 = .ok (.goto (-40), 3) := by decide +kernel
theorem dX7_worstStride_52 : decode cX7_worstStride 52 = .ok (.iload 4, 2) := by decide +kernel
theorem dX7_worstStride_54 : decode cX7_worstStride 54 = .ok (.ireturn, 1) := by decide +kernel
def X7_worstStride_b9 (o1 : Nat) (a2 : Int32) (a3 : Int32) (v1 v2 v3 : Int32) (m4 : gM) (k9 : Int32 → Int32 → Int32 → gM → Option (Int32 × gM)) : Option (Int32 × gM) :=
  if 63 < v3 then (some (v1, m4)) else (gCall (X7_layOut o1 a2 v3 a3 m4) (fun (r6 : Unit) (m5 : gM) => gCall (X7_mostInOne m5) (fun (r8 : Int32) (m7 : gM) => if r8 ≤ v2 then (gLet (v3 + 1) (fun (x9 : Int32) => k9 v1 v2 x9 m7)) else (gLet (v3 + 1) (fun (x10 : Int32) => k9 v3 r8 x10 m7)))))
def X7_worstStride (o1 : Nat) (a2 : Int32) (a3 : Int32) (m : gM) : Option (Int32 × gM) :=
  gL3 FU (X7_worstStride_b9 o1 a2 a3) 1 0 1 m
set_option maxRecDepth 100000 in
set_option maxHeartbeats 4000000 in
theorem c_X7_worstStride (o1 : Nat) (a2 : Int32) (a3 : Int32) (m : gM) : gCon eI yX7_worstStride cX7_worstStride 8 (some .int) 3 [.inr (7, 0), .inr (3, o1), .inl a2, .inl a3] m (X7_worstStride o1 a2 a3 m) := by
  refine gCon.of (lv := [some (.inr (7, 0)), some (.inr (3, o1)), some (.inl a2), some (.inl a3), none, none, none, none]) (by decide +kernel) (Nat.le_of_ble_eq_true rfl) rfl (fun X C => ?_)
  unfold X7_worstStride
  refine r_iconst (v := 1) C dX7_worstStride_0 (by decide) ?_
  refine r_istore (lv' := [some (.inr (7, 0)), some (.inr (3, o1)), some (.inl a2), some (.inl a3), some (.inl 1), none, none, none]) C dX7_worstStride_1 (by decide) rfl ?_
  refine r_iconst (v := 0) C dX7_worstStride_3 (by decide) ?_
  refine r_istore (lv' := [some (.inr (7, 0)), some (.inr (3, o1)), some (.inl a2), some (.inl a3), some (.inl 1), some (.inl 0), none, none]) C dX7_worstStride_4 (by decide) rfl ?_
  refine r_iconst (v := 1) C dX7_worstStride_6 (by decide) ?_
  refine r_istore (lv' := [some (.inr (7, 0)), some (.inr (3, o1)), some (.inl a2), some (.inl a3), some (.inl 1), some (.inl 0), some (.inl 1), none]) C dX7_worstStride_7 (by decide) rfl ?_
  refine r_weak (lv' := [some (.inr (7, 0)), some (.inr (3, o1)), some (.inl a2), some (.inl a3), some (.inl 1), some (.inl 0), some (.inl 1), none]) ⟨rfl, rfl, rfl, rfl, rfl, rfl, rfl, trivial⟩ ?_
  refine r_l3 (pj := 9) (fun v1 v2 v3 => [some (.inr (7, 0)), some (.inr (3, o1)), some (.inl a2), some (.inl a3), some (.inl v1), some (.inl v2), some (.inl v3), none]) (fun v1 v2 v3 m4 k9 hk9 => ?_) _ _ _ _ _
  unfold X7_worstStride_b9
  refine r_iload C dX7_worstStride_9 rfl ?_
  refine r_bipush (v := 63) C dX7_worstStride_11 (by decide) ?_
  refine r_icmp_gt (tgt := 52) C dX7_worstStride_13 (by decide) ?_ ?_
  · refine r_iload C dX7_worstStride_52 rfl ?_
    exact r_ireturn C dX7_worstStride_54
  refine r_aload_n C dX7_worstStride_16 rfl rfl ?_
  refine r_aload_n C dX7_worstStride_17 rfl rfl ?_
  refine r_iload_n C dX7_worstStride_18 rfl rfl ?_
  refine r_iload C dX7_worstStride_19 rfl ?_
  refine r_iload_n C dX7_worstStride_21 rfl rfl ?_
  refine r_invU (t := 7) (kb := 0) (As := [.inr (3, o1), .inl a2, .inl v3, .inl a3]) (st := []) C il_X7_71 co_X7_layOut (by decide) rfl (c_X7_layOut o1 a2 v3 a3 m4) (by decide) (by decide) rfl rfl (Nat.le_of_ble_eq_true rfl) dX7_worstStride_22 (fun r6 m5 => ?_)
  refine r_aload_n C dX7_worstStride_25 rfl rfl ?_
  refine r_invI (t := 7) (kb := 0) (As := []) (st := []) C il_X7_75 co_X7_mostInOne (by decide) rfl (c_X7_mostInOne m5) (by decide) (by decide) rfl rfl (Nat.le_of_ble_eq_true rfl) dX7_worstStride_26 (fun r8 m7 => ?_)
  refine r_istore (lv' := [some (.inr (7, 0)), some (.inr (3, o1)), some (.inl a2), some (.inl a3), some (.inl v1), some (.inl v2), some (.inl v3), some (.inl r8)]) C dX7_worstStride_29 (by decide) rfl ?_
  refine r_iload C dX7_worstStride_31 rfl ?_
  refine r_iload C dX7_worstStride_33 rfl ?_
  refine r_icmp_le (tgt := 46) C dX7_worstStride_35 (by decide) ?_ ?_
  · refine r_iinc (v := 1) C dX7_worstStride_46 (by decide) rfl (by decide) (fun x9 => ?_)
    show gw X eI _ [some (.inr (7, 0)), some (.inr (3, o1)), some (.inl a2), some (.inl a3), some (.inl v1), some (.inl v2), some (.inl x9), some (.inl r8)] _ _ _
    refine r_goto (tgt := 9) C dX7_worstStride_49 (by decide) ?_
    exact r_weak (lv' := [some (.inr (7, 0)), some (.inr (3, o1)), some (.inl a2), some (.inl a3), some (.inl v1), some (.inl v2), some (.inl x9), none]) ⟨rfl, rfl, rfl, rfl, rfl, rfl, rfl, trivial⟩ (hk9 _ _ _ _)
  refine r_iload C dX7_worstStride_38 rfl ?_
  refine r_istore (lv' := [some (.inr (7, 0)), some (.inr (3, o1)), some (.inl a2), some (.inl a3), some (.inl v1), some (.inl r8), some (.inl v3), some (.inl r8)]) C dX7_worstStride_40 (by decide) rfl ?_
  refine r_iload C dX7_worstStride_42 rfl ?_
  refine r_istore (lv' := [some (.inr (7, 0)), some (.inr (3, o1)), some (.inl a2), some (.inl a3), some (.inl v3), some (.inl r8), some (.inl v3), some (.inl r8)]) C dX7_worstStride_44 (by decide) rfl ?_
  refine r_iinc (v := 1) C dX7_worstStride_46 (by decide) rfl (by decide) (fun x10 => ?_)
  show gw X eI _ [some (.inr (7, 0)), some (.inr (3, o1)), some (.inl a2), some (.inl a3), some (.inl v3), some (.inl r8), some (.inl x10), some (.inl r8)] _ _ _
  refine r_goto (tgt := 9) C dX7_worstStride_49 (by decide) ?_
  exact r_weak (lv' := [some (.inr (7, 0)), some (.inr (3, o1)), some (.inl a2), some (.inl a3), some (.inl v3), some (.inl r8), some (.inl x10), none]) ⟨rfl, rfl, rfl, rfl, rfl, rfl, rfl, trivial⟩ (hk9 _ _ _ _)
theorem dX7_evenIfFlipped_0 : decode cX7_evenIfFlipped 0 = .ok (.iload_n 2, 1) := by decide +kernel
theorem dX7_evenIfFlipped_1 : decode cX7_evenIfFlipped 1 = .ok (.iload_n 3, 1) := by decide +kernel
theorem dX7_evenIfFlipped_2 : decode cX7_evenIfFlipped 2 = .ok (.invokestatic 38, 3) := by decide +kernel
theorem dX7_evenIfFlipped_5 : decode cX7_evenIfFlipped 5 = .ok (.istore 5, 2) := by decide +kernel
theorem dX7_evenIfFlipped_7 : decode cX7_evenIfFlipped 7 = .ok (.aload_n 1, 1) := by decide +kernel
theorem dX7_evenIfFlipped_8 : decode cX7_evenIfFlipped 8 = .ok (.getfield 35, 3) := by decide +kernel
theorem dX7_evenIfFlipped_11 : decode cX7_evenIfFlipped 11 = .ok (.iload 5, 2) := by decide +kernel
theorem dX7_evenIfFlipped_13 : decode cX7_evenIfFlipped 13 = .ok (.iaload, 1) := by decide +kernel
theorem dX7_evenIfFlipped_14 : decode cX7_evenIfFlipped 14 = .ok (.istore 6, 2) := by decide +kernel
theorem dX7_evenIfFlipped_16 : decode cX7_evenIfFlipped 16 = .ok (.aload_n 1, 1) := by decide +kernel
theorem dX7_evenIfFlipped_17 : decode cX7_evenIfFlipped 17 = .ok (.getfield 35, 3) := by decide +kernel
theorem dX7_evenIfFlipped_20 : decode cX7_evenIfFlipped 20 = .ok (.iload 5, 2) := by decide +kernel
theorem dX7_evenIfFlipped_22 : decode cX7_evenIfFlipped 22 = .ok (.iload 6, 2) := by decide +kernel
theorem dX7_evenIfFlipped_24 : decode cX7_evenIfFlipped 24 = .ok (.iconst 1, 1) := by decide +kernel
theorem dX7_evenIfFlipped_25 : decode cX7_evenIfFlipped 25 = .ok (.iload 4, 2) := by decide +kernel
theorem dX7_evenIfFlipped_27 : decode cX7_evenIfFlipped 27 = .ok (.ishl, 1) := by decide +kernel
theorem dX7_evenIfFlipped_28 : decode cX7_evenIfFlipped 28 = .ok (.ixor, 1) := by decide +kernel
theorem dX7_evenIfFlipped_29 : decode cX7_evenIfFlipped 29 = .ok (.iastore, 1) := by decide +kernel
theorem dX7_evenIfFlipped_30 : decode cX7_evenIfFlipped 30 = .ok (.aload_n 0, 1) := by decide +kernel
theorem dX7_evenIfFlipped_31 : decode cX7_evenIfFlipped 31 = .ok (.aload_n 1, 1) := by decide +kernel
theorem dX7_evenIfFlipped_32 : decode cX7_evenIfFlipped 32 = .ok (.iload_n 2, 1) := by decide +kernel
theorem dX7_evenIfFlipped_33 : decode cX7_evenIfFlipped 33 = .ok (.invokevirtual 78, 3) := by decide +kernel
theorem dX7_evenIfFlipped_36 : decode cX7_evenIfFlipped 36 = .ok (.istore 7, 2) := by decide +kernel
theorem dX7_evenIfFlipped_38 : decode cX7_evenIfFlipped 38 = .ok (.aload_n 1, 1) := by decide +kernel
theorem dX7_evenIfFlipped_39 : decode cX7_evenIfFlipped 39 = .ok (.getfield 35, 3) := by decide +kernel
theorem dX7_evenIfFlipped_42 : decode cX7_evenIfFlipped 42 = .ok (.iload 5, 2) := by decide +kernel
theorem dX7_evenIfFlipped_44 : decode cX7_evenIfFlipped 44 = .ok (.iload 6, 2) := by decide +kernel
theorem dX7_evenIfFlipped_46 : decode cX7_evenIfFlipped 46 = .ok (.iastore, 1) := by decide +kernel
theorem dX7_evenIfFlipped_47 : decode cX7_evenIfFlipped 47 = .ok (.iload 7, 2) := by decide +kernel
theorem dX7_evenIfFlipped_49 : decode cX7_evenIfFlipped 49 = .ok (.ireturn, 1) := by decide +kernel
def X7_evenIfFlipped (o1 : Nat) (a2 : Int32) (a3 : Int32) (a4 : Int32) (m : gM) : Option (Int32 × gM) :=
  gCall (X8_maskAt a2 a3 m) (fun (r2 : Int32) (m1 : gM) => gAt m1 25 o1 r2 (fun (x3 : Int32) => gPut m1 25 o1 r2 (x3 ^^^ (1 <<< (a4 &&& 31))) (fun (m4 : gM) => gCall (X7_evenStrides o1 a2 m4) (fun (r6 : Int32) (m5 : gM) => gPut m5 25 o1 r2 x3 (fun (m7 : gM) => some (r6, m7))))))
set_option maxRecDepth 100000 in
set_option maxHeartbeats 4000000 in
theorem c_X7_evenIfFlipped (o1 : Nat) (a2 : Int32) (a3 : Int32) (a4 : Int32) (m : gM) : gCon eI yX7_evenIfFlipped cX7_evenIfFlipped 8 (some .int) 4 [.inr (7, 0), .inr (3, o1), .inl a2, .inl a3, .inl a4] m (X7_evenIfFlipped o1 a2 a3 a4 m) := by
  refine gCon.of (lv := [some (.inr (7, 0)), some (.inr (3, o1)), some (.inl a2), some (.inl a3), some (.inl a4), none, none, none]) (by decide +kernel) (Nat.le_of_ble_eq_true rfl) rfl (fun X C => ?_)
  unfold X7_evenIfFlipped
  refine r_iload_n C dX7_evenIfFlipped_0 rfl rfl ?_
  refine r_iload_n C dX7_evenIfFlipped_1 rfl rfl ?_
  refine r_insI (As := [.inl a2, .inl a3]) (st := []) C il_X7_38 co_X8_maskAt (c_X8_maskAt a2 a3 m) (by decide) (by decide) rfl rfl (Nat.le_of_ble_eq_true rfl) dX7_evenIfFlipped_2 (fun r2 m1 => ?_)
  refine r_istore (lv' := [some (.inr (7, 0)), some (.inr (3, o1)), some (.inl a2), some (.inl a3), some (.inl a4), some (.inl r2), none, none]) C dX7_evenIfFlipped_5 (by decide) rfl ?_
  refine r_aload_n C dX7_evenIfFlipped_7 rfl rfl ?_
  refine r_get (v := .inr (25, o1)) C fl_X7_35 dX7_evenIfFlipped_8 rfl ?_
  refine r_iload C dX7_evenIfFlipped_11 rfl ?_
  refine r_iald C rfl dX7_evenIfFlipped_13 (fun x3 => ?_)
  refine r_istore (lv' := [some (.inr (7, 0)), some (.inr (3, o1)), some (.inl a2), some (.inl a3), some (.inl a4), some (.inl r2), some (.inl x3), none]) C dX7_evenIfFlipped_14 (by decide) rfl ?_
  refine r_aload_n C dX7_evenIfFlipped_16 rfl rfl ?_
  refine r_get (v := .inr (25, o1)) C fl_X7_35 dX7_evenIfFlipped_17 rfl ?_
  refine r_iload C dX7_evenIfFlipped_20 rfl ?_
  refine r_iload C dX7_evenIfFlipped_22 rfl ?_
  refine r_iconst (v := 1) C dX7_evenIfFlipped_24 (by decide) ?_
  refine r_iload C dX7_evenIfFlipped_25 rfl ?_
  refine r_ishl C dX7_evenIfFlipped_27 ?_
  refine r_ixor C dX7_evenIfFlipped_28 ?_
  refine r_iast C rfl dX7_evenIfFlipped_29 (fun m4 => ?_)
  refine r_aload_n C dX7_evenIfFlipped_30 rfl rfl ?_
  refine r_aload_n C dX7_evenIfFlipped_31 rfl rfl ?_
  refine r_iload_n C dX7_evenIfFlipped_32 rfl rfl ?_
  refine r_invI (t := 7) (kb := 0) (As := [.inr (3, o1), .inl a2]) (st := []) C il_X7_78 co_X7_evenStrides (by decide) rfl (c_X7_evenStrides o1 a2 m4) (by decide) (by decide) rfl rfl (Nat.le_of_ble_eq_true rfl) dX7_evenIfFlipped_33 (fun r6 m5 => ?_)
  refine r_istore (lv' := [some (.inr (7, 0)), some (.inr (3, o1)), some (.inl a2), some (.inl a3), some (.inl a4), some (.inl r2), some (.inl x3), some (.inl r6)]) C dX7_evenIfFlipped_36 (by decide) rfl ?_
  refine r_aload_n C dX7_evenIfFlipped_38 rfl rfl ?_
  refine r_get (v := .inr (25, o1)) C fl_X7_35 dX7_evenIfFlipped_39 rfl ?_
  refine r_iload C dX7_evenIfFlipped_42 rfl ?_
  refine r_iload C dX7_evenIfFlipped_44 rfl ?_
  refine r_iast C rfl dX7_evenIfFlipped_46 (fun m7 => ?_)
  refine r_iload C dX7_evenIfFlipped_47 rfl ?_
  exact r_ireturn C dX7_evenIfFlipped_49
theorem dX7_bestFlipOf_0 : decode cX7_bestFlipOf 0 = .ok (.iconst (-1), 1) := by decide +kernel
theorem dX7_bestFlipOf_1 : decode cX7_bestFlipOf 1 = .ok (.istore_n 3, 1) := by decide +kernel
theorem dX7_bestFlipOf_2 : decode cX7_bestFlipOf 2 = .ok (.aload_n 0, 1) := by decide +kernel
theorem dX7_bestFlipOf_3 : decode cX7_bestFlipOf 3 = .ok (.aload_n 1, 1) := by decide +kernel
theorem dX7_bestFlipOf_4 : decode cX7_bestFlipOf 4 = .ok (.iload_n 2, 1) := by decide +kernel
theorem dX7_bestFlipOf_5 : decode cX7_bestFlipOf 5 = .ok (.invokevirtual 78, 3) := by decide +kernel
theorem dX7_bestFlipOf_8 : decode cX7_bestFlipOf 8 = .ok (.istore 4, 2) := by decide +kernel
theorem dX7_bestFlipOf_10 : decode cX7_bestFlipOf 10 = .ok (.iconst 0, 1) := by decide +kernel
theorem dX7_bestFlipOf_11 : decode cX7_bestFlipOf 11 = .ok (.istore 5, 2) := by decide +kernel
theorem dX7_bestFlipOf_13 : decode cX7_bestFlipOf 13 = .ok (.iload 5, 2) := by decide +kernel
theorem dX7_bestFlipOf_15 : decode cX7_bestFlipOf 15 = .ok (.aload_n 1, 1) := by decide +kernel
theorem dX7_bestFlipOf_16 : decode cX7_bestFlipOf 16 = .ok (.getfield 32, 3) := by decide +kernel
theorem dX7_bestFlipOf_19 : decode cX7_bestFlipOf 19 = .ok (.if_icmp .ge 57, 3) := by decide +kernel
theorem dX7_bestFlipOf_22 : decode cX7_bestFlipOf 22 = .ok (.iconst 0, 1) := by decide +kernel
theorem dX7_bestFlipOf_23 : decode cX7_bestFlipOf 23 = .ok (.istore 6, 2) := by decide +kernel
theorem dX7_bestFlipOf_25 : decode cX7_bestFlipOf 25 = .ok (.iload 6, 2) := by decide +kernel
theorem dX7_bestFlipOf_27 : decode cX7_bestFlipOf 27 = .ok (.bipush 10, 2) := by decide +kernel
theorem dX7_bestFlipOf_29 : decode cX7_bestFlipOf 29 = .ok (.if_icmp .ge 41, 3) := by decide +kernel
theorem dX7_bestFlipOf_32 : decode cX7_bestFlipOf 32 = .ok (.aload_n 0, 1) := by decide +kernel
theorem dX7_bestFlipOf_33 : decode cX7_bestFlipOf 33 = .ok (.aload_n 1, 1) := by decide +kernel
theorem dX7_bestFlipOf_34 : decode cX7_bestFlipOf 34 = .ok (.iload_n 2, 1) := by decide +kernel
theorem dX7_bestFlipOf_35 : decode cX7_bestFlipOf 35 = .ok (.iload 5, 2) := by decide +kernel
theorem dX7_bestFlipOf_37 : decode cX7_bestFlipOf 37 = .ok (.iload 6, 2) := by decide +kernel
theorem dX7_bestFlipOf_39 : decode cX7_bestFlipOf 39 = .ok (.invokevirtual 82, 3) := by decide +kernel
theorem dX7_bestFlipOf_42 : decode cX7_bestFlipOf 42 = .ok (.istore 7, 2) := by decide +kernel
theorem dX7_bestFlipOf_44 : decode cX7_bestFlipOf 44 = .ok (.iload 7, 2) := by decide +kernel
theorem dX7_bestFlipOf_46 : decode cX7_bestFlipOf 46 = .ok (.iload 4, 2) := by decide +kernel
theorem dX7_bestFlipOf_48 : decode cX7_bestFlipOf 48 = .ok (.if_icmp .le 16, 3) := by decide +kernel
theorem dX7_bestFlipOf_51 : decode cX7_bestFlipOf 51 = .ok (.iload 7, 2) := by decide +kernel
theorem dX7_bestFlipOf_53 : decode cX7_bestFlipOf 53 = .ok (.istore 4, 2) := by decide +kernel
theorem dX7_bestFlipOf_55 : decode cX7_bestFlipOf 55 = .ok (.iload 5, 2) := by decide +kernel
theorem dX7_bestFlipOf_57 : decode cX7_bestFlipOf 57 = .ok (.bipush 16, 2) := by decide +kernel
theorem dX7_bestFlipOf_59 : decode cX7_bestFlipOf 59 = .ok (.imul, 1) := by decide +kernel
theorem dX7_bestFlipOf_60 : decode cX7_bestFlipOf 60 = .ok (.iload 6, 2) := by decide +kernel
theorem dX7_bestFlipOf_62 : decode cX7_bestFlipOf 62 = .ok (.iadd, 1) := by decide +kernel
theorem dX7_bestFlipOf_63 : decode cX7_bestFlipOf 63 = .ok (.istore_n 3, 1) := by decide +kernel
theorem dX7_bestFlipOf_64 : decode cX7_bestFlipOf 64 = .ok (.iinc 6 1, 3) := by decide +kernel
theorem dX7_bestFlipOf_67 : decode cX7_bestFlipOf 67 = .ok (.goto (-42), 3) := by decide +kernel
theorem dX7_bestFlipOf_70 : decode cX7_bestFlipOf 70 = .ok (.iinc 5 1, 3) := by decide +kernel
theorem dX7_bestFlipOf_73 : decode cX7_bestFlipOf 73 = .ok (.goto (-60), 3) := by decide +kernel
theorem dX7_bestFlipOf_76 : decode cX7_bestFlipOf 76 = .ok (.iload_n 3, 1) := by decide +kernel
theorem dX7_bestFlipOf_77 : decode cX7_bestFlipOf 77 = .ok (.ireturn, 1) := by decide +kernel
def X7_bestFlipOf_b25 (o1 : Nat) (a2 : Int32) (k13 : Int32 → Int32 → Int32 → gM → Option (Int32 × gM)) (v5 : Int32) (v7 v8 v9 : Int32) (m10 : gM) (k25 : Int32 → Int32 → Int32 → gM → Option (Int32 × gM)) : Option (Int32 × gM) :=
  if 10 ≤ v9 then (gLet (v5 + 1) (fun (x11 : Int32) => k13 v7 v8 x11 m10)) else (gCall (X7_evenIfFlipped o1 a2 v5 v9 m10) (fun (r13 : Int32) (m12 : gM) => if r13 ≤ v8 then (gLet (v9 + 1) (fun (x14 : Int32) => k25 v7 v8 x14 m12)) else (gLet ((v5 * 16) + v9) (fun (x15 : Int32) => gLet (v9 + 1) (fun (x16 : Int32) => k25 x15 r13 x16 m12)))))
def X7_bestFlipOf_b13 (o1 : Nat) (a2 : Int32) (v3 v4 v5 : Int32) (m6 : gM) (k13 : Int32 → Int32 → Int32 → gM → Option (Int32 × gM)) : Option (Int32 × gM) :=
  if (m6 3 o1 1) ≤ v5 then (some (v3, m6)) else (gL3 FU (X7_bestFlipOf_b25 o1 a2 k13 v5) v3 v4 0 m6)
def X7_bestFlipOf (o1 : Nat) (a2 : Int32) (m : gM) : Option (Int32 × gM) :=
  gCall (X7_evenStrides o1 a2 m) (fun (r2 : Int32) (m1 : gM) => gL3 FU (X7_bestFlipOf_b13 o1 a2) (-1) r2 0 m1)
set_option maxRecDepth 100000 in
set_option maxHeartbeats 4000000 in
theorem c_X7_bestFlipOf (o1 : Nat) (a2 : Int32) (m : gM) : gCon eI yX7_bestFlipOf cX7_bestFlipOf 8 (some .int) 5 [.inr (7, 0), .inr (3, o1), .inl a2] m (X7_bestFlipOf o1 a2 m) := by
  refine gCon.of (lv := [some (.inr (7, 0)), some (.inr (3, o1)), some (.inl a2), none, none, none, none, none]) (by decide +kernel) (Nat.le_of_ble_eq_true rfl) rfl (fun X C => ?_)
  unfold X7_bestFlipOf
  refine r_iconst (v := (-1)) C dX7_bestFlipOf_0 (by decide) ?_
  refine r_istore_n (lv' := [some (.inr (7, 0)), some (.inr (3, o1)), some (.inl a2), some (.inl (-1)), none, none, none, none]) C dX7_bestFlipOf_1 rfl (by decide) rfl ?_
  refine r_aload_n C dX7_bestFlipOf_2 rfl rfl ?_
  refine r_aload_n C dX7_bestFlipOf_3 rfl rfl ?_
  refine r_iload_n C dX7_bestFlipOf_4 rfl rfl ?_
  refine r_invI (t := 7) (kb := 0) (As := [.inr (3, o1), .inl a2]) (st := []) C il_X7_78 co_X7_evenStrides (by decide) rfl (c_X7_evenStrides o1 a2 m) (by decide) (by decide) rfl rfl (Nat.le_of_ble_eq_true rfl) dX7_bestFlipOf_5 (fun r2 m1 => ?_)
  refine r_istore (lv' := [some (.inr (7, 0)), some (.inr (3, o1)), some (.inl a2), some (.inl (-1)), some (.inl r2), none, none, none]) C dX7_bestFlipOf_8 (by decide) rfl ?_
  refine r_iconst (v := 0) C dX7_bestFlipOf_10 (by decide) ?_
  refine r_istore (lv' := [some (.inr (7, 0)), some (.inr (3, o1)), some (.inl a2), some (.inl (-1)), some (.inl r2), some (.inl 0), none, none]) C dX7_bestFlipOf_11 (by decide) rfl ?_
  refine r_weak (lv' := [some (.inr (7, 0)), some (.inr (3, o1)), some (.inl a2), some (.inl (-1)), some (.inl r2), some (.inl 0), none, none]) ⟨rfl, rfl, rfl, rfl, rfl, rfl, trivial⟩ ?_
  refine r_l3 (pj := 13) (fun v3 v4 v5 => [some (.inr (7, 0)), some (.inr (3, o1)), some (.inl a2), some (.inl v3), some (.inl v4), some (.inl v5), none, none]) (fun v3 v4 v5 m6 k13 hk13 => ?_) _ _ _ _ _
  unfold X7_bestFlipOf_b13
  refine r_iload C dX7_bestFlipOf_13 rfl ?_
  refine r_aload_n C dX7_bestFlipOf_15 rfl rfl ?_
  refine r_get (v := .inl (m6 3 o1 1)) C fl_X7_32 dX7_bestFlipOf_16 rfl ?_
  refine r_icmp_ge (tgt := 76) C dX7_bestFlipOf_19 (by decide) ?_ ?_
  · refine r_iload_n C dX7_bestFlipOf_76 rfl rfl ?_
    exact r_ireturn C dX7_bestFlipOf_77
  refine r_iconst (v := 0) C dX7_bestFlipOf_22 (by decide) ?_
  refine r_istore (lv' := [some (.inr (7, 0)), some (.inr (3, o1)), some (.inl a2), some (.inl v3), some (.inl v4), some (.inl v5), some (.inl 0), none]) C dX7_bestFlipOf_23 (by decide) rfl ?_
  refine r_weak (lv' := [some (.inr (7, 0)), some (.inr (3, o1)), some (.inl a2), some (.inl v3), some (.inl v4), some (.inl v5), some (.inl 0), none]) ⟨rfl, rfl, rfl, rfl, rfl, rfl, rfl, trivial⟩ ?_
  refine r_l3 (pj := 25) (fun v7 v8 v9 => [some (.inr (7, 0)), some (.inr (3, o1)), some (.inl a2), some (.inl v7), some (.inl v8), some (.inl v5), some (.inl v9), none]) (fun v7 v8 v9 m10 k25 hk25 => ?_) _ _ _ _ _
  unfold X7_bestFlipOf_b25
  refine r_iload C dX7_bestFlipOf_25 rfl ?_
  refine r_bipush (v := 10) C dX7_bestFlipOf_27 (by decide) ?_
  refine r_icmp_ge (tgt := 70) C dX7_bestFlipOf_29 (by decide) ?_ ?_
  · refine r_iinc (v := 1) C dX7_bestFlipOf_70 (by decide) rfl (by decide) (fun x11 => ?_)
    show gw X eI _ [some (.inr (7, 0)), some (.inr (3, o1)), some (.inl a2), some (.inl v7), some (.inl v8), some (.inl x11), some (.inl v9), none] _ _ _
    refine r_goto (tgt := 13) C dX7_bestFlipOf_73 (by decide) ?_
    exact r_weak (lv' := [some (.inr (7, 0)), some (.inr (3, o1)), some (.inl a2), some (.inl v7), some (.inl v8), some (.inl x11), none, none]) ⟨rfl, rfl, rfl, rfl, rfl, rfl, trivial⟩ (hk13 _ _ _ _)
  refine r_aload_n C dX7_bestFlipOf_32 rfl rfl ?_
  refine r_aload_n C dX7_bestFlipOf_33 rfl rfl ?_
  refine r_iload_n C dX7_bestFlipOf_34 rfl rfl ?_
  refine r_iload C dX7_bestFlipOf_35 rfl ?_
  refine r_iload C dX7_bestFlipOf_37 rfl ?_
  refine r_invI (t := 7) (kb := 0) (As := [.inr (3, o1), .inl a2, .inl v5, .inl v9]) (st := []) C il_X7_82 co_X7_evenIfFlipped (by decide) rfl (c_X7_evenIfFlipped o1 a2 v5 v9 m10) (by decide) (by decide) rfl rfl (Nat.le_of_ble_eq_true rfl) dX7_bestFlipOf_39 (fun r13 m12 => ?_)
  refine r_istore (lv' := [some (.inr (7, 0)), some (.inr (3, o1)), some (.inl a2), some (.inl v7), some (.inl v8), some (.inl v5), some (.inl v9), some (.inl r13)]) C dX7_bestFlipOf_42 (by decide) rfl ?_
  refine r_iload C dX7_bestFlipOf_44 rfl ?_
  refine r_iload C dX7_bestFlipOf_46 rfl ?_
  refine r_icmp_le (tgt := 64) C dX7_bestFlipOf_48 (by decide) ?_ ?_
  · refine r_iinc (v := 1) C dX7_bestFlipOf_64 (by decide) rfl (by decide) (fun x14 => ?_)
    show gw X eI _ [some (.inr (7, 0)), some (.inr (3, o1)), some (.inl a2), some (.inl v7), some (.inl v8), some (.inl v5), some (.inl x14), some (.inl r13)] _ _ _
    refine r_goto (tgt := 25) C dX7_bestFlipOf_67 (by decide) ?_
    exact r_weak (lv' := [some (.inr (7, 0)), some (.inr (3, o1)), some (.inl a2), some (.inl v7), some (.inl v8), some (.inl v5), some (.inl x14), none]) ⟨rfl, rfl, rfl, rfl, rfl, rfl, rfl, trivial⟩ (hk25 _ _ _ _)
  refine r_iload C dX7_bestFlipOf_51 rfl ?_
  refine r_istore (lv' := [some (.inr (7, 0)), some (.inr (3, o1)), some (.inl a2), some (.inl v7), some (.inl r13), some (.inl v5), some (.inl v9), some (.inl r13)]) C dX7_bestFlipOf_53 (by decide) rfl ?_
  refine r_iload C dX7_bestFlipOf_55 rfl ?_
  refine r_bipush (v := 16) C dX7_bestFlipOf_57 (by decide) ?_
  refine r_imul C dX7_bestFlipOf_59 ?_
  refine r_iload C dX7_bestFlipOf_60 rfl ?_
  refine r_iadd C dX7_bestFlipOf_62 ?_
  refine r_let (fun x15 => ?_)
  refine r_istore_n (lv' := [some (.inr (7, 0)), some (.inr (3, o1)), some (.inl a2), some (.inl x15), some (.inl r13), some (.inl v5), some (.inl v9), some (.inl r13)]) C dX7_bestFlipOf_63 rfl (by decide) rfl ?_
  refine r_iinc (v := 1) C dX7_bestFlipOf_64 (by decide) rfl (by decide) (fun x16 => ?_)
  show gw X eI _ [some (.inr (7, 0)), some (.inr (3, o1)), some (.inl a2), some (.inl x15), some (.inl r13), some (.inl v5), some (.inl x16), some (.inl r13)] _ _ _
  refine r_goto (tgt := 25) C dX7_bestFlipOf_67 (by decide) ?_
  exact r_weak (lv' := [some (.inr (7, 0)), some (.inr (3, o1)), some (.inl a2), some (.inl x15), some (.inl r13), some (.inl v5), some (.inl x16), none]) ⟨rfl, rfl, rfl, rfl, rfl, rfl, rfl, trivial⟩ (hk25 _ _ _ _)
theorem dX7_crowdedSlot_0 : decode cX7_crowdedSlot 0 = .ok (.aload_n 0, 1) := by decide +kernel
theorem dX7_crowdedSlot_1 : decode cX7_crowdedSlot 1 = .ok (.getfield 15, 3) := by decide +kernel
theorem dX7_crowdedSlot_4 : decode cX7_crowdedSlot 4 = .ok (.iconst 0, 1) := by decide +kernel
theorem dX7_crowdedSlot_5 : decode cX7_crowdedSlot 5 = .ok (.invokestatic 46, 3) := by decide +kernel
theorem dX7_crowdedSlot_8 : decode cX7_crowdedSlot 8 = .ok (.iconst 0, 1) := by decide +kernel
theorem dX7_crowdedSlot_9 : decode cX7_crowdedSlot 9 = .ok (.istore 5, 2) := by decide +kernel
theorem dX7_crowdedSlot_11 : decode cX7_crowdedSlot 11 = .ok (.iload 5, 2) := by decide +kernel
theorem dX7_crowdedSlot_13 : decode cX7_crowdedSlot 13 = .ok (.iload 4, 2) := by decide +kernel
theorem dX7_crowdedSlot_15 : decode cX7_crowdedSlot 15 = .ok (.if_icmp .ge 34, 3) := by decide +kernel
theorem dX7_crowdedSlot_18 : decode cX7_crowdedSlot 18 = .ok (.iload 5, 2) := by decide +kernel
theorem dX7_crowdedSlot_20 : decode cX7_crowdedSlot 20 = .ok (.aload_n 3, 1) := by decide +kernel
theorem dX7_crowdedSlot_21 : decode cX7_crowdedSlot 21 = .ok (.arraylength, 1) := by decide +kernel
theorem dX7_crowdedSlot_22 : decode cX7_crowdedSlot 22 = .ok (.if_icmp .ge 27, 3) := by decide +kernel
theorem dX7_crowdedSlot_25 : decode cX7_crowdedSlot 25 = .ok (.aload_n 0, 1) := by decide +kernel
theorem dX7_crowdedSlot_26 : decode cX7_crowdedSlot 26 = .ok (.getfield 15, 3) := by decide +kernel
theorem dX7_crowdedSlot_29 : decode cX7_crowdedSlot 29 = .ok (.aload_n 1, 1) := by decide +kernel
theorem dX7_crowdedSlot_30 : decode cX7_crowdedSlot 30 = .ok (.aload_n 3, 1) := by decide +kernel
theorem dX7_crowdedSlot_31 : decode cX7_crowdedSlot 31 = .ok (.iload 5, 2) := by decide +kernel
theorem dX7_crowdedSlot_33 : decode cX7_crowdedSlot 33 = .ok (.iaload, 1) := by decide +kernel
theorem dX7_crowdedSlot_34 : decode cX7_crowdedSlot 34 = .ok (.iload_n 2, 1) := by decide +kernel
theorem dX7_crowdedSlot_35 : decode cX7_crowdedSlot 35 = .ok (.invokevirtual 52, 3) := by decide +kernel
theorem dX7_crowdedSlot_38 : decode cX7_crowdedSlot 38 = .ok (.dup2, 1) := by decide +kernel
theorem dX7_crowdedSlot_39 : decode cX7_crowdedSlot 39 = .ok (.iaload, 1) := by decide +kernel
theorem dX7_crowdedSlot_40 : decode cX7_crowdedSlot 40 = .ok (.iconst 1, 1) := by decide +kernel
theorem dX7_crowdedSlot_41 : decode cX7_crowdedSlot 41 = .ok (.iadd, 1) := by decide +kernel
theorem dX7_crowdedSlot_42 : decode cX7_crowdedSlot 42 = .ok (.iastore, 1) := by decide +kernel
theorem dX7_crowdedSlot_43 : decode cX7_crowdedSlot 43 = .ok (.iinc 5 1, 3) := by decide +kernel
theorem dX7_crowdedSlot_46 : decode cX7_crowdedSlot 46 = .ok (.goto (-35), 3) := by decide +kernel
theorem dX7_crowdedSlot_49 : decode cX7_crowdedSlot 49 = .ok (.iconst 0, 1) := by decide +kernel
theorem dX7_crowdedSlot_50 : decode cX7_crowdedSlot 50 = .ok (.istore 5, 2) := by decide +kernel
theorem dX7_crowdedSlot_52 : decode cX7_crowdedSlot 52 = .ok (.iconst 1, 1) := by decide +kernel
theorem dX7_crowdedSlot_53 : decode cX7_crowdedSlot 53 = .ok (.istore 6, 2) := by decide +kernel
theorem dX7_crowdedSlot_55 : decode cX7_crowdedSlot 55 = .ok (.iload 6, 2) := by decide +kernel
theorem dX7_crowdedSlot_57 : decode cX7_crowdedSlot 57 = .ok (.aload_n 1, 1) := by decide +kernel
theorem dX7_crowdedSlot_58 : decode cX7_crowdedSlot 58 = .ok (.invokevirtual 60, 3) := by decide +kernel
theorem dX7_crowdedSlot_61 : decode cX7_crowdedSlot 61 = .ok (.if_icmp .ge 30, 3) := by decide +kernel
theorem dX7_crowdedSlot_64 : decode cX7_crowdedSlot 64 = .ok (.aload_n 0, 1) := by decide +kernel
theorem dX7_crowdedSlot_65 : decode cX7_crowdedSlot 65 = .ok (.getfield 15, 3) := by decide +kernel
theorem dX7_crowdedSlot_68 : decode cX7_crowdedSlot 68 = .ok (.iload 6, 2) := by decide +kernel
theorem dX7_crowdedSlot_70 : decode cX7_crowdedSlot 70 = .ok (.iaload, 1) := by decide +kernel
theorem dX7_crowdedSlot_71 : decode cX7_crowdedSlot 71 = .ok (.aload_n 0, 1) := by decide +kernel
theorem dX7_crowdedSlot_72 : decode cX7_crowdedSlot 72 = .ok (.getfield 15, 3) := by decide +kernel
theorem dX7_crowdedSlot_75 : decode cX7_crowdedSlot 75 = .ok (.iload 5, 2) := by decide +kernel
theorem dX7_crowdedSlot_77 : decode cX7_crowdedSlot 77 = .ok (.iaload, 1) := by decide +kernel
theorem dX7_crowdedSlot_78 : decode cX7_crowdedSlot 78 = .ok (.if_icmp .le 7, 3) := by decide +kernel
theorem dX7_crowdedSlot_81 : decode cX7_crowdedSlot 81 = .ok (.iload 6, 2) := by decide +kernel
theorem dX7_crowdedSlot_83 : decode cX7_crowdedSlot 83 = .ok (.istore 5, 2) := by decide +kernel
theorem dX7_crowdedSlot_85 : decode cX7_crowdedSlot 85 = .ok (.iinc 6 1, 3) := by decide +kernel
theorem dX7_crowdedSlot_88 : decode cX7_crowdedSlot 88 = .ok (.goto (-33), 3) := by decide +kernel
theorem dX7_crowdedSlot_91 : decode cX7_crowdedSlot 91 = .ok (.iload 5, 2) := by decide +kernel
theorem dX7_crowdedSlot_93 : decode cX7_crowdedSlot 93 = .ok (.ireturn, 1) := by decide +kernel
def X7_crowdedSlot_b55 (o1 : Nat) (v4 v5 : Int32) (m6 : gM) (k55 : Int32 → Int32 → gM → Option (Int32 × gM)) : Option (Int32 × gM) :=
  gCall (X3_slotsOfWay o1 m6) (fun (r8 : Int32) (m7 : gM) => if r8 ≤ v5 then (some (v4, m7)) else (gAt m7 44 0 v5 (fun (x9 : Int32) => gAt m7 44 0 v4 (fun (x10 : Int32) => if x9 ≤ x10 then (gLet (v5 + 1) (fun (x11 : Int32) => k55 v4 x11 m7)) else (gLet (v5 + 1) (fun (x12 : Int32) => k55 v5 x12 m7))))))
def X7_crowdedSlot_b11 (o1 : Nat) (a2 : Int32) (t3 : Nat) (u3 : Nat) (a4 : Int32) (j49 : gM → Option (Int32 × gM)) (v13 : Int32) (m14 : gM) (k11 : Int32 → gM → Option (Int32 × gM)) : Option (Int32 × gM) :=
  if a4 ≤ v13 then (j49 m14) else (if (Int32.ofNat (glen t3)) ≤ v13 then (j49 m14) else (gAt m14 t3 u3 v13 (fun (x15 : Int32) => gCall (X3_indexOf o1 x15 a2 m14) (fun (r17 : Int32) (m16 : gM) => gAt m16 44 0 r17 (fun (x18 : Int32) => gPut m16 44 0 r17 (x18 + 1) (fun (m19 : gM) => gLet (v13 + 1) (fun (x20 : Int32) => k11 x20 m19)))))))
def X7_crowdedSlot (o1 : Nat) (a2 : Int32) (t3 u3 : Nat) (a4 : Int32) (m : gM) : Option (Int32 × gM) :=
  gCall (J7_fill_53178 44 0 0 m) (fun (r2 : Unit) (m1 : gM) => gJ0 (fun (m3 : gM) => gL2 FU (X7_crowdedSlot_b55 o1) 0 1 m3) (fun (j49 : gM → Option (Int32 × gM)) => gL1 FU (X7_crowdedSlot_b11 o1 a2 t3 u3 a4 j49) 0 m1))
set_option maxRecDepth 100000 in
set_option maxHeartbeats 4000000 in
theorem c_X7_crowdedSlot (o1 : Nat) (a2 : Int32) (t3 u3 : Nat) (a4 : Int32) (ht3 : gia t3 = true) (m : gM) : gCon eI yX7_crowdedSlot cX7_crowdedSlot 7 (some .int) 2 [.inr (7, 0), .inr (3, o1), .inl a2, .inr (t3, u3), .inl a4] m (X7_crowdedSlot o1 a2 t3 u3 a4 m) := by
  refine gCon.of (lv := [some (.inr (7, 0)), some (.inr (3, o1)), some (.inl a2), some (.inr (t3, u3)), some (.inl a4), none, none]) (by decide +kernel) (Nat.le_of_ble_eq_true rfl) rfl (fun X C => ?_)
  unfold X7_crowdedSlot
  refine r_aload_n C dX7_crowdedSlot_0 rfl rfl ?_
  refine r_get (v := .inr (44, 0)) C fl_X7_15 dX7_crowdedSlot_1 rfl ?_
  refine r_iconst (v := 0) C dX7_crowdedSlot_4 (by decide) ?_
  refine r_insU (As := [.inr (44, 0), .inl 0]) (st := []) C il_X7_46 co_J7_fill_53178 (c_J7_fill_53178 44 0 0 rfl m) (by decide) (by decide) rfl rfl (Nat.le_of_ble_eq_true rfl) dX7_crowdedSlot_5 (fun r2 m1 => ?_)
  refine r_iconst (v := 0) C dX7_crowdedSlot_8 (by decide) ?_
  refine r_istore (lv' := [some (.inr (7, 0)), some (.inr (3, o1)), some (.inl a2), some (.inr (t3, u3)), some (.inl a4), some (.inl 0), none]) C dX7_crowdedSlot_9 (by decide) rfl ?_
  refine r_j0 49 [some (.inr (7, 0)), some (.inr (3, o1)), none, none, none, none, none] [] (fun m3 => ?_) (fun j49 hj49 => ?_)
  · refine r_iconst (v := 0) C dX7_crowdedSlot_49 (by decide) ?_
    refine r_istore (lv' := [some (.inr (7, 0)), some (.inr (3, o1)), none, none, none, some (.inl 0), none]) C dX7_crowdedSlot_50 (by decide) rfl ?_
    refine r_iconst (v := 1) C dX7_crowdedSlot_52 (by decide) ?_
    refine r_istore (lv' := [some (.inr (7, 0)), some (.inr (3, o1)), none, none, none, some (.inl 0), some (.inl 1)]) C dX7_crowdedSlot_53 (by decide) rfl ?_
    refine r_weak (lv' := [some (.inr (7, 0)), some (.inr (3, o1)), none, none, none, some (.inl 0), some (.inl 1)]) ⟨rfl, rfl, rfl, rfl, trivial⟩ ?_
    refine r_l2 (pj := 55) (fun v4 v5 => [some (.inr (7, 0)), some (.inr (3, o1)), none, none, none, some (.inl v4), some (.inl v5)]) (fun v4 v5 m6 k55 hk55 => ?_) _ _ _ _
    unfold X7_crowdedSlot_b55
    refine r_iload C dX7_crowdedSlot_55 rfl ?_
    refine r_aload_n C dX7_crowdedSlot_57 rfl rfl ?_
    refine r_invI (t := 3) (kb := o1) (As := []) (st := [.inl v5]) C il_X7_60 co_X3_slotsOfWay (by decide) rfl (c_X3_slotsOfWay o1 m6) (by decide) (by decide) rfl rfl (Nat.le_of_ble_eq_true rfl) dX7_crowdedSlot_58 (fun r8 m7 => ?_)
    refine r_icmp_ge (tgt := 91) C dX7_crowdedSlot_61 (by decide) ?_ ?_
    · refine r_iload C dX7_crowdedSlot_91 rfl ?_
      exact r_ireturn C dX7_crowdedSlot_93
    refine r_aload_n C dX7_crowdedSlot_64 rfl rfl ?_
    refine r_get (v := .inr (44, 0)) C fl_X7_15 dX7_crowdedSlot_65 rfl ?_
    refine r_iload C dX7_crowdedSlot_68 rfl ?_
    refine r_iald C rfl dX7_crowdedSlot_70 (fun x9 => ?_)
    refine r_aload_n C dX7_crowdedSlot_71 rfl rfl ?_
    refine r_get (v := .inr (44, 0)) C fl_X7_15 dX7_crowdedSlot_72 rfl ?_
    refine r_iload C dX7_crowdedSlot_75 rfl ?_
    refine r_iald C rfl dX7_crowdedSlot_77 (fun x10 => ?_)
    refine r_icmp_le (tgt := 85) C dX7_crowdedSlot_78 (by decide) ?_ ?_
    · refine r_iinc (v := 1) C dX7_crowdedSlot_85 (by decide) rfl (by decide) (fun x11 => ?_)
      show gw X eI _ [some (.inr (7, 0)), some (.inr (3, o1)), none, none, none, some (.inl v4), some (.inl x11)] _ _ _
      refine r_goto (tgt := 55) C dX7_crowdedSlot_88 (by decide) ?_
      exact r_weak (lv' := [some (.inr (7, 0)), some (.inr (3, o1)), none, none, none, some (.inl v4), some (.inl x11)]) ⟨rfl, rfl, rfl, rfl, trivial⟩ (hk55 _ _ _)
    refine r_iload C dX7_crowdedSlot_81 rfl ?_
    refine r_istore (lv' := [some (.inr (7, 0)), some (.inr (3, o1)), none, none, none, some (.inl v5), some (.inl v5)]) C dX7_crowdedSlot_83 (by decide) rfl ?_
    refine r_iinc (v := 1) C dX7_crowdedSlot_85 (by decide) rfl (by decide) (fun x12 => ?_)
    show gw X eI _ [some (.inr (7, 0)), some (.inr (3, o1)), none, none, none, some (.inl v5), some (.inl x12)] _ _ _
    refine r_goto (tgt := 55) C dX7_crowdedSlot_88 (by decide) ?_
    exact r_weak (lv' := [some (.inr (7, 0)), some (.inr (3, o1)), none, none, none, some (.inl v5), some (.inl x12)]) ⟨rfl, rfl, rfl, rfl, trivial⟩ (hk55 _ _ _)
  refine r_weak (lv' := [some (.inr (7, 0)), some (.inr (3, o1)), some (.inl a2), some (.inr (t3, u3)), some (.inl a4), some (.inl 0), none]) ⟨rfl, rfl, rfl, rfl, rfl, rfl, trivial⟩ ?_
  refine r_l1 (pj := 11) (fun v13 => [some (.inr (7, 0)), some (.inr (3, o1)), some (.inl a2), some (.inr (t3, u3)), some (.inl a4), some (.inl v13), none]) (fun v13 m14 k11 hk11 => ?_) _ _ _
  unfold X7_crowdedSlot_b11
  refine r_iload C dX7_crowdedSlot_11 rfl ?_
  refine r_iload C dX7_crowdedSlot_13 rfl ?_
  refine r_icmp_ge (tgt := 49) C dX7_crowdedSlot_15 (by decide) ?_ ?_
  · exact r_weak (lv' := [some (.inr (7, 0)), some (.inr (3, o1)), none, none, none, none, none]) ⟨rfl, rfl, trivial⟩ (hj49 _)
  refine r_iload C dX7_crowdedSlot_18 rfl ?_
  refine r_aload_n C dX7_crowdedSlot_20 rfl rfl ?_
  refine r_alen C (gia_spec ht3).1 rfl dX7_crowdedSlot_21 ?_
  refine r_icmp_ge (tgt := 49) C dX7_crowdedSlot_22 (by decide) ?_ ?_
  · exact r_weak (lv' := [some (.inr (7, 0)), some (.inr (3, o1)), none, none, none, none, none]) ⟨rfl, rfl, trivial⟩ (hj49 _)
  refine r_aload_n C dX7_crowdedSlot_25 rfl rfl ?_
  refine r_get (v := .inr (44, 0)) C fl_X7_15 dX7_crowdedSlot_26 rfl ?_
  refine r_aload_n C dX7_crowdedSlot_29 rfl rfl ?_
  refine r_aload_n C dX7_crowdedSlot_30 rfl rfl ?_
  refine r_iload C dX7_crowdedSlot_31 rfl ?_
  refine r_iald C ht3 dX7_crowdedSlot_33 (fun x15 => ?_)
  refine r_iload_n C dX7_crowdedSlot_34 rfl rfl ?_
  refine r_invI (t := 3) (kb := o1) (As := [.inl x15, .inl a2]) (st := [.inr (44, 0)]) C il_X7_52 co_X3_indexOf (by decide) rfl (c_X3_indexOf o1 x15 a2 m14) (by decide) (by decide) rfl rfl (Nat.le_of_ble_eq_true rfl) dX7_crowdedSlot_35 (fun r17 m16 => ?_)
  refine r_dup2 C dX7_crowdedSlot_38 ?_
  refine r_iald C rfl dX7_crowdedSlot_39 (fun x18 => ?_)
  refine r_iconst (v := 1) C dX7_crowdedSlot_40 (by decide) ?_
  refine r_iadd C dX7_crowdedSlot_41 ?_
  refine r_iast C rfl dX7_crowdedSlot_42 (fun m19 => ?_)
  refine r_iinc (v := 1) C dX7_crowdedSlot_43 (by decide) rfl (by decide) (fun x20 => ?_)
  show gw X eI _ [some (.inr (7, 0)), some (.inr (3, o1)), some (.inl a2), some (.inr (t3, u3)), some (.inl a4), some (.inl x20), none] _ _ _
  refine r_goto (tgt := 11) C dX7_crowdedSlot_46 (by decide) ?_
  exact r_weak (lv' := [some (.inr (7, 0)), some (.inr (3, o1)), some (.inl a2), some (.inr (t3, u3)), some (.inl a4), some (.inl x20), none]) ⟨rfl, rfl, rfl, rfl, rfl, rfl, trivial⟩ (hk11 _ _)
theorem dX7_fitPlainly_0 : decode cX7_fitPlainly 0 = .ok (.aload_n 0, 1) := by decide +kernel
theorem dX7_fitPlainly_1 : decode cX7_fitPlainly 1 = .ok (.getfield 15, 3) := by decide +kernel
theorem dX7_fitPlainly_4 : decode cX7_fitPlainly 4 = .ok (.iconst 0, 1) := by decide +kernel
theorem dX7_fitPlainly_5 : decode cX7_fitPlainly 5 = .ok (.invokestatic 46, 3) := by decide +kernel
theorem dX7_fitPlainly_8 : decode cX7_fitPlainly 8 = .ok (.iconst 0, 1) := by decide +kernel
theorem dX7_fitPlainly_9 : decode cX7_fitPlainly 9 = .ok (.istore 4, 2) := by decide +kernel
theorem dX7_fitPlainly_11 : decode cX7_fitPlainly 11 = .ok (.iload 4, 2) := by decide +kernel
theorem dX7_fitPlainly_13 : decode cX7_fitPlainly 13 = .ok (.iload_n 3, 1) := by decide +kernel
theorem dX7_fitPlainly_14 : decode cX7_fitPlainly 14 = .ok (.if_icmp .ge 36, 3) := by decide +kernel
theorem dX7_fitPlainly_17 : decode cX7_fitPlainly 17 = .ok (.iload 4, 2) := by decide +kernel
theorem dX7_fitPlainly_19 : decode cX7_fitPlainly 19 = .ok (.aload_n 2, 1) := by decide +kernel
theorem dX7_fitPlainly_20 : decode cX7_fitPlainly 20 = .ok (.arraylength, 1) := by decide +kernel
theorem dX7_fitPlainly_21 : decode cX7_fitPlainly 21 = .ok (.if_icmp .ge 29, 3) := by decide +kernel
theorem dX7_fitPlainly_24 : decode cX7_fitPlainly 24 = .ok (.aload_n 0, 1) := by decide +kernel
theorem dX7_fitPlainly_25 : decode cX7_fitPlainly 25 = .ok (.getfield 15, 3) := by decide +kernel
theorem dX7_fitPlainly_28 : decode cX7_fitPlainly 28 = .ok (.aload_n 2, 1) := by decide +kernel
theorem dX7_fitPlainly_29 : decode cX7_fitPlainly 29 = .ok (.iload 4, 2) := by decide +kernel
theorem dX7_fitPlainly_31 : decode cX7_fitPlainly 31 = .ok (.iaload, 1) := by decide +kernel
theorem dX7_fitPlainly_32 : decode cX7_fitPlainly 32 = .ok (.aload_n 1, 1) := by decide +kernel
theorem dX7_fitPlainly_33 : decode cX7_fitPlainly 33 = .ok (.invokevirtual 60, 3) := by decide +kernel
theorem dX7_fitPlainly_36 : decode cX7_fitPlainly 36 = .ok (.iconst 1, 1) := by decide +kernel
theorem dX7_fitPlainly_37 : decode cX7_fitPlainly 37 = .ok (.isub, 1) := by decide +kernel
theorem dX7_fitPlainly_38 : decode cX7_fitPlainly 38 = .ok (.iand, 1) := by decide +kernel
theorem dX7_fitPlainly_39 : decode cX7_fitPlainly 39 = .ok (.dup2, 1) := by decide +kernel
theorem dX7_fitPlainly_40 : decode cX7_fitPlainly 40 = .ok (.iaload, 1) := by decide +kernel
theorem dX7_fitPlainly_41 : decode cX7_fitPlainly 41 = .ok (.iconst 1, 1) := by decide +kernel
theorem dX7_fitPlainly_42 : decode cX7_fitPlainly 42 = .ok (.iadd, 1) := by decide +kernel
theorem dX7_fitPlainly_43 : decode cX7_fitPlainly 43 = .ok (.iastore, 1) := by decide +kernel
theorem dX7_fitPlainly_44 : decode cX7_fitPlainly 44 = .ok (.iinc 4 1, 3) := by decide +kernel
theorem dX7_fitPlainly_47 : decode cX7_fitPlainly 47 = .ok (.goto (-36), 3) := by decide +kernel
theorem dX7_fitPlainly_50 : decode cX7_fitPlainly 50 = .ok (.iconst 0, 1) := by decide +kernel
theorem dX7_fitPlainly_51 : decode cX7_fitPlainly 51 = .ok (.istore 4, 2) := by decide +kernel
theorem dX7_fitPlainly_53 : decode cX7_fitPlainly 53 = .ok (.iconst 0, 1) := by decide +kernel
theorem dX7_fitPlainly_54 : decode cX7_fitPlainly 54 = .ok (.istore 5, 2) := by decide +kernel
theorem dX7_fitPlainly_56 : decode cX7_fitPlainly 56 = .ok (.iload 5, 2) := by decide +kernel
theorem dX7_fitPlainly_58 : decode cX7_fitPlainly 58 = .ok (.aload_n 0, 1) := by decide +kernel
theorem dX7_fitPlainly_59 : decode cX7_fitPlainly 59 = .ok (.getfield 15, 3) := by decide +kernel
theorem dX7_fitPlainly_62 : decode cX7_fitPlainly 62 = .ok (.arraylength, 1) := by decide +kernel
theorem dX7_fitPlainly_63 : decode cX7_fitPlainly 63 = .ok (.if_icmp .ge 28, 3) := by decide +kernel
theorem dX7_fitPlainly_66 : decode cX7_fitPlainly 66 = .ok (.iload 4, 2) := by decide +kernel
theorem dX7_fitPlainly_68 : decode cX7_fitPlainly 68 = .ok (.aload_n 0, 1) := by decide +kernel
theorem dX7_fitPlainly_69 : decode cX7_fitPlainly 69 = .ok (.getfield 15, 3) := by decide +kernel
theorem dX7_fitPlainly_72 : decode cX7_fitPlainly 72 = .ok (.iload 5, 2) := by decide +kernel
theorem dX7_fitPlainly_74 : decode cX7_fitPlainly 74 = .ok (.iaload, 1) := by decide +kernel
theorem dX7_fitPlainly_75 : decode cX7_fitPlainly 75 = .ok (.aload_n 1, 1) := by decide +kernel
theorem dX7_fitPlainly_76 : decode cX7_fitPlainly 76 = .ok (.getfield 18, 3) := by decide +kernel
theorem dX7_fitPlainly_79 : decode cX7_fitPlainly 79 = .ok (.invokestatic 86, 3) := by decide +kernel
theorem dX7_fitPlainly_82 : decode cX7_fitPlainly 82 = .ok (.iadd, 1) := by decide +kernel
theorem dX7_fitPlainly_83 : decode cX7_fitPlainly 83 = .ok (.istore 4, 2) := by decide +kernel
theorem dX7_fitPlainly_85 : decode cX7_fitPlainly 85 = .ok (.iinc 5 1, 3) := by decide +kernel
theorem dX7_fitPlainly_88 : decode cX7_fitPlainly 88 = .ok (.goto (-32), 3) := by decide +kernel
theorem dX7_fitPlainly_91 : decode cX7_fitPlainly 91 = .ok (.iload 4, 2) := by decide +kernel
theorem dX7_fitPlainly_93 : decode cX7_fitPlainly 93 = .ok (.ireturn, 1) := by decide +kernel
def X7_fitPlainly_b56 (o1 : Nat) (v4 v5 : Int32) (m6 : gM) (k56 : Int32 → Int32 → gM → Option (Int32 × gM)) : Option (Int32 × gM) :=
  if 16 ≤ v5 then (some (v4, m6)) else (gAt m6 44 0 v5 (fun (x7 : Int32) => gLet (v4 + (gMin x7 (m6 3 o1 0))) (fun (x8 : Int32) => gLet (v5 + 1) (fun (x9 : Int32) => k56 x8 x9 m6))))
def X7_fitPlainly_b11 (o1 : Nat) (t2 : Nat) (u2 : Nat) (a3 : Int32) (j50 : gM → Option (Int32 × gM)) (v10 : Int32) (m11 : gM) (k11 : Int32 → gM → Option (Int32 × gM)) : Option (Int32 × gM) :=
  if a3 ≤ v10 then (j50 m11) else (if (Int32.ofNat (glen t2)) ≤ v10 then (j50 m11) else (gAt m11 t2 u2 v10 (fun (x12 : Int32) => gCall (X3_slotsOfWay o1 m11) (fun (r14 : Int32) (m13 : gM) => gLet (x12 &&& (r14 - 1)) (fun (x15 : Int32) => gAt m13 44 0 x15 (fun (x16 : Int32) => gPut m13 44 0 x15 (x16 + 1) (fun (m17 : gM) => gLet (v10 + 1) (fun (x18 : Int32) => k11 x18 m17))))))))
def X7_fitPlainly (o1 : Nat) (t2 u2 : Nat) (a3 : Int32) (m : gM) : Option (Int32 × gM) :=
  gCall (J7_fill_53178 44 0 0 m) (fun (r2 : Unit) (m1 : gM) => gJ0 (fun (m3 : gM) => gL2 FU (X7_fitPlainly_b56 o1) 0 0 m3) (fun (j50 : gM → Option (Int32 × gM)) => gL1 FU (X7_fitPlainly_b11 o1 t2 u2 a3 j50) 0 m1))
set_option maxRecDepth 100000 in
set_option maxHeartbeats 4000000 in
theorem c_X7_fitPlainly (o1 : Nat) (t2 u2 : Nat) (a3 : Int32) (ht2 : gia t2 = true) (m : gM) : gCon eI yX7_fitPlainly cX7_fitPlainly 6 (some .int) 1 [.inr (7, 0), .inr (3, o1), .inr (t2, u2), .inl a3] m (X7_fitPlainly o1 t2 u2 a3 m) := by
  refine gCon.of (lv := [some (.inr (7, 0)), some (.inr (3, o1)), some (.inr (t2, u2)), some (.inl a3), none, none]) (by decide +kernel) (Nat.le_of_ble_eq_true rfl) rfl (fun X C => ?_)
  unfold X7_fitPlainly
  refine r_aload_n C dX7_fitPlainly_0 rfl rfl ?_
  refine r_get (v := .inr (44, 0)) C fl_X7_15 dX7_fitPlainly_1 rfl ?_
  refine r_iconst (v := 0) C dX7_fitPlainly_4 (by decide) ?_
  refine r_insU (As := [.inr (44, 0), .inl 0]) (st := []) C il_X7_46 co_J7_fill_53178 (c_J7_fill_53178 44 0 0 rfl m) (by decide) (by decide) rfl rfl (Nat.le_of_ble_eq_true rfl) dX7_fitPlainly_5 (fun r2 m1 => ?_)
  refine r_iconst (v := 0) C dX7_fitPlainly_8 (by decide) ?_
  refine r_istore (lv' := [some (.inr (7, 0)), some (.inr (3, o1)), some (.inr (t2, u2)), some (.inl a3), some (.inl 0), none]) C dX7_fitPlainly_9 (by decide) rfl ?_
  refine r_j0 50 [some (.inr (7, 0)), some (.inr (3, o1)), none, none, none, none] [] (fun m3 => ?_) (fun j50 hj50 => ?_)
  · refine r_iconst (v := 0) C dX7_fitPlainly_50 (by decide) ?_
    refine r_istore (lv' := [some (.inr (7, 0)), some (.inr (3, o1)), none, none, some (.inl 0), none]) C dX7_fitPlainly_51 (by decide) rfl ?_
    refine r_iconst (v := 0) C dX7_fitPlainly_53 (by decide) ?_
    refine r_istore (lv' := [some (.inr (7, 0)), some (.inr (3, o1)), none, none, some (.inl 0), some (.inl 0)]) C dX7_fitPlainly_54 (by decide) rfl ?_
    refine r_weak (lv' := [some (.inr (7, 0)), some (.inr (3, o1)), none, none, some (.inl 0), some (.inl 0)]) ⟨rfl, rfl, rfl, rfl, trivial⟩ ?_
    refine r_l2 (pj := 56) (fun v4 v5 => [some (.inr (7, 0)), some (.inr (3, o1)), none, none, some (.inl v4), some (.inl v5)]) (fun v4 v5 m6 k56 hk56 => ?_) _ _ _ _
    unfold X7_fitPlainly_b56
    refine r_iload C dX7_fitPlainly_56 rfl ?_
    refine r_aload_n C dX7_fitPlainly_58 rfl rfl ?_
    refine r_get (v := .inr (44, 0)) C fl_X7_15 dX7_fitPlainly_59 rfl ?_
    refine r_alen (v := 16) C (by decide) rfl dX7_fitPlainly_62 ?_
    refine r_icmp_ge (tgt := 91) C dX7_fitPlainly_63 (by decide) ?_ ?_
    · refine r_iload C dX7_fitPlainly_91 rfl ?_
      exact r_ireturn C dX7_fitPlainly_93
    refine r_iload C dX7_fitPlainly_66 rfl ?_
    refine r_aload_n C dX7_fitPlainly_68 rfl rfl ?_
    refine r_get (v := .inr (44, 0)) C fl_X7_15 dX7_fitPlainly_69 rfl ?_
    refine r_iload C dX7_fitPlainly_72 rfl ?_
    refine r_iald C rfl dX7_fitPlainly_74 (fun x7 => ?_)
    refine r_aload_n C dX7_fitPlainly_75 rfl rfl ?_
    refine r_get (v := .inl (m6 3 o1 0)) C fl_X7_18 dX7_fitPlainly_76 rfl ?_
    refine r_mmin C im_X7_86 (by decide) (Nat.le_of_ble_eq_true rfl) dX7_fitPlainly_79 ?_
    refine r_iadd C dX7_fitPlainly_82 ?_
    refine r_let (fun x8 => ?_)
    refine r_istore (lv' := [some (.inr (7, 0)), some (.inr (3, o1)), none, none, some (.inl x8), some (.inl v5)]) C dX7_fitPlainly_83 (by decide) rfl ?_
    refine r_iinc (v := 1) C dX7_fitPlainly_85 (by decide) rfl (by decide) (fun x9 => ?_)
    show gw X eI _ [some (.inr (7, 0)), some (.inr (3, o1)), none, none, some (.inl x8), some (.inl x9)] _ _ _
    refine r_goto (tgt := 56) C dX7_fitPlainly_88 (by decide) ?_
    exact r_weak (lv' := [some (.inr (7, 0)), some (.inr (3, o1)), none, none, some (.inl x8), some (.inl x9)]) ⟨rfl, rfl, rfl, rfl, trivial⟩ (hk56 _ _ _)
  refine r_weak (lv' := [some (.inr (7, 0)), some (.inr (3, o1)), some (.inr (t2, u2)), some (.inl a3), some (.inl 0), none]) ⟨rfl, rfl, rfl, rfl, rfl, trivial⟩ ?_
  refine r_l1 (pj := 11) (fun v10 => [some (.inr (7, 0)), some (.inr (3, o1)), some (.inr (t2, u2)), some (.inl a3), some (.inl v10), none]) (fun v10 m11 k11 hk11 => ?_) _ _ _
  unfold X7_fitPlainly_b11
  refine r_iload C dX7_fitPlainly_11 rfl ?_
  refine r_iload_n C dX7_fitPlainly_13 rfl rfl ?_
  refine r_icmp_ge (tgt := 50) C dX7_fitPlainly_14 (by decide) ?_ ?_
  · exact r_weak (lv' := [some (.inr (7, 0)), some (.inr (3, o1)), none, none, none, none]) ⟨rfl, rfl, trivial⟩ (hj50 _)
  refine r_iload C dX7_fitPlainly_17 rfl ?_
  refine r_aload_n C dX7_fitPlainly_19 rfl rfl ?_
  refine r_alen C (gia_spec ht2).1 rfl dX7_fitPlainly_20 ?_
  refine r_icmp_ge (tgt := 50) C dX7_fitPlainly_21 (by decide) ?_ ?_
  · exact r_weak (lv' := [some (.inr (7, 0)), some (.inr (3, o1)), none, none, none, none]) ⟨rfl, rfl, trivial⟩ (hj50 _)
  refine r_aload_n C dX7_fitPlainly_24 rfl rfl ?_
  refine r_get (v := .inr (44, 0)) C fl_X7_15 dX7_fitPlainly_25 rfl ?_
  refine r_aload_n C dX7_fitPlainly_28 rfl rfl ?_
  refine r_iload C dX7_fitPlainly_29 rfl ?_
  refine r_iald C ht2 dX7_fitPlainly_31 (fun x12 => ?_)
  refine r_aload_n C dX7_fitPlainly_32 rfl rfl ?_
  refine r_invI (t := 3) (kb := o1) (As := []) (st := [.inl x12, .inr (44, 0)]) C il_X7_60 co_X3_slotsOfWay (by decide) rfl (c_X3_slotsOfWay o1 m11) (by decide) (by decide) rfl rfl (Nat.le_of_ble_eq_true rfl) dX7_fitPlainly_33 (fun r14 m13 => ?_)
  refine r_iconst (v := 1) C dX7_fitPlainly_36 (by decide) ?_
  refine r_isub C dX7_fitPlainly_37 ?_
  refine r_iand C dX7_fitPlainly_38 ?_
  refine r_let (fun x15 => ?_)
  refine r_dup2 C dX7_fitPlainly_39 ?_
  refine r_iald C rfl dX7_fitPlainly_40 (fun x16 => ?_)
  refine r_iconst (v := 1) C dX7_fitPlainly_41 (by decide) ?_
  refine r_iadd C dX7_fitPlainly_42 ?_
  refine r_iast C rfl dX7_fitPlainly_43 (fun m17 => ?_)
  refine r_iinc (v := 1) C dX7_fitPlainly_44 (by decide) rfl (by decide) (fun x18 => ?_)
  show gw X eI _ [some (.inr (7, 0)), some (.inr (3, o1)), some (.inr (t2, u2)), some (.inl a3), some (.inl x18), none] _ _ _
  refine r_goto (tgt := 11) C dX7_fitPlainly_47 (by decide) ?_
  exact r_weak (lv' := [some (.inr (7, 0)), some (.inr (3, o1)), some (.inr (t2, u2)), some (.inl a3), some (.inl x18), none]) ⟨rfl, rfl, rfl, rfl, rfl, trivial⟩ (hk11 _ _)
theorem dX8_feedFour_0 : decode cX8_feedFour 0 = .ok (.bipush 24, 2) := by decide +kernel
theorem dX8_feedFour_2 : decode cX8_feedFour 2 = .ok (.istore_n 2, 1) := by decide +kernel
theorem dX8_feedFour_3 : decode cX8_feedFour 3 = .ok (.iload_n 2, 1) := by decide +kernel
theorem dX8_feedFour_4 : decode cX8_feedFour 4 = .ok (.ifCond .lt 47, 3) := by decide +kernel
theorem dX8_feedFour_7 : decode cX8_feedFour 7 = .ok (.aload_n 0, 1) := by decide +kernel
theorem dX8_feedFour_8 : decode cX8_feedFour 8 = .ok (.getfield 88, 3) := by decide +kernel
theorem dX8_feedFour_11 : decode cX8_feedFour 11 = .ok (.aload_n 0, 1) := by decide +kernel
theorem dX8_feedFour_12 : decode cX8_feedFour 12 = .ok (.getfield 72, 3) := by decide +kernel
theorem dX8_feedFour_15 : decode cX8_feedFour 15 = .ok (.arraylength, 1) := by decide +kernel
theorem dX8_feedFour_16 : decode cX8_feedFour 16 = .ok (.if_icmp .ge 29, 3) := by decide +kernel
theorem dX8_feedFour_19 : decode cX8_feedFour 19 = .ok (.aload_n 0, 1) := by decide +kernel
theorem dX8_feedFour_20 : decode cX8_feedFour 20 = .ok (.getfield 72, 3) := by decide +kernel
theorem dX8_feedFour_23 : decode cX8_feedFour 23 = .ok (.aload_n 0, 1) := by decide +kernel
theorem dX8_feedFour_24 : decode cX8_feedFour 24 = .ok (.getfield 88, 3) := by decide +kernel
theorem dX8_feedFour_27 : decode cX8_feedFour 27 = .ok (.iload_n 1, 1) := by decide +kernel
theorem dX8_feedFour_28 : decode cX8_feedFour 28 = .ok (.iload_n 2, 1) := by decide +kernel
theorem dX8_feedFour_29 : decode cX8_feedFour 29 = .ok (.iushr, 1) := by decide +kernel
theorem dX8_feedFour_30 : decode cX8_feedFour 30 = .ok (.sipush 255, 3) := by decide +kernel
theorem dX8_feedFour_33 : decode cX8_feedFour 33 = .ok (.iand, 1) := by decide +kernel
theorem dX8_feedFour_34 : decode cX8_feedFour 34 = .ok (.iastore, 1) := by decide +kernel
theorem dX8_feedFour_35 : decode cX8_feedFour 35 = .ok (.aload_n 0, 1) := by decide +kernel
theorem dX8_feedFour_36 : decode cX8_feedFour 36 = .ok (.dup, 1) := by decide +kernel
theorem dX8_feedFour_37 : decode cX8_feedFour 37 = .ok (.getfield 88, 3) := by decide +kernel
theorem dX8_feedFour_40 : decode cX8_feedFour 40 = .ok (.iconst 1, 1) := by decide +kernel
theorem dX8_feedFour_41 : decode cX8_feedFour 41 = .ok (.iadd, 1) := by decide +kernel
theorem dX8_feedFour_42 : decode cX8_feedFour 42 = .ok (.putfield 88, 3) := by decide +kernel
theorem dX8_feedFour_45 : decode cX8_feedFour 45 = .ok (.iinc 2 (-8), 3) := by decide +kernel
theorem dX8_feedFour_48 : decode cX8_feedFour 48 = .ok (.goto (-45), 3) := by decide +kernel
theorem dX8_feedFour_51 : decode cX8_feedFour 51 = .ok (.return_, 1) := by decide +kernel
def X8_feedFour_b3 (a1 : Int32) (v1 : Int32) (m2 : gM) (k3 : Int32 → gM → Option (Unit × gM)) : Option (Unit × gM) :=
  if v1 < 0 then (some ((), m2)) else (if 300 ≤ (m2 8 0 11) then (gLet (v1 + (-8)) (fun (x3 : Int32) => k3 x3 m2)) else (gPut m2 46 0 (m2 8 0 11) ((gUshr a1 v1) &&& 255) (fun (m4 : gM) => gLet ((m4 8 0 11) + 1) (fun (x5 : Int32) => gSet m4 8 0 11 x5 (fun (m6 : gM) => gLet (v1 + (-8)) (fun (x7 : Int32) => k3 x7 m6))))))
def X8_feedFour (a1 : Int32) (m : gM) : Option (Unit × gM) :=
  gL1 FU (X8_feedFour_b3 a1) 24 m
set_option maxRecDepth 100000 in
set_option maxHeartbeats 4000000 in
theorem c_X8_feedFour (a1 : Int32) (m : gM) : gCon eU yX8_feedFour cX8_feedFour 3 none 0 [.inr (8, 0), .inl a1] m (X8_feedFour a1 m) := by
  refine gCon.of (lv := [some (.inr (8, 0)), some (.inl a1), none]) (by decide +kernel) (Nat.le_of_ble_eq_true rfl) rfl (fun X C => ?_)
  unfold X8_feedFour
  refine r_bipush (v := 24) C dX8_feedFour_0 (by decide) ?_
  refine r_istore_n (lv' := [some (.inr (8, 0)), some (.inl a1), some (.inl 24)]) C dX8_feedFour_2 rfl (by decide) rfl ?_
  refine r_weak (lv' := [some (.inr (8, 0)), some (.inl a1), some (.inl 24)]) ⟨rfl, rfl, rfl, trivial⟩ ?_
  refine r_l1 (pj := 3) (fun v1 => [some (.inr (8, 0)), some (.inl a1), some (.inl v1)]) (fun v1 m2 k3 hk3 => ?_) _ _ _
  unfold X8_feedFour_b3
  refine r_iload_n C dX8_feedFour_3 rfl rfl ?_
  refine r_if_lt (tgt := 51) C dX8_feedFour_4 (by decide) ?_ ?_
  · exact r_return C dX8_feedFour_51
  refine r_aload_n C dX8_feedFour_7 rfl rfl ?_
  refine r_get (v := .inl (m2 8 0 11)) C fl_X8_88 dX8_feedFour_8 rfl ?_
  refine r_aload_n C dX8_feedFour_11 rfl rfl ?_
  refine r_get (v := .inr (46, 0)) C fl_X8_72 dX8_feedFour_12 rfl ?_
  refine r_alen (v := 300) C (by decide) rfl dX8_feedFour_15 ?_
  refine r_icmp_ge (tgt := 45) C dX8_feedFour_16 (by decide) ?_ ?_
  · refine r_iinc (v := (-8)) C dX8_feedFour_45 (by decide) rfl (by decide) (fun x3 => ?_)
    show gw X eU _ [some (.inr (8, 0)), some (.inl a1), some (.inl x3)] _ _ _
    refine r_goto (tgt := 3) C dX8_feedFour_48 (by decide) ?_
    exact r_weak (lv' := [some (.inr (8, 0)), some (.inl a1), some (.inl x3)]) ⟨rfl, rfl, rfl, trivial⟩ (hk3 _ _)
  refine r_aload_n C dX8_feedFour_19 rfl rfl ?_
  refine r_get (v := .inr (46, 0)) C fl_X8_72 dX8_feedFour_20 rfl ?_
  refine r_aload_n C dX8_feedFour_23 rfl rfl ?_
  refine r_get (v := .inl (m2 8 0 11)) C fl_X8_88 dX8_feedFour_24 rfl ?_
  refine r_iload_n C dX8_feedFour_27 rfl rfl ?_
  refine r_iload_n C dX8_feedFour_28 rfl rfl ?_
  refine r_iushr C dX8_feedFour_29 ?_
  refine r_sipush (v := 255) C dX8_feedFour_30 (by decide) ?_
  refine r_iand C dX8_feedFour_33 ?_
  refine r_iast C rfl dX8_feedFour_34 (fun m4 => ?_)
  refine r_aload_n C dX8_feedFour_35 rfl rfl ?_
  refine r_dup C dX8_feedFour_36 ?_
  refine r_get (v := .inl (m4 8 0 11)) C fl_X8_88 dX8_feedFour_37 rfl ?_
  refine r_iconst (v := 1) C dX8_feedFour_40 (by decide) ?_
  refine r_iadd C dX8_feedFour_41 ?_
  refine r_let (fun x5 => ?_)
  refine r_put C fl_X8_88 rfl rfl rfl dX8_feedFour_42 (fun m6 => ?_)
  refine r_iinc (v := (-8)) C dX8_feedFour_45 (by decide) rfl (by decide) (fun x7 => ?_)
  show gw X eU _ [some (.inr (8, 0)), some (.inl a1), some (.inl x7)] _ _ _
  refine r_goto (tgt := 3) C dX8_feedFour_48 (by decide) ?_
  exact r_weak (lv' := [some (.inr (8, 0)), some (.inl a1), some (.inl x7)]) ⟨rfl, rfl, rfl, trivial⟩ (hk3 _ _)
theorem dX8_feed_0 : decode cX8_feed 0 = .ok (.aload_n 0, 1) := by decide +kernel
theorem dX8_feed_1 : decode cX8_feed 1 = .ok (.getfield 88, 3) := by decide +kernel
theorem dX8_feed_4 : decode cX8_feed 4 = .ok (.bipush 20, 2) := by decide +kernel
theorem dX8_feed_6 : decode cX8_feed 6 = .ok (.iadd, 1) := by decide +kernel
theorem dX8_feed_7 : decode cX8_feed 7 = .ok (.sipush 300, 3) := by decide +kernel
theorem dX8_feed_10 : decode cX8_feed 10 = .ok (.if_icmp .le 5, 3) := by decide +kernel
theorem dX8_feed_13 : decode cX8_feed 13 = .ok (.iconst (-1), 1) := by decide +kernel
theorem dX8_feed_14 : decode cX8_feed 14 = .ok (.ireturn, 1) := by decide +kernel
theorem dX8_feed_15 : decode cX8_feed 15 = .ok (.aload_n 0, 1) := by decide +kernel
theorem dX8_feed_16 : decode cX8_feed 16 = .ok (.iload_n 1, 1) := by decide +kernel
theorem dX8_feed_17 : decode cX8_feed 17 = .ok (.invokevirtual 91, 3) := by decide +kernel
theorem dX8_feed_20 : decode cX8_feed 20 = .ok (.aload_n 0, 1) := by decide +kernel
theorem dX8_feed_21 : decode cX8_feed 21 = .ok (.iload_n 2, 1) := by decide +kernel
theorem dX8_feed_22 : decode cX8_feed 22 = .ok (.invokevirtual 91, 3) := by decide +kernel
theorem dX8_feed_25 : decode cX8_feed 25 = .ok (.aload_n 0, 1) := by decide +kernel
theorem dX8_feed_26 : decode cX8_feed 26 = .ok (.iload_n 3, 1) := by decide +kernel
theorem dX8_feed_27 : decode cX8_feed 27 = .ok (.invokevirtual 91, 3) := by decide +kernel
theorem dX8_feed_30 : decode cX8_feed 30 = .ok (.aload_n 0, 1) := by decide +kernel
theorem dX8_feed_31 : decode cX8_feed 31 = .ok (.iload 4, 2) := by decide +kernel
theorem dX8_feed_33 : decode cX8_feed 33 = .ok (.invokevirtual 91, 3) := by decide +kernel
theorem dX8_feed_36 : decode cX8_feed 36 = .ok (.aload_n 0, 1) := by decide +kernel
theorem dX8_feed_37 : decode cX8_feed 37 = .ok (.iload 5, 2) := by decide +kernel
theorem dX8_feed_39 : decode cX8_feed 39 = .ok (.invokevirtual 91, 3) := by decide +kernel
theorem dX8_feed_42 : decode cX8_feed 42 = .ok (.aload_n 0, 1) := by decide +kernel
theorem dX8_feed_43 : decode cX8_feed 43 = .ok (.getfield 88, 3) := by decide +kernel
theorem dX8_feed_46 : decode cX8_feed 46 = .ok (.ireturn, 1) := by decide +kernel
def X8_feed (a1 : Int32) (a2 : Int32) (a3 : Int32) (a4 : Int32) (a5 : Int32) (m : gM) : Option (Int32 × gM) :=
  if ((m 8 0 11) + 20) ≤ 300 then (gCall (X8_feedFour a1 m) (fun (r2 : Unit) (m1 : gM) => gCall (X8_feedFour a2 m1) (fun (r4 : Unit) (m3 : gM) => gCall (X8_feedFour a3 m3) (fun (r6 : Unit) (m5 : gM) => gCall (X8_feedFour a4 m5) (fun (r8 : Unit) (m7 : gM) => gCall (X8_feedFour a5 m7) (fun (r10 : Unit) (m9 : gM) => some ((m9 8 0 11), m9))))))) else (some ((-1), m))
set_option maxRecDepth 100000 in
set_option maxHeartbeats 4000000 in
theorem c_X8_feed (a1 : Int32) (a2 : Int32) (a3 : Int32) (a4 : Int32) (a5 : Int32) (m : gM) : gCon eI yX8_feed cX8_feed 6 (some .int) 1 [.inr (8, 0), .inl a1, .inl a2, .inl a3, .inl a4, .inl a5] m (X8_feed a1 a2 a3 a4 a5 m) := by
  refine gCon.of (lv := [some (.inr (8, 0)), some (.inl a1), some (.inl a2), some (.inl a3), some (.inl a4), some (.inl a5)]) (by decide +kernel) (Nat.le_of_ble_eq_true rfl) rfl (fun X C => ?_)
  unfold X8_feed
  refine r_aload_n C dX8_feed_0 rfl rfl ?_
  refine r_get (v := .inl (m 8 0 11)) C fl_X8_88 dX8_feed_1 rfl ?_
  refine r_bipush (v := 20) C dX8_feed_4 (by decide) ?_
  refine r_iadd C dX8_feed_6 ?_
  refine r_sipush (v := 300) C dX8_feed_7 (by decide) ?_
  refine r_icmp_le (tgt := 15) C dX8_feed_10 (by decide) ?_ ?_
  · refine r_aload_n C dX8_feed_15 rfl rfl ?_
    refine r_iload_n C dX8_feed_16 rfl rfl ?_
    refine r_invU (t := 8) (kb := 0) (As := [.inl a1]) (st := []) C il_X8_91 co_X8_feedFour (by decide) rfl (c_X8_feedFour a1 m) (by decide) (by decide) rfl rfl (Nat.le_of_ble_eq_true rfl) dX8_feed_17 (fun r2 m1 => ?_)
    refine r_aload_n C dX8_feed_20 rfl rfl ?_
    refine r_iload_n C dX8_feed_21 rfl rfl ?_
    refine r_invU (t := 8) (kb := 0) (As := [.inl a2]) (st := []) C il_X8_91 co_X8_feedFour (by decide) rfl (c_X8_feedFour a2 m1) (by decide) (by decide) rfl rfl (Nat.le_of_ble_eq_true rfl) dX8_feed_22 (fun r4 m3 => ?_)
    refine r_aload_n C dX8_feed_25 rfl rfl ?_
    refine r_iload_n C dX8_feed_26 rfl rfl ?_
    refine r_invU (t := 8) (kb := 0) (As := [.inl a3]) (st := []) C il_X8_91 co_X8_feedFour (by decide) rfl (c_X8_feedFour a3 m3) (by decide) (by decide) rfl rfl (Nat.le_of_ble_eq_true rfl) dX8_feed_27 (fun r6 m5 => ?_)
    refine r_aload_n C dX8_feed_30 rfl rfl ?_
    refine r_iload C dX8_feed_31 rfl ?_
    refine r_invU (t := 8) (kb := 0) (As := [.inl a4]) (st := []) C il_X8_91 co_X8_feedFour (by decide) rfl (c_X8_feedFour a4 m5) (by decide) (by decide) rfl rfl (Nat.le_of_ble_eq_true rfl) dX8_feed_33 (fun r8 m7 => ?_)
    refine r_aload_n C dX8_feed_36 rfl rfl ?_
    refine r_iload C dX8_feed_37 rfl ?_
    refine r_invU (t := 8) (kb := 0) (As := [.inl a5]) (st := []) C il_X8_91 co_X8_feedFour (by decide) rfl (c_X8_feedFour a5 m7) (by decide) (by decide) rfl rfl (Nat.le_of_ble_eq_true rfl) dX8_feed_39 (fun r10 m9 => ?_)
    refine r_aload_n C dX8_feed_42 rfl rfl ?_
    refine r_get (v := .inl (m9 8 0 11)) C fl_X8_88 dX8_feed_43 rfl ?_
    exact r_ireturn C dX8_feed_46
  refine r_iconst (v := (-1)) C dX8_feed_13 (by decide) ?_
  exact r_ireturn C dX8_feed_14
theorem dX8_end_0 : decode cX8_end 0 = .ok (.iload_n 1, 1) := by decide +kernel
theorem dX8_end_1 : decode cX8_end 1 = .ok (.ifCond .lt 11, 3) := by decide +kernel
theorem dX8_end_4 : decode cX8_end 4 = .ok (.iload_n 1, 1) := by decide +kernel
theorem dX8_end_5 : decode cX8_end 5 = .ok (.aload_n 0, 1) := by decide +kernel
theorem dX8_end_6 : decode cX8_end 6 = .ok (.getfield 88, 3) := by decide +kernel
theorem dX8_end_9 : decode cX8_end 9 = .ok (.if_icmp .le 5, 3) := by decide +kernel
theorem dX8_end_12 : decode cX8_end 12 = .ok (.iconst (-1), 1) := by decide +kernel
theorem dX8_end_13 : decode cX8_end 13 = .ok (.ireturn, 1) := by decide +kernel
theorem dX8_end_14 : decode cX8_end 14 = .ok (.aload_n 0, 1) := by decide +kernel
theorem dX8_end_15 : decode cX8_end 15 = .ok (.iload_n 1, 1) := by decide +kernel
theorem dX8_end_16 : decode cX8_end 16 = .ok (.putfield 88, 3) := by decide +kernel
theorem dX8_end_19 : decode cX8_end 19 = .ok (.iload_n 1, 1) := by decide +kernel
theorem dX8_end_20 : decode cX8_end 20 = .ok (.ireturn, 1) := by decide +kernel
def X8_end (a1 : Int32) (m : gM) : Option (Int32 × gM) :=
  if a1 < 0 then (some ((-1), m)) else (if a1 ≤ (m 8 0 11) then (gSet m 8 0 11 a1 (fun (m1 : gM) => some (a1, m1))) else (some ((-1), m)))
set_option maxRecDepth 100000 in
set_option maxHeartbeats 4000000 in
theorem c_X8_end (a1 : Int32) (m : gM) : gCon eI yX8_end cX8_end 2 (some .int) 0 [.inr (8, 0), .inl a1] m (X8_end a1 m) := by
  refine gCon.of (lv := [some (.inr (8, 0)), some (.inl a1)]) (by decide +kernel) (Nat.le_of_ble_eq_true rfl) rfl (fun X C => ?_)
  unfold X8_end
  refine r_iload_n C dX8_end_0 rfl rfl ?_
  refine r_if_lt (tgt := 12) C dX8_end_1 (by decide) ?_ ?_
  · refine r_iconst (v := (-1)) C dX8_end_12 (by decide) ?_
    exact r_ireturn C dX8_end_13
  refine r_iload_n C dX8_end_4 rfl rfl ?_
  refine r_aload_n C dX8_end_5 rfl rfl ?_
  refine r_get (v := .inl (m 8 0 11)) C fl_X8_88 dX8_end_6 rfl ?_
  refine r_icmp_le (tgt := 14) C dX8_end_9 (by decide) ?_ ?_
  · refine r_aload_n C dX8_end_14 rfl rfl ?_
    refine r_iload_n C dX8_end_15 rfl rfl ?_
    refine r_put C fl_X8_88 rfl rfl rfl dX8_end_16 (fun m1 => ?_)
    refine r_iload_n C dX8_end_19 rfl rfl ?_
    exact r_ireturn C dX8_end_20
  refine r_iconst (v := (-1)) C dX8_end_12 (by decide) ?_
  exact r_ireturn C dX8_end_13
theorem dX8_text_0 : decode cX8_text 0 = .ok (.aload_n 0, 1) := by decide +kernel
theorem dX8_text_1 : decode cX8_text 1 = .ok (.getfield 10, 3) := by decide +kernel
theorem dX8_text_4 : decode cX8_text 4 = .ok (.getfield 95, 3) := by decide +kernel
theorem dX8_text_7 : decode cX8_text 7 = .ok (.iconst 4, 1) := by decide +kernel
theorem dX8_text_8 : decode cX8_text 8 = .ok (.if_icmp .lt 5, 3) := by decide +kernel
theorem dX8_text_11 : decode cX8_text 11 = .ok (.iconst (-1), 1) := by decide +kernel
theorem dX8_text_12 : decode cX8_text 12 = .ok (.ireturn, 1) := by decide +kernel
theorem dX8_text_13 : decode cX8_text 13 = .ok (.aload_n 0, 1) := by decide +kernel
theorem dX8_text_14 : decode cX8_text 14 = .ok (.getfield 57, 3) := by decide +kernel
theorem dX8_text_17 : decode cX8_text 17 = .ok (.aload_n 0, 1) := by decide +kernel
theorem dX8_text_18 : decode cX8_text 18 = .ok (.getfield 72, 3) := by decide +kernel
theorem dX8_text_21 : decode cX8_text 21 = .ok (.aload_n 0, 1) := by decide +kernel
theorem dX8_text_22 : decode cX8_text 22 = .ok (.getfield 88, 3) := by decide +kernel
theorem dX8_text_25 : decode cX8_text 25 = .ok (.aload_n 0, 1) := by decide +kernel
theorem dX8_text_26 : decode cX8_text 26 = .ok (.getfield 64, 3) := by decide +kernel
theorem dX8_text_29 : decode cX8_text 29 = .ok (.invokevirtual 98, 3) := by decide +kernel
theorem dX8_text_32 : decode cX8_text 32 = .ok (.aload_n 0, 1) := by decide +kernel
theorem dX8_text_33 : decode cX8_text 33 = .ok (.iconst 0, 1) := by decide +kernel
theorem dX8_text_34 : decode cX8_text 34 = .ok (.putfield 88, 3) := by decide +kernel
theorem dX8_text_37 : decode cX8_text 37 = .ok (.aload_n 0, 1) := by decide +kernel
theorem dX8_text_38 : decode cX8_text 38 = .ok (.aload_n 0, 1) := by decide +kernel
theorem dX8_text_39 : decode cX8_text 39 = .ok (.getfield 57, 3) := by decide +kernel
theorem dX8_text_42 : decode cX8_text 42 = .ok (.getfield 102, 3) := by decide +kernel
theorem dX8_text_45 : decode cX8_text 45 = .ok (.putfield 75, 3) := by decide +kernel
theorem dX8_text_48 : decode cX8_text 48 = .ok (.aload_n 0, 1) := by decide +kernel
theorem dX8_text_49 : decode cX8_text 49 = .ok (.aload_n 0, 1) := by decide +kernel
theorem dX8_text_50 : decode cX8_text 50 = .ok (.getfield 57, 3) := by decide +kernel
theorem dX8_text_53 : decode cX8_text 53 = .ok (.getfield 105, 3) := by decide +kernel
theorem dX8_text_56 : decode cX8_text 56 = .ok (.putfield 79, 3) := by decide +kernel
theorem dX8_text_59 : decode cX8_text 59 = .ok (.aload_n 0, 1) := by decide +kernel
theorem dX8_text_60 : decode cX8_text 60 = .ok (.getfield 75, 3) := by decide +kernel
theorem dX8_text_63 : decode cX8_text 63 = .ok (.ifCond .eq 5, 3) := by decide +kernel
theorem dX8_text_66 : decode cX8_text 66 = .ok (.iconst (-1), 1) := by decide +kernel
theorem dX8_text_67 : decode cX8_text 67 = .ok (.ireturn, 1) := by decide +kernel
theorem dX8_text_68 : decode cX8_text 68 = .ok (.aload_n 0, 1) := by decide +kernel
theorem dX8_text_69 : decode cX8_text 69 = .ok (.getfield 10, 3) := by decide +kernel
theorem dX8_text_72 : decode cX8_text 72 = .ok (.getfield 95, 3) := by decide +kernel
theorem dX8_text_75 : decode cX8_text 75 = .ok (.istore_n 1, 1) := by decide +kernel
theorem dX8_text_76 : decode cX8_text 76 = .ok (.aload_n 0, 1) := by decide +kernel
theorem dX8_text_77 : decode cX8_text 77 = .ok (.getfield 10, 3) := by decide +kernel
theorem dX8_text_80 : decode cX8_text 80 = .ok (.getfield 108, 3) := by decide +kernel
theorem dX8_text_83 : decode cX8_text 83 = .ok (.iload_n 1, 1) := by decide +kernel
theorem dX8_text_84 : decode cX8_text 84 = .ok (.aaload, 1) := by decide +kernel
theorem dX8_text_85 : decode cX8_text 85 = .ok (.aload_n 0, 1) := by decide +kernel
theorem dX8_text_86 : decode cX8_text 86 = .ok (.getfield 64, 3) := by decide +kernel
theorem dX8_text_89 : decode cX8_text 89 = .ok (.invokevirtual 112, 3) := by decide +kernel
theorem dX8_text_92 : decode cX8_text 92 = .ok (.aload_n 0, 1) := by decide +kernel
theorem dX8_text_93 : decode cX8_text 93 = .ok (.getfield 10, 3) := by decide +kernel
theorem dX8_text_96 : decode cX8_text 96 = .ok (.iload_n 1, 1) := by decide +kernel
theorem dX8_text_97 : decode cX8_text 97 = .ok (.iconst 1, 1) := by decide +kernel
theorem dX8_text_98 : decode cX8_text 98 = .ok (.iadd, 1) := by decide +kernel
theorem dX8_text_99 : decode cX8_text 99 = .ok (.putfield 95, 3) := by decide +kernel
theorem dX8_text_102 : decode cX8_text 102 = .ok (.iload_n 1, 1) := by decide +kernel
theorem dX8_text_103 : decode cX8_text 103 = .ok (.ireturn, 1) := by decide +kernel
def X8_text (m : gM) : Option (Int32 × gM) :=
  if (m 6 0 6) < 4 then (gCall (X0_read 46 0 (m 8 0 11) 8 m) (fun (r2 : Unit) (m1 : gM) => gSet m1 8 0 11 0 (fun (m3 : gM) => gSet m3 8 0 12 (m3 0 0 8) (fun (m4 : gM) => gSet m4 8 0 13 (m4 0 0 9) (fun (m5 : gM) => if (m5 8 0 12) = 0 then (gAtR 42 (m5 6 0 6) (fun (n6 : Nat) => gCall (X5_takeTrace (4 * 0 + n6) 8 m5) (fun (r8 : Unit) (m7 : gM) => gLet ((m5 6 0 6) + 1) (fun (x9 : Int32) => gSet m7 6 0 6 x9 (fun (m10 : gM) => some ((m5 6 0 6), m10)))))) else (some ((-1), m5))))))) else (some ((-1), m))
set_option maxRecDepth 100000 in
set_option maxHeartbeats 4000000 in
theorem c_X8_text (m : gM) : gCon eI yX8_text cX8_text 2 (some .int) 6 [.inr (8, 0)] m (X8_text m) := by
  refine gCon.of (lv := [some (.inr (8, 0)), none]) (by decide +kernel) (Nat.le_of_ble_eq_true rfl) rfl (fun X C => ?_)
  unfold X8_text
  refine r_aload_n C dX8_text_0 rfl rfl ?_
  refine r_get (v := .inr (6, 0)) C fl_X8_10 dX8_text_1 rfl ?_
  refine r_get (v := .inl (m 6 0 6)) C fl_X8_95 dX8_text_4 rfl ?_
  refine r_iconst (v := 4) C dX8_text_7 (by decide) ?_
  refine r_icmp_lt (tgt := 13) C dX8_text_8 (by decide) ?_ ?_
  · refine r_aload_n C dX8_text_13 rfl rfl ?_
    refine r_get (v := .inr (0, 0)) C fl_X8_57 dX8_text_14 rfl ?_
    refine r_aload_n C dX8_text_17 rfl rfl ?_
    refine r_get (v := .inr (46, 0)) C fl_X8_72 dX8_text_18 rfl ?_
    refine r_aload_n C dX8_text_21 rfl rfl ?_
    refine r_get (v := .inl (m 8 0 11)) C fl_X8_88 dX8_text_22 rfl ?_
    refine r_aload_n C dX8_text_25 rfl rfl ?_
    refine r_get (v := .inr (5, 8)) C fl_X8_64 dX8_text_26 rfl ?_
    refine r_invU (t := 0) (kb := 0) (As := [.inr (46, 0), .inl (m 8 0 11), .inr (5, 8)]) (st := []) C il_X8_98 co_X0_read (by decide) rfl (c_X0_read 46 0 (m 8 0 11) 8 rfl m) (by decide) (by decide) rfl rfl (Nat.le_of_ble_eq_true rfl) dX8_text_29 (fun r2 m1 => ?_)
    refine r_aload_n C dX8_text_32 rfl rfl ?_
    refine r_iconst (v := 0) C dX8_text_33 (by decide) ?_
    refine r_put C fl_X8_88 rfl rfl rfl dX8_text_34 (fun m3 => ?_)
    refine r_aload_n C dX8_text_37 rfl rfl ?_
    refine r_aload_n C dX8_text_38 rfl rfl ?_
    refine r_get (v := .inr (0, 0)) C fl_X8_57 dX8_text_39 rfl ?_
    refine r_get (v := .inl (m3 0 0 8)) C fl_X8_102 dX8_text_42 rfl ?_
    refine r_put C fl_X8_75 rfl rfl rfl dX8_text_45 (fun m4 => ?_)
    refine r_aload_n C dX8_text_48 rfl rfl ?_
    refine r_aload_n C dX8_text_49 rfl rfl ?_
    refine r_get (v := .inr (0, 0)) C fl_X8_57 dX8_text_50 rfl ?_
    refine r_get (v := .inl (m4 0 0 9)) C fl_X8_105 dX8_text_53 rfl ?_
    refine r_put C fl_X8_79 rfl rfl rfl dX8_text_56 (fun m5 => ?_)
    refine r_aload_n C dX8_text_59 rfl rfl ?_
    refine r_get (v := .inl (m5 8 0 12)) C fl_X8_75 dX8_text_60 rfl ?_
    refine r_if_eq (tgt := 68) C dX8_text_63 (by decide) ?_ ?_
    · refine r_aload_n C dX8_text_68 rfl rfl ?_
      refine r_get (v := .inr (6, 0)) C fl_X8_10 dX8_text_69 rfl ?_
      refine r_get (v := .inl (m5 6 0 6)) C fl_X8_95 dX8_text_72 rfl ?_
      refine r_istore_n (lv' := [some (.inr (8, 0)), some (.inl (m5 6 0 6))]) C dX8_text_75 rfl (by decide) rfl ?_
      refine r_aload_n C dX8_text_76 rfl rfl ?_
      refine r_get (v := .inr (6, 0)) C fl_X8_10 dX8_text_77 rfl ?_
      refine r_get (v := .inr (42, 0)) C fl_X8_108 dX8_text_80 rfl ?_
      refine r_iload_n C dX8_text_83 rfl rfl ?_
      refine r_aald (q := fun n6 => (5, (4 * 0 + n6))) C (by decide) (fun _ => rfl) dX8_text_84 (fun n6 => ?_)
      refine r_aload_n C dX8_text_85 rfl rfl ?_
      refine r_get (v := .inr (5, 8)) C fl_X8_64 dX8_text_86 rfl ?_
      refine r_invU (t := 5) (kb := (4 * 0 + n6)) (As := [.inr (5, 8)]) (st := []) C il_X8_112 co_X5_takeTrace (by decide) rfl (c_X5_takeTrace (4 * 0 + n6) 8 m5) (by decide) (by decide) rfl rfl (Nat.le_of_ble_eq_true rfl) dX8_text_89 (fun r8 m7 => ?_)
      refine r_aload_n C dX8_text_92 rfl rfl ?_
      refine r_get (v := .inr (6, 0)) C fl_X8_10 dX8_text_93 rfl ?_
      refine r_iload_n C dX8_text_96 rfl rfl ?_
      refine r_iconst (v := 1) C dX8_text_97 (by decide) ?_
      refine r_iadd C dX8_text_98 ?_
      refine r_let (fun x9 => ?_)
      refine r_put C fl_X8_95 rfl rfl rfl dX8_text_99 (fun m10 => ?_)
      refine r_iload_n C dX8_text_102 rfl rfl ?_
      exact r_ireturn C dX8_text_103
    refine r_iconst (v := (-1)) C dX8_text_66 (by decide) ?_
    exact r_ireturn C dX8_text_67
  refine r_iconst (v := (-1)) C dX8_text_11 (by decide) ?_
  exact r_ireturn C dX8_text_12
theorem dX8_fault_0 : decode cX8_fault 0 = .ok (.iload_n 1, 1) := by decide +kernel
theorem dX8_fault_1 : decode cX8_fault 1 = .ok (.ifCond .ne 8, 3) := by decide +kernel
theorem dX8_fault_4 : decode cX8_fault 4 = .ok (.aload_n 0, 1) := by decide +kernel
theorem dX8_fault_5 : decode cX8_fault 5 = .ok (.getfield 75, 3) := by decide +kernel
theorem dX8_fault_8 : decode cX8_fault 8 = .ok (.ireturn, 1) := by decide +kernel
theorem dX8_fault_9 : decode cX8_fault 9 = .ok (.iload_n 1, 1) := by decide +kernel
theorem dX8_fault_10 : decode cX8_fault 10 = .ok (.iconst 1, 1) := by decide +kernel
theorem dX8_fault_11 : decode cX8_fault 11 = .ok (.if_icmp .ne 10, 3) := by decide +kernel
theorem dX8_fault_14 : decode cX8_fault 14 = .ok (.aload_n 0, 1) := by decide +kernel
theorem dX8_fault_15 : decode cX8_fault 15 = .ok (.getfield 79, 3) := by decide +kernel
theorem dX8_fault_18 : decode cX8_fault 18 = .ok (.goto 4, 3) := by decide +kernel
theorem dX8_fault_21 : decode cX8_fault 21 = .ok (.iconst (-1), 1) := by decide +kernel
theorem dX8_fault_22 : decode cX8_fault 22 = .ok (.ireturn, 1) := by decide +kernel
def X8_fault (a1 : Int32) (m : gM) : Option (Int32 × gM) :=
  if a1 = 0 then (some ((m 8 0 12), m)) else (if a1 = 1 then (some ((m 8 0 13), m)) else (some ((-1), m)))
set_option maxRecDepth 100000 in
set_option maxHeartbeats 4000000 in
theorem c_X8_fault (a1 : Int32) (m : gM) : gCon eI yX8_fault cX8_fault 2 (some .int) 0 [.inr (8, 0), .inl a1] m (X8_fault a1 m) := by
  refine gCon.of (lv := [some (.inr (8, 0)), some (.inl a1)]) (by decide +kernel) (Nat.le_of_ble_eq_true rfl) rfl (fun X C => ?_)
  unfold X8_fault
  refine r_iload_n C dX8_fault_0 rfl rfl ?_
  refine r_if_ne (tgt := 9) C dX8_fault_1 (by decide) ?_ ?_
  · refine r_iload_n C dX8_fault_9 rfl rfl ?_
    refine r_iconst (v := 1) C dX8_fault_10 (by decide) ?_
    refine r_icmp_ne (tgt := 21) C dX8_fault_11 (by decide) ?_ ?_
    · refine r_iconst (v := (-1)) C dX8_fault_21 (by decide) ?_
      exact r_ireturn C dX8_fault_22
    refine r_aload_n C dX8_fault_14 rfl rfl ?_
    refine r_get (v := .inl (m 8 0 13)) C fl_X8_79 dX8_fault_15 rfl ?_
    refine r_goto (tgt := 22) C dX8_fault_18 (by decide) ?_
    exact r_ireturn C dX8_fault_22
  refine r_aload_n C dX8_fault_4 rfl rfl ?_
  refine r_get (v := .inl (m 8 0 12)) C fl_X8_75 dX8_fault_5 rfl ?_
  exact r_ireturn C dX8_fault_8
theorem dX8_isLine_0 : decode cX8_isLine 0 = .ok (.iload_n 0, 1) := by decide +kernel
theorem dX8_isLine_1 : decode cX8_isLine 1 = .ok (.ifCond .lt 14, 3) := by decide +kernel
theorem dX8_isLine_4 : decode cX8_isLine 4 = .ok (.iload_n 0, 1) := by decide +kernel
theorem dX8_isLine_5 : decode cX8_isLine 5 = .ok (.sipush 1024, 3) := by decide +kernel
theorem dX8_isLine_8 : decode cX8_isLine 8 = .ok (.if_icmp .ge 7, 3) := by decide +kernel
theorem dX8_isLine_11 : decode cX8_isLine 11 = .ok (.iconst 1, 1) := by decide +kernel
theorem dX8_isLine_12 : decode cX8_isLine 12 = .ok (.goto 4, 3) := by decide +kernel
theorem dX8_isLine_15 : decode cX8_isLine 15 = .ok (.iconst 0, 1) := by decide +kernel
theorem dX8_isLine_16 : decode cX8_isLine 16 = .ok (.ireturn, 1) := by decide +kernel
def X8_isLine (a1 : Int32) (m : gM) : Option (Bool × gM) :=
  if a1 < 0 then (some (false, m)) else (if 1024 ≤ a1 then (some (false, m)) else (some (true, m)))
set_option maxRecDepth 100000 in
set_option maxHeartbeats 4000000 in
theorem c_X8_isLine (a1 : Int32) (m : gM) : gCon eB yX8_isLine cX8_isLine 1 (some .boolean) 0 [.inl a1] m (X8_isLine a1 m) := by
  refine gCon.of (lv := [some (.inl a1)]) (by decide +kernel) (Nat.le_of_ble_eq_true rfl) rfl (fun X C => ?_)
  unfold X8_isLine
  refine r_iload_n C dX8_isLine_0 rfl rfl ?_
  refine r_if_lt (tgt := 15) C dX8_isLine_1 (by decide) ?_ ?_
  · refine r_iconst (v := 0) C dX8_isLine_15 (by decide) ?_
    exact r_zret0 C dX8_isLine_16
  refine r_iload_n C dX8_isLine_4 rfl rfl ?_
  refine r_sipush (v := 1024) C dX8_isLine_5 (by decide) ?_
  refine r_icmp_ge (tgt := 15) C dX8_isLine_8 (by decide) ?_ ?_
  · refine r_iconst (v := 0) C dX8_isLine_15 (by decide) ?_
    exact r_zret0 C dX8_isLine_16
  refine r_iconst (v := 1) C dX8_isLine_11 (by decide) ?_
  refine r_goto (tgt := 16) C dX8_isLine_12 (by decide) ?_
  exact r_zret1 C dX8_isLine_16
theorem dX8_ask_0 : decode cX8_ask 0 = .ok (.iload_n 1, 1) := by decide +kernel
theorem dX8_ask_1 : decode cX8_ask 1 = .ok (.invokestatic 116, 3) := by decide +kernel
theorem dX8_ask_4 : decode cX8_ask 4 = .ok (.ifCond .ne 7, 3) := by decide +kernel
theorem dX8_ask_7 : decode cX8_ask 7 = .ok (.sipush (-10000), 3) := by decide +kernel
theorem dX8_ask_10 : decode cX8_ask 10 = .ok (.ireturn, 1) := by decide +kernel
theorem dX8_ask_11 : decode cX8_ask 11 = .ok (.aload_n 0, 1) := by decide +kernel
theorem dX8_ask_12 : decode cX8_ask 12 = .ok (.getfield 10, 3) := by decide +kernel
theorem dX8_ask_15 : decode cX8_ask 15 = .ok (.invokevirtual 120, 3) := by decide +kernel
theorem dX8_ask_18 : decode cX8_ask 18 = .ok (.aload_n 0, 1) := by decide +kernel
theorem dX8_ask_19 : decode cX8_ask 19 = .ok (.getfield 10, 3) := by decide +kernel
theorem dX8_ask_22 : decode cX8_ask 22 = .ok (.getfield 82, 3) := by decide +kernel
theorem dX8_ask_25 : decode cX8_ask 25 = .ok (.iload_n 1, 1) := by decide +kernel
theorem dX8_ask_26 : decode cX8_ask 26 = .ok (.aload_n 0, 1) := by decide +kernel
theorem dX8_ask_27 : decode cX8_ask 27 = .ok (.getfield 29, 3) := by decide +kernel
theorem dX8_ask_30 : decode cX8_ask 30 = .ok (.invokevirtual 123, 3) := by decide +kernel
theorem dX8_ask_33 : decode cX8_ask 33 = .ok (.pop, 1) := by decide +kernel
theorem dX8_ask_34 : decode cX8_ask 34 = .ok (.aload_n 0, 1) := by decide +kernel
theorem dX8_ask_35 : decode cX8_ask 35 = .ok (.getfield 10, 3) := by decide +kernel
theorem dX8_ask_38 : decode cX8_ask 38 = .ok (.getfield 82, 3) := by decide +kernel
theorem dX8_ask_41 : decode cX8_ask 41 = .ok (.iload_n 1, 1) := by decide +kernel
theorem dX8_ask_42 : decode cX8_ask 42 = .ok (.invokevirtual 127, 3) := by decide +kernel
theorem dX8_ask_45 : decode cX8_ask 45 = .ok (.ireturn, 1) := by decide +kernel
def X8_ask (a1 : Int32) (m : gM) : Option (Int32 × gM) :=
  gCall (X8_isLine a1 m) (fun (r2 : Bool) (m1 : gM) => if r2 = true then (gCall (X6_remember 0 m1) (fun (r4 : Unit) (m3 : gM) => gCall (X3_come 0 a1 m3) (fun (r6 : Int32) (m5 : gM) => gCall (X3_valueOf 0 a1 m5) (fun (r8 : Int32) (m7 : gM) => some (r8, m7))))) else (some ((-10000), m1)))
set_option maxRecDepth 100000 in
set_option maxHeartbeats 4000000 in
theorem c_X8_ask (a1 : Int32) (m : gM) : gCon eI yX8_ask cX8_ask 2 (some .int) 5 [.inr (8, 0), .inl a1] m (X8_ask a1 m) := by
  refine gCon.of (lv := [some (.inr (8, 0)), some (.inl a1)]) (by decide +kernel) (Nat.le_of_ble_eq_true rfl) rfl (fun X C => ?_)
  unfold X8_ask
  refine r_iload_n C dX8_ask_0 rfl rfl ?_
  refine r_insB (As := [.inl a1]) (st := []) C il_X8_116 co_X8_isLine (c_X8_isLine a1 m) (by decide) (by decide) rfl rfl (Nat.le_of_ble_eq_true rfl) dX8_ask_1 (fun r2 m1 => ?_)
  refine r_ifneB (tgt := 11) C dX8_ask_4 (by decide) ?_ ?_
  · refine r_aload_n C dX8_ask_11 rfl rfl ?_
    refine r_get (v := .inr (6, 0)) C fl_X8_10 dX8_ask_12 rfl ?_
    refine r_invU (t := 6) (kb := 0) (As := []) (st := []) C il_X8_120 co_X6_remember (by decide) rfl (c_X6_remember 0 m1) (by decide) (by decide) rfl rfl (Nat.le_of_ble_eq_true rfl) dX8_ask_15 (fun r4 m3 => ?_)
    refine r_aload_n C dX8_ask_18 rfl rfl ?_
    refine r_get (v := .inr (6, 0)) C fl_X8_10 dX8_ask_19 rfl ?_
    refine r_get (v := .inr (3, 0)) C fl_X8_82 dX8_ask_22 rfl ?_
    refine r_iload_n C dX8_ask_25 rfl rfl ?_
    refine r_aload_n C dX8_ask_26 rfl rfl ?_
    refine r_get (v := .inr (1, 0)) C fl_X8_29 dX8_ask_27 rfl ?_
    refine r_invI (t := 3) (kb := 0) (As := [.inl a1, .inr (1, 0)]) (st := []) C il_X8_123 co_X3_come (by decide) rfl (c_X3_come 0 a1 m3) (by decide) (by decide) rfl rfl (Nat.le_of_ble_eq_true rfl) dX8_ask_30 (fun r6 m5 => ?_)
    refine r_pop C dX8_ask_33 ?_
    refine r_aload_n C dX8_ask_34 rfl rfl ?_
    refine r_get (v := .inr (6, 0)) C fl_X8_10 dX8_ask_35 rfl ?_
    refine r_get (v := .inr (3, 0)) C fl_X8_82 dX8_ask_38 rfl ?_
    refine r_iload_n C dX8_ask_41 rfl rfl ?_
    refine r_invI (t := 3) (kb := 0) (As := [.inl a1]) (st := []) C il_X8_127 co_X3_valueOf (by decide) rfl (c_X3_valueOf 0 a1 m5) (by decide) (by decide) rfl rfl (Nat.le_of_ble_eq_true rfl) dX8_ask_42 (fun r8 m7 => ?_)
    exact r_ireturn C dX8_ask_45
  refine r_sipush (v := (-10000)) C dX8_ask_7 (by decide) ?_
  exact r_ireturn C dX8_ask_10
theorem dX8_write_0 : decode cX8_write 0 = .ok (.iload_n 1, 1) := by decide +kernel
theorem dX8_write_1 : decode cX8_write 1 = .ok (.invokestatic 116, 3) := by decide +kernel
theorem dX8_write_4 : decode cX8_write 4 = .ok (.ifCond .eq 17, 3) := by decide +kernel
theorem dX8_write_7 : decode cX8_write 7 = .ok (.iload_n 2, 1) := by decide +kernel
theorem dX8_write_8 : decode cX8_write 8 = .ok (.sipush (-9999), 3) := by decide +kernel
theorem dX8_write_11 : decode cX8_write 11 = .ok (.if_icmp .lt 10, 3) := by decide +kernel
theorem dX8_write_14 : decode cX8_write 14 = .ok (.iload_n 2, 1) := by decide +kernel
theorem dX8_write_15 : decode cX8_write 15 = .ok (.sipush 9999, 3) := by decide +kernel
theorem dX8_write_18 : decode cX8_write 18 = .ok (.if_icmp .le 5, 3) := by decide +kernel
theorem dX8_write_21 : decode cX8_write 21 = .ok (.iconst 0, 1) := by decide +kernel
theorem dX8_write_22 : decode cX8_write 22 = .ok (.ireturn, 1) := by decide +kernel
theorem dX8_write_23 : decode cX8_write 23 = .ok (.aload_n 0, 1) := by decide +kernel
theorem dX8_write_24 : decode cX8_write 24 = .ok (.getfield 10, 3) := by decide +kernel
theorem dX8_write_27 : decode cX8_write 27 = .ok (.invokevirtual 120, 3) := by decide +kernel
theorem dX8_write_30 : decode cX8_write 30 = .ok (.aload_n 0, 1) := by decide +kernel
theorem dX8_write_31 : decode cX8_write 31 = .ok (.getfield 10, 3) := by decide +kernel
theorem dX8_write_34 : decode cX8_write 34 = .ok (.getfield 82, 3) := by decide +kernel
theorem dX8_write_37 : decode cX8_write 37 = .ok (.iload_n 1, 1) := by decide +kernel
theorem dX8_write_38 : decode cX8_write 38 = .ok (.invokevirtual 131, 3) := by decide +kernel
theorem dX8_write_41 : decode cX8_write 41 = .ok (.iconst (-1), 1) := by decide +kernel
theorem dX8_write_42 : decode cX8_write 42 = .ok (.if_icmp .eq 7, 3) := by decide +kernel
theorem dX8_write_45 : decode cX8_write 45 = .ok (.iconst 1, 1) := by decide +kernel
theorem dX8_write_46 : decode cX8_write 46 = .ok (.goto 4, 3) := by decide +kernel
theorem dX8_write_49 : decode cX8_write 49 = .ok (.iconst 0, 1) := by decide +kernel
theorem dX8_write_50 : decode cX8_write 50 = .ok (.istore_n 3, 1) := by decide +kernel
theorem dX8_write_51 : decode cX8_write 51 = .ok (.aload_n 0, 1) := by decide +kernel
theorem dX8_write_52 : decode cX8_write 52 = .ok (.getfield 10, 3) := by decide +kernel
theorem dX8_write_55 : decode cX8_write 55 = .ok (.getfield 82, 3) := by decide +kernel
theorem dX8_write_58 : decode cX8_write 58 = .ok (.iload_n 1, 1) := by decide +kernel
theorem dX8_write_59 : decode cX8_write 59 = .ok (.aload_n 0, 1) := by decide +kernel
theorem dX8_write_60 : decode cX8_write 60 = .ok (.getfield 29, 3) := by decide +kernel
theorem dX8_write_63 : decode cX8_write 63 = .ok (.invokevirtual 123, 3) := by decide +kernel
theorem dX8_write_66 : decode cX8_write 66 = .ok (.istore 4, 2) := by decide +kernel
theorem dX8_write_68 : decode cX8_write 68 = .ok (.aload_n 0, 1) := by decide +kernel
theorem dX8_write_69 : decode cX8_write 69 = .ok (.getfield 10, 3) := by decide +kernel
theorem dX8_write_72 : decode cX8_write 72 = .ok (.getfield 82, 3) := by decide +kernel
theorem dX8_write_75 : decode cX8_write 75 = .ok (.iload_n 1, 1) := by decide +kernel
theorem dX8_write_76 : decode cX8_write 76 = .ok (.iload 4, 2) := by decide +kernel
theorem dX8_write_78 : decode cX8_write 78 = .ok (.iload_n 2, 1) := by decide +kernel
theorem dX8_write_79 : decode cX8_write 79 = .ok (.invokevirtual 134, 3) := by decide +kernel
theorem dX8_write_82 : decode cX8_write 82 = .ok (.iload_n 3, 1) := by decide +kernel
theorem dX8_write_83 : decode cX8_write 83 = .ok (.ireturn, 1) := by decide +kernel
def X8_write (a1 : Int32) (a2 : Int32) (m : gM) : Option (Bool × gM) :=
  gCall (X8_isLine a1 m) (fun (r2 : Bool) (m1 : gM) => if r2 = true then (if a2 < (-9999) then (some (false, m1)) else (if a2 ≤ 9999 then (gCall (X6_remember 0 m1) (fun (r4 : Unit) (m3 : gM) => gCall (X3_placeOf 0 a1 m3) (fun (r6 : Int32) (m5 : gM) => gJ1 (fun (w7 : Int32) (m8 : gM) => gCall (X3_come 0 a1 m8) (fun (r10 : Int32) (m9 : gM) => gCall (X3_put 0 a1 r10 a2 m9) (fun (r12 : Unit) (m11 : gM) => gRetZ w7 m11))) (fun (j50 : Int32 → gM → Option (Bool × gM)) => if r6 = (-1) then (j50 0 m5) else (j50 1 m5))))) else (some (false, m1)))) else (some (false, m1)))
set_option maxRecDepth 100000 in
set_option maxHeartbeats 4000000 in
theorem c_X8_write (a1 : Int32) (a2 : Int32) (m : gM) : gCon eB yX8_write cX8_write 5 (some .boolean) 5 [.inr (8, 0), .inl a1, .inl a2] m (X8_write a1 a2 m) := by
  refine gCon.of (lv := [some (.inr (8, 0)), some (.inl a1), some (.inl a2), none, none]) (by decide +kernel) (Nat.le_of_ble_eq_true rfl) rfl (fun X C => ?_)
  unfold X8_write
  refine r_iload_n C dX8_write_0 rfl rfl ?_
  refine r_insB (As := [.inl a1]) (st := []) C il_X8_116 co_X8_isLine (c_X8_isLine a1 m) (by decide) (by decide) rfl rfl (Nat.le_of_ble_eq_true rfl) dX8_write_1 (fun r2 m1 => ?_)
  refine r_ifeqB (tgt := 21) C dX8_write_4 (by decide) ?_ ?_
  · refine r_iconst (v := 0) C dX8_write_21 (by decide) ?_
    exact r_zret0 C dX8_write_22
  refine r_iload_n C dX8_write_7 rfl rfl ?_
  refine r_sipush (v := (-9999)) C dX8_write_8 (by decide) ?_
  refine r_icmp_lt (tgt := 21) C dX8_write_11 (by decide) ?_ ?_
  · refine r_iconst (v := 0) C dX8_write_21 (by decide) ?_
    exact r_zret0 C dX8_write_22
  refine r_iload_n C dX8_write_14 rfl rfl ?_
  refine r_sipush (v := 9999) C dX8_write_15 (by decide) ?_
  refine r_icmp_le (tgt := 23) C dX8_write_18 (by decide) ?_ ?_
  · refine r_aload_n C dX8_write_23 rfl rfl ?_
    refine r_get (v := .inr (6, 0)) C fl_X8_10 dX8_write_24 rfl ?_
    refine r_invU (t := 6) (kb := 0) (As := []) (st := []) C il_X8_120 co_X6_remember (by decide) rfl (c_X6_remember 0 m1) (by decide) (by decide) rfl rfl (Nat.le_of_ble_eq_true rfl) dX8_write_27 (fun r4 m3 => ?_)
    refine r_aload_n C dX8_write_30 rfl rfl ?_
    refine r_get (v := .inr (6, 0)) C fl_X8_10 dX8_write_31 rfl ?_
    refine r_get (v := .inr (3, 0)) C fl_X8_82 dX8_write_34 rfl ?_
    refine r_iload_n C dX8_write_37 rfl rfl ?_
    refine r_invI (t := 3) (kb := 0) (As := [.inl a1]) (st := []) C il_X8_131 co_X3_placeOf (by decide) rfl (c_X3_placeOf 0 a1 m3) (by decide) (by decide) rfl rfl (Nat.le_of_ble_eq_true rfl) dX8_write_38 (fun r6 m5 => ?_)
    refine r_iconst (v := (-1)) C dX8_write_41 (by decide) ?_
    refine r_j1 50 (fun w7 => [some (.inr (8, 0)), some (.inl a1), some (.inl a2), none, none]) (fun w7 => [.inl w7]) (fun w7 m8 => ?_) (fun j50 hj50 => ?_)
    · refine r_istore_n (lv' := [some (.inr (8, 0)), some (.inl a1), some (.inl a2), some (.inl w7), none]) C dX8_write_50 rfl (by decide) rfl ?_
      refine r_aload_n C dX8_write_51 rfl rfl ?_
      refine r_get (v := .inr (6, 0)) C fl_X8_10 dX8_write_52 rfl ?_
      refine r_get (v := .inr (3, 0)) C fl_X8_82 dX8_write_55 rfl ?_
      refine r_iload_n C dX8_write_58 rfl rfl ?_
      refine r_aload_n C dX8_write_59 rfl rfl ?_
      refine r_get (v := .inr (1, 0)) C fl_X8_29 dX8_write_60 rfl ?_
      refine r_invI (t := 3) (kb := 0) (As := [.inl a1, .inr (1, 0)]) (st := []) C il_X8_123 co_X3_come (by decide) rfl (c_X3_come 0 a1 m8) (by decide) (by decide) rfl rfl (Nat.le_of_ble_eq_true rfl) dX8_write_63 (fun r10 m9 => ?_)
      refine r_istore (lv' := [some (.inr (8, 0)), some (.inl a1), some (.inl a2), some (.inl w7), some (.inl r10)]) C dX8_write_66 (by decide) rfl ?_
      refine r_aload_n C dX8_write_68 rfl rfl ?_
      refine r_get (v := .inr (6, 0)) C fl_X8_10 dX8_write_69 rfl ?_
      refine r_get (v := .inr (3, 0)) C fl_X8_82 dX8_write_72 rfl ?_
      refine r_iload_n C dX8_write_75 rfl rfl ?_
      refine r_iload C dX8_write_76 rfl ?_
      refine r_iload_n C dX8_write_78 rfl rfl ?_
      refine r_invU (t := 3) (kb := 0) (As := [.inl a1, .inl r10, .inl a2]) (st := []) C il_X8_134 co_X3_put (by decide) rfl (c_X3_put 0 a1 r10 a2 m9) (by decide) (by decide) rfl rfl (Nat.le_of_ble_eq_true rfl) dX8_write_79 (fun r12 m11 => ?_)
      refine r_iload_n C dX8_write_82 rfl rfl ?_
      exact r_zret C dX8_write_83
    refine r_icmp_eq (tgt := 49) C dX8_write_42 (by decide) ?_ ?_
    · refine r_iconst (v := 0) C dX8_write_49 (by decide) ?_
      exact r_weak (lv' := [some (.inr (8, 0)), some (.inl a1), some (.inl a2), none, none]) ⟨rfl, rfl, rfl, trivial⟩ (hj50 _ _)
    refine r_iconst (v := 1) C dX8_write_45 (by decide) ?_
    refine r_goto (tgt := 50) C dX8_write_46 (by decide) ?_
    exact r_weak (lv' := [some (.inr (8, 0)), some (.inl a1), some (.inl a2), none, none]) ⟨rfl, rfl, rfl, trivial⟩ (hj50 _ _)
  refine r_iconst (v := 0) C dX8_write_21 (by decide) ?_
  exact r_zret0 C dX8_write_22
theorem dX8_placeHeld_0 : decode cX8_placeHeld 0 = .ok (.iload_n 1, 1) := by decide +kernel
theorem dX8_placeHeld_1 : decode cX8_placeHeld 1 = .ok (.invokestatic 116, 3) := by decide +kernel
theorem dX8_placeHeld_4 : decode cX8_placeHeld 4 = .ok (.ifCond .eq 17, 3) := by decide +kernel
theorem dX8_placeHeld_7 : decode cX8_placeHeld 7 = .ok (.aload_n 0, 1) := by decide +kernel
theorem dX8_placeHeld_8 : decode cX8_placeHeld 8 = .ok (.getfield 10, 3) := by decide +kernel
theorem dX8_placeHeld_11 : decode cX8_placeHeld 11 = .ok (.getfield 82, 3) := by decide +kernel
theorem dX8_placeHeld_14 : decode cX8_placeHeld 14 = .ok (.iload_n 1, 1) := by decide +kernel
theorem dX8_placeHeld_15 : decode cX8_placeHeld 15 = .ok (.invokevirtual 131, 3) := by decide +kernel
theorem dX8_placeHeld_18 : decode cX8_placeHeld 18 = .ok (.goto 4, 3) := by decide +kernel
theorem dX8_placeHeld_21 : decode cX8_placeHeld 21 = .ok (.iconst (-1), 1) := by decide +kernel
theorem dX8_placeHeld_22 : decode cX8_placeHeld 22 = .ok (.ireturn, 1) := by decide +kernel
def X8_placeHeld (a1 : Int32) (m : gM) : Option (Int32 × gM) :=
  gCall (X8_isLine a1 m) (fun (r2 : Bool) (m1 : gM) => if r2 = true then (gCall (X3_placeOf 0 a1 m1) (fun (r4 : Int32) (m3 : gM) => some (r4, m3))) else (some ((-1), m1)))
set_option maxRecDepth 100000 in
set_option maxHeartbeats 4000000 in
theorem c_X8_placeHeld (a1 : Int32) (m : gM) : gCon eI yX8_placeHeld cX8_placeHeld 2 (some .int) 4 [.inr (8, 0), .inl a1] m (X8_placeHeld a1 m) := by
  refine gCon.of (lv := [some (.inr (8, 0)), some (.inl a1)]) (by decide +kernel) (Nat.le_of_ble_eq_true rfl) rfl (fun X C => ?_)
  unfold X8_placeHeld
  refine r_iload_n C dX8_placeHeld_0 rfl rfl ?_
  refine r_insB (As := [.inl a1]) (st := []) C il_X8_116 co_X8_isLine (c_X8_isLine a1 m) (by decide) (by decide) rfl rfl (Nat.le_of_ble_eq_true rfl) dX8_placeHeld_1 (fun r2 m1 => ?_)
  refine r_ifeqB (tgt := 21) C dX8_placeHeld_4 (by decide) ?_ ?_
  · refine r_iconst (v := (-1)) C dX8_placeHeld_21 (by decide) ?_
    exact r_ireturn C dX8_placeHeld_22
  refine r_aload_n C dX8_placeHeld_7 rfl rfl ?_
  refine r_get (v := .inr (6, 0)) C fl_X8_10 dX8_placeHeld_8 rfl ?_
  refine r_get (v := .inr (3, 0)) C fl_X8_82 dX8_placeHeld_11 rfl ?_
  refine r_iload_n C dX8_placeHeld_14 rfl rfl ?_
  refine r_invI (t := 3) (kb := 0) (As := [.inl a1]) (st := []) C il_X8_131 co_X3_placeOf (by decide) rfl (c_X3_placeOf 0 a1 m1) (by decide) (by decide) rfl rfl (Nat.le_of_ble_eq_true rfl) dX8_placeHeld_15 (fun r4 m3 => ?_)
  refine r_goto (tgt := 22) C dX8_placeHeld_18 (by decide) ?_
  exact r_ireturn C dX8_placeHeld_22
theorem dX8_pin_0 : decode cX8_pin 0 = .ok (.aload_n 0, 1) := by decide +kernel
theorem dX8_pin_1 : decode cX8_pin 1 = .ok (.iload_n 1, 1) := by decide +kernel
theorem dX8_pin_2 : decode cX8_pin 2 = .ok (.invokevirtual 138, 3) := by decide +kernel
theorem dX8_pin_5 : decode cX8_pin 5 = .ok (.istore_n 3, 1) := by decide +kernel
theorem dX8_pin_6 : decode cX8_pin 6 = .ok (.iload_n 2, 1) := by decide +kernel
theorem dX8_pin_7 : decode cX8_pin 7 = .ok (.ifCond .eq 7, 3) := by decide +kernel
theorem dX8_pin_10 : decode cX8_pin 10 = .ok (.iconst 1, 1) := by decide +kernel
theorem dX8_pin_11 : decode cX8_pin 11 = .ok (.goto 4, 3) := by decide +kernel
theorem dX8_pin_14 : decode cX8_pin 14 = .ok (.iconst 0, 1) := by decide +kernel
theorem dX8_pin_15 : decode cX8_pin 15 = .ok (.istore 4, 2) := by decide +kernel
theorem dX8_pin_17 : decode cX8_pin 17 = .ok (.iload_n 3, 1) := by decide +kernel
theorem dX8_pin_18 : decode cX8_pin 18 = .ok (.iconst (-1), 1) := by decide +kernel
theorem dX8_pin_19 : decode cX8_pin 19 = .ok (.if_icmp .eq 20, 3) := by decide +kernel
theorem dX8_pin_22 : decode cX8_pin 22 = .ok (.aload_n 0, 1) := by decide +kernel
theorem dX8_pin_23 : decode cX8_pin 23 = .ok (.getfield 10, 3) := by decide +kernel
theorem dX8_pin_26 : decode cX8_pin 26 = .ok (.getfield 82, 3) := by decide +kernel
theorem dX8_pin_29 : decode cX8_pin 29 = .ok (.getfield 141, 3) := by decide +kernel
theorem dX8_pin_32 : decode cX8_pin 32 = .ok (.iload_n 3, 1) := by decide +kernel
theorem dX8_pin_33 : decode cX8_pin 33 = .ok (.iaload, 1) := by decide +kernel
theorem dX8_pin_34 : decode cX8_pin 34 = .ok (.iload 4, 2) := by decide +kernel
theorem dX8_pin_36 : decode cX8_pin 36 = .ok (.if_icmp .ne 5, 3) := by decide +kernel
theorem dX8_pin_39 : decode cX8_pin 39 = .ok (.iconst 0, 1) := by decide +kernel
theorem dX8_pin_40 : decode cX8_pin 40 = .ok (.ireturn, 1) := by decide +kernel
theorem dX8_pin_41 : decode cX8_pin 41 = .ok (.aload_n 0, 1) := by decide +kernel
theorem dX8_pin_42 : decode cX8_pin 42 = .ok (.getfield 10, 3) := by decide +kernel
theorem dX8_pin_45 : decode cX8_pin 45 = .ok (.invokevirtual 120, 3) := by decide +kernel
theorem dX8_pin_48 : decode cX8_pin 48 = .ok (.aload_n 0, 1) := by decide +kernel
theorem dX8_pin_49 : decode cX8_pin 49 = .ok (.getfield 10, 3) := by decide +kernel
theorem dX8_pin_52 : decode cX8_pin 52 = .ok (.getfield 82, 3) := by decide +kernel
theorem dX8_pin_55 : decode cX8_pin 55 = .ok (.getfield 141, 3) := by decide +kernel
theorem dX8_pin_58 : decode cX8_pin 58 = .ok (.iload_n 3, 1) := by decide +kernel
theorem dX8_pin_59 : decode cX8_pin 59 = .ok (.iload 4, 2) := by decide +kernel
theorem dX8_pin_61 : decode cX8_pin 61 = .ok (.iastore, 1) := by decide +kernel
theorem dX8_pin_62 : decode cX8_pin 62 = .ok (.iconst 1, 1) := by decide +kernel
theorem dX8_pin_63 : decode cX8_pin 63 = .ok (.ireturn, 1) := by decide +kernel
def X8_pin (a1 : Int32) (a2 : Int32) (m : gM) : Option (Bool × gM) :=
  gCall (X8_placeHeld a1 m) (fun (r2 : Int32) (m1 : gM) => gJ1 (fun (w3 : Int32) (m4 : gM) => if r2 = (-1) then (some (false, m4)) else (gAt m4 33 0 r2 (fun (x5 : Int32) => if x5 = w3 then (some (false, m4)) else (gCall (X6_remember 0 m4) (fun (r7 : Unit) (m6 : gM) => gPut m6 33 0 r2 w3 (fun (m8 : gM) => some (true, m8))))))) (fun (j15 : Int32 → gM → Option (Bool × gM)) => if a2 = 0 then (j15 0 m1) else (j15 1 m1)))
set_option maxRecDepth 100000 in
set_option maxHeartbeats 4000000 in
theorem c_X8_pin (a1 : Int32) (a2 : Int32) (m : gM) : gCon eB yX8_pin cX8_pin 5 (some .boolean) 5 [.inr (8, 0), .inl a1, .inl a2] m (X8_pin a1 a2 m) := by
  refine gCon.of (lv := [some (.inr (8, 0)), some (.inl a1), some (.inl a2), none, none]) (by decide +kernel) (Nat.le_of_ble_eq_true rfl) rfl (fun X C => ?_)
  unfold X8_pin
  refine r_aload_n C dX8_pin_0 rfl rfl ?_
  refine r_iload_n C dX8_pin_1 rfl rfl ?_
  refine r_invI (t := 8) (kb := 0) (As := [.inl a1]) (st := []) C il_X8_138 co_X8_placeHeld (by decide) rfl (c_X8_placeHeld a1 m) (by decide) (by decide) rfl rfl (Nat.le_of_ble_eq_true rfl) dX8_pin_2 (fun r2 m1 => ?_)
  refine r_istore_n (lv' := [some (.inr (8, 0)), some (.inl a1), some (.inl a2), some (.inl r2), none]) C dX8_pin_5 rfl (by decide) rfl ?_
  refine r_iload_n C dX8_pin_6 rfl rfl ?_
  refine r_j1 15 (fun w3 => [some (.inr (8, 0)), none, none, some (.inl r2), none]) (fun w3 => [.inl w3]) (fun w3 m4 => ?_) (fun j15 hj15 => ?_)
  · refine r_istore (lv' := [some (.inr (8, 0)), none, none, some (.inl r2), some (.inl w3)]) C dX8_pin_15 (by decide) rfl ?_
    refine r_iload_n C dX8_pin_17 rfl rfl ?_
    refine r_iconst (v := (-1)) C dX8_pin_18 (by decide) ?_
    refine r_icmp_eq (tgt := 39) C dX8_pin_19 (by decide) ?_ ?_
    · refine r_iconst (v := 0) C dX8_pin_39 (by decide) ?_
      exact r_zret0 C dX8_pin_40
    refine r_aload_n C dX8_pin_22 rfl rfl ?_
    refine r_get (v := .inr (6, 0)) C fl_X8_10 dX8_pin_23 rfl ?_
    refine r_get (v := .inr (3, 0)) C fl_X8_82 dX8_pin_26 rfl ?_
    refine r_get (v := .inr (33, 0)) C fl_X8_141 dX8_pin_29 rfl ?_
    refine r_iload_n C dX8_pin_32 rfl rfl ?_
    refine r_iald C rfl dX8_pin_33 (fun x5 => ?_)
    refine r_iload C dX8_pin_34 rfl ?_
    refine r_icmp_ne (tgt := 41) C dX8_pin_36 (by decide) ?_ ?_
    · refine r_aload_n C dX8_pin_41 rfl rfl ?_
      refine r_get (v := .inr (6, 0)) C fl_X8_10 dX8_pin_42 rfl ?_
      refine r_invU (t := 6) (kb := 0) (As := []) (st := []) C il_X8_120 co_X6_remember (by decide) rfl (c_X6_remember 0 m4) (by decide) (by decide) rfl rfl (Nat.le_of_ble_eq_true rfl) dX8_pin_45 (fun r7 m6 => ?_)
      refine r_aload_n C dX8_pin_48 rfl rfl ?_
      refine r_get (v := .inr (6, 0)) C fl_X8_10 dX8_pin_49 rfl ?_
      refine r_get (v := .inr (3, 0)) C fl_X8_82 dX8_pin_52 rfl ?_
      refine r_get (v := .inr (33, 0)) C fl_X8_141 dX8_pin_55 rfl ?_
      refine r_iload_n C dX8_pin_58 rfl rfl ?_
      refine r_iload C dX8_pin_59 rfl ?_
      refine r_iast C rfl dX8_pin_61 (fun m8 => ?_)
      refine r_iconst (v := 1) C dX8_pin_62 (by decide) ?_
      exact r_zret1 C dX8_pin_63
    refine r_iconst (v := 0) C dX8_pin_39 (by decide) ?_
    exact r_zret0 C dX8_pin_40
  refine r_if_eq (tgt := 14) C dX8_pin_7 (by decide) ?_ ?_
  · refine r_iconst (v := 0) C dX8_pin_14 (by decide) ?_
    exact r_weak (lv' := [some (.inr (8, 0)), none, none, some (.inl r2), none]) ⟨rfl, rfl, trivial⟩ (hj15 _ _)
  refine r_iconst (v := 1) C dX8_pin_10 (by decide) ?_
  refine r_goto (tgt := 15) C dX8_pin_11 (by decide) ?_
  exact r_weak (lv' := [some (.inr (8, 0)), none, none, some (.inl r2), none]) ⟨rfl, rfl, trivial⟩ (hj15 _ _)
theorem dX8_clean_0 : decode cX8_clean 0 = .ok (.aload_n 0, 1) := by decide +kernel
theorem dX8_clean_1 : decode cX8_clean 1 = .ok (.iload_n 1, 1) := by decide +kernel
theorem dX8_clean_2 : decode cX8_clean 2 = .ok (.invokevirtual 138, 3) := by decide +kernel
theorem dX8_clean_5 : decode cX8_clean 5 = .ok (.istore_n 2, 1) := by decide +kernel
theorem dX8_clean_6 : decode cX8_clean 6 = .ok (.iload_n 2, 1) := by decide +kernel
theorem dX8_clean_7 : decode cX8_clean 7 = .ok (.iconst (-1), 1) := by decide +kernel
theorem dX8_clean_8 : decode cX8_clean 8 = .ok (.if_icmp .eq 18, 3) := by decide +kernel
theorem dX8_clean_11 : decode cX8_clean 11 = .ok (.aload_n 0, 1) := by decide +kernel
theorem dX8_clean_12 : decode cX8_clean 12 = .ok (.getfield 10, 3) := by decide +kernel
theorem dX8_clean_15 : decode cX8_clean 15 = .ok (.getfield 82, 3) := by decide +kernel
theorem dX8_clean_18 : decode cX8_clean 18 = .ok (.getfield 144, 3) := by decide +kernel
theorem dX8_clean_21 : decode cX8_clean 21 = .ok (.iload_n 2, 1) := by decide +kernel
theorem dX8_clean_22 : decode cX8_clean 22 = .ok (.iaload, 1) := by decide +kernel
theorem dX8_clean_23 : decode cX8_clean 23 = .ok (.ifCond .ne 7, 3) := by decide +kernel
theorem dX8_clean_26 : decode cX8_clean 26 = .ok (.sipush (-10000), 3) := by decide +kernel
theorem dX8_clean_29 : decode cX8_clean 29 = .ok (.ireturn, 1) := by decide +kernel
theorem dX8_clean_30 : decode cX8_clean 30 = .ok (.aload_n 0, 1) := by decide +kernel
theorem dX8_clean_31 : decode cX8_clean 31 = .ok (.getfield 10, 3) := by decide +kernel
theorem dX8_clean_34 : decode cX8_clean 34 = .ok (.invokevirtual 120, 3) := by decide +kernel
theorem dX8_clean_37 : decode cX8_clean 37 = .ok (.aload_n 0, 1) := by decide +kernel
theorem dX8_clean_38 : decode cX8_clean 38 = .ok (.getfield 10, 3) := by decide +kernel
theorem dX8_clean_41 : decode cX8_clean 41 = .ok (.getfield 82, 3) := by decide +kernel
theorem dX8_clean_44 : decode cX8_clean 44 = .ok (.iload_n 2, 1) := by decide +kernel
theorem dX8_clean_45 : decode cX8_clean 45 = .ok (.invokevirtual 147, 3) := by decide +kernel
theorem dX8_clean_48 : decode cX8_clean 48 = .ok (.pop, 1) := by decide +kernel
theorem dX8_clean_49 : decode cX8_clean 49 = .ok (.aload_n 0, 1) := by decide +kernel
theorem dX8_clean_50 : decode cX8_clean 50 = .ok (.getfield 10, 3) := by decide +kernel
theorem dX8_clean_53 : decode cX8_clean 53 = .ok (.getfield 82, 3) := by decide +kernel
theorem dX8_clean_56 : decode cX8_clean 56 = .ok (.getfield 150, 3) := by decide +kernel
theorem dX8_clean_59 : decode cX8_clean 59 = .ok (.iload_n 2, 1) := by decide +kernel
theorem dX8_clean_60 : decode cX8_clean 60 = .ok (.iaload, 1) := by decide +kernel
theorem dX8_clean_61 : decode cX8_clean 61 = .ok (.ireturn, 1) := by decide +kernel
def X8_clean (a1 : Int32) (m : gM) : Option (Int32 × gM) :=
  gCall (X8_placeHeld a1 m) (fun (r2 : Int32) (m1 : gM) => if r2 = (-1) then (some ((-10000), m1)) else (gAt m1 31 0 r2 (fun (x3 : Int32) => if x3 = 0 then (some ((-10000), m1)) else (gCall (X6_remember 0 m1) (fun (r5 : Unit) (m4 : gM) => gCall (X3_bringBack 0 r2 m4) (fun (r7 : Int32) (m6 : gM) => gAt m6 30 0 r2 (fun (x8 : Int32) => some (x8, m6))))))))
set_option maxRecDepth 100000 in
set_option maxHeartbeats 4000000 in
theorem c_X8_clean (a1 : Int32) (m : gM) : gCon eI yX8_clean cX8_clean 3 (some .int) 5 [.inr (8, 0), .inl a1] m (X8_clean a1 m) := by
  refine gCon.of (lv := [some (.inr (8, 0)), some (.inl a1), none]) (by decide +kernel) (Nat.le_of_ble_eq_true rfl) rfl (fun X C => ?_)
  unfold X8_clean
  refine r_aload_n C dX8_clean_0 rfl rfl ?_
  refine r_iload_n C dX8_clean_1 rfl rfl ?_
  refine r_invI (t := 8) (kb := 0) (As := [.inl a1]) (st := []) C il_X8_138 co_X8_placeHeld (by decide) rfl (c_X8_placeHeld a1 m) (by decide) (by decide) rfl rfl (Nat.le_of_ble_eq_true rfl) dX8_clean_2 (fun r2 m1 => ?_)
  refine r_istore_n (lv' := [some (.inr (8, 0)), some (.inl a1), some (.inl r2)]) C dX8_clean_5 rfl (by decide) rfl ?_
  refine r_iload_n C dX8_clean_6 rfl rfl ?_
  refine r_iconst (v := (-1)) C dX8_clean_7 (by decide) ?_
  refine r_icmp_eq (tgt := 26) C dX8_clean_8 (by decide) ?_ ?_
  · refine r_sipush (v := (-10000)) C dX8_clean_26 (by decide) ?_
    exact r_ireturn C dX8_clean_29
  refine r_aload_n C dX8_clean_11 rfl rfl ?_
  refine r_get (v := .inr (6, 0)) C fl_X8_10 dX8_clean_12 rfl ?_
  refine r_get (v := .inr (3, 0)) C fl_X8_82 dX8_clean_15 rfl ?_
  refine r_get (v := .inr (31, 0)) C fl_X8_144 dX8_clean_18 rfl ?_
  refine r_iload_n C dX8_clean_21 rfl rfl ?_
  refine r_iald C rfl dX8_clean_22 (fun x3 => ?_)
  refine r_if_ne (tgt := 30) C dX8_clean_23 (by decide) ?_ ?_
  · refine r_aload_n C dX8_clean_30 rfl rfl ?_
    refine r_get (v := .inr (6, 0)) C fl_X8_10 dX8_clean_31 rfl ?_
    refine r_invU (t := 6) (kb := 0) (As := []) (st := []) C il_X8_120 co_X6_remember (by decide) rfl (c_X6_remember 0 m1) (by decide) (by decide) rfl rfl (Nat.le_of_ble_eq_true rfl) dX8_clean_34 (fun r5 m4 => ?_)
    refine r_aload_n C dX8_clean_37 rfl rfl ?_
    refine r_get (v := .inr (6, 0)) C fl_X8_10 dX8_clean_38 rfl ?_
    refine r_get (v := .inr (3, 0)) C fl_X8_82 dX8_clean_41 rfl ?_
    refine r_iload_n C dX8_clean_44 rfl rfl ?_
    refine r_invI (t := 3) (kb := 0) (As := [.inl r2]) (st := []) C il_X8_147 co_X3_bringBack (by decide) rfl (c_X3_bringBack 0 r2 m4) (by decide) (by decide) rfl rfl (Nat.le_of_ble_eq_true rfl) dX8_clean_45 (fun r7 m6 => ?_)
    refine r_pop C dX8_clean_48 ?_
    refine r_aload_n C dX8_clean_49 rfl rfl ?_
    refine r_get (v := .inr (6, 0)) C fl_X8_10 dX8_clean_50 rfl ?_
    refine r_get (v := .inr (3, 0)) C fl_X8_82 dX8_clean_53 rfl ?_
    refine r_get (v := .inr (30, 0)) C fl_X8_150 dX8_clean_56 rfl ?_
    refine r_iload_n C dX8_clean_59 rfl rfl ?_
    refine r_iald C rfl dX8_clean_60 (fun x8 => ?_)
    exact r_ireturn C dX8_clean_61
  refine r_sipush (v := (-10000)) C dX8_clean_26 (by decide) ?_
  exact r_ireturn C dX8_clean_29
theorem dX8_leave_0 : decode cX8_leave 0 = .ok (.aload_n 0, 1) := by decide +kernel
theorem dX8_leave_1 : decode cX8_leave 1 = .ok (.iload_n 1, 1) := by decide +kernel
theorem dX8_leave_2 : decode cX8_leave 2 = .ok (.invokevirtual 138, 3) := by decide +kernel
theorem dX8_leave_5 : decode cX8_leave 5 = .ok (.istore_n 2, 1) := by decide +kernel
theorem dX8_leave_6 : decode cX8_leave 6 = .ok (.iload_n 2, 1) := by decide +kernel
theorem dX8_leave_7 : decode cX8_leave 7 = .ok (.iconst (-1), 1) := by decide +kernel
theorem dX8_leave_8 : decode cX8_leave 8 = .ok (.if_icmp .ne 7, 3) := by decide +kernel
theorem dX8_leave_11 : decode cX8_leave 11 = .ok (.sipush (-10000), 3) := by decide +kernel
theorem dX8_leave_14 : decode cX8_leave 14 = .ok (.ireturn, 1) := by decide +kernel
theorem dX8_leave_15 : decode cX8_leave 15 = .ok (.aload_n 0, 1) := by decide +kernel
theorem dX8_leave_16 : decode cX8_leave 16 = .ok (.getfield 10, 3) := by decide +kernel
theorem dX8_leave_19 : decode cX8_leave 19 = .ok (.invokevirtual 120, 3) := by decide +kernel
theorem dX8_leave_22 : decode cX8_leave 22 = .ok (.aload_n 0, 1) := by decide +kernel
theorem dX8_leave_23 : decode cX8_leave 23 = .ok (.getfield 10, 3) := by decide +kernel
theorem dX8_leave_26 : decode cX8_leave 26 = .ok (.getfield 82, 3) := by decide +kernel
theorem dX8_leave_29 : decode cX8_leave 29 = .ok (.getfield 150, 3) := by decide +kernel
theorem dX8_leave_32 : decode cX8_leave 32 = .ok (.iload_n 2, 1) := by decide +kernel
theorem dX8_leave_33 : decode cX8_leave 33 = .ok (.iaload, 1) := by decide +kernel
theorem dX8_leave_34 : decode cX8_leave 34 = .ok (.istore_n 3, 1) := by decide +kernel
theorem dX8_leave_35 : decode cX8_leave 35 = .ok (.aload_n 0, 1) := by decide +kernel
theorem dX8_leave_36 : decode cX8_leave 36 = .ok (.getfield 10, 3) := by decide +kernel
theorem dX8_leave_39 : decode cX8_leave 39 = .ok (.getfield 82, 3) := by decide +kernel
theorem dX8_leave_42 : decode cX8_leave 42 = .ok (.iload_n 2, 1) := by decide +kernel
theorem dX8_leave_43 : decode cX8_leave 43 = .ok (.invokevirtual 147, 3) := by decide +kernel
theorem dX8_leave_46 : decode cX8_leave 46 = .ok (.pop, 1) := by decide +kernel
theorem dX8_leave_47 : decode cX8_leave 47 = .ok (.aload_n 0, 1) := by decide +kernel
theorem dX8_leave_48 : decode cX8_leave 48 = .ok (.getfield 10, 3) := by decide +kernel
theorem dX8_leave_51 : decode cX8_leave 51 = .ok (.getfield 82, 3) := by decide +kernel
theorem dX8_leave_54 : decode cX8_leave 54 = .ok (.iload_n 2, 1) := by decide +kernel
theorem dX8_leave_55 : decode cX8_leave 55 = .ok (.invokevirtual 153, 3) := by decide +kernel
theorem dX8_leave_58 : decode cX8_leave 58 = .ok (.iload_n 3, 1) := by decide +kernel
theorem dX8_leave_59 : decode cX8_leave 59 = .ok (.ireturn, 1) := by decide +kernel
def X8_leave (a1 : Int32) (m : gM) : Option (Int32 × gM) :=
  gCall (X8_placeHeld a1 m) (fun (r2 : Int32) (m1 : gM) => if r2 = (-1) then (some ((-10000), m1)) else (gCall (X6_remember 0 m1) (fun (r4 : Unit) (m3 : gM) => gAt m3 30 0 r2 (fun (x5 : Int32) => gCall (X3_bringBack 0 r2 m3) (fun (r7 : Int32) (m6 : gM) => gCall (X3_makeEmpty 0 r2 m6) (fun (r9 : Unit) (m8 : gM) => some (x5, m8)))))))
set_option maxRecDepth 100000 in
set_option maxHeartbeats 4000000 in
theorem c_X8_leave (a1 : Int32) (m : gM) : gCon eI yX8_leave cX8_leave 4 (some .int) 5 [.inr (8, 0), .inl a1] m (X8_leave a1 m) := by
  refine gCon.of (lv := [some (.inr (8, 0)), some (.inl a1), none, none]) (by decide +kernel) (Nat.le_of_ble_eq_true rfl) rfl (fun X C => ?_)
  unfold X8_leave
  refine r_aload_n C dX8_leave_0 rfl rfl ?_
  refine r_iload_n C dX8_leave_1 rfl rfl ?_
  refine r_invI (t := 8) (kb := 0) (As := [.inl a1]) (st := []) C il_X8_138 co_X8_placeHeld (by decide) rfl (c_X8_placeHeld a1 m) (by decide) (by decide) rfl rfl (Nat.le_of_ble_eq_true rfl) dX8_leave_2 (fun r2 m1 => ?_)
  refine r_istore_n (lv' := [some (.inr (8, 0)), some (.inl a1), some (.inl r2), none]) C dX8_leave_5 rfl (by decide) rfl ?_
  refine r_iload_n C dX8_leave_6 rfl rfl ?_
  refine r_iconst (v := (-1)) C dX8_leave_7 (by decide) ?_
  refine r_icmp_ne (tgt := 15) C dX8_leave_8 (by decide) ?_ ?_
  · refine r_aload_n C dX8_leave_15 rfl rfl ?_
    refine r_get (v := .inr (6, 0)) C fl_X8_10 dX8_leave_16 rfl ?_
    refine r_invU (t := 6) (kb := 0) (As := []) (st := []) C il_X8_120 co_X6_remember (by decide) rfl (c_X6_remember 0 m1) (by decide) (by decide) rfl rfl (Nat.le_of_ble_eq_true rfl) dX8_leave_19 (fun r4 m3 => ?_)
    refine r_aload_n C dX8_leave_22 rfl rfl ?_
    refine r_get (v := .inr (6, 0)) C fl_X8_10 dX8_leave_23 rfl ?_
    refine r_get (v := .inr (3, 0)) C fl_X8_82 dX8_leave_26 rfl ?_
    refine r_get (v := .inr (30, 0)) C fl_X8_150 dX8_leave_29 rfl ?_
    refine r_iload_n C dX8_leave_32 rfl rfl ?_
    refine r_iald C rfl dX8_leave_33 (fun x5 => ?_)
    refine r_istore_n (lv' := [some (.inr (8, 0)), some (.inl a1), some (.inl r2), some (.inl x5)]) C dX8_leave_34 rfl (by decide) rfl ?_
    refine r_aload_n C dX8_leave_35 rfl rfl ?_
    refine r_get (v := .inr (6, 0)) C fl_X8_10 dX8_leave_36 rfl ?_
    refine r_get (v := .inr (3, 0)) C fl_X8_82 dX8_leave_39 rfl ?_
    refine r_iload_n C dX8_leave_42 rfl rfl ?_
    refine r_invI (t := 3) (kb := 0) (As := [.inl r2]) (st := []) C il_X8_147 co_X3_bringBack (by decide) rfl (c_X3_bringBack 0 r2 m3) (by decide) (by decide) rfl rfl (Nat.le_of_ble_eq_true rfl) dX8_leave_43 (fun r7 m6 => ?_)
    refine r_pop C dX8_leave_46 ?_
    refine r_aload_n C dX8_leave_47 rfl rfl ?_
    refine r_get (v := .inr (6, 0)) C fl_X8_10 dX8_leave_48 rfl ?_
    refine r_get (v := .inr (3, 0)) C fl_X8_82 dX8_leave_51 rfl ?_
    refine r_iload_n C dX8_leave_54 rfl rfl ?_
    refine r_invU (t := 3) (kb := 0) (As := [.inl r2]) (st := []) C il_X8_153 co_X3_makeEmpty (by decide) rfl (c_X3_makeEmpty 0 r2 m6) (by decide) (by decide) rfl rfl (Nat.le_of_ble_eq_true rfl) dX8_leave_55 (fun r9 m8 => ?_)
    refine r_iload_n C dX8_leave_58 rfl rfl ?_
    exact r_ireturn C dX8_leave_59
  refine r_sipush (v := (-10000)) C dX8_leave_11 (by decide) ?_
  exact r_ireturn C dX8_leave_14
theorem dX8_cool_0 : decode cX8_cool 0 = .ok (.aload_n 0, 1) := by decide +kernel
theorem dX8_cool_1 : decode cX8_cool 1 = .ok (.getfield 10, 3) := by decide +kernel
theorem dX8_cool_4 : decode cX8_cool 4 = .ok (.invokevirtual 120, 3) := by decide +kernel
theorem dX8_cool_7 : decode cX8_cool 7 = .ok (.aload_n 0, 1) := by decide +kernel
theorem dX8_cool_8 : decode cX8_cool 8 = .ok (.getfield 10, 3) := by decide +kernel
theorem dX8_cool_11 : decode cX8_cool 11 = .ok (.getfield 82, 3) := by decide +kernel
theorem dX8_cool_14 : decode cX8_cool 14 = .ok (.invokevirtual 156, 3) := by decide +kernel
theorem dX8_cool_17 : decode cX8_cool 17 = .ok (.ireturn, 1) := by decide +kernel
def X8_cool (m : gM) : Option (Int32 × gM) :=
  gCall (X6_remember 0 m) (fun (r2 : Unit) (m1 : gM) => gCall (X3_coolAll 0 m1) (fun (r4 : Int32) (m3 : gM) => some (r4, m3)))
set_option maxRecDepth 100000 in
set_option maxHeartbeats 4000000 in
theorem c_X8_cool (m : gM) : gCon eI yX8_cool cX8_cool 1 (some .int) 4 [.inr (8, 0)] m (X8_cool m) := by
  refine gCon.of (lv := [some (.inr (8, 0))]) (by decide +kernel) (Nat.le_of_ble_eq_true rfl) rfl (fun X C => ?_)
  unfold X8_cool
  refine r_aload_n C dX8_cool_0 rfl rfl ?_
  refine r_get (v := .inr (6, 0)) C fl_X8_10 dX8_cool_1 rfl ?_
  refine r_invU (t := 6) (kb := 0) (As := []) (st := []) C il_X8_120 co_X6_remember (by decide) rfl (c_X6_remember 0 m) (by decide) (by decide) rfl rfl (Nat.le_of_ble_eq_true rfl) dX8_cool_4 (fun r2 m1 => ?_)
  refine r_aload_n C dX8_cool_7 rfl rfl ?_
  refine r_get (v := .inr (6, 0)) C fl_X8_10 dX8_cool_8 rfl ?_
  refine r_get (v := .inr (3, 0)) C fl_X8_82 dX8_cool_11 rfl ?_
  refine r_invI (t := 3) (kb := 0) (As := []) (st := []) C il_X8_156 co_X3_coolAll (by decide) rfl (c_X3_coolAll 0 m1) (by decide) (by decide) rfl rfl (Nat.le_of_ble_eq_true rfl) dX8_cool_14 (fun r4 m3 => ?_)
  exact r_ireturn C dX8_cool_17
theorem dX8_isWay_0 : decode cX8_isWay 0 = .ok (.iload_n 1, 1) := by decide +kernel
theorem dX8_isWay_1 : decode cX8_isWay 1 = .ok (.ifCond .lt 21, 3) := by decide +kernel
theorem dX8_isWay_4 : decode cX8_isWay 4 = .ok (.iload_n 1, 1) := by decide +kernel
theorem dX8_isWay_5 : decode cX8_isWay 5 = .ok (.aload_n 0, 1) := by decide +kernel
theorem dX8_isWay_6 : decode cX8_isWay 6 = .ok (.getfield 10, 3) := by decide +kernel
theorem dX8_isWay_9 : decode cX8_isWay 9 = .ok (.getfield 82, 3) := by decide +kernel
theorem dX8_isWay_12 : decode cX8_isWay 12 = .ok (.getfield 170, 3) := by decide +kernel
theorem dX8_isWay_15 : decode cX8_isWay 15 = .ok (.if_icmp .ge 7, 3) := by decide +kernel
theorem dX8_isWay_18 : decode cX8_isWay 18 = .ok (.iconst 1, 1) := by decide +kernel
theorem dX8_isWay_19 : decode cX8_isWay 19 = .ok (.goto 4, 3) := by decide +kernel
theorem dX8_isWay_22 : decode cX8_isWay 22 = .ok (.iconst 0, 1) := by decide +kernel
theorem dX8_isWay_23 : decode cX8_isWay 23 = .ok (.ireturn, 1) := by decide +kernel
def X8_isWay (a1 : Int32) (m : gM) : Option (Bool × gM) :=
  if a1 < 0 then (some (false, m)) else (if (m 3 0 0) ≤ a1 then (some (false, m)) else (some (true, m)))
set_option maxRecDepth 100000 in
set_option maxHeartbeats 4000000 in
theorem c_X8_isWay (a1 : Int32) (m : gM) : gCon eB yX8_isWay cX8_isWay 2 (some .boolean) 0 [.inr (8, 0), .inl a1] m (X8_isWay a1 m) := by
  refine gCon.of (lv := [some (.inr (8, 0)), some (.inl a1)]) (by decide +kernel) (Nat.le_of_ble_eq_true rfl) rfl (fun X C => ?_)
  unfold X8_isWay
  refine r_iload_n C dX8_isWay_0 rfl rfl ?_
  refine r_if_lt (tgt := 22) C dX8_isWay_1 (by decide) ?_ ?_
  · refine r_iconst (v := 0) C dX8_isWay_22 (by decide) ?_
    exact r_zret0 C dX8_isWay_23
  refine r_iload_n C dX8_isWay_4 rfl rfl ?_
  refine r_aload_n C dX8_isWay_5 rfl rfl ?_
  refine r_get (v := .inr (6, 0)) C fl_X8_10 dX8_isWay_6 rfl ?_
  refine r_get (v := .inr (3, 0)) C fl_X8_82 dX8_isWay_9 rfl ?_
  refine r_get (v := .inl (m 3 0 0)) C fl_X8_170 dX8_isWay_12 rfl ?_
  refine r_icmp_ge (tgt := 22) C dX8_isWay_15 (by decide) ?_ ?_
  · refine r_iconst (v := 0) C dX8_isWay_22 (by decide) ?_
    exact r_zret0 C dX8_isWay_23
  refine r_iconst (v := 1) C dX8_isWay_18 (by decide) ?_
  refine r_goto (tgt := 23) C dX8_isWay_19 (by decide) ?_
  exact r_zret1 C dX8_isWay_23
theorem dX8_trade_0 : decode cX8_trade 0 = .ok (.aload_n 0, 1) := by decide +kernel
theorem dX8_trade_1 : decode cX8_trade 1 = .ok (.iload_n 1, 1) := by decide +kernel
theorem dX8_trade_2 : decode cX8_trade 2 = .ok (.invokevirtual 160, 3) := by decide +kernel
theorem dX8_trade_5 : decode cX8_trade 5 = .ok (.ifCond .eq 16, 3) := by decide +kernel
theorem dX8_trade_8 : decode cX8_trade 8 = .ok (.aload_n 0, 1) := by decide +kernel
theorem dX8_trade_9 : decode cX8_trade 9 = .ok (.iload_n 2, 1) := by decide +kernel
theorem dX8_trade_10 : decode cX8_trade 10 = .ok (.invokevirtual 160, 3) := by decide +kernel
theorem dX8_trade_13 : decode cX8_trade 13 = .ok (.ifCond .eq 8, 3) := by decide +kernel
theorem dX8_trade_16 : decode cX8_trade 16 = .ok (.iload_n 1, 1) := by decide +kernel
theorem dX8_trade_17 : decode cX8_trade 17 = .ok (.iload_n 2, 1) := by decide +kernel
theorem dX8_trade_18 : decode cX8_trade 18 = .ok (.if_icmp .ne 5, 3) := by decide +kernel
theorem dX8_trade_21 : decode cX8_trade 21 = .ok (.iconst 0, 1) := by decide +kernel
theorem dX8_trade_22 : decode cX8_trade 22 = .ok (.ireturn, 1) := by decide +kernel
theorem dX8_trade_23 : decode cX8_trade 23 = .ok (.aload_n 0, 1) := by decide +kernel
theorem dX8_trade_24 : decode cX8_trade 24 = .ok (.getfield 10, 3) := by decide +kernel
theorem dX8_trade_27 : decode cX8_trade 27 = .ok (.invokevirtual 120, 3) := by decide +kernel
theorem dX8_trade_30 : decode cX8_trade 30 = .ok (.aload_n 0, 1) := by decide +kernel
theorem dX8_trade_31 : decode cX8_trade 31 = .ok (.getfield 10, 3) := by decide +kernel
theorem dX8_trade_34 : decode cX8_trade 34 = .ok (.getfield 82, 3) := by decide +kernel
theorem dX8_trade_37 : decode cX8_trade 37 = .ok (.iload_n 1, 1) := by decide +kernel
theorem dX8_trade_38 : decode cX8_trade 38 = .ok (.iload_n 2, 1) := by decide +kernel
theorem dX8_trade_39 : decode cX8_trade 39 = .ok (.invokevirtual 163, 3) := by decide +kernel
theorem dX8_trade_42 : decode cX8_trade 42 = .ok (.iconst 1, 1) := by decide +kernel
theorem dX8_trade_43 : decode cX8_trade 43 = .ok (.ireturn, 1) := by decide +kernel
def X8_trade (a1 : Int32) (a2 : Int32) (m : gM) : Option (Bool × gM) :=
  gCall (X8_isWay a1 m) (fun (r2 : Bool) (m1 : gM) => if r2 = true then (gCall (X8_isWay a2 m1) (fun (r4 : Bool) (m3 : gM) => if r4 = true then (if a1 = a2 then (some (false, m3)) else (gCall (X6_remember 0 m3) (fun (r6 : Unit) (m5 : gM) => gCall (X3_tradeWays 0 a1 a2 m5) (fun (r8 : Unit) (m7 : gM) => some (true, m7))))) else (some (false, m3)))) else (some (false, m1)))
set_option maxRecDepth 100000 in
set_option maxHeartbeats 4000000 in
theorem c_X8_trade (a1 : Int32) (a2 : Int32) (m : gM) : gCon eB yX8_trade cX8_trade 3 (some .boolean) 4 [.inr (8, 0), .inl a1, .inl a2] m (X8_trade a1 a2 m) := by
  refine gCon.of (lv := [some (.inr (8, 0)), some (.inl a1), some (.inl a2)]) (by decide +kernel) (Nat.le_of_ble_eq_true rfl) rfl (fun X C => ?_)
  unfold X8_trade
  refine r_aload_n C dX8_trade_0 rfl rfl ?_
  refine r_iload_n C dX8_trade_1 rfl rfl ?_
  refine r_invB (t := 8) (kb := 0) (As := [.inl a1]) (st := []) C il_X8_160 co_X8_isWay (by decide) rfl (c_X8_isWay a1 m) (by decide) (by decide) rfl rfl (Nat.le_of_ble_eq_true rfl) dX8_trade_2 (fun r2 m1 => ?_)
  refine r_ifeqB (tgt := 21) C dX8_trade_5 (by decide) ?_ ?_
  · refine r_iconst (v := 0) C dX8_trade_21 (by decide) ?_
    exact r_zret0 C dX8_trade_22
  refine r_aload_n C dX8_trade_8 rfl rfl ?_
  refine r_iload_n C dX8_trade_9 rfl rfl ?_
  refine r_invB (t := 8) (kb := 0) (As := [.inl a2]) (st := []) C il_X8_160 co_X8_isWay (by decide) rfl (c_X8_isWay a2 m1) (by decide) (by decide) rfl rfl (Nat.le_of_ble_eq_true rfl) dX8_trade_10 (fun r4 m3 => ?_)
  refine r_ifeqB (tgt := 21) C dX8_trade_13 (by decide) ?_ ?_
  · refine r_iconst (v := 0) C dX8_trade_21 (by decide) ?_
    exact r_zret0 C dX8_trade_22
  refine r_iload_n C dX8_trade_16 rfl rfl ?_
  refine r_iload_n C dX8_trade_17 rfl rfl ?_
  refine r_icmp_ne (tgt := 23) C dX8_trade_18 (by decide) ?_ ?_
  · refine r_aload_n C dX8_trade_23 rfl rfl ?_
    refine r_get (v := .inr (6, 0)) C fl_X8_10 dX8_trade_24 rfl ?_
    refine r_invU (t := 6) (kb := 0) (As := []) (st := []) C il_X8_120 co_X6_remember (by decide) rfl (c_X6_remember 0 m3) (by decide) (by decide) rfl rfl (Nat.le_of_ble_eq_true rfl) dX8_trade_27 (fun r6 m5 => ?_)
    refine r_aload_n C dX8_trade_30 rfl rfl ?_
    refine r_get (v := .inr (6, 0)) C fl_X8_10 dX8_trade_31 rfl ?_
    refine r_get (v := .inr (3, 0)) C fl_X8_82 dX8_trade_34 rfl ?_
    refine r_iload_n C dX8_trade_37 rfl rfl ?_
    refine r_iload_n C dX8_trade_38 rfl rfl ?_
    refine r_invU (t := 3) (kb := 0) (As := [.inl a1, .inl a2]) (st := []) C il_X8_163 co_X3_tradeWays (by decide) rfl (c_X3_tradeWays 0 a1 a2 m5) (by decide) (by decide) rfl rfl (Nat.le_of_ble_eq_true rfl) dX8_trade_39 (fun r8 m7 => ?_)
    refine r_iconst (v := 1) C dX8_trade_42 (by decide) ?_
    exact r_zret1 C dX8_trade_43
  refine r_iconst (v := 0) C dX8_trade_21 (by decide) ?_
  exact r_zret0 C dX8_trade_22
theorem dX8_empty_0 : decode cX8_empty 0 = .ok (.aload_n 0, 1) := by decide +kernel
theorem dX8_empty_1 : decode cX8_empty 1 = .ok (.getfield 10, 3) := by decide +kernel
theorem dX8_empty_4 : decode cX8_empty 4 = .ok (.invokevirtual 120, 3) := by decide +kernel
theorem dX8_empty_7 : decode cX8_empty 7 = .ok (.aload_n 0, 1) := by decide +kernel
theorem dX8_empty_8 : decode cX8_empty 8 = .ok (.getfield 10, 3) := by decide +kernel
theorem dX8_empty_11 : decode cX8_empty 11 = .ok (.getfield 82, 3) := by decide +kernel
theorem dX8_empty_14 : decode cX8_empty 14 = .ok (.invokevirtual 167, 3) := by decide +kernel
theorem dX8_empty_17 : decode cX8_empty 17 = .ok (.ireturn, 1) := by decide +kernel
def X8_empty (m : gM) : Option (Int32 × gM) :=
  gCall (X6_remember 0 m) (fun (r2 : Unit) (m1 : gM) => gCall (X3_emptyAll 0 m1) (fun (r4 : Int32) (m3 : gM) => some (r4, m3)))
set_option maxRecDepth 100000 in
set_option maxHeartbeats 4000000 in
theorem c_X8_empty (m : gM) : gCon eI yX8_empty cX8_empty 1 (some .int) 4 [.inr (8, 0)] m (X8_empty m) := by
  refine gCon.of (lv := [some (.inr (8, 0))]) (by decide +kernel) (Nat.le_of_ble_eq_true rfl) rfl (fun X C => ?_)
  unfold X8_empty
  refine r_aload_n C dX8_empty_0 rfl rfl ?_
  refine r_get (v := .inr (6, 0)) C fl_X8_10 dX8_empty_1 rfl ?_
  refine r_invU (t := 6) (kb := 0) (As := []) (st := []) C il_X8_120 co_X6_remember (by decide) rfl (c_X6_remember 0 m) (by decide) (by decide) rfl rfl (Nat.le_of_ble_eq_true rfl) dX8_empty_4 (fun r2 m1 => ?_)
  refine r_aload_n C dX8_empty_7 rfl rfl ?_
  refine r_get (v := .inr (6, 0)) C fl_X8_10 dX8_empty_8 rfl ?_
  refine r_get (v := .inr (3, 0)) C fl_X8_82 dX8_empty_11 rfl ?_
  refine r_invI (t := 3) (kb := 0) (As := []) (st := []) C il_X8_167 co_X3_emptyAll (by decide) rfl (c_X3_emptyAll 0 m1) (by decide) (by decide) rfl rfl (Nat.le_of_ble_eq_true rfl) dX8_empty_14 (fun r4 m3 => ?_)
  exact r_ireturn C dX8_empty_17
theorem dX8_shape_0 : decode cX8_shape 0 = .ok (.iload_n 1, 1) := by decide +kernel
theorem dX8_shape_1 : decode cX8_shape 1 = .ok (.iconst 1, 1) := by decide +kernel
theorem dX8_shape_2 : decode cX8_shape 2 = .ok (.if_icmp .lt 18, 3) := by decide +kernel
theorem dX8_shape_5 : decode cX8_shape 5 = .ok (.iload_n 1, 1) := by decide +kernel
theorem dX8_shape_6 : decode cX8_shape 6 = .ok (.iconst 4, 1) := by decide +kernel
theorem dX8_shape_7 : decode cX8_shape 7 = .ok (.if_icmp .gt 13, 3) := by decide +kernel
theorem dX8_shape_10 : decode cX8_shape 10 = .ok (.iload_n 2, 1) := by decide +kernel
theorem dX8_shape_11 : decode cX8_shape 11 = .ok (.iconst 1, 1) := by decide +kernel
theorem dX8_shape_12 : decode cX8_shape 12 = .ok (.if_icmp .lt 8, 3) := by decide +kernel
theorem dX8_shape_15 : decode cX8_shape 15 = .ok (.iload_n 2, 1) := by decide +kernel
theorem dX8_shape_16 : decode cX8_shape 16 = .ok (.iconst 4, 1) := by decide +kernel
theorem dX8_shape_17 : decode cX8_shape 17 = .ok (.if_icmp .le 5, 3) := by decide +kernel
theorem dX8_shape_20 : decode cX8_shape 20 = .ok (.iconst (-1), 1) := by decide +kernel
theorem dX8_shape_21 : decode cX8_shape 21 = .ok (.ireturn, 1) := by decide +kernel
theorem dX8_shape_22 : decode cX8_shape 22 = .ok (.aload_n 0, 1) := by decide +kernel
theorem dX8_shape_23 : decode cX8_shape 23 = .ok (.getfield 10, 3) := by decide +kernel
theorem dX8_shape_26 : decode cX8_shape 26 = .ok (.invokevirtual 120, 3) := by decide +kernel
theorem dX8_shape_29 : decode cX8_shape 29 = .ok (.aload_n 0, 1) := by decide +kernel
theorem dX8_shape_30 : decode cX8_shape 30 = .ok (.getfield 10, 3) := by decide +kernel
theorem dX8_shape_33 : decode cX8_shape 33 = .ok (.getfield 82, 3) := by decide +kernel
theorem dX8_shape_36 : decode cX8_shape 36 = .ok (.invokevirtual 167, 3) := by decide +kernel
theorem dX8_shape_39 : decode cX8_shape 39 = .ok (.pop, 1) := by decide +kernel
theorem dX8_shape_40 : decode cX8_shape 40 = .ok (.aload_n 0, 1) := by decide +kernel
theorem dX8_shape_41 : decode cX8_shape 41 = .ok (.getfield 10, 3) := by decide +kernel
theorem dX8_shape_44 : decode cX8_shape 44 = .ok (.getfield 82, 3) := by decide +kernel
theorem dX8_shape_47 : decode cX8_shape 47 = .ok (.iload_n 1, 1) := by decide +kernel
theorem dX8_shape_48 : decode cX8_shape 48 = .ok (.putfield 170, 3) := by decide +kernel
theorem dX8_shape_51 : decode cX8_shape 51 = .ok (.aload_n 0, 1) := by decide +kernel
theorem dX8_shape_52 : decode cX8_shape 52 = .ok (.getfield 10, 3) := by decide +kernel
theorem dX8_shape_55 : decode cX8_shape 55 = .ok (.getfield 82, 3) := by decide +kernel
theorem dX8_shape_58 : decode cX8_shape 58 = .ok (.iload_n 2, 1) := by decide +kernel
theorem dX8_shape_59 : decode cX8_shape 59 = .ok (.putfield 173, 3) := by decide +kernel
theorem dX8_shape_62 : decode cX8_shape 62 = .ok (.aload_n 0, 1) := by decide +kernel
theorem dX8_shape_63 : decode cX8_shape 63 = .ok (.getfield 10, 3) := by decide +kernel
theorem dX8_shape_66 : decode cX8_shape 66 = .ok (.getfield 82, 3) := by decide +kernel
theorem dX8_shape_69 : decode cX8_shape 69 = .ok (.iconst 0, 1) := by decide +kernel
theorem dX8_shape_70 : decode cX8_shape 70 = .ok (.invokevirtual 176, 3) := by decide +kernel
theorem dX8_shape_73 : decode cX8_shape 73 = .ok (.aload_n 0, 1) := by decide +kernel
theorem dX8_shape_74 : decode cX8_shape 74 = .ok (.getfield 10, 3) := by decide +kernel
theorem dX8_shape_77 : decode cX8_shape 77 = .ok (.getfield 82, 3) := by decide +kernel
theorem dX8_shape_80 : decode cX8_shape 80 = .ok (.invokevirtual 179, 3) := by decide +kernel
theorem dX8_shape_83 : decode cX8_shape 83 = .ok (.ireturn, 1) := by decide +kernel
def X8_shape (a1 : Int32) (a2 : Int32) (m : gM) : Option (Int32 × gM) :=
  if a1 < 1 then (some ((-1), m)) else (if 4 < a1 then (some ((-1), m)) else (if a2 < 1 then (some ((-1), m)) else (if a2 ≤ 4 then (gCall (X6_remember 0 m) (fun (r2 : Unit) (m1 : gM) => gCall (X3_emptyAll 0 m1) (fun (r4 : Int32) (m3 : gM) => gSet m3 3 0 0 a1 (fun (m5 : gM) => gSet m5 3 0 1 a2 (fun (m6 : gM) => gCall (X3_setFamily 0 0 m6) (fun (r8 : Unit) (m7 : gM) => gCall (X3_slotsInAll 0 m7) (fun (r10 : Int32) (m9 : gM) => some (r10, m9)))))))) else (some ((-1), m)))))
set_option maxRecDepth 100000 in
set_option maxHeartbeats 4000000 in
theorem c_X8_shape (a1 : Int32) (a2 : Int32) (m : gM) : gCon eI yX8_shape cX8_shape 3 (some .int) 4 [.inr (8, 0), .inl a1, .inl a2] m (X8_shape a1 a2 m) := by
  refine gCon.of (lv := [some (.inr (8, 0)), some (.inl a1), some (.inl a2)]) (by decide +kernel) (Nat.le_of_ble_eq_true rfl) rfl (fun X C => ?_)
  unfold X8_shape
  refine r_iload_n C dX8_shape_0 rfl rfl ?_
  refine r_iconst (v := 1) C dX8_shape_1 (by decide) ?_
  refine r_icmp_lt (tgt := 20) C dX8_shape_2 (by decide) ?_ ?_
  · refine r_iconst (v := (-1)) C dX8_shape_20 (by decide) ?_
    exact r_ireturn C dX8_shape_21
  refine r_iload_n C dX8_shape_5 rfl rfl ?_
  refine r_iconst (v := 4) C dX8_shape_6 (by decide) ?_
  refine r_icmp_gt (tgt := 20) C dX8_shape_7 (by decide) ?_ ?_
  · refine r_iconst (v := (-1)) C dX8_shape_20 (by decide) ?_
    exact r_ireturn C dX8_shape_21
  refine r_iload_n C dX8_shape_10 rfl rfl ?_
  refine r_iconst (v := 1) C dX8_shape_11 (by decide) ?_
  refine r_icmp_lt (tgt := 20) C dX8_shape_12 (by decide) ?_ ?_
  · refine r_iconst (v := (-1)) C dX8_shape_20 (by decide) ?_
    exact r_ireturn C dX8_shape_21
  refine r_iload_n C dX8_shape_15 rfl rfl ?_
  refine r_iconst (v := 4) C dX8_shape_16 (by decide) ?_
  refine r_icmp_le (tgt := 22) C dX8_shape_17 (by decide) ?_ ?_
  · refine r_aload_n C dX8_shape_22 rfl rfl ?_
    refine r_get (v := .inr (6, 0)) C fl_X8_10 dX8_shape_23 rfl ?_
    refine r_invU (t := 6) (kb := 0) (As := []) (st := []) C il_X8_120 co_X6_remember (by decide) rfl (c_X6_remember 0 m) (by decide) (by decide) rfl rfl (Nat.le_of_ble_eq_true rfl) dX8_shape_26 (fun r2 m1 => ?_)
    refine r_aload_n C dX8_shape_29 rfl rfl ?_
    refine r_get (v := .inr (6, 0)) C fl_X8_10 dX8_shape_30 rfl ?_
    refine r_get (v := .inr (3, 0)) C fl_X8_82 dX8_shape_33 rfl ?_
    refine r_invI (t := 3) (kb := 0) (As := []) (st := []) C il_X8_167 co_X3_emptyAll (by decide) rfl (c_X3_emptyAll 0 m1) (by decide) (by decide) rfl rfl (Nat.le_of_ble_eq_true rfl) dX8_shape_36 (fun r4 m3 => ?_)
    refine r_pop C dX8_shape_39 ?_
    refine r_aload_n C dX8_shape_40 rfl rfl ?_
    refine r_get (v := .inr (6, 0)) C fl_X8_10 dX8_shape_41 rfl ?_
    refine r_get (v := .inr (3, 0)) C fl_X8_82 dX8_shape_44 rfl ?_
    refine r_iload_n C dX8_shape_47 rfl rfl ?_
    refine r_put C fl_X8_170 rfl rfl rfl dX8_shape_48 (fun m5 => ?_)
    refine r_aload_n C dX8_shape_51 rfl rfl ?_
    refine r_get (v := .inr (6, 0)) C fl_X8_10 dX8_shape_52 rfl ?_
    refine r_get (v := .inr (3, 0)) C fl_X8_82 dX8_shape_55 rfl ?_
    refine r_iload_n C dX8_shape_58 rfl rfl ?_
    refine r_put C fl_X8_173 rfl rfl rfl dX8_shape_59 (fun m6 => ?_)
    refine r_aload_n C dX8_shape_62 rfl rfl ?_
    refine r_get (v := .inr (6, 0)) C fl_X8_10 dX8_shape_63 rfl ?_
    refine r_get (v := .inr (3, 0)) C fl_X8_82 dX8_shape_66 rfl ?_
    refine r_iconst (v := 0) C dX8_shape_69 (by decide) ?_
    refine r_invU (t := 3) (kb := 0) (As := [.inl 0]) (st := []) C il_X8_176 co_X3_setFamily (by decide) rfl (c_X3_setFamily 0 0 m6) (by decide) (by decide) rfl rfl (Nat.le_of_ble_eq_true rfl) dX8_shape_70 (fun r8 m7 => ?_)
    refine r_aload_n C dX8_shape_73 rfl rfl ?_
    refine r_get (v := .inr (6, 0)) C fl_X8_10 dX8_shape_74 rfl ?_
    refine r_get (v := .inr (3, 0)) C fl_X8_82 dX8_shape_77 rfl ?_
    refine r_invI (t := 3) (kb := 0) (As := []) (st := []) C il_X8_179 co_X3_slotsInAll (by decide) rfl (c_X3_slotsInAll 0 m7) (by decide) (by decide) rfl rfl (Nat.le_of_ble_eq_true rfl) dX8_shape_80 (fun r10 m9 => ?_)
    exact r_ireturn C dX8_shape_83
  refine r_iconst (v := (-1)) C dX8_shape_20 (by decide) ?_
  exact r_ireturn C dX8_shape_21
theorem dX8_family_0 : decode cX8_family 0 = .ok (.iload_n 1, 1) := by decide +kernel
theorem dX8_family_1 : decode cX8_family 1 = .ok (.ifCond .lt 8, 3) := by decide +kernel
theorem dX8_family_4 : decode cX8_family 4 = .ok (.iload_n 1, 1) := by decide +kernel
theorem dX8_family_5 : decode cX8_family 5 = .ok (.iconst 2, 1) := by decide +kernel
theorem dX8_family_6 : decode cX8_family 6 = .ok (.if_icmp .le 5, 3) := by decide +kernel
theorem dX8_family_9 : decode cX8_family 9 = .ok (.iconst (-1), 1) := by decide +kernel
theorem dX8_family_10 : decode cX8_family 10 = .ok (.ireturn, 1) := by decide +kernel
theorem dX8_family_11 : decode cX8_family 11 = .ok (.aload_n 0, 1) := by decide +kernel
theorem dX8_family_12 : decode cX8_family 12 = .ok (.getfield 10, 3) := by decide +kernel
theorem dX8_family_15 : decode cX8_family 15 = .ok (.invokevirtual 120, 3) := by decide +kernel
theorem dX8_family_18 : decode cX8_family 18 = .ok (.aload_n 0, 1) := by decide +kernel
theorem dX8_family_19 : decode cX8_family 19 = .ok (.getfield 10, 3) := by decide +kernel
theorem dX8_family_22 : decode cX8_family 22 = .ok (.getfield 82, 3) := by decide +kernel
theorem dX8_family_25 : decode cX8_family 25 = .ok (.invokevirtual 167, 3) := by decide +kernel
theorem dX8_family_28 : decode cX8_family 28 = .ok (.pop, 1) := by decide +kernel
theorem dX8_family_29 : decode cX8_family 29 = .ok (.aload_n 0, 1) := by decide +kernel
theorem dX8_family_30 : decode cX8_family 30 = .ok (.getfield 10, 3) := by decide +kernel
theorem dX8_family_33 : decode cX8_family 33 = .ok (.getfield 82, 3) := by decide +kernel
theorem dX8_family_36 : decode cX8_family 36 = .ok (.iload_n 1, 1) := by decide +kernel
theorem dX8_family_37 : decode cX8_family 37 = .ok (.invokevirtual 176, 3) := by decide +kernel
theorem dX8_family_40 : decode cX8_family 40 = .ok (.aload_n 0, 1) := by decide +kernel
theorem dX8_family_41 : decode cX8_family 41 = .ok (.getfield 36, 3) := by decide +kernel
theorem dX8_family_44 : decode cX8_family 44 = .ok (.aload_n 0, 1) := by decide +kernel
theorem dX8_family_45 : decode cX8_family 45 = .ok (.getfield 10, 3) := by decide +kernel
theorem dX8_family_48 : decode cX8_family 48 = .ok (.getfield 82, 3) := by decide +kernel
theorem dX8_family_51 : decode cX8_family 51 = .ok (.invokevirtual 182, 3) := by decide +kernel
theorem dX8_family_54 : decode cX8_family 54 = .ok (.ireturn, 1) := by decide +kernel
def X8_family (a1 : Int32) (m : gM) : Option (Int32 × gM) :=
  if a1 < 0 then (some ((-1), m)) else (if a1 ≤ 2 then (gCall (X6_remember 0 m) (fun (r2 : Unit) (m1 : gM) => gCall (X3_emptyAll 0 m1) (fun (r4 : Int32) (m3 : gM) => gCall (X3_setFamily 0 a1 m3) (fun (r6 : Unit) (m5 : gM) => gCall (X7_rankOfAll 0 m5) (fun (r8 : Int32) (m7 : gM) => some (r8, m7)))))) else (some ((-1), m)))
set_option maxRecDepth 100000 in
set_option maxHeartbeats 4000000 in
theorem c_X8_family (a1 : Int32) (m : gM) : gCon eI yX8_family cX8_family 2 (some .int) 4 [.inr (8, 0), .inl a1] m (X8_family a1 m) := by
  refine gCon.of (lv := [some (.inr (8, 0)), some (.inl a1)]) (by decide +kernel) (Nat.le_of_ble_eq_true rfl) rfl (fun X C => ?_)
  unfold X8_family
  refine r_iload_n C dX8_family_0 rfl rfl ?_
  refine r_if_lt (tgt := 9) C dX8_family_1 (by decide) ?_ ?_
  · refine r_iconst (v := (-1)) C dX8_family_9 (by decide) ?_
    exact r_ireturn C dX8_family_10
  refine r_iload_n C dX8_family_4 rfl rfl ?_
  refine r_iconst (v := 2) C dX8_family_5 (by decide) ?_
  refine r_icmp_le (tgt := 11) C dX8_family_6 (by decide) ?_ ?_
  · refine r_aload_n C dX8_family_11 rfl rfl ?_
    refine r_get (v := .inr (6, 0)) C fl_X8_10 dX8_family_12 rfl ?_
    refine r_invU (t := 6) (kb := 0) (As := []) (st := []) C il_X8_120 co_X6_remember (by decide) rfl (c_X6_remember 0 m) (by decide) (by decide) rfl rfl (Nat.le_of_ble_eq_true rfl) dX8_family_15 (fun r2 m1 => ?_)
    refine r_aload_n C dX8_family_18 rfl rfl ?_
    refine r_get (v := .inr (6, 0)) C fl_X8_10 dX8_family_19 rfl ?_
    refine r_get (v := .inr (3, 0)) C fl_X8_82 dX8_family_22 rfl ?_
    refine r_invI (t := 3) (kb := 0) (As := []) (st := []) C il_X8_167 co_X3_emptyAll (by decide) rfl (c_X3_emptyAll 0 m1) (by decide) (by decide) rfl rfl (Nat.le_of_ble_eq_true rfl) dX8_family_25 (fun r4 m3 => ?_)
    refine r_pop C dX8_family_28 ?_
    refine r_aload_n C dX8_family_29 rfl rfl ?_
    refine r_get (v := .inr (6, 0)) C fl_X8_10 dX8_family_30 rfl ?_
    refine r_get (v := .inr (3, 0)) C fl_X8_82 dX8_family_33 rfl ?_
    refine r_iload_n C dX8_family_36 rfl rfl ?_
    refine r_invU (t := 3) (kb := 0) (As := [.inl a1]) (st := []) C il_X8_176 co_X3_setFamily (by decide) rfl (c_X3_setFamily 0 a1 m3) (by decide) (by decide) rfl rfl (Nat.le_of_ble_eq_true rfl) dX8_family_37 (fun r6 m5 => ?_)
    refine r_aload_n C dX8_family_40 rfl rfl ?_
    refine r_get (v := .inr (7, 0)) C fl_X8_36 dX8_family_41 rfl ?_
    refine r_aload_n C dX8_family_44 rfl rfl ?_
    refine r_get (v := .inr (6, 0)) C fl_X8_10 dX8_family_45 rfl ?_
    refine r_get (v := .inr (3, 0)) C fl_X8_82 dX8_family_48 rfl ?_
    refine r_invI (t := 7) (kb := 0) (As := [.inr (3, 0)]) (st := []) C il_X8_182 co_X7_rankOfAll (by decide) rfl (c_X7_rankOfAll 0 m5) (by decide) (by decide) rfl rfl (Nat.le_of_ble_eq_true rfl) dX8_family_51 (fun r8 m7 => ?_)
    exact r_ireturn C dX8_family_54
  refine r_iconst (v := (-1)) C dX8_family_9 (by decide) ?_
  exact r_ireturn C dX8_family_10
theorem dX8_isMask_0 : decode cX8_isMask 0 = .ok (.aload_n 0, 1) := by decide +kernel
theorem dX8_isMask_1 : decode cX8_isMask 1 = .ok (.iload_n 1, 1) := by decide +kernel
theorem dX8_isMask_2 : decode cX8_isMask 2 = .ok (.invokevirtual 160, 3) := by decide +kernel
theorem dX8_isMask_5 : decode cX8_isMask 5 = .ok (.ifCond .eq 25, 3) := by decide +kernel
theorem dX8_isMask_8 : decode cX8_isMask 8 = .ok (.iload_n 2, 1) := by decide +kernel
theorem dX8_isMask_9 : decode cX8_isMask 9 = .ok (.ifCond .lt 21, 3) := by decide +kernel
theorem dX8_isMask_12 : decode cX8_isMask 12 = .ok (.iload_n 2, 1) := by decide +kernel
theorem dX8_isMask_13 : decode cX8_isMask 13 = .ok (.aload_n 0, 1) := by decide +kernel
theorem dX8_isMask_14 : decode cX8_isMask 14 = .ok (.getfield 10, 3) := by decide +kernel
theorem dX8_isMask_17 : decode cX8_isMask 17 = .ok (.getfield 82, 3) := by decide +kernel
theorem dX8_isMask_20 : decode cX8_isMask 20 = .ok (.getfield 173, 3) := by decide +kernel
theorem dX8_isMask_23 : decode cX8_isMask 23 = .ok (.if_icmp .ge 7, 3) := by decide +kernel
theorem dX8_isMask_26 : decode cX8_isMask 26 = .ok (.iconst 1, 1) := by decide +kernel
theorem dX8_isMask_27 : decode cX8_isMask 27 = .ok (.goto 4, 3) := by decide +kernel
theorem dX8_isMask_30 : decode cX8_isMask 30 = .ok (.iconst 0, 1) := by decide +kernel
theorem dX8_isMask_31 : decode cX8_isMask 31 = .ok (.ireturn, 1) := by decide +kernel
def X8_isMask (a1 : Int32) (a2 : Int32) (m : gM) : Option (Bool × gM) :=
  gCall (X8_isWay a1 m) (fun (r2 : Bool) (m1 : gM) => if r2 = true then (if a2 < 0 then (some (false, m1)) else (if (m1 3 0 1) ≤ a2 then (some (false, m1)) else (some (true, m1)))) else (some (false, m1)))
set_option maxRecDepth 100000 in
set_option maxHeartbeats 4000000 in
theorem c_X8_isMask (a1 : Int32) (a2 : Int32) (m : gM) : gCon eB yX8_isMask cX8_isMask 3 (some .boolean) 1 [.inr (8, 0), .inl a1, .inl a2] m (X8_isMask a1 a2 m) := by
  refine gCon.of (lv := [some (.inr (8, 0)), some (.inl a1), some (.inl a2)]) (by decide +kernel) (Nat.le_of_ble_eq_true rfl) rfl (fun X C => ?_)
  unfold X8_isMask
  refine r_aload_n C dX8_isMask_0 rfl rfl ?_
  refine r_iload_n C dX8_isMask_1 rfl rfl ?_
  refine r_invB (t := 8) (kb := 0) (As := [.inl a1]) (st := []) C il_X8_160 co_X8_isWay (by decide) rfl (c_X8_isWay a1 m) (by decide) (by decide) rfl rfl (Nat.le_of_ble_eq_true rfl) dX8_isMask_2 (fun r2 m1 => ?_)
  refine r_ifeqB (tgt := 30) C dX8_isMask_5 (by decide) ?_ ?_
  · refine r_iconst (v := 0) C dX8_isMask_30 (by decide) ?_
    exact r_zret0 C dX8_isMask_31
  refine r_iload_n C dX8_isMask_8 rfl rfl ?_
  refine r_if_lt (tgt := 30) C dX8_isMask_9 (by decide) ?_ ?_
  · refine r_iconst (v := 0) C dX8_isMask_30 (by decide) ?_
    exact r_zret0 C dX8_isMask_31
  refine r_iload_n C dX8_isMask_12 rfl rfl ?_
  refine r_aload_n C dX8_isMask_13 rfl rfl ?_
  refine r_get (v := .inr (6, 0)) C fl_X8_10 dX8_isMask_14 rfl ?_
  refine r_get (v := .inr (3, 0)) C fl_X8_82 dX8_isMask_17 rfl ?_
  refine r_get (v := .inl (m1 3 0 1)) C fl_X8_173 dX8_isMask_20 rfl ?_
  refine r_icmp_ge (tgt := 30) C dX8_isMask_23 (by decide) ?_ ?_
  · refine r_iconst (v := 0) C dX8_isMask_30 (by decide) ?_
    exact r_zret0 C dX8_isMask_31
  refine r_iconst (v := 1) C dX8_isMask_26 (by decide) ?_
  refine r_goto (tgt := 31) C dX8_isMask_27 (by decide) ?_
  exact r_zret1 C dX8_isMask_31
theorem dX8_mask_0 : decode cX8_mask 0 = .ok (.aload_n 0, 1) := by decide +kernel
theorem dX8_mask_1 : decode cX8_mask 1 = .ok (.iload_n 1, 1) := by decide +kernel
theorem dX8_mask_2 : decode cX8_mask 2 = .ok (.iload_n 2, 1) := by decide +kernel
theorem dX8_mask_3 : decode cX8_mask 3 = .ok (.invokevirtual 186, 3) := by decide +kernel
theorem dX8_mask_6 : decode cX8_mask 6 = .ok (.ifCond .eq 14, 3) := by decide +kernel
theorem dX8_mask_9 : decode cX8_mask 9 = .ok (.iload_n 3, 1) := by decide +kernel
theorem dX8_mask_10 : decode cX8_mask 10 = .ok (.ifCond .lt 10, 3) := by decide +kernel
theorem dX8_mask_13 : decode cX8_mask 13 = .ok (.iload_n 3, 1) := by decide +kernel
theorem dX8_mask_14 : decode cX8_mask 14 = .ok (.sipush 1024, 3) := by decide +kernel
theorem dX8_mask_17 : decode cX8_mask 17 = .ok (.if_icmp .lt 5, 3) := by decide +kernel
theorem dX8_mask_20 : decode cX8_mask 20 = .ok (.iconst (-1), 1) := by decide +kernel
theorem dX8_mask_21 : decode cX8_mask 21 = .ok (.ireturn, 1) := by decide +kernel
theorem dX8_mask_22 : decode cX8_mask 22 = .ok (.aload_n 0, 1) := by decide +kernel
theorem dX8_mask_23 : decode cX8_mask 23 = .ok (.getfield 10, 3) := by decide +kernel
theorem dX8_mask_26 : decode cX8_mask 26 = .ok (.invokevirtual 120, 3) := by decide +kernel
theorem dX8_mask_29 : decode cX8_mask 29 = .ok (.aload_n 0, 1) := by decide +kernel
theorem dX8_mask_30 : decode cX8_mask 30 = .ok (.getfield 10, 3) := by decide +kernel
theorem dX8_mask_33 : decode cX8_mask 33 = .ok (.getfield 82, 3) := by decide +kernel
theorem dX8_mask_36 : decode cX8_mask 36 = .ok (.invokevirtual 167, 3) := by decide +kernel
theorem dX8_mask_39 : decode cX8_mask 39 = .ok (.pop, 1) := by decide +kernel
theorem dX8_mask_40 : decode cX8_mask 40 = .ok (.aload_n 0, 1) := by decide +kernel
theorem dX8_mask_41 : decode cX8_mask 41 = .ok (.getfield 10, 3) := by decide +kernel
theorem dX8_mask_44 : decode cX8_mask 44 = .ok (.getfield 82, 3) := by decide +kernel
theorem dX8_mask_47 : decode cX8_mask 47 = .ok (.getfield 190, 3) := by decide +kernel
theorem dX8_mask_50 : decode cX8_mask 50 = .ok (.iload_n 1, 1) := by decide +kernel
theorem dX8_mask_51 : decode cX8_mask 51 = .ok (.iload_n 2, 1) := by decide +kernel
theorem dX8_mask_52 : decode cX8_mask 52 = .ok (.invokestatic 193, 3) := by decide +kernel
theorem dX8_mask_55 : decode cX8_mask 55 = .ok (.iload_n 3, 1) := by decide +kernel
theorem dX8_mask_56 : decode cX8_mask 56 = .ok (.iastore, 1) := by decide +kernel
theorem dX8_mask_57 : decode cX8_mask 57 = .ok (.aload_n 0, 1) := by decide +kernel
theorem dX8_mask_58 : decode cX8_mask 58 = .ok (.getfield 36, 3) := by decide +kernel
theorem dX8_mask_61 : decode cX8_mask 61 = .ok (.aload_n 0, 1) := by decide +kernel
theorem dX8_mask_62 : decode cX8_mask 62 = .ok (.getfield 10, 3) := by decide +kernel
theorem dX8_mask_65 : decode cX8_mask 65 = .ok (.getfield 82, 3) := by decide +kernel
theorem dX8_mask_68 : decode cX8_mask 68 = .ok (.iload_n 1, 1) := by decide +kernel
theorem dX8_mask_69 : decode cX8_mask 69 = .ok (.iload_n 1, 1) := by decide +kernel
theorem dX8_mask_70 : decode cX8_mask 70 = .ok (.invokevirtual 197, 3) := by decide +kernel
theorem dX8_mask_73 : decode cX8_mask 73 = .ok (.ireturn, 1) := by decide +kernel
def X8_mask (a1 : Int32) (a2 : Int32) (a3 : Int32) (m : gM) : Option (Int32 × gM) :=
  gCall (X8_isMask a1 a2 m) (fun (r2 : Bool) (m1 : gM) => if r2 = true then (if a3 < 0 then (some ((-1), m1)) else (if a3 < 1024 then (gCall (X6_remember 0 m1) (fun (r4 : Unit) (m3 : gM) => gCall (X3_emptyAll 0 m3) (fun (r6 : Int32) (m5 : gM) => gCall (X8_maskAt a1 a2 m5) (fun (r8 : Int32) (m7 : gM) => gPut m7 25 0 r8 a3 (fun (m9 : gM) => gCall (X7_rankOfTwo 0 a1 a1 m9) (fun (r11 : Int32) (m10 : gM) => some (r11, m10))))))) else (some ((-1), m1)))) else (some ((-1), m1)))
set_option maxRecDepth 100000 in
set_option maxHeartbeats 4000000 in
theorem c_X8_mask (a1 : Int32) (a2 : Int32) (a3 : Int32) (m : gM) : gCon eI yX8_mask cX8_mask 4 (some .int) 4 [.inr (8, 0), .inl a1, .inl a2, .inl a3] m (X8_mask a1 a2 a3 m) := by
  refine gCon.of (lv := [some (.inr (8, 0)), some (.inl a1), some (.inl a2), some (.inl a3)]) (by decide +kernel) (Nat.le_of_ble_eq_true rfl) rfl (fun X C => ?_)
  unfold X8_mask
  refine r_aload_n C dX8_mask_0 rfl rfl ?_
  refine r_iload_n C dX8_mask_1 rfl rfl ?_
  refine r_iload_n C dX8_mask_2 rfl rfl ?_
  refine r_invB (t := 8) (kb := 0) (As := [.inl a1, .inl a2]) (st := []) C il_X8_186 co_X8_isMask (by decide) rfl (c_X8_isMask a1 a2 m) (by decide) (by decide) rfl rfl (Nat.le_of_ble_eq_true rfl) dX8_mask_3 (fun r2 m1 => ?_)
  refine r_ifeqB (tgt := 20) C dX8_mask_6 (by decide) ?_ ?_
  · refine r_iconst (v := (-1)) C dX8_mask_20 (by decide) ?_
    exact r_ireturn C dX8_mask_21
  refine r_iload_n C dX8_mask_9 rfl rfl ?_
  refine r_if_lt (tgt := 20) C dX8_mask_10 (by decide) ?_ ?_
  · refine r_iconst (v := (-1)) C dX8_mask_20 (by decide) ?_
    exact r_ireturn C dX8_mask_21
  refine r_iload_n C dX8_mask_13 rfl rfl ?_
  refine r_sipush (v := 1024) C dX8_mask_14 (by decide) ?_
  refine r_icmp_lt (tgt := 22) C dX8_mask_17 (by decide) ?_ ?_
  · refine r_aload_n C dX8_mask_22 rfl rfl ?_
    refine r_get (v := .inr (6, 0)) C fl_X8_10 dX8_mask_23 rfl ?_
    refine r_invU (t := 6) (kb := 0) (As := []) (st := []) C il_X8_120 co_X6_remember (by decide) rfl (c_X6_remember 0 m1) (by decide) (by decide) rfl rfl (Nat.le_of_ble_eq_true rfl) dX8_mask_26 (fun r4 m3 => ?_)
    refine r_aload_n C dX8_mask_29 rfl rfl ?_
    refine r_get (v := .inr (6, 0)) C fl_X8_10 dX8_mask_30 rfl ?_
    refine r_get (v := .inr (3, 0)) C fl_X8_82 dX8_mask_33 rfl ?_
    refine r_invI (t := 3) (kb := 0) (As := []) (st := []) C il_X8_167 co_X3_emptyAll (by decide) rfl (c_X3_emptyAll 0 m3) (by decide) (by decide) rfl rfl (Nat.le_of_ble_eq_true rfl) dX8_mask_36 (fun r6 m5 => ?_)
    refine r_pop C dX8_mask_39 ?_
    refine r_aload_n C dX8_mask_40 rfl rfl ?_
    refine r_get (v := .inr (6, 0)) C fl_X8_10 dX8_mask_41 rfl ?_
    refine r_get (v := .inr (3, 0)) C fl_X8_82 dX8_mask_44 rfl ?_
    refine r_get (v := .inr (25, 0)) C fl_X8_190 dX8_mask_47 rfl ?_
    refine r_iload_n C dX8_mask_50 rfl rfl ?_
    refine r_iload_n C dX8_mask_51 rfl rfl ?_
    refine r_insI (As := [.inl a1, .inl a2]) (st := [.inr (25, 0)]) C il_X8_193 co_X8_maskAt (c_X8_maskAt a1 a2 m5) (by decide) (by decide) rfl rfl (Nat.le_of_ble_eq_true rfl) dX8_mask_52 (fun r8 m7 => ?_)
    refine r_iload_n C dX8_mask_55 rfl rfl ?_
    refine r_iast C rfl dX8_mask_56 (fun m9 => ?_)
    refine r_aload_n C dX8_mask_57 rfl rfl ?_
    refine r_get (v := .inr (7, 0)) C fl_X8_36 dX8_mask_58 rfl ?_
    refine r_aload_n C dX8_mask_61 rfl rfl ?_
    refine r_get (v := .inr (6, 0)) C fl_X8_10 dX8_mask_62 rfl ?_
    refine r_get (v := .inr (3, 0)) C fl_X8_82 dX8_mask_65 rfl ?_
    refine r_iload_n C dX8_mask_68 rfl rfl ?_
    refine r_iload_n C dX8_mask_69 rfl rfl ?_
    refine r_invI (t := 7) (kb := 0) (As := [.inr (3, 0), .inl a1, .inl a1]) (st := []) C il_X8_197 co_X7_rankOfTwo (by decide) rfl (c_X7_rankOfTwo 0 a1 a1 m9) (by decide) (by decide) rfl rfl (Nat.le_of_ble_eq_true rfl) dX8_mask_70 (fun r11 m10 => ?_)
    exact r_ireturn C dX8_mask_73
  refine r_iconst (v := (-1)) C dX8_mask_20 (by decide) ?_
  exact r_ireturn C dX8_mask_21
theorem dX8_isDepth_0 : decode cX8_isDepth 0 = .ok (.iload_n 0, 1) := by decide +kernel
theorem dX8_isDepth_1 : decode cX8_isDepth 1 = .ok (.ifCond .lt 12, 3) := by decide +kernel
theorem dX8_isDepth_4 : decode cX8_isDepth 4 = .ok (.iload_n 0, 1) := by decide +kernel
theorem dX8_isDepth_5 : decode cX8_isDepth 5 = .ok (.iconst 3, 1) := by decide +kernel
theorem dX8_isDepth_6 : decode cX8_isDepth 6 = .ok (.if_icmp .gt 7, 3) := by decide +kernel
theorem dX8_isDepth_9 : decode cX8_isDepth 9 = .ok (.iconst 1, 1) := by decide +kernel
theorem dX8_isDepth_10 : decode cX8_isDepth 10 = .ok (.goto 4, 3) := by decide +kernel
theorem dX8_isDepth_13 : decode cX8_isDepth 13 = .ok (.iconst 0, 1) := by decide +kernel
theorem dX8_isDepth_14 : decode cX8_isDepth 14 = .ok (.ireturn, 1) := by decide +kernel
def X8_isDepth (a1 : Int32) (m : gM) : Option (Bool × gM) :=
  if a1 < 0 then (some (false, m)) else (if 3 < a1 then (some (false, m)) else (some (true, m)))
set_option maxRecDepth 100000 in
set_option maxHeartbeats 4000000 in
theorem c_X8_isDepth (a1 : Int32) (m : gM) : gCon eB yX8_isDepth cX8_isDepth 1 (some .boolean) 0 [.inl a1] m (X8_isDepth a1 m) := by
  refine gCon.of (lv := [some (.inl a1)]) (by decide +kernel) (Nat.le_of_ble_eq_true rfl) rfl (fun X C => ?_)
  unfold X8_isDepth
  refine r_iload_n C dX8_isDepth_0 rfl rfl ?_
  refine r_if_lt (tgt := 13) C dX8_isDepth_1 (by decide) ?_ ?_
  · refine r_iconst (v := 0) C dX8_isDepth_13 (by decide) ?_
    exact r_zret0 C dX8_isDepth_14
  refine r_iload_n C dX8_isDepth_4 rfl rfl ?_
  refine r_iconst (v := 3) C dX8_isDepth_5 (by decide) ?_
  refine r_icmp_gt (tgt := 13) C dX8_isDepth_6 (by decide) ?_ ?_
  · refine r_iconst (v := 0) C dX8_isDepth_13 (by decide) ?_
    exact r_zret0 C dX8_isDepth_14
  refine r_iconst (v := 1) C dX8_isDepth_9 (by decide) ?_
  refine r_goto (tgt := 14) C dX8_isDepth_10 (by decide) ?_
  exact r_zret1 C dX8_isDepth_14
theorem dX8_depth_0 : decode cX8_depth 0 = .ok (.iload_n 1, 1) := by decide +kernel
theorem dX8_depth_1 : decode cX8_depth 1 = .ok (.invokestatic 201, 3) := by decide +kernel
theorem dX8_depth_4 : decode cX8_depth 4 = .ok (.ifCond .ne 5, 3) := by decide +kernel
theorem dX8_depth_7 : decode cX8_depth 7 = .ok (.iconst 0, 1) := by decide +kernel
theorem dX8_depth_8 : decode cX8_depth 8 = .ok (.ireturn, 1) := by decide +kernel
theorem dX8_depth_9 : decode cX8_depth 9 = .ok (.aload_n 0, 1) := by decide +kernel
theorem dX8_depth_10 : decode cX8_depth 10 = .ok (.getfield 10, 3) := by decide +kernel
theorem dX8_depth_13 : decode cX8_depth 13 = .ok (.invokevirtual 120, 3) := by decide +kernel
theorem dX8_depth_16 : decode cX8_depth 16 = .ok (.aload_n 0, 1) := by decide +kernel
theorem dX8_depth_17 : decode cX8_depth 17 = .ok (.getfield 10, 3) := by decide +kernel
theorem dX8_depth_20 : decode cX8_depth 20 = .ok (.getfield 82, 3) := by decide +kernel
theorem dX8_depth_23 : decode cX8_depth 23 = .ok (.iload_n 1, 1) := by decide +kernel
theorem dX8_depth_24 : decode cX8_depth 24 = .ok (.putfield 204, 3) := by decide +kernel
theorem dX8_depth_27 : decode cX8_depth 27 = .ok (.iconst 1, 1) := by decide +kernel
theorem dX8_depth_28 : decode cX8_depth 28 = .ok (.ireturn, 1) := by decide +kernel
def X8_depth (a1 : Int32) (m : gM) : Option (Bool × gM) :=
  gCall (X8_isDepth a1 m) (fun (r2 : Bool) (m1 : gM) => if r2 = true then (gCall (X6_remember 0 m1) (fun (r4 : Unit) (m3 : gM) => gSet m3 3 0 2 a1 (fun (m5 : gM) => some (true, m5)))) else (some (false, m1)))
set_option maxRecDepth 100000 in
set_option maxHeartbeats 4000000 in
theorem c_X8_depth (a1 : Int32) (m : gM) : gCon eB yX8_depth cX8_depth 2 (some .boolean) 4 [.inr (8, 0), .inl a1] m (X8_depth a1 m) := by
  refine gCon.of (lv := [some (.inr (8, 0)), some (.inl a1)]) (by decide +kernel) (Nat.le_of_ble_eq_true rfl) rfl (fun X C => ?_)
  unfold X8_depth
  refine r_iload_n C dX8_depth_0 rfl rfl ?_
  refine r_insB (As := [.inl a1]) (st := []) C il_X8_201 co_X8_isDepth (c_X8_isDepth a1 m) (by decide) (by decide) rfl rfl (Nat.le_of_ble_eq_true rfl) dX8_depth_1 (fun r2 m1 => ?_)
  refine r_ifneB (tgt := 9) C dX8_depth_4 (by decide) ?_ ?_
  · refine r_aload_n C dX8_depth_9 rfl rfl ?_
    refine r_get (v := .inr (6, 0)) C fl_X8_10 dX8_depth_10 rfl ?_
    refine r_invU (t := 6) (kb := 0) (As := []) (st := []) C il_X8_120 co_X6_remember (by decide) rfl (c_X6_remember 0 m1) (by decide) (by decide) rfl rfl (Nat.le_of_ble_eq_true rfl) dX8_depth_13 (fun r4 m3 => ?_)
    refine r_aload_n C dX8_depth_16 rfl rfl ?_
    refine r_get (v := .inr (6, 0)) C fl_X8_10 dX8_depth_17 rfl ?_
    refine r_get (v := .inr (3, 0)) C fl_X8_82 dX8_depth_20 rfl ?_
    refine r_iload_n C dX8_depth_23 rfl rfl ?_
    refine r_put C fl_X8_204 rfl rfl rfl dX8_depth_24 (fun m5 => ?_)
    refine r_iconst (v := 1) C dX8_depth_27 (by decide) ?_
    exact r_zret1 C dX8_depth_28
  refine r_iconst (v := 0) C dX8_depth_7 (by decide) ?_
  exact r_zret0 C dX8_depth_8
theorem dX8_isTrace_0 : decode cX8_isTrace 0 = .ok (.iload_n 1, 1) := by decide +kernel
theorem dX8_isTrace_1 : decode cX8_isTrace 1 = .ok (.ifCond .lt 18, 3) := by decide +kernel
theorem dX8_isTrace_4 : decode cX8_isTrace 4 = .ok (.iload_n 1, 1) := by decide +kernel
theorem dX8_isTrace_5 : decode cX8_isTrace 5 = .ok (.aload_n 0, 1) := by decide +kernel
theorem dX8_isTrace_6 : decode cX8_isTrace 6 = .ok (.getfield 10, 3) := by decide +kernel
theorem dX8_isTrace_9 : decode cX8_isTrace 9 = .ok (.getfield 95, 3) := by decide +kernel
theorem dX8_isTrace_12 : decode cX8_isTrace 12 = .ok (.if_icmp .ge 7, 3) := by decide +kernel
theorem dX8_isTrace_15 : decode cX8_isTrace 15 = .ok (.iconst 1, 1) := by decide +kernel
theorem dX8_isTrace_16 : decode cX8_isTrace 16 = .ok (.goto 4, 3) := by decide +kernel
theorem dX8_isTrace_19 : decode cX8_isTrace 19 = .ok (.iconst 0, 1) := by decide +kernel
theorem dX8_isTrace_20 : decode cX8_isTrace 20 = .ok (.ireturn, 1) := by decide +kernel
def X8_isTrace (a1 : Int32) (m : gM) : Option (Bool × gM) :=
  if a1 < 0 then (some (false, m)) else (if (m 6 0 6) ≤ a1 then (some (false, m)) else (some (true, m)))
set_option maxRecDepth 100000 in
set_option maxHeartbeats 4000000 in
theorem c_X8_isTrace (a1 : Int32) (m : gM) : gCon eB yX8_isTrace cX8_isTrace 2 (some .boolean) 0 [.inr (8, 0), .inl a1] m (X8_isTrace a1 m) := by
  refine gCon.of (lv := [some (.inr (8, 0)), some (.inl a1)]) (by decide +kernel) (Nat.le_of_ble_eq_true rfl) rfl (fun X C => ?_)
  unfold X8_isTrace
  refine r_iload_n C dX8_isTrace_0 rfl rfl ?_
  refine r_if_lt (tgt := 19) C dX8_isTrace_1 (by decide) ?_ ?_
  · refine r_iconst (v := 0) C dX8_isTrace_19 (by decide) ?_
    exact r_zret0 C dX8_isTrace_20
  refine r_iload_n C dX8_isTrace_4 rfl rfl ?_
  refine r_aload_n C dX8_isTrace_5 rfl rfl ?_
  refine r_get (v := .inr (6, 0)) C fl_X8_10 dX8_isTrace_6 rfl ?_
  refine r_get (v := .inl (m 6 0 6)) C fl_X8_95 dX8_isTrace_9 rfl ?_
  refine r_icmp_ge (tgt := 19) C dX8_isTrace_12 (by decide) ?_ ?_
  · refine r_iconst (v := 0) C dX8_isTrace_19 (by decide) ?_
    exact r_zret0 C dX8_isTrace_20
  refine r_iconst (v := 1) C dX8_isTrace_15 (by decide) ?_
  refine r_goto (tgt := 20) C dX8_isTrace_16 (by decide) ?_
  exact r_zret1 C dX8_isTrace_20
theorem dX8_missesOn_0 : decode cX8_missesOn 0 = .ok (.aload_n 1, 1) := by decide +kernel
theorem dX8_missesOn_1 : decode cX8_missesOn 1 = .ok (.getfield 235, 3) := by decide +kernel
theorem dX8_missesOn_4 : decode cX8_missesOn 4 = .ok (.iconst 1, 1) := by decide +kernel
theorem dX8_missesOn_5 : decode cX8_missesOn 5 = .ok (.iaload, 1) := by decide +kernel
theorem dX8_missesOn_6 : decode cX8_missesOn 6 = .ok (.istore_n 3, 1) := by decide +kernel
theorem dX8_missesOn_7 : decode cX8_missesOn 7 = .ok (.iconst 0, 1) := by decide +kernel
theorem dX8_missesOn_8 : decode cX8_missesOn 8 = .ok (.istore 4, 2) := by decide +kernel
theorem dX8_missesOn_10 : decode cX8_missesOn 10 = .ok (.iload 4, 2) := by decide +kernel
theorem dX8_missesOn_12 : decode cX8_missesOn 12 = .ok (.aload_n 2, 1) := by decide +kernel
theorem dX8_missesOn_13 : decode cX8_missesOn 13 = .ok (.getfield 365, 3) := by decide +kernel
theorem dX8_missesOn_16 : decode cX8_missesOn 16 = .ok (.if_icmp .ge 57, 3) := by decide +kernel
theorem dX8_missesOn_19 : decode cX8_missesOn 19 = .ok (.aload_n 1, 1) := by decide +kernel
theorem dX8_missesOn_20 : decode cX8_missesOn 20 = .ok (.aload_n 2, 1) := by decide +kernel
theorem dX8_missesOn_21 : decode cX8_missesOn 21 = .ok (.getfield 368, 3) := by decide +kernel
theorem dX8_missesOn_24 : decode cX8_missesOn 24 = .ok (.iload 4, 2) := by decide +kernel
theorem dX8_missesOn_26 : decode cX8_missesOn 26 = .ok (.iaload, 1) := by decide +kernel
theorem dX8_missesOn_27 : decode cX8_missesOn 27 = .ok (.aload_n 0, 1) := by decide +kernel
theorem dX8_missesOn_28 : decode cX8_missesOn 28 = .ok (.getfield 29, 3) := by decide +kernel
theorem dX8_missesOn_31 : decode cX8_missesOn 31 = .ok (.invokevirtual 123, 3) := by decide +kernel
theorem dX8_missesOn_34 : decode cX8_missesOn 34 = .ok (.istore 5, 2) := by decide +kernel
theorem dX8_missesOn_36 : decode cX8_missesOn 36 = .ok (.aload_n 2, 1) := by decide +kernel
theorem dX8_missesOn_37 : decode cX8_missesOn 37 = .ok (.getfield 398, 3) := by decide +kernel
theorem dX8_missesOn_40 : decode cX8_missesOn 40 = .ok (.iload 4, 2) := by decide +kernel
theorem dX8_missesOn_42 : decode cX8_missesOn 42 = .ok (.iaload, 1) := by decide +kernel
theorem dX8_missesOn_43 : decode cX8_missesOn 43 = .ok (.iconst (-1), 1) := by decide +kernel
theorem dX8_missesOn_44 : decode cX8_missesOn 44 = .ok (.if_icmp .eq 23, 3) := by decide +kernel
theorem dX8_missesOn_47 : decode cX8_missesOn 47 = .ok (.aload_n 1, 1) := by decide +kernel
theorem dX8_missesOn_48 : decode cX8_missesOn 48 = .ok (.aload_n 2, 1) := by decide +kernel
theorem dX8_missesOn_49 : decode cX8_missesOn 49 = .ok (.getfield 368, 3) := by decide +kernel
theorem dX8_missesOn_52 : decode cX8_missesOn 52 = .ok (.iload 4, 2) := by decide +kernel
theorem dX8_missesOn_54 : decode cX8_missesOn 54 = .ok (.iaload, 1) := by decide +kernel
theorem dX8_missesOn_55 : decode cX8_missesOn 55 = .ok (.iload 5, 2) := by decide +kernel
theorem dX8_missesOn_57 : decode cX8_missesOn 57 = .ok (.aload_n 2, 1) := by decide +kernel
theorem dX8_missesOn_58 : decode cX8_missesOn 58 = .ok (.getfield 398, 3) := by decide +kernel
theorem dX8_missesOn_61 : decode cX8_missesOn 61 = .ok (.iload 4, 2) := by decide +kernel
theorem dX8_missesOn_63 : decode cX8_missesOn 63 = .ok (.iaload, 1) := by decide +kernel
theorem dX8_missesOn_64 : decode cX8_missesOn 64 = .ok (.invokevirtual 134, 3) := by decide +kernel
theorem dX8_missesOn_67 : decode cX8_missesOn 67 = .ok (.iinc 4 1, 3) := by decide +kernel
theorem dX8_missesOn_70 : decode cX8_missesOn 70 = .ok (.goto (-60), 3) := by decide +kernel
theorem dX8_missesOn_73 : decode cX8_missesOn 73 = .ok (.aload_n 1, 1) := by decide +kernel
theorem dX8_missesOn_74 : decode cX8_missesOn 74 = .ok (.getfield 235, 3) := by decide +kernel
theorem dX8_missesOn_77 : decode cX8_missesOn 77 = .ok (.iconst 1, 1) := by decide +kernel
theorem dX8_missesOn_78 : decode cX8_missesOn 78 = .ok (.iaload, 1) := by decide +kernel
theorem dX8_missesOn_79 : decode cX8_missesOn 79 = .ok (.iload_n 3, 1) := by decide +kernel
theorem dX8_missesOn_80 : decode cX8_missesOn 80 = .ok (.isub, 1) := by decide +kernel
theorem dX8_missesOn_81 : decode cX8_missesOn 81 = .ok (.ireturn, 1) := by decide +kernel
def X8_missesOn_b10 (o1 : Nat) (o2 : Nat) (j73 : gM → Option (Int32 × gM)) (v4 : Int32) (m5 : gM) (k10 : Int32 → gM → Option (Int32 × gM)) : Option (Int32 × gM) :=
  if (m5 5 o2 2) ≤ v4 then (j73 m5) else (gAt m5 38 o2 v4 (fun (x6 : Int32) => gCall (X3_come o1 x6 m5) (fun (r8 : Int32) (m7 : gM) => gAt m7 39 o2 v4 (fun (x9 : Int32) => if x9 = (-1) then (gLet (v4 + 1) (fun (x10 : Int32) => k10 x10 m7)) else (gAt m7 38 o2 v4 (fun (x11 : Int32) => gAt m7 39 o2 v4 (fun (x12 : Int32) => gCall (X3_put o1 x11 r8 x12 m7) (fun (r14 : Unit) (m13 : gM) => gLet (v4 + 1) (fun (x15 : Int32) => k10 x15 m13)))))))))
def X8_missesOn (o1 : Nat) (o2 : Nat) (m : gM) : Option (Int32 × gM) :=
  gAt m 26 o1 1 (fun (x1 : Int32) => gJ0 (fun (m2 : gM) => gAt m2 26 o1 1 (fun (x3 : Int32) => some (x3 - x1, m2))) (fun (j73 : gM → Option (Int32 × gM)) => gL1 FU (X8_missesOn_b10 o1 o2 j73) 0 m))
set_option maxRecDepth 100000 in
set_option maxHeartbeats 4000000 in
theorem c_X8_missesOn (o1 : Nat) (o2 : Nat) (m : gM) : gCon eI yX8_missesOn cX8_missesOn 6 (some .int) 5 [.inr (8, 0), .inr (3, o1), .inr (5, o2)] m (X8_missesOn o1 o2 m) := by
  refine gCon.of (lv := [some (.inr (8, 0)), some (.inr (3, o1)), some (.inr (5, o2)), none, none, none]) (by decide +kernel) (Nat.le_of_ble_eq_true rfl) rfl (fun X C => ?_)
  unfold X8_missesOn
  refine r_aload_n C dX8_missesOn_0 rfl rfl ?_
  refine r_get (v := .inr (26, o1)) C fl_X8_235 dX8_missesOn_1 rfl ?_
  refine r_iconst (v := 1) C dX8_missesOn_4 (by decide) ?_
  refine r_iald C rfl dX8_missesOn_5 (fun x1 => ?_)
  refine r_istore_n (lv' := [some (.inr (8, 0)), some (.inr (3, o1)), some (.inr (5, o2)), some (.inl x1), none, none]) C dX8_missesOn_6 rfl (by decide) rfl ?_
  refine r_iconst (v := 0) C dX8_missesOn_7 (by decide) ?_
  refine r_istore (lv' := [some (.inr (8, 0)), some (.inr (3, o1)), some (.inr (5, o2)), some (.inl x1), some (.inl 0), none]) C dX8_missesOn_8 (by decide) rfl ?_
  refine r_j0 73 [none, some (.inr (3, o1)), none, some (.inl x1), none, none] [] (fun m2 => ?_) (fun j73 hj73 => ?_)
  · refine r_aload_n C dX8_missesOn_73 rfl rfl ?_
    refine r_get (v := .inr (26, o1)) C fl_X8_235 dX8_missesOn_74 rfl ?_
    refine r_iconst (v := 1) C dX8_missesOn_77 (by decide) ?_
    refine r_iald C rfl dX8_missesOn_78 (fun x3 => ?_)
    refine r_iload_n C dX8_missesOn_79 rfl rfl ?_
    refine r_isub C dX8_missesOn_80 ?_
    exact r_ireturn C dX8_missesOn_81
  refine r_weak (lv' := [some (.inr (8, 0)), some (.inr (3, o1)), some (.inr (5, o2)), some (.inl x1), some (.inl 0), none]) ⟨rfl, rfl, rfl, rfl, rfl, trivial⟩ ?_
  refine r_l1 (pj := 10) (fun v4 => [some (.inr (8, 0)), some (.inr (3, o1)), some (.inr (5, o2)), some (.inl x1), some (.inl v4), none]) (fun v4 m5 k10 hk10 => ?_) _ _ _
  unfold X8_missesOn_b10
  refine r_iload C dX8_missesOn_10 rfl ?_
  refine r_aload_n C dX8_missesOn_12 rfl rfl ?_
  refine r_get (v := .inl (m5 5 o2 2)) C fl_X8_365 dX8_missesOn_13 rfl ?_
  refine r_icmp_ge (tgt := 73) C dX8_missesOn_16 (by decide) ?_ ?_
  · exact r_weak (lv' := [none, some (.inr (3, o1)), none, some (.inl x1), none, none]) ⟨rfl, rfl, trivial⟩ (hj73 _)
  refine r_aload_n C dX8_missesOn_19 rfl rfl ?_
  refine r_aload_n C dX8_missesOn_20 rfl rfl ?_
  refine r_get (v := .inr (38, o2)) C fl_X8_368 dX8_missesOn_21 rfl ?_
  refine r_iload C dX8_missesOn_24 rfl ?_
  refine r_iald C rfl dX8_missesOn_26 (fun x6 => ?_)
  refine r_aload_n C dX8_missesOn_27 rfl rfl ?_
  refine r_get (v := .inr (1, 0)) C fl_X8_29 dX8_missesOn_28 rfl ?_
  refine r_invI (t := 3) (kb := o1) (As := [.inl x6, .inr (1, 0)]) (st := []) C il_X8_123 co_X3_come (by decide) rfl (c_X3_come o1 x6 m5) (by decide) (by decide) rfl rfl (Nat.le_of_ble_eq_true rfl) dX8_missesOn_31 (fun r8 m7 => ?_)
  refine r_istore (lv' := [some (.inr (8, 0)), some (.inr (3, o1)), some (.inr (5, o2)), some (.inl x1), some (.inl v4), some (.inl r8)]) C dX8_missesOn_34 (by decide) rfl ?_
  refine r_aload_n C dX8_missesOn_36 rfl rfl ?_
  refine r_get (v := .inr (39, o2)) C fl_X8_398 dX8_missesOn_37 rfl ?_
  refine r_iload C dX8_missesOn_40 rfl ?_
  refine r_iald C rfl dX8_missesOn_42 (fun x9 => ?_)
  refine r_iconst (v := (-1)) C dX8_missesOn_43 (by decide) ?_
  refine r_icmp_eq (tgt := 67) C dX8_missesOn_44 (by decide) ?_ ?_
  · refine r_iinc (v := 1) C dX8_missesOn_67 (by decide) rfl (by decide) (fun x10 => ?_)
    show gw X eI _ [some (.inr (8, 0)), some (.inr (3, o1)), some (.inr (5, o2)), some (.inl x1), some (.inl x10), some (.inl r8)] _ _ _
    refine r_goto (tgt := 10) C dX8_missesOn_70 (by decide) ?_
    exact r_weak (lv' := [some (.inr (8, 0)), some (.inr (3, o1)), some (.inr (5, o2)), some (.inl x1), some (.inl x10), none]) ⟨rfl, rfl, rfl, rfl, rfl, trivial⟩ (hk10 _ _)
  refine r_aload_n C dX8_missesOn_47 rfl rfl ?_
  refine r_aload_n C dX8_missesOn_48 rfl rfl ?_
  refine r_get (v := .inr (38, o2)) C fl_X8_368 dX8_missesOn_49 rfl ?_
  refine r_iload C dX8_missesOn_52 rfl ?_
  refine r_iald C rfl dX8_missesOn_54 (fun x11 => ?_)
  refine r_iload C dX8_missesOn_55 rfl ?_
  refine r_aload_n C dX8_missesOn_57 rfl rfl ?_
  refine r_get (v := .inr (39, o2)) C fl_X8_398 dX8_missesOn_58 rfl ?_
  refine r_iload C dX8_missesOn_61 rfl ?_
  refine r_iald C rfl dX8_missesOn_63 (fun x12 => ?_)
  refine r_invU (t := 3) (kb := o1) (As := [.inl x11, .inl r8, .inl x12]) (st := []) C il_X8_134 co_X3_put (by decide) rfl (c_X3_put o1 x11 r8 x12 m7) (by decide) (by decide) rfl rfl (Nat.le_of_ble_eq_true rfl) dX8_missesOn_64 (fun r14 m13 => ?_)
  refine r_iinc (v := 1) C dX8_missesOn_67 (by decide) rfl (by decide) (fun x15 => ?_)
  show gw X eI _ [some (.inr (8, 0)), some (.inr (3, o1)), some (.inr (5, o2)), some (.inl x1), some (.inl x15), some (.inl r8)] _ _ _
  refine r_goto (tgt := 10) C dX8_missesOn_70 (by decide) ?_
  exact r_weak (lv' := [some (.inr (8, 0)), some (.inr (3, o1)), some (.inr (5, o2)), some (.inl x1), some (.inl x15), none]) ⟨rfl, rfl, rfl, rfl, rfl, trivial⟩ (hk10 _ _)
theorem dX8_run_0 : decode cX8_run 0 = .ok (.aload_n 0, 1) := by decide +kernel
theorem dX8_run_1 : decode cX8_run 1 = .ok (.iload_n 1, 1) := by decide +kernel
theorem dX8_run_2 : decode cX8_run 2 = .ok (.invokevirtual 207, 3) := by decide +kernel
theorem dX8_run_5 : decode cX8_run 5 = .ok (.ifCond .ne 5, 3) := by decide +kernel
theorem dX8_run_8 : decode cX8_run 8 = .ok (.iconst (-1), 1) := by decide +kernel
theorem dX8_run_9 : decode cX8_run 9 = .ok (.ireturn, 1) := by decide +kernel
theorem dX8_run_10 : decode cX8_run 10 = .ok (.aload_n 0, 1) := by decide +kernel
theorem dX8_run_11 : decode cX8_run 11 = .ok (.getfield 10, 3) := by decide +kernel
theorem dX8_run_14 : decode cX8_run 14 = .ok (.invokevirtual 120, 3) := by decide +kernel
theorem dX8_run_17 : decode cX8_run 17 = .ok (.aload_n 0, 1) := by decide +kernel
theorem dX8_run_18 : decode cX8_run 18 = .ok (.aload_n 0, 1) := by decide +kernel
theorem dX8_run_19 : decode cX8_run 19 = .ok (.getfield 10, 3) := by decide +kernel
theorem dX8_run_22 : decode cX8_run 22 = .ok (.getfield 82, 3) := by decide +kernel
theorem dX8_run_25 : decode cX8_run 25 = .ok (.aload_n 0, 1) := by decide +kernel
theorem dX8_run_26 : decode cX8_run 26 = .ok (.getfield 10, 3) := by decide +kernel
theorem dX8_run_29 : decode cX8_run 29 = .ok (.getfield 108, 3) := by decide +kernel
theorem dX8_run_32 : decode cX8_run 32 = .ok (.iload_n 1, 1) := by decide +kernel
theorem dX8_run_33 : decode cX8_run 33 = .ok (.aaload, 1) := by decide +kernel
theorem dX8_run_34 : decode cX8_run 34 = .ok (.invokevirtual 210, 3) := by decide +kernel
theorem dX8_run_37 : decode cX8_run 37 = .ok (.ireturn, 1) := by decide +kernel
def X8_run (a1 : Int32) (m : gM) : Option (Int32 × gM) :=
  gCall (X8_isTrace a1 m) (fun (r2 : Bool) (m1 : gM) => if r2 = true then (gCall (X6_remember 0 m1) (fun (r4 : Unit) (m3 : gM) => gAtR 42 a1 (fun (n5 : Nat) => gCall (X8_missesOn 0 (4 * 0 + n5) m3) (fun (r7 : Int32) (m6 : gM) => some (r7, m6))))) else (some ((-1), m1)))
set_option maxRecDepth 100000 in
set_option maxHeartbeats 4000000 in
theorem c_X8_run (a1 : Int32) (m : gM) : gCon eI yX8_run cX8_run 2 (some .int) 6 [.inr (8, 0), .inl a1] m (X8_run a1 m) := by
  refine gCon.of (lv := [some (.inr (8, 0)), some (.inl a1)]) (by decide +kernel) (Nat.le_of_ble_eq_true rfl) rfl (fun X C => ?_)
  unfold X8_run
  refine r_aload_n C dX8_run_0 rfl rfl ?_
  refine r_iload_n C dX8_run_1 rfl rfl ?_
  refine r_invB (t := 8) (kb := 0) (As := [.inl a1]) (st := []) C il_X8_207 co_X8_isTrace (by decide) rfl (c_X8_isTrace a1 m) (by decide) (by decide) rfl rfl (Nat.le_of_ble_eq_true rfl) dX8_run_2 (fun r2 m1 => ?_)
  refine r_ifneB (tgt := 10) C dX8_run_5 (by decide) ?_ ?_
  · refine r_aload_n C dX8_run_10 rfl rfl ?_
    refine r_get (v := .inr (6, 0)) C fl_X8_10 dX8_run_11 rfl ?_
    refine r_invU (t := 6) (kb := 0) (As := []) (st := []) C il_X8_120 co_X6_remember (by decide) rfl (c_X6_remember 0 m1) (by decide) (by decide) rfl rfl (Nat.le_of_ble_eq_true rfl) dX8_run_14 (fun r4 m3 => ?_)
    refine r_aload_n C dX8_run_17 rfl rfl ?_
    refine r_aload_n C dX8_run_18 rfl rfl ?_
    refine r_get (v := .inr (6, 0)) C fl_X8_10 dX8_run_19 rfl ?_
    refine r_get (v := .inr (3, 0)) C fl_X8_82 dX8_run_22 rfl ?_
    refine r_aload_n C dX8_run_25 rfl rfl ?_
    refine r_get (v := .inr (6, 0)) C fl_X8_10 dX8_run_26 rfl ?_
    refine r_get (v := .inr (42, 0)) C fl_X8_108 dX8_run_29 rfl ?_
    refine r_iload_n C dX8_run_32 rfl rfl ?_
    refine r_aald (q := fun n5 => (5, (4 * 0 + n5))) C (by decide) (fun _ => rfl) dX8_run_33 (fun n5 => ?_)
    refine r_invI (t := 8) (kb := 0) (As := [.inr (3, 0), .inr (5, (4 * 0 + n5))]) (st := []) C il_X8_210 co_X8_missesOn (by decide) rfl (c_X8_missesOn 0 (4 * 0 + n5) m3) (by decide) (by decide) rfl rfl (Nat.le_of_ble_eq_true rfl) dX8_run_34 (fun r7 m6 => ?_)
    exact r_ireturn C dX8_run_37
  refine r_iconst (v := (-1)) C dX8_run_8 (by decide) ?_
  exact r_ireturn C dX8_run_9
theorem dX8_undo_0 : decode cX8_undo 0 = .ok (.aload_n 0, 1) := by decide +kernel
theorem dX8_undo_1 : decode cX8_undo 1 = .ok (.getfield 10, 3) := by decide +kernel
theorem dX8_undo_4 : decode cX8_undo 4 = .ok (.invokevirtual 214, 3) := by decide +kernel
theorem dX8_undo_7 : decode cX8_undo 7 = .ok (.ireturn, 1) := by decide +kernel
def X8_undo (m : gM) : Option (Int32 × gM) :=
  gCall (X6_takeBack 0 m) (fun (r2 : Int32) (m1 : gM) => some (r2, m1))
set_option maxRecDepth 100000 in
set_option maxHeartbeats 4000000 in
theorem c_X8_undo (m : gM) : gCon eI yX8_undo cX8_undo 1 (some .int) 4 [.inr (8, 0)] m (X8_undo m) := by
  refine gCon.of (lv := [some (.inr (8, 0))]) (by decide +kernel) (Nat.le_of_ble_eq_true rfl) rfl (fun X C => ?_)
  unfold X8_undo
  refine r_aload_n C dX8_undo_0 rfl rfl ?_
  refine r_get (v := .inr (6, 0)) C fl_X8_10 dX8_undo_1 rfl ?_
  refine r_invI (t := 6) (kb := 0) (As := []) (st := []) C il_X8_214 co_X6_takeBack (by decide) rfl (c_X6_takeBack 0 m) (by decide) (by decide) rfl rfl (Nat.le_of_ble_eq_true rfl) dX8_undo_4 (fun r2 m1 => ?_)
  exact r_ireturn C dX8_undo_7
theorem dX8_tell_0 : decode cX8_tell 0 = .ok (.iload_n 1, 1) := by decide +kernel
theorem dX8_tell_1 : decode cX8_tell 1 = .ok (.ifCond .lt 10, 3) := by decide +kernel
theorem dX8_tell_4 : decode cX8_tell 4 = .ok (.iload_n 1, 1) := by decide +kernel
theorem dX8_tell_5 : decode cX8_tell 5 = .ok (.sipush 30047, 3) := by decide +kernel
theorem dX8_tell_8 : decode cX8_tell 8 = .ok (.if_icmp .lt 5, 3) := by decide +kernel
theorem dX8_tell_11 : decode cX8_tell 11 = .ok (.iconst 0, 1) := by decide +kernel
theorem dX8_tell_12 : decode cX8_tell 12 = .ok (.ireturn, 1) := by decide +kernel
theorem dX8_tell_13 : decode cX8_tell 13 = .ok (.aload_n 0, 1) := by decide +kernel
theorem dX8_tell_14 : decode cX8_tell 14 = .ok (.getfield 10, 3) := by decide +kernel
theorem dX8_tell_17 : decode cX8_tell 17 = .ok (.getfield 82, 3) := by decide +kernel
theorem dX8_tell_20 : decode cX8_tell 20 = .ok (.iload_n 1, 1) := by decide +kernel
theorem dX8_tell_21 : decode cX8_tell 21 = .ok (.putfield 217, 3) := by decide +kernel
theorem dX8_tell_24 : decode cX8_tell 24 = .ok (.iconst 1, 1) := by decide +kernel
theorem dX8_tell_25 : decode cX8_tell 25 = .ok (.ireturn, 1) := by decide +kernel
def X8_tell (a1 : Int32) (m : gM) : Option (Bool × gM) :=
  if a1 < 0 then (some (false, m)) else (if a1 < 30047 then (gSet m 3 0 3 a1 (fun (m1 : gM) => some (true, m1))) else (some (false, m)))
set_option maxRecDepth 100000 in
set_option maxHeartbeats 4000000 in
theorem c_X8_tell (a1 : Int32) (m : gM) : gCon eB yX8_tell cX8_tell 2 (some .boolean) 0 [.inr (8, 0), .inl a1] m (X8_tell a1 m) := by
  refine gCon.of (lv := [some (.inr (8, 0)), some (.inl a1)]) (by decide +kernel) (Nat.le_of_ble_eq_true rfl) rfl (fun X C => ?_)
  unfold X8_tell
  refine r_iload_n C dX8_tell_0 rfl rfl ?_
  refine r_if_lt (tgt := 11) C dX8_tell_1 (by decide) ?_ ?_
  · refine r_iconst (v := 0) C dX8_tell_11 (by decide) ?_
    exact r_zret0 C dX8_tell_12
  refine r_iload_n C dX8_tell_4 rfl rfl ?_
  refine r_sipush (v := 30047) C dX8_tell_5 (by decide) ?_
  refine r_icmp_lt (tgt := 13) C dX8_tell_8 (by decide) ?_ ?_
  · refine r_aload_n C dX8_tell_13 rfl rfl ?_
    refine r_get (v := .inr (6, 0)) C fl_X8_10 dX8_tell_14 rfl ?_
    refine r_get (v := .inr (3, 0)) C fl_X8_82 dX8_tell_17 rfl ?_
    refine r_iload_n C dX8_tell_20 rfl rfl ?_
    refine r_put C fl_X8_217 rfl rfl rfl dX8_tell_21 (fun m1 => ?_)
    refine r_iconst (v := 1) C dX8_tell_24 (by decide) ?_
    exact r_zret1 C dX8_tell_25
  refine r_iconst (v := 0) C dX8_tell_11 (by decide) ?_
  exact r_zret0 C dX8_tell_12
theorem dX8_gather_0 : decode cX8_gather 0 = .ok (.iload_n 1, 1) := by decide +kernel
theorem dX8_gather_1 : decode cX8_gather 1 = .ok (.invokestatic 116, 3) := by decide +kernel
theorem dX8_gather_4 : decode cX8_gather 4 = .ok (.ifCond .eq 27, 3) := by decide +kernel
theorem dX8_gather_7 : decode cX8_gather 7 = .ok (.aload_n 0, 1) := by decide +kernel
theorem dX8_gather_8 : decode cX8_gather 8 = .ok (.getfield 10, 3) := by decide +kernel
theorem dX8_gather_11 : decode cX8_gather 11 = .ok (.iload_n 1, 1) := by decide +kernel
theorem dX8_gather_12 : decode cX8_gather 12 = .ok (.invokevirtual 220, 3) := by decide +kernel
theorem dX8_gather_15 : decode cX8_gather 15 = .ok (.iconst (-1), 1) := by decide +kernel
theorem dX8_gather_16 : decode cX8_gather 16 = .ok (.if_icmp .ne 15, 3) := by decide +kernel
theorem dX8_gather_19 : decode cX8_gather 19 = .ok (.aload_n 0, 1) := by decide +kernel
theorem dX8_gather_20 : decode cX8_gather 20 = .ok (.getfield 10, 3) := by decide +kernel
theorem dX8_gather_23 : decode cX8_gather 23 = .ok (.getfield 223, 3) := by decide +kernel
theorem dX8_gather_26 : decode cX8_gather 26 = .ok (.bipush 32, 2) := by decide +kernel
theorem dX8_gather_28 : decode cX8_gather 28 = .ok (.if_icmp .lt 5, 3) := by decide +kernel
theorem dX8_gather_31 : decode cX8_gather 31 = .ok (.iconst (-1), 1) := by decide +kernel
theorem dX8_gather_32 : decode cX8_gather 32 = .ok (.ireturn, 1) := by decide +kernel
theorem dX8_gather_33 : decode cX8_gather 33 = .ok (.aload_n 0, 1) := by decide +kernel
theorem dX8_gather_34 : decode cX8_gather 34 = .ok (.getfield 10, 3) := by decide +kernel
theorem dX8_gather_37 : decode cX8_gather 37 = .ok (.iload_n 1, 1) := by decide +kernel
theorem dX8_gather_38 : decode cX8_gather 38 = .ok (.invokevirtual 226, 3) := by decide +kernel
theorem dX8_gather_41 : decode cX8_gather 41 = .ok (.aload_n 0, 1) := by decide +kernel
theorem dX8_gather_42 : decode cX8_gather 42 = .ok (.getfield 10, 3) := by decide +kernel
theorem dX8_gather_45 : decode cX8_gather 45 = .ok (.getfield 223, 3) := by decide +kernel
theorem dX8_gather_48 : decode cX8_gather 48 = .ok (.ireturn, 1) := by decide +kernel
def X8_gather (a1 : Int32) (m : gM) : Option (Int32 × gM) :=
  gCall (X8_isLine a1 m) (fun (r2 : Bool) (m1 : gM) => if r2 = true then (gCall (X6_placeInSet 0 a1 m1) (fun (r4 : Int32) (m3 : gM) => if r4 = (-1) then (if (m3 6 0 7) < 32 then (gCall (X6_addToSet 0 a1 m3) (fun (r6 : Unit) (m5 : gM) => some ((m5 6 0 7), m5))) else (some ((-1), m3))) else (some ((-1), m3)))) else (some ((-1), m1)))
set_option maxRecDepth 100000 in
set_option maxHeartbeats 4000000 in
theorem c_X8_gather (a1 : Int32) (m : gM) : gCon eI yX8_gather cX8_gather 2 (some .int) 1 [.inr (8, 0), .inl a1] m (X8_gather a1 m) := by
  refine gCon.of (lv := [some (.inr (8, 0)), some (.inl a1)]) (by decide +kernel) (Nat.le_of_ble_eq_true rfl) rfl (fun X C => ?_)
  unfold X8_gather
  refine r_iload_n C dX8_gather_0 rfl rfl ?_
  refine r_insB (As := [.inl a1]) (st := []) C il_X8_116 co_X8_isLine (c_X8_isLine a1 m) (by decide) (by decide) rfl rfl (Nat.le_of_ble_eq_true rfl) dX8_gather_1 (fun r2 m1 => ?_)
  refine r_ifeqB (tgt := 31) C dX8_gather_4 (by decide) ?_ ?_
  · refine r_iconst (v := (-1)) C dX8_gather_31 (by decide) ?_
    exact r_ireturn C dX8_gather_32
  refine r_aload_n C dX8_gather_7 rfl rfl ?_
  refine r_get (v := .inr (6, 0)) C fl_X8_10 dX8_gather_8 rfl ?_
  refine r_iload_n C dX8_gather_11 rfl rfl ?_
  refine r_invI (t := 6) (kb := 0) (As := [.inl a1]) (st := []) C il_X8_220 co_X6_placeInSet (by decide) rfl (c_X6_placeInSet 0 a1 m1) (by decide) (by decide) rfl rfl (Nat.le_of_ble_eq_true rfl) dX8_gather_12 (fun r4 m3 => ?_)
  refine r_iconst (v := (-1)) C dX8_gather_15 (by decide) ?_
  refine r_icmp_ne (tgt := 31) C dX8_gather_16 (by decide) ?_ ?_
  · refine r_iconst (v := (-1)) C dX8_gather_31 (by decide) ?_
    exact r_ireturn C dX8_gather_32
  refine r_aload_n C dX8_gather_19 rfl rfl ?_
  refine r_get (v := .inr (6, 0)) C fl_X8_10 dX8_gather_20 rfl ?_
  refine r_get (v := .inl (m3 6 0 7)) C fl_X8_223 dX8_gather_23 rfl ?_
  refine r_bipush (v := 32) C dX8_gather_26 (by decide) ?_
  refine r_icmp_lt (tgt := 33) C dX8_gather_28 (by decide) ?_ ?_
  · refine r_aload_n C dX8_gather_33 rfl rfl ?_
    refine r_get (v := .inr (6, 0)) C fl_X8_10 dX8_gather_34 rfl ?_
    refine r_iload_n C dX8_gather_37 rfl rfl ?_
    refine r_invU (t := 6) (kb := 0) (As := [.inl a1]) (st := []) C il_X8_226 co_X6_addToSet (by decide) rfl (c_X6_addToSet 0 a1 m3) (by decide) (by decide) rfl rfl (Nat.le_of_ble_eq_true rfl) dX8_gather_38 (fun r6 m5 => ?_)
    refine r_aload_n C dX8_gather_41 rfl rfl ?_
    refine r_get (v := .inr (6, 0)) C fl_X8_10 dX8_gather_42 rfl ?_
    refine r_get (v := .inl (m5 6 0 7)) C fl_X8_223 dX8_gather_45 rfl ?_
    exact r_ireturn C dX8_gather_48
  refine r_iconst (v := (-1)) C dX8_gather_31 (by decide) ?_
  exact r_ireturn C dX8_gather_32
theorem dX8_collect_0 : decode cX8_collect 0 = .ok (.aload_n 0, 1) := by decide +kernel
theorem dX8_collect_1 : decode cX8_collect 1 = .ok (.iload_n 1, 1) := by decide +kernel
theorem dX8_collect_2 : decode cX8_collect 2 = .ok (.invokevirtual 207, 3) := by decide +kernel
theorem dX8_collect_5 : decode cX8_collect 5 = .ok (.ifCond .ne 5, 3) := by decide +kernel
theorem dX8_collect_8 : decode cX8_collect 8 = .ok (.iconst (-1), 1) := by decide +kernel
theorem dX8_collect_9 : decode cX8_collect 9 = .ok (.ireturn, 1) := by decide +kernel
theorem dX8_collect_10 : decode cX8_collect 10 = .ok (.aload_n 0, 1) := by decide +kernel
theorem dX8_collect_11 : decode cX8_collect 11 = .ok (.getfield 10, 3) := by decide +kernel
theorem dX8_collect_14 : decode cX8_collect 14 = .ok (.aload_n 0, 1) := by decide +kernel
theorem dX8_collect_15 : decode cX8_collect 15 = .ok (.getfield 10, 3) := by decide +kernel
theorem dX8_collect_18 : decode cX8_collect 18 = .ok (.getfield 108, 3) := by decide +kernel
theorem dX8_collect_21 : decode cX8_collect 21 = .ok (.iload_n 1, 1) := by decide +kernel
theorem dX8_collect_22 : decode cX8_collect 22 = .ok (.aaload, 1) := by decide +kernel
theorem dX8_collect_23 : decode cX8_collect 23 = .ok (.invokevirtual 229, 3) := by decide +kernel
theorem dX8_collect_26 : decode cX8_collect 26 = .ok (.aload_n 0, 1) := by decide +kernel
theorem dX8_collect_27 : decode cX8_collect 27 = .ok (.getfield 10, 3) := by decide +kernel
theorem dX8_collect_30 : decode cX8_collect 30 = .ok (.getfield 223, 3) := by decide +kernel
theorem dX8_collect_33 : decode cX8_collect 33 = .ok (.ireturn, 1) := by decide +kernel
def X8_collect (a1 : Int32) (m : gM) : Option (Int32 × gM) :=
  gCall (X8_isTrace a1 m) (fun (r2 : Bool) (m1 : gM) => if r2 = true then (gAtR 42 a1 (fun (n3 : Nat) => gCall (X6_collectFrom 0 (4 * 0 + n3) m1) (fun (r5 : Unit) (m4 : gM) => some ((m4 6 0 7), m4)))) else (some ((-1), m1)))
set_option maxRecDepth 100000 in
set_option maxHeartbeats 4000000 in
theorem c_X8_collect (a1 : Int32) (m : gM) : gCon eI yX8_collect cX8_collect 2 (some .int) 2 [.inr (8, 0), .inl a1] m (X8_collect a1 m) := by
  refine gCon.of (lv := [some (.inr (8, 0)), some (.inl a1)]) (by decide +kernel) (Nat.le_of_ble_eq_true rfl) rfl (fun X C => ?_)
  unfold X8_collect
  refine r_aload_n C dX8_collect_0 rfl rfl ?_
  refine r_iload_n C dX8_collect_1 rfl rfl ?_
  refine r_invB (t := 8) (kb := 0) (As := [.inl a1]) (st := []) C il_X8_207 co_X8_isTrace (by decide) rfl (c_X8_isTrace a1 m) (by decide) (by decide) rfl rfl (Nat.le_of_ble_eq_true rfl) dX8_collect_2 (fun r2 m1 => ?_)
  refine r_ifneB (tgt := 10) C dX8_collect_5 (by decide) ?_ ?_
  · refine r_aload_n C dX8_collect_10 rfl rfl ?_
    refine r_get (v := .inr (6, 0)) C fl_X8_10 dX8_collect_11 rfl ?_
    refine r_aload_n C dX8_collect_14 rfl rfl ?_
    refine r_get (v := .inr (6, 0)) C fl_X8_10 dX8_collect_15 rfl ?_
    refine r_get (v := .inr (42, 0)) C fl_X8_108 dX8_collect_18 rfl ?_
    refine r_iload_n C dX8_collect_21 rfl rfl ?_
    refine r_aald (q := fun n3 => (5, (4 * 0 + n3))) C (by decide) (fun _ => rfl) dX8_collect_22 (fun n3 => ?_)
    refine r_invU (t := 6) (kb := 0) (As := [.inr (5, (4 * 0 + n3))]) (st := []) C il_X8_229 co_X6_collectFrom (by decide) rfl (c_X6_collectFrom 0 (4 * 0 + n3) m1) (by decide) (by decide) rfl rfl (Nat.le_of_ble_eq_true rfl) dX8_collect_23 (fun r5 m4 => ?_)
    refine r_aload_n C dX8_collect_26 rfl rfl ?_
    refine r_get (v := .inr (6, 0)) C fl_X8_10 dX8_collect_27 rfl ?_
    refine r_get (v := .inl (m4 6 0 7)) C fl_X8_223 dX8_collect_30 rfl ?_
    exact r_ireturn C dX8_collect_33
  refine r_iconst (v := (-1)) C dX8_collect_8 (by decide) ?_
  exact r_ireturn C dX8_collect_9
theorem dX8_scatter_0 : decode cX8_scatter 0 = .ok (.aload_n 0, 1) := by decide +kernel
theorem dX8_scatter_1 : decode cX8_scatter 1 = .ok (.getfield 10, 3) := by decide +kernel
theorem dX8_scatter_4 : decode cX8_scatter 4 = .ok (.iload_n 1, 1) := by decide +kernel
theorem dX8_scatter_5 : decode cX8_scatter 5 = .ok (.invokevirtual 220, 3) := by decide +kernel
theorem dX8_scatter_8 : decode cX8_scatter 8 = .ok (.istore_n 2, 1) := by decide +kernel
theorem dX8_scatter_9 : decode cX8_scatter 9 = .ok (.iload_n 2, 1) := by decide +kernel
theorem dX8_scatter_10 : decode cX8_scatter 10 = .ok (.iconst (-1), 1) := by decide +kernel
theorem dX8_scatter_11 : decode cX8_scatter 11 = .ok (.if_icmp .ne 5, 3) := by decide +kernel
theorem dX8_scatter_14 : decode cX8_scatter 14 = .ok (.iconst 0, 1) := by decide +kernel
theorem dX8_scatter_15 : decode cX8_scatter 15 = .ok (.ireturn, 1) := by decide +kernel
theorem dX8_scatter_16 : decode cX8_scatter 16 = .ok (.aload_n 0, 1) := by decide +kernel
theorem dX8_scatter_17 : decode cX8_scatter 17 = .ok (.getfield 10, 3) := by decide +kernel
theorem dX8_scatter_20 : decode cX8_scatter 20 = .ok (.iload_n 2, 1) := by decide +kernel
theorem dX8_scatter_21 : decode cX8_scatter 21 = .ok (.invokevirtual 232, 3) := by decide +kernel
theorem dX8_scatter_24 : decode cX8_scatter 24 = .ok (.iconst 1, 1) := by decide +kernel
theorem dX8_scatter_25 : decode cX8_scatter 25 = .ok (.ireturn, 1) := by decide +kernel
def X8_scatter (a1 : Int32) (m : gM) : Option (Bool × gM) :=
  gCall (X6_placeInSet 0 a1 m) (fun (r2 : Int32) (m1 : gM) => if r2 = (-1) then (some (false, m1)) else (gCall (X6_dropFromSet 0 r2 m1) (fun (r4 : Unit) (m3 : gM) => some (true, m3))))
set_option maxRecDepth 100000 in
set_option maxHeartbeats 4000000 in
theorem c_X8_scatter (a1 : Int32) (m : gM) : gCon eB yX8_scatter cX8_scatter 3 (some .boolean) 1 [.inr (8, 0), .inl a1] m (X8_scatter a1 m) := by
  refine gCon.of (lv := [some (.inr (8, 0)), some (.inl a1), none]) (by decide +kernel) (Nat.le_of_ble_eq_true rfl) rfl (fun X C => ?_)
  unfold X8_scatter
  refine r_aload_n C dX8_scatter_0 rfl rfl ?_
  refine r_get (v := .inr (6, 0)) C fl_X8_10 dX8_scatter_1 rfl ?_
  refine r_iload_n C dX8_scatter_4 rfl rfl ?_
  refine r_invI (t := 6) (kb := 0) (As := [.inl a1]) (st := []) C il_X8_220 co_X6_placeInSet (by decide) rfl (c_X6_placeInSet 0 a1 m) (by decide) (by decide) rfl rfl (Nat.le_of_ble_eq_true rfl) dX8_scatter_5 (fun r2 m1 => ?_)
  refine r_istore_n (lv' := [some (.inr (8, 0)), some (.inl a1), some (.inl r2)]) C dX8_scatter_8 rfl (by decide) rfl ?_
  refine r_iload_n C dX8_scatter_9 rfl rfl ?_
  refine r_iconst (v := (-1)) C dX8_scatter_10 (by decide) ?_
  refine r_icmp_ne (tgt := 16) C dX8_scatter_11 (by decide) ?_ ?_
  · refine r_aload_n C dX8_scatter_16 rfl rfl ?_
    refine r_get (v := .inr (6, 0)) C fl_X8_10 dX8_scatter_17 rfl ?_
    refine r_iload_n C dX8_scatter_20 rfl rfl ?_
    refine r_invU (t := 6) (kb := 0) (As := [.inl r2]) (st := []) C il_X8_232 co_X6_dropFromSet (by decide) rfl (c_X6_dropFromSet 0 r2 m1) (by decide) (by decide) rfl rfl (Nat.le_of_ble_eq_true rfl) dX8_scatter_21 (fun r4 m3 => ?_)
    refine r_iconst (v := 1) C dX8_scatter_24 (by decide) ?_
    exact r_zret1 C dX8_scatter_25
  refine r_iconst (v := 0) C dX8_scatter_14 (by decide) ?_
  exact r_zret0 C dX8_scatter_15
theorem dX8_is_0 : decode cX8_is 0 = .ok (.aload_n 0, 1) := by decide +kernel
theorem dX8_is_1 : decode cX8_is 1 = .ok (.getfield 10, 3) := by decide +kernel
theorem dX8_is_4 : decode cX8_is 4 = .ok (.getfield 82, 3) := by decide +kernel
theorem dX8_is_7 : decode cX8_is 7 = .ok (.astore_n 2, 1) := by decide +kernel
theorem dX8_is_8 : decode cX8_is 8 = .ok (.iload_n 1, 1) := by decide +kernel
theorem dX8_is_9 : decode cX8_is 9 = .ok (.tableswitch 140 0 11 #[63, 68, 73, 78, 85, 92, 99, 106, 113, 118, 128, 135], 63) := by decide +kernel
theorem dX8_is_72 : decode cX8_is 72 = .ok (.aload_n 2, 1) := by decide +kernel
theorem dX8_is_73 : decode cX8_is 73 = .ok (.getfield 170, 3) := by decide +kernel
theorem dX8_is_76 : decode cX8_is 76 = .ok (.ireturn, 1) := by decide +kernel
theorem dX8_is_77 : decode cX8_is 77 = .ok (.aload_n 2, 1) := by decide +kernel
theorem dX8_is_78 : decode cX8_is 78 = .ok (.getfield 173, 3) := by decide +kernel
theorem dX8_is_81 : decode cX8_is 81 = .ok (.ireturn, 1) := by decide +kernel
theorem dX8_is_82 : decode cX8_is 82 = .ok (.aload_n 2, 1) := by decide +kernel
theorem dX8_is_83 : decode cX8_is 83 = .ok (.getfield 204, 3) := by decide +kernel
theorem dX8_is_86 : decode cX8_is 86 = .ok (.ireturn, 1) := by decide +kernel
theorem dX8_is_87 : decode cX8_is 87 = .ok (.aload_n 2, 1) := by decide +kernel
theorem dX8_is_88 : decode cX8_is 88 = .ok (.getfield 235, 3) := by decide +kernel
theorem dX8_is_91 : decode cX8_is 91 = .ok (.iconst 0, 1) := by decide +kernel
theorem dX8_is_92 : decode cX8_is 92 = .ok (.iaload, 1) := by decide +kernel
theorem dX8_is_93 : decode cX8_is 93 = .ok (.ireturn, 1) := by decide +kernel
theorem dX8_is_94 : decode cX8_is 94 = .ok (.aload_n 2, 1) := by decide +kernel
theorem dX8_is_95 : decode cX8_is 95 = .ok (.getfield 235, 3) := by decide +kernel
theorem dX8_is_98 : decode cX8_is 98 = .ok (.iconst 1, 1) := by decide +kernel
theorem dX8_is_99 : decode cX8_is 99 = .ok (.iaload, 1) := by decide +kernel
theorem dX8_is_100 : decode cX8_is 100 = .ok (.ireturn, 1) := by decide +kernel
theorem dX8_is_101 : decode cX8_is 101 = .ok (.aload_n 2, 1) := by decide +kernel
theorem dX8_is_102 : decode cX8_is 102 = .ok (.getfield 235, 3) := by decide +kernel
theorem dX8_is_105 : decode cX8_is 105 = .ok (.iconst 2, 1) := by decide +kernel
theorem dX8_is_106 : decode cX8_is 106 = .ok (.iaload, 1) := by decide +kernel
theorem dX8_is_107 : decode cX8_is 107 = .ok (.ireturn, 1) := by decide +kernel
theorem dX8_is_108 : decode cX8_is 108 = .ok (.aload_n 2, 1) := by decide +kernel
theorem dX8_is_109 : decode cX8_is 109 = .ok (.getfield 235, 3) := by decide +kernel
theorem dX8_is_112 : decode cX8_is 112 = .ok (.iconst 3, 1) := by decide +kernel
theorem dX8_is_113 : decode cX8_is 113 = .ok (.iaload, 1) := by decide +kernel
theorem dX8_is_114 : decode cX8_is 114 = .ok (.ireturn, 1) := by decide +kernel
theorem dX8_is_115 : decode cX8_is 115 = .ok (.aload_n 2, 1) := by decide +kernel
theorem dX8_is_116 : decode cX8_is 116 = .ok (.getfield 235, 3) := by decide +kernel
theorem dX8_is_119 : decode cX8_is 119 = .ok (.iconst 4, 1) := by decide +kernel
theorem dX8_is_120 : decode cX8_is 120 = .ok (.iaload, 1) := by decide +kernel
theorem dX8_is_121 : decode cX8_is 121 = .ok (.ireturn, 1) := by decide +kernel
theorem dX8_is_122 : decode cX8_is 122 = .ok (.aload_n 2, 1) := by decide +kernel
theorem dX8_is_123 : decode cX8_is 123 = .ok (.getfield 217, 3) := by decide +kernel
theorem dX8_is_126 : decode cX8_is 126 = .ok (.ireturn, 1) := by decide +kernel
theorem dX8_is_127 : decode cX8_is 127 = .ok (.aload_n 2, 1) := by decide +kernel
theorem dX8_is_128 : decode cX8_is 128 = .ok (.invokevirtual 179, 3) := by decide +kernel
theorem dX8_is_131 : decode cX8_is 131 = .ok (.aload_n 2, 1) := by decide +kernel
theorem dX8_is_132 : decode cX8_is 132 = .ok (.invokevirtual 238, 3) := by decide +kernel
theorem dX8_is_135 : decode cX8_is 135 = .ok (.isub, 1) := by decide +kernel
theorem dX8_is_136 : decode cX8_is 136 = .ok (.ireturn, 1) := by decide +kernel
theorem dX8_is_137 : decode cX8_is 137 = .ok (.aload_n 2, 1) := by decide +kernel
theorem dX8_is_138 : decode cX8_is 138 = .ok (.getfield 235, 3) := by decide +kernel
theorem dX8_is_141 : decode cX8_is 141 = .ok (.iconst 5, 1) := by decide +kernel
theorem dX8_is_142 : decode cX8_is 142 = .ok (.iaload, 1) := by decide +kernel
theorem dX8_is_143 : decode cX8_is 143 = .ok (.ireturn, 1) := by decide +kernel
theorem dX8_is_144 : decode cX8_is 144 = .ok (.aload_n 2, 1) := by decide +kernel
theorem dX8_is_145 : decode cX8_is 145 = .ok (.invokevirtual 241, 3) := by decide +kernel
theorem dX8_is_148 : decode cX8_is 148 = .ok (.ireturn, 1) := by decide +kernel
theorem dX8_is_149 : decode cX8_is 149 = .ok (.iconst (-1), 1) := by decide +kernel
theorem dX8_is_150 : decode cX8_is 150 = .ok (.ireturn, 1) := by decide +kernel
def X8_is (a1 : Int32) (m : gM) : Option (Int32 × gM) :=
  if a1 = 0 then (some ((m 3 0 0), m)) else (if a1 = 1 then (some ((m 3 0 1), m)) else (if a1 = 2 then (some ((m 3 0 2), m)) else (if a1 = 3 then (gAt m 26 0 0 (fun (x1 : Int32) => some (x1, m))) else (if a1 = 4 then (gAt m 26 0 1 (fun (x2 : Int32) => some (x2, m))) else (if a1 = 5 then (gAt m 26 0 2 (fun (x3 : Int32) => some (x3, m))) else (if a1 = 6 then (gAt m 26 0 3 (fun (x4 : Int32) => some (x4, m))) else (if a1 = 7 then (gAt m 26 0 4 (fun (x5 : Int32) => some (x5, m))) else (if a1 = 8 then (some ((m 3 0 3), m)) else (if a1 = 9 then (gCall (X3_slotsInAll 0 m) (fun (r7 : Int32) (m6 : gM) => gCall (X3_linesHeld 0 m6) (fun (r9 : Int32) (m8 : gM) => some (r7 - r9, m8)))) else (if a1 = 10 then (gAt m 26 0 5 (fun (x10 : Int32) => some (x10, m))) else (if a1 = 11 then (gCall (X3_linesPinned 0 m) (fun (r12 : Int32) (m11 : gM) => some (r12, m11))) else (some ((-1), m)))))))))))))
set_option maxRecDepth 100000 in
set_option maxHeartbeats 4000000 in
theorem c_X8_is (a1 : Int32) (m : gM) : gCon eI yX8_is cX8_is 3 (some .int) 1 [.inr (8, 0), .inl a1] m (X8_is a1 m) := by
  refine gCon.of (lv := [some (.inr (8, 0)), some (.inl a1), none]) (by decide +kernel) (Nat.le_of_ble_eq_true rfl) rfl (fun X C => ?_)
  unfold X8_is
  refine r_aload_n C dX8_is_0 rfl rfl ?_
  refine r_get (v := .inr (6, 0)) C fl_X8_10 dX8_is_1 rfl ?_
  refine r_get (v := .inr (3, 0)) C fl_X8_82 dX8_is_4 rfl ?_
  refine r_astore_n (lv' := [some (.inr (8, 0)), some (.inl a1), some (.inr (3, 0))]) C dX8_is_7 rfl (by decide) rfl ?_
  refine r_iload_n C dX8_is_8 rfl rfl ?_
  refine r_peel (v := 0) ?_ (fun h0 => ?_)
  · refine r_tsw (x := 0) (off := 63) (tgt := 72) C dX8_is_9 (by decide) (by decide) (by decide) (by decide) ?_
    refine r_aload_n C dX8_is_72 rfl rfl ?_
    refine r_get (v := .inl (m 3 0 0)) C fl_X8_170 dX8_is_73 rfl ?_
    exact r_ireturn C dX8_is_76
  refine r_peel (v := 1) ?_ (fun h1 => ?_)
  · refine r_tsw (x := 1) (off := 68) (tgt := 77) C dX8_is_9 (by decide) (by decide) (by decide) (by decide) ?_
    refine r_aload_n C dX8_is_77 rfl rfl ?_
    refine r_get (v := .inl (m 3 0 1)) C fl_X8_173 dX8_is_78 rfl ?_
    exact r_ireturn C dX8_is_81
  refine r_peel (v := 2) ?_ (fun h2 => ?_)
  · refine r_tsw (x := 2) (off := 73) (tgt := 82) C dX8_is_9 (by decide) (by decide) (by decide) (by decide) ?_
    refine r_aload_n C dX8_is_82 rfl rfl ?_
    refine r_get (v := .inl (m 3 0 2)) C fl_X8_204 dX8_is_83 rfl ?_
    exact r_ireturn C dX8_is_86
  refine r_peel (v := 3) ?_ (fun h3 => ?_)
  · refine r_tsw (x := 3) (off := 78) (tgt := 87) C dX8_is_9 (by decide) (by decide) (by decide) (by decide) ?_
    refine r_aload_n C dX8_is_87 rfl rfl ?_
    refine r_get (v := .inr (26, 0)) C fl_X8_235 dX8_is_88 rfl ?_
    refine r_iconst (v := 0) C dX8_is_91 (by decide) ?_
    refine r_iald C rfl dX8_is_92 (fun x1 => ?_)
    exact r_ireturn C dX8_is_93
  refine r_peel (v := 4) ?_ (fun h4 => ?_)
  · refine r_tsw (x := 4) (off := 85) (tgt := 94) C dX8_is_9 (by decide) (by decide) (by decide) (by decide) ?_
    refine r_aload_n C dX8_is_94 rfl rfl ?_
    refine r_get (v := .inr (26, 0)) C fl_X8_235 dX8_is_95 rfl ?_
    refine r_iconst (v := 1) C dX8_is_98 (by decide) ?_
    refine r_iald C rfl dX8_is_99 (fun x2 => ?_)
    exact r_ireturn C dX8_is_100
  refine r_peel (v := 5) ?_ (fun h5 => ?_)
  · refine r_tsw (x := 5) (off := 92) (tgt := 101) C dX8_is_9 (by decide) (by decide) (by decide) (by decide) ?_
    refine r_aload_n C dX8_is_101 rfl rfl ?_
    refine r_get (v := .inr (26, 0)) C fl_X8_235 dX8_is_102 rfl ?_
    refine r_iconst (v := 2) C dX8_is_105 (by decide) ?_
    refine r_iald C rfl dX8_is_106 (fun x3 => ?_)
    exact r_ireturn C dX8_is_107
  refine r_peel (v := 6) ?_ (fun h6 => ?_)
  · refine r_tsw (x := 6) (off := 99) (tgt := 108) C dX8_is_9 (by decide) (by decide) (by decide) (by decide) ?_
    refine r_aload_n C dX8_is_108 rfl rfl ?_
    refine r_get (v := .inr (26, 0)) C fl_X8_235 dX8_is_109 rfl ?_
    refine r_iconst (v := 3) C dX8_is_112 (by decide) ?_
    refine r_iald C rfl dX8_is_113 (fun x4 => ?_)
    exact r_ireturn C dX8_is_114
  refine r_peel (v := 7) ?_ (fun h7 => ?_)
  · refine r_tsw (x := 7) (off := 106) (tgt := 115) C dX8_is_9 (by decide) (by decide) (by decide) (by decide) ?_
    refine r_aload_n C dX8_is_115 rfl rfl ?_
    refine r_get (v := .inr (26, 0)) C fl_X8_235 dX8_is_116 rfl ?_
    refine r_iconst (v := 4) C dX8_is_119 (by decide) ?_
    refine r_iald C rfl dX8_is_120 (fun x5 => ?_)
    exact r_ireturn C dX8_is_121
  refine r_peel (v := 8) ?_ (fun h8 => ?_)
  · refine r_tsw (x := 8) (off := 113) (tgt := 122) C dX8_is_9 (by decide) (by decide) (by decide) (by decide) ?_
    refine r_aload_n C dX8_is_122 rfl rfl ?_
    refine r_get (v := .inl (m 3 0 3)) C fl_X8_217 dX8_is_123 rfl ?_
    exact r_ireturn C dX8_is_126
  refine r_peel (v := 9) ?_ (fun h9 => ?_)
  · refine r_tsw (x := 9) (off := 118) (tgt := 127) C dX8_is_9 (by decide) (by decide) (by decide) (by decide) ?_
    refine r_aload_n C dX8_is_127 rfl rfl ?_
    refine r_invI (t := 3) (kb := 0) (As := []) (st := []) C il_X8_179 co_X3_slotsInAll (by decide) rfl (c_X3_slotsInAll 0 m) (by decide) (by decide) rfl rfl (Nat.le_of_ble_eq_true rfl) dX8_is_128 (fun r7 m6 => ?_)
    refine r_aload_n C dX8_is_131 rfl rfl ?_
    refine r_invI (t := 3) (kb := 0) (As := []) (st := [.inl r7]) C il_X8_238 co_X3_linesHeld (by decide) rfl (c_X3_linesHeld 0 m6) (by decide) (by decide) rfl rfl (Nat.le_of_ble_eq_true rfl) dX8_is_132 (fun r9 m8 => ?_)
    refine r_isub C dX8_is_135 ?_
    exact r_ireturn C dX8_is_136
  refine r_peel (v := 10) ?_ (fun h10 => ?_)
  · refine r_tsw (x := 10) (off := 128) (tgt := 137) C dX8_is_9 (by decide) (by decide) (by decide) (by decide) ?_
    refine r_aload_n C dX8_is_137 rfl rfl ?_
    refine r_get (v := .inr (26, 0)) C fl_X8_235 dX8_is_138 rfl ?_
    refine r_iconst (v := 5) C dX8_is_141 (by decide) ?_
    refine r_iald C rfl dX8_is_142 (fun x10 => ?_)
    exact r_ireturn C dX8_is_143
  refine r_peel (v := 11) ?_ (fun h11 => ?_)
  · refine r_tsw (x := 11) (off := 135) (tgt := 144) C dX8_is_9 (by decide) (by decide) (by decide) (by decide) ?_
    refine r_aload_n C dX8_is_144 rfl rfl ?_
    refine r_invI (t := 3) (kb := 0) (As := []) (st := []) C il_X8_241 co_X3_linesPinned (by decide) rfl (c_X3_linesPinned 0 m) (by decide) (by decide) rfl rfl (Nat.le_of_ble_eq_true rfl) dX8_is_145 (fun r12 m11 => ?_)
    exact r_ireturn C dX8_is_148
  refine r_tswO (tgt := 149) C dX8_is_9 (by have e0 := lv_neT h0 (a := 0) (by decide); have e1 := lv_neT h1 (a := 1) (by decide); have e2 := lv_neT h2 (a := 2) (by decide); have e3 := lv_neT h3 (a := 3) (by decide); have e4 := lv_neT h4 (a := 4) (by decide); have e5 := lv_neT h5 (a := 5) (by decide); have e6 := lv_neT h6 (a := 6) (by decide); have e7 := lv_neT h7 (a := 7) (by decide); have e8 := lv_neT h8 (a := 8) (by decide); have e9 := lv_neT h9 (a := 9) (by decide); have e10 := lv_neT h10 (a := 10) (by decide); have e11 := lv_neT h11 (a := 11) (by decide); omega) (by decide) ?_
  refine r_iconst (v := (-1)) C dX8_is_149 (by decide) ?_
  exact r_ireturn C dX8_is_150
theorem dX8_masked_0 : decode cX8_masked 0 = .ok (.aload_n 0, 1) := by decide +kernel
theorem dX8_masked_1 : decode cX8_masked 1 = .ok (.iload_n 1, 1) := by decide +kernel
theorem dX8_masked_2 : decode cX8_masked 2 = .ok (.iload_n 2, 1) := by decide +kernel
theorem dX8_masked_3 : decode cX8_masked 3 = .ok (.invokevirtual 186, 3) := by decide +kernel
theorem dX8_masked_6 : decode cX8_masked 6 = .ok (.ifCond .eq 22, 3) := by decide +kernel
theorem dX8_masked_9 : decode cX8_masked 9 = .ok (.aload_n 0, 1) := by decide +kernel
theorem dX8_masked_10 : decode cX8_masked 10 = .ok (.getfield 10, 3) := by decide +kernel
theorem dX8_masked_13 : decode cX8_masked 13 = .ok (.getfield 82, 3) := by decide +kernel
theorem dX8_masked_16 : decode cX8_masked 16 = .ok (.getfield 190, 3) := by decide +kernel
theorem dX8_masked_19 : decode cX8_masked 19 = .ok (.iload_n 1, 1) := by decide +kernel
theorem dX8_masked_20 : decode cX8_masked 20 = .ok (.iload_n 2, 1) := by decide +kernel
theorem dX8_masked_21 : decode cX8_masked 21 = .ok (.invokestatic 193, 3) := by decide +kernel
theorem dX8_masked_24 : decode cX8_masked 24 = .ok (.iaload, 1) := by decide +kernel
theorem dX8_masked_25 : decode cX8_masked 25 = .ok (.goto 4, 3) := by decide +kernel
theorem dX8_masked_28 : decode cX8_masked 28 = .ok (.iconst (-1), 1) := by decide +kernel
theorem dX8_masked_29 : decode cX8_masked 29 = .ok (.ireturn, 1) := by decide +kernel
def X8_masked (a1 : Int32) (a2 : Int32) (m : gM) : Option (Int32 × gM) :=
  gCall (X8_isMask a1 a2 m) (fun (r2 : Bool) (m1 : gM) => if r2 = true then (gCall (X8_maskAt a1 a2 m1) (fun (r4 : Int32) (m3 : gM) => gAt m3 25 0 r4 (fun (x5 : Int32) => some (x5, m3)))) else (some ((-1), m1)))
set_option maxRecDepth 100000 in
set_option maxHeartbeats 4000000 in
theorem c_X8_masked (a1 : Int32) (a2 : Int32) (m : gM) : gCon eI yX8_masked cX8_masked 3 (some .int) 2 [.inr (8, 0), .inl a1, .inl a2] m (X8_masked a1 a2 m) := by
  refine gCon.of (lv := [some (.inr (8, 0)), some (.inl a1), some (.inl a2)]) (by decide +kernel) (Nat.le_of_ble_eq_true rfl) rfl (fun X C => ?_)
  unfold X8_masked
  refine r_aload_n C dX8_masked_0 rfl rfl ?_
  refine r_iload_n C dX8_masked_1 rfl rfl ?_
  refine r_iload_n C dX8_masked_2 rfl rfl ?_
  refine r_invB (t := 8) (kb := 0) (As := [.inl a1, .inl a2]) (st := []) C il_X8_186 co_X8_isMask (by decide) rfl (c_X8_isMask a1 a2 m) (by decide) (by decide) rfl rfl (Nat.le_of_ble_eq_true rfl) dX8_masked_3 (fun r2 m1 => ?_)
  refine r_ifeqB (tgt := 28) C dX8_masked_6 (by decide) ?_ ?_
  · refine r_iconst (v := (-1)) C dX8_masked_28 (by decide) ?_
    exact r_ireturn C dX8_masked_29
  refine r_aload_n C dX8_masked_9 rfl rfl ?_
  refine r_get (v := .inr (6, 0)) C fl_X8_10 dX8_masked_10 rfl ?_
  refine r_get (v := .inr (3, 0)) C fl_X8_82 dX8_masked_13 rfl ?_
  refine r_get (v := .inr (25, 0)) C fl_X8_190 dX8_masked_16 rfl ?_
  refine r_iload_n C dX8_masked_19 rfl rfl ?_
  refine r_iload_n C dX8_masked_20 rfl rfl ?_
  refine r_insI (As := [.inl a1, .inl a2]) (st := [.inr (25, 0)]) C il_X8_193 co_X8_maskAt (c_X8_maskAt a1 a2 m1) (by decide) (by decide) rfl rfl (Nat.le_of_ble_eq_true rfl) dX8_masked_21 (fun r4 m3 => ?_)
  refine r_iald C rfl dX8_masked_24 (fun x5 => ?_)
  refine r_goto (tgt := 29) C dX8_masked_25 (by decide) ?_
  exact r_ireturn C dX8_masked_29
theorem dX8_index_0 : decode cX8_index 0 = .ok (.iload_n 1, 1) := by decide +kernel
theorem dX8_index_1 : decode cX8_index 1 = .ok (.invokestatic 116, 3) := by decide +kernel
theorem dX8_index_4 : decode cX8_index 4 = .ok (.ifCond .eq 26, 3) := by decide +kernel
theorem dX8_index_7 : decode cX8_index 7 = .ok (.aload_n 0, 1) := by decide +kernel
theorem dX8_index_8 : decode cX8_index 8 = .ok (.iload_n 2, 1) := by decide +kernel
theorem dX8_index_9 : decode cX8_index 9 = .ok (.invokevirtual 160, 3) := by decide +kernel
theorem dX8_index_12 : decode cX8_index 12 = .ok (.ifCond .eq 18, 3) := by decide +kernel
theorem dX8_index_15 : decode cX8_index 15 = .ok (.aload_n 0, 1) := by decide +kernel
theorem dX8_index_16 : decode cX8_index 16 = .ok (.getfield 10, 3) := by decide +kernel
theorem dX8_index_19 : decode cX8_index 19 = .ok (.getfield 82, 3) := by decide +kernel
theorem dX8_index_22 : decode cX8_index 22 = .ok (.iload_n 1, 1) := by decide +kernel
theorem dX8_index_23 : decode cX8_index 23 = .ok (.iload_n 2, 1) := by decide +kernel
theorem dX8_index_24 : decode cX8_index 24 = .ok (.invokevirtual 244, 3) := by decide +kernel
theorem dX8_index_27 : decode cX8_index 27 = .ok (.goto 4, 3) := by decide +kernel
theorem dX8_index_30 : decode cX8_index 30 = .ok (.iconst (-1), 1) := by decide +kernel
theorem dX8_index_31 : decode cX8_index 31 = .ok (.ireturn, 1) := by decide +kernel
def X8_index (a1 : Int32) (a2 : Int32) (m : gM) : Option (Int32 × gM) :=
  gCall (X8_isLine a1 m) (fun (r2 : Bool) (m1 : gM) => if r2 = true then (gCall (X8_isWay a2 m1) (fun (r4 : Bool) (m3 : gM) => if r4 = true then (gCall (X3_indexOf 0 a1 a2 m3) (fun (r6 : Int32) (m5 : gM) => some (r6, m5))) else (some ((-1), m3)))) else (some ((-1), m1)))
set_option maxRecDepth 100000 in
set_option maxHeartbeats 4000000 in
theorem c_X8_index (a1 : Int32) (a2 : Int32) (m : gM) : gCon eI yX8_index cX8_index 3 (some .int) 2 [.inr (8, 0), .inl a1, .inl a2] m (X8_index a1 a2 m) := by
  refine gCon.of (lv := [some (.inr (8, 0)), some (.inl a1), some (.inl a2)]) (by decide +kernel) (Nat.le_of_ble_eq_true rfl) rfl (fun X C => ?_)
  unfold X8_index
  refine r_iload_n C dX8_index_0 rfl rfl ?_
  refine r_insB (As := [.inl a1]) (st := []) C il_X8_116 co_X8_isLine (c_X8_isLine a1 m) (by decide) (by decide) rfl rfl (Nat.le_of_ble_eq_true rfl) dX8_index_1 (fun r2 m1 => ?_)
  refine r_ifeqB (tgt := 30) C dX8_index_4 (by decide) ?_ ?_
  · refine r_iconst (v := (-1)) C dX8_index_30 (by decide) ?_
    exact r_ireturn C dX8_index_31
  refine r_aload_n C dX8_index_7 rfl rfl ?_
  refine r_iload_n C dX8_index_8 rfl rfl ?_
  refine r_invB (t := 8) (kb := 0) (As := [.inl a2]) (st := []) C il_X8_160 co_X8_isWay (by decide) rfl (c_X8_isWay a2 m1) (by decide) (by decide) rfl rfl (Nat.le_of_ble_eq_true rfl) dX8_index_9 (fun r4 m3 => ?_)
  refine r_ifeqB (tgt := 30) C dX8_index_12 (by decide) ?_ ?_
  · refine r_iconst (v := (-1)) C dX8_index_30 (by decide) ?_
    exact r_ireturn C dX8_index_31
  refine r_aload_n C dX8_index_15 rfl rfl ?_
  refine r_get (v := .inr (6, 0)) C fl_X8_10 dX8_index_16 rfl ?_
  refine r_get (v := .inr (3, 0)) C fl_X8_82 dX8_index_19 rfl ?_
  refine r_iload_n C dX8_index_22 rfl rfl ?_
  refine r_iload_n C dX8_index_23 rfl rfl ?_
  refine r_invI (t := 3) (kb := 0) (As := [.inl a1, .inl a2]) (st := []) C il_X8_244 co_X3_indexOf (by decide) rfl (c_X3_indexOf 0 a1 a2 m3) (by decide) (by decide) rfl rfl (Nat.le_of_ble_eq_true rfl) dX8_index_24 (fun r6 m5 => ?_)
  refine r_goto (tgt := 31) C dX8_index_27 (by decide) ?_
  exact r_ireturn C dX8_index_31
theorem dX8_slot_0 : decode cX8_slot 0 = .ok (.aload_n 0, 1) := by decide +kernel
theorem dX8_slot_1 : decode cX8_slot 1 = .ok (.iload_n 1, 1) := by decide +kernel
theorem dX8_slot_2 : decode cX8_slot 2 = .ok (.invokevirtual 160, 3) := by decide +kernel
theorem dX8_slot_5 : decode cX8_slot 5 = .ok (.ifCond .eq 21, 3) := by decide +kernel
theorem dX8_slot_8 : decode cX8_slot 8 = .ok (.iload_n 2, 1) := by decide +kernel
theorem dX8_slot_9 : decode cX8_slot 9 = .ok (.ifCond .lt 17, 3) := by decide +kernel
theorem dX8_slot_12 : decode cX8_slot 12 = .ok (.iload_n 2, 1) := by decide +kernel
theorem dX8_slot_13 : decode cX8_slot 13 = .ok (.aload_n 0, 1) := by decide +kernel
theorem dX8_slot_14 : decode cX8_slot 14 = .ok (.getfield 10, 3) := by decide +kernel
theorem dX8_slot_17 : decode cX8_slot 17 = .ok (.getfield 82, 3) := by decide +kernel
theorem dX8_slot_20 : decode cX8_slot 20 = .ok (.invokevirtual 247, 3) := by decide +kernel
theorem dX8_slot_23 : decode cX8_slot 23 = .ok (.if_icmp .lt 7, 3) := by decide +kernel
theorem dX8_slot_26 : decode cX8_slot 26 = .ok (.sipush (-10000), 3) := by decide +kernel
theorem dX8_slot_29 : decode cX8_slot 29 = .ok (.ireturn, 1) := by decide +kernel
theorem dX8_slot_30 : decode cX8_slot 30 = .ok (.iload_n 1, 1) := by decide +kernel
theorem dX8_slot_31 : decode cX8_slot 31 = .ok (.bipush 16, 2) := by decide +kernel
theorem dX8_slot_33 : decode cX8_slot 33 = .ok (.imul, 1) := by decide +kernel
theorem dX8_slot_34 : decode cX8_slot 34 = .ok (.iload_n 2, 1) := by decide +kernel
theorem dX8_slot_35 : decode cX8_slot 35 = .ok (.iadd, 1) := by decide +kernel
theorem dX8_slot_36 : decode cX8_slot 36 = .ok (.istore 4, 2) := by decide +kernel
theorem dX8_slot_38 : decode cX8_slot 38 = .ok (.iload_n 3, 1) := by decide +kernel
theorem dX8_slot_39 : decode cX8_slot 39 = .ok (.tableswitch 103 0 4 #[33, 47, 61, 75, 89], 33) := by decide +kernel
theorem dX8_slot_72 : decode cX8_slot 72 = .ok (.aload_n 0, 1) := by decide +kernel
theorem dX8_slot_73 : decode cX8_slot 73 = .ok (.getfield 10, 3) := by decide +kernel
theorem dX8_slot_76 : decode cX8_slot 76 = .ok (.getfield 82, 3) := by decide +kernel
theorem dX8_slot_79 : decode cX8_slot 79 = .ok (.getfield 250, 3) := by decide +kernel
theorem dX8_slot_82 : decode cX8_slot 82 = .ok (.iload 4, 2) := by decide +kernel
theorem dX8_slot_84 : decode cX8_slot 84 = .ok (.iaload, 1) := by decide +kernel
theorem dX8_slot_85 : decode cX8_slot 85 = .ok (.ireturn, 1) := by decide +kernel
theorem dX8_slot_86 : decode cX8_slot 86 = .ok (.aload_n 0, 1) := by decide +kernel
theorem dX8_slot_87 : decode cX8_slot 87 = .ok (.getfield 10, 3) := by decide +kernel
theorem dX8_slot_90 : decode cX8_slot 90 = .ok (.getfield 82, 3) := by decide +kernel
theorem dX8_slot_93 : decode cX8_slot 93 = .ok (.getfield 150, 3) := by decide +kernel
theorem dX8_slot_96 : decode cX8_slot 96 = .ok (.iload 4, 2) := by decide +kernel
theorem dX8_slot_98 : decode cX8_slot 98 = .ok (.iaload, 1) := by decide +kernel
theorem dX8_slot_99 : decode cX8_slot 99 = .ok (.ireturn, 1) := by decide +kernel
theorem dX8_slot_100 : decode cX8_slot 100 = .ok (.aload_n 0, 1) := by decide +kernel
theorem dX8_slot_101 : decode cX8_slot 101 = .ok (.getfield 10, 3) := by decide +kernel
theorem dX8_slot_104 : decode cX8_slot 104 = .ok (.getfield 82, 3) := by decide +kernel
theorem dX8_slot_107 : decode cX8_slot 107 = .ok (.getfield 144, 3) := by decide +kernel
theorem dX8_slot_110 : decode cX8_slot 110 = .ok (.iload 4, 2) := by decide +kernel
theorem dX8_slot_112 : decode cX8_slot 112 = .ok (.iaload, 1) := by decide +kernel
theorem dX8_slot_113 : decode cX8_slot 113 = .ok (.ireturn, 1) := by decide +kernel
theorem dX8_slot_114 : decode cX8_slot 114 = .ok (.aload_n 0, 1) := by decide +kernel
theorem dX8_slot_115 : decode cX8_slot 115 = .ok (.getfield 10, 3) := by decide +kernel
theorem dX8_slot_118 : decode cX8_slot 118 = .ok (.getfield 82, 3) := by decide +kernel
theorem dX8_slot_121 : decode cX8_slot 121 = .ok (.getfield 253, 3) := by decide +kernel
theorem dX8_slot_124 : decode cX8_slot 124 = .ok (.iload 4, 2) := by decide +kernel
theorem dX8_slot_126 : decode cX8_slot 126 = .ok (.iaload, 1) := by decide +kernel
theorem dX8_slot_127 : decode cX8_slot 127 = .ok (.ireturn, 1) := by decide +kernel
theorem dX8_slot_128 : decode cX8_slot 128 = .ok (.aload_n 0, 1) := by decide +kernel
theorem dX8_slot_129 : decode cX8_slot 129 = .ok (.getfield 10, 3) := by decide +kernel
theorem dX8_slot_132 : decode cX8_slot 132 = .ok (.getfield 82, 3) := by decide +kernel
theorem dX8_slot_135 : decode cX8_slot 135 = .ok (.getfield 141, 3) := by decide +kernel
theorem dX8_slot_138 : decode cX8_slot 138 = .ok (.iload 4, 2) := by decide +kernel
theorem dX8_slot_140 : decode cX8_slot 140 = .ok (.iaload, 1) := by decide +kernel
theorem dX8_slot_141 : decode cX8_slot 141 = .ok (.ireturn, 1) := by decide +kernel
theorem dX8_slot_142 : decode cX8_slot 142 = .ok (.sipush (-10000), 3) := by decide +kernel
theorem dX8_slot_145 : decode cX8_slot 145 = .ok (.ireturn, 1) := by decide +kernel
def X8_slot (a1 : Int32) (a2 : Int32) (a3 : Int32) (m : gM) : Option (Int32 × gM) :=
  gCall (X8_isWay a1 m) (fun (r2 : Bool) (m1 : gM) => if r2 = true then (if a2 < 0 then (some ((-10000), m1)) else (gCall (X3_slotsOfWay 0 m1) (fun (r4 : Int32) (m3 : gM) => if a2 < r4 then (gLet ((a1 * 16) + a2) (fun (x5 : Int32) => if a3 = 0 then (gAt m3 29 0 x5 (fun (x6 : Int32) => some (x6, m3))) else (if a3 = 1 then (gAt m3 30 0 x5 (fun (x7 : Int32) => some (x7, m3))) else (if a3 = 2 then (gAt m3 31 0 x5 (fun (x8 : Int32) => some (x8, m3))) else (if a3 = 3 then (gAt m3 32 0 x5 (fun (x9 : Int32) => some (x9, m3))) else (if a3 = 4 then (gAt m3 33 0 x5 (fun (x10 : Int32) => some (x10, m3))) else (some ((-10000), m3)))))))) else (some ((-10000), m3))))) else (some ((-10000), m1)))
set_option maxRecDepth 100000 in
set_option maxHeartbeats 4000000 in
theorem c_X8_slot (a1 : Int32) (a2 : Int32) (a3 : Int32) (m : gM) : gCon eI yX8_slot cX8_slot 5 (some .int) 1 [.inr (8, 0), .inl a1, .inl a2, .inl a3] m (X8_slot a1 a2 a3 m) := by
  refine gCon.of (lv := [some (.inr (8, 0)), some (.inl a1), some (.inl a2), some (.inl a3), none]) (by decide +kernel) (Nat.le_of_ble_eq_true rfl) rfl (fun X C => ?_)
  unfold X8_slot
  refine r_aload_n C dX8_slot_0 rfl rfl ?_
  refine r_iload_n C dX8_slot_1 rfl rfl ?_
  refine r_invB (t := 8) (kb := 0) (As := [.inl a1]) (st := []) C il_X8_160 co_X8_isWay (by decide) rfl (c_X8_isWay a1 m) (by decide) (by decide) rfl rfl (Nat.le_of_ble_eq_true rfl) dX8_slot_2 (fun r2 m1 => ?_)
  refine r_ifeqB (tgt := 26) C dX8_slot_5 (by decide) ?_ ?_
  · refine r_sipush (v := (-10000)) C dX8_slot_26 (by decide) ?_
    exact r_ireturn C dX8_slot_29
  refine r_iload_n C dX8_slot_8 rfl rfl ?_
  refine r_if_lt (tgt := 26) C dX8_slot_9 (by decide) ?_ ?_
  · refine r_sipush (v := (-10000)) C dX8_slot_26 (by decide) ?_
    exact r_ireturn C dX8_slot_29
  refine r_iload_n C dX8_slot_12 rfl rfl ?_
  refine r_aload_n C dX8_slot_13 rfl rfl ?_
  refine r_get (v := .inr (6, 0)) C fl_X8_10 dX8_slot_14 rfl ?_
  refine r_get (v := .inr (3, 0)) C fl_X8_82 dX8_slot_17 rfl ?_
  refine r_invI (t := 3) (kb := 0) (As := []) (st := [.inl a2]) C il_X8_247 co_X3_slotsOfWay (by decide) rfl (c_X3_slotsOfWay 0 m1) (by decide) (by decide) rfl rfl (Nat.le_of_ble_eq_true rfl) dX8_slot_20 (fun r4 m3 => ?_)
  refine r_icmp_lt (tgt := 30) C dX8_slot_23 (by decide) ?_ ?_
  · refine r_iload_n C dX8_slot_30 rfl rfl ?_
    refine r_bipush (v := 16) C dX8_slot_31 (by decide) ?_
    refine r_imul C dX8_slot_33 ?_
    refine r_iload_n C dX8_slot_34 rfl rfl ?_
    refine r_iadd C dX8_slot_35 ?_
    refine r_let (fun x5 => ?_)
    refine r_istore (lv' := [some (.inr (8, 0)), some (.inl a1), some (.inl a2), some (.inl a3), some (.inl x5)]) C dX8_slot_36 (by decide) rfl ?_
    refine r_iload_n C dX8_slot_38 rfl rfl ?_
    refine r_peel (v := 0) ?_ (fun h0 => ?_)
    · refine r_tsw (x := 0) (off := 33) (tgt := 72) C dX8_slot_39 (by decide) (by decide) (by decide) (by decide) ?_
      refine r_aload_n C dX8_slot_72 rfl rfl ?_
      refine r_get (v := .inr (6, 0)) C fl_X8_10 dX8_slot_73 rfl ?_
      refine r_get (v := .inr (3, 0)) C fl_X8_82 dX8_slot_76 rfl ?_
      refine r_get (v := .inr (29, 0)) C fl_X8_250 dX8_slot_79 rfl ?_
      refine r_iload C dX8_slot_82 rfl ?_
      refine r_iald C rfl dX8_slot_84 (fun x6 => ?_)
      exact r_ireturn C dX8_slot_85
    refine r_peel (v := 1) ?_ (fun h1 => ?_)
    · refine r_tsw (x := 1) (off := 47) (tgt := 86) C dX8_slot_39 (by decide) (by decide) (by decide) (by decide) ?_
      refine r_aload_n C dX8_slot_86 rfl rfl ?_
      refine r_get (v := .inr (6, 0)) C fl_X8_10 dX8_slot_87 rfl ?_
      refine r_get (v := .inr (3, 0)) C fl_X8_82 dX8_slot_90 rfl ?_
      refine r_get (v := .inr (30, 0)) C fl_X8_150 dX8_slot_93 rfl ?_
      refine r_iload C dX8_slot_96 rfl ?_
      refine r_iald C rfl dX8_slot_98 (fun x7 => ?_)
      exact r_ireturn C dX8_slot_99
    refine r_peel (v := 2) ?_ (fun h2 => ?_)
    · refine r_tsw (x := 2) (off := 61) (tgt := 100) C dX8_slot_39 (by decide) (by decide) (by decide) (by decide) ?_
      refine r_aload_n C dX8_slot_100 rfl rfl ?_
      refine r_get (v := .inr (6, 0)) C fl_X8_10 dX8_slot_101 rfl ?_
      refine r_get (v := .inr (3, 0)) C fl_X8_82 dX8_slot_104 rfl ?_
      refine r_get (v := .inr (31, 0)) C fl_X8_144 dX8_slot_107 rfl ?_
      refine r_iload C dX8_slot_110 rfl ?_
      refine r_iald C rfl dX8_slot_112 (fun x8 => ?_)
      exact r_ireturn C dX8_slot_113
    refine r_peel (v := 3) ?_ (fun h3 => ?_)
    · refine r_tsw (x := 3) (off := 75) (tgt := 114) C dX8_slot_39 (by decide) (by decide) (by decide) (by decide) ?_
      refine r_aload_n C dX8_slot_114 rfl rfl ?_
      refine r_get (v := .inr (6, 0)) C fl_X8_10 dX8_slot_115 rfl ?_
      refine r_get (v := .inr (3, 0)) C fl_X8_82 dX8_slot_118 rfl ?_
      refine r_get (v := .inr (32, 0)) C fl_X8_253 dX8_slot_121 rfl ?_
      refine r_iload C dX8_slot_124 rfl ?_
      refine r_iald C rfl dX8_slot_126 (fun x9 => ?_)
      exact r_ireturn C dX8_slot_127
    refine r_peel (v := 4) ?_ (fun h4 => ?_)
    · refine r_tsw (x := 4) (off := 89) (tgt := 128) C dX8_slot_39 (by decide) (by decide) (by decide) (by decide) ?_
      refine r_aload_n C dX8_slot_128 rfl rfl ?_
      refine r_get (v := .inr (6, 0)) C fl_X8_10 dX8_slot_129 rfl ?_
      refine r_get (v := .inr (3, 0)) C fl_X8_82 dX8_slot_132 rfl ?_
      refine r_get (v := .inr (33, 0)) C fl_X8_141 dX8_slot_135 rfl ?_
      refine r_iload C dX8_slot_138 rfl ?_
      refine r_iald C rfl dX8_slot_140 (fun x10 => ?_)
      exact r_ireturn C dX8_slot_141
    refine r_tswO (tgt := 142) C dX8_slot_39 (by have e0 := lv_neT h0 (a := 0) (by decide); have e1 := lv_neT h1 (a := 1) (by decide); have e2 := lv_neT h2 (a := 2) (by decide); have e3 := lv_neT h3 (a := 3) (by decide); have e4 := lv_neT h4 (a := 4) (by decide); omega) (by decide) ?_
    refine r_sipush (v := (-10000)) C dX8_slot_142 (by decide) ?_
    exact r_ireturn C dX8_slot_145
  refine r_sipush (v := (-10000)) C dX8_slot_26 (by decide) ?_
  exact r_ireturn C dX8_slot_29
theorem dX8_where_0 : decode cX8_where 0 = .ok (.aload_n 0, 1) := by decide +kernel
theorem dX8_where_1 : decode cX8_where 1 = .ok (.iload_n 1, 1) := by decide +kernel
theorem dX8_where_2 : decode cX8_where 2 = .ok (.invokevirtual 138, 3) := by decide +kernel
theorem dX8_where_5 : decode cX8_where 5 = .ok (.istore_n 2, 1) := by decide +kernel
theorem dX8_where_6 : decode cX8_where 6 = .ok (.iload_n 2, 1) := by decide +kernel
theorem dX8_where_7 : decode cX8_where 7 = .ok (.iconst (-1), 1) := by decide +kernel
theorem dX8_where_8 : decode cX8_where 8 = .ok (.if_icmp .ne 7, 3) := by decide +kernel
theorem dX8_where_11 : decode cX8_where 11 = .ok (.iconst (-1), 1) := by decide +kernel
theorem dX8_where_12 : decode cX8_where 12 = .ok (.goto 7, 3) := by decide +kernel
theorem dX8_where_15 : decode cX8_where 15 = .ok (.iload_n 2, 1) := by decide +kernel
theorem dX8_where_16 : decode cX8_where 16 = .ok (.bipush 16, 2) := by decide +kernel
theorem dX8_where_18 : decode cX8_where 18 = .ok (.idiv, 1) := by decide +kernel
theorem dX8_where_19 : decode cX8_where 19 = .ok (.ireturn, 1) := by decide +kernel
def X8_where (a1 : Int32) (m : gM) : Option (Int32 × gM) :=
  gCall (X8_placeHeld a1 m) (fun (r2 : Int32) (m1 : gM) => if r2 = (-1) then (some ((-1), m1)) else (some (r2 / 16, m1)))
set_option maxRecDepth 100000 in
set_option maxHeartbeats 4000000 in
theorem c_X8_where (a1 : Int32) (m : gM) : gCon eI yX8_where cX8_where 3 (some .int) 5 [.inr (8, 0), .inl a1] m (X8_where a1 m) := by
  refine gCon.of (lv := [some (.inr (8, 0)), some (.inl a1), none]) (by decide +kernel) (Nat.le_of_ble_eq_true rfl) rfl (fun X C => ?_)
  unfold X8_where
  refine r_aload_n C dX8_where_0 rfl rfl ?_
  refine r_iload_n C dX8_where_1 rfl rfl ?_
  refine r_invI (t := 8) (kb := 0) (As := [.inl a1]) (st := []) C il_X8_138 co_X8_placeHeld (by decide) rfl (c_X8_placeHeld a1 m) (by decide) (by decide) rfl rfl (Nat.le_of_ble_eq_true rfl) dX8_where_2 (fun r2 m1 => ?_)
  refine r_istore_n (lv' := [some (.inr (8, 0)), some (.inl a1), some (.inl r2)]) C dX8_where_5 rfl (by decide) rfl ?_
  refine r_iload_n C dX8_where_6 rfl rfl ?_
  refine r_iconst (v := (-1)) C dX8_where_7 (by decide) ?_
  refine r_icmp_ne (tgt := 15) C dX8_where_8 (by decide) ?_ ?_
  · refine r_iload_n C dX8_where_15 rfl rfl ?_
    refine r_bipush (v := 16) C dX8_where_16 (by decide) ?_
    refine r_idiv C dX8_where_18 (by decide) ?_
    exact r_ireturn C dX8_where_19
  refine r_iconst (v := (-1)) C dX8_where_11 (by decide) ?_
  refine r_goto (tgt := 19) C dX8_where_12 (by decide) ?_
  exact r_ireturn C dX8_where_19
theorem dX8_memory_0 : decode cX8_memory 0 = .ok (.iload_n 1, 1) := by decide +kernel
theorem dX8_memory_1 : decode cX8_memory 1 = .ok (.invokestatic 116, 3) := by decide +kernel
theorem dX8_memory_4 : decode cX8_memory 4 = .ok (.ifCond .eq 18, 3) := by decide +kernel
theorem dX8_memory_7 : decode cX8_memory 7 = .ok (.aload_n 0, 1) := by decide +kernel
theorem dX8_memory_8 : decode cX8_memory 8 = .ok (.getfield 10, 3) := by decide +kernel
theorem dX8_memory_11 : decode cX8_memory 11 = .ok (.getfield 82, 3) := by decide +kernel
theorem dX8_memory_14 : decode cX8_memory 14 = .ok (.getfield 256, 3) := by decide +kernel
theorem dX8_memory_17 : decode cX8_memory 17 = .ok (.iload_n 1, 1) := by decide +kernel
theorem dX8_memory_18 : decode cX8_memory 18 = .ok (.iaload, 1) := by decide +kernel
theorem dX8_memory_19 : decode cX8_memory 19 = .ok (.goto 6, 3) := by decide +kernel
theorem dX8_memory_22 : decode cX8_memory 22 = .ok (.sipush (-10000), 3) := by decide +kernel
theorem dX8_memory_25 : decode cX8_memory 25 = .ok (.ireturn, 1) := by decide +kernel
def X8_memory (a1 : Int32) (m : gM) : Option (Int32 × gM) :=
  gCall (X8_isLine a1 m) (fun (r2 : Bool) (m1 : gM) => if r2 = true then (gAt m1 28 0 a1 (fun (x3 : Int32) => some (x3, m1))) else (some ((-10000), m1)))
set_option maxRecDepth 100000 in
set_option maxHeartbeats 4000000 in
theorem c_X8_memory (a1 : Int32) (m : gM) : gCon eI yX8_memory cX8_memory 2 (some .int) 1 [.inr (8, 0), .inl a1] m (X8_memory a1 m) := by
  refine gCon.of (lv := [some (.inr (8, 0)), some (.inl a1)]) (by decide +kernel) (Nat.le_of_ble_eq_true rfl) rfl (fun X C => ?_)
  unfold X8_memory
  refine r_iload_n C dX8_memory_0 rfl rfl ?_
  refine r_insB (As := [.inl a1]) (st := []) C il_X8_116 co_X8_isLine (c_X8_isLine a1 m) (by decide) (by decide) rfl rfl (Nat.le_of_ble_eq_true rfl) dX8_memory_1 (fun r2 m1 => ?_)
  refine r_ifeqB (tgt := 22) C dX8_memory_4 (by decide) ?_ ?_
  · refine r_sipush (v := (-10000)) C dX8_memory_22 (by decide) ?_
    exact r_ireturn C dX8_memory_25
  refine r_aload_n C dX8_memory_7 rfl rfl ?_
  refine r_get (v := .inr (6, 0)) C fl_X8_10 dX8_memory_8 rfl ?_
  refine r_get (v := .inr (3, 0)) C fl_X8_82 dX8_memory_11 rfl ?_
  refine r_get (v := .inr (28, 0)) C fl_X8_256 dX8_memory_14 rfl ?_
  refine r_iload_n C dX8_memory_17 rfl rfl ?_
  refine r_iald C rfl dX8_memory_18 (fun x3 => ?_)
  refine r_goto (tgt := 25) C dX8_memory_19 (by decide) ?_
  exact r_ireturn C dX8_memory_25
theorem dX8_value_0 : decode cX8_value 0 = .ok (.iload_n 1, 1) := by decide +kernel
theorem dX8_value_1 : decode cX8_value 1 = .ok (.invokestatic 116, 3) := by decide +kernel
theorem dX8_value_4 : decode cX8_value 4 = .ok (.ifCond .eq 17, 3) := by decide +kernel
theorem dX8_value_7 : decode cX8_value 7 = .ok (.aload_n 0, 1) := by decide +kernel
theorem dX8_value_8 : decode cX8_value 8 = .ok (.getfield 10, 3) := by decide +kernel
theorem dX8_value_11 : decode cX8_value 11 = .ok (.getfield 82, 3) := by decide +kernel
theorem dX8_value_14 : decode cX8_value 14 = .ok (.iload_n 1, 1) := by decide +kernel
theorem dX8_value_15 : decode cX8_value 15 = .ok (.invokevirtual 127, 3) := by decide +kernel
theorem dX8_value_18 : decode cX8_value 18 = .ok (.goto 6, 3) := by decide +kernel
theorem dX8_value_21 : decode cX8_value 21 = .ok (.sipush (-10000), 3) := by decide +kernel
theorem dX8_value_24 : decode cX8_value 24 = .ok (.ireturn, 1) := by decide +kernel
def X8_value (a1 : Int32) (m : gM) : Option (Int32 × gM) :=
  gCall (X8_isLine a1 m) (fun (r2 : Bool) (m1 : gM) => if r2 = true then (gCall (X3_valueOf 0 a1 m1) (fun (r4 : Int32) (m3 : gM) => some (r4, m3))) else (some ((-10000), m1)))
set_option maxRecDepth 100000 in
set_option maxHeartbeats 4000000 in
theorem c_X8_value (a1 : Int32) (m : gM) : gCon eI yX8_value cX8_value 2 (some .int) 5 [.inr (8, 0), .inl a1] m (X8_value a1 m) := by
  refine gCon.of (lv := [some (.inr (8, 0)), some (.inl a1)]) (by decide +kernel) (Nat.le_of_ble_eq_true rfl) rfl (fun X C => ?_)
  unfold X8_value
  refine r_iload_n C dX8_value_0 rfl rfl ?_
  refine r_insB (As := [.inl a1]) (st := []) C il_X8_116 co_X8_isLine (c_X8_isLine a1 m) (by decide) (by decide) rfl rfl (Nat.le_of_ble_eq_true rfl) dX8_value_1 (fun r2 m1 => ?_)
  refine r_ifeqB (tgt := 21) C dX8_value_4 (by decide) ?_ ?_
  · refine r_sipush (v := (-10000)) C dX8_value_21 (by decide) ?_
    exact r_ireturn C dX8_value_24
  refine r_aload_n C dX8_value_7 rfl rfl ?_
  refine r_get (v := .inr (6, 0)) C fl_X8_10 dX8_value_8 rfl ?_
  refine r_get (v := .inr (3, 0)) C fl_X8_82 dX8_value_11 rfl ?_
  refine r_iload_n C dX8_value_14 rfl rfl ?_
  refine r_invI (t := 3) (kb := 0) (As := [.inl a1]) (st := []) C il_X8_127 co_X3_valueOf (by decide) rfl (c_X3_valueOf 0 a1 m1) (by decide) (by decide) rfl rfl (Nat.le_of_ble_eq_true rfl) dX8_value_15 (fun r4 m3 => ?_)
  refine r_goto (tgt := 24) C dX8_value_18 (by decide) ?_
  exact r_ireturn C dX8_value_24
theorem dX8_aged_0 : decode cX8_aged 0 = .ok (.iconst 0, 1) := by decide +kernel
theorem dX8_aged_1 : decode cX8_aged 1 = .ok (.istore_n 2, 1) := by decide +kernel
theorem dX8_aged_2 : decode cX8_aged 2 = .ok (.iconst 0, 1) := by decide +kernel
theorem dX8_aged_3 : decode cX8_aged 3 = .ok (.istore_n 3, 1) := by decide +kernel
theorem dX8_aged_4 : decode cX8_aged 4 = .ok (.iload_n 3, 1) := by decide +kernel
theorem dX8_aged_5 : decode cX8_aged 5 = .ok (.bipush 64, 2) := by decide +kernel
theorem dX8_aged_7 : decode cX8_aged 7 = .ok (.if_icmp .ge 44, 3) := by decide +kernel
theorem dX8_aged_10 : decode cX8_aged 10 = .ok (.aload_n 0, 1) := by decide +kernel
theorem dX8_aged_11 : decode cX8_aged 11 = .ok (.getfield 10, 3) := by decide +kernel
theorem dX8_aged_14 : decode cX8_aged 14 = .ok (.getfield 82, 3) := by decide +kernel
theorem dX8_aged_17 : decode cX8_aged 17 = .ok (.getfield 250, 3) := by decide +kernel
theorem dX8_aged_20 : decode cX8_aged 20 = .ok (.iload_n 3, 1) := by decide +kernel
theorem dX8_aged_21 : decode cX8_aged 21 = .ok (.iaload, 1) := by decide +kernel
theorem dX8_aged_22 : decode cX8_aged 22 = .ok (.iconst (-1), 1) := by decide +kernel
theorem dX8_aged_23 : decode cX8_aged 23 = .ok (.if_icmp .eq 22, 3) := by decide +kernel
theorem dX8_aged_26 : decode cX8_aged 26 = .ok (.aload_n 0, 1) := by decide +kernel
theorem dX8_aged_27 : decode cX8_aged 27 = .ok (.getfield 10, 3) := by decide +kernel
theorem dX8_aged_30 : decode cX8_aged 30 = .ok (.getfield 82, 3) := by decide +kernel
theorem dX8_aged_33 : decode cX8_aged 33 = .ok (.getfield 253, 3) := by decide +kernel
theorem dX8_aged_36 : decode cX8_aged 36 = .ok (.iload_n 3, 1) := by decide +kernel
theorem dX8_aged_37 : decode cX8_aged 37 = .ok (.iaload, 1) := by decide +kernel
theorem dX8_aged_38 : decode cX8_aged 38 = .ok (.iload_n 1, 1) := by decide +kernel
theorem dX8_aged_39 : decode cX8_aged 39 = .ok (.if_icmp .ne 6, 3) := by decide +kernel
theorem dX8_aged_42 : decode cX8_aged 42 = .ok (.iinc 2 1, 3) := by decide +kernel
theorem dX8_aged_45 : decode cX8_aged 45 = .ok (.iinc 3 1, 3) := by decide +kernel
theorem dX8_aged_48 : decode cX8_aged 48 = .ok (.goto (-44), 3) := by decide +kernel
theorem dX8_aged_51 : decode cX8_aged 51 = .ok (.iload_n 2, 1) := by decide +kernel
theorem dX8_aged_52 : decode cX8_aged 52 = .ok (.ireturn, 1) := by decide +kernel
def X8_aged_b4 (a1 : Int32) (v1 v2 : Int32) (m3 : gM) (k4 : Int32 → Int32 → gM → Option (Int32 × gM)) : Option (Int32 × gM) :=
  if 64 ≤ v2 then (some (v1, m3)) else (gAt m3 29 0 v2 (fun (x4 : Int32) => if x4 = (-1) then (gLet (v2 + 1) (fun (x5 : Int32) => k4 v1 x5 m3)) else (gAt m3 32 0 v2 (fun (x6 : Int32) => if x6 = a1 then (gLet (v1 + 1) (fun (x8 : Int32) => gLet (v2 + 1) (fun (x9 : Int32) => k4 x8 x9 m3))) else (gLet (v2 + 1) (fun (x7 : Int32) => k4 v1 x7 m3))))))
def X8_aged (a1 : Int32) (m : gM) : Option (Int32 × gM) :=
  gL2 FU (X8_aged_b4 a1) 0 0 m
set_option maxRecDepth 100000 in
set_option maxHeartbeats 4000000 in
theorem c_X8_aged (a1 : Int32) (m : gM) : gCon eI yX8_aged cX8_aged 4 (some .int) 0 [.inr (8, 0), .inl a1] m (X8_aged a1 m) := by
  refine gCon.of (lv := [some (.inr (8, 0)), some (.inl a1), none, none]) (by decide +kernel) (Nat.le_of_ble_eq_true rfl) rfl (fun X C => ?_)
  unfold X8_aged
  refine r_iconst (v := 0) C dX8_aged_0 (by decide) ?_
  refine r_istore_n (lv' := [some (.inr (8, 0)), some (.inl a1), some (.inl 0), none]) C dX8_aged_1 rfl (by decide) rfl ?_
  refine r_iconst (v := 0) C dX8_aged_2 (by decide) ?_
  refine r_istore_n (lv' := [some (.inr (8, 0)), some (.inl a1), some (.inl 0), some (.inl 0)]) C dX8_aged_3 rfl (by decide) rfl ?_
  refine r_weak (lv' := [some (.inr (8, 0)), some (.inl a1), some (.inl 0), some (.inl 0)]) ⟨rfl, rfl, rfl, rfl, trivial⟩ ?_
  refine r_l2 (pj := 4) (fun v1 v2 => [some (.inr (8, 0)), some (.inl a1), some (.inl v1), some (.inl v2)]) (fun v1 v2 m3 k4 hk4 => ?_) _ _ _ _
  unfold X8_aged_b4
  refine r_iload_n C dX8_aged_4 rfl rfl ?_
  refine r_bipush (v := 64) C dX8_aged_5 (by decide) ?_
  refine r_icmp_ge (tgt := 51) C dX8_aged_7 (by decide) ?_ ?_
  · refine r_iload_n C dX8_aged_51 rfl rfl ?_
    exact r_ireturn C dX8_aged_52
  refine r_aload_n C dX8_aged_10 rfl rfl ?_
  refine r_get (v := .inr (6, 0)) C fl_X8_10 dX8_aged_11 rfl ?_
  refine r_get (v := .inr (3, 0)) C fl_X8_82 dX8_aged_14 rfl ?_
  refine r_get (v := .inr (29, 0)) C fl_X8_250 dX8_aged_17 rfl ?_
  refine r_iload_n C dX8_aged_20 rfl rfl ?_
  refine r_iald C rfl dX8_aged_21 (fun x4 => ?_)
  refine r_iconst (v := (-1)) C dX8_aged_22 (by decide) ?_
  refine r_icmp_eq (tgt := 45) C dX8_aged_23 (by decide) ?_ ?_
  · refine r_iinc (v := 1) C dX8_aged_45 (by decide) rfl (by decide) (fun x5 => ?_)
    show gw X eI _ [some (.inr (8, 0)), some (.inl a1), some (.inl v1), some (.inl x5)] _ _ _
    refine r_goto (tgt := 4) C dX8_aged_48 (by decide) ?_
    exact r_weak (lv' := [some (.inr (8, 0)), some (.inl a1), some (.inl v1), some (.inl x5)]) ⟨rfl, rfl, rfl, rfl, trivial⟩ (hk4 _ _ _)
  refine r_aload_n C dX8_aged_26 rfl rfl ?_
  refine r_get (v := .inr (6, 0)) C fl_X8_10 dX8_aged_27 rfl ?_
  refine r_get (v := .inr (3, 0)) C fl_X8_82 dX8_aged_30 rfl ?_
  refine r_get (v := .inr (32, 0)) C fl_X8_253 dX8_aged_33 rfl ?_
  refine r_iload_n C dX8_aged_36 rfl rfl ?_
  refine r_iald C rfl dX8_aged_37 (fun x6 => ?_)
  refine r_iload_n C dX8_aged_38 rfl rfl ?_
  refine r_icmp_ne (tgt := 45) C dX8_aged_39 (by decide) ?_ ?_
  · refine r_iinc (v := 1) C dX8_aged_45 (by decide) rfl (by decide) (fun x7 => ?_)
    show gw X eI _ [some (.inr (8, 0)), some (.inl a1), some (.inl v1), some (.inl x7)] _ _ _
    refine r_goto (tgt := 4) C dX8_aged_48 (by decide) ?_
    exact r_weak (lv' := [some (.inr (8, 0)), some (.inl a1), some (.inl v1), some (.inl x7)]) ⟨rfl, rfl, rfl, rfl, trivial⟩ (hk4 _ _ _)
  refine r_iinc (v := 1) C dX8_aged_42 (by decide) rfl (by decide) (fun x8 => ?_)
  show gw X eI _ [some (.inr (8, 0)), some (.inl a1), some (.inl x8), some (.inl v2)] _ _ _
  refine r_iinc (v := 1) C dX8_aged_45 (by decide) rfl (by decide) (fun x9 => ?_)
  show gw X eI _ [some (.inr (8, 0)), some (.inl a1), some (.inl x8), some (.inl x9)] _ _ _
  refine r_goto (tgt := 4) C dX8_aged_48 (by decide) ?_
  exact r_weak (lv' := [some (.inr (8, 0)), some (.inl a1), some (.inl x8), some (.inl x9)]) ⟨rfl, rfl, rfl, rfl, trivial⟩ (hk4 _ _ _)
theorem dX8_book_0 : decode cX8_book 0 = .ok (.aload_n 0, 1) := by decide +kernel
theorem dX8_book_1 : decode cX8_book 1 = .ok (.getfield 10, 3) := by decide +kernel
theorem dX8_book_4 : decode cX8_book 4 = .ok (.getfield 82, 3) := by decide +kernel
theorem dX8_book_7 : decode cX8_book 7 = .ok (.getfield 259, 3) := by decide +kernel
theorem dX8_book_10 : decode cX8_book 10 = .ok (.bipush 24, 2) := by decide +kernel
theorem dX8_book_12 : decode cX8_book 12 = .ok (.invokestatic 262, 3) := by decide +kernel
theorem dX8_book_15 : decode cX8_book 15 = .ok (.istore_n 3, 1) := by decide +kernel
theorem dX8_book_16 : decode cX8_book 16 = .ok (.iload_n 1, 1) := by decide +kernel
theorem dX8_book_17 : decode cX8_book 17 = .ok (.iconst (-1), 1) := by decide +kernel
theorem dX8_book_18 : decode cX8_book 18 = .ok (.if_icmp .ne 5, 3) := by decide +kernel
theorem dX8_book_21 : decode cX8_book 21 = .ok (.iload_n 3, 1) := by decide +kernel
theorem dX8_book_22 : decode cX8_book 22 = .ok (.ireturn, 1) := by decide +kernel
theorem dX8_book_23 : decode cX8_book 23 = .ok (.iload_n 1, 1) := by decide +kernel
theorem dX8_book_24 : decode cX8_book 24 = .ok (.ifCond .lt 17, 3) := by decide +kernel
theorem dX8_book_27 : decode cX8_book 27 = .ok (.iload_n 1, 1) := by decide +kernel
theorem dX8_book_28 : decode cX8_book 28 = .ok (.iload_n 3, 1) := by decide +kernel
theorem dX8_book_29 : decode cX8_book 29 = .ok (.if_icmp .ge 12, 3) := by decide +kernel
theorem dX8_book_32 : decode cX8_book 32 = .ok (.iload_n 2, 1) := by decide +kernel
theorem dX8_book_33 : decode cX8_book 33 = .ok (.ifCond .lt 8, 3) := by decide +kernel
theorem dX8_book_36 : decode cX8_book 36 = .ok (.iload_n 2, 1) := by decide +kernel
theorem dX8_book_37 : decode cX8_book 37 = .ok (.iconst 4, 1) := by decide +kernel
theorem dX8_book_38 : decode cX8_book 38 = .ok (.if_icmp .lt 6, 3) := by decide +kernel
theorem dX8_book_41 : decode cX8_book 41 = .ok (.bipush (-2), 2) := by decide +kernel
theorem dX8_book_43 : decode cX8_book 43 = .ok (.ireturn, 1) := by decide +kernel
theorem dX8_book_44 : decode cX8_book 44 = .ok (.aload_n 0, 1) := by decide +kernel
theorem dX8_book_45 : decode cX8_book 45 = .ok (.getfield 10, 3) := by decide +kernel
theorem dX8_book_48 : decode cX8_book 48 = .ok (.getfield 82, 3) := by decide +kernel
theorem dX8_book_51 : decode cX8_book 51 = .ok (.getfield 259, 3) := by decide +kernel
theorem dX8_book_54 : decode cX8_book 54 = .ok (.iload_n 3, 1) := by decide +kernel
theorem dX8_book_55 : decode cX8_book 55 = .ok (.isub, 1) := by decide +kernel
theorem dX8_book_56 : decode cX8_book 56 = .ok (.iload_n 1, 1) := by decide +kernel
theorem dX8_book_57 : decode cX8_book 57 = .ok (.iadd, 1) := by decide +kernel
theorem dX8_book_58 : decode cX8_book 58 = .ok (.bipush 24, 2) := by decide +kernel
theorem dX8_book_60 : decode cX8_book 60 = .ok (.irem, 1) := by decide +kernel
theorem dX8_book_61 : decode cX8_book 61 = .ok (.istore 4, 2) := by decide +kernel
theorem dX8_book_63 : decode cX8_book 63 = .ok (.aload_n 0, 1) := by decide +kernel
theorem dX8_book_64 : decode cX8_book 64 = .ok (.getfield 10, 3) := by decide +kernel
theorem dX8_book_67 : decode cX8_book 67 = .ok (.getfield 82, 3) := by decide +kernel
theorem dX8_book_70 : decode cX8_book 70 = .ok (.getfield 267, 3) := by decide +kernel
theorem dX8_book_73 : decode cX8_book 73 = .ok (.iload 4, 2) := by decide +kernel
theorem dX8_book_75 : decode cX8_book 75 = .ok (.iconst 4, 1) := by decide +kernel
theorem dX8_book_76 : decode cX8_book 76 = .ok (.imul, 1) := by decide +kernel
theorem dX8_book_77 : decode cX8_book 77 = .ok (.iload_n 2, 1) := by decide +kernel
theorem dX8_book_78 : decode cX8_book 78 = .ok (.iadd, 1) := by decide +kernel
theorem dX8_book_79 : decode cX8_book 79 = .ok (.iaload, 1) := by decide +kernel
theorem dX8_book_80 : decode cX8_book 80 = .ok (.ireturn, 1) := by decide +kernel
def X8_book (a1 : Int32) (a2 : Int32) (m : gM) : Option (Int32 × gM) :=
  gLet (gMin (m 3 0 4) 24) (fun (x1 : Int32) => if a1 = (-1) then (some (x1, m)) else (if a1 < 0 then (some ((-2), m)) else (if x1 ≤ a1 then (some ((-2), m)) else (if a2 < 0 then (some ((-2), m)) else (if a2 < 4 then (gLet (gRem (((m 3 0 4) - x1) + a1) 24) (fun (x2 : Int32) => gAt m 27 0 ((x2 * 4) + a2) (fun (x3 : Int32) => some (x3, m)))) else (some ((-2), m)))))))
set_option maxRecDepth 100000 in
set_option maxHeartbeats 4000000 in
theorem c_X8_book (a1 : Int32) (a2 : Int32) (m : gM) : gCon eI yX8_book cX8_book 5 (some .int) 1 [.inr (8, 0), .inl a1, .inl a2] m (X8_book a1 a2 m) := by
  refine gCon.of (lv := [some (.inr (8, 0)), some (.inl a1), some (.inl a2), none, none]) (by decide +kernel) (Nat.le_of_ble_eq_true rfl) rfl (fun X C => ?_)
  unfold X8_book
  refine r_aload_n C dX8_book_0 rfl rfl ?_
  refine r_get (v := .inr (6, 0)) C fl_X8_10 dX8_book_1 rfl ?_
  refine r_get (v := .inr (3, 0)) C fl_X8_82 dX8_book_4 rfl ?_
  refine r_get (v := .inl (m 3 0 4)) C fl_X8_259 dX8_book_7 rfl ?_
  refine r_bipush (v := 24) C dX8_book_10 (by decide) ?_
  refine r_mmin C im_X8_262 (by decide) (Nat.le_of_ble_eq_true rfl) dX8_book_12 ?_
  refine r_let (fun x1 => ?_)
  refine r_istore_n (lv' := [some (.inr (8, 0)), some (.inl a1), some (.inl a2), some (.inl x1), none]) C dX8_book_15 rfl (by decide) rfl ?_
  refine r_iload_n C dX8_book_16 rfl rfl ?_
  refine r_iconst (v := (-1)) C dX8_book_17 (by decide) ?_
  refine r_icmp_ne (tgt := 23) C dX8_book_18 (by decide) ?_ ?_
  · refine r_iload_n C dX8_book_23 rfl rfl ?_
    refine r_if_lt (tgt := 41) C dX8_book_24 (by decide) ?_ ?_
    · refine r_bipush (v := (-2)) C dX8_book_41 (by decide) ?_
      exact r_ireturn C dX8_book_43
    refine r_iload_n C dX8_book_27 rfl rfl ?_
    refine r_iload_n C dX8_book_28 rfl rfl ?_
    refine r_icmp_ge (tgt := 41) C dX8_book_29 (by decide) ?_ ?_
    · refine r_bipush (v := (-2)) C dX8_book_41 (by decide) ?_
      exact r_ireturn C dX8_book_43
    refine r_iload_n C dX8_book_32 rfl rfl ?_
    refine r_if_lt (tgt := 41) C dX8_book_33 (by decide) ?_ ?_
    · refine r_bipush (v := (-2)) C dX8_book_41 (by decide) ?_
      exact r_ireturn C dX8_book_43
    refine r_iload_n C dX8_book_36 rfl rfl ?_
    refine r_iconst (v := 4) C dX8_book_37 (by decide) ?_
    refine r_icmp_lt (tgt := 44) C dX8_book_38 (by decide) ?_ ?_
    · refine r_aload_n C dX8_book_44 rfl rfl ?_
      refine r_get (v := .inr (6, 0)) C fl_X8_10 dX8_book_45 rfl ?_
      refine r_get (v := .inr (3, 0)) C fl_X8_82 dX8_book_48 rfl ?_
      refine r_get (v := .inl (m 3 0 4)) C fl_X8_259 dX8_book_51 rfl ?_
      refine r_iload_n C dX8_book_54 rfl rfl ?_
      refine r_isub C dX8_book_55 ?_
      refine r_iload_n C dX8_book_56 rfl rfl ?_
      refine r_iadd C dX8_book_57 ?_
      refine r_bipush (v := 24) C dX8_book_58 (by decide) ?_
      refine r_irem C dX8_book_60 (by decide) ?_
      refine r_let (fun x2 => ?_)
      refine r_istore (lv' := [some (.inr (8, 0)), some (.inl a1), some (.inl a2), some (.inl x1), some (.inl x2)]) C dX8_book_61 (by decide) rfl ?_
      refine r_aload_n C dX8_book_63 rfl rfl ?_
      refine r_get (v := .inr (6, 0)) C fl_X8_10 dX8_book_64 rfl ?_
      refine r_get (v := .inr (3, 0)) C fl_X8_82 dX8_book_67 rfl ?_
      refine r_get (v := .inr (27, 0)) C fl_X8_267 dX8_book_70 rfl ?_
      refine r_iload C dX8_book_73 rfl ?_
      refine r_iconst (v := 4) C dX8_book_75 (by decide) ?_
      refine r_imul C dX8_book_76 ?_
      refine r_iload_n C dX8_book_77 rfl rfl ?_
      refine r_iadd C dX8_book_78 ?_
      refine r_iald C rfl dX8_book_79 (fun x3 => ?_)
      exact r_ireturn C dX8_book_80
    refine r_bipush (v := (-2)) C dX8_book_41 (by decide) ?_
    exact r_ireturn C dX8_book_43
  refine r_iload_n C dX8_book_21 rfl rfl ?_
  exact r_ireturn C dX8_book_22
theorem dX8_stale_0 : decode cX8_stale 0 = .ok (.iconst 0, 1) := by decide +kernel
theorem dX8_stale_1 : decode cX8_stale 1 = .ok (.istore_n 1, 1) := by decide +kernel
theorem dX8_stale_2 : decode cX8_stale 2 = .ok (.iconst 0, 1) := by decide +kernel
theorem dX8_stale_3 : decode cX8_stale 3 = .ok (.istore_n 2, 1) := by decide +kernel
theorem dX8_stale_4 : decode cX8_stale 4 = .ok (.iload_n 2, 1) := by decide +kernel
theorem dX8_stale_5 : decode cX8_stale 5 = .ok (.bipush 64, 2) := by decide +kernel
theorem dX8_stale_7 : decode cX8_stale 7 = .ok (.if_icmp .ge 57, 3) := by decide +kernel
theorem dX8_stale_10 : decode cX8_stale 10 = .ok (.aload_n 0, 1) := by decide +kernel
theorem dX8_stale_11 : decode cX8_stale 11 = .ok (.getfield 10, 3) := by decide +kernel
theorem dX8_stale_14 : decode cX8_stale 14 = .ok (.getfield 82, 3) := by decide +kernel
theorem dX8_stale_17 : decode cX8_stale 17 = .ok (.getfield 250, 3) := by decide +kernel
theorem dX8_stale_20 : decode cX8_stale 20 = .ok (.iload_n 2, 1) := by decide +kernel
theorem dX8_stale_21 : decode cX8_stale 21 = .ok (.iaload, 1) := by decide +kernel
theorem dX8_stale_22 : decode cX8_stale 22 = .ok (.istore_n 3, 1) := by decide +kernel
theorem dX8_stale_23 : decode cX8_stale 23 = .ok (.iload_n 3, 1) := by decide +kernel
theorem dX8_stale_24 : decode cX8_stale 24 = .ok (.iconst (-1), 1) := by decide +kernel
theorem dX8_stale_25 : decode cX8_stale 25 = .ok (.if_icmp .eq 33, 3) := by decide +kernel
theorem dX8_stale_28 : decode cX8_stale 28 = .ok (.aload_n 0, 1) := by decide +kernel
theorem dX8_stale_29 : decode cX8_stale 29 = .ok (.getfield 10, 3) := by decide +kernel
theorem dX8_stale_32 : decode cX8_stale 32 = .ok (.getfield 82, 3) := by decide +kernel
theorem dX8_stale_35 : decode cX8_stale 35 = .ok (.getfield 150, 3) := by decide +kernel
theorem dX8_stale_38 : decode cX8_stale 38 = .ok (.iload_n 2, 1) := by decide +kernel
theorem dX8_stale_39 : decode cX8_stale 39 = .ok (.iaload, 1) := by decide +kernel
theorem dX8_stale_40 : decode cX8_stale 40 = .ok (.aload_n 0, 1) := by decide +kernel
theorem dX8_stale_41 : decode cX8_stale 41 = .ok (.getfield 10, 3) := by decide +kernel
theorem dX8_stale_44 : decode cX8_stale 44 = .ok (.getfield 82, 3) := by decide +kernel
theorem dX8_stale_47 : decode cX8_stale 47 = .ok (.getfield 256, 3) := by decide +kernel
theorem dX8_stale_50 : decode cX8_stale 50 = .ok (.iload_n 3, 1) := by decide +kernel
theorem dX8_stale_51 : decode cX8_stale 51 = .ok (.iaload, 1) := by decide +kernel
theorem dX8_stale_52 : decode cX8_stale 52 = .ok (.if_icmp .eq 6, 3) := by decide +kernel
theorem dX8_stale_55 : decode cX8_stale 55 = .ok (.iinc 1 1, 3) := by decide +kernel
theorem dX8_stale_58 : decode cX8_stale 58 = .ok (.iinc 2 1, 3) := by decide +kernel
theorem dX8_stale_61 : decode cX8_stale 61 = .ok (.goto (-57), 3) := by decide +kernel
theorem dX8_stale_64 : decode cX8_stale 64 = .ok (.iload_n 1, 1) := by decide +kernel
theorem dX8_stale_65 : decode cX8_stale 65 = .ok (.ireturn, 1) := by decide +kernel
def X8_stale_b4 (v1 v2 : Int32) (m3 : gM) (k4 : Int32 → Int32 → gM → Option (Int32 × gM)) : Option (Int32 × gM) :=
  if 64 ≤ v2 then (some (v1, m3)) else (gAt m3 29 0 v2 (fun (x4 : Int32) => if x4 = (-1) then (gLet (v2 + 1) (fun (x5 : Int32) => k4 v1 x5 m3)) else (gAt m3 30 0 v2 (fun (x6 : Int32) => gAt m3 28 0 x4 (fun (x7 : Int32) => if x6 = x7 then (gLet (v2 + 1) (fun (x8 : Int32) => k4 v1 x8 m3)) else (gLet (v1 + 1) (fun (x9 : Int32) => gLet (v2 + 1) (fun (x10 : Int32) => k4 x9 x10 m3))))))))
def X8_stale (m : gM) : Option (Int32 × gM) :=
  gL2 FU X8_stale_b4 0 0 m
set_option maxRecDepth 100000 in
set_option maxHeartbeats 4000000 in
theorem c_X8_stale (m : gM) : gCon eI yX8_stale cX8_stale 4 (some .int) 0 [.inr (8, 0)] m (X8_stale m) := by
  refine gCon.of (lv := [some (.inr (8, 0)), none, none, none]) (by decide +kernel) (Nat.le_of_ble_eq_true rfl) rfl (fun X C => ?_)
  unfold X8_stale
  refine r_iconst (v := 0) C dX8_stale_0 (by decide) ?_
  refine r_istore_n (lv' := [some (.inr (8, 0)), some (.inl 0), none, none]) C dX8_stale_1 rfl (by decide) rfl ?_
  refine r_iconst (v := 0) C dX8_stale_2 (by decide) ?_
  refine r_istore_n (lv' := [some (.inr (8, 0)), some (.inl 0), some (.inl 0), none]) C dX8_stale_3 rfl (by decide) rfl ?_
  refine r_weak (lv' := [some (.inr (8, 0)), some (.inl 0), some (.inl 0), none]) ⟨rfl, rfl, rfl, trivial⟩ ?_
  refine r_l2 (pj := 4) (fun v1 v2 => [some (.inr (8, 0)), some (.inl v1), some (.inl v2), none]) (fun v1 v2 m3 k4 hk4 => ?_) _ _ _ _
  unfold X8_stale_b4
  refine r_iload_n C dX8_stale_4 rfl rfl ?_
  refine r_bipush (v := 64) C dX8_stale_5 (by decide) ?_
  refine r_icmp_ge (tgt := 64) C dX8_stale_7 (by decide) ?_ ?_
  · refine r_iload_n C dX8_stale_64 rfl rfl ?_
    exact r_ireturn C dX8_stale_65
  refine r_aload_n C dX8_stale_10 rfl rfl ?_
  refine r_get (v := .inr (6, 0)) C fl_X8_10 dX8_stale_11 rfl ?_
  refine r_get (v := .inr (3, 0)) C fl_X8_82 dX8_stale_14 rfl ?_
  refine r_get (v := .inr (29, 0)) C fl_X8_250 dX8_stale_17 rfl ?_
  refine r_iload_n C dX8_stale_20 rfl rfl ?_
  refine r_iald C rfl dX8_stale_21 (fun x4 => ?_)
  refine r_istore_n (lv' := [some (.inr (8, 0)), some (.inl v1), some (.inl v2), some (.inl x4)]) C dX8_stale_22 rfl (by decide) rfl ?_
  refine r_iload_n C dX8_stale_23 rfl rfl ?_
  refine r_iconst (v := (-1)) C dX8_stale_24 (by decide) ?_
  refine r_icmp_eq (tgt := 58) C dX8_stale_25 (by decide) ?_ ?_
  · refine r_iinc (v := 1) C dX8_stale_58 (by decide) rfl (by decide) (fun x5 => ?_)
    show gw X eI _ [some (.inr (8, 0)), some (.inl v1), some (.inl x5), some (.inl x4)] _ _ _
    refine r_goto (tgt := 4) C dX8_stale_61 (by decide) ?_
    exact r_weak (lv' := [some (.inr (8, 0)), some (.inl v1), some (.inl x5), none]) ⟨rfl, rfl, rfl, trivial⟩ (hk4 _ _ _)
  refine r_aload_n C dX8_stale_28 rfl rfl ?_
  refine r_get (v := .inr (6, 0)) C fl_X8_10 dX8_stale_29 rfl ?_
  refine r_get (v := .inr (3, 0)) C fl_X8_82 dX8_stale_32 rfl ?_
  refine r_get (v := .inr (30, 0)) C fl_X8_150 dX8_stale_35 rfl ?_
  refine r_iload_n C dX8_stale_38 rfl rfl ?_
  refine r_iald C rfl dX8_stale_39 (fun x6 => ?_)
  refine r_aload_n C dX8_stale_40 rfl rfl ?_
  refine r_get (v := .inr (6, 0)) C fl_X8_10 dX8_stale_41 rfl ?_
  refine r_get (v := .inr (3, 0)) C fl_X8_82 dX8_stale_44 rfl ?_
  refine r_get (v := .inr (28, 0)) C fl_X8_256 dX8_stale_47 rfl ?_
  refine r_iload_n C dX8_stale_50 rfl rfl ?_
  refine r_iald C rfl dX8_stale_51 (fun x7 => ?_)
  refine r_icmp_eq (tgt := 58) C dX8_stale_52 (by decide) ?_ ?_
  · refine r_iinc (v := 1) C dX8_stale_58 (by decide) rfl (by decide) (fun x8 => ?_)
    show gw X eI _ [some (.inr (8, 0)), some (.inl v1), some (.inl x8), some (.inl x4)] _ _ _
    refine r_goto (tgt := 4) C dX8_stale_61 (by decide) ?_
    exact r_weak (lv' := [some (.inr (8, 0)), some (.inl v1), some (.inl x8), none]) ⟨rfl, rfl, rfl, trivial⟩ (hk4 _ _ _)
  refine r_iinc (v := 1) C dX8_stale_55 (by decide) rfl (by decide) (fun x9 => ?_)
  show gw X eI _ [some (.inr (8, 0)), some (.inl x9), some (.inl v2), some (.inl x4)] _ _ _
  refine r_iinc (v := 1) C dX8_stale_58 (by decide) rfl (by decide) (fun x10 => ?_)
  show gw X eI _ [some (.inr (8, 0)), some (.inl x9), some (.inl x10), some (.inl x4)] _ _ _
  refine r_goto (tgt := 4) C dX8_stale_61 (by decide) ?_
  exact r_weak (lv' := [some (.inr (8, 0)), some (.inl x9), some (.inl x10), none]) ⟨rfl, rfl, rfl, trivial⟩ (hk4 _ _ _)
