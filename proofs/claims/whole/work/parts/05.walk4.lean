theorem dX8_rank_0 : decode cX8_rank 0 = .ok (.aload_n 0, 1) := by decide +kernel
theorem dX8_rank_1 : decode cX8_rank 1 = .ok (.iload_n 1, 1) := by decide +kernel
theorem dX8_rank_2 : decode cX8_rank 2 = .ok (.invokevirtual 160, 3) := by decide +kernel
theorem dX8_rank_5 : decode cX8_rank 5 = .ok (.ifCond .eq 30, 3) := by decide +kernel
theorem dX8_rank_8 : decode cX8_rank 8 = .ok (.aload_n 0, 1) := by decide +kernel
theorem dX8_rank_9 : decode cX8_rank 9 = .ok (.iload_n 2, 1) := by decide +kernel
theorem dX8_rank_10 : decode cX8_rank 10 = .ok (.invokevirtual 160, 3) := by decide +kernel
theorem dX8_rank_13 : decode cX8_rank 13 = .ok (.ifCond .eq 22, 3) := by decide +kernel
theorem dX8_rank_16 : decode cX8_rank 16 = .ok (.aload_n 0, 1) := by decide +kernel
theorem dX8_rank_17 : decode cX8_rank 17 = .ok (.getfield 36, 3) := by decide +kernel
theorem dX8_rank_20 : decode cX8_rank 20 = .ok (.aload_n 0, 1) := by decide +kernel
theorem dX8_rank_21 : decode cX8_rank 21 = .ok (.getfield 10, 3) := by decide +kernel
theorem dX8_rank_24 : decode cX8_rank 24 = .ok (.getfield 82, 3) := by decide +kernel
theorem dX8_rank_27 : decode cX8_rank 27 = .ok (.iload_n 1, 1) := by decide +kernel
theorem dX8_rank_28 : decode cX8_rank 28 = .ok (.iload_n 2, 1) := by decide +kernel
theorem dX8_rank_29 : decode cX8_rank 29 = .ok (.invokevirtual 197, 3) := by decide +kernel
theorem dX8_rank_32 : decode cX8_rank 32 = .ok (.goto 4, 3) := by decide +kernel
theorem dX8_rank_35 : decode cX8_rank 35 = .ok (.iconst (-1), 1) := by decide +kernel
theorem dX8_rank_36 : decode cX8_rank 36 = .ok (.ireturn, 1) := by decide +kernel
def X8_rank (a1 : Int32) (a2 : Int32) (m : gM) : Option (Int32 × gM) :=
  gCall (X8_isWay a1 m) (fun (r2 : Bool) (m1 : gM) => if r2 = true then (gCall (X8_isWay a2 m1) (fun (r4 : Bool) (m3 : gM) => if r4 = true then (gCall (X7_rankOfTwo 0 a1 a2 m3) (fun (r6 : Int32) (m5 : gM) => some (r6, m5))) else (some ((-1), m3)))) else (some ((-1), m1)))
set_option maxRecDepth 100000 in
set_option maxHeartbeats 4000000 in
theorem c_X8_rank (a1 : Int32) (a2 : Int32) (m : gM) : gCon eI yX8_rank cX8_rank 3 (some .int) 3 [.inr (8, 0), .inl a1, .inl a2] m (X8_rank a1 a2 m) := by
  refine gCon.of (lv := [some (.inr (8, 0)), some (.inl a1), some (.inl a2)]) (by decide +kernel) (Nat.le_of_ble_eq_true rfl) rfl (fun X C => ?_)
  unfold X8_rank
  refine r_aload_n C dX8_rank_0 rfl rfl ?_
  refine r_iload_n C dX8_rank_1 rfl rfl ?_
  refine r_invB (t := 8) (kb := 0) (As := [.inl a1]) (st := []) C il_X8_160 co_X8_isWay (by decide) rfl (c_X8_isWay a1 m) (by decide) (by decide) rfl rfl (Nat.le_of_ble_eq_true rfl) dX8_rank_2 (fun r2 m1 => ?_)
  refine r_ifeqB (tgt := 35) C dX8_rank_5 (by decide) ?_ ?_
  · refine r_iconst (v := (-1)) C dX8_rank_35 (by decide) ?_
    exact r_ireturn C dX8_rank_36
  refine r_aload_n C dX8_rank_8 rfl rfl ?_
  refine r_iload_n C dX8_rank_9 rfl rfl ?_
  refine r_invB (t := 8) (kb := 0) (As := [.inl a2]) (st := []) C il_X8_160 co_X8_isWay (by decide) rfl (c_X8_isWay a2 m1) (by decide) (by decide) rfl rfl (Nat.le_of_ble_eq_true rfl) dX8_rank_10 (fun r4 m3 => ?_)
  refine r_ifeqB (tgt := 35) C dX8_rank_13 (by decide) ?_ ?_
  · refine r_iconst (v := (-1)) C dX8_rank_35 (by decide) ?_
    exact r_ireturn C dX8_rank_36
  refine r_aload_n C dX8_rank_16 rfl rfl ?_
  refine r_get (v := .inr (7, 0)) C fl_X8_36 dX8_rank_17 rfl ?_
  refine r_aload_n C dX8_rank_20 rfl rfl ?_
  refine r_get (v := .inr (6, 0)) C fl_X8_10 dX8_rank_21 rfl ?_
  refine r_get (v := .inr (3, 0)) C fl_X8_82 dX8_rank_24 rfl ?_
  refine r_iload_n C dX8_rank_27 rfl rfl ?_
  refine r_iload_n C dX8_rank_28 rfl rfl ?_
  refine r_invI (t := 7) (kb := 0) (As := [.inr (3, 0), .inl a1, .inl a2]) (st := []) C il_X8_197 co_X7_rankOfTwo (by decide) rfl (c_X7_rankOfTwo 0 a1 a2 m3) (by decide) (by decide) rfl rfl (Nat.le_of_ble_eq_true rfl) dX8_rank_29 (fun r6 m5 => ?_)
  refine r_goto (tgt := 36) C dX8_rank_32 (by decide) ?_
  exact r_ireturn C dX8_rank_36
theorem dX8_twins_0 : decode cX8_twins 0 = .ok (.iload_n 1, 1) := by decide +kernel
theorem dX8_twins_1 : decode cX8_twins 1 = .ok (.invokestatic 116, 3) := by decide +kernel
theorem dX8_twins_4 : decode cX8_twins 4 = .ok (.ifCond .ne 5, 3) := by decide +kernel
theorem dX8_twins_7 : decode cX8_twins 7 = .ok (.iconst (-1), 1) := by decide +kernel
theorem dX8_twins_8 : decode cX8_twins 8 = .ok (.ireturn, 1) := by decide +kernel
theorem dX8_twins_9 : decode cX8_twins 9 = .ok (.iconst 0, 1) := by decide +kernel
theorem dX8_twins_10 : decode cX8_twins 10 = .ok (.istore_n 2, 1) := by decide +kernel
theorem dX8_twins_11 : decode cX8_twins 11 = .ok (.iconst 0, 1) := by decide +kernel
theorem dX8_twins_12 : decode cX8_twins 12 = .ok (.istore_n 3, 1) := by decide +kernel
theorem dX8_twins_13 : decode cX8_twins 13 = .ok (.iload_n 3, 1) := by decide +kernel
theorem dX8_twins_14 : decode cX8_twins 14 = .ok (.sipush 1024, 3) := by decide +kernel
theorem dX8_twins_17 : decode cX8_twins 17 = .ok (.if_icmp .ge 27, 3) := by decide +kernel
theorem dX8_twins_20 : decode cX8_twins 20 = .ok (.aload_n 0, 1) := by decide +kernel
theorem dX8_twins_21 : decode cX8_twins 21 = .ok (.getfield 10, 3) := by decide +kernel
theorem dX8_twins_24 : decode cX8_twins 24 = .ok (.getfield 82, 3) := by decide +kernel
theorem dX8_twins_27 : decode cX8_twins 27 = .ok (.iload_n 1, 1) := by decide +kernel
theorem dX8_twins_28 : decode cX8_twins 28 = .ok (.iload_n 3, 1) := by decide +kernel
theorem dX8_twins_29 : decode cX8_twins 29 = .ok (.invokevirtual 270, 3) := by decide +kernel
theorem dX8_twins_32 : decode cX8_twins 32 = .ok (.ifCond .eq 6, 3) := by decide +kernel
theorem dX8_twins_35 : decode cX8_twins 35 = .ok (.iinc 2 1, 3) := by decide +kernel
theorem dX8_twins_38 : decode cX8_twins 38 = .ok (.iinc 3 1, 3) := by decide +kernel
theorem dX8_twins_41 : decode cX8_twins 41 = .ok (.goto (-28), 3) := by decide +kernel
theorem dX8_twins_44 : decode cX8_twins 44 = .ok (.iload_n 2, 1) := by decide +kernel
theorem dX8_twins_45 : decode cX8_twins 45 = .ok (.ireturn, 1) := by decide +kernel
def X8_twins_b13 (a1 : Int32) (v3 v4 : Int32) (m5 : gM) (k13 : Int32 → Int32 → gM → Option (Int32 × gM)) : Option (Int32 × gM) :=
  if 1024 ≤ v4 then (some (v3, m5)) else (gCall (X3_areTwins 0 a1 v4 m5) (fun (r7 : Bool) (m6 : gM) => if r7 = true then (gLet (v3 + 1) (fun (x9 : Int32) => gLet (v4 + 1) (fun (x10 : Int32) => k13 x9 x10 m6))) else (gLet (v4 + 1) (fun (x8 : Int32) => k13 v3 x8 m6))))
def X8_twins (a1 : Int32) (m : gM) : Option (Int32 × gM) :=
  gCall (X8_isLine a1 m) (fun (r2 : Bool) (m1 : gM) => if r2 = true then (gL2 FU (X8_twins_b13 a1) 0 0 m1) else (some ((-1), m1)))
set_option maxRecDepth 100000 in
set_option maxHeartbeats 4000000 in
theorem c_X8_twins (a1 : Int32) (m : gM) : gCon eI yX8_twins cX8_twins 4 (some .int) 3 [.inr (8, 0), .inl a1] m (X8_twins a1 m) := by
  refine gCon.of (lv := [some (.inr (8, 0)), some (.inl a1), none, none]) (by decide +kernel) (Nat.le_of_ble_eq_true rfl) rfl (fun X C => ?_)
  unfold X8_twins
  refine r_iload_n C dX8_twins_0 rfl rfl ?_
  refine r_insB (As := [.inl a1]) (st := []) C il_X8_116 co_X8_isLine (c_X8_isLine a1 m) (by decide) (by decide) rfl rfl (Nat.le_of_ble_eq_true rfl) dX8_twins_1 (fun r2 m1 => ?_)
  refine r_ifneB (tgt := 9) C dX8_twins_4 (by decide) ?_ ?_
  · refine r_iconst (v := 0) C dX8_twins_9 (by decide) ?_
    refine r_istore_n (lv' := [some (.inr (8, 0)), some (.inl a1), some (.inl 0), none]) C dX8_twins_10 rfl (by decide) rfl ?_
    refine r_iconst (v := 0) C dX8_twins_11 (by decide) ?_
    refine r_istore_n (lv' := [some (.inr (8, 0)), some (.inl a1), some (.inl 0), some (.inl 0)]) C dX8_twins_12 rfl (by decide) rfl ?_
    refine r_weak (lv' := [some (.inr (8, 0)), some (.inl a1), some (.inl 0), some (.inl 0)]) ⟨rfl, rfl, rfl, rfl, trivial⟩ ?_
    refine r_l2 (pj := 13) (fun v3 v4 => [some (.inr (8, 0)), some (.inl a1), some (.inl v3), some (.inl v4)]) (fun v3 v4 m5 k13 hk13 => ?_) _ _ _ _
    unfold X8_twins_b13
    refine r_iload_n C dX8_twins_13 rfl rfl ?_
    refine r_sipush (v := 1024) C dX8_twins_14 (by decide) ?_
    refine r_icmp_ge (tgt := 44) C dX8_twins_17 (by decide) ?_ ?_
    · refine r_iload_n C dX8_twins_44 rfl rfl ?_
      exact r_ireturn C dX8_twins_45
    refine r_aload_n C dX8_twins_20 rfl rfl ?_
    refine r_get (v := .inr (6, 0)) C fl_X8_10 dX8_twins_21 rfl ?_
    refine r_get (v := .inr (3, 0)) C fl_X8_82 dX8_twins_24 rfl ?_
    refine r_iload_n C dX8_twins_27 rfl rfl ?_
    refine r_iload_n C dX8_twins_28 rfl rfl ?_
    refine r_invB (t := 3) (kb := 0) (As := [.inl a1, .inl v4]) (st := []) C il_X8_270 co_X3_areTwins (by decide) rfl (c_X3_areTwins 0 a1 v4 m5) (by decide) (by decide) rfl rfl (Nat.le_of_ble_eq_true rfl) dX8_twins_29 (fun r7 m6 => ?_)
    refine r_ifeqB (tgt := 38) C dX8_twins_32 (by decide) ?_ ?_
    · refine r_iinc (v := 1) C dX8_twins_38 (by decide) rfl (by decide) (fun x8 => ?_)
      show gw X eI _ [some (.inr (8, 0)), some (.inl a1), some (.inl v3), some (.inl x8)] _ _ _
      refine r_goto (tgt := 13) C dX8_twins_41 (by decide) ?_
      exact r_weak (lv' := [some (.inr (8, 0)), some (.inl a1), some (.inl v3), some (.inl x8)]) ⟨rfl, rfl, rfl, rfl, trivial⟩ (hk13 _ _ _)
    refine r_iinc (v := 1) C dX8_twins_35 (by decide) rfl (by decide) (fun x9 => ?_)
    show gw X eI _ [some (.inr (8, 0)), some (.inl a1), some (.inl x9), some (.inl v4)] _ _ _
    refine r_iinc (v := 1) C dX8_twins_38 (by decide) rfl (by decide) (fun x10 => ?_)
    show gw X eI _ [some (.inr (8, 0)), some (.inl a1), some (.inl x9), some (.inl x10)] _ _ _
    refine r_goto (tgt := 13) C dX8_twins_41 (by decide) ?_
    exact r_weak (lv' := [some (.inr (8, 0)), some (.inl a1), some (.inl x9), some (.inl x10)]) ⟨rfl, rfl, rfl, rfl, trivial⟩ (hk13 _ _ _)
  refine r_iconst (v := (-1)) C dX8_twins_7 (by decide) ?_
  exact r_ireturn C dX8_twins_8
theorem dX8_twin_0 : decode cX8_twin 0 = .ok (.iload_n 1, 1) := by decide +kernel
theorem dX8_twin_1 : decode cX8_twin 1 = .ok (.invokestatic 116, 3) := by decide +kernel
theorem dX8_twin_4 : decode cX8_twin 4 = .ok (.ifCond .eq 7, 3) := by decide +kernel
theorem dX8_twin_7 : decode cX8_twin 7 = .ok (.iload_n 2, 1) := by decide +kernel
theorem dX8_twin_8 : decode cX8_twin 8 = .ok (.ifCond .ge 5, 3) := by decide +kernel
theorem dX8_twin_11 : decode cX8_twin 11 = .ok (.iconst (-1), 1) := by decide +kernel
theorem dX8_twin_12 : decode cX8_twin 12 = .ok (.ireturn, 1) := by decide +kernel
theorem dX8_twin_13 : decode cX8_twin 13 = .ok (.iconst 0, 1) := by decide +kernel
theorem dX8_twin_14 : decode cX8_twin 14 = .ok (.istore_n 3, 1) := by decide +kernel
theorem dX8_twin_15 : decode cX8_twin 15 = .ok (.iconst 0, 1) := by decide +kernel
theorem dX8_twin_16 : decode cX8_twin 16 = .ok (.istore 4, 2) := by decide +kernel
theorem dX8_twin_18 : decode cX8_twin 18 = .ok (.iload 4, 2) := by decide +kernel
theorem dX8_twin_20 : decode cX8_twin 20 = .ok (.sipush 1024, 3) := by decide +kernel
theorem dX8_twin_23 : decode cX8_twin 23 = .ok (.if_icmp .ge 36, 3) := by decide +kernel
theorem dX8_twin_26 : decode cX8_twin 26 = .ok (.aload_n 0, 1) := by decide +kernel
theorem dX8_twin_27 : decode cX8_twin 27 = .ok (.getfield 10, 3) := by decide +kernel
theorem dX8_twin_30 : decode cX8_twin 30 = .ok (.getfield 82, 3) := by decide +kernel
theorem dX8_twin_33 : decode cX8_twin 33 = .ok (.iload_n 1, 1) := by decide +kernel
theorem dX8_twin_34 : decode cX8_twin 34 = .ok (.iload 4, 2) := by decide +kernel
theorem dX8_twin_36 : decode cX8_twin 36 = .ok (.invokevirtual 270, 3) := by decide +kernel
theorem dX8_twin_39 : decode cX8_twin 39 = .ok (.ifCond .eq 14, 3) := by decide +kernel
theorem dX8_twin_42 : decode cX8_twin 42 = .ok (.iload_n 3, 1) := by decide +kernel
theorem dX8_twin_43 : decode cX8_twin 43 = .ok (.iload_n 2, 1) := by decide +kernel
theorem dX8_twin_44 : decode cX8_twin 44 = .ok (.if_icmp .ne 6, 3) := by decide +kernel
theorem dX8_twin_47 : decode cX8_twin 47 = .ok (.iload 4, 2) := by decide +kernel
theorem dX8_twin_49 : decode cX8_twin 49 = .ok (.ireturn, 1) := by decide +kernel
theorem dX8_twin_50 : decode cX8_twin 50 = .ok (.iinc 3 1, 3) := by decide +kernel
theorem dX8_twin_53 : decode cX8_twin 53 = .ok (.iinc 4 1, 3) := by decide +kernel
theorem dX8_twin_56 : decode cX8_twin 56 = .ok (.goto (-38), 3) := by decide +kernel
theorem dX8_twin_59 : decode cX8_twin 59 = .ok (.iconst (-1), 1) := by decide +kernel
theorem dX8_twin_60 : decode cX8_twin 60 = .ok (.ireturn, 1) := by decide +kernel
def X8_twin_b18 (a1 : Int32) (a2 : Int32) (v3 v4 : Int32) (m5 : gM) (k18 : Int32 → Int32 → gM → Option (Int32 × gM)) : Option (Int32 × gM) :=
  if 1024 ≤ v4 then (some ((-1), m5)) else (gCall (X3_areTwins 0 a1 v4 m5) (fun (r7 : Bool) (m6 : gM) => if r7 = true then (if v3 = a2 then (some (v4, m6)) else (gLet (v3 + 1) (fun (x9 : Int32) => gLet (v4 + 1) (fun (x10 : Int32) => k18 x9 x10 m6)))) else (gLet (v4 + 1) (fun (x8 : Int32) => k18 v3 x8 m6))))
def X8_twin (a1 : Int32) (a2 : Int32) (m : gM) : Option (Int32 × gM) :=
  gCall (X8_isLine a1 m) (fun (r2 : Bool) (m1 : gM) => if r2 = true then (if 0 ≤ a2 then (gL2 FU (X8_twin_b18 a1 a2) 0 0 m1) else (some ((-1), m1))) else (some ((-1), m1)))
set_option maxRecDepth 100000 in
set_option maxHeartbeats 4000000 in
theorem c_X8_twin (a1 : Int32) (a2 : Int32) (m : gM) : gCon eI yX8_twin cX8_twin 5 (some .int) 3 [.inr (8, 0), .inl a1, .inl a2] m (X8_twin a1 a2 m) := by
  refine gCon.of (lv := [some (.inr (8, 0)), some (.inl a1), some (.inl a2), none, none]) (by decide +kernel) (Nat.le_of_ble_eq_true rfl) rfl (fun X C => ?_)
  unfold X8_twin
  refine r_iload_n C dX8_twin_0 rfl rfl ?_
  refine r_insB (As := [.inl a1]) (st := []) C il_X8_116 co_X8_isLine (c_X8_isLine a1 m) (by decide) (by decide) rfl rfl (Nat.le_of_ble_eq_true rfl) dX8_twin_1 (fun r2 m1 => ?_)
  refine r_ifeqB (tgt := 11) C dX8_twin_4 (by decide) ?_ ?_
  · refine r_iconst (v := (-1)) C dX8_twin_11 (by decide) ?_
    exact r_ireturn C dX8_twin_12
  refine r_iload_n C dX8_twin_7 rfl rfl ?_
  refine r_if_ge (tgt := 13) C dX8_twin_8 (by decide) ?_ ?_
  · refine r_iconst (v := 0) C dX8_twin_13 (by decide) ?_
    refine r_istore_n (lv' := [some (.inr (8, 0)), some (.inl a1), some (.inl a2), some (.inl 0), none]) C dX8_twin_14 rfl (by decide) rfl ?_
    refine r_iconst (v := 0) C dX8_twin_15 (by decide) ?_
    refine r_istore (lv' := [some (.inr (8, 0)), some (.inl a1), some (.inl a2), some (.inl 0), some (.inl 0)]) C dX8_twin_16 (by decide) rfl ?_
    refine r_weak (lv' := [some (.inr (8, 0)), some (.inl a1), some (.inl a2), some (.inl 0), some (.inl 0)]) ⟨rfl, rfl, rfl, rfl, rfl, trivial⟩ ?_
    refine r_l2 (pj := 18) (fun v3 v4 => [some (.inr (8, 0)), some (.inl a1), some (.inl a2), some (.inl v3), some (.inl v4)]) (fun v3 v4 m5 k18 hk18 => ?_) _ _ _ _
    unfold X8_twin_b18
    refine r_iload C dX8_twin_18 rfl ?_
    refine r_sipush (v := 1024) C dX8_twin_20 (by decide) ?_
    refine r_icmp_ge (tgt := 59) C dX8_twin_23 (by decide) ?_ ?_
    · refine r_iconst (v := (-1)) C dX8_twin_59 (by decide) ?_
      exact r_ireturn C dX8_twin_60
    refine r_aload_n C dX8_twin_26 rfl rfl ?_
    refine r_get (v := .inr (6, 0)) C fl_X8_10 dX8_twin_27 rfl ?_
    refine r_get (v := .inr (3, 0)) C fl_X8_82 dX8_twin_30 rfl ?_
    refine r_iload_n C dX8_twin_33 rfl rfl ?_
    refine r_iload C dX8_twin_34 rfl ?_
    refine r_invB (t := 3) (kb := 0) (As := [.inl a1, .inl v4]) (st := []) C il_X8_270 co_X3_areTwins (by decide) rfl (c_X3_areTwins 0 a1 v4 m5) (by decide) (by decide) rfl rfl (Nat.le_of_ble_eq_true rfl) dX8_twin_36 (fun r7 m6 => ?_)
    refine r_ifeqB (tgt := 53) C dX8_twin_39 (by decide) ?_ ?_
    · refine r_iinc (v := 1) C dX8_twin_53 (by decide) rfl (by decide) (fun x8 => ?_)
      show gw X eI _ [some (.inr (8, 0)), some (.inl a1), some (.inl a2), some (.inl v3), some (.inl x8)] _ _ _
      refine r_goto (tgt := 18) C dX8_twin_56 (by decide) ?_
      exact r_weak (lv' := [some (.inr (8, 0)), some (.inl a1), some (.inl a2), some (.inl v3), some (.inl x8)]) ⟨rfl, rfl, rfl, rfl, rfl, trivial⟩ (hk18 _ _ _)
    refine r_iload_n C dX8_twin_42 rfl rfl ?_
    refine r_iload_n C dX8_twin_43 rfl rfl ?_
    refine r_icmp_ne (tgt := 50) C dX8_twin_44 (by decide) ?_ ?_
    · refine r_iinc (v := 1) C dX8_twin_50 (by decide) rfl (by decide) (fun x9 => ?_)
      show gw X eI _ [some (.inr (8, 0)), some (.inl a1), some (.inl a2), some (.inl x9), some (.inl v4)] _ _ _
      refine r_iinc (v := 1) C dX8_twin_53 (by decide) rfl (by decide) (fun x10 => ?_)
      show gw X eI _ [some (.inr (8, 0)), some (.inl a1), some (.inl a2), some (.inl x9), some (.inl x10)] _ _ _
      refine r_goto (tgt := 18) C dX8_twin_56 (by decide) ?_
      exact r_weak (lv' := [some (.inr (8, 0)), some (.inl a1), some (.inl a2), some (.inl x9), some (.inl x10)]) ⟨rfl, rfl, rfl, rfl, rfl, trivial⟩ (hk18 _ _ _)
    refine r_iload C dX8_twin_47 rfl ?_
    exact r_ireturn C dX8_twin_49
  refine r_iconst (v := (-1)) C dX8_twin_11 (by decide) ?_
  exact r_ireturn C dX8_twin_12
theorem dX8_together_0 : decode cX8_together 0 = .ok (.iload_n 1, 1) := by decide +kernel
theorem dX8_together_1 : decode cX8_together 1 = .ok (.invokestatic 116, 3) := by decide +kernel
theorem dX8_together_4 : decode cX8_together 4 = .ok (.ifCond .eq 25, 3) := by decide +kernel
theorem dX8_together_7 : decode cX8_together 7 = .ok (.iload_n 2, 1) := by decide +kernel
theorem dX8_together_8 : decode cX8_together 8 = .ok (.invokestatic 116, 3) := by decide +kernel
theorem dX8_together_11 : decode cX8_together 11 = .ok (.ifCond .eq 18, 3) := by decide +kernel
theorem dX8_together_14 : decode cX8_together 14 = .ok (.aload_n 0, 1) := by decide +kernel
theorem dX8_together_15 : decode cX8_together 15 = .ok (.getfield 10, 3) := by decide +kernel
theorem dX8_together_18 : decode cX8_together 18 = .ok (.getfield 82, 3) := by decide +kernel
theorem dX8_together_21 : decode cX8_together 21 = .ok (.iload_n 1, 1) := by decide +kernel
theorem dX8_together_22 : decode cX8_together 22 = .ok (.iload_n 2, 1) := by decide +kernel
theorem dX8_together_23 : decode cX8_together 23 = .ok (.invokevirtual 273, 3) := by decide +kernel
theorem dX8_together_26 : decode cX8_together 26 = .ok (.goto 4, 3) := by decide +kernel
theorem dX8_together_29 : decode cX8_together 29 = .ok (.iconst (-1), 1) := by decide +kernel
theorem dX8_together_30 : decode cX8_together 30 = .ok (.ireturn, 1) := by decide +kernel
def X8_together (a1 : Int32) (a2 : Int32) (m : gM) : Option (Int32 × gM) :=
  gCall (X8_isLine a1 m) (fun (r2 : Bool) (m1 : gM) => if r2 = true then (gCall (X8_isLine a2 m1) (fun (r4 : Bool) (m3 : gM) => if r4 = true then (gCall (X3_waysShared 0 a1 a2 m3) (fun (r6 : Int32) (m5 : gM) => some (r6, m5))) else (some ((-1), m3)))) else (some ((-1), m1)))
set_option maxRecDepth 100000 in
set_option maxHeartbeats 4000000 in
theorem c_X8_together (a1 : Int32) (a2 : Int32) (m : gM) : gCon eI yX8_together cX8_together 3 (some .int) 3 [.inr (8, 0), .inl a1, .inl a2] m (X8_together a1 a2 m) := by
  refine gCon.of (lv := [some (.inr (8, 0)), some (.inl a1), some (.inl a2)]) (by decide +kernel) (Nat.le_of_ble_eq_true rfl) rfl (fun X C => ?_)
  unfold X8_together
  refine r_iload_n C dX8_together_0 rfl rfl ?_
  refine r_insB (As := [.inl a1]) (st := []) C il_X8_116 co_X8_isLine (c_X8_isLine a1 m) (by decide) (by decide) rfl rfl (Nat.le_of_ble_eq_true rfl) dX8_together_1 (fun r2 m1 => ?_)
  refine r_ifeqB (tgt := 29) C dX8_together_4 (by decide) ?_ ?_
  · refine r_iconst (v := (-1)) C dX8_together_29 (by decide) ?_
    exact r_ireturn C dX8_together_30
  refine r_iload_n C dX8_together_7 rfl rfl ?_
  refine r_insB (As := [.inl a2]) (st := []) C il_X8_116 co_X8_isLine (c_X8_isLine a2 m1) (by decide) (by decide) rfl rfl (Nat.le_of_ble_eq_true rfl) dX8_together_8 (fun r4 m3 => ?_)
  refine r_ifeqB (tgt := 29) C dX8_together_11 (by decide) ?_ ?_
  · refine r_iconst (v := (-1)) C dX8_together_29 (by decide) ?_
    exact r_ireturn C dX8_together_30
  refine r_aload_n C dX8_together_14 rfl rfl ?_
  refine r_get (v := .inr (6, 0)) C fl_X8_10 dX8_together_15 rfl ?_
  refine r_get (v := .inr (3, 0)) C fl_X8_82 dX8_together_18 rfl ?_
  refine r_iload_n C dX8_together_21 rfl rfl ?_
  refine r_iload_n C dX8_together_22 rfl rfl ?_
  refine r_invI (t := 3) (kb := 0) (As := [.inl a1, .inl a2]) (st := []) C il_X8_273 co_X3_waysShared (by decide) rfl (c_X3_waysShared 0 a1 a2 m3) (by decide) (by decide) rfl rfl (Nat.le_of_ble_eq_true rfl) dX8_together_23 (fun r6 m5 => ?_)
  refine r_goto (tgt := 30) C dX8_together_26 (by decide) ?_
  exact r_ireturn C dX8_together_30
theorem dX8_isStride_0 : decode cX8_isStride 0 = .ok (.iload_n 0, 1) := by decide +kernel
theorem dX8_isStride_1 : decode cX8_isStride 1 = .ok (.iconst 1, 1) := by decide +kernel
theorem dX8_isStride_2 : decode cX8_isStride 2 = .ok (.if_icmp .lt 14, 3) := by decide +kernel
theorem dX8_isStride_5 : decode cX8_isStride 5 = .ok (.iload_n 0, 1) := by decide +kernel
theorem dX8_isStride_6 : decode cX8_isStride 6 = .ok (.sipush 1023, 3) := by decide +kernel
theorem dX8_isStride_9 : decode cX8_isStride 9 = .ok (.if_icmp .gt 7, 3) := by decide +kernel
theorem dX8_isStride_12 : decode cX8_isStride 12 = .ok (.iconst 1, 1) := by decide +kernel
theorem dX8_isStride_13 : decode cX8_isStride 13 = .ok (.goto 4, 3) := by decide +kernel
theorem dX8_isStride_16 : decode cX8_isStride 16 = .ok (.iconst 0, 1) := by decide +kernel
theorem dX8_isStride_17 : decode cX8_isStride 17 = .ok (.ireturn, 1) := by decide +kernel
def X8_isStride (a1 : Int32) (m : gM) : Option (Bool × gM) :=
  if a1 < 1 then (some (false, m)) else (if 1023 < a1 then (some (false, m)) else (some (true, m)))
set_option maxRecDepth 100000 in
set_option maxHeartbeats 4000000 in
theorem c_X8_isStride (a1 : Int32) (m : gM) : gCon eB yX8_isStride cX8_isStride 1 (some .boolean) 0 [.inl a1] m (X8_isStride a1 m) := by
  refine gCon.of (lv := [some (.inl a1)]) (by decide +kernel) (Nat.le_of_ble_eq_true rfl) rfl (fun X C => ?_)
  unfold X8_isStride
  refine r_iload_n C dX8_isStride_0 rfl rfl ?_
  refine r_iconst (v := 1) C dX8_isStride_1 (by decide) ?_
  refine r_icmp_lt (tgt := 16) C dX8_isStride_2 (by decide) ?_ ?_
  · refine r_iconst (v := 0) C dX8_isStride_16 (by decide) ?_
    exact r_zret0 C dX8_isStride_17
  refine r_iload_n C dX8_isStride_5 rfl rfl ?_
  refine r_sipush (v := 1023) C dX8_isStride_6 (by decide) ?_
  refine r_icmp_gt (tgt := 16) C dX8_isStride_9 (by decide) ?_ ?_
  · refine r_iconst (v := 0) C dX8_isStride_16 (by decide) ?_
    exact r_zret0 C dX8_isStride_17
  refine r_iconst (v := 1) C dX8_isStride_12 (by decide) ?_
  refine r_goto (tgt := 17) C dX8_isStride_13 (by decide) ?_
  exact r_zret1 C dX8_isStride_17
theorem dX8_isSwept_0 : decode cX8_isSwept 0 = .ok (.iload_n 0, 1) := by decide +kernel
theorem dX8_isSwept_1 : decode cX8_isSwept 1 = .ok (.iconst 1, 1) := by decide +kernel
theorem dX8_isSwept_2 : decode cX8_isSwept 2 = .ok (.if_icmp .lt 13, 3) := by decide +kernel
theorem dX8_isSwept_5 : decode cX8_isSwept 5 = .ok (.iload_n 0, 1) := by decide +kernel
theorem dX8_isSwept_6 : decode cX8_isSwept 6 = .ok (.bipush 64, 2) := by decide +kernel
theorem dX8_isSwept_8 : decode cX8_isSwept 8 = .ok (.if_icmp .gt 7, 3) := by decide +kernel
theorem dX8_isSwept_11 : decode cX8_isSwept 11 = .ok (.iconst 1, 1) := by decide +kernel
theorem dX8_isSwept_12 : decode cX8_isSwept 12 = .ok (.goto 4, 3) := by decide +kernel
theorem dX8_isSwept_15 : decode cX8_isSwept 15 = .ok (.iconst 0, 1) := by decide +kernel
theorem dX8_isSwept_16 : decode cX8_isSwept 16 = .ok (.ireturn, 1) := by decide +kernel
def X8_isSwept (a1 : Int32) (m : gM) : Option (Bool × gM) :=
  if a1 < 1 then (some (false, m)) else (if 64 < a1 then (some (false, m)) else (some (true, m)))
set_option maxRecDepth 100000 in
set_option maxHeartbeats 4000000 in
theorem c_X8_isSwept (a1 : Int32) (m : gM) : gCon eB yX8_isSwept cX8_isSwept 1 (some .boolean) 0 [.inl a1] m (X8_isSwept a1 m) := by
  refine gCon.of (lv := [some (.inl a1)]) (by decide +kernel) (Nat.le_of_ble_eq_true rfl) rfl (fun X C => ?_)
  unfold X8_isSwept
  refine r_iload_n C dX8_isSwept_0 rfl rfl ?_
  refine r_iconst (v := 1) C dX8_isSwept_1 (by decide) ?_
  refine r_icmp_lt (tgt := 15) C dX8_isSwept_2 (by decide) ?_ ?_
  · refine r_iconst (v := 0) C dX8_isSwept_15 (by decide) ?_
    exact r_zret0 C dX8_isSwept_16
  refine r_iload_n C dX8_isSwept_5 rfl rfl ?_
  refine r_bipush (v := 64) C dX8_isSwept_6 (by decide) ?_
  refine r_icmp_gt (tgt := 15) C dX8_isSwept_8 (by decide) ?_ ?_
  · refine r_iconst (v := 0) C dX8_isSwept_15 (by decide) ?_
    exact r_zret0 C dX8_isSwept_16
  refine r_iconst (v := 1) C dX8_isSwept_11 (by decide) ?_
  refine r_goto (tgt := 16) C dX8_isSwept_12 (by decide) ?_
  exact r_zret1 C dX8_isSwept_16
theorem dX8_spread_0 : decode cX8_spread 0 = .ok (.aload_n 0, 1) := by decide +kernel
theorem dX8_spread_1 : decode cX8_spread 1 = .ok (.iload_n 1, 1) := by decide +kernel
theorem dX8_spread_2 : decode cX8_spread 2 = .ok (.invokevirtual 160, 3) := by decide +kernel
theorem dX8_spread_5 : decode cX8_spread 5 = .ok (.ifCond .eq 28, 3) := by decide +kernel
theorem dX8_spread_8 : decode cX8_spread 8 = .ok (.iload_n 2, 1) := by decide +kernel
theorem dX8_spread_9 : decode cX8_spread 9 = .ok (.invokestatic 276, 3) := by decide +kernel
theorem dX8_spread_12 : decode cX8_spread 12 = .ok (.ifCond .eq 21, 3) := by decide +kernel
theorem dX8_spread_15 : decode cX8_spread 15 = .ok (.iload_n 3, 1) := by decide +kernel
theorem dX8_spread_16 : decode cX8_spread 16 = .ok (.invokestatic 279, 3) := by decide +kernel
theorem dX8_spread_19 : decode cX8_spread 19 = .ok (.ifCond .eq 14, 3) := by decide +kernel
theorem dX8_spread_22 : decode cX8_spread 22 = .ok (.iload 4, 2) := by decide +kernel
theorem dX8_spread_24 : decode cX8_spread 24 = .ok (.ifCond .lt 9, 3) := by decide +kernel
theorem dX8_spread_27 : decode cX8_spread 27 = .ok (.iload 4, 2) := by decide +kernel
theorem dX8_spread_29 : decode cX8_spread 29 = .ok (.iconst 1, 1) := by decide +kernel
theorem dX8_spread_30 : decode cX8_spread 30 = .ok (.if_icmp .le 5, 3) := by decide +kernel
theorem dX8_spread_33 : decode cX8_spread 33 = .ok (.iconst (-1), 1) := by decide +kernel
theorem dX8_spread_34 : decode cX8_spread 34 = .ok (.ireturn, 1) := by decide +kernel
theorem dX8_spread_35 : decode cX8_spread 35 = .ok (.aload_n 0, 1) := by decide +kernel
theorem dX8_spread_36 : decode cX8_spread 36 = .ok (.getfield 36, 3) := by decide +kernel
theorem dX8_spread_39 : decode cX8_spread 39 = .ok (.aload_n 0, 1) := by decide +kernel
theorem dX8_spread_40 : decode cX8_spread 40 = .ok (.getfield 10, 3) := by decide +kernel
theorem dX8_spread_43 : decode cX8_spread 43 = .ok (.getfield 82, 3) := by decide +kernel
theorem dX8_spread_46 : decode cX8_spread 46 = .ok (.iload_n 1, 1) := by decide +kernel
theorem dX8_spread_47 : decode cX8_spread 47 = .ok (.iload_n 2, 1) := by decide +kernel
theorem dX8_spread_48 : decode cX8_spread 48 = .ok (.iload_n 3, 1) := by decide +kernel
theorem dX8_spread_49 : decode cX8_spread 49 = .ok (.invokevirtual 282, 3) := by decide +kernel
theorem dX8_spread_52 : decode cX8_spread 52 = .ok (.iload 4, 2) := by decide +kernel
theorem dX8_spread_54 : decode cX8_spread 54 = .ok (.ifCond .ne 13, 3) := by decide +kernel
theorem dX8_spread_57 : decode cX8_spread 57 = .ok (.aload_n 0, 1) := by decide +kernel
theorem dX8_spread_58 : decode cX8_spread 58 = .ok (.getfield 36, 3) := by decide +kernel
theorem dX8_spread_61 : decode cX8_spread 61 = .ok (.invokevirtual 286, 3) := by decide +kernel
theorem dX8_spread_64 : decode cX8_spread 64 = .ok (.goto 10, 3) := by decide +kernel
theorem dX8_spread_67 : decode cX8_spread 67 = .ok (.aload_n 0, 1) := by decide +kernel
theorem dX8_spread_68 : decode cX8_spread 68 = .ok (.getfield 36, 3) := by decide +kernel
theorem dX8_spread_71 : decode cX8_spread 71 = .ok (.invokevirtual 289, 3) := by decide +kernel
theorem dX8_spread_74 : decode cX8_spread 74 = .ok (.ireturn, 1) := by decide +kernel
def X8_spread (a1 : Int32) (a2 : Int32) (a3 : Int32) (a4 : Int32) (m : gM) : Option (Int32 × gM) :=
  gCall (X8_isWay a1 m) (fun (r2 : Bool) (m1 : gM) => if r2 = true then (gCall (X8_isStride a2 m1) (fun (r4 : Bool) (m3 : gM) => if r4 = true then (gCall (X8_isSwept a3 m3) (fun (r6 : Bool) (m5 : gM) => if r6 = true then (if a4 < 0 then (some ((-1), m5)) else (if a4 ≤ 1 then (gCall (X7_layOut 0 a1 a2 a3 m5) (fun (r8 : Unit) (m7 : gM) => if a4 = 0 then (gCall (X7_slotsUsed m7) (fun (r12 : Int32) (m11 : gM) => some (r12, m11))) else (gCall (X7_mostInOne m7) (fun (r10 : Int32) (m9 : gM) => some (r10, m9))))) else (some ((-1), m5)))) else (some ((-1), m5)))) else (some ((-1), m3)))) else (some ((-1), m1)))
set_option maxRecDepth 100000 in
set_option maxHeartbeats 4000000 in
theorem c_X8_spread (a1 : Int32) (a2 : Int32) (a3 : Int32) (a4 : Int32) (m : gM) : gCon eI yX8_spread cX8_spread 5 (some .int) 3 [.inr (8, 0), .inl a1, .inl a2, .inl a3, .inl a4] m (X8_spread a1 a2 a3 a4 m) := by
  refine gCon.of (lv := [some (.inr (8, 0)), some (.inl a1), some (.inl a2), some (.inl a3), some (.inl a4)]) (by decide +kernel) (Nat.le_of_ble_eq_true rfl) rfl (fun X C => ?_)
  unfold X8_spread
  refine r_aload_n C dX8_spread_0 rfl rfl ?_
  refine r_iload_n C dX8_spread_1 rfl rfl ?_
  refine r_invB (t := 8) (kb := 0) (As := [.inl a1]) (st := []) C il_X8_160 co_X8_isWay (by decide) rfl (c_X8_isWay a1 m) (by decide) (by decide) rfl rfl (Nat.le_of_ble_eq_true rfl) dX8_spread_2 (fun r2 m1 => ?_)
  refine r_ifeqB (tgt := 33) C dX8_spread_5 (by decide) ?_ ?_
  · refine r_iconst (v := (-1)) C dX8_spread_33 (by decide) ?_
    exact r_ireturn C dX8_spread_34
  refine r_iload_n C dX8_spread_8 rfl rfl ?_
  refine r_insB (As := [.inl a2]) (st := []) C il_X8_276 co_X8_isStride (c_X8_isStride a2 m1) (by decide) (by decide) rfl rfl (Nat.le_of_ble_eq_true rfl) dX8_spread_9 (fun r4 m3 => ?_)
  refine r_ifeqB (tgt := 33) C dX8_spread_12 (by decide) ?_ ?_
  · refine r_iconst (v := (-1)) C dX8_spread_33 (by decide) ?_
    exact r_ireturn C dX8_spread_34
  refine r_iload_n C dX8_spread_15 rfl rfl ?_
  refine r_insB (As := [.inl a3]) (st := []) C il_X8_279 co_X8_isSwept (c_X8_isSwept a3 m3) (by decide) (by decide) rfl rfl (Nat.le_of_ble_eq_true rfl) dX8_spread_16 (fun r6 m5 => ?_)
  refine r_ifeqB (tgt := 33) C dX8_spread_19 (by decide) ?_ ?_
  · refine r_iconst (v := (-1)) C dX8_spread_33 (by decide) ?_
    exact r_ireturn C dX8_spread_34
  refine r_iload C dX8_spread_22 rfl ?_
  refine r_if_lt (tgt := 33) C dX8_spread_24 (by decide) ?_ ?_
  · refine r_iconst (v := (-1)) C dX8_spread_33 (by decide) ?_
    exact r_ireturn C dX8_spread_34
  refine r_iload C dX8_spread_27 rfl ?_
  refine r_iconst (v := 1) C dX8_spread_29 (by decide) ?_
  refine r_icmp_le (tgt := 35) C dX8_spread_30 (by decide) ?_ ?_
  · refine r_aload_n C dX8_spread_35 rfl rfl ?_
    refine r_get (v := .inr (7, 0)) C fl_X8_36 dX8_spread_36 rfl ?_
    refine r_aload_n C dX8_spread_39 rfl rfl ?_
    refine r_get (v := .inr (6, 0)) C fl_X8_10 dX8_spread_40 rfl ?_
    refine r_get (v := .inr (3, 0)) C fl_X8_82 dX8_spread_43 rfl ?_
    refine r_iload_n C dX8_spread_46 rfl rfl ?_
    refine r_iload_n C dX8_spread_47 rfl rfl ?_
    refine r_iload_n C dX8_spread_48 rfl rfl ?_
    refine r_invU (t := 7) (kb := 0) (As := [.inr (3, 0), .inl a1, .inl a2, .inl a3]) (st := []) C il_X8_282 co_X7_layOut (by decide) rfl (c_X7_layOut 0 a1 a2 a3 m5) (by decide) (by decide) rfl rfl (Nat.le_of_ble_eq_true rfl) dX8_spread_49 (fun r8 m7 => ?_)
    refine r_iload C dX8_spread_52 rfl ?_
    refine r_if_ne (tgt := 67) C dX8_spread_54 (by decide) ?_ ?_
    · refine r_aload_n C dX8_spread_67 rfl rfl ?_
      refine r_get (v := .inr (7, 0)) C fl_X8_36 dX8_spread_68 rfl ?_
      refine r_invI (t := 7) (kb := 0) (As := []) (st := []) C il_X8_289 co_X7_mostInOne (by decide) rfl (c_X7_mostInOne m7) (by decide) (by decide) rfl rfl (Nat.le_of_ble_eq_true rfl) dX8_spread_71 (fun r10 m9 => ?_)
      exact r_ireturn C dX8_spread_74
    refine r_aload_n C dX8_spread_57 rfl rfl ?_
    refine r_get (v := .inr (7, 0)) C fl_X8_36 dX8_spread_58 rfl ?_
    refine r_invI (t := 7) (kb := 0) (As := []) (st := []) C il_X8_286 co_X7_slotsUsed (by decide) rfl (c_X7_slotsUsed m7) (by decide) (by decide) rfl rfl (Nat.le_of_ble_eq_true rfl) dX8_spread_61 (fun r12 m11 => ?_)
    refine r_goto (tgt := 74) C dX8_spread_64 (by decide) ?_
    exact r_ireturn C dX8_spread_74
  refine r_iconst (v := (-1)) C dX8_spread_33 (by decide) ?_
  exact r_ireturn C dX8_spread_34
theorem dX8_even_0 : decode cX8_even 0 = .ok (.aload_n 0, 1) := by decide +kernel
theorem dX8_even_1 : decode cX8_even 1 = .ok (.iload_n 1, 1) := by decide +kernel
theorem dX8_even_2 : decode cX8_even 2 = .ok (.invokevirtual 160, 3) := by decide +kernel
theorem dX8_even_5 : decode cX8_even 5 = .ok (.ifCond .eq 21, 3) := by decide +kernel
theorem dX8_even_8 : decode cX8_even 8 = .ok (.aload_n 0, 1) := by decide +kernel
theorem dX8_even_9 : decode cX8_even 9 = .ok (.getfield 36, 3) := by decide +kernel
theorem dX8_even_12 : decode cX8_even 12 = .ok (.aload_n 0, 1) := by decide +kernel
theorem dX8_even_13 : decode cX8_even 13 = .ok (.getfield 10, 3) := by decide +kernel
theorem dX8_even_16 : decode cX8_even 16 = .ok (.getfield 82, 3) := by decide +kernel
theorem dX8_even_19 : decode cX8_even 19 = .ok (.iload_n 1, 1) := by decide +kernel
theorem dX8_even_20 : decode cX8_even 20 = .ok (.invokevirtual 292, 3) := by decide +kernel
theorem dX8_even_23 : decode cX8_even 23 = .ok (.goto 4, 3) := by decide +kernel
theorem dX8_even_26 : decode cX8_even 26 = .ok (.iconst (-1), 1) := by decide +kernel
theorem dX8_even_27 : decode cX8_even 27 = .ok (.ireturn, 1) := by decide +kernel
def X8_even (a1 : Int32) (m : gM) : Option (Int32 × gM) :=
  gCall (X8_isWay a1 m) (fun (r2 : Bool) (m1 : gM) => if r2 = true then (gCall (X7_evenStrides 0 a1 m1) (fun (r4 : Int32) (m3 : gM) => some (r4, m3))) else (some ((-1), m1)))
set_option maxRecDepth 100000 in
set_option maxHeartbeats 4000000 in
theorem c_X8_even (a1 : Int32) (m : gM) : gCon eI yX8_even cX8_even 2 (some .int) 4 [.inr (8, 0), .inl a1] m (X8_even a1 m) := by
  refine gCon.of (lv := [some (.inr (8, 0)), some (.inl a1)]) (by decide +kernel) (Nat.le_of_ble_eq_true rfl) rfl (fun X C => ?_)
  unfold X8_even
  refine r_aload_n C dX8_even_0 rfl rfl ?_
  refine r_iload_n C dX8_even_1 rfl rfl ?_
  refine r_invB (t := 8) (kb := 0) (As := [.inl a1]) (st := []) C il_X8_160 co_X8_isWay (by decide) rfl (c_X8_isWay a1 m) (by decide) (by decide) rfl rfl (Nat.le_of_ble_eq_true rfl) dX8_even_2 (fun r2 m1 => ?_)
  refine r_ifeqB (tgt := 26) C dX8_even_5 (by decide) ?_ ?_
  · refine r_iconst (v := (-1)) C dX8_even_26 (by decide) ?_
    exact r_ireturn C dX8_even_27
  refine r_aload_n C dX8_even_8 rfl rfl ?_
  refine r_get (v := .inr (7, 0)) C fl_X8_36 dX8_even_9 rfl ?_
  refine r_aload_n C dX8_even_12 rfl rfl ?_
  refine r_get (v := .inr (6, 0)) C fl_X8_10 dX8_even_13 rfl ?_
  refine r_get (v := .inr (3, 0)) C fl_X8_82 dX8_even_16 rfl ?_
  refine r_iload_n C dX8_even_19 rfl rfl ?_
  refine r_invI (t := 7) (kb := 0) (As := [.inr (3, 0), .inl a1]) (st := []) C il_X8_292 co_X7_evenStrides (by decide) rfl (c_X7_evenStrides 0 a1 m1) (by decide) (by decide) rfl rfl (Nat.le_of_ble_eq_true rfl) dX8_even_20 (fun r4 m3 => ?_)
  refine r_goto (tgt := 27) C dX8_even_23 (by decide) ?_
  exact r_ireturn C dX8_even_27
theorem dX8_evenAll_0 : decode cX8_evenAll 0 = .ok (.iconst 0, 1) := by decide +kernel
theorem dX8_evenAll_1 : decode cX8_evenAll 1 = .ok (.istore_n 1, 1) := by decide +kernel
theorem dX8_evenAll_2 : decode cX8_evenAll 2 = .ok (.iconst 1, 1) := by decide +kernel
theorem dX8_evenAll_3 : decode cX8_evenAll 3 = .ok (.istore_n 2, 1) := by decide +kernel
theorem dX8_evenAll_4 : decode cX8_evenAll 4 = .ok (.iload_n 2, 1) := by decide +kernel
theorem dX8_evenAll_5 : decode cX8_evenAll 5 = .ok (.bipush 63, 2) := by decide +kernel
theorem dX8_evenAll_7 : decode cX8_evenAll 7 = .ok (.if_icmp .gt 30, 3) := by decide +kernel
theorem dX8_evenAll_10 : decode cX8_evenAll 10 = .ok (.aload_n 0, 1) := by decide +kernel
theorem dX8_evenAll_11 : decode cX8_evenAll 11 = .ok (.getfield 36, 3) := by decide +kernel
theorem dX8_evenAll_14 : decode cX8_evenAll 14 = .ok (.aload_n 0, 1) := by decide +kernel
theorem dX8_evenAll_15 : decode cX8_evenAll 15 = .ok (.getfield 10, 3) := by decide +kernel
theorem dX8_evenAll_18 : decode cX8_evenAll 18 = .ok (.getfield 82, 3) := by decide +kernel
theorem dX8_evenAll_21 : decode cX8_evenAll 21 = .ok (.iload_n 2, 1) := by decide +kernel
theorem dX8_evenAll_22 : decode cX8_evenAll 22 = .ok (.invokevirtual 296, 3) := by decide +kernel
theorem dX8_evenAll_25 : decode cX8_evenAll 25 = .ok (.ifCond .eq 6, 3) := by decide +kernel
theorem dX8_evenAll_28 : decode cX8_evenAll 28 = .ok (.iinc 1 1, 3) := by decide +kernel
theorem dX8_evenAll_31 : decode cX8_evenAll 31 = .ok (.iinc 2 1, 3) := by decide +kernel
theorem dX8_evenAll_34 : decode cX8_evenAll 34 = .ok (.goto (-30), 3) := by decide +kernel
theorem dX8_evenAll_37 : decode cX8_evenAll 37 = .ok (.iload_n 1, 1) := by decide +kernel
theorem dX8_evenAll_38 : decode cX8_evenAll 38 = .ok (.ireturn, 1) := by decide +kernel
def X8_evenAll_b4 (v1 v2 : Int32) (m3 : gM) (k4 : Int32 → Int32 → gM → Option (Int32 × gM)) : Option (Int32 × gM) :=
  if 63 < v2 then (some (v1, m3)) else (gCall (X7_isEvenInAll 0 v2 m3) (fun (r5 : Bool) (m4 : gM) => if r5 = true then (gLet (v1 + 1) (fun (x7 : Int32) => gLet (v2 + 1) (fun (x8 : Int32) => k4 x7 x8 m4))) else (gLet (v2 + 1) (fun (x6 : Int32) => k4 v1 x6 m4))))
def X8_evenAll (m : gM) : Option (Int32 × gM) :=
  gL2 FU X8_evenAll_b4 0 1 m
set_option maxRecDepth 100000 in
set_option maxHeartbeats 4000000 in
theorem c_X8_evenAll (m : gM) : gCon eI yX8_evenAll cX8_evenAll 3 (some .int) 4 [.inr (8, 0)] m (X8_evenAll m) := by
  refine gCon.of (lv := [some (.inr (8, 0)), none, none]) (by decide +kernel) (Nat.le_of_ble_eq_true rfl) rfl (fun X C => ?_)
  unfold X8_evenAll
  refine r_iconst (v := 0) C dX8_evenAll_0 (by decide) ?_
  refine r_istore_n (lv' := [some (.inr (8, 0)), some (.inl 0), none]) C dX8_evenAll_1 rfl (by decide) rfl ?_
  refine r_iconst (v := 1) C dX8_evenAll_2 (by decide) ?_
  refine r_istore_n (lv' := [some (.inr (8, 0)), some (.inl 0), some (.inl 1)]) C dX8_evenAll_3 rfl (by decide) rfl ?_
  refine r_weak (lv' := [some (.inr (8, 0)), some (.inl 0), some (.inl 1)]) ⟨rfl, rfl, rfl, trivial⟩ ?_
  refine r_l2 (pj := 4) (fun v1 v2 => [some (.inr (8, 0)), some (.inl v1), some (.inl v2)]) (fun v1 v2 m3 k4 hk4 => ?_) _ _ _ _
  unfold X8_evenAll_b4
  refine r_iload_n C dX8_evenAll_4 rfl rfl ?_
  refine r_bipush (v := 63) C dX8_evenAll_5 (by decide) ?_
  refine r_icmp_gt (tgt := 37) C dX8_evenAll_7 (by decide) ?_ ?_
  · refine r_iload_n C dX8_evenAll_37 rfl rfl ?_
    exact r_ireturn C dX8_evenAll_38
  refine r_aload_n C dX8_evenAll_10 rfl rfl ?_
  refine r_get (v := .inr (7, 0)) C fl_X8_36 dX8_evenAll_11 rfl ?_
  refine r_aload_n C dX8_evenAll_14 rfl rfl ?_
  refine r_get (v := .inr (6, 0)) C fl_X8_10 dX8_evenAll_15 rfl ?_
  refine r_get (v := .inr (3, 0)) C fl_X8_82 dX8_evenAll_18 rfl ?_
  refine r_iload_n C dX8_evenAll_21 rfl rfl ?_
  refine r_invB (t := 7) (kb := 0) (As := [.inr (3, 0), .inl v2]) (st := []) C il_X8_296 co_X7_isEvenInAll (by decide) rfl (c_X7_isEvenInAll 0 v2 m3) (by decide) (by decide) rfl rfl (Nat.le_of_ble_eq_true rfl) dX8_evenAll_22 (fun r5 m4 => ?_)
  refine r_ifeqB (tgt := 31) C dX8_evenAll_25 (by decide) ?_ ?_
  · refine r_iinc (v := 1) C dX8_evenAll_31 (by decide) rfl (by decide) (fun x6 => ?_)
    show gw X eI _ [some (.inr (8, 0)), some (.inl v1), some (.inl x6)] _ _ _
    refine r_goto (tgt := 4) C dX8_evenAll_34 (by decide) ?_
    exact r_weak (lv' := [some (.inr (8, 0)), some (.inl v1), some (.inl x6)]) ⟨rfl, rfl, rfl, trivial⟩ (hk4 _ _ _)
  refine r_iinc (v := 1) C dX8_evenAll_28 (by decide) rfl (by decide) (fun x7 => ?_)
  show gw X eI _ [some (.inr (8, 0)), some (.inl x7), some (.inl v2)] _ _ _
  refine r_iinc (v := 1) C dX8_evenAll_31 (by decide) rfl (by decide) (fun x8 => ?_)
  show gw X eI _ [some (.inr (8, 0)), some (.inl x7), some (.inl x8)] _ _ _
  refine r_goto (tgt := 4) C dX8_evenAll_34 (by decide) ?_
  exact r_weak (lv' := [some (.inr (8, 0)), some (.inl x7), some (.inl x8)]) ⟨rfl, rfl, rfl, trivial⟩ (hk4 _ _ _)
theorem dX8_scattered_0 : decode cX8_scattered 0 = .ok (.iload_n 1, 1) := by decide +kernel
theorem dX8_scattered_1 : decode cX8_scattered 1 = .ok (.invokestatic 116, 3) := by decide +kernel
theorem dX8_scattered_4 : decode cX8_scattered 4 = .ok (.ifCond .eq 24, 3) := by decide +kernel
theorem dX8_scattered_7 : decode cX8_scattered 7 = .ok (.aload_n 0, 1) := by decide +kernel
theorem dX8_scattered_8 : decode cX8_scattered 8 = .ok (.iload_n 2, 1) := by decide +kernel
theorem dX8_scattered_9 : decode cX8_scattered 9 = .ok (.invokevirtual 160, 3) := by decide +kernel
theorem dX8_scattered_12 : decode cX8_scattered 12 = .ok (.ifCond .eq 16, 3) := by decide +kernel
theorem dX8_scattered_15 : decode cX8_scattered 15 = .ok (.aload_n 0, 1) := by decide +kernel
theorem dX8_scattered_16 : decode cX8_scattered 16 = .ok (.iload_n 3, 1) := by decide +kernel
theorem dX8_scattered_17 : decode cX8_scattered 17 = .ok (.invokevirtual 160, 3) := by decide +kernel
theorem dX8_scattered_20 : decode cX8_scattered 20 = .ok (.ifCond .eq 8, 3) := by decide +kernel
theorem dX8_scattered_23 : decode cX8_scattered 23 = .ok (.iload_n 2, 1) := by decide +kernel
theorem dX8_scattered_24 : decode cX8_scattered 24 = .ok (.iload_n 3, 1) := by decide +kernel
theorem dX8_scattered_25 : decode cX8_scattered 25 = .ok (.if_icmp .ne 5, 3) := by decide +kernel
theorem dX8_scattered_28 : decode cX8_scattered 28 = .ok (.iconst (-1), 1) := by decide +kernel
theorem dX8_scattered_29 : decode cX8_scattered 29 = .ok (.ireturn, 1) := by decide +kernel
theorem dX8_scattered_30 : decode cX8_scattered 30 = .ok (.aload_n 0, 1) := by decide +kernel
theorem dX8_scattered_31 : decode cX8_scattered 31 = .ok (.getfield 36, 3) := by decide +kernel
theorem dX8_scattered_34 : decode cX8_scattered 34 = .ok (.aload_n 0, 1) := by decide +kernel
theorem dX8_scattered_35 : decode cX8_scattered 35 = .ok (.getfield 10, 3) := by decide +kernel
theorem dX8_scattered_38 : decode cX8_scattered 38 = .ok (.getfield 82, 3) := by decide +kernel
theorem dX8_scattered_41 : decode cX8_scattered 41 = .ok (.iload_n 1, 1) := by decide +kernel
theorem dX8_scattered_42 : decode cX8_scattered 42 = .ok (.iload_n 2, 1) := by decide +kernel
theorem dX8_scattered_43 : decode cX8_scattered 43 = .ok (.iload_n 3, 1) := by decide +kernel
theorem dX8_scattered_44 : decode cX8_scattered 44 = .ok (.invokevirtual 300, 3) := by decide +kernel
theorem dX8_scattered_47 : decode cX8_scattered 47 = .ok (.ireturn, 1) := by decide +kernel
def X8_scattered (a1 : Int32) (a2 : Int32) (a3 : Int32) (m : gM) : Option (Int32 × gM) :=
  gCall (X8_isLine a1 m) (fun (r2 : Bool) (m1 : gM) => if r2 = true then (gCall (X8_isWay a2 m1) (fun (r4 : Bool) (m3 : gM) => if r4 = true then (gCall (X8_isWay a3 m3) (fun (r6 : Bool) (m5 : gM) => if r6 = true then (if a2 = a3 then (some ((-1), m5)) else (gCall (X7_slotsScattered 0 a1 a2 a3 m5) (fun (r8 : Int32) (m7 : gM) => some (r8, m7)))) else (some ((-1), m5)))) else (some ((-1), m3)))) else (some ((-1), m1)))
set_option maxRecDepth 100000 in
set_option maxHeartbeats 4000000 in
theorem c_X8_scattered (a1 : Int32) (a2 : Int32) (a3 : Int32) (m : gM) : gCon eI yX8_scattered cX8_scattered 4 (some .int) 3 [.inr (8, 0), .inl a1, .inl a2, .inl a3] m (X8_scattered a1 a2 a3 m) := by
  refine gCon.of (lv := [some (.inr (8, 0)), some (.inl a1), some (.inl a2), some (.inl a3)]) (by decide +kernel) (Nat.le_of_ble_eq_true rfl) rfl (fun X C => ?_)
  unfold X8_scattered
  refine r_iload_n C dX8_scattered_0 rfl rfl ?_
  refine r_insB (As := [.inl a1]) (st := []) C il_X8_116 co_X8_isLine (c_X8_isLine a1 m) (by decide) (by decide) rfl rfl (Nat.le_of_ble_eq_true rfl) dX8_scattered_1 (fun r2 m1 => ?_)
  refine r_ifeqB (tgt := 28) C dX8_scattered_4 (by decide) ?_ ?_
  · refine r_iconst (v := (-1)) C dX8_scattered_28 (by decide) ?_
    exact r_ireturn C dX8_scattered_29
  refine r_aload_n C dX8_scattered_7 rfl rfl ?_
  refine r_iload_n C dX8_scattered_8 rfl rfl ?_
  refine r_invB (t := 8) (kb := 0) (As := [.inl a2]) (st := []) C il_X8_160 co_X8_isWay (by decide) rfl (c_X8_isWay a2 m1) (by decide) (by decide) rfl rfl (Nat.le_of_ble_eq_true rfl) dX8_scattered_9 (fun r4 m3 => ?_)
  refine r_ifeqB (tgt := 28) C dX8_scattered_12 (by decide) ?_ ?_
  · refine r_iconst (v := (-1)) C dX8_scattered_28 (by decide) ?_
    exact r_ireturn C dX8_scattered_29
  refine r_aload_n C dX8_scattered_15 rfl rfl ?_
  refine r_iload_n C dX8_scattered_16 rfl rfl ?_
  refine r_invB (t := 8) (kb := 0) (As := [.inl a3]) (st := []) C il_X8_160 co_X8_isWay (by decide) rfl (c_X8_isWay a3 m3) (by decide) (by decide) rfl rfl (Nat.le_of_ble_eq_true rfl) dX8_scattered_17 (fun r6 m5 => ?_)
  refine r_ifeqB (tgt := 28) C dX8_scattered_20 (by decide) ?_ ?_
  · refine r_iconst (v := (-1)) C dX8_scattered_28 (by decide) ?_
    exact r_ireturn C dX8_scattered_29
  refine r_iload_n C dX8_scattered_23 rfl rfl ?_
  refine r_iload_n C dX8_scattered_24 rfl rfl ?_
  refine r_icmp_ne (tgt := 30) C dX8_scattered_25 (by decide) ?_ ?_
  · refine r_aload_n C dX8_scattered_30 rfl rfl ?_
    refine r_get (v := .inr (7, 0)) C fl_X8_36 dX8_scattered_31 rfl ?_
    refine r_aload_n C dX8_scattered_34 rfl rfl ?_
    refine r_get (v := .inr (6, 0)) C fl_X8_10 dX8_scattered_35 rfl ?_
    refine r_get (v := .inr (3, 0)) C fl_X8_82 dX8_scattered_38 rfl ?_
    refine r_iload_n C dX8_scattered_41 rfl rfl ?_
    refine r_iload_n C dX8_scattered_42 rfl rfl ?_
    refine r_iload_n C dX8_scattered_43 rfl rfl ?_
    refine r_invI (t := 7) (kb := 0) (As := [.inr (3, 0), .inl a1, .inl a2, .inl a3]) (st := []) C il_X8_300 co_X7_slotsScattered (by decide) rfl (c_X7_slotsScattered 0 a1 a2 a3 m5) (by decide) (by decide) rfl rfl (Nat.le_of_ble_eq_true rfl) dX8_scattered_44 (fun r8 m7 => ?_)
    exact r_ireturn C dX8_scattered_47
  refine r_iconst (v := (-1)) C dX8_scattered_28 (by decide) ?_
  exact r_ireturn C dX8_scattered_29
theorem dX8_worst_0 : decode cX8_worst 0 = .ok (.aload_n 0, 1) := by decide +kernel
theorem dX8_worst_1 : decode cX8_worst 1 = .ok (.iload_n 1, 1) := by decide +kernel
theorem dX8_worst_2 : decode cX8_worst 2 = .ok (.invokevirtual 160, 3) := by decide +kernel
theorem dX8_worst_5 : decode cX8_worst 5 = .ok (.ifCond .eq 29, 3) := by decide +kernel
theorem dX8_worst_8 : decode cX8_worst 8 = .ok (.iload_n 2, 1) := by decide +kernel
theorem dX8_worst_9 : decode cX8_worst 9 = .ok (.invokestatic 279, 3) := by decide +kernel
theorem dX8_worst_12 : decode cX8_worst 12 = .ok (.ifCond .eq 22, 3) := by decide +kernel
theorem dX8_worst_15 : decode cX8_worst 15 = .ok (.aload_n 0, 1) := by decide +kernel
theorem dX8_worst_16 : decode cX8_worst 16 = .ok (.getfield 36, 3) := by decide +kernel
theorem dX8_worst_19 : decode cX8_worst 19 = .ok (.aload_n 0, 1) := by decide +kernel
theorem dX8_worst_20 : decode cX8_worst 20 = .ok (.getfield 10, 3) := by decide +kernel
theorem dX8_worst_23 : decode cX8_worst 23 = .ok (.getfield 82, 3) := by decide +kernel
theorem dX8_worst_26 : decode cX8_worst 26 = .ok (.iload_n 1, 1) := by decide +kernel
theorem dX8_worst_27 : decode cX8_worst 27 = .ok (.iload_n 2, 1) := by decide +kernel
theorem dX8_worst_28 : decode cX8_worst 28 = .ok (.invokevirtual 304, 3) := by decide +kernel
theorem dX8_worst_31 : decode cX8_worst 31 = .ok (.goto 4, 3) := by decide +kernel
theorem dX8_worst_34 : decode cX8_worst 34 = .ok (.iconst (-1), 1) := by decide +kernel
theorem dX8_worst_35 : decode cX8_worst 35 = .ok (.ireturn, 1) := by decide +kernel
def X8_worst (a1 : Int32) (a2 : Int32) (m : gM) : Option (Int32 × gM) :=
  gCall (X8_isWay a1 m) (fun (r2 : Bool) (m1 : gM) => if r2 = true then (gCall (X8_isSwept a2 m1) (fun (r4 : Bool) (m3 : gM) => if r4 = true then (gCall (X7_worstStride 0 a1 a2 m3) (fun (r6 : Int32) (m5 : gM) => some (r6, m5))) else (some ((-1), m3)))) else (some ((-1), m1)))
set_option maxRecDepth 100000 in
set_option maxHeartbeats 4000000 in
theorem c_X8_worst (a1 : Int32) (a2 : Int32) (m : gM) : gCon eI yX8_worst cX8_worst 3 (some .int) 4 [.inr (8, 0), .inl a1, .inl a2] m (X8_worst a1 a2 m) := by
  refine gCon.of (lv := [some (.inr (8, 0)), some (.inl a1), some (.inl a2)]) (by decide +kernel) (Nat.le_of_ble_eq_true rfl) rfl (fun X C => ?_)
  unfold X8_worst
  refine r_aload_n C dX8_worst_0 rfl rfl ?_
  refine r_iload_n C dX8_worst_1 rfl rfl ?_
  refine r_invB (t := 8) (kb := 0) (As := [.inl a1]) (st := []) C il_X8_160 co_X8_isWay (by decide) rfl (c_X8_isWay a1 m) (by decide) (by decide) rfl rfl (Nat.le_of_ble_eq_true rfl) dX8_worst_2 (fun r2 m1 => ?_)
  refine r_ifeqB (tgt := 34) C dX8_worst_5 (by decide) ?_ ?_
  · refine r_iconst (v := (-1)) C dX8_worst_34 (by decide) ?_
    exact r_ireturn C dX8_worst_35
  refine r_iload_n C dX8_worst_8 rfl rfl ?_
  refine r_insB (As := [.inl a2]) (st := []) C il_X8_279 co_X8_isSwept (c_X8_isSwept a2 m1) (by decide) (by decide) rfl rfl (Nat.le_of_ble_eq_true rfl) dX8_worst_9 (fun r4 m3 => ?_)
  refine r_ifeqB (tgt := 34) C dX8_worst_12 (by decide) ?_ ?_
  · refine r_iconst (v := (-1)) C dX8_worst_34 (by decide) ?_
    exact r_ireturn C dX8_worst_35
  refine r_aload_n C dX8_worst_15 rfl rfl ?_
  refine r_get (v := .inr (7, 0)) C fl_X8_36 dX8_worst_16 rfl ?_
  refine r_aload_n C dX8_worst_19 rfl rfl ?_
  refine r_get (v := .inr (6, 0)) C fl_X8_10 dX8_worst_20 rfl ?_
  refine r_get (v := .inr (3, 0)) C fl_X8_82 dX8_worst_23 rfl ?_
  refine r_iload_n C dX8_worst_26 rfl rfl ?_
  refine r_iload_n C dX8_worst_27 rfl rfl ?_
  refine r_invI (t := 7) (kb := 0) (As := [.inr (3, 0), .inl a1, .inl a2]) (st := []) C il_X8_304 co_X7_worstStride (by decide) rfl (c_X7_worstStride 0 a1 a2 m3) (by decide) (by decide) rfl rfl (Nat.le_of_ble_eq_true rfl) dX8_worst_28 (fun r6 m5 => ?_)
  refine r_goto (tgt := 35) C dX8_worst_31 (by decide) ?_
  exact r_ireturn C dX8_worst_35
theorem dX8_flipped_0 : decode cX8_flipped 0 = .ok (.aload_n 0, 1) := by decide +kernel
theorem dX8_flipped_1 : decode cX8_flipped 1 = .ok (.iload_n 1, 1) := by decide +kernel
theorem dX8_flipped_2 : decode cX8_flipped 2 = .ok (.iload_n 2, 1) := by decide +kernel
theorem dX8_flipped_3 : decode cX8_flipped 3 = .ok (.invokevirtual 186, 3) := by decide +kernel
theorem dX8_flipped_6 : decode cX8_flipped 6 = .ok (.ifCond .eq 13, 3) := by decide +kernel
theorem dX8_flipped_9 : decode cX8_flipped 9 = .ok (.iload_n 3, 1) := by decide +kernel
theorem dX8_flipped_10 : decode cX8_flipped 10 = .ok (.ifCond .lt 9, 3) := by decide +kernel
theorem dX8_flipped_13 : decode cX8_flipped 13 = .ok (.iload_n 3, 1) := by decide +kernel
theorem dX8_flipped_14 : decode cX8_flipped 14 = .ok (.bipush 10, 2) := by decide +kernel
theorem dX8_flipped_16 : decode cX8_flipped 16 = .ok (.if_icmp .lt 5, 3) := by decide +kernel
theorem dX8_flipped_19 : decode cX8_flipped 19 = .ok (.iconst (-1), 1) := by decide +kernel
theorem dX8_flipped_20 : decode cX8_flipped 20 = .ok (.ireturn, 1) := by decide +kernel
theorem dX8_flipped_21 : decode cX8_flipped 21 = .ok (.aload_n 0, 1) := by decide +kernel
theorem dX8_flipped_22 : decode cX8_flipped 22 = .ok (.getfield 36, 3) := by decide +kernel
theorem dX8_flipped_25 : decode cX8_flipped 25 = .ok (.aload_n 0, 1) := by decide +kernel
theorem dX8_flipped_26 : decode cX8_flipped 26 = .ok (.getfield 10, 3) := by decide +kernel
theorem dX8_flipped_29 : decode cX8_flipped 29 = .ok (.getfield 82, 3) := by decide +kernel
theorem dX8_flipped_32 : decode cX8_flipped 32 = .ok (.iload_n 1, 1) := by decide +kernel
theorem dX8_flipped_33 : decode cX8_flipped 33 = .ok (.iload_n 2, 1) := by decide +kernel
theorem dX8_flipped_34 : decode cX8_flipped 34 = .ok (.iload_n 3, 1) := by decide +kernel
theorem dX8_flipped_35 : decode cX8_flipped 35 = .ok (.invokevirtual 307, 3) := by decide +kernel
theorem dX8_flipped_38 : decode cX8_flipped 38 = .ok (.ireturn, 1) := by decide +kernel
def X8_flipped (a1 : Int32) (a2 : Int32) (a3 : Int32) (m : gM) : Option (Int32 × gM) :=
  gCall (X8_isMask a1 a2 m) (fun (r2 : Bool) (m1 : gM) => if r2 = true then (if a3 < 0 then (some ((-1), m1)) else (if a3 < 10 then (gCall (X7_evenIfFlipped 0 a1 a2 a3 m1) (fun (r4 : Int32) (m3 : gM) => some (r4, m3))) else (some ((-1), m1)))) else (some ((-1), m1)))
set_option maxRecDepth 100000 in
set_option maxHeartbeats 4000000 in
theorem c_X8_flipped (a1 : Int32) (a2 : Int32) (a3 : Int32) (m : gM) : gCon eI yX8_flipped cX8_flipped 4 (some .int) 5 [.inr (8, 0), .inl a1, .inl a2, .inl a3] m (X8_flipped a1 a2 a3 m) := by
  refine gCon.of (lv := [some (.inr (8, 0)), some (.inl a1), some (.inl a2), some (.inl a3)]) (by decide +kernel) (Nat.le_of_ble_eq_true rfl) rfl (fun X C => ?_)
  unfold X8_flipped
  refine r_aload_n C dX8_flipped_0 rfl rfl ?_
  refine r_iload_n C dX8_flipped_1 rfl rfl ?_
  refine r_iload_n C dX8_flipped_2 rfl rfl ?_
  refine r_invB (t := 8) (kb := 0) (As := [.inl a1, .inl a2]) (st := []) C il_X8_186 co_X8_isMask (by decide) rfl (c_X8_isMask a1 a2 m) (by decide) (by decide) rfl rfl (Nat.le_of_ble_eq_true rfl) dX8_flipped_3 (fun r2 m1 => ?_)
  refine r_ifeqB (tgt := 19) C dX8_flipped_6 (by decide) ?_ ?_
  · refine r_iconst (v := (-1)) C dX8_flipped_19 (by decide) ?_
    exact r_ireturn C dX8_flipped_20
  refine r_iload_n C dX8_flipped_9 rfl rfl ?_
  refine r_if_lt (tgt := 19) C dX8_flipped_10 (by decide) ?_ ?_
  · refine r_iconst (v := (-1)) C dX8_flipped_19 (by decide) ?_
    exact r_ireturn C dX8_flipped_20
  refine r_iload_n C dX8_flipped_13 rfl rfl ?_
  refine r_bipush (v := 10) C dX8_flipped_14 (by decide) ?_
  refine r_icmp_lt (tgt := 21) C dX8_flipped_16 (by decide) ?_ ?_
  · refine r_aload_n C dX8_flipped_21 rfl rfl ?_
    refine r_get (v := .inr (7, 0)) C fl_X8_36 dX8_flipped_22 rfl ?_
    refine r_aload_n C dX8_flipped_25 rfl rfl ?_
    refine r_get (v := .inr (6, 0)) C fl_X8_10 dX8_flipped_26 rfl ?_
    refine r_get (v := .inr (3, 0)) C fl_X8_82 dX8_flipped_29 rfl ?_
    refine r_iload_n C dX8_flipped_32 rfl rfl ?_
    refine r_iload_n C dX8_flipped_33 rfl rfl ?_
    refine r_iload_n C dX8_flipped_34 rfl rfl ?_
    refine r_invI (t := 7) (kb := 0) (As := [.inr (3, 0), .inl a1, .inl a2, .inl a3]) (st := []) C il_X8_307 co_X7_evenIfFlipped (by decide) rfl (c_X7_evenIfFlipped 0 a1 a2 a3 m1) (by decide) (by decide) rfl rfl (Nat.le_of_ble_eq_true rfl) dX8_flipped_35 (fun r4 m3 => ?_)
    exact r_ireturn C dX8_flipped_38
  refine r_iconst (v := (-1)) C dX8_flipped_19 (by decide) ?_
  exact r_ireturn C dX8_flipped_20
theorem dX8_bestFlip_0 : decode cX8_bestFlip 0 = .ok (.aload_n 0, 1) := by decide +kernel
theorem dX8_bestFlip_1 : decode cX8_bestFlip 1 = .ok (.iload_n 1, 1) := by decide +kernel
theorem dX8_bestFlip_2 : decode cX8_bestFlip 2 = .ok (.invokevirtual 160, 3) := by decide +kernel
theorem dX8_bestFlip_5 : decode cX8_bestFlip 5 = .ok (.ifCond .eq 21, 3) := by decide +kernel
theorem dX8_bestFlip_8 : decode cX8_bestFlip 8 = .ok (.aload_n 0, 1) := by decide +kernel
theorem dX8_bestFlip_9 : decode cX8_bestFlip 9 = .ok (.getfield 36, 3) := by decide +kernel
theorem dX8_bestFlip_12 : decode cX8_bestFlip 12 = .ok (.aload_n 0, 1) := by decide +kernel
theorem dX8_bestFlip_13 : decode cX8_bestFlip 13 = .ok (.getfield 10, 3) := by decide +kernel
theorem dX8_bestFlip_16 : decode cX8_bestFlip 16 = .ok (.getfield 82, 3) := by decide +kernel
theorem dX8_bestFlip_19 : decode cX8_bestFlip 19 = .ok (.iload_n 1, 1) := by decide +kernel
theorem dX8_bestFlip_20 : decode cX8_bestFlip 20 = .ok (.invokevirtual 310, 3) := by decide +kernel
theorem dX8_bestFlip_23 : decode cX8_bestFlip 23 = .ok (.goto 4, 3) := by decide +kernel
theorem dX8_bestFlip_26 : decode cX8_bestFlip 26 = .ok (.iconst (-1), 1) := by decide +kernel
theorem dX8_bestFlip_27 : decode cX8_bestFlip 27 = .ok (.ireturn, 1) := by decide +kernel
def X8_bestFlip (a1 : Int32) (m : gM) : Option (Int32 × gM) :=
  gCall (X8_isWay a1 m) (fun (r2 : Bool) (m1 : gM) => if r2 = true then (gCall (X7_bestFlipOf 0 a1 m1) (fun (r4 : Int32) (m3 : gM) => some (r4, m3))) else (some ((-1), m1)))
set_option maxRecDepth 100000 in
set_option maxHeartbeats 4000000 in
theorem c_X8_bestFlip (a1 : Int32) (m : gM) : gCon eI yX8_bestFlip cX8_bestFlip 2 (some .int) 6 [.inr (8, 0), .inl a1] m (X8_bestFlip a1 m) := by
  refine gCon.of (lv := [some (.inr (8, 0)), some (.inl a1)]) (by decide +kernel) (Nat.le_of_ble_eq_true rfl) rfl (fun X C => ?_)
  unfold X8_bestFlip
  refine r_aload_n C dX8_bestFlip_0 rfl rfl ?_
  refine r_iload_n C dX8_bestFlip_1 rfl rfl ?_
  refine r_invB (t := 8) (kb := 0) (As := [.inl a1]) (st := []) C il_X8_160 co_X8_isWay (by decide) rfl (c_X8_isWay a1 m) (by decide) (by decide) rfl rfl (Nat.le_of_ble_eq_true rfl) dX8_bestFlip_2 (fun r2 m1 => ?_)
  refine r_ifeqB (tgt := 26) C dX8_bestFlip_5 (by decide) ?_ ?_
  · refine r_iconst (v := (-1)) C dX8_bestFlip_26 (by decide) ?_
    exact r_ireturn C dX8_bestFlip_27
  refine r_aload_n C dX8_bestFlip_8 rfl rfl ?_
  refine r_get (v := .inr (7, 0)) C fl_X8_36 dX8_bestFlip_9 rfl ?_
  refine r_aload_n C dX8_bestFlip_12 rfl rfl ?_
  refine r_get (v := .inr (6, 0)) C fl_X8_10 dX8_bestFlip_13 rfl ?_
  refine r_get (v := .inr (3, 0)) C fl_X8_82 dX8_bestFlip_16 rfl ?_
  refine r_iload_n C dX8_bestFlip_19 rfl rfl ?_
  refine r_invI (t := 7) (kb := 0) (As := [.inr (3, 0), .inl a1]) (st := []) C il_X8_310 co_X7_bestFlipOf (by decide) rfl (c_X7_bestFlipOf 0 a1 m1) (by decide) (by decide) rfl rfl (Nat.le_of_ble_eq_true rfl) dX8_bestFlip_20 (fun r4 m3 => ?_)
  refine r_goto (tgt := 27) C dX8_bestFlip_23 (by decide) ?_
  exact r_ireturn C dX8_bestFlip_27
theorem dX8_sweepTrial_0 : decode cX8_sweepTrial 0 = .ok (.aload_n 0, 1) := by decide +kernel
theorem dX8_sweepTrial_1 : decode cX8_sweepTrial 1 = .ok (.getfield 22, 3) := by decide +kernel
theorem dX8_sweepTrial_4 : decode cX8_sweepTrial 4 = .ok (.aload_n 0, 1) := by decide +kernel
theorem dX8_sweepTrial_5 : decode cX8_sweepTrial 5 = .ok (.getfield 10, 3) := by decide +kernel
theorem dX8_sweepTrial_8 : decode cX8_sweepTrial 8 = .ok (.getfield 82, 3) := by decide +kernel
theorem dX8_sweepTrial_11 : decode cX8_sweepTrial 11 = .ok (.invokevirtual 316, 3) := by decide +kernel
theorem dX8_sweepTrial_14 : decode cX8_sweepTrial 14 = .ok (.aload_n 0, 1) := by decide +kernel
theorem dX8_sweepTrial_15 : decode cX8_sweepTrial 15 = .ok (.getfield 22, 3) := by decide +kernel
theorem dX8_sweepTrial_18 : decode cX8_sweepTrial 18 = .ok (.invokevirtual 167, 3) := by decide +kernel
theorem dX8_sweepTrial_21 : decode cX8_sweepTrial 21 = .ok (.pop, 1) := by decide +kernel
theorem dX8_sweepTrial_22 : decode cX8_sweepTrial 22 = .ok (.iconst 0, 1) := by decide +kernel
theorem dX8_sweepTrial_23 : decode cX8_sweepTrial 23 = .ok (.istore 4, 2) := by decide +kernel
theorem dX8_sweepTrial_25 : decode cX8_sweepTrial 25 = .ok (.iload 4, 2) := by decide +kernel
theorem dX8_sweepTrial_27 : decode cX8_sweepTrial 27 = .ok (.iload_n 3, 1) := by decide +kernel
theorem dX8_sweepTrial_28 : decode cX8_sweepTrial 28 = .ok (.if_icmp .ge 44, 3) := by decide +kernel
theorem dX8_sweepTrial_31 : decode cX8_sweepTrial 31 = .ok (.iconst 0, 1) := by decide +kernel
theorem dX8_sweepTrial_32 : decode cX8_sweepTrial 32 = .ok (.istore 5, 2) := by decide +kernel
theorem dX8_sweepTrial_34 : decode cX8_sweepTrial 34 = .ok (.iload 5, 2) := by decide +kernel
theorem dX8_sweepTrial_36 : decode cX8_sweepTrial 36 = .ok (.iload_n 2, 1) := by decide +kernel
theorem dX8_sweepTrial_37 : decode cX8_sweepTrial 37 = .ok (.if_icmp .ge 29, 3) := by decide +kernel
theorem dX8_sweepTrial_40 : decode cX8_sweepTrial 40 = .ok (.aload_n 0, 1) := by decide +kernel
theorem dX8_sweepTrial_41 : decode cX8_sweepTrial 41 = .ok (.getfield 22, 3) := by decide +kernel
theorem dX8_sweepTrial_44 : decode cX8_sweepTrial 44 = .ok (.iload 5, 2) := by decide +kernel
theorem dX8_sweepTrial_46 : decode cX8_sweepTrial 46 = .ok (.iload_n 1, 1) := by decide +kernel
theorem dX8_sweepTrial_47 : decode cX8_sweepTrial 47 = .ok (.imul, 1) := by decide +kernel
theorem dX8_sweepTrial_48 : decode cX8_sweepTrial 48 = .ok (.sipush 1024, 3) := by decide +kernel
theorem dX8_sweepTrial_51 : decode cX8_sweepTrial 51 = .ok (.irem, 1) := by decide +kernel
theorem dX8_sweepTrial_52 : decode cX8_sweepTrial 52 = .ok (.aload_n 0, 1) := by decide +kernel
theorem dX8_sweepTrial_53 : decode cX8_sweepTrial 53 = .ok (.getfield 29, 3) := by decide +kernel
theorem dX8_sweepTrial_56 : decode cX8_sweepTrial 56 = .ok (.invokevirtual 123, 3) := by decide +kernel
theorem dX8_sweepTrial_59 : decode cX8_sweepTrial 59 = .ok (.pop, 1) := by decide +kernel
theorem dX8_sweepTrial_60 : decode cX8_sweepTrial 60 = .ok (.iinc 5 1, 3) := by decide +kernel
theorem dX8_sweepTrial_63 : decode cX8_sweepTrial 63 = .ok (.goto (-29), 3) := by decide +kernel
theorem dX8_sweepTrial_66 : decode cX8_sweepTrial 66 = .ok (.iinc 4 1, 3) := by decide +kernel
theorem dX8_sweepTrial_69 : decode cX8_sweepTrial 69 = .ok (.goto (-44), 3) := by decide +kernel
theorem dX8_sweepTrial_72 : decode cX8_sweepTrial 72 = .ok (.return_, 1) := by decide +kernel
def X8_sweepTrial_b34 (a1 : Int32) (a2 : Int32) (k25 : Int32 → gM → Option (Unit × gM)) (v5 : Int32) (v7 : Int32) (m8 : gM) (k34 : Int32 → gM → Option (Unit × gM)) : Option (Unit × gM) :=
  if a2 ≤ v7 then (gLet (v5 + 1) (fun (x9 : Int32) => k25 x9 m8)) else (gCall (X3_come 42 (gRem (v7 * a1) 1024) m8) (fun (r11 : Int32) (m10 : gM) => gLet (v7 + 1) (fun (x12 : Int32) => k34 x12 m10)))
def X8_sweepTrial_b25 (a1 : Int32) (a2 : Int32) (a3 : Int32) (v5 : Int32) (m6 : gM) (k25 : Int32 → gM → Option (Unit × gM)) : Option (Unit × gM) :=
  if a3 ≤ v5 then (some ((), m6)) else (gL1 FU (X8_sweepTrial_b34 a1 a2 k25 v5) 0 m6)
def X8_sweepTrial (a1 : Int32) (a2 : Int32) (a3 : Int32) (m : gM) : Option (Unit × gM) :=
  gCall (X3_takeStore 42 0 m) (fun (r2 : Unit) (m1 : gM) => gCall (X3_emptyAll 42 m1) (fun (r4 : Int32) (m3 : gM) => gL1 FU (X8_sweepTrial_b25 a1 a2 a3) 0 m3))
set_option maxRecDepth 100000 in
set_option maxHeartbeats 4000000 in
theorem c_X8_sweepTrial (a1 : Int32) (a2 : Int32) (a3 : Int32) (m : gM) : gCon eU yX8_sweepTrial cX8_sweepTrial 6 none 5 [.inr (8, 0), .inl a1, .inl a2, .inl a3] m (X8_sweepTrial a1 a2 a3 m) := by
  refine gCon.of (lv := [some (.inr (8, 0)), some (.inl a1), some (.inl a2), some (.inl a3), none, none]) (by decide +kernel) (Nat.le_of_ble_eq_true rfl) rfl (fun X C => ?_)
  unfold X8_sweepTrial
  refine r_aload_n C dX8_sweepTrial_0 rfl rfl ?_
  refine r_get (v := .inr (3, 42)) C fl_X8_22 dX8_sweepTrial_1 rfl ?_
  refine r_aload_n C dX8_sweepTrial_4 rfl rfl ?_
  refine r_get (v := .inr (6, 0)) C fl_X8_10 dX8_sweepTrial_5 rfl ?_
  refine r_get (v := .inr (3, 0)) C fl_X8_82 dX8_sweepTrial_8 rfl ?_
  refine r_invU (t := 3) (kb := 42) (As := [.inr (3, 0)]) (st := []) C il_X8_316 co_X3_takeStore (by decide) rfl (c_X3_takeStore 42 0 m) (by decide) (by decide) rfl rfl (Nat.le_of_ble_eq_true rfl) dX8_sweepTrial_11 (fun r2 m1 => ?_)
  refine r_aload_n C dX8_sweepTrial_14 rfl rfl ?_
  refine r_get (v := .inr (3, 42)) C fl_X8_22 dX8_sweepTrial_15 rfl ?_
  refine r_invI (t := 3) (kb := 42) (As := []) (st := []) C il_X8_167 co_X3_emptyAll (by decide) rfl (c_X3_emptyAll 42 m1) (by decide) (by decide) rfl rfl (Nat.le_of_ble_eq_true rfl) dX8_sweepTrial_18 (fun r4 m3 => ?_)
  refine r_pop C dX8_sweepTrial_21 ?_
  refine r_iconst (v := 0) C dX8_sweepTrial_22 (by decide) ?_
  refine r_istore (lv' := [some (.inr (8, 0)), some (.inl a1), some (.inl a2), some (.inl a3), some (.inl 0), none]) C dX8_sweepTrial_23 (by decide) rfl ?_
  refine r_weak (lv' := [some (.inr (8, 0)), some (.inl a1), some (.inl a2), some (.inl a3), some (.inl 0), none]) ⟨rfl, rfl, rfl, rfl, rfl, trivial⟩ ?_
  refine r_l1 (pj := 25) (fun v5 => [some (.inr (8, 0)), some (.inl a1), some (.inl a2), some (.inl a3), some (.inl v5), none]) (fun v5 m6 k25 hk25 => ?_) _ _ _
  unfold X8_sweepTrial_b25
  refine r_iload C dX8_sweepTrial_25 rfl ?_
  refine r_iload_n C dX8_sweepTrial_27 rfl rfl ?_
  refine r_icmp_ge (tgt := 72) C dX8_sweepTrial_28 (by decide) ?_ ?_
  · exact r_return C dX8_sweepTrial_72
  refine r_iconst (v := 0) C dX8_sweepTrial_31 (by decide) ?_
  refine r_istore (lv' := [some (.inr (8, 0)), some (.inl a1), some (.inl a2), some (.inl a3), some (.inl v5), some (.inl 0)]) C dX8_sweepTrial_32 (by decide) rfl ?_
  refine r_weak (lv' := [some (.inr (8, 0)), some (.inl a1), some (.inl a2), some (.inl a3), some (.inl v5), some (.inl 0)]) ⟨rfl, rfl, rfl, rfl, rfl, rfl, trivial⟩ ?_
  refine r_l1 (pj := 34) (fun v7 => [some (.inr (8, 0)), some (.inl a1), some (.inl a2), some (.inl a3), some (.inl v5), some (.inl v7)]) (fun v7 m8 k34 hk34 => ?_) _ _ _
  unfold X8_sweepTrial_b34
  refine r_iload C dX8_sweepTrial_34 rfl ?_
  refine r_iload_n C dX8_sweepTrial_36 rfl rfl ?_
  refine r_icmp_ge (tgt := 66) C dX8_sweepTrial_37 (by decide) ?_ ?_
  · refine r_iinc (v := 1) C dX8_sweepTrial_66 (by decide) rfl (by decide) (fun x9 => ?_)
    show gw X eU _ [some (.inr (8, 0)), some (.inl a1), some (.inl a2), some (.inl a3), some (.inl x9), some (.inl v7)] _ _ _
    refine r_goto (tgt := 25) C dX8_sweepTrial_69 (by decide) ?_
    exact r_weak (lv' := [some (.inr (8, 0)), some (.inl a1), some (.inl a2), some (.inl a3), some (.inl x9), none]) ⟨rfl, rfl, rfl, rfl, rfl, trivial⟩ (hk25 _ _)
  refine r_aload_n C dX8_sweepTrial_40 rfl rfl ?_
  refine r_get (v := .inr (3, 42)) C fl_X8_22 dX8_sweepTrial_41 rfl ?_
  refine r_iload C dX8_sweepTrial_44 rfl ?_
  refine r_iload_n C dX8_sweepTrial_46 rfl rfl ?_
  refine r_imul C dX8_sweepTrial_47 ?_
  refine r_sipush (v := 1024) C dX8_sweepTrial_48 (by decide) ?_
  refine r_irem C dX8_sweepTrial_51 (by decide) ?_
  refine r_aload_n C dX8_sweepTrial_52 rfl rfl ?_
  refine r_get (v := .inr (1, 0)) C fl_X8_29 dX8_sweepTrial_53 rfl ?_
  refine r_invI (t := 3) (kb := 42) (As := [.inl (gRem (v7 * a1) 1024), .inr (1, 0)]) (st := []) C il_X8_123 co_X3_come (by decide) rfl (c_X3_come 42 (gRem (v7 * a1) 1024) m8) (by decide) (by decide) rfl rfl (Nat.le_of_ble_eq_true rfl) dX8_sweepTrial_56 (fun r11 m10 => ?_)
  refine r_pop C dX8_sweepTrial_59 ?_
  refine r_iinc (v := 1) C dX8_sweepTrial_60 (by decide) rfl (by decide) (fun x12 => ?_)
  show gw X eU _ [some (.inr (8, 0)), some (.inl a1), some (.inl a2), some (.inl a3), some (.inl v5), some (.inl x12)] _ _ _
  refine r_goto (tgt := 34) C dX8_sweepTrial_63 (by decide) ?_
  exact r_weak (lv' := [some (.inr (8, 0)), some (.inl a1), some (.inl a2), some (.inl a3), some (.inl v5), some (.inl x12)]) ⟨rfl, rfl, rfl, rfl, rfl, rfl, trivial⟩ (hk34 _ _)
theorem dX8_sweep_0 : decode cX8_sweep 0 = .ok (.iload_n 1, 1) := by decide +kernel
theorem dX8_sweep_1 : decode cX8_sweep 1 = .ok (.invokestatic 276, 3) := by decide +kernel
theorem dX8_sweep_4 : decode cX8_sweep 4 = .ok (.ifCond .eq 21, 3) := by decide +kernel
theorem dX8_sweep_7 : decode cX8_sweep 7 = .ok (.iload_n 2, 1) := by decide +kernel
theorem dX8_sweep_8 : decode cX8_sweep 8 = .ok (.invokestatic 279, 3) := by decide +kernel
theorem dX8_sweep_11 : decode cX8_sweep 11 = .ok (.ifCond .eq 14, 3) := by decide +kernel
theorem dX8_sweep_14 : decode cX8_sweep 14 = .ok (.iload_n 3, 1) := by decide +kernel
theorem dX8_sweep_15 : decode cX8_sweep 15 = .ok (.iconst 1, 1) := by decide +kernel
theorem dX8_sweep_16 : decode cX8_sweep 16 = .ok (.if_icmp .lt 9, 3) := by decide +kernel
theorem dX8_sweep_19 : decode cX8_sweep 19 = .ok (.iload_n 3, 1) := by decide +kernel
theorem dX8_sweep_20 : decode cX8_sweep 20 = .ok (.bipush 9, 2) := by decide +kernel
theorem dX8_sweep_22 : decode cX8_sweep 22 = .ok (.if_icmp .le 5, 3) := by decide +kernel
theorem dX8_sweep_25 : decode cX8_sweep 25 = .ok (.iconst (-1), 1) := by decide +kernel
theorem dX8_sweep_26 : decode cX8_sweep 26 = .ok (.ireturn, 1) := by decide +kernel
theorem dX8_sweep_27 : decode cX8_sweep 27 = .ok (.aload_n 0, 1) := by decide +kernel
theorem dX8_sweep_28 : decode cX8_sweep 28 = .ok (.iload_n 1, 1) := by decide +kernel
theorem dX8_sweep_29 : decode cX8_sweep 29 = .ok (.iload_n 2, 1) := by decide +kernel
theorem dX8_sweep_30 : decode cX8_sweep 30 = .ok (.iload_n 3, 1) := by decide +kernel
theorem dX8_sweep_31 : decode cX8_sweep 31 = .ok (.invokevirtual 313, 3) := by decide +kernel
theorem dX8_sweep_34 : decode cX8_sweep 34 = .ok (.aload_n 0, 1) := by decide +kernel
theorem dX8_sweep_35 : decode cX8_sweep 35 = .ok (.getfield 22, 3) := by decide +kernel
theorem dX8_sweep_38 : decode cX8_sweep 38 = .ok (.getfield 235, 3) := by decide +kernel
theorem dX8_sweep_41 : decode cX8_sweep 41 = .ok (.iconst 1, 1) := by decide +kernel
theorem dX8_sweep_42 : decode cX8_sweep 42 = .ok (.iaload, 1) := by decide +kernel
theorem dX8_sweep_43 : decode cX8_sweep 43 = .ok (.aload_n 0, 1) := by decide +kernel
theorem dX8_sweep_44 : decode cX8_sweep 44 = .ok (.getfield 10, 3) := by decide +kernel
theorem dX8_sweep_47 : decode cX8_sweep 47 = .ok (.getfield 82, 3) := by decide +kernel
theorem dX8_sweep_50 : decode cX8_sweep 50 = .ok (.getfield 235, 3) := by decide +kernel
theorem dX8_sweep_53 : decode cX8_sweep 53 = .ok (.iconst 1, 1) := by decide +kernel
theorem dX8_sweep_54 : decode cX8_sweep 54 = .ok (.iaload, 1) := by decide +kernel
theorem dX8_sweep_55 : decode cX8_sweep 55 = .ok (.isub, 1) := by decide +kernel
theorem dX8_sweep_56 : decode cX8_sweep 56 = .ok (.ireturn, 1) := by decide +kernel
def X8_sweep (a1 : Int32) (a2 : Int32) (a3 : Int32) (m : gM) : Option (Int32 × gM) :=
  gCall (X8_isStride a1 m) (fun (r2 : Bool) (m1 : gM) => if r2 = true then (gCall (X8_isSwept a2 m1) (fun (r4 : Bool) (m3 : gM) => if r4 = true then (if a3 < 1 then (some ((-1), m3)) else (if a3 ≤ 9 then (gCall (X8_sweepTrial a1 a2 a3 m3) (fun (r6 : Unit) (m5 : gM) => gAt m5 26 42 1 (fun (x7 : Int32) => gAt m5 26 0 1 (fun (x8 : Int32) => some (x7 - x8, m5))))) else (some ((-1), m3)))) else (some ((-1), m3)))) else (some ((-1), m1)))
set_option maxRecDepth 100000 in
set_option maxHeartbeats 4000000 in
theorem c_X8_sweep (a1 : Int32) (a2 : Int32) (a3 : Int32) (m : gM) : gCon eI yX8_sweep cX8_sweep 4 (some .int) 6 [.inr (8, 0), .inl a1, .inl a2, .inl a3] m (X8_sweep a1 a2 a3 m) := by
  refine gCon.of (lv := [some (.inr (8, 0)), some (.inl a1), some (.inl a2), some (.inl a3)]) (by decide +kernel) (Nat.le_of_ble_eq_true rfl) rfl (fun X C => ?_)
  unfold X8_sweep
  refine r_iload_n C dX8_sweep_0 rfl rfl ?_
  refine r_insB (As := [.inl a1]) (st := []) C il_X8_276 co_X8_isStride (c_X8_isStride a1 m) (by decide) (by decide) rfl rfl (Nat.le_of_ble_eq_true rfl) dX8_sweep_1 (fun r2 m1 => ?_)
  refine r_ifeqB (tgt := 25) C dX8_sweep_4 (by decide) ?_ ?_
  · refine r_iconst (v := (-1)) C dX8_sweep_25 (by decide) ?_
    exact r_ireturn C dX8_sweep_26
  refine r_iload_n C dX8_sweep_7 rfl rfl ?_
  refine r_insB (As := [.inl a2]) (st := []) C il_X8_279 co_X8_isSwept (c_X8_isSwept a2 m1) (by decide) (by decide) rfl rfl (Nat.le_of_ble_eq_true rfl) dX8_sweep_8 (fun r4 m3 => ?_)
  refine r_ifeqB (tgt := 25) C dX8_sweep_11 (by decide) ?_ ?_
  · refine r_iconst (v := (-1)) C dX8_sweep_25 (by decide) ?_
    exact r_ireturn C dX8_sweep_26
  refine r_iload_n C dX8_sweep_14 rfl rfl ?_
  refine r_iconst (v := 1) C dX8_sweep_15 (by decide) ?_
  refine r_icmp_lt (tgt := 25) C dX8_sweep_16 (by decide) ?_ ?_
  · refine r_iconst (v := (-1)) C dX8_sweep_25 (by decide) ?_
    exact r_ireturn C dX8_sweep_26
  refine r_iload_n C dX8_sweep_19 rfl rfl ?_
  refine r_bipush (v := 9) C dX8_sweep_20 (by decide) ?_
  refine r_icmp_le (tgt := 27) C dX8_sweep_22 (by decide) ?_ ?_
  · refine r_aload_n C dX8_sweep_27 rfl rfl ?_
    refine r_iload_n C dX8_sweep_28 rfl rfl ?_
    refine r_iload_n C dX8_sweep_29 rfl rfl ?_
    refine r_iload_n C dX8_sweep_30 rfl rfl ?_
    refine r_invU (t := 8) (kb := 0) (As := [.inl a1, .inl a2, .inl a3]) (st := []) C il_X8_313 co_X8_sweepTrial (by decide) rfl (c_X8_sweepTrial a1 a2 a3 m3) (by decide) (by decide) rfl rfl (Nat.le_of_ble_eq_true rfl) dX8_sweep_31 (fun r6 m5 => ?_)
    refine r_aload_n C dX8_sweep_34 rfl rfl ?_
    refine r_get (v := .inr (3, 42)) C fl_X8_22 dX8_sweep_35 rfl ?_
    refine r_get (v := .inr (26, 42)) C fl_X8_235 dX8_sweep_38 rfl ?_
    refine r_iconst (v := 1) C dX8_sweep_41 (by decide) ?_
    refine r_iald C rfl dX8_sweep_42 (fun x7 => ?_)
    refine r_aload_n C dX8_sweep_43 rfl rfl ?_
    refine r_get (v := .inr (6, 0)) C fl_X8_10 dX8_sweep_44 rfl ?_
    refine r_get (v := .inr (3, 0)) C fl_X8_82 dX8_sweep_47 rfl ?_
    refine r_get (v := .inr (26, 0)) C fl_X8_235 dX8_sweep_50 rfl ?_
    refine r_iconst (v := 1) C dX8_sweep_53 (by decide) ?_
    refine r_iald C rfl dX8_sweep_54 (fun x8 => ?_)
    refine r_isub C dX8_sweep_55 ?_
    exact r_ireturn C dX8_sweep_56
  refine r_iconst (v := (-1)) C dX8_sweep_25 (by decide) ?_
  exact r_ireturn C dX8_sweep_26
theorem dX8_holds_0 : decode cX8_holds 0 = .ok (.iload_n 1, 1) := by decide +kernel
theorem dX8_holds_1 : decode cX8_holds 1 = .ok (.invokestatic 276, 3) := by decide +kernel
theorem dX8_holds_4 : decode cX8_holds 4 = .ok (.ifCond .eq 10, 3) := by decide +kernel
theorem dX8_holds_7 : decode cX8_holds 7 = .ok (.iload_n 2, 1) := by decide +kernel
theorem dX8_holds_8 : decode cX8_holds 8 = .ok (.invokestatic 279, 3) := by decide +kernel
theorem dX8_holds_11 : decode cX8_holds 11 = .ok (.ifCond .ne 5, 3) := by decide +kernel
theorem dX8_holds_14 : decode cX8_holds 14 = .ok (.iconst (-1), 1) := by decide +kernel
theorem dX8_holds_15 : decode cX8_holds 15 = .ok (.ireturn, 1) := by decide +kernel
theorem dX8_holds_16 : decode cX8_holds 16 = .ok (.aload_n 0, 1) := by decide +kernel
theorem dX8_holds_17 : decode cX8_holds 17 = .ok (.iload_n 1, 1) := by decide +kernel
theorem dX8_holds_18 : decode cX8_holds 18 = .ok (.iload_n 2, 1) := by decide +kernel
theorem dX8_holds_19 : decode cX8_holds 19 = .ok (.iconst 1, 1) := by decide +kernel
theorem dX8_holds_20 : decode cX8_holds 20 = .ok (.invokevirtual 313, 3) := by decide +kernel
theorem dX8_holds_23 : decode cX8_holds 23 = .ok (.aload_n 0, 1) := by decide +kernel
theorem dX8_holds_24 : decode cX8_holds 24 = .ok (.getfield 22, 3) := by decide +kernel
theorem dX8_holds_27 : decode cX8_holds 27 = .ok (.invokevirtual 238, 3) := by decide +kernel
theorem dX8_holds_30 : decode cX8_holds 30 = .ok (.ireturn, 1) := by decide +kernel
def X8_holds (a1 : Int32) (a2 : Int32) (m : gM) : Option (Int32 × gM) :=
  gCall (X8_isStride a1 m) (fun (r2 : Bool) (m1 : gM) => if r2 = true then (gCall (X8_isSwept a2 m1) (fun (r4 : Bool) (m3 : gM) => if r4 = true then (gCall (X8_sweepTrial a1 a2 1 m3) (fun (r6 : Unit) (m5 : gM) => gCall (X3_linesHeld 42 m5) (fun (r8 : Int32) (m7 : gM) => some (r8, m7)))) else (some ((-1), m3)))) else (some ((-1), m1)))
set_option maxRecDepth 100000 in
set_option maxHeartbeats 4000000 in
theorem c_X8_holds (a1 : Int32) (a2 : Int32) (m : gM) : gCon eI yX8_holds cX8_holds 3 (some .int) 6 [.inr (8, 0), .inl a1, .inl a2] m (X8_holds a1 a2 m) := by
  refine gCon.of (lv := [some (.inr (8, 0)), some (.inl a1), some (.inl a2)]) (by decide +kernel) (Nat.le_of_ble_eq_true rfl) rfl (fun X C => ?_)
  unfold X8_holds
  refine r_iload_n C dX8_holds_0 rfl rfl ?_
  refine r_insB (As := [.inl a1]) (st := []) C il_X8_276 co_X8_isStride (c_X8_isStride a1 m) (by decide) (by decide) rfl rfl (Nat.le_of_ble_eq_true rfl) dX8_holds_1 (fun r2 m1 => ?_)
  refine r_ifeqB (tgt := 14) C dX8_holds_4 (by decide) ?_ ?_
  · refine r_iconst (v := (-1)) C dX8_holds_14 (by decide) ?_
    exact r_ireturn C dX8_holds_15
  refine r_iload_n C dX8_holds_7 rfl rfl ?_
  refine r_insB (As := [.inl a2]) (st := []) C il_X8_279 co_X8_isSwept (c_X8_isSwept a2 m1) (by decide) (by decide) rfl rfl (Nat.le_of_ble_eq_true rfl) dX8_holds_8 (fun r4 m3 => ?_)
  refine r_ifneB (tgt := 16) C dX8_holds_11 (by decide) ?_ ?_
  · refine r_aload_n C dX8_holds_16 rfl rfl ?_
    refine r_iload_n C dX8_holds_17 rfl rfl ?_
    refine r_iload_n C dX8_holds_18 rfl rfl ?_
    refine r_iconst (v := 1) C dX8_holds_19 (by decide) ?_
    refine r_invU (t := 8) (kb := 0) (As := [.inl a1, .inl a2, .inl 1]) (st := []) C il_X8_313 co_X8_sweepTrial (by decide) rfl (c_X8_sweepTrial a1 a2 1 m3) (by decide) (by decide) rfl rfl (Nat.le_of_ble_eq_true rfl) dX8_holds_20 (fun r6 m5 => ?_)
    refine r_aload_n C dX8_holds_23 rfl rfl ?_
    refine r_get (v := .inr (3, 42)) C fl_X8_22 dX8_holds_24 rfl ?_
    refine r_invI (t := 3) (kb := 42) (As := []) (st := []) C il_X8_238 co_X3_linesHeld (by decide) rfl (c_X3_linesHeld 42 m5) (by decide) (by decide) rfl rfl (Nat.le_of_ble_eq_true rfl) dX8_holds_27 (fun r8 m7 => ?_)
    exact r_ireturn C dX8_holds_30
  refine r_iconst (v := (-1)) C dX8_holds_14 (by decide) ?_
  exact r_ireturn C dX8_holds_15
theorem dX8_pairs_0 : decode cX8_pairs 0 = .ok (.iload_n 1, 1) := by decide +kernel
theorem dX8_pairs_1 : decode cX8_pairs 1 = .ok (.invokestatic 279, 3) := by decide +kernel
theorem dX8_pairs_4 : decode cX8_pairs 4 = .ok (.ifCond .ne 5, 3) := by decide +kernel
theorem dX8_pairs_7 : decode cX8_pairs 7 = .ok (.iconst (-1), 1) := by decide +kernel
theorem dX8_pairs_8 : decode cX8_pairs 8 = .ok (.ireturn, 1) := by decide +kernel
theorem dX8_pairs_9 : decode cX8_pairs 9 = .ok (.iconst 0, 1) := by decide +kernel
theorem dX8_pairs_10 : decode cX8_pairs 10 = .ok (.istore_n 2, 1) := by decide +kernel
theorem dX8_pairs_11 : decode cX8_pairs 11 = .ok (.iconst 0, 1) := by decide +kernel
theorem dX8_pairs_12 : decode cX8_pairs 12 = .ok (.istore_n 3, 1) := by decide +kernel
theorem dX8_pairs_13 : decode cX8_pairs 13 = .ok (.iload_n 3, 1) := by decide +kernel
theorem dX8_pairs_14 : decode cX8_pairs 14 = .ok (.iload_n 1, 1) := by decide +kernel
theorem dX8_pairs_15 : decode cX8_pairs 15 = .ok (.if_icmp .ge 45, 3) := by decide +kernel
theorem dX8_pairs_18 : decode cX8_pairs 18 = .ok (.iload_n 3, 1) := by decide +kernel
theorem dX8_pairs_19 : decode cX8_pairs 19 = .ok (.iconst 1, 1) := by decide +kernel
theorem dX8_pairs_20 : decode cX8_pairs 20 = .ok (.iadd, 1) := by decide +kernel
theorem dX8_pairs_21 : decode cX8_pairs 21 = .ok (.istore 4, 2) := by decide +kernel
theorem dX8_pairs_23 : decode cX8_pairs 23 = .ok (.iload 4, 2) := by decide +kernel
theorem dX8_pairs_25 : decode cX8_pairs 25 = .ok (.iload_n 1, 1) := by decide +kernel
theorem dX8_pairs_26 : decode cX8_pairs 26 = .ok (.if_icmp .ge 28, 3) := by decide +kernel
theorem dX8_pairs_29 : decode cX8_pairs 29 = .ok (.aload_n 0, 1) := by decide +kernel
theorem dX8_pairs_30 : decode cX8_pairs 30 = .ok (.getfield 10, 3) := by decide +kernel
theorem dX8_pairs_33 : decode cX8_pairs 33 = .ok (.getfield 82, 3) := by decide +kernel
theorem dX8_pairs_36 : decode cX8_pairs 36 = .ok (.iload_n 3, 1) := by decide +kernel
theorem dX8_pairs_37 : decode cX8_pairs 37 = .ok (.iload 4, 2) := by decide +kernel
theorem dX8_pairs_39 : decode cX8_pairs 39 = .ok (.invokevirtual 270, 3) := by decide +kernel
theorem dX8_pairs_42 : decode cX8_pairs 42 = .ok (.ifCond .eq 6, 3) := by decide +kernel
theorem dX8_pairs_45 : decode cX8_pairs 45 = .ok (.iinc 2 1, 3) := by decide +kernel
theorem dX8_pairs_48 : decode cX8_pairs 48 = .ok (.iinc 4 1, 3) := by decide +kernel
theorem dX8_pairs_51 : decode cX8_pairs 51 = .ok (.goto (-28), 3) := by decide +kernel
theorem dX8_pairs_54 : decode cX8_pairs 54 = .ok (.iinc 3 1, 3) := by decide +kernel
theorem dX8_pairs_57 : decode cX8_pairs 57 = .ok (.goto (-44), 3) := by decide +kernel
theorem dX8_pairs_60 : decode cX8_pairs 60 = .ok (.iload_n 2, 1) := by decide +kernel
theorem dX8_pairs_61 : decode cX8_pairs 61 = .ok (.ireturn, 1) := by decide +kernel
def X8_pairs_b23 (a1 : Int32) (k13 : Int32 → Int32 → gM → Option (Int32 × gM)) (v4 : Int32) (v7 v8 : Int32) (m9 : gM) (k23 : Int32 → Int32 → gM → Option (Int32 × gM)) : Option (Int32 × gM) :=
  if a1 ≤ v8 then (gLet (v4 + 1) (fun (x10 : Int32) => k13 v7 x10 m9)) else (gCall (X3_areTwins 0 v4 v8 m9) (fun (r12 : Bool) (m11 : gM) => if r12 = true then (gLet (v7 + 1) (fun (x14 : Int32) => gLet (v8 + 1) (fun (x15 : Int32) => k23 x14 x15 m11))) else (gLet (v8 + 1) (fun (x13 : Int32) => k23 v7 x13 m11))))
def X8_pairs_b13 (a1 : Int32) (v3 v4 : Int32) (m5 : gM) (k13 : Int32 → Int32 → gM → Option (Int32 × gM)) : Option (Int32 × gM) :=
  if a1 ≤ v4 then (some (v3, m5)) else (gLet (v4 + 1) (fun (x6 : Int32) => gL2 FU (X8_pairs_b23 a1 k13 v4) v3 x6 m5))
def X8_pairs (a1 : Int32) (m : gM) : Option (Int32 × gM) :=
  gCall (X8_isSwept a1 m) (fun (r2 : Bool) (m1 : gM) => if r2 = true then (gL2 FU (X8_pairs_b13 a1) 0 0 m1) else (some ((-1), m1)))
set_option maxRecDepth 100000 in
set_option maxHeartbeats 4000000 in
theorem c_X8_pairs (a1 : Int32) (m : gM) : gCon eI yX8_pairs cX8_pairs 5 (some .int) 3 [.inr (8, 0), .inl a1] m (X8_pairs a1 m) := by
  refine gCon.of (lv := [some (.inr (8, 0)), some (.inl a1), none, none, none]) (by decide +kernel) (Nat.le_of_ble_eq_true rfl) rfl (fun X C => ?_)
  unfold X8_pairs
  refine r_iload_n C dX8_pairs_0 rfl rfl ?_
  refine r_insB (As := [.inl a1]) (st := []) C il_X8_279 co_X8_isSwept (c_X8_isSwept a1 m) (by decide) (by decide) rfl rfl (Nat.le_of_ble_eq_true rfl) dX8_pairs_1 (fun r2 m1 => ?_)
  refine r_ifneB (tgt := 9) C dX8_pairs_4 (by decide) ?_ ?_
  · refine r_iconst (v := 0) C dX8_pairs_9 (by decide) ?_
    refine r_istore_n (lv' := [some (.inr (8, 0)), some (.inl a1), some (.inl 0), none, none]) C dX8_pairs_10 rfl (by decide) rfl ?_
    refine r_iconst (v := 0) C dX8_pairs_11 (by decide) ?_
    refine r_istore_n (lv' := [some (.inr (8, 0)), some (.inl a1), some (.inl 0), some (.inl 0), none]) C dX8_pairs_12 rfl (by decide) rfl ?_
    refine r_weak (lv' := [some (.inr (8, 0)), some (.inl a1), some (.inl 0), some (.inl 0), none]) ⟨rfl, rfl, rfl, rfl, trivial⟩ ?_
    refine r_l2 (pj := 13) (fun v3 v4 => [some (.inr (8, 0)), some (.inl a1), some (.inl v3), some (.inl v4), none]) (fun v3 v4 m5 k13 hk13 => ?_) _ _ _ _
    unfold X8_pairs_b13
    refine r_iload_n C dX8_pairs_13 rfl rfl ?_
    refine r_iload_n C dX8_pairs_14 rfl rfl ?_
    refine r_icmp_ge (tgt := 60) C dX8_pairs_15 (by decide) ?_ ?_
    · refine r_iload_n C dX8_pairs_60 rfl rfl ?_
      exact r_ireturn C dX8_pairs_61
    refine r_iload_n C dX8_pairs_18 rfl rfl ?_
    refine r_iconst (v := 1) C dX8_pairs_19 (by decide) ?_
    refine r_iadd C dX8_pairs_20 ?_
    refine r_let (fun x6 => ?_)
    refine r_istore (lv' := [some (.inr (8, 0)), some (.inl a1), some (.inl v3), some (.inl v4), some (.inl x6)]) C dX8_pairs_21 (by decide) rfl ?_
    refine r_weak (lv' := [some (.inr (8, 0)), some (.inl a1), some (.inl v3), some (.inl v4), some (.inl x6)]) ⟨rfl, rfl, rfl, rfl, rfl, trivial⟩ ?_
    refine r_l2 (pj := 23) (fun v7 v8 => [some (.inr (8, 0)), some (.inl a1), some (.inl v7), some (.inl v4), some (.inl v8)]) (fun v7 v8 m9 k23 hk23 => ?_) _ _ _ _
    unfold X8_pairs_b23
    refine r_iload C dX8_pairs_23 rfl ?_
    refine r_iload_n C dX8_pairs_25 rfl rfl ?_
    refine r_icmp_ge (tgt := 54) C dX8_pairs_26 (by decide) ?_ ?_
    · refine r_iinc (v := 1) C dX8_pairs_54 (by decide) rfl (by decide) (fun x10 => ?_)
      show gw X eI _ [some (.inr (8, 0)), some (.inl a1), some (.inl v7), some (.inl x10), some (.inl v8)] _ _ _
      refine r_goto (tgt := 13) C dX8_pairs_57 (by decide) ?_
      exact r_weak (lv' := [some (.inr (8, 0)), some (.inl a1), some (.inl v7), some (.inl x10), none]) ⟨rfl, rfl, rfl, rfl, trivial⟩ (hk13 _ _ _)
    refine r_aload_n C dX8_pairs_29 rfl rfl ?_
    refine r_get (v := .inr (6, 0)) C fl_X8_10 dX8_pairs_30 rfl ?_
    refine r_get (v := .inr (3, 0)) C fl_X8_82 dX8_pairs_33 rfl ?_
    refine r_iload_n C dX8_pairs_36 rfl rfl ?_
    refine r_iload C dX8_pairs_37 rfl ?_
    refine r_invB (t := 3) (kb := 0) (As := [.inl v4, .inl v8]) (st := []) C il_X8_270 co_X3_areTwins (by decide) rfl (c_X3_areTwins 0 v4 v8 m9) (by decide) (by decide) rfl rfl (Nat.le_of_ble_eq_true rfl) dX8_pairs_39 (fun r12 m11 => ?_)
    refine r_ifeqB (tgt := 48) C dX8_pairs_42 (by decide) ?_ ?_
    · refine r_iinc (v := 1) C dX8_pairs_48 (by decide) rfl (by decide) (fun x13 => ?_)
      show gw X eI _ [some (.inr (8, 0)), some (.inl a1), some (.inl v7), some (.inl v4), some (.inl x13)] _ _ _
      refine r_goto (tgt := 23) C dX8_pairs_51 (by decide) ?_
      exact r_weak (lv' := [some (.inr (8, 0)), some (.inl a1), some (.inl v7), some (.inl v4), some (.inl x13)]) ⟨rfl, rfl, rfl, rfl, rfl, trivial⟩ (hk23 _ _ _)
    refine r_iinc (v := 1) C dX8_pairs_45 (by decide) rfl (by decide) (fun x14 => ?_)
    show gw X eI _ [some (.inr (8, 0)), some (.inl a1), some (.inl x14), some (.inl v4), some (.inl v8)] _ _ _
    refine r_iinc (v := 1) C dX8_pairs_48 (by decide) rfl (by decide) (fun x15 => ?_)
    show gw X eI _ [some (.inr (8, 0)), some (.inl a1), some (.inl x14), some (.inl v4), some (.inl x15)] _ _ _
    refine r_goto (tgt := 23) C dX8_pairs_51 (by decide) ?_
    exact r_weak (lv' := [some (.inr (8, 0)), some (.inl a1), some (.inl x14), some (.inl v4), some (.inl x15)]) ⟨rfl, rfl, rfl, rfl, rfl, trivial⟩ (hk23 _ _ _)
  refine r_iconst (v := (-1)) C dX8_pairs_7 (by decide) ?_
  exact r_ireturn C dX8_pairs_8
theorem dX8_shares_0 : decode cX8_shares 0 = .ok (.iload_n 1, 1) := by decide +kernel
theorem dX8_shares_1 : decode cX8_shares 1 = .ok (.ifCond .lt 17, 3) := by decide +kernel
theorem dX8_shares_4 : decode cX8_shares 4 = .ok (.iload_n 1, 1) := by decide +kernel
theorem dX8_shares_5 : decode cX8_shares 5 = .ok (.aload_n 0, 1) := by decide +kernel
theorem dX8_shares_6 : decode cX8_shares 6 = .ok (.getfield 10, 3) := by decide +kernel
theorem dX8_shares_9 : decode cX8_shares 9 = .ok (.getfield 82, 3) := by decide +kernel
theorem dX8_shares_12 : decode cX8_shares 12 = .ok (.getfield 170, 3) := by decide +kernel
theorem dX8_shares_15 : decode cX8_shares 15 = .ok (.if_icmp .le 5, 3) := by decide +kernel
theorem dX8_shares_18 : decode cX8_shares 18 = .ok (.iconst (-1), 1) := by decide +kernel
theorem dX8_shares_19 : decode cX8_shares 19 = .ok (.ireturn, 1) := by decide +kernel
theorem dX8_shares_20 : decode cX8_shares 20 = .ok (.iconst 0, 1) := by decide +kernel
theorem dX8_shares_21 : decode cX8_shares 21 = .ok (.istore_n 2, 1) := by decide +kernel
theorem dX8_shares_22 : decode cX8_shares 22 = .ok (.iconst 0, 1) := by decide +kernel
theorem dX8_shares_23 : decode cX8_shares 23 = .ok (.istore_n 3, 1) := by decide +kernel
theorem dX8_shares_24 : decode cX8_shares 24 = .ok (.iload_n 3, 1) := by decide +kernel
theorem dX8_shares_25 : decode cX8_shares 25 = .ok (.aload_n 0, 1) := by decide +kernel
theorem dX8_shares_26 : decode cX8_shares 26 = .ok (.getfield 10, 3) := by decide +kernel
theorem dX8_shares_29 : decode cX8_shares 29 = .ok (.getfield 223, 3) := by decide +kernel
theorem dX8_shares_32 : decode cX8_shares 32 = .ok (.if_icmp .ge 68, 3) := by decide +kernel
theorem dX8_shares_35 : decode cX8_shares 35 = .ok (.iload_n 3, 1) := by decide +kernel
theorem dX8_shares_36 : decode cX8_shares 36 = .ok (.iconst 1, 1) := by decide +kernel
theorem dX8_shares_37 : decode cX8_shares 37 = .ok (.iadd, 1) := by decide +kernel
theorem dX8_shares_38 : decode cX8_shares 38 = .ok (.istore 4, 2) := by decide +kernel
theorem dX8_shares_40 : decode cX8_shares 40 = .ok (.iload 4, 2) := by decide +kernel
theorem dX8_shares_42 : decode cX8_shares 42 = .ok (.aload_n 0, 1) := by decide +kernel
theorem dX8_shares_43 : decode cX8_shares 43 = .ok (.getfield 10, 3) := by decide +kernel
theorem dX8_shares_46 : decode cX8_shares 46 = .ok (.getfield 223, 3) := by decide +kernel
theorem dX8_shares_49 : decode cX8_shares 49 = .ok (.if_icmp .ge 45, 3) := by decide +kernel
theorem dX8_shares_52 : decode cX8_shares 52 = .ok (.aload_n 0, 1) := by decide +kernel
theorem dX8_shares_53 : decode cX8_shares 53 = .ok (.getfield 10, 3) := by decide +kernel
theorem dX8_shares_56 : decode cX8_shares 56 = .ok (.getfield 82, 3) := by decide +kernel
theorem dX8_shares_59 : decode cX8_shares 59 = .ok (.aload_n 0, 1) := by decide +kernel
theorem dX8_shares_60 : decode cX8_shares 60 = .ok (.getfield 10, 3) := by decide +kernel
theorem dX8_shares_63 : decode cX8_shares 63 = .ok (.getfield 320, 3) := by decide +kernel
theorem dX8_shares_66 : decode cX8_shares 66 = .ok (.iload_n 3, 1) := by decide +kernel
theorem dX8_shares_67 : decode cX8_shares 67 = .ok (.iaload, 1) := by decide +kernel
theorem dX8_shares_68 : decode cX8_shares 68 = .ok (.aload_n 0, 1) := by decide +kernel
theorem dX8_shares_69 : decode cX8_shares 69 = .ok (.getfield 10, 3) := by decide +kernel
theorem dX8_shares_72 : decode cX8_shares 72 = .ok (.getfield 320, 3) := by decide +kernel
theorem dX8_shares_75 : decode cX8_shares 75 = .ok (.iload 4, 2) := by decide +kernel
theorem dX8_shares_77 : decode cX8_shares 77 = .ok (.iaload, 1) := by decide +kernel
theorem dX8_shares_78 : decode cX8_shares 78 = .ok (.invokevirtual 273, 3) := by decide +kernel
theorem dX8_shares_81 : decode cX8_shares 81 = .ok (.iload_n 1, 1) := by decide +kernel
theorem dX8_shares_82 : decode cX8_shares 82 = .ok (.if_icmp .ne 6, 3) := by decide +kernel
theorem dX8_shares_85 : decode cX8_shares 85 = .ok (.iinc 2 1, 3) := by decide +kernel
theorem dX8_shares_88 : decode cX8_shares 88 = .ok (.iinc 4 1, 3) := by decide +kernel
theorem dX8_shares_91 : decode cX8_shares 91 = .ok (.goto (-51), 3) := by decide +kernel
theorem dX8_shares_94 : decode cX8_shares 94 = .ok (.iinc 3 1, 3) := by decide +kernel
theorem dX8_shares_97 : decode cX8_shares 97 = .ok (.goto (-73), 3) := by decide +kernel
theorem dX8_shares_100 : decode cX8_shares 100 = .ok (.iload_n 2, 1) := by decide +kernel
theorem dX8_shares_101 : decode cX8_shares 101 = .ok (.ireturn, 1) := by decide +kernel
def X8_shares_b40 (a1 : Int32) (k24 : Int32 → Int32 → gM → Option (Int32 × gM)) (v2 : Int32) (v5 v6 : Int32) (m7 : gM) (k40 : Int32 → Int32 → gM → Option (Int32 × gM)) : Option (Int32 × gM) :=
  if (m7 6 0 7) ≤ v6 then (gLet (v2 + 1) (fun (x8 : Int32) => k24 v5 x8 m7)) else (gAt m7 40 0 v2 (fun (x9 : Int32) => gAt m7 40 0 v6 (fun (x10 : Int32) => gCall (X3_waysShared 0 x9 x10 m7) (fun (r12 : Int32) (m11 : gM) => if r12 = a1 then (gLet (v5 + 1) (fun (x14 : Int32) => gLet (v6 + 1) (fun (x15 : Int32) => k40 x14 x15 m11))) else (gLet (v6 + 1) (fun (x13 : Int32) => k40 v5 x13 m11))))))
def X8_shares_b24 (a1 : Int32) (v1 v2 : Int32) (m3 : gM) (k24 : Int32 → Int32 → gM → Option (Int32 × gM)) : Option (Int32 × gM) :=
  if (m3 6 0 7) ≤ v2 then (some (v1, m3)) else (gLet (v2 + 1) (fun (x4 : Int32) => gL2 FU (X8_shares_b40 a1 k24 v2) v1 x4 m3))
def X8_shares (a1 : Int32) (m : gM) : Option (Int32 × gM) :=
  if a1 < 0 then (some ((-1), m)) else (if a1 ≤ (m 3 0 0) then (gL2 FU (X8_shares_b24 a1) 0 0 m) else (some ((-1), m)))
set_option maxRecDepth 100000 in
set_option maxHeartbeats 4000000 in
theorem c_X8_shares (a1 : Int32) (m : gM) : gCon eI yX8_shares cX8_shares 5 (some .int) 3 [.inr (8, 0), .inl a1] m (X8_shares a1 m) := by
  refine gCon.of (lv := [some (.inr (8, 0)), some (.inl a1), none, none, none]) (by decide +kernel) (Nat.le_of_ble_eq_true rfl) rfl (fun X C => ?_)
  unfold X8_shares
  refine r_iload_n C dX8_shares_0 rfl rfl ?_
  refine r_if_lt (tgt := 18) C dX8_shares_1 (by decide) ?_ ?_
  · refine r_iconst (v := (-1)) C dX8_shares_18 (by decide) ?_
    exact r_ireturn C dX8_shares_19
  refine r_iload_n C dX8_shares_4 rfl rfl ?_
  refine r_aload_n C dX8_shares_5 rfl rfl ?_
  refine r_get (v := .inr (6, 0)) C fl_X8_10 dX8_shares_6 rfl ?_
  refine r_get (v := .inr (3, 0)) C fl_X8_82 dX8_shares_9 rfl ?_
  refine r_get (v := .inl (m 3 0 0)) C fl_X8_170 dX8_shares_12 rfl ?_
  refine r_icmp_le (tgt := 20) C dX8_shares_15 (by decide) ?_ ?_
  · refine r_iconst (v := 0) C dX8_shares_20 (by decide) ?_
    refine r_istore_n (lv' := [some (.inr (8, 0)), some (.inl a1), some (.inl 0), none, none]) C dX8_shares_21 rfl (by decide) rfl ?_
    refine r_iconst (v := 0) C dX8_shares_22 (by decide) ?_
    refine r_istore_n (lv' := [some (.inr (8, 0)), some (.inl a1), some (.inl 0), some (.inl 0), none]) C dX8_shares_23 rfl (by decide) rfl ?_
    refine r_weak (lv' := [some (.inr (8, 0)), some (.inl a1), some (.inl 0), some (.inl 0), none]) ⟨rfl, rfl, rfl, rfl, trivial⟩ ?_
    refine r_l2 (pj := 24) (fun v1 v2 => [some (.inr (8, 0)), some (.inl a1), some (.inl v1), some (.inl v2), none]) (fun v1 v2 m3 k24 hk24 => ?_) _ _ _ _
    unfold X8_shares_b24
    refine r_iload_n C dX8_shares_24 rfl rfl ?_
    refine r_aload_n C dX8_shares_25 rfl rfl ?_
    refine r_get (v := .inr (6, 0)) C fl_X8_10 dX8_shares_26 rfl ?_
    refine r_get (v := .inl (m3 6 0 7)) C fl_X8_223 dX8_shares_29 rfl ?_
    refine r_icmp_ge (tgt := 100) C dX8_shares_32 (by decide) ?_ ?_
    · refine r_iload_n C dX8_shares_100 rfl rfl ?_
      exact r_ireturn C dX8_shares_101
    refine r_iload_n C dX8_shares_35 rfl rfl ?_
    refine r_iconst (v := 1) C dX8_shares_36 (by decide) ?_
    refine r_iadd C dX8_shares_37 ?_
    refine r_let (fun x4 => ?_)
    refine r_istore (lv' := [some (.inr (8, 0)), some (.inl a1), some (.inl v1), some (.inl v2), some (.inl x4)]) C dX8_shares_38 (by decide) rfl ?_
    refine r_weak (lv' := [some (.inr (8, 0)), some (.inl a1), some (.inl v1), some (.inl v2), some (.inl x4)]) ⟨rfl, rfl, rfl, rfl, rfl, trivial⟩ ?_
    refine r_l2 (pj := 40) (fun v5 v6 => [some (.inr (8, 0)), some (.inl a1), some (.inl v5), some (.inl v2), some (.inl v6)]) (fun v5 v6 m7 k40 hk40 => ?_) _ _ _ _
    unfold X8_shares_b40
    refine r_iload C dX8_shares_40 rfl ?_
    refine r_aload_n C dX8_shares_42 rfl rfl ?_
    refine r_get (v := .inr (6, 0)) C fl_X8_10 dX8_shares_43 rfl ?_
    refine r_get (v := .inl (m7 6 0 7)) C fl_X8_223 dX8_shares_46 rfl ?_
    refine r_icmp_ge (tgt := 94) C dX8_shares_49 (by decide) ?_ ?_
    · refine r_iinc (v := 1) C dX8_shares_94 (by decide) rfl (by decide) (fun x8 => ?_)
      show gw X eI _ [some (.inr (8, 0)), some (.inl a1), some (.inl v5), some (.inl x8), some (.inl v6)] _ _ _
      refine r_goto (tgt := 24) C dX8_shares_97 (by decide) ?_
      exact r_weak (lv' := [some (.inr (8, 0)), some (.inl a1), some (.inl v5), some (.inl x8), none]) ⟨rfl, rfl, rfl, rfl, trivial⟩ (hk24 _ _ _)
    refine r_aload_n C dX8_shares_52 rfl rfl ?_
    refine r_get (v := .inr (6, 0)) C fl_X8_10 dX8_shares_53 rfl ?_
    refine r_get (v := .inr (3, 0)) C fl_X8_82 dX8_shares_56 rfl ?_
    refine r_aload_n C dX8_shares_59 rfl rfl ?_
    refine r_get (v := .inr (6, 0)) C fl_X8_10 dX8_shares_60 rfl ?_
    refine r_get (v := .inr (40, 0)) C fl_X8_320 dX8_shares_63 rfl ?_
    refine r_iload_n C dX8_shares_66 rfl rfl ?_
    refine r_iald C rfl dX8_shares_67 (fun x9 => ?_)
    refine r_aload_n C dX8_shares_68 rfl rfl ?_
    refine r_get (v := .inr (6, 0)) C fl_X8_10 dX8_shares_69 rfl ?_
    refine r_get (v := .inr (40, 0)) C fl_X8_320 dX8_shares_72 rfl ?_
    refine r_iload C dX8_shares_75 rfl ?_
    refine r_iald C rfl dX8_shares_77 (fun x10 => ?_)
    refine r_invI (t := 3) (kb := 0) (As := [.inl x9, .inl x10]) (st := []) C il_X8_273 co_X3_waysShared (by decide) rfl (c_X3_waysShared 0 x9 x10 m7) (by decide) (by decide) rfl rfl (Nat.le_of_ble_eq_true rfl) dX8_shares_78 (fun r12 m11 => ?_)
    refine r_iload_n C dX8_shares_81 rfl rfl ?_
    refine r_icmp_ne (tgt := 88) C dX8_shares_82 (by decide) ?_ ?_
    · refine r_iinc (v := 1) C dX8_shares_88 (by decide) rfl (by decide) (fun x13 => ?_)
      show gw X eI _ [some (.inr (8, 0)), some (.inl a1), some (.inl v5), some (.inl v2), some (.inl x13)] _ _ _
      refine r_goto (tgt := 40) C dX8_shares_91 (by decide) ?_
      exact r_weak (lv' := [some (.inr (8, 0)), some (.inl a1), some (.inl v5), some (.inl v2), some (.inl x13)]) ⟨rfl, rfl, rfl, rfl, rfl, trivial⟩ (hk40 _ _ _)
    refine r_iinc (v := 1) C dX8_shares_85 (by decide) rfl (by decide) (fun x14 => ?_)
    show gw X eI _ [some (.inr (8, 0)), some (.inl a1), some (.inl x14), some (.inl v2), some (.inl v6)] _ _ _
    refine r_iinc (v := 1) C dX8_shares_88 (by decide) rfl (by decide) (fun x15 => ?_)
    show gw X eI _ [some (.inr (8, 0)), some (.inl a1), some (.inl x14), some (.inl v2), some (.inl x15)] _ _ _
    refine r_goto (tgt := 40) C dX8_shares_91 (by decide) ?_
    exact r_weak (lv' := [some (.inr (8, 0)), some (.inl a1), some (.inl x14), some (.inl v2), some (.inl x15)]) ⟨rfl, rfl, rfl, rfl, rfl, trivial⟩ (hk40 _ _ _)
  refine r_iconst (v := (-1)) C dX8_shares_18 (by decide) ?_
  exact r_ireturn C dX8_shares_19
theorem dX8_room_0 : decode cX8_room 0 = .ok (.iload_n 1, 1) := by decide +kernel
theorem dX8_room_1 : decode cX8_room 1 = .ok (.invokestatic 276, 3) := by decide +kernel
theorem dX8_room_4 : decode cX8_room 4 = .ok (.ifCond .ne 5, 3) := by decide +kernel
theorem dX8_room_7 : decode cX8_room 7 = .ok (.iconst (-1), 1) := by decide +kernel
theorem dX8_room_8 : decode cX8_room 8 = .ok (.ireturn, 1) := by decide +kernel
theorem dX8_room_9 : decode cX8_room 9 = .ok (.aload_n 0, 1) := by decide +kernel
theorem dX8_room_10 : decode cX8_room 10 = .ok (.getfield 43, 3) := by decide +kernel
theorem dX8_room_13 : decode cX8_room 13 = .ok (.invokevirtual 323, 3) := by decide +kernel
theorem dX8_room_16 : decode cX8_room 16 = .ok (.iconst 0, 1) := by decide +kernel
theorem dX8_room_17 : decode cX8_room 17 = .ok (.istore_n 2, 1) := by decide +kernel
theorem dX8_room_18 : decode cX8_room 18 = .ok (.iload_n 2, 1) := by decide +kernel
theorem dX8_room_19 : decode cX8_room 19 = .ok (.bipush 64, 2) := by decide +kernel
theorem dX8_room_21 : decode cX8_room 21 = .ok (.if_icmp .ge 48, 3) := by decide +kernel
theorem dX8_room_24 : decode cX8_room 24 = .ok (.iload_n 2, 1) := by decide +kernel
theorem dX8_room_25 : decode cX8_room 25 = .ok (.iload_n 1, 1) := by decide +kernel
theorem dX8_room_26 : decode cX8_room 26 = .ok (.imul, 1) := by decide +kernel
theorem dX8_room_27 : decode cX8_room 27 = .ok (.sipush 1024, 3) := by decide +kernel
theorem dX8_room_30 : decode cX8_room 30 = .ok (.irem, 1) := by decide +kernel
theorem dX8_room_31 : decode cX8_room 31 = .ok (.istore_n 3, 1) := by decide +kernel
theorem dX8_room_32 : decode cX8_room 32 = .ok (.iload_n 2, 1) := by decide +kernel
theorem dX8_room_33 : decode cX8_room 33 = .ok (.ifCond .le 10, 3) := by decide +kernel
theorem dX8_room_36 : decode cX8_room 36 = .ok (.iload_n 3, 1) := by decide +kernel
theorem dX8_room_37 : decode cX8_room 37 = .ok (.ifCond .ne 6, 3) := by decide +kernel
theorem dX8_room_40 : decode cX8_room 40 = .ok (.bipush 64, 2) := by decide +kernel
theorem dX8_room_42 : decode cX8_room 42 = .ok (.ireturn, 1) := by decide +kernel
theorem dX8_room_43 : decode cX8_room 43 = .ok (.aload_n 0, 1) := by decide +kernel
theorem dX8_room_44 : decode cX8_room 44 = .ok (.getfield 43, 3) := by decide +kernel
theorem dX8_room_47 : decode cX8_room 47 = .ok (.aload_n 0, 1) := by decide +kernel
theorem dX8_room_48 : decode cX8_room 48 = .ok (.getfield 10, 3) := by decide +kernel
theorem dX8_room_51 : decode cX8_room 51 = .ok (.getfield 82, 3) := by decide +kernel
theorem dX8_room_54 : decode cX8_room 54 = .ok (.iload_n 3, 1) := by decide +kernel
theorem dX8_room_55 : decode cX8_room 55 = .ok (.invokevirtual 326, 3) := by decide +kernel
theorem dX8_room_58 : decode cX8_room 58 = .ok (.ifCond .ne 5, 3) := by decide +kernel
theorem dX8_room_61 : decode cX8_room 61 = .ok (.iload_n 2, 1) := by decide +kernel
theorem dX8_room_62 : decode cX8_room 62 = .ok (.ireturn, 1) := by decide +kernel
theorem dX8_room_63 : decode cX8_room 63 = .ok (.iinc 2 1, 3) := by decide +kernel
theorem dX8_room_66 : decode cX8_room 66 = .ok (.goto (-48), 3) := by decide +kernel
theorem dX8_room_69 : decode cX8_room 69 = .ok (.bipush 64, 2) := by decide +kernel
theorem dX8_room_71 : decode cX8_room 71 = .ok (.ireturn, 1) := by decide +kernel
def X8_room_b18 (a1 : Int32) (v5 : Int32) (m6 : gM) (k18 : Int32 → gM → Option (Int32 × gM)) : Option (Int32 × gM) :=
  if 64 ≤ v5 then (some (64, m6)) else (gLet (gRem (v5 * a1) 1024) (fun (x7 : Int32) => gJ0 (fun (m8 : gM) => gCall (X2_admit 0 x7 m8) (fun (r10 : Bool) (m9 : gM) => if r10 = true then (gLet (v5 + 1) (fun (x11 : Int32) => k18 x11 m9)) else (some (v5, m9)))) (fun (j43 : gM → Option (Int32 × gM)) => if v5 ≤ 0 then (j43 m6) else (if x7 = 0 then (some (64, m6)) else (j43 m6)))))
def X8_room (a1 : Int32) (m : gM) : Option (Int32 × gM) :=
  gCall (X8_isStride a1 m) (fun (r2 : Bool) (m1 : gM) => if r2 = true then (gCall (X2_clear m1) (fun (r4 : Unit) (m3 : gM) => gL1 FU (X8_room_b18 a1) 0 m3)) else (some ((-1), m1)))
set_option maxRecDepth 100000 in
set_option maxHeartbeats 4000000 in
theorem c_X8_room (a1 : Int32) (m : gM) : gCon eI yX8_room cX8_room 4 (some .int) 4 [.inr (8, 0), .inl a1] m (X8_room a1 m) := by
  refine gCon.of (lv := [some (.inr (8, 0)), some (.inl a1), none, none]) (by decide +kernel) (Nat.le_of_ble_eq_true rfl) rfl (fun X C => ?_)
  unfold X8_room
  refine r_iload_n C dX8_room_0 rfl rfl ?_
  refine r_insB (As := [.inl a1]) (st := []) C il_X8_276 co_X8_isStride (c_X8_isStride a1 m) (by decide) (by decide) rfl rfl (Nat.le_of_ble_eq_true rfl) dX8_room_1 (fun r2 m1 => ?_)
  refine r_ifneB (tgt := 9) C dX8_room_4 (by decide) ?_ ?_
  · refine r_aload_n C dX8_room_9 rfl rfl ?_
    refine r_get (v := .inr (2, 0)) C fl_X8_43 dX8_room_10 rfl ?_
    refine r_invU (t := 2) (kb := 0) (As := []) (st := []) C il_X8_323 co_X2_clear (by decide) rfl (c_X2_clear m1) (by decide) (by decide) rfl rfl (Nat.le_of_ble_eq_true rfl) dX8_room_13 (fun r4 m3 => ?_)
    refine r_iconst (v := 0) C dX8_room_16 (by decide) ?_
    refine r_istore_n (lv' := [some (.inr (8, 0)), some (.inl a1), some (.inl 0), none]) C dX8_room_17 rfl (by decide) rfl ?_
    refine r_weak (lv' := [some (.inr (8, 0)), some (.inl a1), some (.inl 0), none]) ⟨rfl, rfl, rfl, trivial⟩ ?_
    refine r_l1 (pj := 18) (fun v5 => [some (.inr (8, 0)), some (.inl a1), some (.inl v5), none]) (fun v5 m6 k18 hk18 => ?_) _ _ _
    unfold X8_room_b18
    refine r_iload_n C dX8_room_18 rfl rfl ?_
    refine r_bipush (v := 64) C dX8_room_19 (by decide) ?_
    refine r_icmp_ge (tgt := 69) C dX8_room_21 (by decide) ?_ ?_
    · refine r_bipush (v := 64) C dX8_room_69 (by decide) ?_
      exact r_ireturn C dX8_room_71
    refine r_iload_n C dX8_room_24 rfl rfl ?_
    refine r_iload_n C dX8_room_25 rfl rfl ?_
    refine r_imul C dX8_room_26 ?_
    refine r_sipush (v := 1024) C dX8_room_27 (by decide) ?_
    refine r_irem C dX8_room_30 (by decide) ?_
    refine r_let (fun x7 => ?_)
    refine r_istore_n (lv' := [some (.inr (8, 0)), some (.inl a1), some (.inl v5), some (.inl x7)]) C dX8_room_31 rfl (by decide) rfl ?_
    refine r_iload_n C dX8_room_32 rfl rfl ?_
    refine r_j0 43 [some (.inr (8, 0)), some (.inl a1), some (.inl v5), some (.inl x7)] [] (fun m8 => ?_) (fun j43 hj43 => ?_)
    · refine r_aload_n C dX8_room_43 rfl rfl ?_
      refine r_get (v := .inr (2, 0)) C fl_X8_43 dX8_room_44 rfl ?_
      refine r_aload_n C dX8_room_47 rfl rfl ?_
      refine r_get (v := .inr (6, 0)) C fl_X8_10 dX8_room_48 rfl ?_
      refine r_get (v := .inr (3, 0)) C fl_X8_82 dX8_room_51 rfl ?_
      refine r_iload_n C dX8_room_54 rfl rfl ?_
      refine r_invB (t := 2) (kb := 0) (As := [.inr (3, 0), .inl x7]) (st := []) C il_X8_326 co_X2_admit (by decide) rfl (c_X2_admit 0 x7 m8) (by decide) (by decide) rfl rfl (Nat.le_of_ble_eq_true rfl) dX8_room_55 (fun r10 m9 => ?_)
      refine r_ifneB (tgt := 63) C dX8_room_58 (by decide) ?_ ?_
      · refine r_iinc (v := 1) C dX8_room_63 (by decide) rfl (by decide) (fun x11 => ?_)
        show gw X eI _ [some (.inr (8, 0)), some (.inl a1), some (.inl x11), some (.inl x7)] _ _ _
        refine r_goto (tgt := 18) C dX8_room_66 (by decide) ?_
        exact r_weak (lv' := [some (.inr (8, 0)), some (.inl a1), some (.inl x11), none]) ⟨rfl, rfl, rfl, trivial⟩ (hk18 _ _)
      refine r_iload_n C dX8_room_61 rfl rfl ?_
      exact r_ireturn C dX8_room_62
    refine r_if_le (tgt := 43) C dX8_room_33 (by decide) ?_ ?_
    · exact r_weak (lv' := [some (.inr (8, 0)), some (.inl a1), some (.inl v5), some (.inl x7)]) ⟨rfl, rfl, rfl, rfl, trivial⟩ (hj43 _)
    refine r_iload_n C dX8_room_36 rfl rfl ?_
    refine r_if_ne (tgt := 43) C dX8_room_37 (by decide) ?_ ?_
    · exact r_weak (lv' := [some (.inr (8, 0)), some (.inl a1), some (.inl v5), some (.inl x7)]) ⟨rfl, rfl, rfl, rfl, trivial⟩ (hj43 _)
    refine r_bipush (v := 64) C dX8_room_40 (by decide) ?_
    exact r_ireturn C dX8_room_42
  refine r_iconst (v := (-1)) C dX8_room_7 (by decide) ?_
  exact r_ireturn C dX8_room_8
theorem dX8_crowd_0 : decode cX8_crowd 0 = .ok (.aload_n 0, 1) := by decide +kernel
theorem dX8_crowd_1 : decode cX8_crowd 1 = .ok (.iload_n 1, 1) := by decide +kernel
theorem dX8_crowd_2 : decode cX8_crowd 2 = .ok (.invokevirtual 160, 3) := by decide +kernel
theorem dX8_crowd_5 : decode cX8_crowd 5 = .ok (.ifCond .ne 5, 3) := by decide +kernel
theorem dX8_crowd_8 : decode cX8_crowd 8 = .ok (.iconst (-1), 1) := by decide +kernel
theorem dX8_crowd_9 : decode cX8_crowd 9 = .ok (.ireturn, 1) := by decide +kernel
theorem dX8_crowd_10 : decode cX8_crowd 10 = .ok (.aload_n 0, 1) := by decide +kernel
theorem dX8_crowd_11 : decode cX8_crowd 11 = .ok (.getfield 36, 3) := by decide +kernel
theorem dX8_crowd_14 : decode cX8_crowd 14 = .ok (.aload_n 0, 1) := by decide +kernel
theorem dX8_crowd_15 : decode cX8_crowd 15 = .ok (.getfield 10, 3) := by decide +kernel
theorem dX8_crowd_18 : decode cX8_crowd 18 = .ok (.getfield 82, 3) := by decide +kernel
theorem dX8_crowd_21 : decode cX8_crowd 21 = .ok (.iload_n 1, 1) := by decide +kernel
theorem dX8_crowd_22 : decode cX8_crowd 22 = .ok (.aload_n 0, 1) := by decide +kernel
theorem dX8_crowd_23 : decode cX8_crowd 23 = .ok (.getfield 10, 3) := by decide +kernel
theorem dX8_crowd_26 : decode cX8_crowd 26 = .ok (.getfield 320, 3) := by decide +kernel
theorem dX8_crowd_29 : decode cX8_crowd 29 = .ok (.aload_n 0, 1) := by decide +kernel
theorem dX8_crowd_30 : decode cX8_crowd 30 = .ok (.getfield 10, 3) := by decide +kernel
theorem dX8_crowd_33 : decode cX8_crowd 33 = .ok (.getfield 223, 3) := by decide +kernel
theorem dX8_crowd_36 : decode cX8_crowd 36 = .ok (.invokevirtual 329, 3) := by decide +kernel
theorem dX8_crowd_39 : decode cX8_crowd 39 = .ok (.istore_n 3, 1) := by decide +kernel
theorem dX8_crowd_40 : decode cX8_crowd 40 = .ok (.iload_n 2, 1) := by decide +kernel
theorem dX8_crowd_41 : decode cX8_crowd 41 = .ok (.ifCond .eq 14, 3) := by decide +kernel
theorem dX8_crowd_44 : decode cX8_crowd 44 = .ok (.aload_n 0, 1) := by decide +kernel
theorem dX8_crowd_45 : decode cX8_crowd 45 = .ok (.getfield 36, 3) := by decide +kernel
theorem dX8_crowd_48 : decode cX8_crowd 48 = .ok (.iload_n 3, 1) := by decide +kernel
theorem dX8_crowd_49 : decode cX8_crowd 49 = .ok (.invokevirtual 333, 3) := by decide +kernel
theorem dX8_crowd_52 : decode cX8_crowd 52 = .ok (.goto 4, 3) := by decide +kernel
theorem dX8_crowd_55 : decode cX8_crowd 55 = .ok (.iload_n 3, 1) := by decide +kernel
theorem dX8_crowd_56 : decode cX8_crowd 56 = .ok (.ireturn, 1) := by decide +kernel
def X8_crowd (a1 : Int32) (a2 : Int32) (m : gM) : Option (Int32 × gM) :=
  gCall (X8_isWay a1 m) (fun (r2 : Bool) (m1 : gM) => if r2 = true then (gCall (X7_crowdedSlot 0 a1 40 0 (m1 6 0 7) m1) (fun (r4 : Int32) (m3 : gM) => if a2 = 0 then (some (r4, m3)) else (gCall (X7_inSlot r4 m3) (fun (r6 : Int32) (m5 : gM) => some (r6, m5))))) else (some ((-1), m1)))
set_option maxRecDepth 100000 in
set_option maxHeartbeats 4000000 in
theorem c_X8_crowd (a1 : Int32) (a2 : Int32) (m : gM) : gCon eI yX8_crowd cX8_crowd 4 (some .int) 3 [.inr (8, 0), .inl a1, .inl a2] m (X8_crowd a1 a2 m) := by
  refine gCon.of (lv := [some (.inr (8, 0)), some (.inl a1), some (.inl a2), none]) (by decide +kernel) (Nat.le_of_ble_eq_true rfl) rfl (fun X C => ?_)
  unfold X8_crowd
  refine r_aload_n C dX8_crowd_0 rfl rfl ?_
  refine r_iload_n C dX8_crowd_1 rfl rfl ?_
  refine r_invB (t := 8) (kb := 0) (As := [.inl a1]) (st := []) C il_X8_160 co_X8_isWay (by decide) rfl (c_X8_isWay a1 m) (by decide) (by decide) rfl rfl (Nat.le_of_ble_eq_true rfl) dX8_crowd_2 (fun r2 m1 => ?_)
  refine r_ifneB (tgt := 10) C dX8_crowd_5 (by decide) ?_ ?_
  · refine r_aload_n C dX8_crowd_10 rfl rfl ?_
    refine r_get (v := .inr (7, 0)) C fl_X8_36 dX8_crowd_11 rfl ?_
    refine r_aload_n C dX8_crowd_14 rfl rfl ?_
    refine r_get (v := .inr (6, 0)) C fl_X8_10 dX8_crowd_15 rfl ?_
    refine r_get (v := .inr (3, 0)) C fl_X8_82 dX8_crowd_18 rfl ?_
    refine r_iload_n C dX8_crowd_21 rfl rfl ?_
    refine r_aload_n C dX8_crowd_22 rfl rfl ?_
    refine r_get (v := .inr (6, 0)) C fl_X8_10 dX8_crowd_23 rfl ?_
    refine r_get (v := .inr (40, 0)) C fl_X8_320 dX8_crowd_26 rfl ?_
    refine r_aload_n C dX8_crowd_29 rfl rfl ?_
    refine r_get (v := .inr (6, 0)) C fl_X8_10 dX8_crowd_30 rfl ?_
    refine r_get (v := .inl (m1 6 0 7)) C fl_X8_223 dX8_crowd_33 rfl ?_
    refine r_invI (t := 7) (kb := 0) (As := [.inr (3, 0), .inl a1, .inr (40, 0), .inl (m1 6 0 7)]) (st := []) C il_X8_329 co_X7_crowdedSlot (by decide) rfl (c_X7_crowdedSlot 0 a1 40 0 (m1 6 0 7) rfl m1) (by decide) (by decide) rfl rfl (Nat.le_of_ble_eq_true rfl) dX8_crowd_36 (fun r4 m3 => ?_)
    refine r_istore_n (lv' := [some (.inr (8, 0)), some (.inl a1), some (.inl a2), some (.inl r4)]) C dX8_crowd_39 rfl (by decide) rfl ?_
    refine r_iload_n C dX8_crowd_40 rfl rfl ?_
    refine r_if_eq (tgt := 55) C dX8_crowd_41 (by decide) ?_ ?_
    · refine r_iload_n C dX8_crowd_55 rfl rfl ?_
      exact r_ireturn C dX8_crowd_56
    refine r_aload_n C dX8_crowd_44 rfl rfl ?_
    refine r_get (v := .inr (7, 0)) C fl_X8_36 dX8_crowd_45 rfl ?_
    refine r_iload_n C dX8_crowd_48 rfl rfl ?_
    refine r_invI (t := 7) (kb := 0) (As := [.inl r4]) (st := []) C il_X8_333 co_X7_inSlot (by decide) rfl (c_X7_inSlot r4 m3) (by decide) (by decide) rfl rfl (Nat.le_of_ble_eq_true rfl) dX8_crowd_49 (fun r6 m5 => ?_)
    refine r_goto (tgt := 56) C dX8_crowd_52 (by decide) ?_
    exact r_ireturn C dX8_crowd_56
  refine r_iconst (v := (-1)) C dX8_crowd_8 (by decide) ?_
  exact r_ireturn C dX8_crowd_9
theorem dX8_gathered_0 : decode cX8_gathered 0 = .ok (.iload_n 1, 1) := by decide +kernel
theorem dX8_gathered_1 : decode cX8_gathered 1 = .ok (.iconst (-1), 1) := by decide +kernel
theorem dX8_gathered_2 : decode cX8_gathered 2 = .ok (.if_icmp .ne 11, 3) := by decide +kernel
theorem dX8_gathered_5 : decode cX8_gathered 5 = .ok (.aload_n 0, 1) := by decide +kernel
theorem dX8_gathered_6 : decode cX8_gathered 6 = .ok (.getfield 10, 3) := by decide +kernel
theorem dX8_gathered_9 : decode cX8_gathered 9 = .ok (.getfield 223, 3) := by decide +kernel
theorem dX8_gathered_12 : decode cX8_gathered 12 = .ok (.ireturn, 1) := by decide +kernel
theorem dX8_gathered_13 : decode cX8_gathered 13 = .ok (.iload_n 1, 1) := by decide +kernel
theorem dX8_gathered_14 : decode cX8_gathered 14 = .ok (.ifCond .lt 26, 3) := by decide +kernel
theorem dX8_gathered_17 : decode cX8_gathered 17 = .ok (.iload_n 1, 1) := by decide +kernel
theorem dX8_gathered_18 : decode cX8_gathered 18 = .ok (.aload_n 0, 1) := by decide +kernel
theorem dX8_gathered_19 : decode cX8_gathered 19 = .ok (.getfield 10, 3) := by decide +kernel
theorem dX8_gathered_22 : decode cX8_gathered 22 = .ok (.getfield 223, 3) := by decide +kernel
theorem dX8_gathered_25 : decode cX8_gathered 25 = .ok (.if_icmp .ge 15, 3) := by decide +kernel
theorem dX8_gathered_28 : decode cX8_gathered 28 = .ok (.aload_n 0, 1) := by decide +kernel
theorem dX8_gathered_29 : decode cX8_gathered 29 = .ok (.getfield 10, 3) := by decide +kernel
theorem dX8_gathered_32 : decode cX8_gathered 32 = .ok (.getfield 320, 3) := by decide +kernel
theorem dX8_gathered_35 : decode cX8_gathered 35 = .ok (.iload_n 1, 1) := by decide +kernel
theorem dX8_gathered_36 : decode cX8_gathered 36 = .ok (.iaload, 1) := by decide +kernel
theorem dX8_gathered_37 : decode cX8_gathered 37 = .ok (.goto 4, 3) := by decide +kernel
theorem dX8_gathered_40 : decode cX8_gathered 40 = .ok (.iconst (-1), 1) := by decide +kernel
theorem dX8_gathered_41 : decode cX8_gathered 41 = .ok (.ireturn, 1) := by decide +kernel
def X8_gathered (a1 : Int32) (m : gM) : Option (Int32 × gM) :=
  if a1 = (-1) then (some ((m 6 0 7), m)) else (if a1 < 0 then (some ((-1), m)) else (if (m 6 0 7) ≤ a1 then (some ((-1), m)) else (gAt m 40 0 a1 (fun (x1 : Int32) => some (x1, m)))))
set_option maxRecDepth 100000 in
set_option maxHeartbeats 4000000 in
theorem c_X8_gathered (a1 : Int32) (m : gM) : gCon eI yX8_gathered cX8_gathered 2 (some .int) 0 [.inr (8, 0), .inl a1] m (X8_gathered a1 m) := by
  refine gCon.of (lv := [some (.inr (8, 0)), some (.inl a1)]) (by decide +kernel) (Nat.le_of_ble_eq_true rfl) rfl (fun X C => ?_)
  unfold X8_gathered
  refine r_iload_n C dX8_gathered_0 rfl rfl ?_
  refine r_iconst (v := (-1)) C dX8_gathered_1 (by decide) ?_
  refine r_icmp_ne (tgt := 13) C dX8_gathered_2 (by decide) ?_ ?_
  · refine r_iload_n C dX8_gathered_13 rfl rfl ?_
    refine r_if_lt (tgt := 40) C dX8_gathered_14 (by decide) ?_ ?_
    · refine r_iconst (v := (-1)) C dX8_gathered_40 (by decide) ?_
      exact r_ireturn C dX8_gathered_41
    refine r_iload_n C dX8_gathered_17 rfl rfl ?_
    refine r_aload_n C dX8_gathered_18 rfl rfl ?_
    refine r_get (v := .inr (6, 0)) C fl_X8_10 dX8_gathered_19 rfl ?_
    refine r_get (v := .inl (m 6 0 7)) C fl_X8_223 dX8_gathered_22 rfl ?_
    refine r_icmp_ge (tgt := 40) C dX8_gathered_25 (by decide) ?_ ?_
    · refine r_iconst (v := (-1)) C dX8_gathered_40 (by decide) ?_
      exact r_ireturn C dX8_gathered_41
    refine r_aload_n C dX8_gathered_28 rfl rfl ?_
    refine r_get (v := .inr (6, 0)) C fl_X8_10 dX8_gathered_29 rfl ?_
    refine r_get (v := .inr (40, 0)) C fl_X8_320 dX8_gathered_32 rfl ?_
    refine r_iload_n C dX8_gathered_35 rfl rfl ?_
    refine r_iald C rfl dX8_gathered_36 (fun x1 => ?_)
    refine r_goto (tgt := 41) C dX8_gathered_37 (by decide) ?_
    exact r_ireturn C dX8_gathered_41
  refine r_aload_n C dX8_gathered_5 rfl rfl ?_
  refine r_get (v := .inr (6, 0)) C fl_X8_10 dX8_gathered_6 rfl ?_
  refine r_get (v := .inl (m 6 0 7)) C fl_X8_223 dX8_gathered_9 rfl ?_
  exact r_ireturn C dX8_gathered_12
theorem dX8_fitting_0 : decode cX8_fitting 0 = .ok (.aload_n 0, 1) := by decide +kernel
theorem dX8_fitting_1 : decode cX8_fitting 1 = .ok (.getfield 43, 3) := by decide +kernel
theorem dX8_fitting_4 : decode cX8_fitting 4 = .ok (.invokevirtual 323, 3) := by decide +kernel
theorem dX8_fitting_7 : decode cX8_fitting 7 = .ok (.iconst 0, 1) := by decide +kernel
theorem dX8_fitting_8 : decode cX8_fitting 8 = .ok (.istore_n 1, 1) := by decide +kernel
theorem dX8_fitting_9 : decode cX8_fitting 9 = .ok (.iload_n 1, 1) := by decide +kernel
theorem dX8_fitting_10 : decode cX8_fitting 10 = .ok (.aload_n 0, 1) := by decide +kernel
theorem dX8_fitting_11 : decode cX8_fitting 11 = .ok (.getfield 10, 3) := by decide +kernel
theorem dX8_fitting_14 : decode cX8_fitting 14 = .ok (.getfield 223, 3) := by decide +kernel
theorem dX8_fitting_17 : decode cX8_fitting 17 = .ok (.if_icmp .ge 33, 3) := by decide +kernel
theorem dX8_fitting_20 : decode cX8_fitting 20 = .ok (.aload_n 0, 1) := by decide +kernel
theorem dX8_fitting_21 : decode cX8_fitting 21 = .ok (.getfield 43, 3) := by decide +kernel
theorem dX8_fitting_24 : decode cX8_fitting 24 = .ok (.aload_n 0, 1) := by decide +kernel
theorem dX8_fitting_25 : decode cX8_fitting 25 = .ok (.getfield 10, 3) := by decide +kernel
theorem dX8_fitting_28 : decode cX8_fitting 28 = .ok (.getfield 82, 3) := by decide +kernel
theorem dX8_fitting_31 : decode cX8_fitting 31 = .ok (.aload_n 0, 1) := by decide +kernel
theorem dX8_fitting_32 : decode cX8_fitting 32 = .ok (.getfield 10, 3) := by decide +kernel
theorem dX8_fitting_35 : decode cX8_fitting 35 = .ok (.getfield 320, 3) := by decide +kernel
theorem dX8_fitting_38 : decode cX8_fitting 38 = .ok (.iload_n 1, 1) := by decide +kernel
theorem dX8_fitting_39 : decode cX8_fitting 39 = .ok (.iaload, 1) := by decide +kernel
theorem dX8_fitting_40 : decode cX8_fitting 40 = .ok (.invokevirtual 326, 3) := by decide +kernel
theorem dX8_fitting_43 : decode cX8_fitting 43 = .ok (.pop, 1) := by decide +kernel
theorem dX8_fitting_44 : decode cX8_fitting 44 = .ok (.iinc 1 1, 3) := by decide +kernel
theorem dX8_fitting_47 : decode cX8_fitting 47 = .ok (.goto (-38), 3) := by decide +kernel
theorem dX8_fitting_50 : decode cX8_fitting 50 = .ok (.aload_n 0, 1) := by decide +kernel
theorem dX8_fitting_51 : decode cX8_fitting 51 = .ok (.getfield 43, 3) := by decide +kernel
theorem dX8_fitting_54 : decode cX8_fitting 54 = .ok (.getfield 336, 3) := by decide +kernel
theorem dX8_fitting_57 : decode cX8_fitting 57 = .ok (.ireturn, 1) := by decide +kernel
def X8_fitting_b9 (j50 : gM → Option (Int32 × gM)) (v4 : Int32) (m5 : gM) (k9 : Int32 → gM → Option (Int32 × gM)) : Option (Int32 × gM) :=
  if (m5 6 0 7) ≤ v4 then (j50 m5) else (gAt m5 40 0 v4 (fun (x6 : Int32) => gCall (X2_admit 0 x6 m5) (fun (r8 : Bool) (m7 : gM) => gLet (v4 + 1) (fun (x9 : Int32) => k9 x9 m7))))
def X8_fitting (m : gM) : Option (Int32 × gM) :=
  gCall (X2_clear m) (fun (r2 : Unit) (m1 : gM) => gJ0 (fun (m3 : gM) => some ((m3 2 0 5), m3)) (fun (j50 : gM → Option (Int32 × gM)) => gL1 FU (X8_fitting_b9 j50) 0 m1))
set_option maxRecDepth 100000 in
set_option maxHeartbeats 4000000 in
theorem c_X8_fitting (m : gM) : gCon eI yX8_fitting cX8_fitting 2 (some .int) 4 [.inr (8, 0)] m (X8_fitting m) := by
  refine gCon.of (lv := [some (.inr (8, 0)), none]) (by decide +kernel) (Nat.le_of_ble_eq_true rfl) rfl (fun X C => ?_)
  unfold X8_fitting
  refine r_aload_n C dX8_fitting_0 rfl rfl ?_
  refine r_get (v := .inr (2, 0)) C fl_X8_43 dX8_fitting_1 rfl ?_
  refine r_invU (t := 2) (kb := 0) (As := []) (st := []) C il_X8_323 co_X2_clear (by decide) rfl (c_X2_clear m) (by decide) (by decide) rfl rfl (Nat.le_of_ble_eq_true rfl) dX8_fitting_4 (fun r2 m1 => ?_)
  refine r_iconst (v := 0) C dX8_fitting_7 (by decide) ?_
  refine r_istore_n (lv' := [some (.inr (8, 0)), some (.inl 0)]) C dX8_fitting_8 rfl (by decide) rfl ?_
  refine r_j0 50 [some (.inr (8, 0)), none] [] (fun m3 => ?_) (fun j50 hj50 => ?_)
  · refine r_aload_n C dX8_fitting_50 rfl rfl ?_
    refine r_get (v := .inr (2, 0)) C fl_X8_43 dX8_fitting_51 rfl ?_
    refine r_get (v := .inl (m3 2 0 5)) C fl_X8_336 dX8_fitting_54 rfl ?_
    exact r_ireturn C dX8_fitting_57
  refine r_weak (lv' := [some (.inr (8, 0)), some (.inl 0)]) ⟨rfl, rfl, trivial⟩ ?_
  refine r_l1 (pj := 9) (fun v4 => [some (.inr (8, 0)), some (.inl v4)]) (fun v4 m5 k9 hk9 => ?_) _ _ _
  unfold X8_fitting_b9
  refine r_iload_n C dX8_fitting_9 rfl rfl ?_
  refine r_aload_n C dX8_fitting_10 rfl rfl ?_
  refine r_get (v := .inr (6, 0)) C fl_X8_10 dX8_fitting_11 rfl ?_
  refine r_get (v := .inl (m5 6 0 7)) C fl_X8_223 dX8_fitting_14 rfl ?_
  refine r_icmp_ge (tgt := 50) C dX8_fitting_17 (by decide) ?_ ?_
  · exact r_weak (lv' := [some (.inr (8, 0)), none]) ⟨rfl, trivial⟩ (hj50 _)
  refine r_aload_n C dX8_fitting_20 rfl rfl ?_
  refine r_get (v := .inr (2, 0)) C fl_X8_43 dX8_fitting_21 rfl ?_
  refine r_aload_n C dX8_fitting_24 rfl rfl ?_
  refine r_get (v := .inr (6, 0)) C fl_X8_10 dX8_fitting_25 rfl ?_
  refine r_get (v := .inr (3, 0)) C fl_X8_82 dX8_fitting_28 rfl ?_
  refine r_aload_n C dX8_fitting_31 rfl rfl ?_
  refine r_get (v := .inr (6, 0)) C fl_X8_10 dX8_fitting_32 rfl ?_
  refine r_get (v := .inr (40, 0)) C fl_X8_320 dX8_fitting_35 rfl ?_
  refine r_iload_n C dX8_fitting_38 rfl rfl ?_
  refine r_iald C rfl dX8_fitting_39 (fun x6 => ?_)
  refine r_invB (t := 2) (kb := 0) (As := [.inr (3, 0), .inl x6]) (st := []) C il_X8_326 co_X2_admit (by decide) rfl (c_X2_admit 0 x6 m5) (by decide) (by decide) rfl rfl (Nat.le_of_ble_eq_true rfl) dX8_fitting_40 (fun r8 m7 => ?_)
  refine r_pop C dX8_fitting_43 ?_
  refine r_iinc (v := 1) C dX8_fitting_44 (by decide) rfl (by decide) (fun x9 => ?_)
  show gw X eI _ [some (.inr (8, 0)), some (.inl x9)] _ _ _
  refine r_goto (tgt := 9) C dX8_fitting_47 (by decide) ?_
  exact r_weak (lv' := [some (.inr (8, 0)), some (.inl x9)]) ⟨rfl, rfl, trivial⟩ (hk9 _ _)
theorem dX8_fittingPlainly_0 : decode cX8_fittingPlainly 0 = .ok (.aload_n 0, 1) := by decide +kernel
theorem dX8_fittingPlainly_1 : decode cX8_fittingPlainly 1 = .ok (.getfield 36, 3) := by decide +kernel
theorem dX8_fittingPlainly_4 : decode cX8_fittingPlainly 4 = .ok (.aload_n 0, 1) := by decide +kernel
theorem dX8_fittingPlainly_5 : decode cX8_fittingPlainly 5 = .ok (.getfield 10, 3) := by decide +kernel
theorem dX8_fittingPlainly_8 : decode cX8_fittingPlainly 8 = .ok (.getfield 82, 3) := by decide +kernel
theorem dX8_fittingPlainly_11 : decode cX8_fittingPlainly 11 = .ok (.aload_n 0, 1) := by decide +kernel
theorem dX8_fittingPlainly_12 : decode cX8_fittingPlainly 12 = .ok (.getfield 10, 3) := by decide +kernel
theorem dX8_fittingPlainly_15 : decode cX8_fittingPlainly 15 = .ok (.getfield 320, 3) := by decide +kernel
theorem dX8_fittingPlainly_18 : decode cX8_fittingPlainly 18 = .ok (.aload_n 0, 1) := by decide +kernel
theorem dX8_fittingPlainly_19 : decode cX8_fittingPlainly 19 = .ok (.getfield 10, 3) := by decide +kernel
theorem dX8_fittingPlainly_22 : decode cX8_fittingPlainly 22 = .ok (.getfield 223, 3) := by decide +kernel
theorem dX8_fittingPlainly_25 : decode cX8_fittingPlainly 25 = .ok (.invokevirtual 339, 3) := by decide +kernel
theorem dX8_fittingPlainly_28 : decode cX8_fittingPlainly 28 = .ok (.ireturn, 1) := by decide +kernel
def X8_fittingPlainly (m : gM) : Option (Int32 × gM) :=
  gCall (X7_fitPlainly 0 40 0 (m 6 0 7) m) (fun (r2 : Int32) (m1 : gM) => some (r2, m1))
set_option maxRecDepth 100000 in
set_option maxHeartbeats 4000000 in
theorem c_X8_fittingPlainly (m : gM) : gCon eI yX8_fittingPlainly cX8_fittingPlainly 1 (some .int) 2 [.inr (8, 0)] m (X8_fittingPlainly m) := by
  refine gCon.of (lv := [some (.inr (8, 0))]) (by decide +kernel) (Nat.le_of_ble_eq_true rfl) rfl (fun X C => ?_)
  unfold X8_fittingPlainly
  refine r_aload_n C dX8_fittingPlainly_0 rfl rfl ?_
  refine r_get (v := .inr (7, 0)) C fl_X8_36 dX8_fittingPlainly_1 rfl ?_
  refine r_aload_n C dX8_fittingPlainly_4 rfl rfl ?_
  refine r_get (v := .inr (6, 0)) C fl_X8_10 dX8_fittingPlainly_5 rfl ?_
  refine r_get (v := .inr (3, 0)) C fl_X8_82 dX8_fittingPlainly_8 rfl ?_
  refine r_aload_n C dX8_fittingPlainly_11 rfl rfl ?_
  refine r_get (v := .inr (6, 0)) C fl_X8_10 dX8_fittingPlainly_12 rfl ?_
  refine r_get (v := .inr (40, 0)) C fl_X8_320 dX8_fittingPlainly_15 rfl ?_
  refine r_aload_n C dX8_fittingPlainly_18 rfl rfl ?_
  refine r_get (v := .inr (6, 0)) C fl_X8_10 dX8_fittingPlainly_19 rfl ?_
  refine r_get (v := .inl (m 6 0 7)) C fl_X8_223 dX8_fittingPlainly_22 rfl ?_
  refine r_invI (t := 7) (kb := 0) (As := [.inr (3, 0), .inr (40, 0), .inl (m 6 0 7)]) (st := []) C il_X8_339 co_X7_fitPlainly (by decide) rfl (c_X7_fitPlainly 0 40 0 (m 6 0 7) rfl m) (by decide) (by decide) rfl rfl (Nat.le_of_ble_eq_true rfl) dX8_fittingPlainly_25 (fun r2 m1 => ?_)
  exact r_ireturn C dX8_fittingPlainly_28
theorem dX8_joinPieces_0 : decode cX8_joinPieces 0 = .ok (.iconst 0, 1) := by decide +kernel
theorem dX8_joinPieces_1 : decode cX8_joinPieces 1 = .ok (.istore_n 3, 1) := by decide +kernel
theorem dX8_joinPieces_2 : decode cX8_joinPieces 2 = .ok (.iload_n 3, 1) := by decide +kernel
theorem dX8_joinPieces_3 : decode cX8_joinPieces 3 = .ok (.aload_n 0, 1) := by decide +kernel
theorem dX8_joinPieces_4 : decode cX8_joinPieces 4 = .ok (.getfield 10, 3) := by decide +kernel
theorem dX8_joinPieces_7 : decode cX8_joinPieces 7 = .ok (.getfield 223, 3) := by decide +kernel
theorem dX8_joinPieces_10 : decode cX8_joinPieces 10 = .ok (.if_icmp .ge 26, 3) := by decide +kernel
theorem dX8_joinPieces_13 : decode cX8_joinPieces 13 = .ok (.aload_n 0, 1) := by decide +kernel
theorem dX8_joinPieces_14 : decode cX8_joinPieces 14 = .ok (.getfield 68, 3) := by decide +kernel
theorem dX8_joinPieces_17 : decode cX8_joinPieces 17 = .ok (.iload_n 3, 1) := by decide +kernel
theorem dX8_joinPieces_18 : decode cX8_joinPieces 18 = .ok (.iaload, 1) := by decide +kernel
theorem dX8_joinPieces_19 : decode cX8_joinPieces 19 = .ok (.iload_n 1, 1) := by decide +kernel
theorem dX8_joinPieces_20 : decode cX8_joinPieces 20 = .ok (.if_icmp .ne 10, 3) := by decide +kernel
theorem dX8_joinPieces_23 : decode cX8_joinPieces 23 = .ok (.aload_n 0, 1) := by decide +kernel
theorem dX8_joinPieces_24 : decode cX8_joinPieces 24 = .ok (.getfield 68, 3) := by decide +kernel
theorem dX8_joinPieces_27 : decode cX8_joinPieces 27 = .ok (.iload_n 3, 1) := by decide +kernel
theorem dX8_joinPieces_28 : decode cX8_joinPieces 28 = .ok (.iload_n 2, 1) := by decide +kernel
theorem dX8_joinPieces_29 : decode cX8_joinPieces 29 = .ok (.iastore, 1) := by decide +kernel
theorem dX8_joinPieces_30 : decode cX8_joinPieces 30 = .ok (.iinc 3 1, 3) := by decide +kernel
theorem dX8_joinPieces_33 : decode cX8_joinPieces 33 = .ok (.goto (-31), 3) := by decide +kernel
theorem dX8_joinPieces_36 : decode cX8_joinPieces 36 = .ok (.return_, 1) := by decide +kernel
def X8_joinPieces_b2 (a1 : Int32) (a2 : Int32) (v1 : Int32) (m2 : gM) (k2 : Int32 → gM → Option (Unit × gM)) : Option (Unit × gM) :=
  if (m2 6 0 7) ≤ v1 then (some ((), m2)) else (gAt m2 45 0 v1 (fun (x3 : Int32) => if x3 = a1 then (gPut m2 45 0 v1 a2 (fun (m5 : gM) => gLet (v1 + 1) (fun (x6 : Int32) => k2 x6 m5))) else (gLet (v1 + 1) (fun (x4 : Int32) => k2 x4 m2))))
def X8_joinPieces (a1 : Int32) (a2 : Int32) (m : gM) : Option (Unit × gM) :=
  gL1 FU (X8_joinPieces_b2 a1 a2) 0 m
set_option maxRecDepth 100000 in
set_option maxHeartbeats 4000000 in
theorem c_X8_joinPieces (a1 : Int32) (a2 : Int32) (m : gM) : gCon eU yX8_joinPieces cX8_joinPieces 4 none 0 [.inr (8, 0), .inl a1, .inl a2] m (X8_joinPieces a1 a2 m) := by
  refine gCon.of (lv := [some (.inr (8, 0)), some (.inl a1), some (.inl a2), none]) (by decide +kernel) (Nat.le_of_ble_eq_true rfl) rfl (fun X C => ?_)
  unfold X8_joinPieces
  refine r_iconst (v := 0) C dX8_joinPieces_0 (by decide) ?_
  refine r_istore_n (lv' := [some (.inr (8, 0)), some (.inl a1), some (.inl a2), some (.inl 0)]) C dX8_joinPieces_1 rfl (by decide) rfl ?_
  refine r_weak (lv' := [some (.inr (8, 0)), some (.inl a1), some (.inl a2), some (.inl 0)]) ⟨rfl, rfl, rfl, rfl, trivial⟩ ?_
  refine r_l1 (pj := 2) (fun v1 => [some (.inr (8, 0)), some (.inl a1), some (.inl a2), some (.inl v1)]) (fun v1 m2 k2 hk2 => ?_) _ _ _
  unfold X8_joinPieces_b2
  refine r_iload_n C dX8_joinPieces_2 rfl rfl ?_
  refine r_aload_n C dX8_joinPieces_3 rfl rfl ?_
  refine r_get (v := .inr (6, 0)) C fl_X8_10 dX8_joinPieces_4 rfl ?_
  refine r_get (v := .inl (m2 6 0 7)) C fl_X8_223 dX8_joinPieces_7 rfl ?_
  refine r_icmp_ge (tgt := 36) C dX8_joinPieces_10 (by decide) ?_ ?_
  · exact r_return C dX8_joinPieces_36
  refine r_aload_n C dX8_joinPieces_13 rfl rfl ?_
  refine r_get (v := .inr (45, 0)) C fl_X8_68 dX8_joinPieces_14 rfl ?_
  refine r_iload_n C dX8_joinPieces_17 rfl rfl ?_
  refine r_iald C rfl dX8_joinPieces_18 (fun x3 => ?_)
  refine r_iload_n C dX8_joinPieces_19 rfl rfl ?_
  refine r_icmp_ne (tgt := 30) C dX8_joinPieces_20 (by decide) ?_ ?_
  · refine r_iinc (v := 1) C dX8_joinPieces_30 (by decide) rfl (by decide) (fun x4 => ?_)
    show gw X eU _ [some (.inr (8, 0)), some (.inl a1), some (.inl a2), some (.inl x4)] _ _ _
    refine r_goto (tgt := 2) C dX8_joinPieces_33 (by decide) ?_
    exact r_weak (lv' := [some (.inr (8, 0)), some (.inl a1), some (.inl a2), some (.inl x4)]) ⟨rfl, rfl, rfl, rfl, trivial⟩ (hk2 _ _)
  refine r_aload_n C dX8_joinPieces_23 rfl rfl ?_
  refine r_get (v := .inr (45, 0)) C fl_X8_68 dX8_joinPieces_24 rfl ?_
  refine r_iload_n C dX8_joinPieces_27 rfl rfl ?_
  refine r_iload_n C dX8_joinPieces_28 rfl rfl ?_
  refine r_iast C rfl dX8_joinPieces_29 (fun m5 => ?_)
  refine r_iinc (v := 1) C dX8_joinPieces_30 (by decide) rfl (by decide) (fun x6 => ?_)
  show gw X eU _ [some (.inr (8, 0)), some (.inl a1), some (.inl a2), some (.inl x6)] _ _ _
  refine r_goto (tgt := 2) C dX8_joinPieces_33 (by decide) ?_
  exact r_weak (lv' := [some (.inr (8, 0)), some (.inl a1), some (.inl a2), some (.inl x6)]) ⟨rfl, rfl, rfl, rfl, trivial⟩ (hk2 _ _)
theorem dX8_partIntoPieces_0 : decode cX8_partIntoPieces 0 = .ok (.iconst 0, 1) := by decide +kernel
theorem dX8_partIntoPieces_1 : decode cX8_partIntoPieces 1 = .ok (.istore_n 1, 1) := by decide +kernel
theorem dX8_partIntoPieces_2 : decode cX8_partIntoPieces 2 = .ok (.iload_n 1, 1) := by decide +kernel
theorem dX8_partIntoPieces_3 : decode cX8_partIntoPieces 3 = .ok (.aload_n 0, 1) := by decide +kernel
theorem dX8_partIntoPieces_4 : decode cX8_partIntoPieces 4 = .ok (.getfield 10, 3) := by decide +kernel
theorem dX8_partIntoPieces_7 : decode cX8_partIntoPieces 7 = .ok (.getfield 223, 3) := by decide +kernel
theorem dX8_partIntoPieces_10 : decode cX8_partIntoPieces 10 = .ok (.if_icmp .ge 16, 3) := by decide +kernel
theorem dX8_partIntoPieces_13 : decode cX8_partIntoPieces 13 = .ok (.aload_n 0, 1) := by decide +kernel
theorem dX8_partIntoPieces_14 : decode cX8_partIntoPieces 14 = .ok (.getfield 68, 3) := by decide +kernel
theorem dX8_partIntoPieces_17 : decode cX8_partIntoPieces 17 = .ok (.iload_n 1, 1) := by decide +kernel
theorem dX8_partIntoPieces_18 : decode cX8_partIntoPieces 18 = .ok (.iload_n 1, 1) := by decide +kernel
theorem dX8_partIntoPieces_19 : decode cX8_partIntoPieces 19 = .ok (.iastore, 1) := by decide +kernel
theorem dX8_partIntoPieces_20 : decode cX8_partIntoPieces 20 = .ok (.iinc 1 1, 3) := by decide +kernel
theorem dX8_partIntoPieces_23 : decode cX8_partIntoPieces 23 = .ok (.goto (-21), 3) := by decide +kernel
theorem dX8_partIntoPieces_26 : decode cX8_partIntoPieces 26 = .ok (.iconst 0, 1) := by decide +kernel
theorem dX8_partIntoPieces_27 : decode cX8_partIntoPieces 27 = .ok (.istore_n 1, 1) := by decide +kernel
theorem dX8_partIntoPieces_28 : decode cX8_partIntoPieces 28 = .ok (.iload_n 1, 1) := by decide +kernel
theorem dX8_partIntoPieces_29 : decode cX8_partIntoPieces 29 = .ok (.aload_n 0, 1) := by decide +kernel
theorem dX8_partIntoPieces_30 : decode cX8_partIntoPieces 30 = .ok (.getfield 10, 3) := by decide +kernel
theorem dX8_partIntoPieces_33 : decode cX8_partIntoPieces 33 = .ok (.getfield 223, 3) := by decide +kernel
theorem dX8_partIntoPieces_36 : decode cX8_partIntoPieces 36 = .ok (.if_icmp .ge 84, 3) := by decide +kernel
theorem dX8_partIntoPieces_39 : decode cX8_partIntoPieces 39 = .ok (.iconst 0, 1) := by decide +kernel
theorem dX8_partIntoPieces_40 : decode cX8_partIntoPieces 40 = .ok (.istore_n 2, 1) := by decide +kernel
theorem dX8_partIntoPieces_41 : decode cX8_partIntoPieces 41 = .ok (.iload_n 2, 1) := by decide +kernel
theorem dX8_partIntoPieces_42 : decode cX8_partIntoPieces 42 = .ok (.iload_n 1, 1) := by decide +kernel
theorem dX8_partIntoPieces_43 : decode cX8_partIntoPieces 43 = .ok (.if_icmp .ge 71, 3) := by decide +kernel
theorem dX8_partIntoPieces_46 : decode cX8_partIntoPieces 46 = .ok (.aload_n 0, 1) := by decide +kernel
theorem dX8_partIntoPieces_47 : decode cX8_partIntoPieces 47 = .ok (.getfield 68, 3) := by decide +kernel
theorem dX8_partIntoPieces_50 : decode cX8_partIntoPieces 50 = .ok (.iload_n 1, 1) := by decide +kernel
theorem dX8_partIntoPieces_51 : decode cX8_partIntoPieces 51 = .ok (.iaload, 1) := by decide +kernel
theorem dX8_partIntoPieces_52 : decode cX8_partIntoPieces 52 = .ok (.aload_n 0, 1) := by decide +kernel
theorem dX8_partIntoPieces_53 : decode cX8_partIntoPieces 53 = .ok (.getfield 68, 3) := by decide +kernel
theorem dX8_partIntoPieces_56 : decode cX8_partIntoPieces 56 = .ok (.iload_n 2, 1) := by decide +kernel
theorem dX8_partIntoPieces_57 : decode cX8_partIntoPieces 57 = .ok (.iaload, 1) := by decide +kernel
theorem dX8_partIntoPieces_58 : decode cX8_partIntoPieces 58 = .ok (.if_icmp .eq 50, 3) := by decide +kernel
theorem dX8_partIntoPieces_61 : decode cX8_partIntoPieces 61 = .ok (.aload_n 0, 1) := by decide +kernel
theorem dX8_partIntoPieces_62 : decode cX8_partIntoPieces 62 = .ok (.getfield 10, 3) := by decide +kernel
theorem dX8_partIntoPieces_65 : decode cX8_partIntoPieces 65 = .ok (.getfield 82, 3) := by decide +kernel
theorem dX8_partIntoPieces_68 : decode cX8_partIntoPieces 68 = .ok (.aload_n 0, 1) := by decide +kernel
theorem dX8_partIntoPieces_69 : decode cX8_partIntoPieces 69 = .ok (.getfield 10, 3) := by decide +kernel
theorem dX8_partIntoPieces_72 : decode cX8_partIntoPieces 72 = .ok (.getfield 320, 3) := by decide +kernel
theorem dX8_partIntoPieces_75 : decode cX8_partIntoPieces 75 = .ok (.iload_n 1, 1) := by decide +kernel
theorem dX8_partIntoPieces_76 : decode cX8_partIntoPieces 76 = .ok (.iaload, 1) := by decide +kernel
theorem dX8_partIntoPieces_77 : decode cX8_partIntoPieces 77 = .ok (.aload_n 0, 1) := by decide +kernel
theorem dX8_partIntoPieces_78 : decode cX8_partIntoPieces 78 = .ok (.getfield 10, 3) := by decide +kernel
theorem dX8_partIntoPieces_81 : decode cX8_partIntoPieces 81 = .ok (.getfield 320, 3) := by decide +kernel
theorem dX8_partIntoPieces_84 : decode cX8_partIntoPieces 84 = .ok (.iload_n 2, 1) := by decide +kernel
theorem dX8_partIntoPieces_85 : decode cX8_partIntoPieces 85 = .ok (.iaload, 1) := by decide +kernel
theorem dX8_partIntoPieces_86 : decode cX8_partIntoPieces 86 = .ok (.invokevirtual 273, 3) := by decide +kernel
theorem dX8_partIntoPieces_89 : decode cX8_partIntoPieces 89 = .ok (.ifCond .le 19, 3) := by decide +kernel
theorem dX8_partIntoPieces_92 : decode cX8_partIntoPieces 92 = .ok (.aload_n 0, 1) := by decide +kernel
theorem dX8_partIntoPieces_93 : decode cX8_partIntoPieces 93 = .ok (.aload_n 0, 1) := by decide +kernel
theorem dX8_partIntoPieces_94 : decode cX8_partIntoPieces 94 = .ok (.getfield 68, 3) := by decide +kernel
theorem dX8_partIntoPieces_97 : decode cX8_partIntoPieces 97 = .ok (.iload_n 1, 1) := by decide +kernel
theorem dX8_partIntoPieces_98 : decode cX8_partIntoPieces 98 = .ok (.iaload, 1) := by decide +kernel
theorem dX8_partIntoPieces_99 : decode cX8_partIntoPieces 99 = .ok (.aload_n 0, 1) := by decide +kernel
theorem dX8_partIntoPieces_100 : decode cX8_partIntoPieces 100 = .ok (.getfield 68, 3) := by decide +kernel
theorem dX8_partIntoPieces_103 : decode cX8_partIntoPieces 103 = .ok (.iload_n 2, 1) := by decide +kernel
theorem dX8_partIntoPieces_104 : decode cX8_partIntoPieces 104 = .ok (.iaload, 1) := by decide +kernel
theorem dX8_partIntoPieces_105 : decode cX8_partIntoPieces 105 = .ok (.invokevirtual 346, 3) := by decide +kernel
theorem dX8_partIntoPieces_108 : decode cX8_partIntoPieces 108 = .ok (.iinc 2 1, 3) := by decide +kernel
theorem dX8_partIntoPieces_111 : decode cX8_partIntoPieces 111 = .ok (.goto (-70), 3) := by decide +kernel
theorem dX8_partIntoPieces_114 : decode cX8_partIntoPieces 114 = .ok (.iinc 1 1, 3) := by decide +kernel
theorem dX8_partIntoPieces_117 : decode cX8_partIntoPieces 117 = .ok (.goto (-89), 3) := by decide +kernel
theorem dX8_partIntoPieces_120 : decode cX8_partIntoPieces 120 = .ok (.return_, 1) := by decide +kernel
def X8_partIntoPieces_b41 (k28 : Int32 → gM → Option (Unit × gM)) (v2 : Int32) (v4 : Int32) (m5 : gM) (k41 : Int32 → gM → Option (Unit × gM)) : Option (Unit × gM) :=
  if v2 ≤ v4 then (gLet (v2 + 1) (fun (x6 : Int32) => k28 x6 m5)) else (gAt m5 45 0 v2 (fun (x7 : Int32) => gAt m5 45 0 v4 (fun (x8 : Int32) => if x7 = x8 then (gLet (v4 + 1) (fun (x9 : Int32) => k41 x9 m5)) else (gAt m5 40 0 v2 (fun (x10 : Int32) => gAt m5 40 0 v4 (fun (x11 : Int32) => gCall (X3_waysShared 0 x10 x11 m5) (fun (r13 : Int32) (m12 : gM) => if r13 ≤ 0 then (gLet (v4 + 1) (fun (x14 : Int32) => k41 x14 m12)) else (gAt m12 45 0 v2 (fun (x15 : Int32) => gAt m12 45 0 v4 (fun (x16 : Int32) => gCall (X8_joinPieces x15 x16 m12) (fun (r18 : Unit) (m17 : gM) => gLet (v4 + 1) (fun (x19 : Int32) => k41 x19 m17))))))))))))
def X8_partIntoPieces_b28 (v2 : Int32) (m3 : gM) (k28 : Int32 → gM → Option (Unit × gM)) : Option (Unit × gM) :=
  if (m3 6 0 7) ≤ v2 then (some ((), m3)) else (gL1 FU (X8_partIntoPieces_b41 k28 v2) 0 m3)
def X8_partIntoPieces_b2 (j26 : gM → Option (Unit × gM)) (v20 : Int32) (m21 : gM) (k2 : Int32 → gM → Option (Unit × gM)) : Option (Unit × gM) :=
  if (m21 6 0 7) ≤ v20 then (j26 m21) else (gPut m21 45 0 v20 v20 (fun (m22 : gM) => gLet (v20 + 1) (fun (x23 : Int32) => k2 x23 m22)))
def X8_partIntoPieces (m : gM) : Option (Unit × gM) :=
  gJ0 (fun (m1 : gM) => gL1 FU X8_partIntoPieces_b28 0 m1) (fun (j26 : gM → Option (Unit × gM)) => gL1 FU (X8_partIntoPieces_b2 j26) 0 m)
set_option maxRecDepth 100000 in
set_option maxHeartbeats 4000000 in
theorem c_X8_partIntoPieces (m : gM) : gCon eU yX8_partIntoPieces cX8_partIntoPieces 3 none 3 [.inr (8, 0)] m (X8_partIntoPieces m) := by
  refine gCon.of (lv := [some (.inr (8, 0)), none, none]) (by decide +kernel) (Nat.le_of_ble_eq_true rfl) rfl (fun X C => ?_)
  unfold X8_partIntoPieces
  refine r_iconst (v := 0) C dX8_partIntoPieces_0 (by decide) ?_
  refine r_istore_n (lv' := [some (.inr (8, 0)), some (.inl 0), none]) C dX8_partIntoPieces_1 rfl (by decide) rfl ?_
  refine r_j0 26 [some (.inr (8, 0)), none, none] [] (fun m1 => ?_) (fun j26 hj26 => ?_)
  · refine r_iconst (v := 0) C dX8_partIntoPieces_26 (by decide) ?_
    refine r_istore_n (lv' := [some (.inr (8, 0)), some (.inl 0), none]) C dX8_partIntoPieces_27 rfl (by decide) rfl ?_
    refine r_weak (lv' := [some (.inr (8, 0)), some (.inl 0), none]) ⟨rfl, rfl, trivial⟩ ?_
    refine r_l1 (pj := 28) (fun v2 => [some (.inr (8, 0)), some (.inl v2), none]) (fun v2 m3 k28 hk28 => ?_) _ _ _
    unfold X8_partIntoPieces_b28
    refine r_iload_n C dX8_partIntoPieces_28 rfl rfl ?_
    refine r_aload_n C dX8_partIntoPieces_29 rfl rfl ?_
    refine r_get (v := .inr (6, 0)) C fl_X8_10 dX8_partIntoPieces_30 rfl ?_
    refine r_get (v := .inl (m3 6 0 7)) C fl_X8_223 dX8_partIntoPieces_33 rfl ?_
    refine r_icmp_ge (tgt := 120) C dX8_partIntoPieces_36 (by decide) ?_ ?_
    · exact r_return C dX8_partIntoPieces_120
    refine r_iconst (v := 0) C dX8_partIntoPieces_39 (by decide) ?_
    refine r_istore_n (lv' := [some (.inr (8, 0)), some (.inl v2), some (.inl 0)]) C dX8_partIntoPieces_40 rfl (by decide) rfl ?_
    refine r_weak (lv' := [some (.inr (8, 0)), some (.inl v2), some (.inl 0)]) ⟨rfl, rfl, rfl, trivial⟩ ?_
    refine r_l1 (pj := 41) (fun v4 => [some (.inr (8, 0)), some (.inl v2), some (.inl v4)]) (fun v4 m5 k41 hk41 => ?_) _ _ _
    unfold X8_partIntoPieces_b41
    refine r_iload_n C dX8_partIntoPieces_41 rfl rfl ?_
    refine r_iload_n C dX8_partIntoPieces_42 rfl rfl ?_
    refine r_icmp_ge (tgt := 114) C dX8_partIntoPieces_43 (by decide) ?_ ?_
    · refine r_iinc (v := 1) C dX8_partIntoPieces_114 (by decide) rfl (by decide) (fun x6 => ?_)
      show gw X eU _ [some (.inr (8, 0)), some (.inl x6), some (.inl v4)] _ _ _
      refine r_goto (tgt := 28) C dX8_partIntoPieces_117 (by decide) ?_
      exact r_weak (lv' := [some (.inr (8, 0)), some (.inl x6), none]) ⟨rfl, rfl, trivial⟩ (hk28 _ _)
    refine r_aload_n C dX8_partIntoPieces_46 rfl rfl ?_
    refine r_get (v := .inr (45, 0)) C fl_X8_68 dX8_partIntoPieces_47 rfl ?_
    refine r_iload_n C dX8_partIntoPieces_50 rfl rfl ?_
    refine r_iald C rfl dX8_partIntoPieces_51 (fun x7 => ?_)
    refine r_aload_n C dX8_partIntoPieces_52 rfl rfl ?_
    refine r_get (v := .inr (45, 0)) C fl_X8_68 dX8_partIntoPieces_53 rfl ?_
    refine r_iload_n C dX8_partIntoPieces_56 rfl rfl ?_
    refine r_iald C rfl dX8_partIntoPieces_57 (fun x8 => ?_)
    refine r_icmp_eq (tgt := 108) C dX8_partIntoPieces_58 (by decide) ?_ ?_
    · refine r_iinc (v := 1) C dX8_partIntoPieces_108 (by decide) rfl (by decide) (fun x9 => ?_)
      show gw X eU _ [some (.inr (8, 0)), some (.inl v2), some (.inl x9)] _ _ _
      refine r_goto (tgt := 41) C dX8_partIntoPieces_111 (by decide) ?_
      exact r_weak (lv' := [some (.inr (8, 0)), some (.inl v2), some (.inl x9)]) ⟨rfl, rfl, rfl, trivial⟩ (hk41 _ _)
    refine r_aload_n C dX8_partIntoPieces_61 rfl rfl ?_
    refine r_get (v := .inr (6, 0)) C fl_X8_10 dX8_partIntoPieces_62 rfl ?_
    refine r_get (v := .inr (3, 0)) C fl_X8_82 dX8_partIntoPieces_65 rfl ?_
    refine r_aload_n C dX8_partIntoPieces_68 rfl rfl ?_
    refine r_get (v := .inr (6, 0)) C fl_X8_10 dX8_partIntoPieces_69 rfl ?_
    refine r_get (v := .inr (40, 0)) C fl_X8_320 dX8_partIntoPieces_72 rfl ?_
    refine r_iload_n C dX8_partIntoPieces_75 rfl rfl ?_
    refine r_iald C rfl dX8_partIntoPieces_76 (fun x10 => ?_)
    refine r_aload_n C dX8_partIntoPieces_77 rfl rfl ?_
    refine r_get (v := .inr (6, 0)) C fl_X8_10 dX8_partIntoPieces_78 rfl ?_
    refine r_get (v := .inr (40, 0)) C fl_X8_320 dX8_partIntoPieces_81 rfl ?_
    refine r_iload_n C dX8_partIntoPieces_84 rfl rfl ?_
    refine r_iald C rfl dX8_partIntoPieces_85 (fun x11 => ?_)
    refine r_invI (t := 3) (kb := 0) (As := [.inl x10, .inl x11]) (st := []) C il_X8_273 co_X3_waysShared (by decide) rfl (c_X3_waysShared 0 x10 x11 m5) (by decide) (by decide) rfl rfl (Nat.le_of_ble_eq_true rfl) dX8_partIntoPieces_86 (fun r13 m12 => ?_)
    refine r_if_le (tgt := 108) C dX8_partIntoPieces_89 (by decide) ?_ ?_
    · refine r_iinc (v := 1) C dX8_partIntoPieces_108 (by decide) rfl (by decide) (fun x14 => ?_)
      show gw X eU _ [some (.inr (8, 0)), some (.inl v2), some (.inl x14)] _ _ _
      refine r_goto (tgt := 41) C dX8_partIntoPieces_111 (by decide) ?_
      exact r_weak (lv' := [some (.inr (8, 0)), some (.inl v2), some (.inl x14)]) ⟨rfl, rfl, rfl, trivial⟩ (hk41 _ _)
    refine r_aload_n C dX8_partIntoPieces_92 rfl rfl ?_
    refine r_aload_n C dX8_partIntoPieces_93 rfl rfl ?_
    refine r_get (v := .inr (45, 0)) C fl_X8_68 dX8_partIntoPieces_94 rfl ?_
    refine r_iload_n C dX8_partIntoPieces_97 rfl rfl ?_
    refine r_iald C rfl dX8_partIntoPieces_98 (fun x15 => ?_)
    refine r_aload_n C dX8_partIntoPieces_99 rfl rfl ?_
    refine r_get (v := .inr (45, 0)) C fl_X8_68 dX8_partIntoPieces_100 rfl ?_
    refine r_iload_n C dX8_partIntoPieces_103 rfl rfl ?_
    refine r_iald C rfl dX8_partIntoPieces_104 (fun x16 => ?_)
    refine r_invU (t := 8) (kb := 0) (As := [.inl x15, .inl x16]) (st := []) C il_X8_346 co_X8_joinPieces (by decide) rfl (c_X8_joinPieces x15 x16 m12) (by decide) (by decide) rfl rfl (Nat.le_of_ble_eq_true rfl) dX8_partIntoPieces_105 (fun r18 m17 => ?_)
    refine r_iinc (v := 1) C dX8_partIntoPieces_108 (by decide) rfl (by decide) (fun x19 => ?_)
    show gw X eU _ [some (.inr (8, 0)), some (.inl v2), some (.inl x19)] _ _ _
    refine r_goto (tgt := 41) C dX8_partIntoPieces_111 (by decide) ?_
    exact r_weak (lv' := [some (.inr (8, 0)), some (.inl v2), some (.inl x19)]) ⟨rfl, rfl, rfl, trivial⟩ (hk41 _ _)
  refine r_weak (lv' := [some (.inr (8, 0)), some (.inl 0), none]) ⟨rfl, rfl, trivial⟩ ?_
  refine r_l1 (pj := 2) (fun v20 => [some (.inr (8, 0)), some (.inl v20), none]) (fun v20 m21 k2 hk2 => ?_) _ _ _
  unfold X8_partIntoPieces_b2
  refine r_iload_n C dX8_partIntoPieces_2 rfl rfl ?_
  refine r_aload_n C dX8_partIntoPieces_3 rfl rfl ?_
  refine r_get (v := .inr (6, 0)) C fl_X8_10 dX8_partIntoPieces_4 rfl ?_
  refine r_get (v := .inl (m21 6 0 7)) C fl_X8_223 dX8_partIntoPieces_7 rfl ?_
  refine r_icmp_ge (tgt := 26) C dX8_partIntoPieces_10 (by decide) ?_ ?_
  · exact r_weak (lv' := [some (.inr (8, 0)), none, none]) ⟨rfl, trivial⟩ (hj26 _)
  refine r_aload_n C dX8_partIntoPieces_13 rfl rfl ?_
  refine r_get (v := .inr (45, 0)) C fl_X8_68 dX8_partIntoPieces_14 rfl ?_
  refine r_iload_n C dX8_partIntoPieces_17 rfl rfl ?_
  refine r_iload_n C dX8_partIntoPieces_18 rfl rfl ?_
  refine r_iast C rfl dX8_partIntoPieces_19 (fun m22 => ?_)
  refine r_iinc (v := 1) C dX8_partIntoPieces_20 (by decide) rfl (by decide) (fun x23 => ?_)
  show gw X eU _ [some (.inr (8, 0)), some (.inl x23), none] _ _ _
  refine r_goto (tgt := 2) C dX8_partIntoPieces_23 (by decide) ?_
  exact r_weak (lv' := [some (.inr (8, 0)), some (.inl x23), none]) ⟨rfl, rfl, trivial⟩ (hk2 _ _)
theorem dX8_pieces_0 : decode cX8_pieces 0 = .ok (.aload_n 0, 1) := by decide +kernel
theorem dX8_pieces_1 : decode cX8_pieces 1 = .ok (.invokevirtual 343, 3) := by decide +kernel
theorem dX8_pieces_4 : decode cX8_pieces 4 = .ok (.iconst 0, 1) := by decide +kernel
theorem dX8_pieces_5 : decode cX8_pieces 5 = .ok (.istore_n 1, 1) := by decide +kernel
theorem dX8_pieces_6 : decode cX8_pieces 6 = .ok (.iconst 0, 1) := by decide +kernel
theorem dX8_pieces_7 : decode cX8_pieces 7 = .ok (.istore_n 2, 1) := by decide +kernel
theorem dX8_pieces_8 : decode cX8_pieces 8 = .ok (.iload_n 2, 1) := by decide +kernel
theorem dX8_pieces_9 : decode cX8_pieces 9 = .ok (.aload_n 0, 1) := by decide +kernel
theorem dX8_pieces_10 : decode cX8_pieces 10 = .ok (.getfield 10, 3) := by decide +kernel
theorem dX8_pieces_13 : decode cX8_pieces 13 = .ok (.getfield 223, 3) := by decide +kernel
theorem dX8_pieces_16 : decode cX8_pieces 16 = .ok (.if_icmp .ge 22, 3) := by decide +kernel
theorem dX8_pieces_19 : decode cX8_pieces 19 = .ok (.aload_n 0, 1) := by decide +kernel
theorem dX8_pieces_20 : decode cX8_pieces 20 = .ok (.getfield 68, 3) := by decide +kernel
theorem dX8_pieces_23 : decode cX8_pieces 23 = .ok (.iload_n 2, 1) := by decide +kernel
theorem dX8_pieces_24 : decode cX8_pieces 24 = .ok (.iaload, 1) := by decide +kernel
theorem dX8_pieces_25 : decode cX8_pieces 25 = .ok (.iload_n 2, 1) := by decide +kernel
theorem dX8_pieces_26 : decode cX8_pieces 26 = .ok (.if_icmp .ne 6, 3) := by decide +kernel
theorem dX8_pieces_29 : decode cX8_pieces 29 = .ok (.iinc 1 1, 3) := by decide +kernel
theorem dX8_pieces_32 : decode cX8_pieces 32 = .ok (.iinc 2 1, 3) := by decide +kernel
theorem dX8_pieces_35 : decode cX8_pieces 35 = .ok (.goto (-27), 3) := by decide +kernel
theorem dX8_pieces_38 : decode cX8_pieces 38 = .ok (.iload_n 1, 1) := by decide +kernel
theorem dX8_pieces_39 : decode cX8_pieces 39 = .ok (.ireturn, 1) := by decide +kernel
def X8_pieces_b8 (v3 v4 : Int32) (m5 : gM) (k8 : Int32 → Int32 → gM → Option (Int32 × gM)) : Option (Int32 × gM) :=
  if (m5 6 0 7) ≤ v4 then (some (v3, m5)) else (gAt m5 45 0 v4 (fun (x6 : Int32) => if x6 = v4 then (gLet (v3 + 1) (fun (x8 : Int32) => gLet (v4 + 1) (fun (x9 : Int32) => k8 x8 x9 m5))) else (gLet (v4 + 1) (fun (x7 : Int32) => k8 v3 x7 m5))))
def X8_pieces (m : gM) : Option (Int32 × gM) :=
  gCall (X8_partIntoPieces m) (fun (r2 : Unit) (m1 : gM) => gL2 FU X8_pieces_b8 0 0 m1)
set_option maxRecDepth 100000 in
set_option maxHeartbeats 4000000 in
theorem c_X8_pieces (m : gM) : gCon eI yX8_pieces cX8_pieces 3 (some .int) 4 [.inr (8, 0)] m (X8_pieces m) := by
  refine gCon.of (lv := [some (.inr (8, 0)), none, none]) (by decide +kernel) (Nat.le_of_ble_eq_true rfl) rfl (fun X C => ?_)
  unfold X8_pieces
  refine r_aload_n C dX8_pieces_0 rfl rfl ?_
  refine r_invU (t := 8) (kb := 0) (As := []) (st := []) C il_X8_343 co_X8_partIntoPieces (by decide) rfl (c_X8_partIntoPieces m) (by decide) (by decide) rfl rfl (Nat.le_of_ble_eq_true rfl) dX8_pieces_1 (fun r2 m1 => ?_)
  refine r_iconst (v := 0) C dX8_pieces_4 (by decide) ?_
  refine r_istore_n (lv' := [some (.inr (8, 0)), some (.inl 0), none]) C dX8_pieces_5 rfl (by decide) rfl ?_
  refine r_iconst (v := 0) C dX8_pieces_6 (by decide) ?_
  refine r_istore_n (lv' := [some (.inr (8, 0)), some (.inl 0), some (.inl 0)]) C dX8_pieces_7 rfl (by decide) rfl ?_
  refine r_weak (lv' := [some (.inr (8, 0)), some (.inl 0), some (.inl 0)]) ⟨rfl, rfl, rfl, trivial⟩ ?_
  refine r_l2 (pj := 8) (fun v3 v4 => [some (.inr (8, 0)), some (.inl v3), some (.inl v4)]) (fun v3 v4 m5 k8 hk8 => ?_) _ _ _ _
  unfold X8_pieces_b8
  refine r_iload_n C dX8_pieces_8 rfl rfl ?_
  refine r_aload_n C dX8_pieces_9 rfl rfl ?_
  refine r_get (v := .inr (6, 0)) C fl_X8_10 dX8_pieces_10 rfl ?_
  refine r_get (v := .inl (m5 6 0 7)) C fl_X8_223 dX8_pieces_13 rfl ?_
  refine r_icmp_ge (tgt := 38) C dX8_pieces_16 (by decide) ?_ ?_
  · refine r_iload_n C dX8_pieces_38 rfl rfl ?_
    exact r_ireturn C dX8_pieces_39
  refine r_aload_n C dX8_pieces_19 rfl rfl ?_
  refine r_get (v := .inr (45, 0)) C fl_X8_68 dX8_pieces_20 rfl ?_
  refine r_iload_n C dX8_pieces_23 rfl rfl ?_
  refine r_iald C rfl dX8_pieces_24 (fun x6 => ?_)
  refine r_iload_n C dX8_pieces_25 rfl rfl ?_
  refine r_icmp_ne (tgt := 32) C dX8_pieces_26 (by decide) ?_ ?_
  · refine r_iinc (v := 1) C dX8_pieces_32 (by decide) rfl (by decide) (fun x7 => ?_)
    show gw X eI _ [some (.inr (8, 0)), some (.inl v3), some (.inl x7)] _ _ _
    refine r_goto (tgt := 8) C dX8_pieces_35 (by decide) ?_
    exact r_weak (lv' := [some (.inr (8, 0)), some (.inl v3), some (.inl x7)]) ⟨rfl, rfl, rfl, trivial⟩ (hk8 _ _ _)
  refine r_iinc (v := 1) C dX8_pieces_29 (by decide) rfl (by decide) (fun x8 => ?_)
  show gw X eI _ [some (.inr (8, 0)), some (.inl x8), some (.inl v4)] _ _ _
  refine r_iinc (v := 1) C dX8_pieces_32 (by decide) rfl (by decide) (fun x9 => ?_)
  show gw X eI _ [some (.inr (8, 0)), some (.inl x8), some (.inl x9)] _ _ _
  refine r_goto (tgt := 8) C dX8_pieces_35 (by decide) ?_
  exact r_weak (lv' := [some (.inr (8, 0)), some (.inl x8), some (.inl x9)]) ⟨rfl, rfl, rfl, trivial⟩ (hk8 _ _ _)
theorem dX8_piece_0 : decode cX8_piece 0 = .ok (.aload_n 0, 1) := by decide +kernel
theorem dX8_piece_1 : decode cX8_piece 1 = .ok (.getfield 10, 3) := by decide +kernel
theorem dX8_piece_4 : decode cX8_piece 4 = .ok (.iload_n 1, 1) := by decide +kernel
theorem dX8_piece_5 : decode cX8_piece 5 = .ok (.invokevirtual 220, 3) := by decide +kernel
theorem dX8_piece_8 : decode cX8_piece 8 = .ok (.istore_n 2, 1) := by decide +kernel
theorem dX8_piece_9 : decode cX8_piece 9 = .ok (.iload_n 2, 1) := by decide +kernel
theorem dX8_piece_10 : decode cX8_piece 10 = .ok (.iconst (-1), 1) := by decide +kernel
theorem dX8_piece_11 : decode cX8_piece 11 = .ok (.if_icmp .ne 5, 3) := by decide +kernel
theorem dX8_piece_14 : decode cX8_piece 14 = .ok (.iconst (-1), 1) := by decide +kernel
theorem dX8_piece_15 : decode cX8_piece 15 = .ok (.ireturn, 1) := by decide +kernel
theorem dX8_piece_16 : decode cX8_piece 16 = .ok (.aload_n 0, 1) := by decide +kernel
theorem dX8_piece_17 : decode cX8_piece 17 = .ok (.invokevirtual 343, 3) := by decide +kernel
theorem dX8_piece_20 : decode cX8_piece 20 = .ok (.iconst 0, 1) := by decide +kernel
theorem dX8_piece_21 : decode cX8_piece 21 = .ok (.istore_n 3, 1) := by decide +kernel
theorem dX8_piece_22 : decode cX8_piece 22 = .ok (.iconst 0, 1) := by decide +kernel
theorem dX8_piece_23 : decode cX8_piece 23 = .ok (.istore 4, 2) := by decide +kernel
theorem dX8_piece_25 : decode cX8_piece 25 = .ok (.iload 4, 2) := by decide +kernel
theorem dX8_piece_27 : decode cX8_piece 27 = .ok (.aload_n 0, 1) := by decide +kernel
theorem dX8_piece_28 : decode cX8_piece 28 = .ok (.getfield 10, 3) := by decide +kernel
theorem dX8_piece_31 : decode cX8_piece 31 = .ok (.getfield 223, 3) := by decide +kernel
theorem dX8_piece_34 : decode cX8_piece 34 = .ok (.if_icmp .ge 28, 3) := by decide +kernel
theorem dX8_piece_37 : decode cX8_piece 37 = .ok (.aload_n 0, 1) := by decide +kernel
theorem dX8_piece_38 : decode cX8_piece 38 = .ok (.getfield 68, 3) := by decide +kernel
theorem dX8_piece_41 : decode cX8_piece 41 = .ok (.iload 4, 2) := by decide +kernel
theorem dX8_piece_43 : decode cX8_piece 43 = .ok (.iaload, 1) := by decide +kernel
theorem dX8_piece_44 : decode cX8_piece 44 = .ok (.aload_n 0, 1) := by decide +kernel
theorem dX8_piece_45 : decode cX8_piece 45 = .ok (.getfield 68, 3) := by decide +kernel
theorem dX8_piece_48 : decode cX8_piece 48 = .ok (.iload_n 2, 1) := by decide +kernel
theorem dX8_piece_49 : decode cX8_piece 49 = .ok (.iaload, 1) := by decide +kernel
theorem dX8_piece_50 : decode cX8_piece 50 = .ok (.if_icmp .ne 6, 3) := by decide +kernel
theorem dX8_piece_53 : decode cX8_piece 53 = .ok (.iinc 3 1, 3) := by decide +kernel
theorem dX8_piece_56 : decode cX8_piece 56 = .ok (.iinc 4 1, 3) := by decide +kernel
theorem dX8_piece_59 : decode cX8_piece 59 = .ok (.goto (-34), 3) := by decide +kernel
theorem dX8_piece_62 : decode cX8_piece 62 = .ok (.iload_n 3, 1) := by decide +kernel
theorem dX8_piece_63 : decode cX8_piece 63 = .ok (.ireturn, 1) := by decide +kernel
def X8_piece_b25 (r2 : Int32) (v5 v6 : Int32) (m7 : gM) (k25 : Int32 → Int32 → gM → Option (Int32 × gM)) : Option (Int32 × gM) :=
  if (m7 6 0 7) ≤ v6 then (some (v5, m7)) else (gAt m7 45 0 v6 (fun (x8 : Int32) => gAt m7 45 0 r2 (fun (x9 : Int32) => if x8 = x9 then (gLet (v5 + 1) (fun (x11 : Int32) => gLet (v6 + 1) (fun (x12 : Int32) => k25 x11 x12 m7))) else (gLet (v6 + 1) (fun (x10 : Int32) => k25 v5 x10 m7)))))
def X8_piece (a1 : Int32) (m : gM) : Option (Int32 × gM) :=
  gCall (X6_placeInSet 0 a1 m) (fun (r2 : Int32) (m1 : gM) => if r2 = (-1) then (some ((-1), m1)) else (gCall (X8_partIntoPieces m1) (fun (r4 : Unit) (m3 : gM) => gL2 FU (X8_piece_b25 r2) 0 0 m3)))
set_option maxRecDepth 100000 in
set_option maxHeartbeats 4000000 in
theorem c_X8_piece (a1 : Int32) (m : gM) : gCon eI yX8_piece cX8_piece 5 (some .int) 4 [.inr (8, 0), .inl a1] m (X8_piece a1 m) := by
  refine gCon.of (lv := [some (.inr (8, 0)), some (.inl a1), none, none, none]) (by decide +kernel) (Nat.le_of_ble_eq_true rfl) rfl (fun X C => ?_)
  unfold X8_piece
  refine r_aload_n C dX8_piece_0 rfl rfl ?_
  refine r_get (v := .inr (6, 0)) C fl_X8_10 dX8_piece_1 rfl ?_
  refine r_iload_n C dX8_piece_4 rfl rfl ?_
  refine r_invI (t := 6) (kb := 0) (As := [.inl a1]) (st := []) C il_X8_220 co_X6_placeInSet (by decide) rfl (c_X6_placeInSet 0 a1 m) (by decide) (by decide) rfl rfl (Nat.le_of_ble_eq_true rfl) dX8_piece_5 (fun r2 m1 => ?_)
  refine r_istore_n (lv' := [some (.inr (8, 0)), some (.inl a1), some (.inl r2), none, none]) C dX8_piece_8 rfl (by decide) rfl ?_
  refine r_iload_n C dX8_piece_9 rfl rfl ?_
  refine r_iconst (v := (-1)) C dX8_piece_10 (by decide) ?_
  refine r_icmp_ne (tgt := 16) C dX8_piece_11 (by decide) ?_ ?_
  · refine r_aload_n C dX8_piece_16 rfl rfl ?_
    refine r_invU (t := 8) (kb := 0) (As := []) (st := []) C il_X8_343 co_X8_partIntoPieces (by decide) rfl (c_X8_partIntoPieces m1) (by decide) (by decide) rfl rfl (Nat.le_of_ble_eq_true rfl) dX8_piece_17 (fun r4 m3 => ?_)
    refine r_iconst (v := 0) C dX8_piece_20 (by decide) ?_
    refine r_istore_n (lv' := [some (.inr (8, 0)), some (.inl a1), some (.inl r2), some (.inl 0), none]) C dX8_piece_21 rfl (by decide) rfl ?_
    refine r_iconst (v := 0) C dX8_piece_22 (by decide) ?_
    refine r_istore (lv' := [some (.inr (8, 0)), some (.inl a1), some (.inl r2), some (.inl 0), some (.inl 0)]) C dX8_piece_23 (by decide) rfl ?_
    refine r_weak (lv' := [some (.inr (8, 0)), none, some (.inl r2), some (.inl 0), some (.inl 0)]) ⟨rfl, rfl, rfl, rfl, trivial⟩ ?_
    refine r_l2 (pj := 25) (fun v5 v6 => [some (.inr (8, 0)), none, some (.inl r2), some (.inl v5), some (.inl v6)]) (fun v5 v6 m7 k25 hk25 => ?_) _ _ _ _
    unfold X8_piece_b25
    refine r_iload C dX8_piece_25 rfl ?_
    refine r_aload_n C dX8_piece_27 rfl rfl ?_
    refine r_get (v := .inr (6, 0)) C fl_X8_10 dX8_piece_28 rfl ?_
    refine r_get (v := .inl (m7 6 0 7)) C fl_X8_223 dX8_piece_31 rfl ?_
    refine r_icmp_ge (tgt := 62) C dX8_piece_34 (by decide) ?_ ?_
    · refine r_iload_n C dX8_piece_62 rfl rfl ?_
      exact r_ireturn C dX8_piece_63
    refine r_aload_n C dX8_piece_37 rfl rfl ?_
    refine r_get (v := .inr (45, 0)) C fl_X8_68 dX8_piece_38 rfl ?_
    refine r_iload C dX8_piece_41 rfl ?_
    refine r_iald C rfl dX8_piece_43 (fun x8 => ?_)
    refine r_aload_n C dX8_piece_44 rfl rfl ?_
    refine r_get (v := .inr (45, 0)) C fl_X8_68 dX8_piece_45 rfl ?_
    refine r_iload_n C dX8_piece_48 rfl rfl ?_
    refine r_iald C rfl dX8_piece_49 (fun x9 => ?_)
    refine r_icmp_ne (tgt := 56) C dX8_piece_50 (by decide) ?_ ?_
    · refine r_iinc (v := 1) C dX8_piece_56 (by decide) rfl (by decide) (fun x10 => ?_)
      show gw X eI _ [some (.inr (8, 0)), none, some (.inl r2), some (.inl v5), some (.inl x10)] _ _ _
      refine r_goto (tgt := 25) C dX8_piece_59 (by decide) ?_
      exact r_weak (lv' := [some (.inr (8, 0)), none, some (.inl r2), some (.inl v5), some (.inl x10)]) ⟨rfl, rfl, rfl, rfl, trivial⟩ (hk25 _ _ _)
    refine r_iinc (v := 1) C dX8_piece_53 (by decide) rfl (by decide) (fun x11 => ?_)
    show gw X eI _ [some (.inr (8, 0)), none, some (.inl r2), some (.inl x11), some (.inl v6)] _ _ _
    refine r_iinc (v := 1) C dX8_piece_56 (by decide) rfl (by decide) (fun x12 => ?_)
    show gw X eI _ [some (.inr (8, 0)), none, some (.inl r2), some (.inl x11), some (.inl x12)] _ _ _
    refine r_goto (tgt := 25) C dX8_piece_59 (by decide) ?_
    exact r_weak (lv' := [some (.inr (8, 0)), none, some (.inl r2), some (.inl x11), some (.inl x12)]) ⟨rfl, rfl, rfl, rfl, trivial⟩ (hk25 _ _ _)
  refine r_iconst (v := (-1)) C dX8_piece_14 (by decide) ?_
  exact r_ireturn C dX8_piece_15
theorem dX8_reach_0 : decode cX8_reach 0 = .ok (.iload_n 1, 1) := by decide +kernel
theorem dX8_reach_1 : decode cX8_reach 1 = .ok (.invokestatic 116, 3) := by decide +kernel
theorem dX8_reach_4 : decode cX8_reach 4 = .ok (.ifCond .eq 10, 3) := by decide +kernel
theorem dX8_reach_7 : decode cX8_reach 7 = .ok (.iload_n 2, 1) := by decide +kernel
theorem dX8_reach_8 : decode cX8_reach 8 = .ok (.invokestatic 201, 3) := by decide +kernel
theorem dX8_reach_11 : decode cX8_reach 11 = .ok (.ifCond .ne 5, 3) := by decide +kernel
theorem dX8_reach_14 : decode cX8_reach 14 = .ok (.iconst (-1), 1) := by decide +kernel
theorem dX8_reach_15 : decode cX8_reach 15 = .ok (.ireturn, 1) := by decide +kernel
theorem dX8_reach_16 : decode cX8_reach 16 = .ok (.aload_n 0, 1) := by decide +kernel
theorem dX8_reach_17 : decode cX8_reach 17 = .ok (.getfield 29, 3) := by decide +kernel
theorem dX8_reach_20 : decode cX8_reach 20 = .ok (.aload_n 0, 1) := by decide +kernel
theorem dX8_reach_21 : decode cX8_reach 21 = .ok (.getfield 10, 3) := by decide +kernel
theorem dX8_reach_24 : decode cX8_reach 24 = .ok (.getfield 82, 3) := by decide +kernel
theorem dX8_reach_27 : decode cX8_reach 27 = .ok (.iload_n 1, 1) := by decide +kernel
theorem dX8_reach_28 : decode cX8_reach 28 = .ok (.iload_n 2, 1) := by decide +kernel
theorem dX8_reach_29 : decode cX8_reach 29 = .ok (.invokevirtual 349, 3) := by decide +kernel
theorem dX8_reach_32 : decode cX8_reach 32 = .ok (.aload_n 0, 1) := by decide +kernel
theorem dX8_reach_33 : decode cX8_reach 33 = .ok (.getfield 29, 3) := by decide +kernel
theorem dX8_reach_36 : decode cX8_reach 36 = .ok (.getfield 353, 3) := by decide +kernel
theorem dX8_reach_39 : decode cX8_reach 39 = .ok (.ireturn, 1) := by decide +kernel
def X8_reach (a1 : Int32) (a2 : Int32) (m : gM) : Option (Int32 × gM) :=
  gCall (X8_isLine a1 m) (fun (r2 : Bool) (m1 : gM) => if r2 = true then (gCall (X8_isDepth a2 m1) (fun (r4 : Bool) (m3 : gM) => if r4 = true then (gCall (X1_lookUnlessHeld 0 a1 a2 m3) (fun (r6 : Unit) (m5 : gM) => some ((m5 1 0 3), m5))) else (some ((-1), m3)))) else (some ((-1), m1)))
set_option maxRecDepth 100000 in
set_option maxHeartbeats 4000000 in
theorem c_X8_reach (a1 : Int32) (a2 : Int32) (m : gM) : gCon eI yX8_reach cX8_reach 3 (some .int) 5 [.inr (8, 0), .inl a1, .inl a2] m (X8_reach a1 a2 m) := by
  refine gCon.of (lv := [some (.inr (8, 0)), some (.inl a1), some (.inl a2)]) (by decide +kernel) (Nat.le_of_ble_eq_true rfl) rfl (fun X C => ?_)
  unfold X8_reach
  refine r_iload_n C dX8_reach_0 rfl rfl ?_
  refine r_insB (As := [.inl a1]) (st := []) C il_X8_116 co_X8_isLine (c_X8_isLine a1 m) (by decide) (by decide) rfl rfl (Nat.le_of_ble_eq_true rfl) dX8_reach_1 (fun r2 m1 => ?_)
  refine r_ifeqB (tgt := 14) C dX8_reach_4 (by decide) ?_ ?_
  · refine r_iconst (v := (-1)) C dX8_reach_14 (by decide) ?_
    exact r_ireturn C dX8_reach_15
  refine r_iload_n C dX8_reach_7 rfl rfl ?_
  refine r_insB (As := [.inl a2]) (st := []) C il_X8_201 co_X8_isDepth (c_X8_isDepth a2 m1) (by decide) (by decide) rfl rfl (Nat.le_of_ble_eq_true rfl) dX8_reach_8 (fun r4 m3 => ?_)
  refine r_ifneB (tgt := 16) C dX8_reach_11 (by decide) ?_ ?_
  · refine r_aload_n C dX8_reach_16 rfl rfl ?_
    refine r_get (v := .inr (1, 0)) C fl_X8_29 dX8_reach_17 rfl ?_
    refine r_aload_n C dX8_reach_20 rfl rfl ?_
    refine r_get (v := .inr (6, 0)) C fl_X8_10 dX8_reach_21 rfl ?_
    refine r_get (v := .inr (3, 0)) C fl_X8_82 dX8_reach_24 rfl ?_
    refine r_iload_n C dX8_reach_27 rfl rfl ?_
    refine r_iload_n C dX8_reach_28 rfl rfl ?_
    refine r_invU (t := 1) (kb := 0) (As := [.inr (3, 0), .inl a1, .inl a2]) (st := []) C il_X8_349 co_X1_lookUnlessHeld (by decide) rfl (c_X1_lookUnlessHeld 0 a1 a2 m3) (by decide) (by decide) rfl rfl (Nat.le_of_ble_eq_true rfl) dX8_reach_29 (fun r6 m5 => ?_)
    refine r_aload_n C dX8_reach_32 rfl rfl ?_
    refine r_get (v := .inr (1, 0)) C fl_X8_29 dX8_reach_33 rfl ?_
    refine r_get (v := .inl (m5 1 0 3)) C fl_X8_353 dX8_reach_36 rfl ?_
    exact r_ireturn C dX8_reach_39
  refine r_iconst (v := (-1)) C dX8_reach_14 (by decide) ?_
  exact r_ireturn C dX8_reach_15
theorem dX8_candidate_0 : decode cX8_candidate 0 = .ok (.iload_n 1, 1) := by decide +kernel
theorem dX8_candidate_1 : decode cX8_candidate 1 = .ok (.invokestatic 116, 3) := by decide +kernel
theorem dX8_candidate_4 : decode cX8_candidate 4 = .ok (.ifCond .ne 5, 3) := by decide +kernel
theorem dX8_candidate_7 : decode cX8_candidate 7 = .ok (.iconst (-1), 1) := by decide +kernel
theorem dX8_candidate_8 : decode cX8_candidate 8 = .ok (.ireturn, 1) := by decide +kernel
theorem dX8_candidate_9 : decode cX8_candidate 9 = .ok (.aload_n 0, 1) := by decide +kernel
theorem dX8_candidate_10 : decode cX8_candidate 10 = .ok (.getfield 29, 3) := by decide +kernel
theorem dX8_candidate_13 : decode cX8_candidate 13 = .ok (.aload_n 0, 1) := by decide +kernel
theorem dX8_candidate_14 : decode cX8_candidate 14 = .ok (.getfield 10, 3) := by decide +kernel
theorem dX8_candidate_17 : decode cX8_candidate 17 = .ok (.getfield 82, 3) := by decide +kernel
theorem dX8_candidate_20 : decode cX8_candidate 20 = .ok (.iload_n 1, 1) := by decide +kernel
theorem dX8_candidate_21 : decode cX8_candidate 21 = .ok (.aload_n 0, 1) := by decide +kernel
theorem dX8_candidate_22 : decode cX8_candidate 22 = .ok (.getfield 10, 3) := by decide +kernel
theorem dX8_candidate_25 : decode cX8_candidate 25 = .ok (.getfield 82, 3) := by decide +kernel
theorem dX8_candidate_28 : decode cX8_candidate 28 = .ok (.getfield 204, 3) := by decide +kernel
theorem dX8_candidate_31 : decode cX8_candidate 31 = .ok (.invokevirtual 349, 3) := by decide +kernel
theorem dX8_candidate_34 : decode cX8_candidate 34 = .ok (.iload_n 2, 1) := by decide +kernel
theorem dX8_candidate_35 : decode cX8_candidate 35 = .ok (.iconst (-1), 1) := by decide +kernel
theorem dX8_candidate_36 : decode cX8_candidate 36 = .ok (.if_icmp .ne 11, 3) := by decide +kernel
theorem dX8_candidate_39 : decode cX8_candidate 39 = .ok (.aload_n 0, 1) := by decide +kernel
theorem dX8_candidate_40 : decode cX8_candidate 40 = .ok (.getfield 29, 3) := by decide +kernel
theorem dX8_candidate_43 : decode cX8_candidate 43 = .ok (.getfield 353, 3) := by decide +kernel
theorem dX8_candidate_46 : decode cX8_candidate 46 = .ok (.ireturn, 1) := by decide +kernel
theorem dX8_candidate_47 : decode cX8_candidate 47 = .ok (.iload_n 2, 1) := by decide +kernel
theorem dX8_candidate_48 : decode cX8_candidate 48 = .ok (.ifCond .lt 26, 3) := by decide +kernel
theorem dX8_candidate_51 : decode cX8_candidate 51 = .ok (.iload_n 2, 1) := by decide +kernel
theorem dX8_candidate_52 : decode cX8_candidate 52 = .ok (.aload_n 0, 1) := by decide +kernel
theorem dX8_candidate_53 : decode cX8_candidate 53 = .ok (.getfield 29, 3) := by decide +kernel
theorem dX8_candidate_56 : decode cX8_candidate 56 = .ok (.getfield 353, 3) := by decide +kernel
theorem dX8_candidate_59 : decode cX8_candidate 59 = .ok (.if_icmp .ge 15, 3) := by decide +kernel
theorem dX8_candidate_62 : decode cX8_candidate 62 = .ok (.aload_n 0, 1) := by decide +kernel
theorem dX8_candidate_63 : decode cX8_candidate 63 = .ok (.getfield 29, 3) := by decide +kernel
theorem dX8_candidate_66 : decode cX8_candidate 66 = .ok (.getfield 356, 3) := by decide +kernel
theorem dX8_candidate_69 : decode cX8_candidate 69 = .ok (.iload_n 2, 1) := by decide +kernel
theorem dX8_candidate_70 : decode cX8_candidate 70 = .ok (.iaload, 1) := by decide +kernel
theorem dX8_candidate_71 : decode cX8_candidate 71 = .ok (.goto 4, 3) := by decide +kernel
theorem dX8_candidate_74 : decode cX8_candidate 74 = .ok (.iconst (-1), 1) := by decide +kernel
theorem dX8_candidate_75 : decode cX8_candidate 75 = .ok (.ireturn, 1) := by decide +kernel
def X8_candidate (a1 : Int32) (a2 : Int32) (m : gM) : Option (Int32 × gM) :=
  gCall (X8_isLine a1 m) (fun (r2 : Bool) (m1 : gM) => if r2 = true then (gCall (X1_lookUnlessHeld 0 a1 (m1 3 0 2) m1) (fun (r4 : Unit) (m3 : gM) => if a2 = (-1) then (some ((m3 1 0 3), m3)) else (if a2 < 0 then (some ((-1), m3)) else (if (m3 1 0 3) ≤ a2 then (some ((-1), m3)) else (gAt m3 17 0 a2 (fun (x5 : Int32) => some (x5, m3))))))) else (some ((-1), m1)))
set_option maxRecDepth 100000 in
set_option maxHeartbeats 4000000 in
theorem c_X8_candidate (a1 : Int32) (a2 : Int32) (m : gM) : gCon eI yX8_candidate cX8_candidate 3 (some .int) 5 [.inr (8, 0), .inl a1, .inl a2] m (X8_candidate a1 a2 m) := by
  refine gCon.of (lv := [some (.inr (8, 0)), some (.inl a1), some (.inl a2)]) (by decide +kernel) (Nat.le_of_ble_eq_true rfl) rfl (fun X C => ?_)
  unfold X8_candidate
  refine r_iload_n C dX8_candidate_0 rfl rfl ?_
  refine r_insB (As := [.inl a1]) (st := []) C il_X8_116 co_X8_isLine (c_X8_isLine a1 m) (by decide) (by decide) rfl rfl (Nat.le_of_ble_eq_true rfl) dX8_candidate_1 (fun r2 m1 => ?_)
  refine r_ifneB (tgt := 9) C dX8_candidate_4 (by decide) ?_ ?_
  · refine r_aload_n C dX8_candidate_9 rfl rfl ?_
    refine r_get (v := .inr (1, 0)) C fl_X8_29 dX8_candidate_10 rfl ?_
    refine r_aload_n C dX8_candidate_13 rfl rfl ?_
    refine r_get (v := .inr (6, 0)) C fl_X8_10 dX8_candidate_14 rfl ?_
    refine r_get (v := .inr (3, 0)) C fl_X8_82 dX8_candidate_17 rfl ?_
    refine r_iload_n C dX8_candidate_20 rfl rfl ?_
    refine r_aload_n C dX8_candidate_21 rfl rfl ?_
    refine r_get (v := .inr (6, 0)) C fl_X8_10 dX8_candidate_22 rfl ?_
    refine r_get (v := .inr (3, 0)) C fl_X8_82 dX8_candidate_25 rfl ?_
    refine r_get (v := .inl (m1 3 0 2)) C fl_X8_204 dX8_candidate_28 rfl ?_
    refine r_invU (t := 1) (kb := 0) (As := [.inr (3, 0), .inl a1, .inl (m1 3 0 2)]) (st := []) C il_X8_349 co_X1_lookUnlessHeld (by decide) rfl (c_X1_lookUnlessHeld 0 a1 (m1 3 0 2) m1) (by decide) (by decide) rfl rfl (Nat.le_of_ble_eq_true rfl) dX8_candidate_31 (fun r4 m3 => ?_)
    refine r_iload_n C dX8_candidate_34 rfl rfl ?_
    refine r_iconst (v := (-1)) C dX8_candidate_35 (by decide) ?_
    refine r_icmp_ne (tgt := 47) C dX8_candidate_36 (by decide) ?_ ?_
    · refine r_iload_n C dX8_candidate_47 rfl rfl ?_
      refine r_if_lt (tgt := 74) C dX8_candidate_48 (by decide) ?_ ?_
      · refine r_iconst (v := (-1)) C dX8_candidate_74 (by decide) ?_
        exact r_ireturn C dX8_candidate_75
      refine r_iload_n C dX8_candidate_51 rfl rfl ?_
      refine r_aload_n C dX8_candidate_52 rfl rfl ?_
      refine r_get (v := .inr (1, 0)) C fl_X8_29 dX8_candidate_53 rfl ?_
      refine r_get (v := .inl (m3 1 0 3)) C fl_X8_353 dX8_candidate_56 rfl ?_
      refine r_icmp_ge (tgt := 74) C dX8_candidate_59 (by decide) ?_ ?_
      · refine r_iconst (v := (-1)) C dX8_candidate_74 (by decide) ?_
        exact r_ireturn C dX8_candidate_75
      refine r_aload_n C dX8_candidate_62 rfl rfl ?_
      refine r_get (v := .inr (1, 0)) C fl_X8_29 dX8_candidate_63 rfl ?_
      refine r_get (v := .inr (17, 0)) C fl_X8_356 dX8_candidate_66 rfl ?_
      refine r_iload_n C dX8_candidate_69 rfl rfl ?_
      refine r_iald C rfl dX8_candidate_70 (fun x5 => ?_)
      refine r_goto (tgt := 75) C dX8_candidate_71 (by decide) ?_
      exact r_ireturn C dX8_candidate_75
    refine r_aload_n C dX8_candidate_39 rfl rfl ?_
    refine r_get (v := .inr (1, 0)) C fl_X8_29 dX8_candidate_40 rfl ?_
    refine r_get (v := .inl (m3 1 0 3)) C fl_X8_353 dX8_candidate_43 rfl ?_
    exact r_ireturn C dX8_candidate_46
  refine r_iconst (v := (-1)) C dX8_candidate_7 (by decide) ?_
  exact r_ireturn C dX8_candidate_8
theorem dX8_victim_0 : decode cX8_victim 0 = .ok (.iload_n 1, 1) := by decide +kernel
theorem dX8_victim_1 : decode cX8_victim 1 = .ok (.invokestatic 116, 3) := by decide +kernel
theorem dX8_victim_4 : decode cX8_victim 4 = .ok (.ifCond .ne 5, 3) := by decide +kernel
theorem dX8_victim_7 : decode cX8_victim 7 = .ok (.iconst (-1), 1) := by decide +kernel
theorem dX8_victim_8 : decode cX8_victim 8 = .ok (.ireturn, 1) := by decide +kernel
theorem dX8_victim_9 : decode cX8_victim 9 = .ok (.aload_n 0, 1) := by decide +kernel
theorem dX8_victim_10 : decode cX8_victim 10 = .ok (.getfield 29, 3) := by decide +kernel
theorem dX8_victim_13 : decode cX8_victim 13 = .ok (.aload_n 0, 1) := by decide +kernel
theorem dX8_victim_14 : decode cX8_victim 14 = .ok (.getfield 10, 3) := by decide +kernel
theorem dX8_victim_17 : decode cX8_victim 17 = .ok (.getfield 82, 3) := by decide +kernel
theorem dX8_victim_20 : decode cX8_victim 20 = .ok (.iload_n 1, 1) := by decide +kernel
theorem dX8_victim_21 : decode cX8_victim 21 = .ok (.aload_n 0, 1) := by decide +kernel
theorem dX8_victim_22 : decode cX8_victim 22 = .ok (.getfield 10, 3) := by decide +kernel
theorem dX8_victim_25 : decode cX8_victim 25 = .ok (.getfield 82, 3) := by decide +kernel
theorem dX8_victim_28 : decode cX8_victim 28 = .ok (.getfield 204, 3) := by decide +kernel
theorem dX8_victim_31 : decode cX8_victim 31 = .ok (.invokevirtual 349, 3) := by decide +kernel
theorem dX8_victim_34 : decode cX8_victim 34 = .ok (.aload_n 0, 1) := by decide +kernel
theorem dX8_victim_35 : decode cX8_victim 35 = .ok (.getfield 29, 3) := by decide +kernel
theorem dX8_victim_38 : decode cX8_victim 38 = .ok (.aload_n 0, 1) := by decide +kernel
theorem dX8_victim_39 : decode cX8_victim 39 = .ok (.getfield 10, 3) := by decide +kernel
theorem dX8_victim_42 : decode cX8_victim 42 = .ok (.getfield 82, 3) := by decide +kernel
theorem dX8_victim_45 : decode cX8_victim 45 = .ok (.invokevirtual 359, 3) := by decide +kernel
theorem dX8_victim_48 : decode cX8_victim 48 = .ok (.istore_n 2, 1) := by decide +kernel
theorem dX8_victim_49 : decode cX8_victim 49 = .ok (.iload_n 2, 1) := by decide +kernel
theorem dX8_victim_50 : decode cX8_victim 50 = .ok (.iconst (-1), 1) := by decide +kernel
theorem dX8_victim_51 : decode cX8_victim 51 = .ok (.if_icmp .ne 7, 3) := by decide +kernel
theorem dX8_victim_54 : decode cX8_victim 54 = .ok (.iconst (-1), 1) := by decide +kernel
theorem dX8_victim_55 : decode cX8_victim 55 = .ok (.goto 23, 3) := by decide +kernel
theorem dX8_victim_58 : decode cX8_victim 58 = .ok (.aload_n 0, 1) := by decide +kernel
theorem dX8_victim_59 : decode cX8_victim 59 = .ok (.getfield 10, 3) := by decide +kernel
theorem dX8_victim_62 : decode cX8_victim 62 = .ok (.getfield 82, 3) := by decide +kernel
theorem dX8_victim_65 : decode cX8_victim 65 = .ok (.getfield 250, 3) := by decide +kernel
theorem dX8_victim_68 : decode cX8_victim 68 = .ok (.aload_n 0, 1) := by decide +kernel
theorem dX8_victim_69 : decode cX8_victim 69 = .ok (.getfield 29, 3) := by decide +kernel
theorem dX8_victim_72 : decode cX8_victim 72 = .ok (.getfield 356, 3) := by decide +kernel
theorem dX8_victim_75 : decode cX8_victim 75 = .ok (.iload_n 2, 1) := by decide +kernel
theorem dX8_victim_76 : decode cX8_victim 76 = .ok (.iaload, 1) := by decide +kernel
theorem dX8_victim_77 : decode cX8_victim 77 = .ok (.iaload, 1) := by decide +kernel
theorem dX8_victim_78 : decode cX8_victim 78 = .ok (.ireturn, 1) := by decide +kernel
def X8_victim (a1 : Int32) (m : gM) : Option (Int32 × gM) :=
  gCall (X8_isLine a1 m) (fun (r2 : Bool) (m1 : gM) => if r2 = true then (gCall (X1_lookUnlessHeld 0 a1 (m1 3 0 2) m1) (fun (r4 : Unit) (m3 : gM) => gCall (X1_choose 0 m3) (fun (r6 : Int32) (m5 : gM) => if r6 = (-1) then (some ((-1), m5)) else (gAt m5 17 0 r6 (fun (x7 : Int32) => gAt m5 29 0 x7 (fun (x8 : Int32) => some (x8, m5))))))) else (some ((-1), m1)))
set_option maxRecDepth 100000 in
set_option maxHeartbeats 4000000 in
theorem c_X8_victim (a1 : Int32) (m : gM) : gCon eI yX8_victim cX8_victim 3 (some .int) 5 [.inr (8, 0), .inl a1] m (X8_victim a1 m) := by
  refine gCon.of (lv := [some (.inr (8, 0)), some (.inl a1), none]) (by decide +kernel) (Nat.le_of_ble_eq_true rfl) rfl (fun X C => ?_)
  unfold X8_victim
  refine r_iload_n C dX8_victim_0 rfl rfl ?_
  refine r_insB (As := [.inl a1]) (st := []) C il_X8_116 co_X8_isLine (c_X8_isLine a1 m) (by decide) (by decide) rfl rfl (Nat.le_of_ble_eq_true rfl) dX8_victim_1 (fun r2 m1 => ?_)
  refine r_ifneB (tgt := 9) C dX8_victim_4 (by decide) ?_ ?_
  · refine r_aload_n C dX8_victim_9 rfl rfl ?_
    refine r_get (v := .inr (1, 0)) C fl_X8_29 dX8_victim_10 rfl ?_
    refine r_aload_n C dX8_victim_13 rfl rfl ?_
    refine r_get (v := .inr (6, 0)) C fl_X8_10 dX8_victim_14 rfl ?_
    refine r_get (v := .inr (3, 0)) C fl_X8_82 dX8_victim_17 rfl ?_
    refine r_iload_n C dX8_victim_20 rfl rfl ?_
    refine r_aload_n C dX8_victim_21 rfl rfl ?_
    refine r_get (v := .inr (6, 0)) C fl_X8_10 dX8_victim_22 rfl ?_
    refine r_get (v := .inr (3, 0)) C fl_X8_82 dX8_victim_25 rfl ?_
    refine r_get (v := .inl (m1 3 0 2)) C fl_X8_204 dX8_victim_28 rfl ?_
    refine r_invU (t := 1) (kb := 0) (As := [.inr (3, 0), .inl a1, .inl (m1 3 0 2)]) (st := []) C il_X8_349 co_X1_lookUnlessHeld (by decide) rfl (c_X1_lookUnlessHeld 0 a1 (m1 3 0 2) m1) (by decide) (by decide) rfl rfl (Nat.le_of_ble_eq_true rfl) dX8_victim_31 (fun r4 m3 => ?_)
    refine r_aload_n C dX8_victim_34 rfl rfl ?_
    refine r_get (v := .inr (1, 0)) C fl_X8_29 dX8_victim_35 rfl ?_
    refine r_aload_n C dX8_victim_38 rfl rfl ?_
    refine r_get (v := .inr (6, 0)) C fl_X8_10 dX8_victim_39 rfl ?_
    refine r_get (v := .inr (3, 0)) C fl_X8_82 dX8_victim_42 rfl ?_
    refine r_invI (t := 1) (kb := 0) (As := [.inr (3, 0)]) (st := []) C il_X8_359 co_X1_choose (by decide) rfl (c_X1_choose 0 m3) (by decide) (by decide) rfl rfl (Nat.le_of_ble_eq_true rfl) dX8_victim_45 (fun r6 m5 => ?_)
    refine r_istore_n (lv' := [some (.inr (8, 0)), some (.inl a1), some (.inl r6)]) C dX8_victim_48 rfl (by decide) rfl ?_
    refine r_iload_n C dX8_victim_49 rfl rfl ?_
    refine r_iconst (v := (-1)) C dX8_victim_50 (by decide) ?_
    refine r_icmp_ne (tgt := 58) C dX8_victim_51 (by decide) ?_ ?_
    · refine r_aload_n C dX8_victim_58 rfl rfl ?_
      refine r_get (v := .inr (6, 0)) C fl_X8_10 dX8_victim_59 rfl ?_
      refine r_get (v := .inr (3, 0)) C fl_X8_82 dX8_victim_62 rfl ?_
      refine r_get (v := .inr (29, 0)) C fl_X8_250 dX8_victim_65 rfl ?_
      refine r_aload_n C dX8_victim_68 rfl rfl ?_
      refine r_get (v := .inr (1, 0)) C fl_X8_29 dX8_victim_69 rfl ?_
      refine r_get (v := .inr (17, 0)) C fl_X8_356 dX8_victim_72 rfl ?_
      refine r_iload_n C dX8_victim_75 rfl rfl ?_
      refine r_iald C rfl dX8_victim_76 (fun x7 => ?_)
      refine r_iald C rfl dX8_victim_77 (fun x8 => ?_)
      exact r_ireturn C dX8_victim_78
    refine r_iconst (v := (-1)) C dX8_victim_54 (by decide) ?_
    refine r_goto (tgt := 78) C dX8_victim_55 (by decide) ?_
    exact r_ireturn C dX8_victim_78
  refine r_iconst (v := (-1)) C dX8_victim_7 (by decide) ?_
  exact r_ireturn C dX8_victim_8
theorem dX8_moved_0 : decode cX8_moved 0 = .ok (.iload_n 1, 1) := by decide +kernel
theorem dX8_moved_1 : decode cX8_moved 1 = .ok (.invokestatic 116, 3) := by decide +kernel
theorem dX8_moved_4 : decode cX8_moved 4 = .ok (.ifCond .ne 5, 3) := by decide +kernel
theorem dX8_moved_7 : decode cX8_moved 7 = .ok (.iconst (-1), 1) := by decide +kernel
theorem dX8_moved_8 : decode cX8_moved 8 = .ok (.ireturn, 1) := by decide +kernel
theorem dX8_moved_9 : decode cX8_moved 9 = .ok (.aload_n 0, 1) := by decide +kernel
theorem dX8_moved_10 : decode cX8_moved 10 = .ok (.getfield 29, 3) := by decide +kernel
theorem dX8_moved_13 : decode cX8_moved 13 = .ok (.aload_n 0, 1) := by decide +kernel
theorem dX8_moved_14 : decode cX8_moved 14 = .ok (.getfield 10, 3) := by decide +kernel
theorem dX8_moved_17 : decode cX8_moved 17 = .ok (.getfield 82, 3) := by decide +kernel
theorem dX8_moved_20 : decode cX8_moved 20 = .ok (.iload_n 1, 1) := by decide +kernel
theorem dX8_moved_21 : decode cX8_moved 21 = .ok (.aload_n 0, 1) := by decide +kernel
theorem dX8_moved_22 : decode cX8_moved 22 = .ok (.getfield 10, 3) := by decide +kernel
theorem dX8_moved_25 : decode cX8_moved 25 = .ok (.getfield 82, 3) := by decide +kernel
theorem dX8_moved_28 : decode cX8_moved 28 = .ok (.getfield 204, 3) := by decide +kernel
theorem dX8_moved_31 : decode cX8_moved 31 = .ok (.invokevirtual 349, 3) := by decide +kernel
theorem dX8_moved_34 : decode cX8_moved 34 = .ok (.aload_n 0, 1) := by decide +kernel
theorem dX8_moved_35 : decode cX8_moved 35 = .ok (.getfield 29, 3) := by decide +kernel
theorem dX8_moved_38 : decode cX8_moved 38 = .ok (.aload_n 0, 1) := by decide +kernel
theorem dX8_moved_39 : decode cX8_moved 39 = .ok (.getfield 10, 3) := by decide +kernel
theorem dX8_moved_42 : decode cX8_moved 42 = .ok (.getfield 82, 3) := by decide +kernel
theorem dX8_moved_45 : decode cX8_moved 45 = .ok (.invokevirtual 359, 3) := by decide +kernel
theorem dX8_moved_48 : decode cX8_moved 48 = .ok (.istore_n 3, 1) := by decide +kernel
theorem dX8_moved_49 : decode cX8_moved 49 = .ok (.iconst 0, 1) := by decide +kernel
theorem dX8_moved_50 : decode cX8_moved 50 = .ok (.istore 4, 2) := by decide +kernel
theorem dX8_moved_52 : decode cX8_moved 52 = .ok (.iconst 0, 1) := by decide +kernel
theorem dX8_moved_53 : decode cX8_moved 53 = .ok (.istore 5, 2) := by decide +kernel
theorem dX8_moved_55 : decode cX8_moved 55 = .ok (.iload 5, 2) := by decide +kernel
theorem dX8_moved_57 : decode cX8_moved 57 = .ok (.iconst 3, 1) := by decide +kernel
theorem dX8_moved_58 : decode cX8_moved 58 = .ok (.if_icmp .ge 59, 3) := by decide +kernel
theorem dX8_moved_61 : decode cX8_moved 61 = .ok (.iload_n 3, 1) := by decide +kernel
theorem dX8_moved_62 : decode cX8_moved 62 = .ok (.iconst (-1), 1) := by decide +kernel
theorem dX8_moved_63 : decode cX8_moved 63 = .ok (.if_icmp .eq 54, 3) := by decide +kernel
theorem dX8_moved_66 : decode cX8_moved 66 = .ok (.aload_n 0, 1) := by decide +kernel
theorem dX8_moved_67 : decode cX8_moved 67 = .ok (.getfield 29, 3) := by decide +kernel
theorem dX8_moved_70 : decode cX8_moved 70 = .ok (.getfield 362, 3) := by decide +kernel
theorem dX8_moved_73 : decode cX8_moved 73 = .ok (.iload_n 3, 1) := by decide +kernel
theorem dX8_moved_74 : decode cX8_moved 74 = .ok (.iaload, 1) := by decide +kernel
theorem dX8_moved_75 : decode cX8_moved 75 = .ok (.istore_n 3, 1) := by decide +kernel
theorem dX8_moved_76 : decode cX8_moved 76 = .ok (.iload_n 3, 1) := by decide +kernel
theorem dX8_moved_77 : decode cX8_moved 77 = .ok (.iconst (-1), 1) := by decide +kernel
theorem dX8_moved_78 : decode cX8_moved 78 = .ok (.if_icmp .eq 33, 3) := by decide +kernel
theorem dX8_moved_81 : decode cX8_moved 81 = .ok (.iload 4, 2) := by decide +kernel
theorem dX8_moved_83 : decode cX8_moved 83 = .ok (.iload_n 2, 1) := by decide +kernel
theorem dX8_moved_84 : decode cX8_moved 84 = .ok (.if_icmp .ne 24, 3) := by decide +kernel
theorem dX8_moved_87 : decode cX8_moved 87 = .ok (.aload_n 0, 1) := by decide +kernel
theorem dX8_moved_88 : decode cX8_moved 88 = .ok (.getfield 10, 3) := by decide +kernel
theorem dX8_moved_91 : decode cX8_moved 91 = .ok (.getfield 82, 3) := by decide +kernel
theorem dX8_moved_94 : decode cX8_moved 94 = .ok (.getfield 250, 3) := by decide +kernel
theorem dX8_moved_97 : decode cX8_moved 97 = .ok (.aload_n 0, 1) := by decide +kernel
theorem dX8_moved_98 : decode cX8_moved 98 = .ok (.getfield 29, 3) := by decide +kernel
theorem dX8_moved_101 : decode cX8_moved 101 = .ok (.getfield 356, 3) := by decide +kernel
theorem dX8_moved_104 : decode cX8_moved 104 = .ok (.iload_n 3, 1) := by decide +kernel
theorem dX8_moved_105 : decode cX8_moved 105 = .ok (.iaload, 1) := by decide +kernel
theorem dX8_moved_106 : decode cX8_moved 106 = .ok (.iaload, 1) := by decide +kernel
theorem dX8_moved_107 : decode cX8_moved 107 = .ok (.ireturn, 1) := by decide +kernel
theorem dX8_moved_108 : decode cX8_moved 108 = .ok (.iinc 4 1, 3) := by decide +kernel
theorem dX8_moved_111 : decode cX8_moved 111 = .ok (.iinc 5 1, 3) := by decide +kernel
theorem dX8_moved_114 : decode cX8_moved 114 = .ok (.goto (-59), 3) := by decide +kernel
theorem dX8_moved_117 : decode cX8_moved 117 = .ok (.iload_n 2, 1) := by decide +kernel
theorem dX8_moved_118 : decode cX8_moved 118 = .ok (.iconst (-1), 1) := by decide +kernel
theorem dX8_moved_119 : decode cX8_moved 119 = .ok (.if_icmp .ne 8, 3) := by decide +kernel
theorem dX8_moved_122 : decode cX8_moved 122 = .ok (.iload 4, 2) := by decide +kernel
theorem dX8_moved_124 : decode cX8_moved 124 = .ok (.goto 4, 3) := by decide +kernel
theorem dX8_moved_127 : decode cX8_moved 127 = .ok (.iconst (-1), 1) := by decide +kernel
theorem dX8_moved_128 : decode cX8_moved 128 = .ok (.ireturn, 1) := by decide +kernel
def X8_moved_b55 (a2 : Int32) (j87 : Int32 → gM → Option (Int32 × gM)) (j117 : Int32 → gM → Option (Int32 × gM)) (v13 v14 v15 : Int32) (m16 : gM) (k55 : Int32 → Int32 → Int32 → gM → Option (Int32 × gM)) : Option (Int32 × gM) :=
  if 3 ≤ v15 then (j117 v14 m16) else (if v13 = (-1) then (j117 v14 m16) else (gAt m16 18 0 v13 (fun (x17 : Int32) => if x17 = (-1) then (gLet (v15 + 1) (fun (x18 : Int32) => k55 x17 v14 x18 m16)) else (if v14 = a2 then (j87 x17 m16) else (gLet (v14 + 1) (fun (x19 : Int32) => gLet (v15 + 1) (fun (x20 : Int32) => k55 x17 x19 x20 m16)))))))
def X8_moved (a1 : Int32) (a2 : Int32) (m : gM) : Option (Int32 × gM) :=
  gCall (X8_isLine a1 m) (fun (r2 : Bool) (m1 : gM) => if r2 = true then (gCall (X1_lookUnlessHeld 0 a1 (m1 3 0 2) m1) (fun (r4 : Unit) (m3 : gM) => gCall (X1_choose 0 m3) (fun (r6 : Int32) (m5 : gM) => gJ1 (fun (v7 : Int32) (m8 : gM) => gAt m8 17 0 v7 (fun (x9 : Int32) => gAt m8 29 0 x9 (fun (x10 : Int32) => some (x10, m8)))) (fun (j87 : Int32 → gM → Option (Int32 × gM)) => gJ1 (fun (v11 : Int32) (m12 : gM) => if a2 = (-1) then (some (v11, m12)) else (some ((-1), m12))) (fun (j117 : Int32 → gM → Option (Int32 × gM)) => gL3 FU (X8_moved_b55 a2 j87 j117) r6 0 0 m5))))) else (some ((-1), m1)))
set_option maxRecDepth 100000 in
set_option maxHeartbeats 4000000 in
theorem c_X8_moved (a1 : Int32) (a2 : Int32) (m : gM) : gCon eI yX8_moved cX8_moved 6 (some .int) 5 [.inr (8, 0), .inl a1, .inl a2] m (X8_moved a1 a2 m) := by
  refine gCon.of (lv := [some (.inr (8, 0)), some (.inl a1), some (.inl a2), none, none, none]) (by decide +kernel) (Nat.le_of_ble_eq_true rfl) rfl (fun X C => ?_)
  unfold X8_moved
  refine r_iload_n C dX8_moved_0 rfl rfl ?_
  refine r_insB (As := [.inl a1]) (st := []) C il_X8_116 co_X8_isLine (c_X8_isLine a1 m) (by decide) (by decide) rfl rfl (Nat.le_of_ble_eq_true rfl) dX8_moved_1 (fun r2 m1 => ?_)
  refine r_ifneB (tgt := 9) C dX8_moved_4 (by decide) ?_ ?_
  · refine r_aload_n C dX8_moved_9 rfl rfl ?_
    refine r_get (v := .inr (1, 0)) C fl_X8_29 dX8_moved_10 rfl ?_
    refine r_aload_n C dX8_moved_13 rfl rfl ?_
    refine r_get (v := .inr (6, 0)) C fl_X8_10 dX8_moved_14 rfl ?_
    refine r_get (v := .inr (3, 0)) C fl_X8_82 dX8_moved_17 rfl ?_
    refine r_iload_n C dX8_moved_20 rfl rfl ?_
    refine r_aload_n C dX8_moved_21 rfl rfl ?_
    refine r_get (v := .inr (6, 0)) C fl_X8_10 dX8_moved_22 rfl ?_
    refine r_get (v := .inr (3, 0)) C fl_X8_82 dX8_moved_25 rfl ?_
    refine r_get (v := .inl (m1 3 0 2)) C fl_X8_204 dX8_moved_28 rfl ?_
    refine r_invU (t := 1) (kb := 0) (As := [.inr (3, 0), .inl a1, .inl (m1 3 0 2)]) (st := []) C il_X8_349 co_X1_lookUnlessHeld (by decide) rfl (c_X1_lookUnlessHeld 0 a1 (m1 3 0 2) m1) (by decide) (by decide) rfl rfl (Nat.le_of_ble_eq_true rfl) dX8_moved_31 (fun r4 m3 => ?_)
    refine r_aload_n C dX8_moved_34 rfl rfl ?_
    refine r_get (v := .inr (1, 0)) C fl_X8_29 dX8_moved_35 rfl ?_
    refine r_aload_n C dX8_moved_38 rfl rfl ?_
    refine r_get (v := .inr (6, 0)) C fl_X8_10 dX8_moved_39 rfl ?_
    refine r_get (v := .inr (3, 0)) C fl_X8_82 dX8_moved_42 rfl ?_
    refine r_invI (t := 1) (kb := 0) (As := [.inr (3, 0)]) (st := []) C il_X8_359 co_X1_choose (by decide) rfl (c_X1_choose 0 m3) (by decide) (by decide) rfl rfl (Nat.le_of_ble_eq_true rfl) dX8_moved_45 (fun r6 m5 => ?_)
    refine r_istore_n (lv' := [some (.inr (8, 0)), some (.inl a1), some (.inl a2), some (.inl r6), none, none]) C dX8_moved_48 rfl (by decide) rfl ?_
    refine r_iconst (v := 0) C dX8_moved_49 (by decide) ?_
    refine r_istore (lv' := [some (.inr (8, 0)), some (.inl a1), some (.inl a2), some (.inl r6), some (.inl 0), none]) C dX8_moved_50 (by decide) rfl ?_
    refine r_iconst (v := 0) C dX8_moved_52 (by decide) ?_
    refine r_istore (lv' := [some (.inr (8, 0)), some (.inl a1), some (.inl a2), some (.inl r6), some (.inl 0), some (.inl 0)]) C dX8_moved_53 (by decide) rfl ?_
    refine r_j1 87 (fun v7 => [some (.inr (8, 0)), none, none, some (.inl v7), none, none]) (fun v7 => []) (fun v7 m8 => ?_) (fun j87 hj87 => ?_)
    · refine r_aload_n C dX8_moved_87 rfl rfl ?_
      refine r_get (v := .inr (6, 0)) C fl_X8_10 dX8_moved_88 rfl ?_
      refine r_get (v := .inr (3, 0)) C fl_X8_82 dX8_moved_91 rfl ?_
      refine r_get (v := .inr (29, 0)) C fl_X8_250 dX8_moved_94 rfl ?_
      refine r_aload_n C dX8_moved_97 rfl rfl ?_
      refine r_get (v := .inr (1, 0)) C fl_X8_29 dX8_moved_98 rfl ?_
      refine r_get (v := .inr (17, 0)) C fl_X8_356 dX8_moved_101 rfl ?_
      refine r_iload_n C dX8_moved_104 rfl rfl ?_
      refine r_iald C rfl dX8_moved_105 (fun x9 => ?_)
      refine r_iald C rfl dX8_moved_106 (fun x10 => ?_)
      exact r_ireturn C dX8_moved_107
    refine r_j1 117 (fun v11 => [none, none, some (.inl a2), none, some (.inl v11), none]) (fun v11 => []) (fun v11 m12 => ?_) (fun j117 hj117 => ?_)
    · refine r_iload_n C dX8_moved_117 rfl rfl ?_
      refine r_iconst (v := (-1)) C dX8_moved_118 (by decide) ?_
      refine r_icmp_ne (tgt := 127) C dX8_moved_119 (by decide) ?_ ?_
      · refine r_iconst (v := (-1)) C dX8_moved_127 (by decide) ?_
        exact r_ireturn C dX8_moved_128
      refine r_iload C dX8_moved_122 rfl ?_
      refine r_goto (tgt := 128) C dX8_moved_124 (by decide) ?_
      exact r_ireturn C dX8_moved_128
    refine r_weak (lv' := [some (.inr (8, 0)), none, some (.inl a2), some (.inl r6), some (.inl 0), some (.inl 0)]) ⟨rfl, rfl, rfl, rfl, rfl, trivial⟩ ?_
    refine r_l3 (pj := 55) (fun v13 v14 v15 => [some (.inr (8, 0)), none, some (.inl a2), some (.inl v13), some (.inl v14), some (.inl v15)]) (fun v13 v14 v15 m16 k55 hk55 => ?_) _ _ _ _ _
    unfold X8_moved_b55
    refine r_iload C dX8_moved_55 rfl ?_
    refine r_iconst (v := 3) C dX8_moved_57 (by decide) ?_
    refine r_icmp_ge (tgt := 117) C dX8_moved_58 (by decide) ?_ ?_
    · exact r_weak (lv' := [none, none, some (.inl a2), none, some (.inl v14), none]) ⟨rfl, rfl, trivial⟩ (hj117 _ _)
    refine r_iload_n C dX8_moved_61 rfl rfl ?_
    refine r_iconst (v := (-1)) C dX8_moved_62 (by decide) ?_
    refine r_icmp_eq (tgt := 117) C dX8_moved_63 (by decide) ?_ ?_
    · exact r_weak (lv' := [none, none, some (.inl a2), none, some (.inl v14), none]) ⟨rfl, rfl, trivial⟩ (hj117 _ _)
    refine r_aload_n C dX8_moved_66 rfl rfl ?_
    refine r_get (v := .inr (1, 0)) C fl_X8_29 dX8_moved_67 rfl ?_
    refine r_get (v := .inr (18, 0)) C fl_X8_362 dX8_moved_70 rfl ?_
    refine r_iload_n C dX8_moved_73 rfl rfl ?_
    refine r_iald C rfl dX8_moved_74 (fun x17 => ?_)
    refine r_istore_n (lv' := [some (.inr (8, 0)), none, some (.inl a2), some (.inl x17), some (.inl v14), some (.inl v15)]) C dX8_moved_75 rfl (by decide) rfl ?_
    refine r_iload_n C dX8_moved_76 rfl rfl ?_
    refine r_iconst (v := (-1)) C dX8_moved_77 (by decide) ?_
    refine r_icmp_eq (tgt := 111) C dX8_moved_78 (by decide) ?_ ?_
    · refine r_iinc (v := 1) C dX8_moved_111 (by decide) rfl (by decide) (fun x18 => ?_)
      show gw X eI _ [some (.inr (8, 0)), none, some (.inl a2), some (.inl x17), some (.inl v14), some (.inl x18)] _ _ _
      refine r_goto (tgt := 55) C dX8_moved_114 (by decide) ?_
      exact r_weak (lv' := [some (.inr (8, 0)), none, some (.inl a2), some (.inl x17), some (.inl v14), some (.inl x18)]) ⟨rfl, rfl, rfl, rfl, rfl, trivial⟩ (hk55 _ _ _ _)
    refine r_iload C dX8_moved_81 rfl ?_
    refine r_iload_n C dX8_moved_83 rfl rfl ?_
    refine r_icmp_ne (tgt := 108) C dX8_moved_84 (by decide) ?_ ?_
    · refine r_iinc (v := 1) C dX8_moved_108 (by decide) rfl (by decide) (fun x19 => ?_)
      show gw X eI _ [some (.inr (8, 0)), none, some (.inl a2), some (.inl x17), some (.inl x19), some (.inl v15)] _ _ _
      refine r_iinc (v := 1) C dX8_moved_111 (by decide) rfl (by decide) (fun x20 => ?_)
      show gw X eI _ [some (.inr (8, 0)), none, some (.inl a2), some (.inl x17), some (.inl x19), some (.inl x20)] _ _ _
      refine r_goto (tgt := 55) C dX8_moved_114 (by decide) ?_
      exact r_weak (lv' := [some (.inr (8, 0)), none, some (.inl a2), some (.inl x17), some (.inl x19), some (.inl x20)]) ⟨rfl, rfl, rfl, rfl, rfl, trivial⟩ (hk55 _ _ _ _)
    exact r_weak (lv' := [some (.inr (8, 0)), none, none, some (.inl x17), none, none]) ⟨rfl, rfl, trivial⟩ (hj87 _ _)
  refine r_iconst (v := (-1)) C dX8_moved_7 (by decide) ?_
  exact r_ireturn C dX8_moved_8
theorem dX8_length_0 : decode cX8_length 0 = .ok (.aload_n 0, 1) := by decide +kernel
theorem dX8_length_1 : decode cX8_length 1 = .ok (.iload_n 1, 1) := by decide +kernel
theorem dX8_length_2 : decode cX8_length 2 = .ok (.invokevirtual 207, 3) := by decide +kernel
theorem dX8_length_5 : decode cX8_length 5 = .ok (.ifCond .eq 18, 3) := by decide +kernel
theorem dX8_length_8 : decode cX8_length 8 = .ok (.aload_n 0, 1) := by decide +kernel
theorem dX8_length_9 : decode cX8_length 9 = .ok (.getfield 10, 3) := by decide +kernel
theorem dX8_length_12 : decode cX8_length 12 = .ok (.getfield 108, 3) := by decide +kernel
theorem dX8_length_15 : decode cX8_length 15 = .ok (.iload_n 1, 1) := by decide +kernel
theorem dX8_length_16 : decode cX8_length 16 = .ok (.aaload, 1) := by decide +kernel
theorem dX8_length_17 : decode cX8_length 17 = .ok (.getfield 365, 3) := by decide +kernel
theorem dX8_length_20 : decode cX8_length 20 = .ok (.goto 4, 3) := by decide +kernel
theorem dX8_length_23 : decode cX8_length 23 = .ok (.iconst (-1), 1) := by decide +kernel
theorem dX8_length_24 : decode cX8_length 24 = .ok (.ireturn, 1) := by decide +kernel
def X8_length (a1 : Int32) (m : gM) : Option (Int32 × gM) :=
  gCall (X8_isTrace a1 m) (fun (r2 : Bool) (m1 : gM) => if r2 = true then (gAtR 42 a1 (fun (n3 : Nat) => some ((m1 5 (4 * 0 + n3) 2), m1))) else (some ((-1), m1)))
set_option maxRecDepth 100000 in
set_option maxHeartbeats 4000000 in
theorem c_X8_length (a1 : Int32) (m : gM) : gCon eI yX8_length cX8_length 2 (some .int) 1 [.inr (8, 0), .inl a1] m (X8_length a1 m) := by
  refine gCon.of (lv := [some (.inr (8, 0)), some (.inl a1)]) (by decide +kernel) (Nat.le_of_ble_eq_true rfl) rfl (fun X C => ?_)
  unfold X8_length
  refine r_aload_n C dX8_length_0 rfl rfl ?_
  refine r_iload_n C dX8_length_1 rfl rfl ?_
  refine r_invB (t := 8) (kb := 0) (As := [.inl a1]) (st := []) C il_X8_207 co_X8_isTrace (by decide) rfl (c_X8_isTrace a1 m) (by decide) (by decide) rfl rfl (Nat.le_of_ble_eq_true rfl) dX8_length_2 (fun r2 m1 => ?_)
  refine r_ifeqB (tgt := 23) C dX8_length_5 (by decide) ?_ ?_
  · refine r_iconst (v := (-1)) C dX8_length_23 (by decide) ?_
    exact r_ireturn C dX8_length_24
  refine r_aload_n C dX8_length_8 rfl rfl ?_
  refine r_get (v := .inr (6, 0)) C fl_X8_10 dX8_length_9 rfl ?_
  refine r_get (v := .inr (42, 0)) C fl_X8_108 dX8_length_12 rfl ?_
  refine r_iload_n C dX8_length_15 rfl rfl ?_
  refine r_aald (q := fun n3 => (5, (4 * 0 + n3))) C (by decide) (fun _ => rfl) dX8_length_16 (fun n3 => ?_)
  refine r_get (v := .inl (m1 5 (4 * 0 + n3) 2)) C fl_X8_365 dX8_length_17 rfl ?_
  refine r_goto (tgt := 24) C dX8_length_20 (by decide) ?_
  exact r_ireturn C dX8_length_24
theorem dX8_step_0 : decode cX8_step 0 = .ok (.aload_n 0, 1) := by decide +kernel
theorem dX8_step_1 : decode cX8_step 1 = .ok (.iload_n 1, 1) := by decide +kernel
theorem dX8_step_2 : decode cX8_step 2 = .ok (.invokevirtual 207, 3) := by decide +kernel
theorem dX8_step_5 : decode cX8_step 5 = .ok (.ifCond .eq 23, 3) := by decide +kernel
theorem dX8_step_8 : decode cX8_step 8 = .ok (.iload_n 2, 1) := by decide +kernel
theorem dX8_step_9 : decode cX8_step 9 = .ok (.ifCond .lt 19, 3) := by decide +kernel
theorem dX8_step_12 : decode cX8_step 12 = .ok (.iload_n 2, 1) := by decide +kernel
theorem dX8_step_13 : decode cX8_step 13 = .ok (.aload_n 0, 1) := by decide +kernel
theorem dX8_step_14 : decode cX8_step 14 = .ok (.getfield 10, 3) := by decide +kernel
theorem dX8_step_17 : decode cX8_step 17 = .ok (.getfield 108, 3) := by decide +kernel
theorem dX8_step_20 : decode cX8_step 20 = .ok (.iload_n 1, 1) := by decide +kernel
theorem dX8_step_21 : decode cX8_step 21 = .ok (.aaload, 1) := by decide +kernel
theorem dX8_step_22 : decode cX8_step 22 = .ok (.getfield 365, 3) := by decide +kernel
theorem dX8_step_25 : decode cX8_step 25 = .ok (.if_icmp .lt 5, 3) := by decide +kernel
theorem dX8_step_28 : decode cX8_step 28 = .ok (.iconst (-1), 1) := by decide +kernel
theorem dX8_step_29 : decode cX8_step 29 = .ok (.ireturn, 1) := by decide +kernel
theorem dX8_step_30 : decode cX8_step 30 = .ok (.aload_n 0, 1) := by decide +kernel
theorem dX8_step_31 : decode cX8_step 31 = .ok (.getfield 10, 3) := by decide +kernel
theorem dX8_step_34 : decode cX8_step 34 = .ok (.getfield 108, 3) := by decide +kernel
theorem dX8_step_37 : decode cX8_step 37 = .ok (.iload_n 1, 1) := by decide +kernel
theorem dX8_step_38 : decode cX8_step 38 = .ok (.aaload, 1) := by decide +kernel
theorem dX8_step_39 : decode cX8_step 39 = .ok (.getfield 368, 3) := by decide +kernel
theorem dX8_step_42 : decode cX8_step 42 = .ok (.iload_n 2, 1) := by decide +kernel
theorem dX8_step_43 : decode cX8_step 43 = .ok (.iaload, 1) := by decide +kernel
theorem dX8_step_44 : decode cX8_step 44 = .ok (.ireturn, 1) := by decide +kernel
def X8_step (a1 : Int32) (a2 : Int32) (m : gM) : Option (Int32 × gM) :=
  gCall (X8_isTrace a1 m) (fun (r2 : Bool) (m1 : gM) => if r2 = true then (if a2 < 0 then (some ((-1), m1)) else (gAtR 42 a1 (fun (n3 : Nat) => if a2 < (m1 5 (4 * 0 + n3) 2) then (gAtR 42 a1 (fun (n4 : Nat) => gAt m1 38 (4 * 0 + n4) a2 (fun (x5 : Int32) => some (x5, m1)))) else (some ((-1), m1))))) else (some ((-1), m1)))
set_option maxRecDepth 100000 in
set_option maxHeartbeats 4000000 in
theorem c_X8_step (a1 : Int32) (a2 : Int32) (m : gM) : gCon eI yX8_step cX8_step 3 (some .int) 1 [.inr (8, 0), .inl a1, .inl a2] m (X8_step a1 a2 m) := by
  refine gCon.of (lv := [some (.inr (8, 0)), some (.inl a1), some (.inl a2)]) (by decide +kernel) (Nat.le_of_ble_eq_true rfl) rfl (fun X C => ?_)
  unfold X8_step
  refine r_aload_n C dX8_step_0 rfl rfl ?_
  refine r_iload_n C dX8_step_1 rfl rfl ?_
  refine r_invB (t := 8) (kb := 0) (As := [.inl a1]) (st := []) C il_X8_207 co_X8_isTrace (by decide) rfl (c_X8_isTrace a1 m) (by decide) (by decide) rfl rfl (Nat.le_of_ble_eq_true rfl) dX8_step_2 (fun r2 m1 => ?_)
  refine r_ifeqB (tgt := 28) C dX8_step_5 (by decide) ?_ ?_
  · refine r_iconst (v := (-1)) C dX8_step_28 (by decide) ?_
    exact r_ireturn C dX8_step_29
  refine r_iload_n C dX8_step_8 rfl rfl ?_
  refine r_if_lt (tgt := 28) C dX8_step_9 (by decide) ?_ ?_
  · refine r_iconst (v := (-1)) C dX8_step_28 (by decide) ?_
    exact r_ireturn C dX8_step_29
  refine r_iload_n C dX8_step_12 rfl rfl ?_
  refine r_aload_n C dX8_step_13 rfl rfl ?_
  refine r_get (v := .inr (6, 0)) C fl_X8_10 dX8_step_14 rfl ?_
  refine r_get (v := .inr (42, 0)) C fl_X8_108 dX8_step_17 rfl ?_
  refine r_iload_n C dX8_step_20 rfl rfl ?_
  refine r_aald (q := fun n3 => (5, (4 * 0 + n3))) C (by decide) (fun _ => rfl) dX8_step_21 (fun n3 => ?_)
  refine r_get (v := .inl (m1 5 (4 * 0 + n3) 2)) C fl_X8_365 dX8_step_22 rfl ?_
  refine r_icmp_lt (tgt := 30) C dX8_step_25 (by decide) ?_ ?_
  · refine r_aload_n C dX8_step_30 rfl rfl ?_
    refine r_get (v := .inr (6, 0)) C fl_X8_10 dX8_step_31 rfl ?_
    refine r_get (v := .inr (42, 0)) C fl_X8_108 dX8_step_34 rfl ?_
    refine r_iload_n C dX8_step_37 rfl rfl ?_
    refine r_aald (q := fun n4 => (5, (4 * 0 + n4))) C (by decide) (fun _ => rfl) dX8_step_38 (fun n4 => ?_)
    refine r_get (v := .inr (38, (4 * 0 + n4))) C fl_X8_368 dX8_step_39 rfl ?_
    refine r_iload_n C dX8_step_42 rfl rfl ?_
    refine r_iald C rfl dX8_step_43 (fun x5 => ?_)
    exact r_ireturn C dX8_step_44
  refine r_iconst (v := (-1)) C dX8_step_28 (by decide) ?_
  exact r_ireturn C dX8_step_29
theorem dX8_wide_0 : decode cX8_wide 0 = .ok (.aload_n 0, 1) := by decide +kernel
theorem dX8_wide_1 : decode cX8_wide 1 = .ok (.iload_n 1, 1) := by decide +kernel
theorem dX8_wide_2 : decode cX8_wide 2 = .ok (.invokevirtual 207, 3) := by decide +kernel
theorem dX8_wide_5 : decode cX8_wide 5 = .ok (.ifCond .eq 25, 3) := by decide +kernel
theorem dX8_wide_8 : decode cX8_wide 8 = .ok (.aload_n 0, 1) := by decide +kernel
theorem dX8_wide_9 : decode cX8_wide 9 = .ok (.getfield 50, 3) := by decide +kernel
theorem dX8_wide_12 : decode cX8_wide 12 = .ok (.aload_n 0, 1) := by decide +kernel
theorem dX8_wide_13 : decode cX8_wide 13 = .ok (.getfield 10, 3) := by decide +kernel
theorem dX8_wide_16 : decode cX8_wide 16 = .ok (.getfield 108, 3) := by decide +kernel
theorem dX8_wide_19 : decode cX8_wide 19 = .ok (.iload_n 1, 1) := by decide +kernel
theorem dX8_wide_20 : decode cX8_wide 20 = .ok (.aaload, 1) := by decide +kernel
theorem dX8_wide_21 : decode cX8_wide 21 = .ok (.sipush 600, 3) := by decide +kernel
theorem dX8_wide_24 : decode cX8_wide 24 = .ok (.invokevirtual 369, 3) := by decide +kernel
theorem dX8_wide_27 : decode cX8_wide 27 = .ok (.goto 4, 3) := by decide +kernel
theorem dX8_wide_30 : decode cX8_wide 30 = .ok (.iconst (-1), 1) := by decide +kernel
theorem dX8_wide_31 : decode cX8_wide 31 = .ok (.ireturn, 1) := by decide +kernel
def X8_wide (a1 : Int32) (m : gM) : Option (Int32 × gM) :=
  gCall (X8_isTrace a1 m) (fun (r2 : Bool) (m1 : gM) => if r2 = true then (gAtR 42 a1 (fun (n3 : Nat) => gCall (X4_mostUnlike (4 * 0 + n3) 600 m1) (fun (r5 : Int32) (m4 : gM) => some (r5, m4)))) else (some ((-1), m1)))
set_option maxRecDepth 100000 in
set_option maxHeartbeats 4000000 in
theorem c_X8_wide (a1 : Int32) (m : gM) : gCon eI yX8_wide cX8_wide 2 (some .int) 2 [.inr (8, 0), .inl a1] m (X8_wide a1 m) := by
  refine gCon.of (lv := [some (.inr (8, 0)), some (.inl a1)]) (by decide +kernel) (Nat.le_of_ble_eq_true rfl) rfl (fun X C => ?_)
  unfold X8_wide
  refine r_aload_n C dX8_wide_0 rfl rfl ?_
  refine r_iload_n C dX8_wide_1 rfl rfl ?_
  refine r_invB (t := 8) (kb := 0) (As := [.inl a1]) (st := []) C il_X8_207 co_X8_isTrace (by decide) rfl (c_X8_isTrace a1 m) (by decide) (by decide) rfl rfl (Nat.le_of_ble_eq_true rfl) dX8_wide_2 (fun r2 m1 => ?_)
  refine r_ifeqB (tgt := 30) C dX8_wide_5 (by decide) ?_ ?_
  · refine r_iconst (v := (-1)) C dX8_wide_30 (by decide) ?_
    exact r_ireturn C dX8_wide_31
  refine r_aload_n C dX8_wide_8 rfl rfl ?_
  refine r_get (v := .inr (4, 0)) C fl_X8_50 dX8_wide_9 rfl ?_
  refine r_aload_n C dX8_wide_12 rfl rfl ?_
  refine r_get (v := .inr (6, 0)) C fl_X8_10 dX8_wide_13 rfl ?_
  refine r_get (v := .inr (42, 0)) C fl_X8_108 dX8_wide_16 rfl ?_
  refine r_iload_n C dX8_wide_19 rfl rfl ?_
  refine r_aald (q := fun n3 => (5, (4 * 0 + n3))) C (by decide) (fun _ => rfl) dX8_wide_20 (fun n3 => ?_)
  refine r_sipush (v := 600) C dX8_wide_21 (by decide) ?_
  refine r_invI (t := 4) (kb := 0) (As := [.inr (5, (4 * 0 + n3)), .inl 600]) (st := []) C il_X8_369 co_X4_mostUnlike (by decide) rfl (c_X4_mostUnlike (4 * 0 + n3) 600 m1) (by decide) (by decide) rfl rfl (Nat.le_of_ble_eq_true rfl) dX8_wide_24 (fun r5 m4 => ?_)
  refine r_goto (tgt := 31) C dX8_wide_27 (by decide) ?_
  exact r_ireturn C dX8_wide_31
theorem dX8_writes_0 : decode cX8_writes 0 = .ok (.aload_n 0, 1) := by decide +kernel
theorem dX8_writes_1 : decode cX8_writes 1 = .ok (.iload_n 1, 1) := by decide +kernel
theorem dX8_writes_2 : decode cX8_writes 2 = .ok (.invokevirtual 207, 3) := by decide +kernel
theorem dX8_writes_5 : decode cX8_writes 5 = .ok (.ifCond .eq 18, 3) := by decide +kernel
theorem dX8_writes_8 : decode cX8_writes 8 = .ok (.aload_n 0, 1) := by decide +kernel
theorem dX8_writes_9 : decode cX8_writes 9 = .ok (.getfield 10, 3) := by decide +kernel
theorem dX8_writes_12 : decode cX8_writes 12 = .ok (.getfield 108, 3) := by decide +kernel
theorem dX8_writes_15 : decode cX8_writes 15 = .ok (.iload_n 1, 1) := by decide +kernel
theorem dX8_writes_16 : decode cX8_writes 16 = .ok (.aaload, 1) := by decide +kernel
theorem dX8_writes_17 : decode cX8_writes 17 = .ok (.invokevirtual 373, 3) := by decide +kernel
theorem dX8_writes_20 : decode cX8_writes 20 = .ok (.goto 4, 3) := by decide +kernel
theorem dX8_writes_23 : decode cX8_writes 23 = .ok (.iconst (-1), 1) := by decide +kernel
theorem dX8_writes_24 : decode cX8_writes 24 = .ok (.ireturn, 1) := by decide +kernel
def X8_writes (a1 : Int32) (m : gM) : Option (Int32 × gM) :=
  gCall (X8_isTrace a1 m) (fun (r2 : Bool) (m1 : gM) => if r2 = true then (gAtR 42 a1 (fun (n3 : Nat) => gCall (X5_written (4 * 0 + n3) m1) (fun (r5 : Int32) (m4 : gM) => some (r5, m4)))) else (some ((-1), m1)))
set_option maxRecDepth 100000 in
set_option maxHeartbeats 4000000 in
theorem c_X8_writes (a1 : Int32) (m : gM) : gCon eI yX8_writes cX8_writes 2 (some .int) 1 [.inr (8, 0), .inl a1] m (X8_writes a1 m) := by
  refine gCon.of (lv := [some (.inr (8, 0)), some (.inl a1)]) (by decide +kernel) (Nat.le_of_ble_eq_true rfl) rfl (fun X C => ?_)
  unfold X8_writes
  refine r_aload_n C dX8_writes_0 rfl rfl ?_
  refine r_iload_n C dX8_writes_1 rfl rfl ?_
  refine r_invB (t := 8) (kb := 0) (As := [.inl a1]) (st := []) C il_X8_207 co_X8_isTrace (by decide) rfl (c_X8_isTrace a1 m) (by decide) (by decide) rfl rfl (Nat.le_of_ble_eq_true rfl) dX8_writes_2 (fun r2 m1 => ?_)
  refine r_ifeqB (tgt := 23) C dX8_writes_5 (by decide) ?_ ?_
  · refine r_iconst (v := (-1)) C dX8_writes_23 (by decide) ?_
    exact r_ireturn C dX8_writes_24
  refine r_aload_n C dX8_writes_8 rfl rfl ?_
  refine r_get (v := .inr (6, 0)) C fl_X8_10 dX8_writes_9 rfl ?_
  refine r_get (v := .inr (42, 0)) C fl_X8_108 dX8_writes_12 rfl ?_
  refine r_iload_n C dX8_writes_15 rfl rfl ?_
  refine r_aald (q := fun n3 => (5, (4 * 0 + n3))) C (by decide) (fun _ => rfl) dX8_writes_16 (fun n3 => ?_)
  refine r_invI (t := 5) (kb := (4 * 0 + n3)) (As := []) (st := []) C il_X8_373 co_X5_written (by decide) rfl (c_X5_written (4 * 0 + n3) m1) (by decide) (by decide) rfl rfl (Nat.le_of_ble_eq_true rfl) dX8_writes_17 (fun r5 m4 => ?_)
  refine r_goto (tgt := 24) C dX8_writes_20 (by decide) ?_
  exact r_ireturn C dX8_writes_24
theorem dX8_working_0 : decode cX8_working 0 = .ok (.aload_n 0, 1) := by decide +kernel
theorem dX8_working_1 : decode cX8_working 1 = .ok (.iload_n 1, 1) := by decide +kernel
theorem dX8_working_2 : decode cX8_working 2 = .ok (.invokevirtual 207, 3) := by decide +kernel
theorem dX8_working_5 : decode cX8_working 5 = .ok (.ifCond .eq 14, 3) := by decide +kernel
theorem dX8_working_8 : decode cX8_working 8 = .ok (.iload_n 2, 1) := by decide +kernel
theorem dX8_working_9 : decode cX8_working 9 = .ok (.iconst 1, 1) := by decide +kernel
theorem dX8_working_10 : decode cX8_working 10 = .ok (.if_icmp .lt 9, 3) := by decide +kernel
theorem dX8_working_13 : decode cX8_working 13 = .ok (.iload_n 2, 1) := by decide +kernel
theorem dX8_working_14 : decode cX8_working 14 = .ok (.bipush 99, 2) := by decide +kernel
theorem dX8_working_16 : decode cX8_working 16 = .ok (.if_icmp .le 5, 3) := by decide +kernel
theorem dX8_working_19 : decode cX8_working 19 = .ok (.iconst (-1), 1) := by decide +kernel
theorem dX8_working_20 : decode cX8_working 20 = .ok (.ireturn, 1) := by decide +kernel
theorem dX8_working_21 : decode cX8_working 21 = .ok (.aload_n 0, 1) := by decide +kernel
theorem dX8_working_22 : decode cX8_working 22 = .ok (.getfield 50, 3) := by decide +kernel
theorem dX8_working_25 : decode cX8_working 25 = .ok (.aload_n 0, 1) := by decide +kernel
theorem dX8_working_26 : decode cX8_working 26 = .ok (.getfield 10, 3) := by decide +kernel
theorem dX8_working_29 : decode cX8_working 29 = .ok (.getfield 108, 3) := by decide +kernel
theorem dX8_working_32 : decode cX8_working 32 = .ok (.iload_n 1, 1) := by decide +kernel
theorem dX8_working_33 : decode cX8_working 33 = .ok (.aaload, 1) := by decide +kernel
theorem dX8_working_34 : decode cX8_working 34 = .ok (.iload_n 2, 1) := by decide +kernel
theorem dX8_working_35 : decode cX8_working 35 = .ok (.invokevirtual 369, 3) := by decide +kernel
theorem dX8_working_38 : decode cX8_working 38 = .ok (.ireturn, 1) := by decide +kernel
def X8_working (a1 : Int32) (a2 : Int32) (m : gM) : Option (Int32 × gM) :=
  gCall (X8_isTrace a1 m) (fun (r2 : Bool) (m1 : gM) => if r2 = true then (if a2 < 1 then (some ((-1), m1)) else (if a2 ≤ 99 then (gAtR 42 a1 (fun (n3 : Nat) => gCall (X4_mostUnlike (4 * 0 + n3) a2 m1) (fun (r5 : Int32) (m4 : gM) => some (r5, m4)))) else (some ((-1), m1)))) else (some ((-1), m1)))
set_option maxRecDepth 100000 in
set_option maxHeartbeats 4000000 in
theorem c_X8_working (a1 : Int32) (a2 : Int32) (m : gM) : gCon eI yX8_working cX8_working 3 (some .int) 2 [.inr (8, 0), .inl a1, .inl a2] m (X8_working a1 a2 m) := by
  refine gCon.of (lv := [some (.inr (8, 0)), some (.inl a1), some (.inl a2)]) (by decide +kernel) (Nat.le_of_ble_eq_true rfl) rfl (fun X C => ?_)
  unfold X8_working
  refine r_aload_n C dX8_working_0 rfl rfl ?_
  refine r_iload_n C dX8_working_1 rfl rfl ?_
  refine r_invB (t := 8) (kb := 0) (As := [.inl a1]) (st := []) C il_X8_207 co_X8_isTrace (by decide) rfl (c_X8_isTrace a1 m) (by decide) (by decide) rfl rfl (Nat.le_of_ble_eq_true rfl) dX8_working_2 (fun r2 m1 => ?_)
  refine r_ifeqB (tgt := 19) C dX8_working_5 (by decide) ?_ ?_
  · refine r_iconst (v := (-1)) C dX8_working_19 (by decide) ?_
    exact r_ireturn C dX8_working_20
  refine r_iload_n C dX8_working_8 rfl rfl ?_
  refine r_iconst (v := 1) C dX8_working_9 (by decide) ?_
  refine r_icmp_lt (tgt := 19) C dX8_working_10 (by decide) ?_ ?_
  · refine r_iconst (v := (-1)) C dX8_working_19 (by decide) ?_
    exact r_ireturn C dX8_working_20
  refine r_iload_n C dX8_working_13 rfl rfl ?_
  refine r_bipush (v := 99) C dX8_working_14 (by decide) ?_
  refine r_icmp_le (tgt := 21) C dX8_working_16 (by decide) ?_ ?_
  · refine r_aload_n C dX8_working_21 rfl rfl ?_
    refine r_get (v := .inr (4, 0)) C fl_X8_50 dX8_working_22 rfl ?_
    refine r_aload_n C dX8_working_25 rfl rfl ?_
    refine r_get (v := .inr (6, 0)) C fl_X8_10 dX8_working_26 rfl ?_
    refine r_get (v := .inr (42, 0)) C fl_X8_108 dX8_working_29 rfl ?_
    refine r_iload_n C dX8_working_32 rfl rfl ?_
    refine r_aald (q := fun n3 => (5, (4 * 0 + n3))) C (by decide) (fun _ => rfl) dX8_working_33 (fun n3 => ?_)
    refine r_iload_n C dX8_working_34 rfl rfl ?_
    refine r_invI (t := 4) (kb := 0) (As := [.inr (5, (4 * 0 + n3)), .inl a2]) (st := []) C il_X8_369 co_X4_mostUnlike (by decide) rfl (c_X4_mostUnlike (4 * 0 + n3) a2 m1) (by decide) (by decide) rfl rfl (Nat.le_of_ble_eq_true rfl) dX8_working_35 (fun r5 m4 => ?_)
    exact r_ireturn C dX8_working_38
  refine r_iconst (v := (-1)) C dX8_working_19 (by decide) ?_
  exact r_ireturn C dX8_working_20
theorem dX8_hottest_0 : decode cX8_hottest 0 = .ok (.aload_n 0, 1) := by decide +kernel
theorem dX8_hottest_1 : decode cX8_hottest 1 = .ok (.iload_n 1, 1) := by decide +kernel
theorem dX8_hottest_2 : decode cX8_hottest 2 = .ok (.invokevirtual 207, 3) := by decide +kernel
theorem dX8_hottest_5 : decode cX8_hottest 5 = .ok (.ifCond .ne 5, 3) := by decide +kernel
theorem dX8_hottest_8 : decode cX8_hottest 8 = .ok (.iconst (-1), 1) := by decide +kernel
theorem dX8_hottest_9 : decode cX8_hottest 9 = .ok (.ireturn, 1) := by decide +kernel
theorem dX8_hottest_10 : decode cX8_hottest 10 = .ok (.aload_n 0, 1) := by decide +kernel
theorem dX8_hottest_11 : decode cX8_hottest 11 = .ok (.getfield 50, 3) := by decide +kernel
theorem dX8_hottest_14 : decode cX8_hottest 14 = .ok (.aload_n 0, 1) := by decide +kernel
theorem dX8_hottest_15 : decode cX8_hottest 15 = .ok (.getfield 10, 3) := by decide +kernel
theorem dX8_hottest_18 : decode cX8_hottest 18 = .ok (.getfield 108, 3) := by decide +kernel
theorem dX8_hottest_21 : decode cX8_hottest 21 = .ok (.iload_n 1, 1) := by decide +kernel
theorem dX8_hottest_22 : decode cX8_hottest 22 = .ok (.aaload, 1) := by decide +kernel
theorem dX8_hottest_23 : decode cX8_hottest 23 = .ok (.invokevirtual 376, 3) := by decide +kernel
theorem dX8_hottest_26 : decode cX8_hottest 26 = .ok (.istore_n 3, 1) := by decide +kernel
theorem dX8_hottest_27 : decode cX8_hottest 27 = .ok (.iload_n 3, 1) := by decide +kernel
theorem dX8_hottest_28 : decode cX8_hottest 28 = .ok (.iconst (-1), 1) := by decide +kernel
theorem dX8_hottest_29 : decode cX8_hottest 29 = .ok (.if_icmp .ne 13, 3) := by decide +kernel
theorem dX8_hottest_32 : decode cX8_hottest 32 = .ok (.iload_n 2, 1) := by decide +kernel
theorem dX8_hottest_33 : decode cX8_hottest 33 = .ok (.ifCond .eq 7, 3) := by decide +kernel
theorem dX8_hottest_36 : decode cX8_hottest 36 = .ok (.iconst 0, 1) := by decide +kernel
theorem dX8_hottest_37 : decode cX8_hottest 37 = .ok (.goto 4, 3) := by decide +kernel
theorem dX8_hottest_40 : decode cX8_hottest 40 = .ok (.iconst (-1), 1) := by decide +kernel
theorem dX8_hottest_41 : decode cX8_hottest 41 = .ok (.ireturn, 1) := by decide +kernel
theorem dX8_hottest_42 : decode cX8_hottest 42 = .ok (.iload_n 2, 1) := by decide +kernel
theorem dX8_hottest_43 : decode cX8_hottest 43 = .ok (.ifCond .eq 15, 3) := by decide +kernel
theorem dX8_hottest_46 : decode cX8_hottest 46 = .ok (.aload_n 0, 1) := by decide +kernel
theorem dX8_hottest_47 : decode cX8_hottest 47 = .ok (.getfield 50, 3) := by decide +kernel
theorem dX8_hottest_50 : decode cX8_hottest 50 = .ok (.getfield 380, 3) := by decide +kernel
theorem dX8_hottest_53 : decode cX8_hottest 53 = .ok (.iload_n 3, 1) := by decide +kernel
theorem dX8_hottest_54 : decode cX8_hottest 54 = .ok (.iaload, 1) := by decide +kernel
theorem dX8_hottest_55 : decode cX8_hottest 55 = .ok (.goto 4, 3) := by decide +kernel
theorem dX8_hottest_58 : decode cX8_hottest 58 = .ok (.iload_n 3, 1) := by decide +kernel
theorem dX8_hottest_59 : decode cX8_hottest 59 = .ok (.ireturn, 1) := by decide +kernel
def X8_hottest (a1 : Int32) (a2 : Int32) (m : gM) : Option (Int32 × gM) :=
  gCall (X8_isTrace a1 m) (fun (r2 : Bool) (m1 : gM) => if r2 = true then (gAtR 42 a1 (fun (n3 : Nat) => gCall (X4_hottestLine (4 * 0 + n3) m1) (fun (r5 : Int32) (m4 : gM) => if r5 = (-1) then (if a2 = 0 then (some ((-1), m4)) else (some (0, m4))) else (if a2 = 0 then (some (r5, m4)) else (gAt m4 34 0 r5 (fun (x6 : Int32) => some (x6, m4))))))) else (some ((-1), m1)))
set_option maxRecDepth 100000 in
set_option maxHeartbeats 4000000 in
theorem c_X8_hottest (a1 : Int32) (a2 : Int32) (m : gM) : gCon eI yX8_hottest cX8_hottest 4 (some .int) 2 [.inr (8, 0), .inl a1, .inl a2] m (X8_hottest a1 a2 m) := by
  refine gCon.of (lv := [some (.inr (8, 0)), some (.inl a1), some (.inl a2), none]) (by decide +kernel) (Nat.le_of_ble_eq_true rfl) rfl (fun X C => ?_)
  unfold X8_hottest
  refine r_aload_n C dX8_hottest_0 rfl rfl ?_
  refine r_iload_n C dX8_hottest_1 rfl rfl ?_
  refine r_invB (t := 8) (kb := 0) (As := [.inl a1]) (st := []) C il_X8_207 co_X8_isTrace (by decide) rfl (c_X8_isTrace a1 m) (by decide) (by decide) rfl rfl (Nat.le_of_ble_eq_true rfl) dX8_hottest_2 (fun r2 m1 => ?_)
  refine r_ifneB (tgt := 10) C dX8_hottest_5 (by decide) ?_ ?_
  · refine r_aload_n C dX8_hottest_10 rfl rfl ?_
    refine r_get (v := .inr (4, 0)) C fl_X8_50 dX8_hottest_11 rfl ?_
    refine r_aload_n C dX8_hottest_14 rfl rfl ?_
    refine r_get (v := .inr (6, 0)) C fl_X8_10 dX8_hottest_15 rfl ?_
    refine r_get (v := .inr (42, 0)) C fl_X8_108 dX8_hottest_18 rfl ?_
    refine r_iload_n C dX8_hottest_21 rfl rfl ?_
    refine r_aald (q := fun n3 => (5, (4 * 0 + n3))) C (by decide) (fun _ => rfl) dX8_hottest_22 (fun n3 => ?_)
    refine r_invI (t := 4) (kb := 0) (As := [.inr (5, (4 * 0 + n3))]) (st := []) C il_X8_376 co_X4_hottestLine (by decide) rfl (c_X4_hottestLine (4 * 0 + n3) m1) (by decide) (by decide) rfl rfl (Nat.le_of_ble_eq_true rfl) dX8_hottest_23 (fun r5 m4 => ?_)
    refine r_istore_n (lv' := [some (.inr (8, 0)), some (.inl a1), some (.inl a2), some (.inl r5)]) C dX8_hottest_26 rfl (by decide) rfl ?_
    refine r_iload_n C dX8_hottest_27 rfl rfl ?_
    refine r_iconst (v := (-1)) C dX8_hottest_28 (by decide) ?_
    refine r_icmp_ne (tgt := 42) C dX8_hottest_29 (by decide) ?_ ?_
    · refine r_iload_n C dX8_hottest_42 rfl rfl ?_
      refine r_if_eq (tgt := 58) C dX8_hottest_43 (by decide) ?_ ?_
      · refine r_iload_n C dX8_hottest_58 rfl rfl ?_
        exact r_ireturn C dX8_hottest_59
      refine r_aload_n C dX8_hottest_46 rfl rfl ?_
      refine r_get (v := .inr (4, 0)) C fl_X8_50 dX8_hottest_47 rfl ?_
      refine r_get (v := .inr (34, 0)) C fl_X8_380 dX8_hottest_50 rfl ?_
      refine r_iload_n C dX8_hottest_53 rfl rfl ?_
      refine r_iald C rfl dX8_hottest_54 (fun x6 => ?_)
      refine r_goto (tgt := 59) C dX8_hottest_55 (by decide) ?_
      exact r_ireturn C dX8_hottest_59
    refine r_iload_n C dX8_hottest_32 rfl rfl ?_
    refine r_if_eq (tgt := 40) C dX8_hottest_33 (by decide) ?_ ?_
    · refine r_iconst (v := (-1)) C dX8_hottest_40 (by decide) ?_
      exact r_ireturn C dX8_hottest_41
    refine r_iconst (v := 0) C dX8_hottest_36 (by decide) ?_
    refine r_goto (tgt := 41) C dX8_hottest_37 (by decide) ?_
    exact r_ireturn C dX8_hottest_41
  refine r_iconst (v := (-1)) C dX8_hottest_8 (by decide) ?_
  exact r_ireturn C dX8_hottest_9
theorem dX8_hits_0 : decode cX8_hits 0 = .ok (.aload_n 0, 1) := by decide +kernel
theorem dX8_hits_1 : decode cX8_hits 1 = .ok (.iload_n 1, 1) := by decide +kernel
theorem dX8_hits_2 : decode cX8_hits 2 = .ok (.invokevirtual 207, 3) := by decide +kernel
theorem dX8_hits_5 : decode cX8_hits 5 = .ok (.ifCond .ne 5, 3) := by decide +kernel
theorem dX8_hits_8 : decode cX8_hits 8 = .ok (.iconst (-1), 1) := by decide +kernel
theorem dX8_hits_9 : decode cX8_hits 9 = .ok (.ireturn, 1) := by decide +kernel
theorem dX8_hits_10 : decode cX8_hits 10 = .ok (.aload_n 0, 1) := by decide +kernel
theorem dX8_hits_11 : decode cX8_hits 11 = .ok (.getfield 22, 3) := by decide +kernel
theorem dX8_hits_14 : decode cX8_hits 14 = .ok (.aload_n 0, 1) := by decide +kernel
theorem dX8_hits_15 : decode cX8_hits 15 = .ok (.getfield 10, 3) := by decide +kernel
theorem dX8_hits_18 : decode cX8_hits 18 = .ok (.getfield 82, 3) := by decide +kernel
theorem dX8_hits_21 : decode cX8_hits 21 = .ok (.invokevirtual 316, 3) := by decide +kernel
theorem dX8_hits_24 : decode cX8_hits 24 = .ok (.aload_n 0, 1) := by decide +kernel
theorem dX8_hits_25 : decode cX8_hits 25 = .ok (.getfield 10, 3) := by decide +kernel
theorem dX8_hits_28 : decode cX8_hits 28 = .ok (.getfield 108, 3) := by decide +kernel
theorem dX8_hits_31 : decode cX8_hits 31 = .ok (.iload_n 1, 1) := by decide +kernel
theorem dX8_hits_32 : decode cX8_hits 32 = .ok (.aaload, 1) := by decide +kernel
theorem dX8_hits_33 : decode cX8_hits 33 = .ok (.getfield 365, 3) := by decide +kernel
theorem dX8_hits_36 : decode cX8_hits 36 = .ok (.aload_n 0, 1) := by decide +kernel
theorem dX8_hits_37 : decode cX8_hits 37 = .ok (.aload_n 0, 1) := by decide +kernel
theorem dX8_hits_38 : decode cX8_hits 38 = .ok (.getfield 22, 3) := by decide +kernel
theorem dX8_hits_41 : decode cX8_hits 41 = .ok (.aload_n 0, 1) := by decide +kernel
theorem dX8_hits_42 : decode cX8_hits 42 = .ok (.getfield 10, 3) := by decide +kernel
theorem dX8_hits_45 : decode cX8_hits 45 = .ok (.getfield 108, 3) := by decide +kernel
theorem dX8_hits_48 : decode cX8_hits 48 = .ok (.iload_n 1, 1) := by decide +kernel
theorem dX8_hits_49 : decode cX8_hits 49 = .ok (.aaload, 1) := by decide +kernel
theorem dX8_hits_50 : decode cX8_hits 50 = .ok (.invokevirtual 210, 3) := by decide +kernel
theorem dX8_hits_53 : decode cX8_hits 53 = .ok (.isub, 1) := by decide +kernel
theorem dX8_hits_54 : decode cX8_hits 54 = .ok (.ireturn, 1) := by decide +kernel
def X8_hits (a1 : Int32) (m : gM) : Option (Int32 × gM) :=
  gCall (X8_isTrace a1 m) (fun (r2 : Bool) (m1 : gM) => if r2 = true then (gCall (X3_takeStore 42 0 m1) (fun (r4 : Unit) (m3 : gM) => gAtR 42 a1 (fun (n5 : Nat) => gAtR 42 a1 (fun (n6 : Nat) => gCall (X8_missesOn 42 (4 * 0 + n6) m3) (fun (r8 : Int32) (m7 : gM) => some ((m3 5 (4 * 0 + n5) 2) - r8, m7)))))) else (some ((-1), m1)))
set_option maxRecDepth 100000 in
set_option maxHeartbeats 4000000 in
theorem c_X8_hits (a1 : Int32) (m : gM) : gCon eI yX8_hits cX8_hits 2 (some .int) 6 [.inr (8, 0), .inl a1] m (X8_hits a1 m) := by
  refine gCon.of (lv := [some (.inr (8, 0)), some (.inl a1)]) (by decide +kernel) (Nat.le_of_ble_eq_true rfl) rfl (fun X C => ?_)
  unfold X8_hits
  refine r_aload_n C dX8_hits_0 rfl rfl ?_
  refine r_iload_n C dX8_hits_1 rfl rfl ?_
  refine r_invB (t := 8) (kb := 0) (As := [.inl a1]) (st := []) C il_X8_207 co_X8_isTrace (by decide) rfl (c_X8_isTrace a1 m) (by decide) (by decide) rfl rfl (Nat.le_of_ble_eq_true rfl) dX8_hits_2 (fun r2 m1 => ?_)
  refine r_ifneB (tgt := 10) C dX8_hits_5 (by decide) ?_ ?_
  · refine r_aload_n C dX8_hits_10 rfl rfl ?_
    refine r_get (v := .inr (3, 42)) C fl_X8_22 dX8_hits_11 rfl ?_
    refine r_aload_n C dX8_hits_14 rfl rfl ?_
    refine r_get (v := .inr (6, 0)) C fl_X8_10 dX8_hits_15 rfl ?_
    refine r_get (v := .inr (3, 0)) C fl_X8_82 dX8_hits_18 rfl ?_
    refine r_invU (t := 3) (kb := 42) (As := [.inr (3, 0)]) (st := []) C il_X8_316 co_X3_takeStore (by decide) rfl (c_X3_takeStore 42 0 m1) (by decide) (by decide) rfl rfl (Nat.le_of_ble_eq_true rfl) dX8_hits_21 (fun r4 m3 => ?_)
    refine r_aload_n C dX8_hits_24 rfl rfl ?_
    refine r_get (v := .inr (6, 0)) C fl_X8_10 dX8_hits_25 rfl ?_
    refine r_get (v := .inr (42, 0)) C fl_X8_108 dX8_hits_28 rfl ?_
    refine r_iload_n C dX8_hits_31 rfl rfl ?_
    refine r_aald (q := fun n5 => (5, (4 * 0 + n5))) C (by decide) (fun _ => rfl) dX8_hits_32 (fun n5 => ?_)
    refine r_get (v := .inl (m3 5 (4 * 0 + n5) 2)) C fl_X8_365 dX8_hits_33 rfl ?_
    refine r_aload_n C dX8_hits_36 rfl rfl ?_
    refine r_aload_n C dX8_hits_37 rfl rfl ?_
    refine r_get (v := .inr (3, 42)) C fl_X8_22 dX8_hits_38 rfl ?_
    refine r_aload_n C dX8_hits_41 rfl rfl ?_
    refine r_get (v := .inr (6, 0)) C fl_X8_10 dX8_hits_42 rfl ?_
    refine r_get (v := .inr (42, 0)) C fl_X8_108 dX8_hits_45 rfl ?_
    refine r_iload_n C dX8_hits_48 rfl rfl ?_
    refine r_aald (q := fun n6 => (5, (4 * 0 + n6))) C (by decide) (fun _ => rfl) dX8_hits_49 (fun n6 => ?_)
    refine r_invI (t := 8) (kb := 0) (As := [.inr (3, 42), .inr (5, (4 * 0 + n6))]) (st := [.inl (m3 5 (4 * 0 + n5) 2)]) C il_X8_210 co_X8_missesOn (by decide) rfl (c_X8_missesOn 42 (4 * 0 + n6) m3) (by decide) (by decide) rfl rfl (Nat.le_of_ble_eq_true rfl) dX8_hits_50 (fun r8 m7 => ?_)
    refine r_isub C dX8_hits_53 ?_
    exact r_ireturn C dX8_hits_54
  refine r_iconst (v := (-1)) C dX8_hits_8 (by decide) ?_
  exact r_ireturn C dX8_hits_9
theorem dX8_missesForetold_0 : decode cX8_missesForetold 0 = .ok (.aload_n 0, 1) := by decide +kernel
theorem dX8_missesForetold_1 : decode cX8_missesForetold 1 = .ok (.getfield 22, 3) := by decide +kernel
theorem dX8_missesForetold_4 : decode cX8_missesForetold 4 = .ok (.aload_n 0, 1) := by decide +kernel
theorem dX8_missesForetold_5 : decode cX8_missesForetold 5 = .ok (.getfield 10, 3) := by decide +kernel
theorem dX8_missesForetold_8 : decode cX8_missesForetold 8 = .ok (.getfield 82, 3) := by decide +kernel
theorem dX8_missesForetold_11 : decode cX8_missesForetold 11 = .ok (.invokevirtual 316, 3) := by decide +kernel
theorem dX8_missesForetold_14 : decode cX8_missesForetold 14 = .ok (.aload_n 0, 1) := by decide +kernel
theorem dX8_missesForetold_15 : decode cX8_missesForetold 15 = .ok (.getfield 22, 3) := by decide +kernel
theorem dX8_missesForetold_18 : decode cX8_missesForetold 18 = .ok (.invokevirtual 167, 3) := by decide +kernel
theorem dX8_missesForetold_21 : decode cX8_missesForetold 21 = .ok (.pop, 1) := by decide +kernel
theorem dX8_missesForetold_22 : decode cX8_missesForetold 22 = .ok (.aload_n 0, 1) := by decide +kernel
theorem dX8_missesForetold_23 : decode cX8_missesForetold 23 = .ok (.getfield 22, 3) := by decide +kernel
theorem dX8_missesForetold_26 : decode cX8_missesForetold 26 = .ok (.iload_n 2, 1) := by decide +kernel
theorem dX8_missesForetold_27 : decode cX8_missesForetold 27 = .ok (.putfield 204, 3) := by decide +kernel
theorem dX8_missesForetold_30 : decode cX8_missesForetold 30 = .ok (.aload_n 0, 1) := by decide +kernel
theorem dX8_missesForetold_31 : decode cX8_missesForetold 31 = .ok (.aload_n 0, 1) := by decide +kernel
theorem dX8_missesForetold_32 : decode cX8_missesForetold 32 = .ok (.getfield 22, 3) := by decide +kernel
theorem dX8_missesForetold_35 : decode cX8_missesForetold 35 = .ok (.aload_n 1, 1) := by decide +kernel
theorem dX8_missesForetold_36 : decode cX8_missesForetold 36 = .ok (.invokevirtual 210, 3) := by decide +kernel
theorem dX8_missesForetold_39 : decode cX8_missesForetold 39 = .ok (.ireturn, 1) := by decide +kernel
def X8_missesForetold (o1 : Nat) (a2 : Int32) (m : gM) : Option (Int32 × gM) :=
  gCall (X3_takeStore 42 0 m) (fun (r2 : Unit) (m1 : gM) => gCall (X3_emptyAll 42 m1) (fun (r4 : Int32) (m3 : gM) => gSet m3 3 42 2 a2 (fun (m5 : gM) => gCall (X8_missesOn 42 o1 m5) (fun (r7 : Int32) (m6 : gM) => some (r7, m6)))))
set_option maxRecDepth 100000 in
set_option maxHeartbeats 4000000 in
theorem c_X8_missesForetold (o1 : Nat) (a2 : Int32) (m : gM) : gCon eI yX8_missesForetold cX8_missesForetold 3 (some .int) 6 [.inr (8, 0), .inr (5, o1), .inl a2] m (X8_missesForetold o1 a2 m) := by
  refine gCon.of (lv := [some (.inr (8, 0)), some (.inr (5, o1)), some (.inl a2)]) (by decide +kernel) (Nat.le_of_ble_eq_true rfl) rfl (fun X C => ?_)
  unfold X8_missesForetold
  refine r_aload_n C dX8_missesForetold_0 rfl rfl ?_
  refine r_get (v := .inr (3, 42)) C fl_X8_22 dX8_missesForetold_1 rfl ?_
  refine r_aload_n C dX8_missesForetold_4 rfl rfl ?_
  refine r_get (v := .inr (6, 0)) C fl_X8_10 dX8_missesForetold_5 rfl ?_
  refine r_get (v := .inr (3, 0)) C fl_X8_82 dX8_missesForetold_8 rfl ?_
  refine r_invU (t := 3) (kb := 42) (As := [.inr (3, 0)]) (st := []) C il_X8_316 co_X3_takeStore (by decide) rfl (c_X3_takeStore 42 0 m) (by decide) (by decide) rfl rfl (Nat.le_of_ble_eq_true rfl) dX8_missesForetold_11 (fun r2 m1 => ?_)
  refine r_aload_n C dX8_missesForetold_14 rfl rfl ?_
  refine r_get (v := .inr (3, 42)) C fl_X8_22 dX8_missesForetold_15 rfl ?_
  refine r_invI (t := 3) (kb := 42) (As := []) (st := []) C il_X8_167 co_X3_emptyAll (by decide) rfl (c_X3_emptyAll 42 m1) (by decide) (by decide) rfl rfl (Nat.le_of_ble_eq_true rfl) dX8_missesForetold_18 (fun r4 m3 => ?_)
  refine r_pop C dX8_missesForetold_21 ?_
  refine r_aload_n C dX8_missesForetold_22 rfl rfl ?_
  refine r_get (v := .inr (3, 42)) C fl_X8_22 dX8_missesForetold_23 rfl ?_
  refine r_iload_n C dX8_missesForetold_26 rfl rfl ?_
  refine r_put C fl_X8_204 rfl rfl rfl dX8_missesForetold_27 (fun m5 => ?_)
  refine r_aload_n C dX8_missesForetold_30 rfl rfl ?_
  refine r_aload_n C dX8_missesForetold_31 rfl rfl ?_
  refine r_get (v := .inr (3, 42)) C fl_X8_22 dX8_missesForetold_32 rfl ?_
  refine r_aload_n C dX8_missesForetold_35 rfl rfl ?_
  refine r_invI (t := 8) (kb := 0) (As := [.inr (3, 42), .inr (5, o1)]) (st := []) C il_X8_210 co_X8_missesOn (by decide) rfl (c_X8_missesOn 42 o1 m5) (by decide) (by decide) rfl rfl (Nat.le_of_ble_eq_true rfl) dX8_missesForetold_36 (fun r7 m6 => ?_)
  exact r_ireturn C dX8_missesForetold_39
theorem dX8_misses_0 : decode cX8_misses 0 = .ok (.aload_n 0, 1) := by decide +kernel
theorem dX8_misses_1 : decode cX8_misses 1 = .ok (.iload_n 1, 1) := by decide +kernel
theorem dX8_misses_2 : decode cX8_misses 2 = .ok (.invokevirtual 207, 3) := by decide +kernel
theorem dX8_misses_5 : decode cX8_misses 5 = .ok (.ifCond .eq 10, 3) := by decide +kernel
theorem dX8_misses_8 : decode cX8_misses 8 = .ok (.iload_n 2, 1) := by decide +kernel
theorem dX8_misses_9 : decode cX8_misses 9 = .ok (.invokestatic 201, 3) := by decide +kernel
theorem dX8_misses_12 : decode cX8_misses 12 = .ok (.ifCond .ne 5, 3) := by decide +kernel
theorem dX8_misses_15 : decode cX8_misses 15 = .ok (.iconst (-1), 1) := by decide +kernel
theorem dX8_misses_16 : decode cX8_misses 16 = .ok (.ireturn, 1) := by decide +kernel
theorem dX8_misses_17 : decode cX8_misses 17 = .ok (.aload_n 0, 1) := by decide +kernel
theorem dX8_misses_18 : decode cX8_misses 18 = .ok (.aload_n 0, 1) := by decide +kernel
theorem dX8_misses_19 : decode cX8_misses 19 = .ok (.getfield 10, 3) := by decide +kernel
theorem dX8_misses_22 : decode cX8_misses 22 = .ok (.getfield 108, 3) := by decide +kernel
theorem dX8_misses_25 : decode cX8_misses 25 = .ok (.iload_n 1, 1) := by decide +kernel
theorem dX8_misses_26 : decode cX8_misses 26 = .ok (.aaload, 1) := by decide +kernel
theorem dX8_misses_27 : decode cX8_misses 27 = .ok (.iload_n 2, 1) := by decide +kernel
theorem dX8_misses_28 : decode cX8_misses 28 = .ok (.invokevirtual 383, 3) := by decide +kernel
theorem dX8_misses_31 : decode cX8_misses 31 = .ok (.ireturn, 1) := by decide +kernel
def X8_misses (a1 : Int32) (a2 : Int32) (m : gM) : Option (Int32 × gM) :=
  gCall (X8_isTrace a1 m) (fun (r2 : Bool) (m1 : gM) => if r2 = true then (gCall (X8_isDepth a2 m1) (fun (r4 : Bool) (m3 : gM) => if r4 = true then (gAtR 42 a1 (fun (n5 : Nat) => gCall (X8_missesForetold (4 * 0 + n5) a2 m3) (fun (r7 : Int32) (m6 : gM) => some (r7, m6)))) else (some ((-1), m3)))) else (some ((-1), m1)))
set_option maxRecDepth 100000 in
set_option maxHeartbeats 4000000 in
theorem c_X8_misses (a1 : Int32) (a2 : Int32) (m : gM) : gCon eI yX8_misses cX8_misses 3 (some .int) 7 [.inr (8, 0), .inl a1, .inl a2] m (X8_misses a1 a2 m) := by
  refine gCon.of (lv := [some (.inr (8, 0)), some (.inl a1), some (.inl a2)]) (by decide +kernel) (Nat.le_of_ble_eq_true rfl) rfl (fun X C => ?_)
  unfold X8_misses
  refine r_aload_n C dX8_misses_0 rfl rfl ?_
  refine r_iload_n C dX8_misses_1 rfl rfl ?_
  refine r_invB (t := 8) (kb := 0) (As := [.inl a1]) (st := []) C il_X8_207 co_X8_isTrace (by decide) rfl (c_X8_isTrace a1 m) (by decide) (by decide) rfl rfl (Nat.le_of_ble_eq_true rfl) dX8_misses_2 (fun r2 m1 => ?_)
  refine r_ifeqB (tgt := 15) C dX8_misses_5 (by decide) ?_ ?_
  · refine r_iconst (v := (-1)) C dX8_misses_15 (by decide) ?_
    exact r_ireturn C dX8_misses_16
  refine r_iload_n C dX8_misses_8 rfl rfl ?_
  refine r_insB (As := [.inl a2]) (st := []) C il_X8_201 co_X8_isDepth (c_X8_isDepth a2 m1) (by decide) (by decide) rfl rfl (Nat.le_of_ble_eq_true rfl) dX8_misses_9 (fun r4 m3 => ?_)
  refine r_ifneB (tgt := 17) C dX8_misses_12 (by decide) ?_ ?_
  · refine r_aload_n C dX8_misses_17 rfl rfl ?_
    refine r_aload_n C dX8_misses_18 rfl rfl ?_
    refine r_get (v := .inr (6, 0)) C fl_X8_10 dX8_misses_19 rfl ?_
    refine r_get (v := .inr (42, 0)) C fl_X8_108 dX8_misses_22 rfl ?_
    refine r_iload_n C dX8_misses_25 rfl rfl ?_
    refine r_aald (q := fun n5 => (5, (4 * 0 + n5))) C (by decide) (fun _ => rfl) dX8_misses_26 (fun n5 => ?_)
    refine r_iload_n C dX8_misses_27 rfl rfl ?_
    refine r_invI (t := 8) (kb := 0) (As := [.inr (5, (4 * 0 + n5)), .inl a2]) (st := []) C il_X8_383 co_X8_missesForetold (by decide) rfl (c_X8_missesForetold (4 * 0 + n5) a2 m3) (by decide) (by decide) rfl rfl (Nat.le_of_ble_eq_true rfl) dX8_misses_28 (fun r7 m6 => ?_)
    exact r_ireturn C dX8_misses_31
  refine r_iconst (v := (-1)) C dX8_misses_15 (by decide) ?_
  exact r_ireturn C dX8_misses_16
theorem dX8_deepest_0 : decode cX8_deepest 0 = .ok (.aload_n 0, 1) := by decide +kernel
theorem dX8_deepest_1 : decode cX8_deepest 1 = .ok (.iload_n 1, 1) := by decide +kernel
theorem dX8_deepest_2 : decode cX8_deepest 2 = .ok (.invokevirtual 207, 3) := by decide +kernel
theorem dX8_deepest_5 : decode cX8_deepest 5 = .ok (.ifCond .ne 5, 3) := by decide +kernel
theorem dX8_deepest_8 : decode cX8_deepest 8 = .ok (.iconst (-1), 1) := by decide +kernel
theorem dX8_deepest_9 : decode cX8_deepest 9 = .ok (.ireturn, 1) := by decide +kernel
theorem dX8_deepest_10 : decode cX8_deepest 10 = .ok (.iconst 0, 1) := by decide +kernel
theorem dX8_deepest_11 : decode cX8_deepest 11 = .ok (.istore_n 2, 1) := by decide +kernel
theorem dX8_deepest_12 : decode cX8_deepest 12 = .ok (.aload_n 0, 1) := by decide +kernel
theorem dX8_deepest_13 : decode cX8_deepest 13 = .ok (.aload_n 0, 1) := by decide +kernel
theorem dX8_deepest_14 : decode cX8_deepest 14 = .ok (.getfield 10, 3) := by decide +kernel
theorem dX8_deepest_17 : decode cX8_deepest 17 = .ok (.getfield 108, 3) := by decide +kernel
theorem dX8_deepest_20 : decode cX8_deepest 20 = .ok (.iload_n 1, 1) := by decide +kernel
theorem dX8_deepest_21 : decode cX8_deepest 21 = .ok (.aaload, 1) := by decide +kernel
theorem dX8_deepest_22 : decode cX8_deepest 22 = .ok (.iconst 0, 1) := by decide +kernel
theorem dX8_deepest_23 : decode cX8_deepest 23 = .ok (.invokevirtual 383, 3) := by decide +kernel
theorem dX8_deepest_26 : decode cX8_deepest 26 = .ok (.istore_n 3, 1) := by decide +kernel
theorem dX8_deepest_27 : decode cX8_deepest 27 = .ok (.iconst 1, 1) := by decide +kernel
theorem dX8_deepest_28 : decode cX8_deepest 28 = .ok (.istore 4, 2) := by decide +kernel
theorem dX8_deepest_30 : decode cX8_deepest 30 = .ok (.iload 4, 2) := by decide +kernel
theorem dX8_deepest_32 : decode cX8_deepest 32 = .ok (.iconst 3, 1) := by decide +kernel
theorem dX8_deepest_33 : decode cX8_deepest 33 = .ok (.if_icmp .gt 38, 3) := by decide +kernel
theorem dX8_deepest_36 : decode cX8_deepest 36 = .ok (.aload_n 0, 1) := by decide +kernel
theorem dX8_deepest_37 : decode cX8_deepest 37 = .ok (.aload_n 0, 1) := by decide +kernel
theorem dX8_deepest_38 : decode cX8_deepest 38 = .ok (.getfield 10, 3) := by decide +kernel
theorem dX8_deepest_41 : decode cX8_deepest 41 = .ok (.getfield 108, 3) := by decide +kernel
theorem dX8_deepest_44 : decode cX8_deepest 44 = .ok (.iload_n 1, 1) := by decide +kernel
theorem dX8_deepest_45 : decode cX8_deepest 45 = .ok (.aaload, 1) := by decide +kernel
theorem dX8_deepest_46 : decode cX8_deepest 46 = .ok (.iload 4, 2) := by decide +kernel
theorem dX8_deepest_48 : decode cX8_deepest 48 = .ok (.invokevirtual 383, 3) := by decide +kernel
theorem dX8_deepest_51 : decode cX8_deepest 51 = .ok (.istore 5, 2) := by decide +kernel
theorem dX8_deepest_53 : decode cX8_deepest 53 = .ok (.iload 5, 2) := by decide +kernel
theorem dX8_deepest_55 : decode cX8_deepest 55 = .ok (.iload_n 3, 1) := by decide +kernel
theorem dX8_deepest_56 : decode cX8_deepest 56 = .ok (.if_icmp .ge 9, 3) := by decide +kernel
theorem dX8_deepest_59 : decode cX8_deepest 59 = .ok (.iload 5, 2) := by decide +kernel
theorem dX8_deepest_61 : decode cX8_deepest 61 = .ok (.istore_n 3, 1) := by decide +kernel
theorem dX8_deepest_62 : decode cX8_deepest 62 = .ok (.iload 4, 2) := by decide +kernel
theorem dX8_deepest_64 : decode cX8_deepest 64 = .ok (.istore_n 2, 1) := by decide +kernel
theorem dX8_deepest_65 : decode cX8_deepest 65 = .ok (.iinc 4 1, 3) := by decide +kernel
theorem dX8_deepest_68 : decode cX8_deepest 68 = .ok (.goto (-38), 3) := by decide +kernel
theorem dX8_deepest_71 : decode cX8_deepest 71 = .ok (.iload_n 2, 1) := by decide +kernel
theorem dX8_deepest_72 : decode cX8_deepest 72 = .ok (.ireturn, 1) := by decide +kernel
def X8_deepest_b30 (a1 : Int32) (v6 v7 v8 : Int32) (m9 : gM) (k30 : Int32 → Int32 → Int32 → gM → Option (Int32 × gM)) : Option (Int32 × gM) :=
  if 3 < v8 then (some (v6, m9)) else (gAtR 42 a1 (fun (n10 : Nat) => gCall (X8_missesForetold (4 * 0 + n10) v8 m9) (fun (r12 : Int32) (m11 : gM) => if v7 ≤ r12 then (gLet (v8 + 1) (fun (x13 : Int32) => k30 v6 v7 x13 m11)) else (gLet (v8 + 1) (fun (x14 : Int32) => k30 v8 r12 x14 m11)))))
def X8_deepest (a1 : Int32) (m : gM) : Option (Int32 × gM) :=
  gCall (X8_isTrace a1 m) (fun (r2 : Bool) (m1 : gM) => if r2 = true then (gAtR 42 a1 (fun (n3 : Nat) => gCall (X8_missesForetold (4 * 0 + n3) 0 m1) (fun (r5 : Int32) (m4 : gM) => gL3 FU (X8_deepest_b30 a1) 0 r5 1 m4))) else (some ((-1), m1)))
set_option maxRecDepth 100000 in
set_option maxHeartbeats 4000000 in
theorem c_X8_deepest (a1 : Int32) (m : gM) : gCon eI yX8_deepest cX8_deepest 6 (some .int) 7 [.inr (8, 0), .inl a1] m (X8_deepest a1 m) := by
  refine gCon.of (lv := [some (.inr (8, 0)), some (.inl a1), none, none, none, none]) (by decide +kernel) (Nat.le_of_ble_eq_true rfl) rfl (fun X C => ?_)
  unfold X8_deepest
  refine r_aload_n C dX8_deepest_0 rfl rfl ?_
  refine r_iload_n C dX8_deepest_1 rfl rfl ?_
  refine r_invB (t := 8) (kb := 0) (As := [.inl a1]) (st := []) C il_X8_207 co_X8_isTrace (by decide) rfl (c_X8_isTrace a1 m) (by decide) (by decide) rfl rfl (Nat.le_of_ble_eq_true rfl) dX8_deepest_2 (fun r2 m1 => ?_)
  refine r_ifneB (tgt := 10) C dX8_deepest_5 (by decide) ?_ ?_
  · refine r_iconst (v := 0) C dX8_deepest_10 (by decide) ?_
    refine r_istore_n (lv' := [some (.inr (8, 0)), some (.inl a1), some (.inl 0), none, none, none]) C dX8_deepest_11 rfl (by decide) rfl ?_
    refine r_aload_n C dX8_deepest_12 rfl rfl ?_
    refine r_aload_n C dX8_deepest_13 rfl rfl ?_
    refine r_get (v := .inr (6, 0)) C fl_X8_10 dX8_deepest_14 rfl ?_
    refine r_get (v := .inr (42, 0)) C fl_X8_108 dX8_deepest_17 rfl ?_
    refine r_iload_n C dX8_deepest_20 rfl rfl ?_
    refine r_aald (q := fun n3 => (5, (4 * 0 + n3))) C (by decide) (fun _ => rfl) dX8_deepest_21 (fun n3 => ?_)
    refine r_iconst (v := 0) C dX8_deepest_22 (by decide) ?_
    refine r_invI (t := 8) (kb := 0) (As := [.inr (5, (4 * 0 + n3)), .inl 0]) (st := []) C il_X8_383 co_X8_missesForetold (by decide) rfl (c_X8_missesForetold (4 * 0 + n3) 0 m1) (by decide) (by decide) rfl rfl (Nat.le_of_ble_eq_true rfl) dX8_deepest_23 (fun r5 m4 => ?_)
    refine r_istore_n (lv' := [some (.inr (8, 0)), some (.inl a1), some (.inl 0), some (.inl r5), none, none]) C dX8_deepest_26 rfl (by decide) rfl ?_
    refine r_iconst (v := 1) C dX8_deepest_27 (by decide) ?_
    refine r_istore (lv' := [some (.inr (8, 0)), some (.inl a1), some (.inl 0), some (.inl r5), some (.inl 1), none]) C dX8_deepest_28 (by decide) rfl ?_
    refine r_weak (lv' := [some (.inr (8, 0)), some (.inl a1), some (.inl 0), some (.inl r5), some (.inl 1), none]) ⟨rfl, rfl, rfl, rfl, rfl, trivial⟩ ?_
    refine r_l3 (pj := 30) (fun v6 v7 v8 => [some (.inr (8, 0)), some (.inl a1), some (.inl v6), some (.inl v7), some (.inl v8), none]) (fun v6 v7 v8 m9 k30 hk30 => ?_) _ _ _ _ _
    unfold X8_deepest_b30
    refine r_iload C dX8_deepest_30 rfl ?_
    refine r_iconst (v := 3) C dX8_deepest_32 (by decide) ?_
    refine r_icmp_gt (tgt := 71) C dX8_deepest_33 (by decide) ?_ ?_
    · refine r_iload_n C dX8_deepest_71 rfl rfl ?_
      exact r_ireturn C dX8_deepest_72
    refine r_aload_n C dX8_deepest_36 rfl rfl ?_
    refine r_aload_n C dX8_deepest_37 rfl rfl ?_
    refine r_get (v := .inr (6, 0)) C fl_X8_10 dX8_deepest_38 rfl ?_
    refine r_get (v := .inr (42, 0)) C fl_X8_108 dX8_deepest_41 rfl ?_
    refine r_iload_n C dX8_deepest_44 rfl rfl ?_
    refine r_aald (q := fun n10 => (5, (4 * 0 + n10))) C (by decide) (fun _ => rfl) dX8_deepest_45 (fun n10 => ?_)
    refine r_iload C dX8_deepest_46 rfl ?_
    refine r_invI (t := 8) (kb := 0) (As := [.inr (5, (4 * 0 + n10)), .inl v8]) (st := []) C il_X8_383 co_X8_missesForetold (by decide) rfl (c_X8_missesForetold (4 * 0 + n10) v8 m9) (by decide) (by decide) rfl rfl (Nat.le_of_ble_eq_true rfl) dX8_deepest_48 (fun r12 m11 => ?_)
    refine r_istore (lv' := [some (.inr (8, 0)), some (.inl a1), some (.inl v6), some (.inl v7), some (.inl v8), some (.inl r12)]) C dX8_deepest_51 (by decide) rfl ?_
    refine r_iload C dX8_deepest_53 rfl ?_
    refine r_iload_n C dX8_deepest_55 rfl rfl ?_
    refine r_icmp_ge (tgt := 65) C dX8_deepest_56 (by decide) ?_ ?_
    · refine r_iinc (v := 1) C dX8_deepest_65 (by decide) rfl (by decide) (fun x13 => ?_)
      show gw X eI _ [some (.inr (8, 0)), some (.inl a1), some (.inl v6), some (.inl v7), some (.inl x13), some (.inl r12)] _ _ _
      refine r_goto (tgt := 30) C dX8_deepest_68 (by decide) ?_
      exact r_weak (lv' := [some (.inr (8, 0)), some (.inl a1), some (.inl v6), some (.inl v7), some (.inl x13), none]) ⟨rfl, rfl, rfl, rfl, rfl, trivial⟩ (hk30 _ _ _ _)
    refine r_iload C dX8_deepest_59 rfl ?_
    refine r_istore_n (lv' := [some (.inr (8, 0)), some (.inl a1), some (.inl v6), some (.inl r12), some (.inl v8), some (.inl r12)]) C dX8_deepest_61 rfl (by decide) rfl ?_
    refine r_iload C dX8_deepest_62 rfl ?_
    refine r_istore_n (lv' := [some (.inr (8, 0)), some (.inl a1), some (.inl v8), some (.inl r12), some (.inl v8), some (.inl r12)]) C dX8_deepest_64 rfl (by decide) rfl ?_
    refine r_iinc (v := 1) C dX8_deepest_65 (by decide) rfl (by decide) (fun x14 => ?_)
    show gw X eI _ [some (.inr (8, 0)), some (.inl a1), some (.inl v8), some (.inl r12), some (.inl x14), some (.inl r12)] _ _ _
    refine r_goto (tgt := 30) C dX8_deepest_68 (by decide) ?_
    exact r_weak (lv' := [some (.inr (8, 0)), some (.inl a1), some (.inl v8), some (.inl r12), some (.inl x14), none]) ⟨rfl, rfl, rfl, rfl, rfl, trivial⟩ (hk30 _ _ _ _)
  refine r_iconst (v := (-1)) C dX8_deepest_8 (by decide) ?_
  exact r_ireturn C dX8_deepest_9
theorem dX8_missesByFamily_0 : decode cX8_missesByFamily 0 = .ok (.aload_n 0, 1) := by decide +kernel
theorem dX8_missesByFamily_1 : decode cX8_missesByFamily 1 = .ok (.getfield 22, 3) := by decide +kernel
theorem dX8_missesByFamily_4 : decode cX8_missesByFamily 4 = .ok (.aload_n 0, 1) := by decide +kernel
theorem dX8_missesByFamily_5 : decode cX8_missesByFamily 5 = .ok (.getfield 10, 3) := by decide +kernel
theorem dX8_missesByFamily_8 : decode cX8_missesByFamily 8 = .ok (.getfield 82, 3) := by decide +kernel
theorem dX8_missesByFamily_11 : decode cX8_missesByFamily 11 = .ok (.invokevirtual 316, 3) := by decide +kernel
theorem dX8_missesByFamily_14 : decode cX8_missesByFamily 14 = .ok (.aload_n 0, 1) := by decide +kernel
theorem dX8_missesByFamily_15 : decode cX8_missesByFamily 15 = .ok (.getfield 22, 3) := by decide +kernel
theorem dX8_missesByFamily_18 : decode cX8_missesByFamily 18 = .ok (.invokevirtual 167, 3) := by decide +kernel
theorem dX8_missesByFamily_21 : decode cX8_missesByFamily 21 = .ok (.pop, 1) := by decide +kernel
theorem dX8_missesByFamily_22 : decode cX8_missesByFamily 22 = .ok (.aload_n 0, 1) := by decide +kernel
theorem dX8_missesByFamily_23 : decode cX8_missesByFamily 23 = .ok (.getfield 22, 3) := by decide +kernel
theorem dX8_missesByFamily_26 : decode cX8_missesByFamily 26 = .ok (.iload_n 2, 1) := by decide +kernel
theorem dX8_missesByFamily_27 : decode cX8_missesByFamily 27 = .ok (.invokevirtual 176, 3) := by decide +kernel
theorem dX8_missesByFamily_30 : decode cX8_missesByFamily 30 = .ok (.aload_n 0, 1) := by decide +kernel
theorem dX8_missesByFamily_31 : decode cX8_missesByFamily 31 = .ok (.aload_n 0, 1) := by decide +kernel
theorem dX8_missesByFamily_32 : decode cX8_missesByFamily 32 = .ok (.getfield 22, 3) := by decide +kernel
theorem dX8_missesByFamily_35 : decode cX8_missesByFamily 35 = .ok (.aload_n 1, 1) := by decide +kernel
theorem dX8_missesByFamily_36 : decode cX8_missesByFamily 36 = .ok (.invokevirtual 210, 3) := by decide +kernel
theorem dX8_missesByFamily_39 : decode cX8_missesByFamily 39 = .ok (.ireturn, 1) := by decide +kernel
def X8_missesByFamily (o1 : Nat) (a2 : Int32) (m : gM) : Option (Int32 × gM) :=
  gCall (X3_takeStore 42 0 m) (fun (r2 : Unit) (m1 : gM) => gCall (X3_emptyAll 42 m1) (fun (r4 : Int32) (m3 : gM) => gCall (X3_setFamily 42 a2 m3) (fun (r6 : Unit) (m5 : gM) => gCall (X8_missesOn 42 o1 m5) (fun (r8 : Int32) (m7 : gM) => some (r8, m7)))))
set_option maxRecDepth 100000 in
set_option maxHeartbeats 4000000 in
theorem c_X8_missesByFamily (o1 : Nat) (a2 : Int32) (m : gM) : gCon eI yX8_missesByFamily cX8_missesByFamily 3 (some .int) 6 [.inr (8, 0), .inr (5, o1), .inl a2] m (X8_missesByFamily o1 a2 m) := by
  refine gCon.of (lv := [some (.inr (8, 0)), some (.inr (5, o1)), some (.inl a2)]) (by decide +kernel) (Nat.le_of_ble_eq_true rfl) rfl (fun X C => ?_)
  unfold X8_missesByFamily
  refine r_aload_n C dX8_missesByFamily_0 rfl rfl ?_
  refine r_get (v := .inr (3, 42)) C fl_X8_22 dX8_missesByFamily_1 rfl ?_
  refine r_aload_n C dX8_missesByFamily_4 rfl rfl ?_
  refine r_get (v := .inr (6, 0)) C fl_X8_10 dX8_missesByFamily_5 rfl ?_
  refine r_get (v := .inr (3, 0)) C fl_X8_82 dX8_missesByFamily_8 rfl ?_
  refine r_invU (t := 3) (kb := 42) (As := [.inr (3, 0)]) (st := []) C il_X8_316 co_X3_takeStore (by decide) rfl (c_X3_takeStore 42 0 m) (by decide) (by decide) rfl rfl (Nat.le_of_ble_eq_true rfl) dX8_missesByFamily_11 (fun r2 m1 => ?_)
  refine r_aload_n C dX8_missesByFamily_14 rfl rfl ?_
  refine r_get (v := .inr (3, 42)) C fl_X8_22 dX8_missesByFamily_15 rfl ?_
  refine r_invI (t := 3) (kb := 42) (As := []) (st := []) C il_X8_167 co_X3_emptyAll (by decide) rfl (c_X3_emptyAll 42 m1) (by decide) (by decide) rfl rfl (Nat.le_of_ble_eq_true rfl) dX8_missesByFamily_18 (fun r4 m3 => ?_)
  refine r_pop C dX8_missesByFamily_21 ?_
  refine r_aload_n C dX8_missesByFamily_22 rfl rfl ?_
  refine r_get (v := .inr (3, 42)) C fl_X8_22 dX8_missesByFamily_23 rfl ?_
  refine r_iload_n C dX8_missesByFamily_26 rfl rfl ?_
  refine r_invU (t := 3) (kb := 42) (As := [.inl a2]) (st := []) C il_X8_176 co_X3_setFamily (by decide) rfl (c_X3_setFamily 42 a2 m3) (by decide) (by decide) rfl rfl (Nat.le_of_ble_eq_true rfl) dX8_missesByFamily_27 (fun r6 m5 => ?_)
  refine r_aload_n C dX8_missesByFamily_30 rfl rfl ?_
  refine r_aload_n C dX8_missesByFamily_31 rfl rfl ?_
  refine r_get (v := .inr (3, 42)) C fl_X8_22 dX8_missesByFamily_32 rfl ?_
  refine r_aload_n C dX8_missesByFamily_35 rfl rfl ?_
  refine r_invI (t := 8) (kb := 0) (As := [.inr (3, 42), .inr (5, o1)]) (st := []) C il_X8_210 co_X8_missesOn (by decide) rfl (c_X8_missesOn 42 o1 m5) (by decide) (by decide) rfl rfl (Nat.le_of_ble_eq_true rfl) dX8_missesByFamily_36 (fun r8 m7 => ?_)
  exact r_ireturn C dX8_missesByFamily_39
theorem dX8_suited_0 : decode cX8_suited 0 = .ok (.aload_n 0, 1) := by decide +kernel
theorem dX8_suited_1 : decode cX8_suited 1 = .ok (.iload_n 1, 1) := by decide +kernel
theorem dX8_suited_2 : decode cX8_suited 2 = .ok (.invokevirtual 207, 3) := by decide +kernel
theorem dX8_suited_5 : decode cX8_suited 5 = .ok (.ifCond .ne 5, 3) := by decide +kernel
theorem dX8_suited_8 : decode cX8_suited 8 = .ok (.iconst (-1), 1) := by decide +kernel
theorem dX8_suited_9 : decode cX8_suited 9 = .ok (.ireturn, 1) := by decide +kernel
theorem dX8_suited_10 : decode cX8_suited 10 = .ok (.aload_n 0, 1) := by decide +kernel
theorem dX8_suited_11 : decode cX8_suited 11 = .ok (.aload_n 0, 1) := by decide +kernel
theorem dX8_suited_12 : decode cX8_suited 12 = .ok (.getfield 10, 3) := by decide +kernel
theorem dX8_suited_15 : decode cX8_suited 15 = .ok (.getfield 108, 3) := by decide +kernel
theorem dX8_suited_18 : decode cX8_suited 18 = .ok (.iload_n 1, 1) := by decide +kernel
theorem dX8_suited_19 : decode cX8_suited 19 = .ok (.aaload, 1) := by decide +kernel
theorem dX8_suited_20 : decode cX8_suited 20 = .ok (.iconst 0, 1) := by decide +kernel
theorem dX8_suited_21 : decode cX8_suited 21 = .ok (.invokevirtual 386, 3) := by decide +kernel
theorem dX8_suited_24 : decode cX8_suited 24 = .ok (.istore_n 2, 1) := by decide +kernel
theorem dX8_suited_25 : decode cX8_suited 25 = .ok (.aload_n 0, 1) := by decide +kernel
theorem dX8_suited_26 : decode cX8_suited 26 = .ok (.aload_n 0, 1) := by decide +kernel
theorem dX8_suited_27 : decode cX8_suited 27 = .ok (.getfield 10, 3) := by decide +kernel
theorem dX8_suited_30 : decode cX8_suited 30 = .ok (.getfield 108, 3) := by decide +kernel
theorem dX8_suited_33 : decode cX8_suited 33 = .ok (.iload_n 1, 1) := by decide +kernel
theorem dX8_suited_34 : decode cX8_suited 34 = .ok (.aaload, 1) := by decide +kernel
theorem dX8_suited_35 : decode cX8_suited 35 = .ok (.iconst 1, 1) := by decide +kernel
theorem dX8_suited_36 : decode cX8_suited 36 = .ok (.invokevirtual 386, 3) := by decide +kernel
theorem dX8_suited_39 : decode cX8_suited 39 = .ok (.istore_n 3, 1) := by decide +kernel
theorem dX8_suited_40 : decode cX8_suited 40 = .ok (.iload_n 3, 1) := by decide +kernel
theorem dX8_suited_41 : decode cX8_suited 41 = .ok (.iload_n 2, 1) := by decide +kernel
theorem dX8_suited_42 : decode cX8_suited 42 = .ok (.if_icmp .ge 7, 3) := by decide +kernel
theorem dX8_suited_45 : decode cX8_suited 45 = .ok (.iconst 1, 1) := by decide +kernel
theorem dX8_suited_46 : decode cX8_suited 46 = .ok (.goto 4, 3) := by decide +kernel
theorem dX8_suited_49 : decode cX8_suited 49 = .ok (.iconst 0, 1) := by decide +kernel
theorem dX8_suited_50 : decode cX8_suited 50 = .ok (.ireturn, 1) := by decide +kernel
def X8_suited (a1 : Int32) (m : gM) : Option (Int32 × gM) :=
  gCall (X8_isTrace a1 m) (fun (r2 : Bool) (m1 : gM) => if r2 = true then (gAtR 42 a1 (fun (n3 : Nat) => gCall (X8_missesByFamily (4 * 0 + n3) 0 m1) (fun (r5 : Int32) (m4 : gM) => gAtR 42 a1 (fun (n6 : Nat) => gCall (X8_missesByFamily (4 * 0 + n6) 1 m4) (fun (r8 : Int32) (m7 : gM) => if r5 ≤ r8 then (some (0, m7)) else (some (1, m7))))))) else (some ((-1), m1)))
set_option maxRecDepth 100000 in
set_option maxHeartbeats 4000000 in
theorem c_X8_suited (a1 : Int32) (m : gM) : gCon eI yX8_suited cX8_suited 4 (some .int) 7 [.inr (8, 0), .inl a1] m (X8_suited a1 m) := by
  refine gCon.of (lv := [some (.inr (8, 0)), some (.inl a1), none, none]) (by decide +kernel) (Nat.le_of_ble_eq_true rfl) rfl (fun X C => ?_)
  unfold X8_suited
  refine r_aload_n C dX8_suited_0 rfl rfl ?_
  refine r_iload_n C dX8_suited_1 rfl rfl ?_
  refine r_invB (t := 8) (kb := 0) (As := [.inl a1]) (st := []) C il_X8_207 co_X8_isTrace (by decide) rfl (c_X8_isTrace a1 m) (by decide) (by decide) rfl rfl (Nat.le_of_ble_eq_true rfl) dX8_suited_2 (fun r2 m1 => ?_)
  refine r_ifneB (tgt := 10) C dX8_suited_5 (by decide) ?_ ?_
  · refine r_aload_n C dX8_suited_10 rfl rfl ?_
    refine r_aload_n C dX8_suited_11 rfl rfl ?_
    refine r_get (v := .inr (6, 0)) C fl_X8_10 dX8_suited_12 rfl ?_
    refine r_get (v := .inr (42, 0)) C fl_X8_108 dX8_suited_15 rfl ?_
    refine r_iload_n C dX8_suited_18 rfl rfl ?_
    refine r_aald (q := fun n3 => (5, (4 * 0 + n3))) C (by decide) (fun _ => rfl) dX8_suited_19 (fun n3 => ?_)
    refine r_iconst (v := 0) C dX8_suited_20 (by decide) ?_
    refine r_invI (t := 8) (kb := 0) (As := [.inr (5, (4 * 0 + n3)), .inl 0]) (st := []) C il_X8_386 co_X8_missesByFamily (by decide) rfl (c_X8_missesByFamily (4 * 0 + n3) 0 m1) (by decide) (by decide) rfl rfl (Nat.le_of_ble_eq_true rfl) dX8_suited_21 (fun r5 m4 => ?_)
    refine r_istore_n (lv' := [some (.inr (8, 0)), some (.inl a1), some (.inl r5), none]) C dX8_suited_24 rfl (by decide) rfl ?_
    refine r_aload_n C dX8_suited_25 rfl rfl ?_
    refine r_aload_n C dX8_suited_26 rfl rfl ?_
    refine r_get (v := .inr (6, 0)) C fl_X8_10 dX8_suited_27 rfl ?_
    refine r_get (v := .inr (42, 0)) C fl_X8_108 dX8_suited_30 rfl ?_
    refine r_iload_n C dX8_suited_33 rfl rfl ?_
    refine r_aald (q := fun n6 => (5, (4 * 0 + n6))) C (by decide) (fun _ => rfl) dX8_suited_34 (fun n6 => ?_)
    refine r_iconst (v := 1) C dX8_suited_35 (by decide) ?_
    refine r_invI (t := 8) (kb := 0) (As := [.inr (5, (4 * 0 + n6)), .inl 1]) (st := []) C il_X8_386 co_X8_missesByFamily (by decide) rfl (c_X8_missesByFamily (4 * 0 + n6) 1 m4) (by decide) (by decide) rfl rfl (Nat.le_of_ble_eq_true rfl) dX8_suited_36 (fun r8 m7 => ?_)
    refine r_istore_n (lv' := [some (.inr (8, 0)), some (.inl a1), some (.inl r5), some (.inl r8)]) C dX8_suited_39 rfl (by decide) rfl ?_
    refine r_iload_n C dX8_suited_40 rfl rfl ?_
    refine r_iload_n C dX8_suited_41 rfl rfl ?_
    refine r_icmp_ge (tgt := 49) C dX8_suited_42 (by decide) ?_ ?_
    · refine r_iconst (v := 0) C dX8_suited_49 (by decide) ?_
      exact r_ireturn C dX8_suited_50
    refine r_iconst (v := 1) C dX8_suited_45 (by decide) ?_
    refine r_goto (tgt := 50) C dX8_suited_46 (by decide) ?_
    exact r_ireturn C dX8_suited_50
  refine r_iconst (v := (-1)) C dX8_suited_8 (by decide) ?_
  exact r_ireturn C dX8_suited_9
theorem dX8_ideal_0 : decode cX8_ideal 0 = .ok (.aload_n 0, 1) := by decide +kernel
theorem dX8_ideal_1 : decode cX8_ideal 1 = .ok (.iload_n 1, 1) := by decide +kernel
theorem dX8_ideal_2 : decode cX8_ideal 2 = .ok (.invokevirtual 207, 3) := by decide +kernel
theorem dX8_ideal_5 : decode cX8_ideal 5 = .ok (.ifCond .eq 32, 3) := by decide +kernel
theorem dX8_ideal_8 : decode cX8_ideal 8 = .ok (.aload_n 0, 1) := by decide +kernel
theorem dX8_ideal_9 : decode cX8_ideal 9 = .ok (.getfield 50, 3) := by decide +kernel
theorem dX8_ideal_12 : decode cX8_ideal 12 = .ok (.aload_n 0, 1) := by decide +kernel
theorem dX8_ideal_13 : decode cX8_ideal 13 = .ok (.getfield 10, 3) := by decide +kernel
theorem dX8_ideal_16 : decode cX8_ideal 16 = .ok (.getfield 108, 3) := by decide +kernel
theorem dX8_ideal_19 : decode cX8_ideal 19 = .ok (.iload_n 1, 1) := by decide +kernel
theorem dX8_ideal_20 : decode cX8_ideal 20 = .ok (.aaload, 1) := by decide +kernel
theorem dX8_ideal_21 : decode cX8_ideal 21 = .ok (.aload_n 0, 1) := by decide +kernel
theorem dX8_ideal_22 : decode cX8_ideal 22 = .ok (.getfield 10, 3) := by decide +kernel
theorem dX8_ideal_25 : decode cX8_ideal 25 = .ok (.getfield 82, 3) := by decide +kernel
theorem dX8_ideal_28 : decode cX8_ideal 28 = .ok (.invokevirtual 179, 3) := by decide +kernel
theorem dX8_ideal_31 : decode cX8_ideal 31 = .ok (.invokevirtual 389, 3) := by decide +kernel
theorem dX8_ideal_34 : decode cX8_ideal 34 = .ok (.goto 4, 3) := by decide +kernel
theorem dX8_ideal_37 : decode cX8_ideal 37 = .ok (.iconst (-1), 1) := by decide +kernel
theorem dX8_ideal_38 : decode cX8_ideal 38 = .ok (.ireturn, 1) := by decide +kernel
def X8_ideal (a1 : Int32) (m : gM) : Option (Int32 × gM) :=
  gCall (X8_isTrace a1 m) (fun (r2 : Bool) (m1 : gM) => if r2 = true then (gAtR 42 a1 (fun (n3 : Nat) => gCall (X3_slotsInAll 0 m1) (fun (r5 : Int32) (m4 : gM) => gCall (X4_fewestMisses (4 * 0 + n3) r5 m4) (fun (r7 : Int32) (m6 : gM) => some (r7, m6))))) else (some ((-1), m1)))
set_option maxRecDepth 100000 in
set_option maxHeartbeats 4000000 in
theorem c_X8_ideal (a1 : Int32) (m : gM) : gCon eI yX8_ideal cX8_ideal 2 (some .int) 3 [.inr (8, 0), .inl a1] m (X8_ideal a1 m) := by
  refine gCon.of (lv := [some (.inr (8, 0)), some (.inl a1)]) (by decide +kernel) (Nat.le_of_ble_eq_true rfl) rfl (fun X C => ?_)
  unfold X8_ideal
  refine r_aload_n C dX8_ideal_0 rfl rfl ?_
  refine r_iload_n C dX8_ideal_1 rfl rfl ?_
  refine r_invB (t := 8) (kb := 0) (As := [.inl a1]) (st := []) C il_X8_207 co_X8_isTrace (by decide) rfl (c_X8_isTrace a1 m) (by decide) (by decide) rfl rfl (Nat.le_of_ble_eq_true rfl) dX8_ideal_2 (fun r2 m1 => ?_)
  refine r_ifeqB (tgt := 37) C dX8_ideal_5 (by decide) ?_ ?_
  · refine r_iconst (v := (-1)) C dX8_ideal_37 (by decide) ?_
    exact r_ireturn C dX8_ideal_38
  refine r_aload_n C dX8_ideal_8 rfl rfl ?_
  refine r_get (v := .inr (4, 0)) C fl_X8_50 dX8_ideal_9 rfl ?_
  refine r_aload_n C dX8_ideal_12 rfl rfl ?_
  refine r_get (v := .inr (6, 0)) C fl_X8_10 dX8_ideal_13 rfl ?_
  refine r_get (v := .inr (42, 0)) C fl_X8_108 dX8_ideal_16 rfl ?_
  refine r_iload_n C dX8_ideal_19 rfl rfl ?_
  refine r_aald (q := fun n3 => (5, (4 * 0 + n3))) C (by decide) (fun _ => rfl) dX8_ideal_20 (fun n3 => ?_)
  refine r_aload_n C dX8_ideal_21 rfl rfl ?_
  refine r_get (v := .inr (6, 0)) C fl_X8_10 dX8_ideal_22 rfl ?_
  refine r_get (v := .inr (3, 0)) C fl_X8_82 dX8_ideal_25 rfl ?_
  refine r_invI (t := 3) (kb := 0) (As := []) (st := [.inr (5, (4 * 0 + n3)), .inr (4, 0)]) C il_X8_179 co_X3_slotsInAll (by decide) rfl (c_X3_slotsInAll 0 m1) (by decide) (by decide) rfl rfl (Nat.le_of_ble_eq_true rfl) dX8_ideal_28 (fun r5 m4 => ?_)
  refine r_invI (t := 4) (kb := 0) (As := [.inr (5, (4 * 0 + n3)), .inl r5]) (st := []) C il_X8_389 co_X4_fewestMisses (by decide) rfl (c_X4_fewestMisses (4 * 0 + n3) r5 m4) (by decide) (by decide) rfl rfl (Nat.le_of_ble_eq_true rfl) dX8_ideal_31 (fun r7 m6 => ?_)
  refine r_goto (tgt := 38) C dX8_ideal_34 (by decide) ?_
  exact r_ireturn C dX8_ideal_38
theorem dX8_distance_0 : decode cX8_distance 0 = .ok (.aload_n 0, 1) := by decide +kernel
theorem dX8_distance_1 : decode cX8_distance 1 = .ok (.iload_n 1, 1) := by decide +kernel
theorem dX8_distance_2 : decode cX8_distance 2 = .ok (.invokevirtual 207, 3) := by decide +kernel
theorem dX8_distance_5 : decode cX8_distance 5 = .ok (.ifCond .eq 23, 3) := by decide +kernel
theorem dX8_distance_8 : decode cX8_distance 8 = .ok (.iload_n 2, 1) := by decide +kernel
theorem dX8_distance_9 : decode cX8_distance 9 = .ok (.ifCond .lt 19, 3) := by decide +kernel
theorem dX8_distance_12 : decode cX8_distance 12 = .ok (.iload_n 2, 1) := by decide +kernel
theorem dX8_distance_13 : decode cX8_distance 13 = .ok (.aload_n 0, 1) := by decide +kernel
theorem dX8_distance_14 : decode cX8_distance 14 = .ok (.getfield 10, 3) := by decide +kernel
theorem dX8_distance_17 : decode cX8_distance 17 = .ok (.getfield 108, 3) := by decide +kernel
theorem dX8_distance_20 : decode cX8_distance 20 = .ok (.iload_n 1, 1) := by decide +kernel
theorem dX8_distance_21 : decode cX8_distance 21 = .ok (.aaload, 1) := by decide +kernel
theorem dX8_distance_22 : decode cX8_distance 22 = .ok (.getfield 365, 3) := by decide +kernel
theorem dX8_distance_25 : decode cX8_distance 25 = .ok (.if_icmp .lt 5, 3) := by decide +kernel
theorem dX8_distance_28 : decode cX8_distance 28 = .ok (.iconst (-1), 1) := by decide +kernel
theorem dX8_distance_29 : decode cX8_distance 29 = .ok (.ireturn, 1) := by decide +kernel
theorem dX8_distance_30 : decode cX8_distance 30 = .ok (.aload_n 0, 1) := by decide +kernel
theorem dX8_distance_31 : decode cX8_distance 31 = .ok (.getfield 50, 3) := by decide +kernel
theorem dX8_distance_34 : decode cX8_distance 34 = .ok (.aload_n 0, 1) := by decide +kernel
theorem dX8_distance_35 : decode cX8_distance 35 = .ok (.getfield 10, 3) := by decide +kernel
theorem dX8_distance_38 : decode cX8_distance 38 = .ok (.getfield 108, 3) := by decide +kernel
theorem dX8_distance_41 : decode cX8_distance 41 = .ok (.iload_n 1, 1) := by decide +kernel
theorem dX8_distance_42 : decode cX8_distance 42 = .ok (.aaload, 1) := by decide +kernel
theorem dX8_distance_43 : decode cX8_distance 43 = .ok (.iload_n 2, 1) := by decide +kernel
theorem dX8_distance_44 : decode cX8_distance 44 = .ok (.invokevirtual 392, 3) := by decide +kernel
theorem dX8_distance_47 : decode cX8_distance 47 = .ok (.ireturn, 1) := by decide +kernel
def X8_distance (a1 : Int32) (a2 : Int32) (m : gM) : Option (Int32 × gM) :=
  gCall (X8_isTrace a1 m) (fun (r2 : Bool) (m1 : gM) => if r2 = true then (if a2 < 0 then (some ((-1), m1)) else (gAtR 42 a1 (fun (n3 : Nat) => if a2 < (m1 5 (4 * 0 + n3) 2) then (gAtR 42 a1 (fun (n4 : Nat) => gCall (X4_distanceAt (4 * 0 + n4) a2 m1) (fun (r6 : Int32) (m5 : gM) => some (r6, m5)))) else (some ((-1), m1))))) else (some ((-1), m1)))
set_option maxRecDepth 100000 in
set_option maxHeartbeats 4000000 in
theorem c_X8_distance (a1 : Int32) (a2 : Int32) (m : gM) : gCon eI yX8_distance cX8_distance 3 (some .int) 2 [.inr (8, 0), .inl a1, .inl a2] m (X8_distance a1 a2 m) := by
  refine gCon.of (lv := [some (.inr (8, 0)), some (.inl a1), some (.inl a2)]) (by decide +kernel) (Nat.le_of_ble_eq_true rfl) rfl (fun X C => ?_)
  unfold X8_distance
  refine r_aload_n C dX8_distance_0 rfl rfl ?_
  refine r_iload_n C dX8_distance_1 rfl rfl ?_
  refine r_invB (t := 8) (kb := 0) (As := [.inl a1]) (st := []) C il_X8_207 co_X8_isTrace (by decide) rfl (c_X8_isTrace a1 m) (by decide) (by decide) rfl rfl (Nat.le_of_ble_eq_true rfl) dX8_distance_2 (fun r2 m1 => ?_)
  refine r_ifeqB (tgt := 28) C dX8_distance_5 (by decide) ?_ ?_
  · refine r_iconst (v := (-1)) C dX8_distance_28 (by decide) ?_
    exact r_ireturn C dX8_distance_29
  refine r_iload_n C dX8_distance_8 rfl rfl ?_
  refine r_if_lt (tgt := 28) C dX8_distance_9 (by decide) ?_ ?_
  · refine r_iconst (v := (-1)) C dX8_distance_28 (by decide) ?_
    exact r_ireturn C dX8_distance_29
  refine r_iload_n C dX8_distance_12 rfl rfl ?_
  refine r_aload_n C dX8_distance_13 rfl rfl ?_
  refine r_get (v := .inr (6, 0)) C fl_X8_10 dX8_distance_14 rfl ?_
  refine r_get (v := .inr (42, 0)) C fl_X8_108 dX8_distance_17 rfl ?_
  refine r_iload_n C dX8_distance_20 rfl rfl ?_
  refine r_aald (q := fun n3 => (5, (4 * 0 + n3))) C (by decide) (fun _ => rfl) dX8_distance_21 (fun n3 => ?_)
  refine r_get (v := .inl (m1 5 (4 * 0 + n3) 2)) C fl_X8_365 dX8_distance_22 rfl ?_
  refine r_icmp_lt (tgt := 30) C dX8_distance_25 (by decide) ?_ ?_
  · refine r_aload_n C dX8_distance_30 rfl rfl ?_
    refine r_get (v := .inr (4, 0)) C fl_X8_50 dX8_distance_31 rfl ?_
    refine r_aload_n C dX8_distance_34 rfl rfl ?_
    refine r_get (v := .inr (6, 0)) C fl_X8_10 dX8_distance_35 rfl ?_
    refine r_get (v := .inr (42, 0)) C fl_X8_108 dX8_distance_38 rfl ?_
    refine r_iload_n C dX8_distance_41 rfl rfl ?_
    refine r_aald (q := fun n4 => (5, (4 * 0 + n4))) C (by decide) (fun _ => rfl) dX8_distance_42 (fun n4 => ?_)
    refine r_iload_n C dX8_distance_43 rfl rfl ?_
    refine r_invI (t := 4) (kb := 0) (As := [.inr (5, (4 * 0 + n4)), .inl a2]) (st := []) C il_X8_392 co_X4_distanceAt (by decide) rfl (c_X4_distanceAt (4 * 0 + n4) a2 m1) (by decide) (by decide) rfl rfl (Nat.le_of_ble_eq_true rfl) dX8_distance_44 (fun r6 m5 => ?_)
    exact r_ireturn C dX8_distance_47
  refine r_iconst (v := (-1)) C dX8_distance_28 (by decide) ?_
  exact r_ireturn C dX8_distance_29
theorem dX8_recent_0 : decode cX8_recent 0 = .ok (.aload_n 0, 1) := by decide +kernel
theorem dX8_recent_1 : decode cX8_recent 1 = .ok (.iload_n 1, 1) := by decide +kernel
theorem dX8_recent_2 : decode cX8_recent 2 = .ok (.invokevirtual 207, 3) := by decide +kernel
theorem dX8_recent_5 : decode cX8_recent 5 = .ok (.ifCond .eq 30, 3) := by decide +kernel
theorem dX8_recent_8 : decode cX8_recent 8 = .ok (.iload_n 2, 1) := by decide +kernel
theorem dX8_recent_9 : decode cX8_recent 9 = .ok (.invokestatic 279, 3) := by decide +kernel
theorem dX8_recent_12 : decode cX8_recent 12 = .ok (.ifCond .eq 23, 3) := by decide +kernel
theorem dX8_recent_15 : decode cX8_recent 15 = .ok (.aload_n 0, 1) := by decide +kernel
theorem dX8_recent_16 : decode cX8_recent 16 = .ok (.getfield 50, 3) := by decide +kernel
theorem dX8_recent_19 : decode cX8_recent 19 = .ok (.aload_n 0, 1) := by decide +kernel
theorem dX8_recent_20 : decode cX8_recent 20 = .ok (.getfield 10, 3) := by decide +kernel
theorem dX8_recent_23 : decode cX8_recent 23 = .ok (.getfield 108, 3) := by decide +kernel
theorem dX8_recent_26 : decode cX8_recent 26 = .ok (.iload_n 1, 1) := by decide +kernel
theorem dX8_recent_27 : decode cX8_recent 27 = .ok (.aaload, 1) := by decide +kernel
theorem dX8_recent_28 : decode cX8_recent 28 = .ok (.iload_n 2, 1) := by decide +kernel
theorem dX8_recent_29 : decode cX8_recent 29 = .ok (.invokevirtual 395, 3) := by decide +kernel
theorem dX8_recent_32 : decode cX8_recent 32 = .ok (.goto 4, 3) := by decide +kernel
theorem dX8_recent_35 : decode cX8_recent 35 = .ok (.iconst (-1), 1) := by decide +kernel
theorem dX8_recent_36 : decode cX8_recent 36 = .ok (.ireturn, 1) := by decide +kernel
def X8_recent (a1 : Int32) (a2 : Int32) (m : gM) : Option (Int32 × gM) :=
  gCall (X8_isTrace a1 m) (fun (r2 : Bool) (m1 : gM) => if r2 = true then (gCall (X8_isSwept a2 m1) (fun (r4 : Bool) (m3 : gM) => if r4 = true then (gAtR 42 a1 (fun (n5 : Nat) => gCall (X4_missesByRecency (4 * 0 + n5) a2 m3) (fun (r7 : Int32) (m6 : gM) => some (r7, m6)))) else (some ((-1), m3)))) else (some ((-1), m1)))
set_option maxRecDepth 100000 in
set_option maxHeartbeats 4000000 in
theorem c_X8_recent (a1 : Int32) (a2 : Int32) (m : gM) : gCon eI yX8_recent cX8_recent 3 (some .int) 2 [.inr (8, 0), .inl a1, .inl a2] m (X8_recent a1 a2 m) := by
  refine gCon.of (lv := [some (.inr (8, 0)), some (.inl a1), some (.inl a2)]) (by decide +kernel) (Nat.le_of_ble_eq_true rfl) rfl (fun X C => ?_)
  unfold X8_recent
  refine r_aload_n C dX8_recent_0 rfl rfl ?_
  refine r_iload_n C dX8_recent_1 rfl rfl ?_
  refine r_invB (t := 8) (kb := 0) (As := [.inl a1]) (st := []) C il_X8_207 co_X8_isTrace (by decide) rfl (c_X8_isTrace a1 m) (by decide) (by decide) rfl rfl (Nat.le_of_ble_eq_true rfl) dX8_recent_2 (fun r2 m1 => ?_)
  refine r_ifeqB (tgt := 35) C dX8_recent_5 (by decide) ?_ ?_
  · refine r_iconst (v := (-1)) C dX8_recent_35 (by decide) ?_
    exact r_ireturn C dX8_recent_36
  refine r_iload_n C dX8_recent_8 rfl rfl ?_
  refine r_insB (As := [.inl a2]) (st := []) C il_X8_279 co_X8_isSwept (c_X8_isSwept a2 m1) (by decide) (by decide) rfl rfl (Nat.le_of_ble_eq_true rfl) dX8_recent_9 (fun r4 m3 => ?_)
  refine r_ifeqB (tgt := 35) C dX8_recent_12 (by decide) ?_ ?_
  · refine r_iconst (v := (-1)) C dX8_recent_35 (by decide) ?_
    exact r_ireturn C dX8_recent_36
  refine r_aload_n C dX8_recent_15 rfl rfl ?_
  refine r_get (v := .inr (4, 0)) C fl_X8_50 dX8_recent_16 rfl ?_
  refine r_aload_n C dX8_recent_19 rfl rfl ?_
  refine r_get (v := .inr (6, 0)) C fl_X8_10 dX8_recent_20 rfl ?_
  refine r_get (v := .inr (42, 0)) C fl_X8_108 dX8_recent_23 rfl ?_
  refine r_iload_n C dX8_recent_26 rfl rfl ?_
  refine r_aald (q := fun n5 => (5, (4 * 0 + n5))) C (by decide) (fun _ => rfl) dX8_recent_27 (fun n5 => ?_)
  refine r_iload_n C dX8_recent_28 rfl rfl ?_
  refine r_invI (t := 4) (kb := 0) (As := [.inr (5, (4 * 0 + n5)), .inl a2]) (st := []) C il_X8_395 co_X4_missesByRecency (by decide) rfl (c_X4_missesByRecency (4 * 0 + n5) a2 m3) (by decide) (by decide) rfl rfl (Nat.le_of_ble_eq_true rfl) dX8_recent_29 (fun r7 m6 => ?_)
  refine r_goto (tgt := 36) C dX8_recent_32 (by decide) ?_
  exact r_ireturn C dX8_recent_36
theorem dX8_conflicts_0 : decode cX8_conflicts 0 = .ok (.aload_n 0, 1) := by decide +kernel
theorem dX8_conflicts_1 : decode cX8_conflicts 1 = .ok (.iload_n 1, 1) := by decide +kernel
theorem dX8_conflicts_2 : decode cX8_conflicts 2 = .ok (.invokevirtual 207, 3) := by decide +kernel
theorem dX8_conflicts_5 : decode cX8_conflicts 5 = .ok (.ifCond .ne 7, 3) := by decide +kernel
theorem dX8_conflicts_8 : decode cX8_conflicts 8 = .ok (.sipush (-10000), 3) := by decide +kernel
theorem dX8_conflicts_11 : decode cX8_conflicts 11 = .ok (.ireturn, 1) := by decide +kernel
theorem dX8_conflicts_12 : decode cX8_conflicts 12 = .ok (.aload_n 0, 1) := by decide +kernel
theorem dX8_conflicts_13 : decode cX8_conflicts 13 = .ok (.aload_n 0, 1) := by decide +kernel
theorem dX8_conflicts_14 : decode cX8_conflicts 14 = .ok (.getfield 10, 3) := by decide +kernel
theorem dX8_conflicts_17 : decode cX8_conflicts 17 = .ok (.getfield 108, 3) := by decide +kernel
theorem dX8_conflicts_20 : decode cX8_conflicts 20 = .ok (.iload_n 1, 1) := by decide +kernel
theorem dX8_conflicts_21 : decode cX8_conflicts 21 = .ok (.aaload, 1) := by decide +kernel
theorem dX8_conflicts_22 : decode cX8_conflicts 22 = .ok (.aload_n 0, 1) := by decide +kernel
theorem dX8_conflicts_23 : decode cX8_conflicts 23 = .ok (.getfield 10, 3) := by decide +kernel
theorem dX8_conflicts_26 : decode cX8_conflicts 26 = .ok (.getfield 82, 3) := by decide +kernel
theorem dX8_conflicts_29 : decode cX8_conflicts 29 = .ok (.getfield 204, 3) := by decide +kernel
theorem dX8_conflicts_32 : decode cX8_conflicts 32 = .ok (.invokevirtual 383, 3) := by decide +kernel
theorem dX8_conflicts_35 : decode cX8_conflicts 35 = .ok (.istore_n 2, 1) := by decide +kernel
theorem dX8_conflicts_36 : decode cX8_conflicts 36 = .ok (.iload_n 2, 1) := by decide +kernel
theorem dX8_conflicts_37 : decode cX8_conflicts 37 = .ok (.aload_n 0, 1) := by decide +kernel
theorem dX8_conflicts_38 : decode cX8_conflicts 38 = .ok (.getfield 50, 3) := by decide +kernel
theorem dX8_conflicts_41 : decode cX8_conflicts 41 = .ok (.aload_n 0, 1) := by decide +kernel
theorem dX8_conflicts_42 : decode cX8_conflicts 42 = .ok (.getfield 10, 3) := by decide +kernel
theorem dX8_conflicts_45 : decode cX8_conflicts 45 = .ok (.getfield 108, 3) := by decide +kernel
theorem dX8_conflicts_48 : decode cX8_conflicts 48 = .ok (.iload_n 1, 1) := by decide +kernel
theorem dX8_conflicts_49 : decode cX8_conflicts 49 = .ok (.aaload, 1) := by decide +kernel
theorem dX8_conflicts_50 : decode cX8_conflicts 50 = .ok (.aload_n 0, 1) := by decide +kernel
theorem dX8_conflicts_51 : decode cX8_conflicts 51 = .ok (.getfield 10, 3) := by decide +kernel
theorem dX8_conflicts_54 : decode cX8_conflicts 54 = .ok (.getfield 82, 3) := by decide +kernel
theorem dX8_conflicts_57 : decode cX8_conflicts 57 = .ok (.invokevirtual 179, 3) := by decide +kernel
theorem dX8_conflicts_60 : decode cX8_conflicts 60 = .ok (.invokevirtual 395, 3) := by decide +kernel
theorem dX8_conflicts_63 : decode cX8_conflicts 63 = .ok (.isub, 1) := by decide +kernel
theorem dX8_conflicts_64 : decode cX8_conflicts 64 = .ok (.ireturn, 1) := by decide +kernel
def X8_conflicts (a1 : Int32) (m : gM) : Option (Int32 × gM) :=
  gCall (X8_isTrace a1 m) (fun (r2 : Bool) (m1 : gM) => if r2 = true then (gAtR 42 a1 (fun (n3 : Nat) => gCall (X8_missesForetold (4 * 0 + n3) (m1 3 0 2) m1) (fun (r5 : Int32) (m4 : gM) => gAtR 42 a1 (fun (n6 : Nat) => gCall (X3_slotsInAll 0 m4) (fun (r8 : Int32) (m7 : gM) => gCall (X4_missesByRecency (4 * 0 + n6) r8 m7) (fun (r10 : Int32) (m9 : gM) => some (r5 - r10, m9))))))) else (some ((-10000), m1)))
set_option maxRecDepth 100000 in
set_option maxHeartbeats 4000000 in
theorem c_X8_conflicts (a1 : Int32) (m : gM) : gCon eI yX8_conflicts cX8_conflicts 3 (some .int) 7 [.inr (8, 0), .inl a1] m (X8_conflicts a1 m) := by
  refine gCon.of (lv := [some (.inr (8, 0)), some (.inl a1), none]) (by decide +kernel) (Nat.le_of_ble_eq_true rfl) rfl (fun X C => ?_)
  unfold X8_conflicts
  refine r_aload_n C dX8_conflicts_0 rfl rfl ?_
  refine r_iload_n C dX8_conflicts_1 rfl rfl ?_
  refine r_invB (t := 8) (kb := 0) (As := [.inl a1]) (st := []) C il_X8_207 co_X8_isTrace (by decide) rfl (c_X8_isTrace a1 m) (by decide) (by decide) rfl rfl (Nat.le_of_ble_eq_true rfl) dX8_conflicts_2 (fun r2 m1 => ?_)
  refine r_ifneB (tgt := 12) C dX8_conflicts_5 (by decide) ?_ ?_
  · refine r_aload_n C dX8_conflicts_12 rfl rfl ?_
    refine r_aload_n C dX8_conflicts_13 rfl rfl ?_
    refine r_get (v := .inr (6, 0)) C fl_X8_10 dX8_conflicts_14 rfl ?_
    refine r_get (v := .inr (42, 0)) C fl_X8_108 dX8_conflicts_17 rfl ?_
    refine r_iload_n C dX8_conflicts_20 rfl rfl ?_
    refine r_aald (q := fun n3 => (5, (4 * 0 + n3))) C (by decide) (fun _ => rfl) dX8_conflicts_21 (fun n3 => ?_)
    refine r_aload_n C dX8_conflicts_22 rfl rfl ?_
    refine r_get (v := .inr (6, 0)) C fl_X8_10 dX8_conflicts_23 rfl ?_
    refine r_get (v := .inr (3, 0)) C fl_X8_82 dX8_conflicts_26 rfl ?_
    refine r_get (v := .inl (m1 3 0 2)) C fl_X8_204 dX8_conflicts_29 rfl ?_
    refine r_invI (t := 8) (kb := 0) (As := [.inr (5, (4 * 0 + n3)), .inl (m1 3 0 2)]) (st := []) C il_X8_383 co_X8_missesForetold (by decide) rfl (c_X8_missesForetold (4 * 0 + n3) (m1 3 0 2) m1) (by decide) (by decide) rfl rfl (Nat.le_of_ble_eq_true rfl) dX8_conflicts_32 (fun r5 m4 => ?_)
    refine r_istore_n (lv' := [some (.inr (8, 0)), some (.inl a1), some (.inl r5)]) C dX8_conflicts_35 rfl (by decide) rfl ?_
    refine r_iload_n C dX8_conflicts_36 rfl rfl ?_
    refine r_aload_n C dX8_conflicts_37 rfl rfl ?_
    refine r_get (v := .inr (4, 0)) C fl_X8_50 dX8_conflicts_38 rfl ?_
    refine r_aload_n C dX8_conflicts_41 rfl rfl ?_
    refine r_get (v := .inr (6, 0)) C fl_X8_10 dX8_conflicts_42 rfl ?_
    refine r_get (v := .inr (42, 0)) C fl_X8_108 dX8_conflicts_45 rfl ?_
    refine r_iload_n C dX8_conflicts_48 rfl rfl ?_
    refine r_aald (q := fun n6 => (5, (4 * 0 + n6))) C (by decide) (fun _ => rfl) dX8_conflicts_49 (fun n6 => ?_)
    refine r_aload_n C dX8_conflicts_50 rfl rfl ?_
    refine r_get (v := .inr (6, 0)) C fl_X8_10 dX8_conflicts_51 rfl ?_
    refine r_get (v := .inr (3, 0)) C fl_X8_82 dX8_conflicts_54 rfl ?_
    refine r_invI (t := 3) (kb := 0) (As := []) (st := [.inr (5, (4 * 0 + n6)), .inr (4, 0), .inl r5]) C il_X8_179 co_X3_slotsInAll (by decide) rfl (c_X3_slotsInAll 0 m4) (by decide) (by decide) rfl rfl (Nat.le_of_ble_eq_true rfl) dX8_conflicts_57 (fun r8 m7 => ?_)
    refine r_invI (t := 4) (kb := 0) (As := [.inr (5, (4 * 0 + n6)), .inl r8]) (st := [.inl r5]) C il_X8_395 co_X4_missesByRecency (by decide) rfl (c_X4_missesByRecency (4 * 0 + n6) r8 m7) (by decide) (by decide) rfl rfl (Nat.le_of_ble_eq_true rfl) dX8_conflicts_60 (fun r10 m9 => ?_)
    refine r_isub C dX8_conflicts_63 ?_
    exact r_ireturn C dX8_conflicts_64
  refine r_sipush (v := (-10000)) C dX8_conflicts_8 (by decide) ?_
  exact r_ireturn C dX8_conflicts_11
theorem dX8_image_0 : decode cX8_image 0 = .ok (.aload_n 0, 1) := by decide +kernel
theorem dX8_image_1 : decode cX8_image 1 = .ok (.getfield 16, 3) := by decide +kernel
theorem dX8_image_4 : decode cX8_image 4 = .ok (.aload_n 0, 1) := by decide +kernel
theorem dX8_image_5 : decode cX8_image 5 = .ok (.getfield 10, 3) := by decide +kernel
theorem dX8_image_8 : decode cX8_image 8 = .ok (.invokevirtual 403, 3) := by decide +kernel
theorem dX8_image_11 : decode cX8_image 11 = .ok (.aload_n 0, 1) := by decide +kernel
theorem dX8_image_12 : decode cX8_image 12 = .ok (.getfield 10, 3) := by decide +kernel
theorem dX8_image_15 : decode cX8_image 15 = .ok (.getfield 82, 3) := by decide +kernel
theorem dX8_image_18 : decode cX8_image 18 = .ok (.invokevirtual 238, 3) := by decide +kernel
theorem dX8_image_21 : decode cX8_image 21 = .ok (.ireturn, 1) := by decide +kernel
def X8_image (m : gM) : Option (Int32 × gM) :=
  gCall (X6_takeAll 1 0 m) (fun (r2 : Unit) (m1 : gM) => gCall (X3_linesHeld 0 m1) (fun (r4 : Int32) (m3 : gM) => some (r4, m3)))
set_option maxRecDepth 100000 in
set_option maxHeartbeats 4000000 in
theorem c_X8_image (m : gM) : gCon eI yX8_image cX8_image 1 (some .int) 4 [.inr (8, 0)] m (X8_image m) := by
  refine gCon.of (lv := [some (.inr (8, 0))]) (by decide +kernel) (Nat.le_of_ble_eq_true rfl) rfl (fun X C => ?_)
  unfold X8_image
  refine r_aload_n C dX8_image_0 rfl rfl ?_
  refine r_get (v := .inr (6, 1)) C fl_X8_16 dX8_image_1 rfl ?_
  refine r_aload_n C dX8_image_4 rfl rfl ?_
  refine r_get (v := .inr (6, 0)) C fl_X8_10 dX8_image_5 rfl ?_
  refine r_invU (t := 6) (kb := 1) (As := [.inr (6, 0)]) (st := []) C il_X8_403 co_X6_takeAll (by decide) rfl (c_X6_takeAll 1 0 m) (by decide) (by decide) rfl rfl (Nat.le_of_ble_eq_true rfl) dX8_image_8 (fun r2 m1 => ?_)
  refine r_aload_n C dX8_image_11 rfl rfl ?_
  refine r_get (v := .inr (6, 0)) C fl_X8_10 dX8_image_12 rfl ?_
  refine r_get (v := .inr (3, 0)) C fl_X8_82 dX8_image_15 rfl ?_
  refine r_invI (t := 3) (kb := 0) (As := []) (st := []) C il_X8_238 co_X3_linesHeld (by decide) rfl (c_X3_linesHeld 0 m1) (by decide) (by decide) rfl rfl (Nat.le_of_ble_eq_true rfl) dX8_image_18 (fun r4 m3 => ?_)
  exact r_ireturn C dX8_image_21
theorem dX8_back_0 : decode cX8_back 0 = .ok (.aload_n 0, 1) := by decide +kernel
theorem dX8_back_1 : decode cX8_back 1 = .ok (.getfield 10, 3) := by decide +kernel
theorem dX8_back_4 : decode cX8_back 4 = .ok (.aload_n 0, 1) := by decide +kernel
theorem dX8_back_5 : decode cX8_back 5 = .ok (.getfield 16, 3) := by decide +kernel
theorem dX8_back_8 : decode cX8_back 8 = .ok (.invokevirtual 403, 3) := by decide +kernel
theorem dX8_back_11 : decode cX8_back 11 = .ok (.aload_n 0, 1) := by decide +kernel
theorem dX8_back_12 : decode cX8_back 12 = .ok (.getfield 10, 3) := by decide +kernel
theorem dX8_back_15 : decode cX8_back 15 = .ok (.getfield 82, 3) := by decide +kernel
theorem dX8_back_18 : decode cX8_back 18 = .ok (.invokevirtual 238, 3) := by decide +kernel
theorem dX8_back_21 : decode cX8_back 21 = .ok (.ireturn, 1) := by decide +kernel
def X8_back (m : gM) : Option (Int32 × gM) :=
  gCall (X6_takeAll 0 1 m) (fun (r2 : Unit) (m1 : gM) => gCall (X3_linesHeld 0 m1) (fun (r4 : Int32) (m3 : gM) => some (r4, m3)))
set_option maxRecDepth 100000 in
set_option maxHeartbeats 4000000 in
theorem c_X8_back (m : gM) : gCon eI yX8_back cX8_back 1 (some .int) 4 [.inr (8, 0)] m (X8_back m) := by
  refine gCon.of (lv := [some (.inr (8, 0))]) (by decide +kernel) (Nat.le_of_ble_eq_true rfl) rfl (fun X C => ?_)
  unfold X8_back
  refine r_aload_n C dX8_back_0 rfl rfl ?_
  refine r_get (v := .inr (6, 0)) C fl_X8_10 dX8_back_1 rfl ?_
  refine r_aload_n C dX8_back_4 rfl rfl ?_
  refine r_get (v := .inr (6, 1)) C fl_X8_16 dX8_back_5 rfl ?_
  refine r_invU (t := 6) (kb := 0) (As := [.inr (6, 1)]) (st := []) C il_X8_403 co_X6_takeAll (by decide) rfl (c_X6_takeAll 0 1 m) (by decide) (by decide) rfl rfl (Nat.le_of_ble_eq_true rfl) dX8_back_8 (fun r2 m1 => ?_)
  refine r_aload_n C dX8_back_11 rfl rfl ?_
  refine r_get (v := .inr (6, 0)) C fl_X8_10 dX8_back_12 rfl ?_
  refine r_get (v := .inr (3, 0)) C fl_X8_82 dX8_back_15 rfl ?_
  refine r_invI (t := 3) (kb := 0) (As := []) (st := []) C il_X8_238 co_X3_linesHeld (by decide) rfl (c_X3_linesHeld 0 m1) (by decide) (by decide) rfl rfl (Nat.le_of_ble_eq_true rfl) dX8_back_18 (fun r4 m3 => ?_)
  exact r_ireturn C dX8_back_21
theorem dX8_about_0 : decode cX8_about 0 = .ok (.iload_n 1, 1) := by decide +kernel
theorem dX8_about_1 : decode cX8_about 1 = .ok (.tableswitch 48 0 2 #[27, 35, 43], 27) := by decide +kernel
theorem dX8_about_28 : decode cX8_about 28 = .ok (.aload_n 0, 1) := by decide +kernel
theorem dX8_about_29 : decode cX8_about 29 = .ok (.getfield 10, 3) := by decide +kernel
theorem dX8_about_32 : decode cX8_about 32 = .ok (.getfield 95, 3) := by decide +kernel
theorem dX8_about_35 : decode cX8_about 35 = .ok (.ireturn, 1) := by decide +kernel
theorem dX8_about_36 : decode cX8_about 36 = .ok (.aload_n 0, 1) := by decide +kernel
theorem dX8_about_37 : decode cX8_about 37 = .ok (.getfield 10, 3) := by decide +kernel
theorem dX8_about_40 : decode cX8_about 40 = .ok (.getfield 407, 3) := by decide +kernel
theorem dX8_about_43 : decode cX8_about 43 = .ok (.ireturn, 1) := by decide +kernel
theorem dX8_about_44 : decode cX8_about 44 = .ok (.aload_n 0, 1) := by decide +kernel
theorem dX8_about_45 : decode cX8_about 45 = .ok (.getfield 88, 3) := by decide +kernel
theorem dX8_about_48 : decode cX8_about 48 = .ok (.ireturn, 1) := by decide +kernel
theorem dX8_about_49 : decode cX8_about 49 = .ok (.bipush (-2), 2) := by decide +kernel
theorem dX8_about_51 : decode cX8_about 51 = .ok (.ireturn, 1) := by decide +kernel
def X8_about (a1 : Int32) (m : gM) : Option (Int32 × gM) :=
  if a1 = 0 then (some ((m 6 0 6), m)) else (if a1 = 1 then (some ((m 6 0 5), m)) else (if a1 = 2 then (some ((m 8 0 11), m)) else (some ((-2), m))))
set_option maxRecDepth 100000 in
set_option maxHeartbeats 4000000 in
theorem c_X8_about (a1 : Int32) (m : gM) : gCon eI yX8_about cX8_about 2 (some .int) 0 [.inr (8, 0), .inl a1] m (X8_about a1 m) := by
  refine gCon.of (lv := [some (.inr (8, 0)), some (.inl a1)]) (by decide +kernel) (Nat.le_of_ble_eq_true rfl) rfl (fun X C => ?_)
  unfold X8_about
  refine r_iload_n C dX8_about_0 rfl rfl ?_
  refine r_peel (v := 0) ?_ (fun h0 => ?_)
  · refine r_tsw (x := 0) (off := 27) (tgt := 28) C dX8_about_1 (by decide) (by decide) (by decide) (by decide) ?_
    refine r_aload_n C dX8_about_28 rfl rfl ?_
    refine r_get (v := .inr (6, 0)) C fl_X8_10 dX8_about_29 rfl ?_
    refine r_get (v := .inl (m 6 0 6)) C fl_X8_95 dX8_about_32 rfl ?_
    exact r_ireturn C dX8_about_35
  refine r_peel (v := 1) ?_ (fun h1 => ?_)
  · refine r_tsw (x := 1) (off := 35) (tgt := 36) C dX8_about_1 (by decide) (by decide) (by decide) (by decide) ?_
    refine r_aload_n C dX8_about_36 rfl rfl ?_
    refine r_get (v := .inr (6, 0)) C fl_X8_10 dX8_about_37 rfl ?_
    refine r_get (v := .inl (m 6 0 5)) C fl_X8_407 dX8_about_40 rfl ?_
    exact r_ireturn C dX8_about_43
  refine r_peel (v := 2) ?_ (fun h2 => ?_)
  · refine r_tsw (x := 2) (off := 43) (tgt := 44) C dX8_about_1 (by decide) (by decide) (by decide) (by decide) ?_
    refine r_aload_n C dX8_about_44 rfl rfl ?_
    refine r_get (v := .inl (m 8 0 11)) C fl_X8_88 dX8_about_45 rfl ?_
    exact r_ireturn C dX8_about_48
  refine r_tswO (tgt := 49) C dX8_about_1 (by have e0 := lv_neT h0 (a := 0) (by decide); have e1 := lv_neT h1 (a := 1) (by decide); have e2 := lv_neT h2 (a := 2) (by decide); omega) (by decide) ?_
  refine r_bipush (v := (-2)) C dX8_about_49 (by decide) ?_
  exact r_ireturn C dX8_about_51
