theorem dX0_isDigit_0 : decode cX0_isDigit 0 = .ok (.iload_n 0, 1) := by decide +kernel
theorem dX0_isDigit_1 : decode cX0_isDigit 1 = .ok (.bipush 48, 2) := by decide +kernel
theorem dX0_isDigit_3 : decode cX0_isDigit 3 = .ok (.if_icmp .lt 13, 3) := by decide +kernel
theorem dX0_isDigit_6 : decode cX0_isDigit 6 = .ok (.iload_n 0, 1) := by decide +kernel
theorem dX0_isDigit_7 : decode cX0_isDigit 7 = .ok (.bipush 57, 2) := by decide +kernel
theorem dX0_isDigit_9 : decode cX0_isDigit 9 = .ok (.if_icmp .gt 7, 3) := by decide +kernel
theorem dX0_isDigit_12 : decode cX0_isDigit 12 = .ok (.iconst 1, 1) := by decide +kernel
theorem dX0_isDigit_13 : decode cX0_isDigit 13 = .ok (.goto 4, 3) := by decide +kernel
theorem dX0_isDigit_16 : decode cX0_isDigit 16 = .ok (.iconst 0, 1) := by decide +kernel
theorem dX0_isDigit_17 : decode cX0_isDigit 17 = .ok (.ireturn, 1) := by decide +kernel
def X0_isDigit (a1 : Int32) (m : gM) : Option (Bool × gM) :=
  if a1 < 48 then (some (false, m)) else (if 57 < a1 then (some (false, m)) else (some (true, m)))
set_option maxRecDepth 100000 in
set_option maxHeartbeats 4000000 in
theorem c_X0_isDigit (a1 : Int32) (m : gM) : gCon eB yX0_isDigit cX0_isDigit 1 (some .boolean) 0 [.inl a1] m (X0_isDigit a1 m) := by
  refine gCon.of (lv := [some (.inl a1)]) (by decide +kernel) (Nat.le_of_ble_eq_true rfl) rfl (fun X C => ?_)
  unfold X0_isDigit
  refine r_iload_n C dX0_isDigit_0 rfl rfl ?_
  refine r_bipush (v := 48) C dX0_isDigit_1 (by decide) ?_
  refine r_icmp_lt (tgt := 16) C dX0_isDigit_3 (by decide) ?_ ?_
  · refine r_iconst (v := 0) C dX0_isDigit_16 (by decide) ?_
    exact r_zret0 C dX0_isDigit_17
  refine r_iload_n C dX0_isDigit_6 rfl rfl ?_
  refine r_bipush (v := 57) C dX0_isDigit_7 (by decide) ?_
  refine r_icmp_gt (tgt := 16) C dX0_isDigit_9 (by decide) ?_ ?_
  · refine r_iconst (v := 0) C dX0_isDigit_16 (by decide) ?_
    exact r_zret0 C dX0_isDigit_17
  refine r_iconst (v := 1) C dX0_isDigit_12 (by decide) ?_
  refine r_goto (tgt := 17) C dX0_isDigit_13 (by decide) ?_
  exact r_zret1 C dX0_isDigit_17
theorem dX0_takeDigit_0 : decode cX0_takeDigit 0 = .ok (.aload_n 0, 1) := by decide +kernel
theorem dX0_takeDigit_1 : decode cX0_takeDigit 1 = .ok (.getfield 32, 3) := by decide +kernel
theorem dX0_takeDigit_4 : decode cX0_takeDigit 4 = .ok (.iconst (-1), 1) := by decide +kernel
theorem dX0_takeDigit_5 : decode cX0_takeDigit 5 = .ok (.if_icmp .ne 13, 3) := by decide +kernel
theorem dX0_takeDigit_8 : decode cX0_takeDigit 8 = .ok (.aload_n 0, 1) := by decide +kernel
theorem dX0_takeDigit_9 : decode cX0_takeDigit 9 = .ok (.iload_n 2, 1) := by decide +kernel
theorem dX0_takeDigit_10 : decode cX0_takeDigit 10 = .ok (.putfield 32, 3) := by decide +kernel
theorem dX0_takeDigit_13 : decode cX0_takeDigit 13 = .ok (.aload_n 0, 1) := by decide +kernel
theorem dX0_takeDigit_14 : decode cX0_takeDigit 14 = .ok (.iconst 0, 1) := by decide +kernel
theorem dX0_takeDigit_15 : decode cX0_takeDigit 15 = .ok (.putfield 60, 3) := by decide +kernel
theorem dX0_takeDigit_18 : decode cX0_takeDigit 18 = .ok (.aload_n 0, 1) := by decide +kernel
theorem dX0_takeDigit_19 : decode cX0_takeDigit 19 = .ok (.aload_n 0, 1) := by decide +kernel
theorem dX0_takeDigit_20 : decode cX0_takeDigit 20 = .ok (.getfield 60, 3) := by decide +kernel
theorem dX0_takeDigit_23 : decode cX0_takeDigit 23 = .ok (.bipush 10, 2) := by decide +kernel
theorem dX0_takeDigit_25 : decode cX0_takeDigit 25 = .ok (.imul, 1) := by decide +kernel
theorem dX0_takeDigit_26 : decode cX0_takeDigit 26 = .ok (.iload_n 1, 1) := by decide +kernel
theorem dX0_takeDigit_27 : decode cX0_takeDigit 27 = .ok (.iadd, 1) := by decide +kernel
theorem dX0_takeDigit_28 : decode cX0_takeDigit 28 = .ok (.ldc 63, 2) := by decide +kernel
theorem dX0_takeDigit_30 : decode cX0_takeDigit 30 = .ok (.invokestatic 64, 3) := by decide +kernel
theorem dX0_takeDigit_33 : decode cX0_takeDigit 33 = .ok (.putfield 60, 3) := by decide +kernel
theorem dX0_takeDigit_36 : decode cX0_takeDigit 36 = .ok (.return_, 1) := by decide +kernel
def X0_takeDigit (a1 : Int32) (a2 : Int32) (m : gM) : Option (Unit × gM) :=
  gJ0 (fun (m1 : gM) => gLet (gMin (((m1 0 0 3) * 10) + a1) 100000) (fun (x2 : Int32) => gSet m1 0 0 3 x2 (fun (m3 : gM) => some ((), m3)))) (fun (j18 : gM → Option (Unit × gM)) => if (m 0 0 4) = (-1) then (gSet m 0 0 4 a2 (fun (m4 : gM) => gSet m4 0 0 3 0 (fun (m5 : gM) => j18 m5))) else (j18 m))
set_option maxRecDepth 100000 in
set_option maxHeartbeats 4000000 in
theorem c_X0_takeDigit (a1 : Int32) (a2 : Int32) (m : gM) : gCon eU yX0_takeDigit cX0_takeDigit 3 none 1 [.inr (0, 0), .inl a1, .inl a2] m (X0_takeDigit a1 a2 m) := by
  refine gCon.of (lv := [some (.inr (0, 0)), some (.inl a1), some (.inl a2)]) (by decide +kernel) (Nat.le_of_ble_eq_true rfl) rfl (fun X C => ?_)
  unfold X0_takeDigit
  refine r_aload_n C dX0_takeDigit_0 rfl rfl ?_
  refine r_get (v := .inl (m 0 0 4)) C fl_X0_32 dX0_takeDigit_1 rfl ?_
  refine r_iconst (v := (-1)) C dX0_takeDigit_4 (by decide) ?_
  refine r_j0 18 [some (.inr (0, 0)), some (.inl a1), none] [] (fun m1 => ?_) (fun j18 hj18 => ?_)
  · refine r_aload_n C dX0_takeDigit_18 rfl rfl ?_
    refine r_aload_n C dX0_takeDigit_19 rfl rfl ?_
    refine r_get (v := .inl (m1 0 0 3)) C fl_X0_60 dX0_takeDigit_20 rfl ?_
    refine r_bipush (v := 10) C dX0_takeDigit_23 (by decide) ?_
    refine r_imul C dX0_takeDigit_25 ?_
    refine r_iload_n C dX0_takeDigit_26 rfl rfl ?_
    refine r_iadd C dX0_takeDigit_27 ?_
    refine r_ldc (v := 100000) C kc_X0_63 dX0_takeDigit_28 ?_
    refine r_mmin C im_X0_64 (by decide) (Nat.le_of_ble_eq_true rfl) dX0_takeDigit_30 ?_
    refine r_let (fun x2 => ?_)
    refine r_put C fl_X0_60 rfl rfl rfl dX0_takeDigit_33 (fun m3 => ?_)
    exact r_return C dX0_takeDigit_36
  refine r_icmp_ne (tgt := 18) C dX0_takeDigit_5 (by decide) ?_ ?_
  · exact r_weak (lv' := [some (.inr (0, 0)), some (.inl a1), none]) ⟨rfl, rfl, trivial⟩ (hj18 _)
  refine r_aload_n C dX0_takeDigit_8 rfl rfl ?_
  refine r_iload_n C dX0_takeDigit_9 rfl rfl ?_
  refine r_put C fl_X0_32 rfl rfl rfl dX0_takeDigit_10 (fun m4 => ?_)
  refine r_aload_n C dX0_takeDigit_13 rfl rfl ?_
  refine r_iconst (v := 0) C dX0_takeDigit_14 (by decide) ?_
  refine r_put C fl_X0_60 rfl rfl rfl dX0_takeDigit_15 (fun m5 => ?_)
  exact r_weak (lv' := [some (.inr (0, 0)), some (.inl a1), none]) ⟨rfl, rfl, trivial⟩ (hj18 _)
theorem dX0_fail_0 : decode cX0_fail 0 = .ok (.aload_n 0, 1) := by decide +kernel
theorem dX0_fail_1 : decode cX0_fail 1 = .ok (.getfield 26, 3) := by decide +kernel
theorem dX0_fail_4 : decode cX0_fail 4 = .ok (.ifCond .ne 13, 3) := by decide +kernel
theorem dX0_fail_7 : decode cX0_fail 7 = .ok (.aload_n 0, 1) := by decide +kernel
theorem dX0_fail_8 : decode cX0_fail 8 = .ok (.iload_n 1, 1) := by decide +kernel
theorem dX0_fail_9 : decode cX0_fail 9 = .ok (.putfield 26, 3) := by decide +kernel
theorem dX0_fail_12 : decode cX0_fail 12 = .ok (.aload_n 0, 1) := by decide +kernel
theorem dX0_fail_13 : decode cX0_fail 13 = .ok (.iload_n 2, 1) := by decide +kernel
theorem dX0_fail_14 : decode cX0_fail 14 = .ok (.putfield 29, 3) := by decide +kernel
theorem dX0_fail_17 : decode cX0_fail 17 = .ok (.return_, 1) := by decide +kernel
def X0_fail (a1 : Int32) (a2 : Int32) (m : gM) : Option (Unit × gM) :=
  if (m 0 0 8) = 0 then (gSet m 0 0 8 a1 (fun (m1 : gM) => gSet m1 0 0 9 a2 (fun (m2 : gM) => some ((), m2)))) else (some ((), m))
set_option maxRecDepth 100000 in
set_option maxHeartbeats 4000000 in
theorem c_X0_fail (a1 : Int32) (a2 : Int32) (m : gM) : gCon eU yX0_fail cX0_fail 3 none 0 [.inr (0, 0), .inl a1, .inl a2] m (X0_fail a1 a2 m) := by
  refine gCon.of (lv := [some (.inr (0, 0)), some (.inl a1), some (.inl a2)]) (by decide +kernel) (Nat.le_of_ble_eq_true rfl) rfl (fun X C => ?_)
  unfold X0_fail
  refine r_aload_n C dX0_fail_0 rfl rfl ?_
  refine r_get (v := .inl (m 0 0 8)) C fl_X0_26 dX0_fail_1 rfl ?_
  refine r_if_ne (tgt := 17) C dX0_fail_4 (by decide) ?_ ?_
  · exact r_return C dX0_fail_17
  refine r_aload_n C dX0_fail_7 rfl rfl ?_
  refine r_iload_n C dX0_fail_8 rfl rfl ?_
  refine r_put C fl_X0_26 rfl rfl rfl dX0_fail_9 (fun m1 => ?_)
  refine r_aload_n C dX0_fail_12 rfl rfl ?_
  refine r_iload_n C dX0_fail_13 rfl rfl ?_
  refine r_put C fl_X0_29 rfl rfl rfl dX0_fail_14 (fun m2 => ?_)
  exact r_return C dX0_fail_17
theorem dX0_isWithin_0 : decode cX0_isWithin 0 = .ok (.aload_n 0, 1) := by decide +kernel
theorem dX0_isWithin_1 : decode cX0_isWithin 1 = .ok (.getfield 60, 3) := by decide +kernel
theorem dX0_isWithin_4 : decode cX0_isWithin 4 = .ok (.iload_n 1, 1) := by decide +kernel
theorem dX0_isWithin_5 : decode cX0_isWithin 5 = .ok (.if_icmp .lt 11, 3) := by decide +kernel
theorem dX0_isWithin_8 : decode cX0_isWithin 8 = .ok (.aload_n 0, 1) := by decide +kernel
theorem dX0_isWithin_9 : decode cX0_isWithin 9 = .ok (.getfield 60, 3) := by decide +kernel
theorem dX0_isWithin_12 : decode cX0_isWithin 12 = .ok (.iload_n 2, 1) := by decide +kernel
theorem dX0_isWithin_13 : decode cX0_isWithin 13 = .ok (.if_icmp .le 14, 3) := by decide +kernel
theorem dX0_isWithin_16 : decode cX0_isWithin 16 = .ok (.aload_n 0, 1) := by decide +kernel
theorem dX0_isWithin_17 : decode cX0_isWithin 17 = .ok (.iconst 2, 1) := by decide +kernel
theorem dX0_isWithin_18 : decode cX0_isWithin 18 = .ok (.aload_n 0, 1) := by decide +kernel
theorem dX0_isWithin_19 : decode cX0_isWithin 19 = .ok (.getfield 32, 3) := by decide +kernel
theorem dX0_isWithin_22 : decode cX0_isWithin 22 = .ok (.invokevirtual 77, 3) := by decide +kernel
theorem dX0_isWithin_25 : decode cX0_isWithin 25 = .ok (.iconst 0, 1) := by decide +kernel
theorem dX0_isWithin_26 : decode cX0_isWithin 26 = .ok (.ireturn, 1) := by decide +kernel
theorem dX0_isWithin_27 : decode cX0_isWithin 27 = .ok (.iconst 1, 1) := by decide +kernel
theorem dX0_isWithin_28 : decode cX0_isWithin 28 = .ok (.ireturn, 1) := by decide +kernel
def X0_isWithin (a1 : Int32) (a2 : Int32) (m : gM) : Option (Bool × gM) :=
  gJ0 (fun (m1 : gM) => gCall (X0_fail 2 (m1 0 0 4) m1) (fun (r3 : Unit) (m2 : gM) => some (false, m2))) (fun (j16 : gM → Option (Bool × gM)) => if (m 0 0 3) < a1 then (j16 m) else (if (m 0 0 3) ≤ a2 then (some (true, m)) else (j16 m)))
set_option maxRecDepth 100000 in
set_option maxHeartbeats 4000000 in
theorem c_X0_isWithin (a1 : Int32) (a2 : Int32) (m : gM) : gCon eB yX0_isWithin cX0_isWithin 3 (some .boolean) 1 [.inr (0, 0), .inl a1, .inl a2] m (X0_isWithin a1 a2 m) := by
  refine gCon.of (lv := [some (.inr (0, 0)), some (.inl a1), some (.inl a2)]) (by decide +kernel) (Nat.le_of_ble_eq_true rfl) rfl (fun X C => ?_)
  unfold X0_isWithin
  refine r_aload_n C dX0_isWithin_0 rfl rfl ?_
  refine r_get (v := .inl (m 0 0 3)) C fl_X0_60 dX0_isWithin_1 rfl ?_
  refine r_iload_n C dX0_isWithin_4 rfl rfl ?_
  refine r_j0 16 [some (.inr (0, 0)), none, none] [] (fun m1 => ?_) (fun j16 hj16 => ?_)
  · refine r_aload_n C dX0_isWithin_16 rfl rfl ?_
    refine r_iconst (v := 2) C dX0_isWithin_17 (by decide) ?_
    refine r_aload_n C dX0_isWithin_18 rfl rfl ?_
    refine r_get (v := .inl (m1 0 0 4)) C fl_X0_32 dX0_isWithin_19 rfl ?_
    refine r_invU (t := 0) (kb := 0) (As := [.inl 2, .inl (m1 0 0 4)]) (st := []) C il_X0_77 co_X0_fail (by decide) rfl (c_X0_fail 2 (m1 0 0 4) m1) (by decide) (by decide) rfl rfl (Nat.le_of_ble_eq_true rfl) dX0_isWithin_22 (fun r3 m2 => ?_)
    refine r_iconst (v := 0) C dX0_isWithin_25 (by decide) ?_
    exact r_zret0 C dX0_isWithin_26
  refine r_icmp_lt (tgt := 16) C dX0_isWithin_5 (by decide) ?_ ?_
  · exact r_weak (lv' := [some (.inr (0, 0)), none, none]) ⟨rfl, trivial⟩ (hj16 _)
  refine r_aload_n C dX0_isWithin_8 rfl rfl ?_
  refine r_get (v := .inl (m 0 0 3)) C fl_X0_60 dX0_isWithin_9 rfl ?_
  refine r_iload_n C dX0_isWithin_12 rfl rfl ?_
  refine r_icmp_le (tgt := 27) C dX0_isWithin_13 (by decide) ?_ ?_
  · refine r_iconst (v := 1) C dX0_isWithin_27 (by decide) ?_
    exact r_zret1 C dX0_isWithin_28
  exact r_weak (lv' := [some (.inr (0, 0)), none, none]) ⟨rfl, trivial⟩ (hj16 _)
theorem dX5_add_0 : decode cX5_add 0 = .ok (.aload_n 0, 1) := by decide +kernel
theorem dX5_add_1 : decode cX5_add 1 = .ok (.getfield 18, 3) := by decide +kernel
theorem dX5_add_4 : decode cX5_add 4 = .ok (.sipush 600, 3) := by decide +kernel
theorem dX5_add_7 : decode cX5_add 7 = .ok (.if_icmp .ge 33, 3) := by decide +kernel
theorem dX5_add_10 : decode cX5_add 10 = .ok (.aload_n 0, 1) := by decide +kernel
theorem dX5_add_11 : decode cX5_add 11 = .ok (.getfield 9, 3) := by decide +kernel
theorem dX5_add_14 : decode cX5_add 14 = .ok (.aload_n 0, 1) := by decide +kernel
theorem dX5_add_15 : decode cX5_add 15 = .ok (.getfield 18, 3) := by decide +kernel
theorem dX5_add_18 : decode cX5_add 18 = .ok (.iload_n 1, 1) := by decide +kernel
theorem dX5_add_19 : decode cX5_add 19 = .ok (.iastore, 1) := by decide +kernel
theorem dX5_add_20 : decode cX5_add 20 = .ok (.aload_n 0, 1) := by decide +kernel
theorem dX5_add_21 : decode cX5_add 21 = .ok (.getfield 15, 3) := by decide +kernel
theorem dX5_add_24 : decode cX5_add 24 = .ok (.aload_n 0, 1) := by decide +kernel
theorem dX5_add_25 : decode cX5_add 25 = .ok (.getfield 18, 3) := by decide +kernel
theorem dX5_add_28 : decode cX5_add 28 = .ok (.iload_n 2, 1) := by decide +kernel
theorem dX5_add_29 : decode cX5_add 29 = .ok (.iastore, 1) := by decide +kernel
theorem dX5_add_30 : decode cX5_add 30 = .ok (.aload_n 0, 1) := by decide +kernel
theorem dX5_add_31 : decode cX5_add 31 = .ok (.dup, 1) := by decide +kernel
theorem dX5_add_32 : decode cX5_add 32 = .ok (.getfield 18, 3) := by decide +kernel
theorem dX5_add_35 : decode cX5_add 35 = .ok (.iconst 1, 1) := by decide +kernel
theorem dX5_add_36 : decode cX5_add 36 = .ok (.iadd, 1) := by decide +kernel
theorem dX5_add_37 : decode cX5_add 37 = .ok (.putfield 18, 3) := by decide +kernel
theorem dX5_add_40 : decode cX5_add 40 = .ok (.return_, 1) := by decide +kernel
def X5_add (k : Nat) (a1 : Int32) (a2 : Int32) (m : gM) : Option (Unit × gM) :=
  if 600 ≤ (m 5 k 2) then (some ((), m)) else (gPut m 38 k (m 5 k 2) a1 (fun (m1 : gM) => gPut m1 39 k (m1 5 k 2) a2 (fun (m2 : gM) => gLet ((m2 5 k 2) + 1) (fun (x3 : Int32) => gSet m2 5 k 2 x3 (fun (m4 : gM) => some ((), m4))))))
set_option maxRecDepth 100000 in
set_option maxHeartbeats 4000000 in
theorem c_X5_add (k : Nat) (a1 : Int32) (a2 : Int32) (m : gM) : gCon eU yX5_add cX5_add 3 none 0 [.inr (5, k), .inl a1, .inl a2] m (X5_add k a1 a2 m) := by
  refine gCon.of (lv := [some (.inr (5, k)), some (.inl a1), some (.inl a2)]) (by decide +kernel) (Nat.le_of_ble_eq_true rfl) rfl (fun X C => ?_)
  unfold X5_add
  refine r_aload_n C dX5_add_0 rfl rfl ?_
  refine r_get (v := .inl (m 5 k 2)) C fl_X5_18 dX5_add_1 rfl ?_
  refine r_sipush (v := 600) C dX5_add_4 (by decide) ?_
  refine r_icmp_ge (tgt := 40) C dX5_add_7 (by decide) ?_ ?_
  · exact r_return C dX5_add_40
  refine r_aload_n C dX5_add_10 rfl rfl ?_
  refine r_get (v := .inr (38, k)) C fl_X5_9 dX5_add_11 rfl ?_
  refine r_aload_n C dX5_add_14 rfl rfl ?_
  refine r_get (v := .inl (m 5 k 2)) C fl_X5_18 dX5_add_15 rfl ?_
  refine r_iload_n C dX5_add_18 rfl rfl ?_
  refine r_iast C rfl dX5_add_19 (fun m1 => ?_)
  refine r_aload_n C dX5_add_20 rfl rfl ?_
  refine r_get (v := .inr (39, k)) C fl_X5_15 dX5_add_21 rfl ?_
  refine r_aload_n C dX5_add_24 rfl rfl ?_
  refine r_get (v := .inl (m1 5 k 2)) C fl_X5_18 dX5_add_25 rfl ?_
  refine r_iload_n C dX5_add_28 rfl rfl ?_
  refine r_iast C rfl dX5_add_29 (fun m2 => ?_)
  refine r_aload_n C dX5_add_30 rfl rfl ?_
  refine r_dup C dX5_add_31 ?_
  refine r_get (v := .inl (m2 5 k 2)) C fl_X5_18 dX5_add_32 rfl ?_
  refine r_iconst (v := 1) C dX5_add_35 (by decide) ?_
  refine r_iadd C dX5_add_36 ?_
  refine r_let (fun x3 => ?_)
  refine r_put C fl_X5_18 rfl rfl rfl dX5_add_37 (fun m4 => ?_)
  exact r_return C dX5_add_40
theorem dX0_emit_0 : decode cX0_emit 0 = .ok (.aload_n 1, 1) := by decide +kernel
theorem dX0_emit_1 : decode cX0_emit 1 = .ok (.getfield 35, 3) := by decide +kernel
theorem dX0_emit_4 : decode cX0_emit 4 = .ok (.sipush 600, 3) := by decide +kernel
theorem dX0_emit_7 : decode cX0_emit 7 = .ok (.if_icmp .ge 12, 3) := by decide +kernel
theorem dX0_emit_10 : decode cX0_emit 10 = .ok (.aload_n 1, 1) := by decide +kernel
theorem dX0_emit_11 : decode cX0_emit 11 = .ok (.iload_n 2, 1) := by decide +kernel
theorem dX0_emit_12 : decode cX0_emit 12 = .ok (.iload_n 3, 1) := by decide +kernel
theorem dX0_emit_13 : decode cX0_emit 13 = .ok (.invokevirtual 105, 3) := by decide +kernel
theorem dX0_emit_16 : decode cX0_emit 16 = .ok (.goto 8, 3) := by decide +kernel
theorem dX0_emit_19 : decode cX0_emit 19 = .ok (.aload_n 0, 1) := by decide +kernel
theorem dX0_emit_20 : decode cX0_emit 20 = .ok (.iconst 1, 1) := by decide +kernel
theorem dX0_emit_21 : decode cX0_emit 21 = .ok (.putfield 22, 3) := by decide +kernel
theorem dX0_emit_24 : decode cX0_emit 24 = .ok (.return_, 1) := by decide +kernel
def X0_emit (o1 : Nat) (a2 : Int32) (a3 : Int32) (m : gM) : Option (Unit × gM) :=
  if 600 ≤ (m 5 o1 2) then (gSet m 0 0 7 1 (fun (m1 : gM) => some ((), m1))) else (gCall (X5_add o1 a2 a3 m) (fun (r3 : Unit) (m2 : gM) => some ((), m2)))
set_option maxRecDepth 100000 in
set_option maxHeartbeats 4000000 in
theorem c_X0_emit (o1 : Nat) (a2 : Int32) (a3 : Int32) (m : gM) : gCon eU yX0_emit cX0_emit 4 none 1 [.inr (0, 0), .inr (5, o1), .inl a2, .inl a3] m (X0_emit o1 a2 a3 m) := by
  refine gCon.of (lv := [some (.inr (0, 0)), some (.inr (5, o1)), some (.inl a2), some (.inl a3)]) (by decide +kernel) (Nat.le_of_ble_eq_true rfl) rfl (fun X C => ?_)
  unfold X0_emit
  refine r_aload_n C dX0_emit_0 rfl rfl ?_
  refine r_get (v := .inl (m 5 o1 2)) C fl_X0_35 dX0_emit_1 rfl ?_
  refine r_sipush (v := 600) C dX0_emit_4 (by decide) ?_
  refine r_icmp_ge (tgt := 19) C dX0_emit_7 (by decide) ?_ ?_
  · refine r_aload_n C dX0_emit_19 rfl rfl ?_
    refine r_iconst (v := 1) C dX0_emit_20 (by decide) ?_
    refine r_putG C fl_X0_22 rfl rfl rfl rfl dX0_emit_21 (fun m1 => ?_)
    exact r_return C dX0_emit_24
  refine r_aload_n C dX0_emit_10 rfl rfl ?_
  refine r_iload_n C dX0_emit_11 rfl rfl ?_
  refine r_iload_n C dX0_emit_12 rfl rfl ?_
  refine r_invU (t := 5) (kb := o1) (As := [.inl a2, .inl a3]) (st := []) C il_X0_105 co_X5_add (by decide) rfl (c_X5_add o1 a2 a3 m) (by decide) (by decide) rfl rfl (Nat.le_of_ble_eq_true rfl) dX0_emit_13 (fun r3 m2 => ?_)
  refine r_goto (tgt := 24) C dX0_emit_16 (by decide) ?_
  exact r_return C dX0_emit_24
theorem dX0_emitStrides_0 : decode cX0_emitStrides 0 = .ok (.iconst 1, 1) := by decide +kernel
theorem dX0_emitStrides_1 : decode cX0_emitStrides 1 = .ok (.istore_n 3, 1) := by decide +kernel
theorem dX0_emitStrides_2 : decode cX0_emitStrides 2 = .ok (.iload_n 3, 1) := by decide +kernel
theorem dX0_emitStrides_3 : decode cX0_emitStrides 3 = .ok (.iload_n 2, 1) := by decide +kernel
theorem dX0_emitStrides_4 : decode cX0_emitStrides 4 = .ok (.if_icmp .ge 30, 3) := by decide +kernel
theorem dX0_emitStrides_7 : decode cX0_emitStrides 7 = .ok (.aload_n 0, 1) := by decide +kernel
theorem dX0_emitStrides_8 : decode cX0_emitStrides 8 = .ok (.aload_n 1, 1) := by decide +kernel
theorem dX0_emitStrides_9 : decode cX0_emitStrides 9 = .ok (.aload_n 0, 1) := by decide +kernel
theorem dX0_emitStrides_10 : decode cX0_emitStrides 10 = .ok (.getfield 88, 3) := by decide +kernel
theorem dX0_emitStrides_13 : decode cX0_emitStrides 13 = .ok (.iload_n 3, 1) := by decide +kernel
theorem dX0_emitStrides_14 : decode cX0_emitStrides 14 = .ok (.aload_n 0, 1) := by decide +kernel
theorem dX0_emitStrides_15 : decode cX0_emitStrides 15 = .ok (.getfield 95, 3) := by decide +kernel
theorem dX0_emitStrides_18 : decode cX0_emitStrides 18 = .ok (.imul, 1) := by decide +kernel
theorem dX0_emitStrides_19 : decode cX0_emitStrides 19 = .ok (.iadd, 1) := by decide +kernel
theorem dX0_emitStrides_20 : decode cX0_emitStrides 20 = .ok (.sipush 1024, 3) := by decide +kernel
theorem dX0_emitStrides_23 : decode cX0_emitStrides 23 = .ok (.irem, 1) := by decide +kernel
theorem dX0_emitStrides_24 : decode cX0_emitStrides 24 = .ok (.iconst (-1), 1) := by decide +kernel
theorem dX0_emitStrides_25 : decode cX0_emitStrides 25 = .ok (.invokevirtual 91, 3) := by decide +kernel
theorem dX0_emitStrides_28 : decode cX0_emitStrides 28 = .ok (.iinc 3 1, 3) := by decide +kernel
theorem dX0_emitStrides_31 : decode cX0_emitStrides 31 = .ok (.goto (-29), 3) := by decide +kernel
theorem dX0_emitStrides_34 : decode cX0_emitStrides 34 = .ok (.return_, 1) := by decide +kernel
def X0_emitStrides_b2 (o1 : Nat) (a2 : Int32) (v1 : Int32) (m2 : gM) (k2 : Int32 → gM → Option (Unit × gM)) : Option (Unit × gM) :=
  if a2 ≤ v1 then (some ((), m2)) else (gCall (X0_emit o1 (gRem ((m2 0 0 5) + (v1 * (m2 0 0 6))) 1024) (-1) m2) (fun (r4 : Unit) (m3 : gM) => gLet (v1 + 1) (fun (x5 : Int32) => k2 x5 m3)))
def X0_emitStrides (o1 : Nat) (a2 : Int32) (m : gM) : Option (Unit × gM) :=
  gL1 FU (X0_emitStrides_b2 o1 a2) 1 m
set_option maxRecDepth 100000 in
set_option maxHeartbeats 4000000 in
theorem c_X0_emitStrides (o1 : Nat) (a2 : Int32) (m : gM) : gCon eU yX0_emitStrides cX0_emitStrides 4 none 2 [.inr (0, 0), .inr (5, o1), .inl a2] m (X0_emitStrides o1 a2 m) := by
  refine gCon.of (lv := [some (.inr (0, 0)), some (.inr (5, o1)), some (.inl a2), none]) (by decide +kernel) (Nat.le_of_ble_eq_true rfl) rfl (fun X C => ?_)
  unfold X0_emitStrides
  refine r_iconst (v := 1) C dX0_emitStrides_0 (by decide) ?_
  refine r_istore_n (lv' := [some (.inr (0, 0)), some (.inr (5, o1)), some (.inl a2), some (.inl 1)]) C dX0_emitStrides_1 rfl (by decide) rfl ?_
  refine r_weak (lv' := [some (.inr (0, 0)), some (.inr (5, o1)), some (.inl a2), some (.inl 1)]) ⟨rfl, rfl, rfl, rfl, trivial⟩ ?_
  refine r_l1 (pj := 2) (fun v1 => [some (.inr (0, 0)), some (.inr (5, o1)), some (.inl a2), some (.inl v1)]) (fun v1 m2 k2 hk2 => ?_) _ _ _
  unfold X0_emitStrides_b2
  refine r_iload_n C dX0_emitStrides_2 rfl rfl ?_
  refine r_iload_n C dX0_emitStrides_3 rfl rfl ?_
  refine r_icmp_ge (tgt := 34) C dX0_emitStrides_4 (by decide) ?_ ?_
  · exact r_return C dX0_emitStrides_34
  refine r_aload_n C dX0_emitStrides_7 rfl rfl ?_
  refine r_aload_n C dX0_emitStrides_8 rfl rfl ?_
  refine r_aload_n C dX0_emitStrides_9 rfl rfl ?_
  refine r_get (v := .inl (m2 0 0 5)) C fl_X0_88 dX0_emitStrides_10 rfl ?_
  refine r_iload_n C dX0_emitStrides_13 rfl rfl ?_
  refine r_aload_n C dX0_emitStrides_14 rfl rfl ?_
  refine r_get (v := .inl (m2 0 0 6)) C fl_X0_95 dX0_emitStrides_15 rfl ?_
  refine r_imul C dX0_emitStrides_18 ?_
  refine r_iadd C dX0_emitStrides_19 ?_
  refine r_sipush (v := 1024) C dX0_emitStrides_20 (by decide) ?_
  refine r_irem C dX0_emitStrides_23 (by decide) ?_
  refine r_iconst (v := (-1)) C dX0_emitStrides_24 (by decide) ?_
  refine r_invU (t := 0) (kb := 0) (As := [.inr (5, o1), .inl (gRem ((m2 0 0 5) + (v1 * (m2 0 0 6))) 1024), .inl (-1)]) (st := []) C il_X0_91 co_X0_emit (by decide) rfl (c_X0_emit o1 (gRem ((m2 0 0 5) + (v1 * (m2 0 0 6))) 1024) (-1) m2) (by decide) (by decide) rfl rfl (Nat.le_of_ble_eq_true rfl) dX0_emitStrides_25 (fun r4 m3 => ?_)
  refine r_iinc (v := 1) C dX0_emitStrides_28 (by decide) rfl (by decide) (fun x5 => ?_)
  show gw X eU _ [some (.inr (0, 0)), some (.inr (5, o1)), some (.inl a2), some (.inl x5)] _ _ _
  refine r_goto (tgt := 2) C dX0_emitStrides_31 (by decide) ?_
  exact r_weak (lv' := [some (.inr (0, 0)), some (.inr (5, o1)), some (.inl a2), some (.inl x5)]) ⟨rfl, rfl, rfl, rfl, trivial⟩ (hk2 _ _)
theorem dX0_closeLoop_0 : decode cX0_closeLoop 0 = .ok (.aload_n 0, 1) := by decide +kernel
theorem dX0_closeLoop_1 : decode cX0_closeLoop 1 = .ok (.getfield 15, 3) := by decide +kernel
theorem dX0_closeLoop_4 : decode cX0_closeLoop 4 = .ok (.ifCond .gt 4, 3) := by decide +kernel
theorem dX0_closeLoop_7 : decode cX0_closeLoop 7 = .ok (.return_, 1) := by decide +kernel
theorem dX0_closeLoop_8 : decode cX0_closeLoop 8 = .ok (.aload_n 0, 1) := by decide +kernel
theorem dX0_closeLoop_9 : decode cX0_closeLoop 9 = .ok (.dup, 1) := by decide +kernel
theorem dX0_closeLoop_10 : decode cX0_closeLoop 10 = .ok (.getfield 15, 3) := by decide +kernel
theorem dX0_closeLoop_13 : decode cX0_closeLoop 13 = .ok (.iconst 1, 1) := by decide +kernel
theorem dX0_closeLoop_14 : decode cX0_closeLoop 14 = .ok (.isub, 1) := by decide +kernel
theorem dX0_closeLoop_15 : decode cX0_closeLoop 15 = .ok (.putfield 15, 3) := by decide +kernel
theorem dX0_closeLoop_18 : decode cX0_closeLoop 18 = .ok (.aload_n 0, 1) := by decide +kernel
theorem dX0_closeLoop_19 : decode cX0_closeLoop 19 = .ok (.getfield 11, 3) := by decide +kernel
theorem dX0_closeLoop_22 : decode cX0_closeLoop 22 = .ok (.aload_n 0, 1) := by decide +kernel
theorem dX0_closeLoop_23 : decode cX0_closeLoop 23 = .ok (.getfield 15, 3) := by decide +kernel
theorem dX0_closeLoop_26 : decode cX0_closeLoop 26 = .ok (.iaload, 1) := by decide +kernel
theorem dX0_closeLoop_27 : decode cX0_closeLoop 27 = .ok (.istore_n 3, 1) := by decide +kernel
theorem dX0_closeLoop_28 : decode cX0_closeLoop 28 = .ok (.aload_n 1, 1) := by decide +kernel
theorem dX0_closeLoop_29 : decode cX0_closeLoop 29 = .ok (.getfield 35, 3) := by decide +kernel
theorem dX0_closeLoop_32 : decode cX0_closeLoop 32 = .ok (.iload_n 3, 1) := by decide +kernel
theorem dX0_closeLoop_33 : decode cX0_closeLoop 33 = .ok (.isub, 1) := by decide +kernel
theorem dX0_closeLoop_34 : decode cX0_closeLoop 34 = .ok (.iload_n 2, 1) := by decide +kernel
theorem dX0_closeLoop_35 : decode cX0_closeLoop 35 = .ok (.iconst 1, 1) := by decide +kernel
theorem dX0_closeLoop_36 : decode cX0_closeLoop 36 = .ok (.isub, 1) := by decide +kernel
theorem dX0_closeLoop_37 : decode cX0_closeLoop 37 = .ok (.imul, 1) := by decide +kernel
theorem dX0_closeLoop_38 : decode cX0_closeLoop 38 = .ok (.istore 4, 2) := by decide +kernel
theorem dX0_closeLoop_40 : decode cX0_closeLoop 40 = .ok (.iconst 0, 1) := by decide +kernel
theorem dX0_closeLoop_41 : decode cX0_closeLoop 41 = .ok (.istore 5, 2) := by decide +kernel
theorem dX0_closeLoop_43 : decode cX0_closeLoop 43 = .ok (.iload 5, 2) := by decide +kernel
theorem dX0_closeLoop_45 : decode cX0_closeLoop 45 = .ok (.iload 4, 2) := by decide +kernel
theorem dX0_closeLoop_47 : decode cX0_closeLoop 47 = .ok (.if_icmp .ge 39, 3) := by decide +kernel
theorem dX0_closeLoop_50 : decode cX0_closeLoop 50 = .ok (.aload_n 0, 1) := by decide +kernel
theorem dX0_closeLoop_51 : decode cX0_closeLoop 51 = .ok (.getfield 22, 3) := by decide +kernel
theorem dX0_closeLoop_54 : decode cX0_closeLoop 54 = .ok (.ifCond .ne 32, 3) := by decide +kernel
theorem dX0_closeLoop_57 : decode cX0_closeLoop 57 = .ok (.aload_n 0, 1) := by decide +kernel
theorem dX0_closeLoop_58 : decode cX0_closeLoop 58 = .ok (.aload_n 1, 1) := by decide +kernel
theorem dX0_closeLoop_59 : decode cX0_closeLoop 59 = .ok (.aload_n 1, 1) := by decide +kernel
theorem dX0_closeLoop_60 : decode cX0_closeLoop 60 = .ok (.getfield 108, 3) := by decide +kernel
theorem dX0_closeLoop_63 : decode cX0_closeLoop 63 = .ok (.iload_n 3, 1) := by decide +kernel
theorem dX0_closeLoop_64 : decode cX0_closeLoop 64 = .ok (.iload 5, 2) := by decide +kernel
theorem dX0_closeLoop_66 : decode cX0_closeLoop 66 = .ok (.iadd, 1) := by decide +kernel
theorem dX0_closeLoop_67 : decode cX0_closeLoop 67 = .ok (.iaload, 1) := by decide +kernel
theorem dX0_closeLoop_68 : decode cX0_closeLoop 68 = .ok (.aload_n 1, 1) := by decide +kernel
theorem dX0_closeLoop_69 : decode cX0_closeLoop 69 = .ok (.getfield 111, 3) := by decide +kernel
theorem dX0_closeLoop_72 : decode cX0_closeLoop 72 = .ok (.iload_n 3, 1) := by decide +kernel
theorem dX0_closeLoop_73 : decode cX0_closeLoop 73 = .ok (.iload 5, 2) := by decide +kernel
theorem dX0_closeLoop_75 : decode cX0_closeLoop 75 = .ok (.iadd, 1) := by decide +kernel
theorem dX0_closeLoop_76 : decode cX0_closeLoop 76 = .ok (.iaload, 1) := by decide +kernel
theorem dX0_closeLoop_77 : decode cX0_closeLoop 77 = .ok (.invokevirtual 91, 3) := by decide +kernel
theorem dX0_closeLoop_80 : decode cX0_closeLoop 80 = .ok (.iinc 5 1, 3) := by decide +kernel
theorem dX0_closeLoop_83 : decode cX0_closeLoop 83 = .ok (.goto (-40), 3) := by decide +kernel
theorem dX0_closeLoop_86 : decode cX0_closeLoop 86 = .ok (.return_, 1) := by decide +kernel
def X0_closeLoop_b43 (o1 : Nat) (x3 : Int32) (x4 : Int32) (v5 : Int32) (m6 : gM) (k43 : Int32 → gM → Option (Unit × gM)) : Option (Unit × gM) :=
  if x4 ≤ v5 then (some ((), m6)) else (if (m6 0 0 7) = 0 then (gAt m6 38 o1 (x3 + v5) (fun (x7 : Int32) => gAt m6 39 o1 (x3 + v5) (fun (x8 : Int32) => gCall (X0_emit o1 x7 x8 m6) (fun (r10 : Unit) (m9 : gM) => gLet (v5 + 1) (fun (x11 : Int32) => k43 x11 m9))))) else (some ((), m6)))
def X0_closeLoop (o1 : Nat) (a2 : Int32) (m : gM) : Option (Unit × gM) :=
  if 0 < (m 0 0 1) then (gLet ((m 0 0 1) - 1) (fun (x1 : Int32) => gSet m 0 0 1 x1 (fun (m2 : gM) => gAt m2 16 0 (m2 0 0 1) (fun (x3 : Int32) => gLet (((m2 5 o1 2) - x3) * (a2 - 1)) (fun (x4 : Int32) => gL1 FU (X0_closeLoop_b43 o1 x3 x4) 0 m2))))) else (some ((), m))
set_option maxRecDepth 100000 in
set_option maxHeartbeats 4000000 in
theorem c_X0_closeLoop (o1 : Nat) (a2 : Int32) (m : gM) : gCon eU yX0_closeLoop cX0_closeLoop 6 none 2 [.inr (0, 0), .inr (5, o1), .inl a2] m (X0_closeLoop o1 a2 m) := by
  refine gCon.of (lv := [some (.inr (0, 0)), some (.inr (5, o1)), some (.inl a2), none, none, none]) (by decide +kernel) (Nat.le_of_ble_eq_true rfl) rfl (fun X C => ?_)
  unfold X0_closeLoop
  refine r_aload_n C dX0_closeLoop_0 rfl rfl ?_
  refine r_get (v := .inl (m 0 0 1)) C fl_X0_15 dX0_closeLoop_1 rfl ?_
  refine r_if_gt (tgt := 8) C dX0_closeLoop_4 (by decide) ?_ ?_
  · refine r_aload_n C dX0_closeLoop_8 rfl rfl ?_
    refine r_dup C dX0_closeLoop_9 ?_
    refine r_get (v := .inl (m 0 0 1)) C fl_X0_15 dX0_closeLoop_10 rfl ?_
    refine r_iconst (v := 1) C dX0_closeLoop_13 (by decide) ?_
    refine r_isub C dX0_closeLoop_14 ?_
    refine r_let (fun x1 => ?_)
    refine r_put C fl_X0_15 rfl rfl rfl dX0_closeLoop_15 (fun m2 => ?_)
    refine r_aload_n C dX0_closeLoop_18 rfl rfl ?_
    refine r_get (v := .inr (16, 0)) C fl_X0_11 dX0_closeLoop_19 rfl ?_
    refine r_aload_n C dX0_closeLoop_22 rfl rfl ?_
    refine r_get (v := .inl (m2 0 0 1)) C fl_X0_15 dX0_closeLoop_23 rfl ?_
    refine r_iald C rfl dX0_closeLoop_26 (fun x3 => ?_)
    refine r_istore_n (lv' := [some (.inr (0, 0)), some (.inr (5, o1)), some (.inl a2), some (.inl x3), none, none]) C dX0_closeLoop_27 rfl (by decide) rfl ?_
    refine r_aload_n C dX0_closeLoop_28 rfl rfl ?_
    refine r_get (v := .inl (m2 5 o1 2)) C fl_X0_35 dX0_closeLoop_29 rfl ?_
    refine r_iload_n C dX0_closeLoop_32 rfl rfl ?_
    refine r_isub C dX0_closeLoop_33 ?_
    refine r_iload_n C dX0_closeLoop_34 rfl rfl ?_
    refine r_iconst (v := 1) C dX0_closeLoop_35 (by decide) ?_
    refine r_isub C dX0_closeLoop_36 ?_
    refine r_imul C dX0_closeLoop_37 ?_
    refine r_let (fun x4 => ?_)
    refine r_istore (lv' := [some (.inr (0, 0)), some (.inr (5, o1)), some (.inl a2), some (.inl x3), some (.inl x4), none]) C dX0_closeLoop_38 (by decide) rfl ?_
    refine r_iconst (v := 0) C dX0_closeLoop_40 (by decide) ?_
    refine r_istore (lv' := [some (.inr (0, 0)), some (.inr (5, o1)), some (.inl a2), some (.inl x3), some (.inl x4), some (.inl 0)]) C dX0_closeLoop_41 (by decide) rfl ?_
    refine r_weak (lv' := [some (.inr (0, 0)), some (.inr (5, o1)), none, some (.inl x3), some (.inl x4), some (.inl 0)]) ⟨rfl, rfl, rfl, rfl, rfl, trivial⟩ ?_
    refine r_l1 (pj := 43) (fun v5 => [some (.inr (0, 0)), some (.inr (5, o1)), none, some (.inl x3), some (.inl x4), some (.inl v5)]) (fun v5 m6 k43 hk43 => ?_) _ _ _
    unfold X0_closeLoop_b43
    refine r_iload C dX0_closeLoop_43 rfl ?_
    refine r_iload C dX0_closeLoop_45 rfl ?_
    refine r_icmp_ge (tgt := 86) C dX0_closeLoop_47 (by decide) ?_ ?_
    · exact r_return C dX0_closeLoop_86
    refine r_aload_n C dX0_closeLoop_50 rfl rfl ?_
    refine r_get (v := .inl (m6 0 0 7)) C fl_X0_22 dX0_closeLoop_51 rfl ?_
    refine r_if_ne (tgt := 86) C dX0_closeLoop_54 (by decide) ?_ ?_
    · exact r_return C dX0_closeLoop_86
    refine r_aload_n C dX0_closeLoop_57 rfl rfl ?_
    refine r_aload_n C dX0_closeLoop_58 rfl rfl ?_
    refine r_aload_n C dX0_closeLoop_59 rfl rfl ?_
    refine r_get (v := .inr (38, o1)) C fl_X0_108 dX0_closeLoop_60 rfl ?_
    refine r_iload_n C dX0_closeLoop_63 rfl rfl ?_
    refine r_iload C dX0_closeLoop_64 rfl ?_
    refine r_iadd C dX0_closeLoop_66 ?_
    refine r_iald C rfl dX0_closeLoop_67 (fun x7 => ?_)
    refine r_aload_n C dX0_closeLoop_68 rfl rfl ?_
    refine r_get (v := .inr (39, o1)) C fl_X0_111 dX0_closeLoop_69 rfl ?_
    refine r_iload_n C dX0_closeLoop_72 rfl rfl ?_
    refine r_iload C dX0_closeLoop_73 rfl ?_
    refine r_iadd C dX0_closeLoop_75 ?_
    refine r_iald C rfl dX0_closeLoop_76 (fun x8 => ?_)
    refine r_invU (t := 0) (kb := 0) (As := [.inr (5, o1), .inl x7, .inl x8]) (st := []) C il_X0_91 co_X0_emit (by decide) rfl (c_X0_emit o1 x7 x8 m6) (by decide) (by decide) rfl rfl (Nat.le_of_ble_eq_true rfl) dX0_closeLoop_77 (fun r10 m9 => ?_)
    refine r_iinc (v := 1) C dX0_closeLoop_80 (by decide) rfl (by decide) (fun x11 => ?_)
    show gw X eU _ [some (.inr (0, 0)), some (.inr (5, o1)), none, some (.inl x3), some (.inl x4), some (.inl x11)] _ _ _
    refine r_goto (tgt := 43) C dX0_closeLoop_83 (by decide) ?_
    exact r_weak (lv' := [some (.inr (0, 0)), some (.inr (5, o1)), none, some (.inl x3), some (.inl x4), some (.inl x11)]) ⟨rfl, rfl, rfl, rfl, rfl, trivial⟩ (hk43 _ _)
  exact r_return C dX0_closeLoop_7
theorem dX0_takeNumber_0 : decode cX0_takeNumber 0 = .ok (.aload_n 0, 1) := by decide +kernel
theorem dX0_takeNumber_1 : decode cX0_takeNumber 1 = .ok (.getfield 19, 3) := by decide +kernel
theorem dX0_takeNumber_4 : decode cX0_takeNumber 4 = .ok (.tableswitch 230 1 9 #[52, 230, 89, 230, 116, 143, 230, 171, 203], 52) := by decide +kernel
theorem dX0_takeNumber_56 : decode cX0_takeNumber 56 = .ok (.aload_n 0, 1) := by decide +kernel
theorem dX0_takeNumber_57 : decode cX0_takeNumber 57 = .ok (.iconst 0, 1) := by decide +kernel
theorem dX0_takeNumber_58 : decode cX0_takeNumber 58 = .ok (.sipush 1023, 3) := by decide +kernel
theorem dX0_takeNumber_61 : decode cX0_takeNumber 61 = .ok (.invokevirtual 84, 3) := by decide +kernel
theorem dX0_takeNumber_64 : decode cX0_takeNumber 64 = .ok (.ifCond .eq 179, 3) := by decide +kernel
theorem dX0_takeNumber_67 : decode cX0_takeNumber 67 = .ok (.aload_n 0, 1) := by decide +kernel
theorem dX0_takeNumber_68 : decode cX0_takeNumber 68 = .ok (.aload_n 0, 1) := by decide +kernel
theorem dX0_takeNumber_69 : decode cX0_takeNumber 69 = .ok (.getfield 60, 3) := by decide +kernel
theorem dX0_takeNumber_72 : decode cX0_takeNumber 72 = .ok (.putfield 88, 3) := by decide +kernel
theorem dX0_takeNumber_75 : decode cX0_takeNumber 75 = .ok (.aload_n 0, 1) := by decide +kernel
theorem dX0_takeNumber_76 : decode cX0_takeNumber 76 = .ok (.aload_n 1, 1) := by decide +kernel
theorem dX0_takeNumber_77 : decode cX0_takeNumber 77 = .ok (.aload_n 0, 1) := by decide +kernel
theorem dX0_takeNumber_78 : decode cX0_takeNumber 78 = .ok (.getfield 60, 3) := by decide +kernel
theorem dX0_takeNumber_81 : decode cX0_takeNumber 81 = .ok (.iconst (-1), 1) := by decide +kernel
theorem dX0_takeNumber_82 : decode cX0_takeNumber 82 = .ok (.invokevirtual 91, 3) := by decide +kernel
theorem dX0_takeNumber_85 : decode cX0_takeNumber 85 = .ok (.aload_n 0, 1) := by decide +kernel
theorem dX0_takeNumber_86 : decode cX0_takeNumber 86 = .ok (.iconst 2, 1) := by decide +kernel
theorem dX0_takeNumber_87 : decode cX0_takeNumber 87 = .ok (.putfield 19, 3) := by decide +kernel
theorem dX0_takeNumber_90 : decode cX0_takeNumber 90 = .ok (.goto 153, 3) := by decide +kernel
theorem dX0_takeNumber_93 : decode cX0_takeNumber 93 = .ok (.aload_n 0, 1) := by decide +kernel
theorem dX0_takeNumber_94 : decode cX0_takeNumber 94 = .ok (.iconst 0, 1) := by decide +kernel
theorem dX0_takeNumber_95 : decode cX0_takeNumber 95 = .ok (.sipush 1023, 3) := by decide +kernel
theorem dX0_takeNumber_98 : decode cX0_takeNumber 98 = .ok (.invokevirtual 84, 3) := by decide +kernel
theorem dX0_takeNumber_101 : decode cX0_takeNumber 101 = .ok (.ifCond .eq 142, 3) := by decide +kernel
theorem dX0_takeNumber_104 : decode cX0_takeNumber 104 = .ok (.aload_n 0, 1) := by decide +kernel
theorem dX0_takeNumber_105 : decode cX0_takeNumber 105 = .ok (.aload_n 0, 1) := by decide +kernel
theorem dX0_takeNumber_106 : decode cX0_takeNumber 106 = .ok (.getfield 60, 3) := by decide +kernel
theorem dX0_takeNumber_109 : decode cX0_takeNumber 109 = .ok (.putfield 95, 3) := by decide +kernel
theorem dX0_takeNumber_112 : decode cX0_takeNumber 112 = .ok (.aload_n 0, 1) := by decide +kernel
theorem dX0_takeNumber_113 : decode cX0_takeNumber 113 = .ok (.iconst 4, 1) := by decide +kernel
theorem dX0_takeNumber_114 : decode cX0_takeNumber 114 = .ok (.putfield 19, 3) := by decide +kernel
theorem dX0_takeNumber_117 : decode cX0_takeNumber 117 = .ok (.goto 126, 3) := by decide +kernel
theorem dX0_takeNumber_120 : decode cX0_takeNumber 120 = .ok (.aload_n 0, 1) := by decide +kernel
theorem dX0_takeNumber_121 : decode cX0_takeNumber 121 = .ok (.iconst 1, 1) := by decide +kernel
theorem dX0_takeNumber_122 : decode cX0_takeNumber 122 = .ok (.bipush 99, 2) := by decide +kernel
theorem dX0_takeNumber_124 : decode cX0_takeNumber 124 = .ok (.invokevirtual 84, 3) := by decide +kernel
theorem dX0_takeNumber_127 : decode cX0_takeNumber 127 = .ok (.ifCond .eq 116, 3) := by decide +kernel
theorem dX0_takeNumber_130 : decode cX0_takeNumber 130 = .ok (.aload_n 0, 1) := by decide +kernel
theorem dX0_takeNumber_131 : decode cX0_takeNumber 131 = .ok (.aload_n 1, 1) := by decide +kernel
theorem dX0_takeNumber_132 : decode cX0_takeNumber 132 = .ok (.aload_n 0, 1) := by decide +kernel
theorem dX0_takeNumber_133 : decode cX0_takeNumber 133 = .ok (.getfield 60, 3) := by decide +kernel
theorem dX0_takeNumber_136 : decode cX0_takeNumber 136 = .ok (.invokevirtual 98, 3) := by decide +kernel
theorem dX0_takeNumber_139 : decode cX0_takeNumber 139 = .ok (.aload_n 0, 1) := by decide +kernel
theorem dX0_takeNumber_140 : decode cX0_takeNumber 140 = .ok (.iconst 0, 1) := by decide +kernel
theorem dX0_takeNumber_141 : decode cX0_takeNumber 141 = .ok (.putfield 19, 3) := by decide +kernel
theorem dX0_takeNumber_144 : decode cX0_takeNumber 144 = .ok (.goto 99, 3) := by decide +kernel
theorem dX0_takeNumber_147 : decode cX0_takeNumber 147 = .ok (.aload_n 0, 1) := by decide +kernel
theorem dX0_takeNumber_148 : decode cX0_takeNumber 148 = .ok (.iconst 0, 1) := by decide +kernel
theorem dX0_takeNumber_149 : decode cX0_takeNumber 149 = .ok (.sipush 1023, 3) := by decide +kernel
theorem dX0_takeNumber_152 : decode cX0_takeNumber 152 = .ok (.invokevirtual 84, 3) := by decide +kernel
theorem dX0_takeNumber_155 : decode cX0_takeNumber 155 = .ok (.ifCond .eq 88, 3) := by decide +kernel
theorem dX0_takeNumber_158 : decode cX0_takeNumber 158 = .ok (.aload_n 0, 1) := by decide +kernel
theorem dX0_takeNumber_159 : decode cX0_takeNumber 159 = .ok (.aload_n 0, 1) := by decide +kernel
theorem dX0_takeNumber_160 : decode cX0_takeNumber 160 = .ok (.getfield 60, 3) := by decide +kernel
theorem dX0_takeNumber_163 : decode cX0_takeNumber 163 = .ok (.putfield 88, 3) := by decide +kernel
theorem dX0_takeNumber_166 : decode cX0_takeNumber 166 = .ok (.aload_n 0, 1) := by decide +kernel
theorem dX0_takeNumber_167 : decode cX0_takeNumber 167 = .ok (.bipush 7, 2) := by decide +kernel
theorem dX0_takeNumber_169 : decode cX0_takeNumber 169 = .ok (.putfield 19, 3) := by decide +kernel
theorem dX0_takeNumber_172 : decode cX0_takeNumber 172 = .ok (.goto 71, 3) := by decide +kernel
theorem dX0_takeNumber_175 : decode cX0_takeNumber 175 = .ok (.aload_n 0, 1) := by decide +kernel
theorem dX0_takeNumber_176 : decode cX0_takeNumber 176 = .ok (.iconst 0, 1) := by decide +kernel
theorem dX0_takeNumber_177 : decode cX0_takeNumber 177 = .ok (.sipush 9999, 3) := by decide +kernel
theorem dX0_takeNumber_180 : decode cX0_takeNumber 180 = .ok (.invokevirtual 84, 3) := by decide +kernel
theorem dX0_takeNumber_183 : decode cX0_takeNumber 183 = .ok (.ifCond .eq 60, 3) := by decide +kernel
theorem dX0_takeNumber_186 : decode cX0_takeNumber 186 = .ok (.aload_n 0, 1) := by decide +kernel
theorem dX0_takeNumber_187 : decode cX0_takeNumber 187 = .ok (.aload_n 1, 1) := by decide +kernel
theorem dX0_takeNumber_188 : decode cX0_takeNumber 188 = .ok (.aload_n 0, 1) := by decide +kernel
theorem dX0_takeNumber_189 : decode cX0_takeNumber 189 = .ok (.getfield 88, 3) := by decide +kernel
theorem dX0_takeNumber_192 : decode cX0_takeNumber 192 = .ok (.aload_n 0, 1) := by decide +kernel
theorem dX0_takeNumber_193 : decode cX0_takeNumber 193 = .ok (.getfield 60, 3) := by decide +kernel
theorem dX0_takeNumber_196 : decode cX0_takeNumber 196 = .ok (.invokevirtual 91, 3) := by decide +kernel
theorem dX0_takeNumber_199 : decode cX0_takeNumber 199 = .ok (.aload_n 0, 1) := by decide +kernel
theorem dX0_takeNumber_200 : decode cX0_takeNumber 200 = .ok (.iconst 0, 1) := by decide +kernel
theorem dX0_takeNumber_201 : decode cX0_takeNumber 201 = .ok (.putfield 19, 3) := by decide +kernel
theorem dX0_takeNumber_204 : decode cX0_takeNumber 204 = .ok (.goto 39, 3) := by decide +kernel
theorem dX0_takeNumber_207 : decode cX0_takeNumber 207 = .ok (.aload_n 0, 1) := by decide +kernel
theorem dX0_takeNumber_208 : decode cX0_takeNumber 208 = .ok (.iconst 1, 1) := by decide +kernel
theorem dX0_takeNumber_209 : decode cX0_takeNumber 209 = .ok (.bipush 9, 2) := by decide +kernel
theorem dX0_takeNumber_211 : decode cX0_takeNumber 211 = .ok (.invokevirtual 84, 3) := by decide +kernel
theorem dX0_takeNumber_214 : decode cX0_takeNumber 214 = .ok (.ifCond .eq 29, 3) := by decide +kernel
theorem dX0_takeNumber_217 : decode cX0_takeNumber 217 = .ok (.aload_n 0, 1) := by decide +kernel
theorem dX0_takeNumber_218 : decode cX0_takeNumber 218 = .ok (.aload_n 1, 1) := by decide +kernel
theorem dX0_takeNumber_219 : decode cX0_takeNumber 219 = .ok (.aload_n 0, 1) := by decide +kernel
theorem dX0_takeNumber_220 : decode cX0_takeNumber 220 = .ok (.getfield 60, 3) := by decide +kernel
theorem dX0_takeNumber_223 : decode cX0_takeNumber 223 = .ok (.invokevirtual 102, 3) := by decide +kernel
theorem dX0_takeNumber_226 : decode cX0_takeNumber 226 = .ok (.aload_n 0, 1) := by decide +kernel
theorem dX0_takeNumber_227 : decode cX0_takeNumber 227 = .ok (.iconst 0, 1) := by decide +kernel
theorem dX0_takeNumber_228 : decode cX0_takeNumber 228 = .ok (.putfield 19, 3) := by decide +kernel
theorem dX0_takeNumber_231 : decode cX0_takeNumber 231 = .ok (.goto 12, 3) := by decide +kernel
theorem dX0_takeNumber_234 : decode cX0_takeNumber 234 = .ok (.aload_n 0, 1) := by decide +kernel
theorem dX0_takeNumber_235 : decode cX0_takeNumber 235 = .ok (.iconst 1, 1) := by decide +kernel
theorem dX0_takeNumber_236 : decode cX0_takeNumber 236 = .ok (.aload_n 0, 1) := by decide +kernel
theorem dX0_takeNumber_237 : decode cX0_takeNumber 237 = .ok (.getfield 32, 3) := by decide +kernel
theorem dX0_takeNumber_240 : decode cX0_takeNumber 240 = .ok (.invokevirtual 77, 3) := by decide +kernel
theorem dX0_takeNumber_243 : decode cX0_takeNumber 243 = .ok (.return_, 1) := by decide +kernel
def X0_takeNumber (o1 : Nat) (m : gM) : Option (Unit × gM) :=
  gJ0 (fun (m1 : gM) => gCall (X0_fail 1 (m1 0 0 4) m1) (fun (r3 : Unit) (m2 : gM) => some ((), m2))) (fun (j234 : gM → Option (Unit × gM)) => if (m 0 0 2) = 1 then (gCall (X0_isWithin 0 1023 m) (fun (r5 : Bool) (m4 : gM) => if r5 = true then (gSet m4 0 0 5 (m4 0 0 3) (fun (m6 : gM) => gCall (X0_emit o1 (m6 0 0 3) (-1) m6) (fun (r8 : Unit) (m7 : gM) => gSet m7 0 0 2 2 (fun (m9 : gM) => some ((), m9))))) else (some ((), m4)))) else (if (m 0 0 2) = 2 then (j234 m) else (if (m 0 0 2) = 3 then (gCall (X0_isWithin 0 1023 m) (fun (r11 : Bool) (m10 : gM) => if r11 = true then (gSet m10 0 0 6 (m10 0 0 3) (fun (m12 : gM) => gSet m12 0 0 2 4 (fun (m13 : gM) => some ((), m13)))) else (some ((), m10)))) else (if (m 0 0 2) = 4 then (j234 m) else (if (m 0 0 2) = 5 then (gCall (X0_isWithin 1 99 m) (fun (r15 : Bool) (m14 : gM) => if r15 = true then (gCall (X0_emitStrides o1 (m14 0 0 3) m14) (fun (r17 : Unit) (m16 : gM) => gSet m16 0 0 2 0 (fun (m18 : gM) => some ((), m18)))) else (some ((), m14)))) else (if (m 0 0 2) = 6 then (gCall (X0_isWithin 0 1023 m) (fun (r20 : Bool) (m19 : gM) => if r20 = true then (gSet m19 0 0 5 (m19 0 0 3) (fun (m21 : gM) => gSet m21 0 0 2 7 (fun (m22 : gM) => some ((), m22)))) else (some ((), m19)))) else (if (m 0 0 2) = 7 then (j234 m) else (if (m 0 0 2) = 8 then (gCall (X0_isWithin 0 9999 m) (fun (r24 : Bool) (m23 : gM) => if r24 = true then (gCall (X0_emit o1 (m23 0 0 5) (m23 0 0 3) m23) (fun (r26 : Unit) (m25 : gM) => gSet m25 0 0 2 0 (fun (m27 : gM) => some ((), m27)))) else (some ((), m23)))) else (if (m 0 0 2) = 9 then (gCall (X0_isWithin 1 9 m) (fun (r29 : Bool) (m28 : gM) => if r29 = true then (gCall (X0_closeLoop o1 (m28 0 0 3) m28) (fun (r31 : Unit) (m30 : gM) => gSet m30 0 0 2 0 (fun (m32 : gM) => some ((), m32)))) else (some ((), m28)))) else (j234 m))))))))))
set_option maxRecDepth 100000 in
set_option maxHeartbeats 4000000 in
theorem c_X0_takeNumber (o1 : Nat) (m : gM) : gCon eU yX0_takeNumber cX0_takeNumber 2 none 3 [.inr (0, 0), .inr (5, o1)] m (X0_takeNumber o1 m) := by
  refine gCon.of (lv := [some (.inr (0, 0)), some (.inr (5, o1))]) (by decide +kernel) (Nat.le_of_ble_eq_true rfl) rfl (fun X C => ?_)
  unfold X0_takeNumber
  refine r_aload_n C dX0_takeNumber_0 rfl rfl ?_
  refine r_get (v := .inl (m 0 0 2)) C fl_X0_19 dX0_takeNumber_1 rfl ?_
  refine r_j0 234 [some (.inr (0, 0)), none] [] (fun m1 => ?_) (fun j234 hj234 => ?_)
  · refine r_aload_n C dX0_takeNumber_234 rfl rfl ?_
    refine r_iconst (v := 1) C dX0_takeNumber_235 (by decide) ?_
    refine r_aload_n C dX0_takeNumber_236 rfl rfl ?_
    refine r_get (v := .inl (m1 0 0 4)) C fl_X0_32 dX0_takeNumber_237 rfl ?_
    refine r_invU (t := 0) (kb := 0) (As := [.inl 1, .inl (m1 0 0 4)]) (st := []) C il_X0_77 co_X0_fail (by decide) rfl (c_X0_fail 1 (m1 0 0 4) m1) (by decide) (by decide) rfl rfl (Nat.le_of_ble_eq_true rfl) dX0_takeNumber_240 (fun r3 m2 => ?_)
    exact r_return C dX0_takeNumber_243
  refine r_peel (v := 1) ?_ (fun h1 => ?_)
  · refine r_tsw (x := 1) (off := 52) (tgt := 56) C dX0_takeNumber_4 (by decide) (by decide) (by decide) (by decide) ?_
    refine r_aload_n C dX0_takeNumber_56 rfl rfl ?_
    refine r_iconst (v := 0) C dX0_takeNumber_57 (by decide) ?_
    refine r_sipush (v := 1023) C dX0_takeNumber_58 (by decide) ?_
    refine r_invB (t := 0) (kb := 0) (As := [.inl 0, .inl 1023]) (st := []) C il_X0_84 co_X0_isWithin (by decide) rfl (c_X0_isWithin 0 1023 m) (by decide) (by decide) rfl rfl (Nat.le_of_ble_eq_true rfl) dX0_takeNumber_61 (fun r5 m4 => ?_)
    refine r_ifeqB (tgt := 243) C dX0_takeNumber_64 (by decide) ?_ ?_
    · exact r_return C dX0_takeNumber_243
    refine r_aload_n C dX0_takeNumber_67 rfl rfl ?_
    refine r_aload_n C dX0_takeNumber_68 rfl rfl ?_
    refine r_get (v := .inl (m4 0 0 3)) C fl_X0_60 dX0_takeNumber_69 rfl ?_
    refine r_put C fl_X0_88 rfl rfl rfl dX0_takeNumber_72 (fun m6 => ?_)
    refine r_aload_n C dX0_takeNumber_75 rfl rfl ?_
    refine r_aload_n C dX0_takeNumber_76 rfl rfl ?_
    refine r_aload_n C dX0_takeNumber_77 rfl rfl ?_
    refine r_get (v := .inl (m6 0 0 3)) C fl_X0_60 dX0_takeNumber_78 rfl ?_
    refine r_iconst (v := (-1)) C dX0_takeNumber_81 (by decide) ?_
    refine r_invU (t := 0) (kb := 0) (As := [.inr (5, o1), .inl (m6 0 0 3), .inl (-1)]) (st := []) C il_X0_91 co_X0_emit (by decide) rfl (c_X0_emit o1 (m6 0 0 3) (-1) m6) (by decide) (by decide) rfl rfl (Nat.le_of_ble_eq_true rfl) dX0_takeNumber_82 (fun r8 m7 => ?_)
    refine r_aload_n C dX0_takeNumber_85 rfl rfl ?_
    refine r_iconst (v := 2) C dX0_takeNumber_86 (by decide) ?_
    refine r_put C fl_X0_19 rfl rfl rfl dX0_takeNumber_87 (fun m9 => ?_)
    refine r_goto (tgt := 243) C dX0_takeNumber_90 (by decide) ?_
    exact r_return C dX0_takeNumber_243
  refine r_peel (v := 2) ?_ (fun h2 => ?_)
  · refine r_tsw (x := 2) (off := 230) (tgt := 234) C dX0_takeNumber_4 (by decide) (by decide) (by decide) (by decide) ?_
    exact r_weak (lv' := [some (.inr (0, 0)), none]) ⟨rfl, trivial⟩ (hj234 _)
  refine r_peel (v := 3) ?_ (fun h3 => ?_)
  · refine r_tsw (x := 3) (off := 89) (tgt := 93) C dX0_takeNumber_4 (by decide) (by decide) (by decide) (by decide) ?_
    refine r_aload_n C dX0_takeNumber_93 rfl rfl ?_
    refine r_iconst (v := 0) C dX0_takeNumber_94 (by decide) ?_
    refine r_sipush (v := 1023) C dX0_takeNumber_95 (by decide) ?_
    refine r_invB (t := 0) (kb := 0) (As := [.inl 0, .inl 1023]) (st := []) C il_X0_84 co_X0_isWithin (by decide) rfl (c_X0_isWithin 0 1023 m) (by decide) (by decide) rfl rfl (Nat.le_of_ble_eq_true rfl) dX0_takeNumber_98 (fun r11 m10 => ?_)
    refine r_ifeqB (tgt := 243) C dX0_takeNumber_101 (by decide) ?_ ?_
    · exact r_return C dX0_takeNumber_243
    refine r_aload_n C dX0_takeNumber_104 rfl rfl ?_
    refine r_aload_n C dX0_takeNumber_105 rfl rfl ?_
    refine r_get (v := .inl (m10 0 0 3)) C fl_X0_60 dX0_takeNumber_106 rfl ?_
    refine r_put C fl_X0_95 rfl rfl rfl dX0_takeNumber_109 (fun m12 => ?_)
    refine r_aload_n C dX0_takeNumber_112 rfl rfl ?_
    refine r_iconst (v := 4) C dX0_takeNumber_113 (by decide) ?_
    refine r_put C fl_X0_19 rfl rfl rfl dX0_takeNumber_114 (fun m13 => ?_)
    refine r_goto (tgt := 243) C dX0_takeNumber_117 (by decide) ?_
    exact r_return C dX0_takeNumber_243
  refine r_peel (v := 4) ?_ (fun h4 => ?_)
  · refine r_tsw (x := 4) (off := 230) (tgt := 234) C dX0_takeNumber_4 (by decide) (by decide) (by decide) (by decide) ?_
    exact r_weak (lv' := [some (.inr (0, 0)), none]) ⟨rfl, trivial⟩ (hj234 _)
  refine r_peel (v := 5) ?_ (fun h5 => ?_)
  · refine r_tsw (x := 5) (off := 116) (tgt := 120) C dX0_takeNumber_4 (by decide) (by decide) (by decide) (by decide) ?_
    refine r_aload_n C dX0_takeNumber_120 rfl rfl ?_
    refine r_iconst (v := 1) C dX0_takeNumber_121 (by decide) ?_
    refine r_bipush (v := 99) C dX0_takeNumber_122 (by decide) ?_
    refine r_invB (t := 0) (kb := 0) (As := [.inl 1, .inl 99]) (st := []) C il_X0_84 co_X0_isWithin (by decide) rfl (c_X0_isWithin 1 99 m) (by decide) (by decide) rfl rfl (Nat.le_of_ble_eq_true rfl) dX0_takeNumber_124 (fun r15 m14 => ?_)
    refine r_ifeqB (tgt := 243) C dX0_takeNumber_127 (by decide) ?_ ?_
    · exact r_return C dX0_takeNumber_243
    refine r_aload_n C dX0_takeNumber_130 rfl rfl ?_
    refine r_aload_n C dX0_takeNumber_131 rfl rfl ?_
    refine r_aload_n C dX0_takeNumber_132 rfl rfl ?_
    refine r_get (v := .inl (m14 0 0 3)) C fl_X0_60 dX0_takeNumber_133 rfl ?_
    refine r_invU (t := 0) (kb := 0) (As := [.inr (5, o1), .inl (m14 0 0 3)]) (st := []) C il_X0_98 co_X0_emitStrides (by decide) rfl (c_X0_emitStrides o1 (m14 0 0 3) m14) (by decide) (by decide) rfl rfl (Nat.le_of_ble_eq_true rfl) dX0_takeNumber_136 (fun r17 m16 => ?_)
    refine r_aload_n C dX0_takeNumber_139 rfl rfl ?_
    refine r_iconst (v := 0) C dX0_takeNumber_140 (by decide) ?_
    refine r_put C fl_X0_19 rfl rfl rfl dX0_takeNumber_141 (fun m18 => ?_)
    refine r_goto (tgt := 243) C dX0_takeNumber_144 (by decide) ?_
    exact r_return C dX0_takeNumber_243
  refine r_peel (v := 6) ?_ (fun h6 => ?_)
  · refine r_tsw (x := 6) (off := 143) (tgt := 147) C dX0_takeNumber_4 (by decide) (by decide) (by decide) (by decide) ?_
    refine r_aload_n C dX0_takeNumber_147 rfl rfl ?_
    refine r_iconst (v := 0) C dX0_takeNumber_148 (by decide) ?_
    refine r_sipush (v := 1023) C dX0_takeNumber_149 (by decide) ?_
    refine r_invB (t := 0) (kb := 0) (As := [.inl 0, .inl 1023]) (st := []) C il_X0_84 co_X0_isWithin (by decide) rfl (c_X0_isWithin 0 1023 m) (by decide) (by decide) rfl rfl (Nat.le_of_ble_eq_true rfl) dX0_takeNumber_152 (fun r20 m19 => ?_)
    refine r_ifeqB (tgt := 243) C dX0_takeNumber_155 (by decide) ?_ ?_
    · exact r_return C dX0_takeNumber_243
    refine r_aload_n C dX0_takeNumber_158 rfl rfl ?_
    refine r_aload_n C dX0_takeNumber_159 rfl rfl ?_
    refine r_get (v := .inl (m19 0 0 3)) C fl_X0_60 dX0_takeNumber_160 rfl ?_
    refine r_put C fl_X0_88 rfl rfl rfl dX0_takeNumber_163 (fun m21 => ?_)
    refine r_aload_n C dX0_takeNumber_166 rfl rfl ?_
    refine r_bipush (v := 7) C dX0_takeNumber_167 (by decide) ?_
    refine r_put C fl_X0_19 rfl rfl rfl dX0_takeNumber_169 (fun m22 => ?_)
    refine r_goto (tgt := 243) C dX0_takeNumber_172 (by decide) ?_
    exact r_return C dX0_takeNumber_243
  refine r_peel (v := 7) ?_ (fun h7 => ?_)
  · refine r_tsw (x := 7) (off := 230) (tgt := 234) C dX0_takeNumber_4 (by decide) (by decide) (by decide) (by decide) ?_
    exact r_weak (lv' := [some (.inr (0, 0)), none]) ⟨rfl, trivial⟩ (hj234 _)
  refine r_peel (v := 8) ?_ (fun h8 => ?_)
  · refine r_tsw (x := 8) (off := 171) (tgt := 175) C dX0_takeNumber_4 (by decide) (by decide) (by decide) (by decide) ?_
    refine r_aload_n C dX0_takeNumber_175 rfl rfl ?_
    refine r_iconst (v := 0) C dX0_takeNumber_176 (by decide) ?_
    refine r_sipush (v := 9999) C dX0_takeNumber_177 (by decide) ?_
    refine r_invB (t := 0) (kb := 0) (As := [.inl 0, .inl 9999]) (st := []) C il_X0_84 co_X0_isWithin (by decide) rfl (c_X0_isWithin 0 9999 m) (by decide) (by decide) rfl rfl (Nat.le_of_ble_eq_true rfl) dX0_takeNumber_180 (fun r24 m23 => ?_)
    refine r_ifeqB (tgt := 243) C dX0_takeNumber_183 (by decide) ?_ ?_
    · exact r_return C dX0_takeNumber_243
    refine r_aload_n C dX0_takeNumber_186 rfl rfl ?_
    refine r_aload_n C dX0_takeNumber_187 rfl rfl ?_
    refine r_aload_n C dX0_takeNumber_188 rfl rfl ?_
    refine r_get (v := .inl (m23 0 0 5)) C fl_X0_88 dX0_takeNumber_189 rfl ?_
    refine r_aload_n C dX0_takeNumber_192 rfl rfl ?_
    refine r_get (v := .inl (m23 0 0 3)) C fl_X0_60 dX0_takeNumber_193 rfl ?_
    refine r_invU (t := 0) (kb := 0) (As := [.inr (5, o1), .inl (m23 0 0 5), .inl (m23 0 0 3)]) (st := []) C il_X0_91 co_X0_emit (by decide) rfl (c_X0_emit o1 (m23 0 0 5) (m23 0 0 3) m23) (by decide) (by decide) rfl rfl (Nat.le_of_ble_eq_true rfl) dX0_takeNumber_196 (fun r26 m25 => ?_)
    refine r_aload_n C dX0_takeNumber_199 rfl rfl ?_
    refine r_iconst (v := 0) C dX0_takeNumber_200 (by decide) ?_
    refine r_put C fl_X0_19 rfl rfl rfl dX0_takeNumber_201 (fun m27 => ?_)
    refine r_goto (tgt := 243) C dX0_takeNumber_204 (by decide) ?_
    exact r_return C dX0_takeNumber_243
  refine r_peel (v := 9) ?_ (fun h9 => ?_)
  · refine r_tsw (x := 9) (off := 203) (tgt := 207) C dX0_takeNumber_4 (by decide) (by decide) (by decide) (by decide) ?_
    refine r_aload_n C dX0_takeNumber_207 rfl rfl ?_
    refine r_iconst (v := 1) C dX0_takeNumber_208 (by decide) ?_
    refine r_bipush (v := 9) C dX0_takeNumber_209 (by decide) ?_
    refine r_invB (t := 0) (kb := 0) (As := [.inl 1, .inl 9]) (st := []) C il_X0_84 co_X0_isWithin (by decide) rfl (c_X0_isWithin 1 9 m) (by decide) (by decide) rfl rfl (Nat.le_of_ble_eq_true rfl) dX0_takeNumber_211 (fun r29 m28 => ?_)
    refine r_ifeqB (tgt := 243) C dX0_takeNumber_214 (by decide) ?_ ?_
    · exact r_return C dX0_takeNumber_243
    refine r_aload_n C dX0_takeNumber_217 rfl rfl ?_
    refine r_aload_n C dX0_takeNumber_218 rfl rfl ?_
    refine r_aload_n C dX0_takeNumber_219 rfl rfl ?_
    refine r_get (v := .inl (m28 0 0 3)) C fl_X0_60 dX0_takeNumber_220 rfl ?_
    refine r_invU (t := 0) (kb := 0) (As := [.inr (5, o1), .inl (m28 0 0 3)]) (st := []) C il_X0_102 co_X0_closeLoop (by decide) rfl (c_X0_closeLoop o1 (m28 0 0 3) m28) (by decide) (by decide) rfl rfl (Nat.le_of_ble_eq_true rfl) dX0_takeNumber_223 (fun r31 m30 => ?_)
    refine r_aload_n C dX0_takeNumber_226 rfl rfl ?_
    refine r_iconst (v := 0) C dX0_takeNumber_227 (by decide) ?_
    refine r_put C fl_X0_19 rfl rfl rfl dX0_takeNumber_228 (fun m32 => ?_)
    refine r_goto (tgt := 243) C dX0_takeNumber_231 (by decide) ?_
    exact r_return C dX0_takeNumber_243
  refine r_tswO (tgt := 234) C dX0_takeNumber_4 (by have e1 := lv_neT h1 (a := 1) (by decide); have e2 := lv_neT h2 (a := 2) (by decide); have e3 := lv_neT h3 (a := 3) (by decide); have e4 := lv_neT h4 (a := 4) (by decide); have e5 := lv_neT h5 (a := 5) (by decide); have e6 := lv_neT h6 (a := 6) (by decide); have e7 := lv_neT h7 (a := 7) (by decide); have e8 := lv_neT h8 (a := 8) (by decide); have e9 := lv_neT h9 (a := 9) (by decide); omega) (by decide) ?_
  exact r_weak (lv' := [some (.inr (0, 0)), none]) ⟨rfl, trivial⟩ (hj234 _)
theorem dX0_endNumber_0 : decode cX0_endNumber 0 = .ok (.aload_n 0, 1) := by decide +kernel
theorem dX0_endNumber_1 : decode cX0_endNumber 1 = .ok (.getfield 32, 3) := by decide +kernel
theorem dX0_endNumber_4 : decode cX0_endNumber 4 = .ok (.iconst (-1), 1) := by decide +kernel
theorem dX0_endNumber_5 : decode cX0_endNumber 5 = .ok (.if_icmp .eq 13, 3) := by decide +kernel
theorem dX0_endNumber_8 : decode cX0_endNumber 8 = .ok (.aload_n 0, 1) := by decide +kernel
theorem dX0_endNumber_9 : decode cX0_endNumber 9 = .ok (.aload_n 1, 1) := by decide +kernel
theorem dX0_endNumber_10 : decode cX0_endNumber 10 = .ok (.invokevirtual 70, 3) := by decide +kernel
theorem dX0_endNumber_13 : decode cX0_endNumber 13 = .ok (.aload_n 0, 1) := by decide +kernel
theorem dX0_endNumber_14 : decode cX0_endNumber 14 = .ok (.iconst (-1), 1) := by decide +kernel
theorem dX0_endNumber_15 : decode cX0_endNumber 15 = .ok (.putfield 32, 3) := by decide +kernel
theorem dX0_endNumber_18 : decode cX0_endNumber 18 = .ok (.return_, 1) := by decide +kernel
def X0_endNumber (o1 : Nat) (m : gM) : Option (Unit × gM) :=
  if (m 0 0 4) = (-1) then (some ((), m)) else (gCall (X0_takeNumber o1 m) (fun (r2 : Unit) (m1 : gM) => gSet m1 0 0 4 (-1) (fun (m3 : gM) => some ((), m3))))
set_option maxRecDepth 100000 in
set_option maxHeartbeats 4000000 in
theorem c_X0_endNumber (o1 : Nat) (m : gM) : gCon eU yX0_endNumber cX0_endNumber 2 none 4 [.inr (0, 0), .inr (5, o1)] m (X0_endNumber o1 m) := by
  refine gCon.of (lv := [some (.inr (0, 0)), some (.inr (5, o1))]) (by decide +kernel) (Nat.le_of_ble_eq_true rfl) rfl (fun X C => ?_)
  unfold X0_endNumber
  refine r_aload_n C dX0_endNumber_0 rfl rfl ?_
  refine r_get (v := .inl (m 0 0 4)) C fl_X0_32 dX0_endNumber_1 rfl ?_
  refine r_iconst (v := (-1)) C dX0_endNumber_4 (by decide) ?_
  refine r_icmp_eq (tgt := 18) C dX0_endNumber_5 (by decide) ?_ ?_
  · exact r_return C dX0_endNumber_18
  refine r_aload_n C dX0_endNumber_8 rfl rfl ?_
  refine r_aload_n C dX0_endNumber_9 rfl rfl ?_
  refine r_invU (t := 0) (kb := 0) (As := [.inr (5, o1)]) (st := []) C il_X0_70 co_X0_takeNumber (by decide) rfl (c_X0_takeNumber o1 m) (by decide) (by decide) rfl rfl (Nat.le_of_ble_eq_true rfl) dX0_endNumber_10 (fun r2 m1 => ?_)
  refine r_aload_n C dX0_endNumber_13 rfl rfl ?_
  refine r_iconst (v := (-1)) C dX0_endNumber_14 (by decide) ?_
  refine r_put C fl_X0_32 rfl rfl rfl dX0_endNumber_15 (fun m3 => ?_)
  exact r_return C dX0_endNumber_18
theorem dX0_mayItemCome_0 : decode cX0_mayItemCome 0 = .ok (.aload_n 0, 1) := by decide +kernel
theorem dX0_mayItemCome_1 : decode cX0_mayItemCome 1 = .ok (.getfield 19, 3) := by decide +kernel
theorem dX0_mayItemCome_4 : decode cX0_mayItemCome 4 = .ok (.ifCond .eq 11, 3) := by decide +kernel
theorem dX0_mayItemCome_7 : decode cX0_mayItemCome 7 = .ok (.aload_n 0, 1) := by decide +kernel
theorem dX0_mayItemCome_8 : decode cX0_mayItemCome 8 = .ok (.getfield 19, 3) := by decide +kernel
theorem dX0_mayItemCome_11 : decode cX0_mayItemCome 11 = .ok (.iconst 2, 1) := by decide +kernel
theorem dX0_mayItemCome_12 : decode cX0_mayItemCome 12 = .ok (.if_icmp .ne 7, 3) := by decide +kernel
theorem dX0_mayItemCome_15 : decode cX0_mayItemCome 15 = .ok (.iconst 1, 1) := by decide +kernel
theorem dX0_mayItemCome_16 : decode cX0_mayItemCome 16 = .ok (.goto 4, 3) := by decide +kernel
theorem dX0_mayItemCome_19 : decode cX0_mayItemCome 19 = .ok (.iconst 0, 1) := by decide +kernel
theorem dX0_mayItemCome_20 : decode cX0_mayItemCome 20 = .ok (.ireturn, 1) := by decide +kernel
def X0_mayItemCome (m : gM) : Option (Bool × gM) :=
  if (m 0 0 2) = 0 then (some (true, m)) else (if (m 0 0 2) = 2 then (some (true, m)) else (some (false, m)))
set_option maxRecDepth 100000 in
set_option maxHeartbeats 4000000 in
theorem c_X0_mayItemCome (m : gM) : gCon eB yX0_mayItemCome cX0_mayItemCome 1 (some .boolean) 0 [.inr (0, 0)] m (X0_mayItemCome m) := by
  refine gCon.of (lv := [some (.inr (0, 0))]) (by decide +kernel) (Nat.le_of_ble_eq_true rfl) rfl (fun X C => ?_)
  unfold X0_mayItemCome
  refine r_aload_n C dX0_mayItemCome_0 rfl rfl ?_
  refine r_get (v := .inl (m 0 0 2)) C fl_X0_19 dX0_mayItemCome_1 rfl ?_
  refine r_if_eq (tgt := 15) C dX0_mayItemCome_4 (by decide) ?_ ?_
  · refine r_iconst (v := 1) C dX0_mayItemCome_15 (by decide) ?_
    refine r_goto (tgt := 20) C dX0_mayItemCome_16 (by decide) ?_
    exact r_zret1 C dX0_mayItemCome_20
  refine r_aload_n C dX0_mayItemCome_7 rfl rfl ?_
  refine r_get (v := .inl (m 0 0 2)) C fl_X0_19 dX0_mayItemCome_8 rfl ?_
  refine r_iconst (v := 2) C dX0_mayItemCome_11 (by decide) ?_
  refine r_icmp_ne (tgt := 19) C dX0_mayItemCome_12 (by decide) ?_ ?_
  · refine r_iconst (v := 0) C dX0_mayItemCome_19 (by decide) ?_
    exact r_zret0 C dX0_mayItemCome_20
  refine r_iconst (v := 1) C dX0_mayItemCome_15 (by decide) ?_
  refine r_goto (tgt := 20) C dX0_mayItemCome_16 (by decide) ?_
  exact r_zret1 C dX0_mayItemCome_20
theorem dX0_openLoop_0 : decode cX0_openLoop 0 = .ok (.aload_n 0, 1) := by decide +kernel
theorem dX0_openLoop_1 : decode cX0_openLoop 1 = .ok (.getfield 15, 3) := by decide +kernel
theorem dX0_openLoop_4 : decode cX0_openLoop 4 = .ok (.iconst 4, 1) := by decide +kernel
theorem dX0_openLoop_5 : decode cX0_openLoop 5 = .ok (.if_icmp .lt 10, 3) := by decide +kernel
theorem dX0_openLoop_8 : decode cX0_openLoop 8 = .ok (.aload_n 0, 1) := by decide +kernel
theorem dX0_openLoop_9 : decode cX0_openLoop 9 = .ok (.iconst 3, 1) := by decide +kernel
theorem dX0_openLoop_10 : decode cX0_openLoop 10 = .ok (.iload_n 1, 1) := by decide +kernel
theorem dX0_openLoop_11 : decode cX0_openLoop 11 = .ok (.invokevirtual 77, 3) := by decide +kernel
theorem dX0_openLoop_14 : decode cX0_openLoop 14 = .ok (.return_, 1) := by decide +kernel
theorem dX0_openLoop_15 : decode cX0_openLoop 15 = .ok (.aload_n 0, 1) := by decide +kernel
theorem dX0_openLoop_16 : decode cX0_openLoop 16 = .ok (.getfield 11, 3) := by decide +kernel
theorem dX0_openLoop_19 : decode cX0_openLoop 19 = .ok (.aload_n 0, 1) := by decide +kernel
theorem dX0_openLoop_20 : decode cX0_openLoop 20 = .ok (.getfield 15, 3) := by decide +kernel
theorem dX0_openLoop_23 : decode cX0_openLoop 23 = .ok (.aload_n 2, 1) := by decide +kernel
theorem dX0_openLoop_24 : decode cX0_openLoop 24 = .ok (.getfield 35, 3) := by decide +kernel
theorem dX0_openLoop_27 : decode cX0_openLoop 27 = .ok (.iastore, 1) := by decide +kernel
theorem dX0_openLoop_28 : decode cX0_openLoop 28 = .ok (.aload_n 0, 1) := by decide +kernel
theorem dX0_openLoop_29 : decode cX0_openLoop 29 = .ok (.dup, 1) := by decide +kernel
theorem dX0_openLoop_30 : decode cX0_openLoop 30 = .ok (.getfield 15, 3) := by decide +kernel
theorem dX0_openLoop_33 : decode cX0_openLoop 33 = .ok (.iconst 1, 1) := by decide +kernel
theorem dX0_openLoop_34 : decode cX0_openLoop 34 = .ok (.iadd, 1) := by decide +kernel
theorem dX0_openLoop_35 : decode cX0_openLoop 35 = .ok (.putfield 15, 3) := by decide +kernel
theorem dX0_openLoop_38 : decode cX0_openLoop 38 = .ok (.aload_n 0, 1) := by decide +kernel
theorem dX0_openLoop_39 : decode cX0_openLoop 39 = .ok (.iconst 0, 1) := by decide +kernel
theorem dX0_openLoop_40 : decode cX0_openLoop 40 = .ok (.putfield 19, 3) := by decide +kernel
theorem dX0_openLoop_43 : decode cX0_openLoop 43 = .ok (.return_, 1) := by decide +kernel
def X0_openLoop (a1 : Int32) (o2 : Nat) (m : gM) : Option (Unit × gM) :=
  if (m 0 0 1) < 4 then (gPut m 16 0 (m 0 0 1) (m 5 o2 2) (fun (m1 : gM) => gLet ((m1 0 0 1) + 1) (fun (x2 : Int32) => gSet m1 0 0 1 x2 (fun (m3 : gM) => gSet m3 0 0 2 0 (fun (m4 : gM) => some ((), m4)))))) else (gCall (X0_fail 3 a1 m) (fun (r6 : Unit) (m5 : gM) => some ((), m5)))
set_option maxRecDepth 100000 in
set_option maxHeartbeats 4000000 in
theorem c_X0_openLoop (a1 : Int32) (o2 : Nat) (m : gM) : gCon eU yX0_openLoop cX0_openLoop 3 none 1 [.inr (0, 0), .inl a1, .inr (5, o2)] m (X0_openLoop a1 o2 m) := by
  refine gCon.of (lv := [some (.inr (0, 0)), some (.inl a1), some (.inr (5, o2))]) (by decide +kernel) (Nat.le_of_ble_eq_true rfl) rfl (fun X C => ?_)
  unfold X0_openLoop
  refine r_aload_n C dX0_openLoop_0 rfl rfl ?_
  refine r_get (v := .inl (m 0 0 1)) C fl_X0_15 dX0_openLoop_1 rfl ?_
  refine r_iconst (v := 4) C dX0_openLoop_4 (by decide) ?_
  refine r_icmp_lt (tgt := 15) C dX0_openLoop_5 (by decide) ?_ ?_
  · refine r_aload_n C dX0_openLoop_15 rfl rfl ?_
    refine r_get (v := .inr (16, 0)) C fl_X0_11 dX0_openLoop_16 rfl ?_
    refine r_aload_n C dX0_openLoop_19 rfl rfl ?_
    refine r_get (v := .inl (m 0 0 1)) C fl_X0_15 dX0_openLoop_20 rfl ?_
    refine r_aload_n C dX0_openLoop_23 rfl rfl ?_
    refine r_get (v := .inl (m 5 o2 2)) C fl_X0_35 dX0_openLoop_24 rfl ?_
    refine r_iast C rfl dX0_openLoop_27 (fun m1 => ?_)
    refine r_aload_n C dX0_openLoop_28 rfl rfl ?_
    refine r_dup C dX0_openLoop_29 ?_
    refine r_get (v := .inl (m1 0 0 1)) C fl_X0_15 dX0_openLoop_30 rfl ?_
    refine r_iconst (v := 1) C dX0_openLoop_33 (by decide) ?_
    refine r_iadd C dX0_openLoop_34 ?_
    refine r_let (fun x2 => ?_)
    refine r_put C fl_X0_15 rfl rfl rfl dX0_openLoop_35 (fun m3 => ?_)
    refine r_aload_n C dX0_openLoop_38 rfl rfl ?_
    refine r_iconst (v := 0) C dX0_openLoop_39 (by decide) ?_
    refine r_put C fl_X0_19 rfl rfl rfl dX0_openLoop_40 (fun m4 => ?_)
    exact r_return C dX0_openLoop_43
  refine r_aload_n C dX0_openLoop_8 rfl rfl ?_
  refine r_iconst (v := 3) C dX0_openLoop_9 (by decide) ?_
  refine r_iload_n C dX0_openLoop_10 rfl rfl ?_
  refine r_invU (t := 0) (kb := 0) (As := [.inl 3, .inl a1]) (st := []) C il_X0_77 co_X0_fail (by decide) rfl (c_X0_fail 3 a1 m) (by decide) (by decide) rfl rfl (Nat.le_of_ble_eq_true rfl) dX0_openLoop_11 (fun r6 m5 => ?_)
  exact r_return C dX0_openLoop_14
theorem dX0_takeSign_0 : decode cX0_takeSign 0 = .ok (.iload_n 1, 1) := by decide +kernel
theorem dX0_takeSign_1 : decode cX0_takeSign 1 = .ok (.bipush 32, 2) := by decide +kernel
theorem dX0_takeSign_3 : decode cX0_takeSign 3 = .ok (.if_icmp .eq 9, 3) := by decide +kernel
theorem dX0_takeSign_6 : decode cX0_takeSign 6 = .ok (.iload_n 1, 1) := by decide +kernel
theorem dX0_takeSign_7 : decode cX0_takeSign 7 = .ok (.bipush 10, 2) := by decide +kernel
theorem dX0_takeSign_9 : decode cX0_takeSign 9 = .ok (.if_icmp .ne 4, 3) := by decide +kernel
theorem dX0_takeSign_12 : decode cX0_takeSign 12 = .ok (.return_, 1) := by decide +kernel
theorem dX0_takeSign_13 : decode cX0_takeSign 13 = .ok (.iload_n 1, 1) := by decide +kernel
theorem dX0_takeSign_14 : decode cX0_takeSign 14 = .ok (.bipush 40, 2) := by decide +kernel
theorem dX0_takeSign_16 : decode cX0_takeSign 16 = .ok (.if_icmp .ne 19, 3) := by decide +kernel
theorem dX0_takeSign_19 : decode cX0_takeSign 19 = .ok (.aload_n 0, 1) := by decide +kernel
theorem dX0_takeSign_20 : decode cX0_takeSign 20 = .ok (.invokevirtual 73, 3) := by decide +kernel
theorem dX0_takeSign_23 : decode cX0_takeSign 23 = .ok (.ifCond .eq 12, 3) := by decide +kernel
theorem dX0_takeSign_26 : decode cX0_takeSign 26 = .ok (.aload_n 0, 1) := by decide +kernel
theorem dX0_takeSign_27 : decode cX0_takeSign 27 = .ok (.iload_n 2, 1) := by decide +kernel
theorem dX0_takeSign_28 : decode cX0_takeSign 28 = .ok (.aload_n 3, 1) := by decide +kernel
theorem dX0_takeSign_29 : decode cX0_takeSign 29 = .ok (.invokevirtual 80, 3) := by decide +kernel
theorem dX0_takeSign_32 : decode cX0_takeSign 32 = .ok (.goto 149, 3) := by decide +kernel
theorem dX0_takeSign_35 : decode cX0_takeSign 35 = .ok (.iload_n 1, 1) := by decide +kernel
theorem dX0_takeSign_36 : decode cX0_takeSign 36 = .ok (.bipush 41, 2) := by decide +kernel
theorem dX0_takeSign_38 : decode cX0_takeSign 38 = .ok (.if_icmp .ne 26, 3) := by decide +kernel
theorem dX0_takeSign_41 : decode cX0_takeSign 41 = .ok (.aload_n 0, 1) := by decide +kernel
theorem dX0_takeSign_42 : decode cX0_takeSign 42 = .ok (.invokevirtual 73, 3) := by decide +kernel
theorem dX0_takeSign_45 : decode cX0_takeSign 45 = .ok (.ifCond .eq 19, 3) := by decide +kernel
theorem dX0_takeSign_48 : decode cX0_takeSign 48 = .ok (.aload_n 0, 1) := by decide +kernel
theorem dX0_takeSign_49 : decode cX0_takeSign 49 = .ok (.getfield 15, 3) := by decide +kernel
theorem dX0_takeSign_52 : decode cX0_takeSign 52 = .ok (.ifCond .le 12, 3) := by decide +kernel
theorem dX0_takeSign_55 : decode cX0_takeSign 55 = .ok (.aload_n 0, 1) := by decide +kernel
theorem dX0_takeSign_56 : decode cX0_takeSign 56 = .ok (.bipush 9, 2) := by decide +kernel
theorem dX0_takeSign_58 : decode cX0_takeSign 58 = .ok (.putfield 19, 3) := by decide +kernel
theorem dX0_takeSign_61 : decode cX0_takeSign 61 = .ok (.goto 120, 3) := by decide +kernel
theorem dX0_takeSign_64 : decode cX0_takeSign 64 = .ok (.iload_n 1, 1) := by decide +kernel
theorem dX0_takeSign_65 : decode cX0_takeSign 65 = .ok (.bipush 114, 2) := by decide +kernel
theorem dX0_takeSign_67 : decode cX0_takeSign 67 = .ok (.if_icmp .ne 18, 3) := by decide +kernel
theorem dX0_takeSign_70 : decode cX0_takeSign 70 = .ok (.aload_n 0, 1) := by decide +kernel
theorem dX0_takeSign_71 : decode cX0_takeSign 71 = .ok (.invokevirtual 73, 3) := by decide +kernel
theorem dX0_takeSign_74 : decode cX0_takeSign 74 = .ok (.ifCond .eq 11, 3) := by decide +kernel
theorem dX0_takeSign_77 : decode cX0_takeSign 77 = .ok (.aload_n 0, 1) := by decide +kernel
theorem dX0_takeSign_78 : decode cX0_takeSign 78 = .ok (.iconst 1, 1) := by decide +kernel
theorem dX0_takeSign_79 : decode cX0_takeSign 79 = .ok (.putfield 19, 3) := by decide +kernel
theorem dX0_takeSign_82 : decode cX0_takeSign 82 = .ok (.goto 99, 3) := by decide +kernel
theorem dX0_takeSign_85 : decode cX0_takeSign 85 = .ok (.iload_n 1, 1) := by decide +kernel
theorem dX0_takeSign_86 : decode cX0_takeSign 86 = .ok (.bipush 119, 2) := by decide +kernel
theorem dX0_takeSign_88 : decode cX0_takeSign 88 = .ok (.if_icmp .ne 19, 3) := by decide +kernel
theorem dX0_takeSign_91 : decode cX0_takeSign 91 = .ok (.aload_n 0, 1) := by decide +kernel
theorem dX0_takeSign_92 : decode cX0_takeSign 92 = .ok (.invokevirtual 73, 3) := by decide +kernel
theorem dX0_takeSign_95 : decode cX0_takeSign 95 = .ok (.ifCond .eq 12, 3) := by decide +kernel
theorem dX0_takeSign_98 : decode cX0_takeSign 98 = .ok (.aload_n 0, 1) := by decide +kernel
theorem dX0_takeSign_99 : decode cX0_takeSign 99 = .ok (.bipush 6, 2) := by decide +kernel
theorem dX0_takeSign_101 : decode cX0_takeSign 101 = .ok (.putfield 19, 3) := by decide +kernel
theorem dX0_takeSign_104 : decode cX0_takeSign 104 = .ok (.goto 77, 3) := by decide +kernel
theorem dX0_takeSign_107 : decode cX0_takeSign 107 = .ok (.iload_n 1, 1) := by decide +kernel
theorem dX0_takeSign_108 : decode cX0_takeSign 108 = .ok (.bipush 43, 2) := by decide +kernel
theorem dX0_takeSign_110 : decode cX0_takeSign 110 = .ok (.if_icmp .ne 19, 3) := by decide +kernel
theorem dX0_takeSign_113 : decode cX0_takeSign 113 = .ok (.aload_n 0, 1) := by decide +kernel
theorem dX0_takeSign_114 : decode cX0_takeSign 114 = .ok (.getfield 19, 3) := by decide +kernel
theorem dX0_takeSign_117 : decode cX0_takeSign 117 = .ok (.iconst 2, 1) := by decide +kernel
theorem dX0_takeSign_118 : decode cX0_takeSign 118 = .ok (.if_icmp .ne 11, 3) := by decide +kernel
theorem dX0_takeSign_121 : decode cX0_takeSign 121 = .ok (.aload_n 0, 1) := by decide +kernel
theorem dX0_takeSign_122 : decode cX0_takeSign 122 = .ok (.iconst 3, 1) := by decide +kernel
theorem dX0_takeSign_123 : decode cX0_takeSign 123 = .ok (.putfield 19, 3) := by decide +kernel
theorem dX0_takeSign_126 : decode cX0_takeSign 126 = .ok (.goto 55, 3) := by decide +kernel
theorem dX0_takeSign_129 : decode cX0_takeSign 129 = .ok (.iload_n 1, 1) := by decide +kernel
theorem dX0_takeSign_130 : decode cX0_takeSign 130 = .ok (.bipush 42, 2) := by decide +kernel
theorem dX0_takeSign_132 : decode cX0_takeSign 132 = .ok (.if_icmp .ne 19, 3) := by decide +kernel
theorem dX0_takeSign_135 : decode cX0_takeSign 135 = .ok (.aload_n 0, 1) := by decide +kernel
theorem dX0_takeSign_136 : decode cX0_takeSign 136 = .ok (.getfield 19, 3) := by decide +kernel
theorem dX0_takeSign_139 : decode cX0_takeSign 139 = .ok (.iconst 4, 1) := by decide +kernel
theorem dX0_takeSign_140 : decode cX0_takeSign 140 = .ok (.if_icmp .ne 11, 3) := by decide +kernel
theorem dX0_takeSign_143 : decode cX0_takeSign 143 = .ok (.aload_n 0, 1) := by decide +kernel
theorem dX0_takeSign_144 : decode cX0_takeSign 144 = .ok (.iconst 5, 1) := by decide +kernel
theorem dX0_takeSign_145 : decode cX0_takeSign 145 = .ok (.putfield 19, 3) := by decide +kernel
theorem dX0_takeSign_148 : decode cX0_takeSign 148 = .ok (.goto 33, 3) := by decide +kernel
theorem dX0_takeSign_151 : decode cX0_takeSign 151 = .ok (.iload_n 1, 1) := by decide +kernel
theorem dX0_takeSign_152 : decode cX0_takeSign 152 = .ok (.bipush 58, 2) := by decide +kernel
theorem dX0_takeSign_154 : decode cX0_takeSign 154 = .ok (.if_icmp .ne 21, 3) := by decide +kernel
theorem dX0_takeSign_157 : decode cX0_takeSign 157 = .ok (.aload_n 0, 1) := by decide +kernel
theorem dX0_takeSign_158 : decode cX0_takeSign 158 = .ok (.getfield 19, 3) := by decide +kernel
theorem dX0_takeSign_161 : decode cX0_takeSign 161 = .ok (.bipush 7, 2) := by decide +kernel
theorem dX0_takeSign_163 : decode cX0_takeSign 163 = .ok (.if_icmp .ne 12, 3) := by decide +kernel
theorem dX0_takeSign_166 : decode cX0_takeSign 166 = .ok (.aload_n 0, 1) := by decide +kernel
theorem dX0_takeSign_167 : decode cX0_takeSign 167 = .ok (.bipush 8, 2) := by decide +kernel
theorem dX0_takeSign_169 : decode cX0_takeSign 169 = .ok (.putfield 19, 3) := by decide +kernel
theorem dX0_takeSign_172 : decode cX0_takeSign 172 = .ok (.goto 9, 3) := by decide +kernel
theorem dX0_takeSign_175 : decode cX0_takeSign 175 = .ok (.aload_n 0, 1) := by decide +kernel
theorem dX0_takeSign_176 : decode cX0_takeSign 176 = .ok (.iconst 1, 1) := by decide +kernel
theorem dX0_takeSign_177 : decode cX0_takeSign 177 = .ok (.iload_n 2, 1) := by decide +kernel
theorem dX0_takeSign_178 : decode cX0_takeSign 178 = .ok (.invokevirtual 77, 3) := by decide +kernel
theorem dX0_takeSign_181 : decode cX0_takeSign 181 = .ok (.return_, 1) := by decide +kernel
def X0_takeSign (a1 : Int32) (a2 : Int32) (o3 : Nat) (m : gM) : Option (Unit × gM) :=
  if a1 = 32 then (some ((), m)) else (if a1 = 10 then (some ((), m)) else (gJ0 (fun (m1 : gM) => gJ0 (fun (m2 : gM) => gJ0 (fun (m3 : gM) => gJ0 (fun (m4 : gM) => gJ0 (fun (m5 : gM) => gJ0 (fun (m6 : gM) => gJ0 (fun (m7 : gM) => gCall (X0_fail 1 a2 m7) (fun (r9 : Unit) (m8 : gM) => some ((), m8))) (fun (j175 : gM → Option (Unit × gM)) => if a1 = 58 then (if (m6 0 0 2) = 7 then (gSet m6 0 0 2 8 (fun (m10 : gM) => some ((), m10))) else (j175 m6)) else (j175 m6))) (fun (j151 : gM → Option (Unit × gM)) => if a1 = 42 then (if (m5 0 0 2) = 4 then (gSet m5 0 0 2 5 (fun (m11 : gM) => some ((), m11))) else (j151 m5)) else (j151 m5))) (fun (j129 : gM → Option (Unit × gM)) => if a1 = 43 then (if (m4 0 0 2) = 2 then (gSet m4 0 0 2 3 (fun (m12 : gM) => some ((), m12))) else (j129 m4)) else (j129 m4))) (fun (j107 : gM → Option (Unit × gM)) => if a1 = 119 then (gCall (X0_mayItemCome m3) (fun (r14 : Bool) (m13 : gM) => if r14 = true then (gSet m13 0 0 2 6 (fun (m15 : gM) => some ((), m15))) else (j107 m13))) else (j107 m3))) (fun (j85 : gM → Option (Unit × gM)) => if a1 = 114 then (gCall (X0_mayItemCome m2) (fun (r17 : Bool) (m16 : gM) => if r17 = true then (gSet m16 0 0 2 1 (fun (m18 : gM) => some ((), m18))) else (j85 m16))) else (j85 m2))) (fun (j64 : gM → Option (Unit × gM)) => if a1 = 41 then (gCall (X0_mayItemCome m1) (fun (r20 : Bool) (m19 : gM) => if r20 = true then (if (m19 0 0 1) ≤ 0 then (j64 m19) else (gSet m19 0 0 2 9 (fun (m21 : gM) => some ((), m21)))) else (j64 m19))) else (j64 m1))) (fun (j35 : gM → Option (Unit × gM)) => if a1 = 40 then (gCall (X0_mayItemCome m) (fun (r23 : Bool) (m22 : gM) => if r23 = true then (gCall (X0_openLoop a2 o3 m22) (fun (r25 : Unit) (m24 : gM) => some ((), m24))) else (j35 m22))) else (j35 m))))
set_option maxRecDepth 100000 in
set_option maxHeartbeats 4000000 in
theorem c_X0_takeSign (a1 : Int32) (a2 : Int32) (o3 : Nat) (m : gM) : gCon eU yX0_takeSign cX0_takeSign 4 none 2 [.inr (0, 0), .inl a1, .inl a2, .inr (5, o3)] m (X0_takeSign a1 a2 o3 m) := by
  refine gCon.of (lv := [some (.inr (0, 0)), some (.inl a1), some (.inl a2), some (.inr (5, o3))]) (by decide +kernel) (Nat.le_of_ble_eq_true rfl) rfl (fun X C => ?_)
  unfold X0_takeSign
  refine r_iload_n C dX0_takeSign_0 rfl rfl ?_
  refine r_bipush (v := 32) C dX0_takeSign_1 (by decide) ?_
  refine r_icmp_eq (tgt := 12) C dX0_takeSign_3 (by decide) ?_ ?_
  · exact r_return C dX0_takeSign_12
  refine r_iload_n C dX0_takeSign_6 rfl rfl ?_
  refine r_bipush (v := 10) C dX0_takeSign_7 (by decide) ?_
  refine r_icmp_ne (tgt := 13) C dX0_takeSign_9 (by decide) ?_ ?_
  · refine r_iload_n C dX0_takeSign_13 rfl rfl ?_
    refine r_bipush (v := 40) C dX0_takeSign_14 (by decide) ?_
    refine r_j0 35 [some (.inr (0, 0)), some (.inl a1), some (.inl a2), none] [] (fun m1 => ?_) (fun j35 hj35 => ?_)
    · refine r_iload_n C dX0_takeSign_35 rfl rfl ?_
      refine r_bipush (v := 41) C dX0_takeSign_36 (by decide) ?_
      refine r_j0 64 [some (.inr (0, 0)), some (.inl a1), some (.inl a2), none] [] (fun m2 => ?_) (fun j64 hj64 => ?_)
      · refine r_iload_n C dX0_takeSign_64 rfl rfl ?_
        refine r_bipush (v := 114) C dX0_takeSign_65 (by decide) ?_
        refine r_j0 85 [some (.inr (0, 0)), some (.inl a1), some (.inl a2), none] [] (fun m3 => ?_) (fun j85 hj85 => ?_)
        · refine r_iload_n C dX0_takeSign_85 rfl rfl ?_
          refine r_bipush (v := 119) C dX0_takeSign_86 (by decide) ?_
          refine r_j0 107 [some (.inr (0, 0)), some (.inl a1), some (.inl a2), none] [] (fun m4 => ?_) (fun j107 hj107 => ?_)
          · refine r_iload_n C dX0_takeSign_107 rfl rfl ?_
            refine r_bipush (v := 43) C dX0_takeSign_108 (by decide) ?_
            refine r_j0 129 [some (.inr (0, 0)), some (.inl a1), some (.inl a2), none] [] (fun m5 => ?_) (fun j129 hj129 => ?_)
            · refine r_iload_n C dX0_takeSign_129 rfl rfl ?_
              refine r_bipush (v := 42) C dX0_takeSign_130 (by decide) ?_
              refine r_j0 151 [some (.inr (0, 0)), some (.inl a1), some (.inl a2), none] [] (fun m6 => ?_) (fun j151 hj151 => ?_)
              · refine r_iload_n C dX0_takeSign_151 rfl rfl ?_
                refine r_bipush (v := 58) C dX0_takeSign_152 (by decide) ?_
                refine r_j0 175 [some (.inr (0, 0)), none, some (.inl a2), none] [] (fun m7 => ?_) (fun j175 hj175 => ?_)
                · refine r_aload_n C dX0_takeSign_175 rfl rfl ?_
                  refine r_iconst (v := 1) C dX0_takeSign_176 (by decide) ?_
                  refine r_iload_n C dX0_takeSign_177 rfl rfl ?_
                  refine r_invU (t := 0) (kb := 0) (As := [.inl 1, .inl a2]) (st := []) C il_X0_77 co_X0_fail (by decide) rfl (c_X0_fail 1 a2 m7) (by decide) (by decide) rfl rfl (Nat.le_of_ble_eq_true rfl) dX0_takeSign_178 (fun r9 m8 => ?_)
                  exact r_return C dX0_takeSign_181
                refine r_icmp_ne (tgt := 175) C dX0_takeSign_154 (by decide) ?_ ?_
                · exact r_weak (lv' := [some (.inr (0, 0)), none, some (.inl a2), none]) ⟨rfl, rfl, trivial⟩ (hj175 _)
                refine r_aload_n C dX0_takeSign_157 rfl rfl ?_
                refine r_get (v := .inl (m6 0 0 2)) C fl_X0_19 dX0_takeSign_158 rfl ?_
                refine r_bipush (v := 7) C dX0_takeSign_161 (by decide) ?_
                refine r_icmp_ne (tgt := 175) C dX0_takeSign_163 (by decide) ?_ ?_
                · exact r_weak (lv' := [some (.inr (0, 0)), none, some (.inl a2), none]) ⟨rfl, rfl, trivial⟩ (hj175 _)
                refine r_aload_n C dX0_takeSign_166 rfl rfl ?_
                refine r_bipush (v := 8) C dX0_takeSign_167 (by decide) ?_
                refine r_put C fl_X0_19 rfl rfl rfl dX0_takeSign_169 (fun m10 => ?_)
                refine r_goto (tgt := 181) C dX0_takeSign_172 (by decide) ?_
                exact r_return C dX0_takeSign_181
              refine r_icmp_ne (tgt := 151) C dX0_takeSign_132 (by decide) ?_ ?_
              · exact r_weak (lv' := [some (.inr (0, 0)), some (.inl a1), some (.inl a2), none]) ⟨rfl, rfl, rfl, trivial⟩ (hj151 _)
              refine r_aload_n C dX0_takeSign_135 rfl rfl ?_
              refine r_get (v := .inl (m5 0 0 2)) C fl_X0_19 dX0_takeSign_136 rfl ?_
              refine r_iconst (v := 4) C dX0_takeSign_139 (by decide) ?_
              refine r_icmp_ne (tgt := 151) C dX0_takeSign_140 (by decide) ?_ ?_
              · exact r_weak (lv' := [some (.inr (0, 0)), some (.inl a1), some (.inl a2), none]) ⟨rfl, rfl, rfl, trivial⟩ (hj151 _)
              refine r_aload_n C dX0_takeSign_143 rfl rfl ?_
              refine r_iconst (v := 5) C dX0_takeSign_144 (by decide) ?_
              refine r_put C fl_X0_19 rfl rfl rfl dX0_takeSign_145 (fun m11 => ?_)
              refine r_goto (tgt := 181) C dX0_takeSign_148 (by decide) ?_
              exact r_return C dX0_takeSign_181
            refine r_icmp_ne (tgt := 129) C dX0_takeSign_110 (by decide) ?_ ?_
            · exact r_weak (lv' := [some (.inr (0, 0)), some (.inl a1), some (.inl a2), none]) ⟨rfl, rfl, rfl, trivial⟩ (hj129 _)
            refine r_aload_n C dX0_takeSign_113 rfl rfl ?_
            refine r_get (v := .inl (m4 0 0 2)) C fl_X0_19 dX0_takeSign_114 rfl ?_
            refine r_iconst (v := 2) C dX0_takeSign_117 (by decide) ?_
            refine r_icmp_ne (tgt := 129) C dX0_takeSign_118 (by decide) ?_ ?_
            · exact r_weak (lv' := [some (.inr (0, 0)), some (.inl a1), some (.inl a2), none]) ⟨rfl, rfl, rfl, trivial⟩ (hj129 _)
            refine r_aload_n C dX0_takeSign_121 rfl rfl ?_
            refine r_iconst (v := 3) C dX0_takeSign_122 (by decide) ?_
            refine r_put C fl_X0_19 rfl rfl rfl dX0_takeSign_123 (fun m12 => ?_)
            refine r_goto (tgt := 181) C dX0_takeSign_126 (by decide) ?_
            exact r_return C dX0_takeSign_181
          refine r_icmp_ne (tgt := 107) C dX0_takeSign_88 (by decide) ?_ ?_
          · exact r_weak (lv' := [some (.inr (0, 0)), some (.inl a1), some (.inl a2), none]) ⟨rfl, rfl, rfl, trivial⟩ (hj107 _)
          refine r_aload_n C dX0_takeSign_91 rfl rfl ?_
          refine r_invB (t := 0) (kb := 0) (As := []) (st := []) C il_X0_73 co_X0_mayItemCome (by decide) rfl (c_X0_mayItemCome m3) (by decide) (by decide) rfl rfl (Nat.le_of_ble_eq_true rfl) dX0_takeSign_92 (fun r14 m13 => ?_)
          refine r_ifeqB (tgt := 107) C dX0_takeSign_95 (by decide) ?_ ?_
          · exact r_weak (lv' := [some (.inr (0, 0)), some (.inl a1), some (.inl a2), none]) ⟨rfl, rfl, rfl, trivial⟩ (hj107 _)
          refine r_aload_n C dX0_takeSign_98 rfl rfl ?_
          refine r_bipush (v := 6) C dX0_takeSign_99 (by decide) ?_
          refine r_put C fl_X0_19 rfl rfl rfl dX0_takeSign_101 (fun m15 => ?_)
          refine r_goto (tgt := 181) C dX0_takeSign_104 (by decide) ?_
          exact r_return C dX0_takeSign_181
        refine r_icmp_ne (tgt := 85) C dX0_takeSign_67 (by decide) ?_ ?_
        · exact r_weak (lv' := [some (.inr (0, 0)), some (.inl a1), some (.inl a2), none]) ⟨rfl, rfl, rfl, trivial⟩ (hj85 _)
        refine r_aload_n C dX0_takeSign_70 rfl rfl ?_
        refine r_invB (t := 0) (kb := 0) (As := []) (st := []) C il_X0_73 co_X0_mayItemCome (by decide) rfl (c_X0_mayItemCome m2) (by decide) (by decide) rfl rfl (Nat.le_of_ble_eq_true rfl) dX0_takeSign_71 (fun r17 m16 => ?_)
        refine r_ifeqB (tgt := 85) C dX0_takeSign_74 (by decide) ?_ ?_
        · exact r_weak (lv' := [some (.inr (0, 0)), some (.inl a1), some (.inl a2), none]) ⟨rfl, rfl, rfl, trivial⟩ (hj85 _)
        refine r_aload_n C dX0_takeSign_77 rfl rfl ?_
        refine r_iconst (v := 1) C dX0_takeSign_78 (by decide) ?_
        refine r_put C fl_X0_19 rfl rfl rfl dX0_takeSign_79 (fun m18 => ?_)
        refine r_goto (tgt := 181) C dX0_takeSign_82 (by decide) ?_
        exact r_return C dX0_takeSign_181
      refine r_icmp_ne (tgt := 64) C dX0_takeSign_38 (by decide) ?_ ?_
      · exact r_weak (lv' := [some (.inr (0, 0)), some (.inl a1), some (.inl a2), none]) ⟨rfl, rfl, rfl, trivial⟩ (hj64 _)
      refine r_aload_n C dX0_takeSign_41 rfl rfl ?_
      refine r_invB (t := 0) (kb := 0) (As := []) (st := []) C il_X0_73 co_X0_mayItemCome (by decide) rfl (c_X0_mayItemCome m1) (by decide) (by decide) rfl rfl (Nat.le_of_ble_eq_true rfl) dX0_takeSign_42 (fun r20 m19 => ?_)
      refine r_ifeqB (tgt := 64) C dX0_takeSign_45 (by decide) ?_ ?_
      · exact r_weak (lv' := [some (.inr (0, 0)), some (.inl a1), some (.inl a2), none]) ⟨rfl, rfl, rfl, trivial⟩ (hj64 _)
      refine r_aload_n C dX0_takeSign_48 rfl rfl ?_
      refine r_get (v := .inl (m19 0 0 1)) C fl_X0_15 dX0_takeSign_49 rfl ?_
      refine r_if_le (tgt := 64) C dX0_takeSign_52 (by decide) ?_ ?_
      · exact r_weak (lv' := [some (.inr (0, 0)), some (.inl a1), some (.inl a2), none]) ⟨rfl, rfl, rfl, trivial⟩ (hj64 _)
      refine r_aload_n C dX0_takeSign_55 rfl rfl ?_
      refine r_bipush (v := 9) C dX0_takeSign_56 (by decide) ?_
      refine r_put C fl_X0_19 rfl rfl rfl dX0_takeSign_58 (fun m21 => ?_)
      refine r_goto (tgt := 181) C dX0_takeSign_61 (by decide) ?_
      exact r_return C dX0_takeSign_181
    refine r_icmp_ne (tgt := 35) C dX0_takeSign_16 (by decide) ?_ ?_
    · exact r_weak (lv' := [some (.inr (0, 0)), some (.inl a1), some (.inl a2), none]) ⟨rfl, rfl, rfl, trivial⟩ (hj35 _)
    refine r_aload_n C dX0_takeSign_19 rfl rfl ?_
    refine r_invB (t := 0) (kb := 0) (As := []) (st := []) C il_X0_73 co_X0_mayItemCome (by decide) rfl (c_X0_mayItemCome m) (by decide) (by decide) rfl rfl (Nat.le_of_ble_eq_true rfl) dX0_takeSign_20 (fun r23 m22 => ?_)
    refine r_ifeqB (tgt := 35) C dX0_takeSign_23 (by decide) ?_ ?_
    · exact r_weak (lv' := [some (.inr (0, 0)), some (.inl a1), some (.inl a2), none]) ⟨rfl, rfl, rfl, trivial⟩ (hj35 _)
    refine r_aload_n C dX0_takeSign_26 rfl rfl ?_
    refine r_iload_n C dX0_takeSign_27 rfl rfl ?_
    refine r_aload_n C dX0_takeSign_28 rfl rfl ?_
    refine r_invU (t := 0) (kb := 0) (As := [.inl a2, .inr (5, o3)]) (st := []) C il_X0_80 co_X0_openLoop (by decide) rfl (c_X0_openLoop a2 o3 m22) (by decide) (by decide) rfl rfl (Nat.le_of_ble_eq_true rfl) dX0_takeSign_29 (fun r25 m24 => ?_)
    refine r_goto (tgt := 181) C dX0_takeSign_32 (by decide) ?_
    exact r_return C dX0_takeSign_181
  exact r_return C dX0_takeSign_12
theorem dX0_takeEnd_0 : decode cX0_takeEnd 0 = .ok (.aload_n 0, 1) := by decide +kernel
theorem dX0_takeEnd_1 : decode cX0_takeEnd 1 = .ok (.getfield 15, 3) := by decide +kernel
theorem dX0_takeEnd_4 : decode cX0_takeEnd 4 = .ok (.ifCond .gt 10, 3) := by decide +kernel
theorem dX0_takeEnd_7 : decode cX0_takeEnd 7 = .ok (.aload_n 0, 1) := by decide +kernel
theorem dX0_takeEnd_8 : decode cX0_takeEnd 8 = .ok (.invokevirtual 73, 3) := by decide +kernel
theorem dX0_takeEnd_11 : decode cX0_takeEnd 11 = .ok (.ifCond .ne 12, 3) := by decide +kernel
theorem dX0_takeEnd_14 : decode cX0_takeEnd 14 = .ok (.aload_n 0, 1) := by decide +kernel
theorem dX0_takeEnd_15 : decode cX0_takeEnd 15 = .ok (.iconst 1, 1) := by decide +kernel
theorem dX0_takeEnd_16 : decode cX0_takeEnd 16 = .ok (.iload_n 1, 1) := by decide +kernel
theorem dX0_takeEnd_17 : decode cX0_takeEnd 17 = .ok (.invokevirtual 77, 3) := by decide +kernel
theorem dX0_takeEnd_20 : decode cX0_takeEnd 20 = .ok (.goto 16, 3) := by decide +kernel
theorem dX0_takeEnd_23 : decode cX0_takeEnd 23 = .ok (.aload_n 0, 1) := by decide +kernel
theorem dX0_takeEnd_24 : decode cX0_takeEnd 24 = .ok (.getfield 22, 3) := by decide +kernel
theorem dX0_takeEnd_27 : decode cX0_takeEnd 27 = .ok (.ifCond .eq 9, 3) := by decide +kernel
theorem dX0_takeEnd_30 : decode cX0_takeEnd 30 = .ok (.aload_n 0, 1) := by decide +kernel
theorem dX0_takeEnd_31 : decode cX0_takeEnd 31 = .ok (.iconst 4, 1) := by decide +kernel
theorem dX0_takeEnd_32 : decode cX0_takeEnd 32 = .ok (.iload_n 1, 1) := by decide +kernel
theorem dX0_takeEnd_33 : decode cX0_takeEnd 33 = .ok (.invokevirtual 77, 3) := by decide +kernel
theorem dX0_takeEnd_36 : decode cX0_takeEnd 36 = .ok (.return_, 1) := by decide +kernel
def X0_takeEnd (a1 : Int32) (m : gM) : Option (Unit × gM) :=
  gJ0 (fun (m1 : gM) => gCall (X0_fail 1 a1 m1) (fun (r3 : Unit) (m2 : gM) => some ((), m2))) (fun (j14 : gM → Option (Unit × gM)) => if 0 < (m 0 0 1) then (j14 m) else (gCall (X0_mayItemCome m) (fun (r5 : Bool) (m4 : gM) => if r5 = true then (if (m4 0 0 7) = 0 then (some ((), m4)) else (gCall (X0_fail 4 a1 m4) (fun (r7 : Unit) (m6 : gM) => some ((), m6)))) else (j14 m4))))
set_option maxRecDepth 100000 in
set_option maxHeartbeats 4000000 in
theorem c_X0_takeEnd (a1 : Int32) (m : gM) : gCon eU yX0_takeEnd cX0_takeEnd 2 none 1 [.inr (0, 0), .inl a1] m (X0_takeEnd a1 m) := by
  refine gCon.of (lv := [some (.inr (0, 0)), some (.inl a1)]) (by decide +kernel) (Nat.le_of_ble_eq_true rfl) rfl (fun X C => ?_)
  unfold X0_takeEnd
  refine r_aload_n C dX0_takeEnd_0 rfl rfl ?_
  refine r_get (v := .inl (m 0 0 1)) C fl_X0_15 dX0_takeEnd_1 rfl ?_
  refine r_j0 14 [some (.inr (0, 0)), some (.inl a1)] [] (fun m1 => ?_) (fun j14 hj14 => ?_)
  · refine r_aload_n C dX0_takeEnd_14 rfl rfl ?_
    refine r_iconst (v := 1) C dX0_takeEnd_15 (by decide) ?_
    refine r_iload_n C dX0_takeEnd_16 rfl rfl ?_
    refine r_invU (t := 0) (kb := 0) (As := [.inl 1, .inl a1]) (st := []) C il_X0_77 co_X0_fail (by decide) rfl (c_X0_fail 1 a1 m1) (by decide) (by decide) rfl rfl (Nat.le_of_ble_eq_true rfl) dX0_takeEnd_17 (fun r3 m2 => ?_)
    refine r_goto (tgt := 36) C dX0_takeEnd_20 (by decide) ?_
    exact r_return C dX0_takeEnd_36
  refine r_if_gt (tgt := 14) C dX0_takeEnd_4 (by decide) ?_ ?_
  · exact r_weak (lv' := [some (.inr (0, 0)), some (.inl a1)]) ⟨rfl, rfl, trivial⟩ (hj14 _)
  refine r_aload_n C dX0_takeEnd_7 rfl rfl ?_
  refine r_invB (t := 0) (kb := 0) (As := []) (st := []) C il_X0_73 co_X0_mayItemCome (by decide) rfl (c_X0_mayItemCome m) (by decide) (by decide) rfl rfl (Nat.le_of_ble_eq_true rfl) dX0_takeEnd_8 (fun r5 m4 => ?_)
  refine r_ifneB (tgt := 23) C dX0_takeEnd_11 (by decide) ?_ ?_
  · refine r_aload_n C dX0_takeEnd_23 rfl rfl ?_
    refine r_get (v := .inl (m4 0 0 7)) C fl_X0_22 dX0_takeEnd_24 rfl ?_
    refine r_if_eq (tgt := 36) C dX0_takeEnd_27 (by decide) ?_ ?_
    · exact r_return C dX0_takeEnd_36
    refine r_aload_n C dX0_takeEnd_30 rfl rfl ?_
    refine r_iconst (v := 4) C dX0_takeEnd_31 (by decide) ?_
    refine r_iload_n C dX0_takeEnd_32 rfl rfl ?_
    refine r_invU (t := 0) (kb := 0) (As := [.inl 4, .inl a1]) (st := []) C il_X0_77 co_X0_fail (by decide) rfl (c_X0_fail 4 a1 m4) (by decide) (by decide) rfl rfl (Nat.le_of_ble_eq_true rfl) dX0_takeEnd_33 (fun r7 m6 => ?_)
    exact r_return C dX0_takeEnd_36
  exact r_weak (lv' := [some (.inr (0, 0)), some (.inl a1)]) ⟨rfl, rfl, trivial⟩ (hj14 _)
theorem dX0_read_0 : decode cX0_read 0 = .ok (.aload_n 0, 1) := by decide +kernel
theorem dX0_read_1 : decode cX0_read 1 = .ok (.iconst 0, 1) := by decide +kernel
theorem dX0_read_2 : decode cX0_read 2 = .ok (.putfield 15, 3) := by decide +kernel
theorem dX0_read_5 : decode cX0_read 5 = .ok (.aload_n 0, 1) := by decide +kernel
theorem dX0_read_6 : decode cX0_read 6 = .ok (.iconst 0, 1) := by decide +kernel
theorem dX0_read_7 : decode cX0_read 7 = .ok (.putfield 19, 3) := by decide +kernel
theorem dX0_read_10 : decode cX0_read 10 = .ok (.aload_n 0, 1) := by decide +kernel
theorem dX0_read_11 : decode cX0_read 11 = .ok (.iconst 0, 1) := by decide +kernel
theorem dX0_read_12 : decode cX0_read 12 = .ok (.putfield 22, 3) := by decide +kernel
theorem dX0_read_15 : decode cX0_read 15 = .ok (.aload_n 0, 1) := by decide +kernel
theorem dX0_read_16 : decode cX0_read 16 = .ok (.iconst 0, 1) := by decide +kernel
theorem dX0_read_17 : decode cX0_read 17 = .ok (.putfield 26, 3) := by decide +kernel
theorem dX0_read_20 : decode cX0_read 20 = .ok (.aload_n 0, 1) := by decide +kernel
theorem dX0_read_21 : decode cX0_read 21 = .ok (.iconst (-1), 1) := by decide +kernel
theorem dX0_read_22 : decode cX0_read 22 = .ok (.putfield 29, 3) := by decide +kernel
theorem dX0_read_25 : decode cX0_read 25 = .ok (.aload_n 0, 1) := by decide +kernel
theorem dX0_read_26 : decode cX0_read 26 = .ok (.iconst (-1), 1) := by decide +kernel
theorem dX0_read_27 : decode cX0_read 27 = .ok (.putfield 32, 3) := by decide +kernel
theorem dX0_read_30 : decode cX0_read 30 = .ok (.aload_n 3, 1) := by decide +kernel
theorem dX0_read_31 : decode cX0_read 31 = .ok (.iconst 0, 1) := by decide +kernel
theorem dX0_read_32 : decode cX0_read 32 = .ok (.putfield 35, 3) := by decide +kernel
theorem dX0_read_35 : decode cX0_read 35 = .ok (.iconst 0, 1) := by decide +kernel
theorem dX0_read_36 : decode cX0_read 36 = .ok (.istore 4, 2) := by decide +kernel
theorem dX0_read_38 : decode cX0_read 38 = .ok (.iload 4, 2) := by decide +kernel
theorem dX0_read_40 : decode cX0_read 40 = .ok (.iload_n 2, 1) := by decide +kernel
theorem dX0_read_41 : decode cX0_read 41 = .ok (.if_icmp .ge 65, 3) := by decide +kernel
theorem dX0_read_44 : decode cX0_read 44 = .ok (.iload 4, 2) := by decide +kernel
theorem dX0_read_46 : decode cX0_read 46 = .ok (.aload_n 1, 1) := by decide +kernel
theorem dX0_read_47 : decode cX0_read 47 = .ok (.arraylength, 1) := by decide +kernel
theorem dX0_read_48 : decode cX0_read 48 = .ok (.if_icmp .ge 58, 3) := by decide +kernel
theorem dX0_read_51 : decode cX0_read 51 = .ok (.aload_n 0, 1) := by decide +kernel
theorem dX0_read_52 : decode cX0_read 52 = .ok (.getfield 26, 3) := by decide +kernel
theorem dX0_read_55 : decode cX0_read 55 = .ok (.ifCond .ne 51, 3) := by decide +kernel
theorem dX0_read_58 : decode cX0_read 58 = .ok (.aload_n 1, 1) := by decide +kernel
theorem dX0_read_59 : decode cX0_read 59 = .ok (.iload 4, 2) := by decide +kernel
theorem dX0_read_61 : decode cX0_read 61 = .ok (.iaload, 1) := by decide +kernel
theorem dX0_read_62 : decode cX0_read 62 = .ok (.invokestatic 40, 3) := by decide +kernel
theorem dX0_read_65 : decode cX0_read 65 = .ok (.ifCond .eq 19, 3) := by decide +kernel
theorem dX0_read_68 : decode cX0_read 68 = .ok (.aload_n 0, 1) := by decide +kernel
theorem dX0_read_69 : decode cX0_read 69 = .ok (.aload_n 1, 1) := by decide +kernel
theorem dX0_read_70 : decode cX0_read 70 = .ok (.iload 4, 2) := by decide +kernel
theorem dX0_read_72 : decode cX0_read 72 = .ok (.iaload, 1) := by decide +kernel
theorem dX0_read_73 : decode cX0_read 73 = .ok (.bipush 48, 2) := by decide +kernel
theorem dX0_read_75 : decode cX0_read 75 = .ok (.isub, 1) := by decide +kernel
theorem dX0_read_76 : decode cX0_read 76 = .ok (.iload 4, 2) := by decide +kernel
theorem dX0_read_78 : decode cX0_read 78 = .ok (.invokevirtual 44, 3) := by decide +kernel
theorem dX0_read_81 : decode cX0_read 81 = .ok (.goto 19, 3) := by decide +kernel
theorem dX0_read_84 : decode cX0_read 84 = .ok (.aload_n 0, 1) := by decide +kernel
theorem dX0_read_85 : decode cX0_read 85 = .ok (.aload_n 3, 1) := by decide +kernel
theorem dX0_read_86 : decode cX0_read 86 = .ok (.invokevirtual 48, 3) := by decide +kernel
theorem dX0_read_89 : decode cX0_read 89 = .ok (.aload_n 0, 1) := by decide +kernel
theorem dX0_read_90 : decode cX0_read 90 = .ok (.aload_n 1, 1) := by decide +kernel
theorem dX0_read_91 : decode cX0_read 91 = .ok (.iload 4, 2) := by decide +kernel
theorem dX0_read_93 : decode cX0_read 93 = .ok (.iaload, 1) := by decide +kernel
theorem dX0_read_94 : decode cX0_read 94 = .ok (.iload 4, 2) := by decide +kernel
theorem dX0_read_96 : decode cX0_read 96 = .ok (.aload_n 3, 1) := by decide +kernel
theorem dX0_read_97 : decode cX0_read 97 = .ok (.invokevirtual 52, 3) := by decide +kernel
theorem dX0_read_100 : decode cX0_read 100 = .ok (.iinc 4 1, 3) := by decide +kernel
theorem dX0_read_103 : decode cX0_read 103 = .ok (.goto (-65), 3) := by decide +kernel
theorem dX0_read_106 : decode cX0_read 106 = .ok (.aload_n 0, 1) := by decide +kernel
theorem dX0_read_107 : decode cX0_read 107 = .ok (.aload_n 3, 1) := by decide +kernel
theorem dX0_read_108 : decode cX0_read 108 = .ok (.invokevirtual 48, 3) := by decide +kernel
theorem dX0_read_111 : decode cX0_read 111 = .ok (.aload_n 0, 1) := by decide +kernel
theorem dX0_read_112 : decode cX0_read 112 = .ok (.iload_n 2, 1) := by decide +kernel
theorem dX0_read_113 : decode cX0_read 113 = .ok (.invokevirtual 56, 3) := by decide +kernel
theorem dX0_read_116 : decode cX0_read 116 = .ok (.return_, 1) := by decide +kernel
def X0_read_b38 (t1 : Nat) (u1 : Nat) (a2 : Int32) (o3 : Nat) (j106 : gM → Option (Unit × gM)) (v13 : Int32) (m14 : gM) (k38 : Int32 → gM → Option (Unit × gM)) : Option (Unit × gM) :=
  if a2 ≤ v13 then (j106 m14) else (if (Int32.ofNat (glen t1)) ≤ v13 then (j106 m14) else (if (m14 0 0 8) = 0 then (gAt m14 t1 u1 v13 (fun (x15 : Int32) => gCall (X0_isDigit x15 m14) (fun (r17 : Bool) (m16 : gM) => if r17 = true then (gAt m16 t1 u1 v13 (fun (x24 : Int32) => gCall (X0_takeDigit (x24 - 48) v13 m16) (fun (r26 : Unit) (m25 : gM) => gLet (v13 + 1) (fun (x27 : Int32) => k38 x27 m25)))) else (gCall (X0_endNumber o3 m16) (fun (r19 : Unit) (m18 : gM) => gAt m18 t1 u1 v13 (fun (x20 : Int32) => gCall (X0_takeSign x20 v13 o3 m18) (fun (r22 : Unit) (m21 : gM) => gLet (v13 + 1) (fun (x23 : Int32) => k38 x23 m21)))))))) else (j106 m14)))
def X0_read (t1 u1 : Nat) (a2 : Int32) (o3 : Nat) (m : gM) : Option (Unit × gM) :=
  gSet m 0 0 1 0 (fun (m1 : gM) => gSet m1 0 0 2 0 (fun (m2 : gM) => gSet m2 0 0 7 0 (fun (m3 : gM) => gSet m3 0 0 8 0 (fun (m4 : gM) => gSet m4 0 0 9 (-1) (fun (m5 : gM) => gSet m5 0 0 4 (-1) (fun (m6 : gM) => gSet m6 5 o3 2 0 (fun (m7 : gM) => gJ0 (fun (m8 : gM) => gCall (X0_endNumber o3 m8) (fun (r10 : Unit) (m9 : gM) => gCall (X0_takeEnd a2 m9) (fun (r12 : Unit) (m11 : gM) => some ((), m11)))) (fun (j106 : gM → Option (Unit × gM)) => gL1 FU (X0_read_b38 t1 u1 a2 o3 j106) 0 m7))))))))
set_option maxRecDepth 100000 in
set_option maxHeartbeats 4000000 in
theorem c_X0_read (t1 u1 : Nat) (a2 : Int32) (o3 : Nat) (ht1 : gia t1 = true) (m : gM) : gCon eU yX0_read cX0_read 5 none 5 [.inr (0, 0), .inr (t1, u1), .inl a2, .inr (5, o3)] m (X0_read t1 u1 a2 o3 m) := by
  refine gCon.of (lv := [some (.inr (0, 0)), some (.inr (t1, u1)), some (.inl a2), some (.inr (5, o3)), none]) (by decide +kernel) (Nat.le_of_ble_eq_true rfl) rfl (fun X C => ?_)
  unfold X0_read
  refine r_aload_n C dX0_read_0 rfl rfl ?_
  refine r_iconst (v := 0) C dX0_read_1 (by decide) ?_
  refine r_put C fl_X0_15 rfl rfl rfl dX0_read_2 (fun m1 => ?_)
  refine r_aload_n C dX0_read_5 rfl rfl ?_
  refine r_iconst (v := 0) C dX0_read_6 (by decide) ?_
  refine r_put C fl_X0_19 rfl rfl rfl dX0_read_7 (fun m2 => ?_)
  refine r_aload_n C dX0_read_10 rfl rfl ?_
  refine r_iconst (v := 0) C dX0_read_11 (by decide) ?_
  refine r_putG C fl_X0_22 rfl rfl rfl rfl dX0_read_12 (fun m3 => ?_)
  refine r_aload_n C dX0_read_15 rfl rfl ?_
  refine r_iconst (v := 0) C dX0_read_16 (by decide) ?_
  refine r_put C fl_X0_26 rfl rfl rfl dX0_read_17 (fun m4 => ?_)
  refine r_aload_n C dX0_read_20 rfl rfl ?_
  refine r_iconst (v := (-1)) C dX0_read_21 (by decide) ?_
  refine r_put C fl_X0_29 rfl rfl rfl dX0_read_22 (fun m5 => ?_)
  refine r_aload_n C dX0_read_25 rfl rfl ?_
  refine r_iconst (v := (-1)) C dX0_read_26 (by decide) ?_
  refine r_put C fl_X0_32 rfl rfl rfl dX0_read_27 (fun m6 => ?_)
  refine r_aload_n C dX0_read_30 rfl rfl ?_
  refine r_iconst (v := 0) C dX0_read_31 (by decide) ?_
  refine r_put C fl_X0_35 rfl rfl rfl dX0_read_32 (fun m7 => ?_)
  refine r_iconst (v := 0) C dX0_read_35 (by decide) ?_
  refine r_istore (lv' := [some (.inr (0, 0)), some (.inr (t1, u1)), some (.inl a2), some (.inr (5, o3)), some (.inl 0)]) C dX0_read_36 (by decide) rfl ?_
  refine r_j0 106 [some (.inr (0, 0)), none, some (.inl a2), some (.inr (5, o3)), none] [] (fun m8 => ?_) (fun j106 hj106 => ?_)
  · refine r_aload_n C dX0_read_106 rfl rfl ?_
    refine r_aload_n C dX0_read_107 rfl rfl ?_
    refine r_invU (t := 0) (kb := 0) (As := [.inr (5, o3)]) (st := []) C il_X0_48 co_X0_endNumber (by decide) rfl (c_X0_endNumber o3 m8) (by decide) (by decide) rfl rfl (Nat.le_of_ble_eq_true rfl) dX0_read_108 (fun r10 m9 => ?_)
    refine r_aload_n C dX0_read_111 rfl rfl ?_
    refine r_iload_n C dX0_read_112 rfl rfl ?_
    refine r_invU (t := 0) (kb := 0) (As := [.inl a2]) (st := []) C il_X0_56 co_X0_takeEnd (by decide) rfl (c_X0_takeEnd a2 m9) (by decide) (by decide) rfl rfl (Nat.le_of_ble_eq_true rfl) dX0_read_113 (fun r12 m11 => ?_)
    exact r_return C dX0_read_116
  refine r_weak (lv' := [some (.inr (0, 0)), some (.inr (t1, u1)), some (.inl a2), some (.inr (5, o3)), some (.inl 0)]) ⟨rfl, rfl, rfl, rfl, rfl, trivial⟩ ?_
  refine r_l1 (pj := 38) (fun v13 => [some (.inr (0, 0)), some (.inr (t1, u1)), some (.inl a2), some (.inr (5, o3)), some (.inl v13)]) (fun v13 m14 k38 hk38 => ?_) _ _ _
  unfold X0_read_b38
  refine r_iload C dX0_read_38 rfl ?_
  refine r_iload_n C dX0_read_40 rfl rfl ?_
  refine r_icmp_ge (tgt := 106) C dX0_read_41 (by decide) ?_ ?_
  · exact r_weak (lv' := [some (.inr (0, 0)), none, some (.inl a2), some (.inr (5, o3)), none]) ⟨rfl, rfl, rfl, trivial⟩ (hj106 _)
  refine r_iload C dX0_read_44 rfl ?_
  refine r_aload_n C dX0_read_46 rfl rfl ?_
  refine r_alen C (gia_spec ht1).1 rfl dX0_read_47 ?_
  refine r_icmp_ge (tgt := 106) C dX0_read_48 (by decide) ?_ ?_
  · exact r_weak (lv' := [some (.inr (0, 0)), none, some (.inl a2), some (.inr (5, o3)), none]) ⟨rfl, rfl, rfl, trivial⟩ (hj106 _)
  refine r_aload_n C dX0_read_51 rfl rfl ?_
  refine r_get (v := .inl (m14 0 0 8)) C fl_X0_26 dX0_read_52 rfl ?_
  refine r_if_ne (tgt := 106) C dX0_read_55 (by decide) ?_ ?_
  · exact r_weak (lv' := [some (.inr (0, 0)), none, some (.inl a2), some (.inr (5, o3)), none]) ⟨rfl, rfl, rfl, trivial⟩ (hj106 _)
  refine r_aload_n C dX0_read_58 rfl rfl ?_
  refine r_iload C dX0_read_59 rfl ?_
  refine r_iald C ht1 dX0_read_61 (fun x15 => ?_)
  refine r_insB (As := [.inl x15]) (st := []) C il_X0_40 co_X0_isDigit (c_X0_isDigit x15 m14) (by decide) (by decide) rfl rfl (Nat.le_of_ble_eq_true rfl) dX0_read_62 (fun r17 m16 => ?_)
  refine r_ifeqB (tgt := 84) C dX0_read_65 (by decide) ?_ ?_
  · refine r_aload_n C dX0_read_84 rfl rfl ?_
    refine r_aload_n C dX0_read_85 rfl rfl ?_
    refine r_invU (t := 0) (kb := 0) (As := [.inr (5, o3)]) (st := []) C il_X0_48 co_X0_endNumber (by decide) rfl (c_X0_endNumber o3 m16) (by decide) (by decide) rfl rfl (Nat.le_of_ble_eq_true rfl) dX0_read_86 (fun r19 m18 => ?_)
    refine r_aload_n C dX0_read_89 rfl rfl ?_
    refine r_aload_n C dX0_read_90 rfl rfl ?_
    refine r_iload C dX0_read_91 rfl ?_
    refine r_iald C ht1 dX0_read_93 (fun x20 => ?_)
    refine r_iload C dX0_read_94 rfl ?_
    refine r_aload_n C dX0_read_96 rfl rfl ?_
    refine r_invU (t := 0) (kb := 0) (As := [.inl x20, .inl v13, .inr (5, o3)]) (st := []) C il_X0_52 co_X0_takeSign (by decide) rfl (c_X0_takeSign x20 v13 o3 m18) (by decide) (by decide) rfl rfl (Nat.le_of_ble_eq_true rfl) dX0_read_97 (fun r22 m21 => ?_)
    refine r_iinc (v := 1) C dX0_read_100 (by decide) rfl (by decide) (fun x23 => ?_)
    show gw X eU _ [some (.inr (0, 0)), some (.inr (t1, u1)), some (.inl a2), some (.inr (5, o3)), some (.inl x23)] _ _ _
    refine r_goto (tgt := 38) C dX0_read_103 (by decide) ?_
    exact r_weak (lv' := [some (.inr (0, 0)), some (.inr (t1, u1)), some (.inl a2), some (.inr (5, o3)), some (.inl x23)]) ⟨rfl, rfl, rfl, rfl, rfl, trivial⟩ (hk38 _ _)
  refine r_aload_n C dX0_read_68 rfl rfl ?_
  refine r_aload_n C dX0_read_69 rfl rfl ?_
  refine r_iload C dX0_read_70 rfl ?_
  refine r_iald C ht1 dX0_read_72 (fun x24 => ?_)
  refine r_bipush (v := 48) C dX0_read_73 (by decide) ?_
  refine r_isub C dX0_read_75 ?_
  refine r_iload C dX0_read_76 rfl ?_
  refine r_invU (t := 0) (kb := 0) (As := [.inl (x24 - 48), .inl v13]) (st := []) C il_X0_44 co_X0_takeDigit (by decide) rfl (c_X0_takeDigit (x24 - 48) v13 m16) (by decide) (by decide) rfl rfl (Nat.le_of_ble_eq_true rfl) dX0_read_78 (fun r26 m25 => ?_)
  refine r_goto (tgt := 100) C dX0_read_81 (by decide) ?_
  refine r_iinc (v := 1) C dX0_read_100 (by decide) rfl (by decide) (fun x27 => ?_)
  show gw X eU _ [some (.inr (0, 0)), some (.inr (t1, u1)), some (.inl a2), some (.inr (5, o3)), some (.inl x27)] _ _ _
  refine r_goto (tgt := 38) C dX0_read_103 (by decide) ?_
  exact r_weak (lv' := [some (.inr (0, 0)), some (.inr (t1, u1)), some (.inl a2), some (.inr (5, o3)), some (.inl x27)]) ⟨rfl, rfl, rfl, rfl, rfl, trivial⟩ (hk38 _ _)
theorem dJ6_bitCount_0f7a4_0 : decode cJ6_bitCount_0f7a4 0 = .ok (.iload_n 0, 1) := by decide +kernel
theorem dJ6_bitCount_0f7a4_1 : decode cJ6_bitCount_0f7a4 1 = .ok (.iload_n 0, 1) := by decide +kernel
theorem dJ6_bitCount_0f7a4_2 : decode cJ6_bitCount_0f7a4 2 = .ok (.iconst 1, 1) := by decide +kernel
theorem dJ6_bitCount_0f7a4_3 : decode cJ6_bitCount_0f7a4 3 = .ok (.iushr, 1) := by decide +kernel
theorem dJ6_bitCount_0f7a4_4 : decode cJ6_bitCount_0f7a4 4 = .ok (.ldc_w 265, 3) := by decide +kernel
theorem dJ6_bitCount_0f7a4_7 : decode cJ6_bitCount_0f7a4 7 = .ok (.iand, 1) := by decide +kernel
theorem dJ6_bitCount_0f7a4_8 : decode cJ6_bitCount_0f7a4 8 = .ok (.isub, 1) := by decide +kernel
theorem dJ6_bitCount_0f7a4_9 : decode cJ6_bitCount_0f7a4 9 = .ok (.istore_n 0, 1) := by decide +kernel
theorem dJ6_bitCount_0f7a4_10 : decode cJ6_bitCount_0f7a4 10 = .ok (.iload_n 0, 1) := by decide +kernel
theorem dJ6_bitCount_0f7a4_11 : decode cJ6_bitCount_0f7a4 11 = .ok (.ldc_w 266, 3) := by decide +kernel
theorem dJ6_bitCount_0f7a4_14 : decode cJ6_bitCount_0f7a4 14 = .ok (.iand, 1) := by decide +kernel
theorem dJ6_bitCount_0f7a4_15 : decode cJ6_bitCount_0f7a4 15 = .ok (.iload_n 0, 1) := by decide +kernel
theorem dJ6_bitCount_0f7a4_16 : decode cJ6_bitCount_0f7a4 16 = .ok (.iconst 2, 1) := by decide +kernel
theorem dJ6_bitCount_0f7a4_17 : decode cJ6_bitCount_0f7a4 17 = .ok (.iushr, 1) := by decide +kernel
theorem dJ6_bitCount_0f7a4_18 : decode cJ6_bitCount_0f7a4 18 = .ok (.ldc_w 266, 3) := by decide +kernel
theorem dJ6_bitCount_0f7a4_21 : decode cJ6_bitCount_0f7a4 21 = .ok (.iand, 1) := by decide +kernel
theorem dJ6_bitCount_0f7a4_22 : decode cJ6_bitCount_0f7a4 22 = .ok (.iadd, 1) := by decide +kernel
theorem dJ6_bitCount_0f7a4_23 : decode cJ6_bitCount_0f7a4 23 = .ok (.istore_n 0, 1) := by decide +kernel
theorem dJ6_bitCount_0f7a4_24 : decode cJ6_bitCount_0f7a4 24 = .ok (.iload_n 0, 1) := by decide +kernel
theorem dJ6_bitCount_0f7a4_25 : decode cJ6_bitCount_0f7a4 25 = .ok (.iload_n 0, 1) := by decide +kernel
theorem dJ6_bitCount_0f7a4_26 : decode cJ6_bitCount_0f7a4 26 = .ok (.iconst 4, 1) := by decide +kernel
theorem dJ6_bitCount_0f7a4_27 : decode cJ6_bitCount_0f7a4 27 = .ok (.iushr, 1) := by decide +kernel
theorem dJ6_bitCount_0f7a4_28 : decode cJ6_bitCount_0f7a4 28 = .ok (.iadd, 1) := by decide +kernel
theorem dJ6_bitCount_0f7a4_29 : decode cJ6_bitCount_0f7a4 29 = .ok (.ldc_w 267, 3) := by decide +kernel
theorem dJ6_bitCount_0f7a4_32 : decode cJ6_bitCount_0f7a4 32 = .ok (.iand, 1) := by decide +kernel
theorem dJ6_bitCount_0f7a4_33 : decode cJ6_bitCount_0f7a4 33 = .ok (.istore_n 0, 1) := by decide +kernel
theorem dJ6_bitCount_0f7a4_34 : decode cJ6_bitCount_0f7a4 34 = .ok (.iload_n 0, 1) := by decide +kernel
theorem dJ6_bitCount_0f7a4_35 : decode cJ6_bitCount_0f7a4 35 = .ok (.iload_n 0, 1) := by decide +kernel
theorem dJ6_bitCount_0f7a4_36 : decode cJ6_bitCount_0f7a4 36 = .ok (.bipush 8, 2) := by decide +kernel
theorem dJ6_bitCount_0f7a4_38 : decode cJ6_bitCount_0f7a4 38 = .ok (.iushr, 1) := by decide +kernel
theorem dJ6_bitCount_0f7a4_39 : decode cJ6_bitCount_0f7a4 39 = .ok (.iadd, 1) := by decide +kernel
theorem dJ6_bitCount_0f7a4_40 : decode cJ6_bitCount_0f7a4 40 = .ok (.istore_n 0, 1) := by decide +kernel
theorem dJ6_bitCount_0f7a4_41 : decode cJ6_bitCount_0f7a4 41 = .ok (.iload_n 0, 1) := by decide +kernel
theorem dJ6_bitCount_0f7a4_42 : decode cJ6_bitCount_0f7a4 42 = .ok (.iload_n 0, 1) := by decide +kernel
theorem dJ6_bitCount_0f7a4_43 : decode cJ6_bitCount_0f7a4 43 = .ok (.bipush 16, 2) := by decide +kernel
theorem dJ6_bitCount_0f7a4_45 : decode cJ6_bitCount_0f7a4 45 = .ok (.iushr, 1) := by decide +kernel
theorem dJ6_bitCount_0f7a4_46 : decode cJ6_bitCount_0f7a4 46 = .ok (.iadd, 1) := by decide +kernel
theorem dJ6_bitCount_0f7a4_47 : decode cJ6_bitCount_0f7a4 47 = .ok (.istore_n 0, 1) := by decide +kernel
theorem dJ6_bitCount_0f7a4_48 : decode cJ6_bitCount_0f7a4 48 = .ok (.iload_n 0, 1) := by decide +kernel
theorem dJ6_bitCount_0f7a4_49 : decode cJ6_bitCount_0f7a4 49 = .ok (.bipush 63, 2) := by decide +kernel
theorem dJ6_bitCount_0f7a4_51 : decode cJ6_bitCount_0f7a4 51 = .ok (.iand, 1) := by decide +kernel
theorem dJ6_bitCount_0f7a4_52 : decode cJ6_bitCount_0f7a4 52 = .ok (.ireturn, 1) := by decide +kernel
def J6_bitCount_0f7a4 (a1 : Int32) (m : gM) : Option (Int32 × gM) :=
  gLet (a1 - ((gUshr a1 1) &&& 1431655765)) (fun (x1 : Int32) => gLet ((x1 &&& 858993459) + ((gUshr x1 2) &&& 858993459)) (fun (x2 : Int32) => gLet ((x2 + (gUshr x2 4)) &&& 252645135) (fun (x3 : Int32) => gLet (x3 + (gUshr x3 8)) (fun (x4 : Int32) => gLet (x4 + (gUshr x4 16)) (fun (x5 : Int32) => some (x5 &&& 63, m))))))
set_option maxRecDepth 100000 in
set_option maxHeartbeats 4000000 in
theorem c_J6_bitCount_0f7a4 (a1 : Int32) (m : gM) : gCon eI yJ6_bitCount_0f7a4 cJ6_bitCount_0f7a4 1 (some .int) 0 [.inl a1] m (J6_bitCount_0f7a4 a1 m) := by
  refine gCon.of (lv := [some (.inl a1)]) (by decide +kernel) (Nat.le_of_ble_eq_true rfl) rfl (fun X C => ?_)
  unfold J6_bitCount_0f7a4
  refine r_iload_n C dJ6_bitCount_0f7a4_0 rfl rfl ?_
  refine r_iload_n C dJ6_bitCount_0f7a4_1 rfl rfl ?_
  refine r_iconst (v := 1) C dJ6_bitCount_0f7a4_2 (by decide) ?_
  refine r_iushr C dJ6_bitCount_0f7a4_3 ?_
  refine r_ldcw (v := 1431655765) C kc_J6_265 dJ6_bitCount_0f7a4_4 ?_
  refine r_iand C dJ6_bitCount_0f7a4_7 ?_
  refine r_isub C dJ6_bitCount_0f7a4_8 ?_
  refine r_let (fun x1 => ?_)
  refine r_istore_n (lv' := [some (.inl x1)]) C dJ6_bitCount_0f7a4_9 rfl (by decide) rfl ?_
  refine r_iload_n C dJ6_bitCount_0f7a4_10 rfl rfl ?_
  refine r_ldcw (v := 858993459) C kc_J6_266 dJ6_bitCount_0f7a4_11 ?_
  refine r_iand C dJ6_bitCount_0f7a4_14 ?_
  refine r_iload_n C dJ6_bitCount_0f7a4_15 rfl rfl ?_
  refine r_iconst (v := 2) C dJ6_bitCount_0f7a4_16 (by decide) ?_
  refine r_iushr C dJ6_bitCount_0f7a4_17 ?_
  refine r_ldcw (v := 858993459) C kc_J6_266 dJ6_bitCount_0f7a4_18 ?_
  refine r_iand C dJ6_bitCount_0f7a4_21 ?_
  refine r_iadd C dJ6_bitCount_0f7a4_22 ?_
  refine r_let (fun x2 => ?_)
  refine r_istore_n (lv' := [some (.inl x2)]) C dJ6_bitCount_0f7a4_23 rfl (by decide) rfl ?_
  refine r_iload_n C dJ6_bitCount_0f7a4_24 rfl rfl ?_
  refine r_iload_n C dJ6_bitCount_0f7a4_25 rfl rfl ?_
  refine r_iconst (v := 4) C dJ6_bitCount_0f7a4_26 (by decide) ?_
  refine r_iushr C dJ6_bitCount_0f7a4_27 ?_
  refine r_iadd C dJ6_bitCount_0f7a4_28 ?_
  refine r_ldcw (v := 252645135) C kc_J6_267 dJ6_bitCount_0f7a4_29 ?_
  refine r_iand C dJ6_bitCount_0f7a4_32 ?_
  refine r_let (fun x3 => ?_)
  refine r_istore_n (lv' := [some (.inl x3)]) C dJ6_bitCount_0f7a4_33 rfl (by decide) rfl ?_
  refine r_iload_n C dJ6_bitCount_0f7a4_34 rfl rfl ?_
  refine r_iload_n C dJ6_bitCount_0f7a4_35 rfl rfl ?_
  refine r_bipush (v := 8) C dJ6_bitCount_0f7a4_36 (by decide) ?_
  refine r_iushr C dJ6_bitCount_0f7a4_38 ?_
  refine r_iadd C dJ6_bitCount_0f7a4_39 ?_
  refine r_let (fun x4 => ?_)
  refine r_istore_n (lv' := [some (.inl x4)]) C dJ6_bitCount_0f7a4_40 rfl (by decide) rfl ?_
  refine r_iload_n C dJ6_bitCount_0f7a4_41 rfl rfl ?_
  refine r_iload_n C dJ6_bitCount_0f7a4_42 rfl rfl ?_
  refine r_bipush (v := 16) C dJ6_bitCount_0f7a4_43 (by decide) ?_
  refine r_iushr C dJ6_bitCount_0f7a4_45 ?_
  refine r_iadd C dJ6_bitCount_0f7a4_46 ?_
  refine r_let (fun x5 => ?_)
  refine r_istore_n (lv' := [some (.inl x5)]) C dJ6_bitCount_0f7a4_47 rfl (by decide) rfl ?_
  refine r_iload_n C dJ6_bitCount_0f7a4_48 rfl rfl ?_
  refine r_bipush (v := 63) C dJ6_bitCount_0f7a4_49 (by decide) ?_
  refine r_iand C dJ6_bitCount_0f7a4_51 ?_
  exact r_ireturn C dJ6_bitCount_0f7a4_52
theorem dX3_indexOf_0 : decode cX3_indexOf 0 = .ok (.iconst 0, 1) := by decide +kernel
theorem dX3_indexOf_1 : decode cX3_indexOf 1 = .ok (.istore_n 3, 1) := by decide +kernel
theorem dX3_indexOf_2 : decode cX3_indexOf 2 = .ok (.iconst 0, 1) := by decide +kernel
theorem dX3_indexOf_3 : decode cX3_indexOf 3 = .ok (.istore 4, 2) := by decide +kernel
theorem dX3_indexOf_5 : decode cX3_indexOf 5 = .ok (.iload 4, 2) := by decide +kernel
theorem dX3_indexOf_7 : decode cX3_indexOf 7 = .ok (.aload_n 0, 1) := by decide +kernel
theorem dX3_indexOf_8 : decode cX3_indexOf 8 = .ok (.getfield 43, 3) := by decide +kernel
theorem dX3_indexOf_11 : decode cX3_indexOf 11 = .ok (.if_icmp .ge 37, 3) := by decide +kernel
theorem dX3_indexOf_14 : decode cX3_indexOf 14 = .ok (.iload_n 1, 1) := by decide +kernel
theorem dX3_indexOf_15 : decode cX3_indexOf 15 = .ok (.aload_n 0, 1) := by decide +kernel
theorem dX3_indexOf_16 : decode cX3_indexOf 16 = .ok (.getfield 9, 3) := by decide +kernel
theorem dX3_indexOf_19 : decode cX3_indexOf 19 = .ok (.iload_n 2, 1) := by decide +kernel
theorem dX3_indexOf_20 : decode cX3_indexOf 20 = .ok (.iconst 4, 1) := by decide +kernel
theorem dX3_indexOf_21 : decode cX3_indexOf 21 = .ok (.imul, 1) := by decide +kernel
theorem dX3_indexOf_22 : decode cX3_indexOf 22 = .ok (.iload 4, 2) := by decide +kernel
theorem dX3_indexOf_24 : decode cX3_indexOf 24 = .ok (.iadd, 1) := by decide +kernel
theorem dX3_indexOf_25 : decode cX3_indexOf 25 = .ok (.iaload, 1) := by decide +kernel
theorem dX3_indexOf_26 : decode cX3_indexOf 26 = .ok (.iand, 1) := by decide +kernel
theorem dX3_indexOf_27 : decode cX3_indexOf 27 = .ok (.invokestatic 81, 3) := by decide +kernel
theorem dX3_indexOf_30 : decode cX3_indexOf 30 = .ok (.istore 5, 2) := by decide +kernel
theorem dX3_indexOf_32 : decode cX3_indexOf 32 = .ok (.iload_n 3, 1) := by decide +kernel
theorem dX3_indexOf_33 : decode cX3_indexOf 33 = .ok (.iload 5, 2) := by decide +kernel
theorem dX3_indexOf_35 : decode cX3_indexOf 35 = .ok (.iconst 1, 1) := by decide +kernel
theorem dX3_indexOf_36 : decode cX3_indexOf 36 = .ok (.iand, 1) := by decide +kernel
theorem dX3_indexOf_37 : decode cX3_indexOf 37 = .ok (.iload 4, 2) := by decide +kernel
theorem dX3_indexOf_39 : decode cX3_indexOf 39 = .ok (.ishl, 1) := by decide +kernel
theorem dX3_indexOf_40 : decode cX3_indexOf 40 = .ok (.ior, 1) := by decide +kernel
theorem dX3_indexOf_41 : decode cX3_indexOf 41 = .ok (.istore_n 3, 1) := by decide +kernel
theorem dX3_indexOf_42 : decode cX3_indexOf 42 = .ok (.iinc 4 1, 3) := by decide +kernel
theorem dX3_indexOf_45 : decode cX3_indexOf 45 = .ok (.goto (-40), 3) := by decide +kernel
theorem dX3_indexOf_48 : decode cX3_indexOf 48 = .ok (.iload_n 3, 1) := by decide +kernel
theorem dX3_indexOf_49 : decode cX3_indexOf 49 = .ok (.ireturn, 1) := by decide +kernel
def X3_indexOf_b5 (k : Nat) (a1 : Int32) (a2 : Int32) (v1 v2 : Int32) (m3 : gM) (k5 : Int32 → Int32 → gM → Option (Int32 × gM)) : Option (Int32 × gM) :=
  if (m3 3 k 1) ≤ v2 then (some (v1, m3)) else (gAt m3 25 k ((a2 * 4) + v2) (fun (x4 : Int32) => gCall (J6_bitCount_0f7a4 (a1 &&& x4) m3) (fun (r6 : Int32) (m5 : gM) => gLet (v1 ||| ((r6 &&& 1) <<< (v2 &&& 31))) (fun (x7 : Int32) => gLet (v2 + 1) (fun (x8 : Int32) => k5 x7 x8 m5)))))
def X3_indexOf (k : Nat) (a1 : Int32) (a2 : Int32) (m : gM) : Option (Int32 × gM) :=
  gL2 FU (X3_indexOf_b5 k a1 a2) 0 0 m
set_option maxRecDepth 100000 in
set_option maxHeartbeats 4000000 in
theorem c_X3_indexOf (k : Nat) (a1 : Int32) (a2 : Int32) (m : gM) : gCon eI yX3_indexOf cX3_indexOf 6 (some .int) 1 [.inr (3, k), .inl a1, .inl a2] m (X3_indexOf k a1 a2 m) := by
  refine gCon.of (lv := [some (.inr (3, k)), some (.inl a1), some (.inl a2), none, none, none]) (by decide +kernel) (Nat.le_of_ble_eq_true rfl) rfl (fun X C => ?_)
  unfold X3_indexOf
  refine r_iconst (v := 0) C dX3_indexOf_0 (by decide) ?_
  refine r_istore_n (lv' := [some (.inr (3, k)), some (.inl a1), some (.inl a2), some (.inl 0), none, none]) C dX3_indexOf_1 rfl (by decide) rfl ?_
  refine r_iconst (v := 0) C dX3_indexOf_2 (by decide) ?_
  refine r_istore (lv' := [some (.inr (3, k)), some (.inl a1), some (.inl a2), some (.inl 0), some (.inl 0), none]) C dX3_indexOf_3 (by decide) rfl ?_
  refine r_weak (lv' := [some (.inr (3, k)), some (.inl a1), some (.inl a2), some (.inl 0), some (.inl 0), none]) ⟨rfl, rfl, rfl, rfl, rfl, trivial⟩ ?_
  refine r_l2 (pj := 5) (fun v1 v2 => [some (.inr (3, k)), some (.inl a1), some (.inl a2), some (.inl v1), some (.inl v2), none]) (fun v1 v2 m3 k5 hk5 => ?_) _ _ _ _
  unfold X3_indexOf_b5
  refine r_iload C dX3_indexOf_5 rfl ?_
  refine r_aload_n C dX3_indexOf_7 rfl rfl ?_
  refine r_get (v := .inl (m3 3 k 1)) C fl_X3_43 dX3_indexOf_8 rfl ?_
  refine r_icmp_ge (tgt := 48) C dX3_indexOf_11 (by decide) ?_ ?_
  · refine r_iload_n C dX3_indexOf_48 rfl rfl ?_
    exact r_ireturn C dX3_indexOf_49
  refine r_iload_n C dX3_indexOf_14 rfl rfl ?_
  refine r_aload_n C dX3_indexOf_15 rfl rfl ?_
  refine r_get (v := .inr (25, k)) C fl_X3_9 dX3_indexOf_16 rfl ?_
  refine r_iload_n C dX3_indexOf_19 rfl rfl ?_
  refine r_iconst (v := 4) C dX3_indexOf_20 (by decide) ?_
  refine r_imul C dX3_indexOf_21 ?_
  refine r_iload C dX3_indexOf_22 rfl ?_
  refine r_iadd C dX3_indexOf_24 ?_
  refine r_iald C rfl dX3_indexOf_25 (fun x4 => ?_)
  refine r_iand C dX3_indexOf_26 ?_
  refine r_insI (As := [.inl (a1 &&& x4)]) (st := []) C il_X3_81 co_J6_bitCount_0f7a4 (c_J6_bitCount_0f7a4 (a1 &&& x4) m3) (by decide) (by decide) rfl rfl (Nat.le_of_ble_eq_true rfl) dX3_indexOf_27 (fun r6 m5 => ?_)
  refine r_istore (lv' := [some (.inr (3, k)), some (.inl a1), some (.inl a2), some (.inl v1), some (.inl v2), some (.inl r6)]) C dX3_indexOf_30 (by decide) rfl ?_
  refine r_iload_n C dX3_indexOf_32 rfl rfl ?_
  refine r_iload C dX3_indexOf_33 rfl ?_
  refine r_iconst (v := 1) C dX3_indexOf_35 (by decide) ?_
  refine r_iand C dX3_indexOf_36 ?_
  refine r_iload C dX3_indexOf_37 rfl ?_
  refine r_ishl C dX3_indexOf_39 ?_
  refine r_ior C dX3_indexOf_40 ?_
  refine r_let (fun x7 => ?_)
  refine r_istore_n (lv' := [some (.inr (3, k)), some (.inl a1), some (.inl a2), some (.inl x7), some (.inl v2), some (.inl r6)]) C dX3_indexOf_41 rfl (by decide) rfl ?_
  refine r_iinc (v := 1) C dX3_indexOf_42 (by decide) rfl (by decide) (fun x8 => ?_)
  show gw X eI _ [some (.inr (3, k)), some (.inl a1), some (.inl a2), some (.inl x7), some (.inl x8), some (.inl r6)] _ _ _
  refine r_goto (tgt := 5) C dX3_indexOf_45 (by decide) ?_
  exact r_weak (lv' := [some (.inr (3, k)), some (.inl a1), some (.inl a2), some (.inl x7), some (.inl x8), none]) ⟨rfl, rfl, rfl, rfl, rfl, trivial⟩ (hk5 _ _ _)
theorem dX3_placeIn_0 : decode cX3_placeIn 0 = .ok (.iload_n 2, 1) := by decide +kernel
theorem dX3_placeIn_1 : decode cX3_placeIn 1 = .ok (.bipush 16, 2) := by decide +kernel
theorem dX3_placeIn_3 : decode cX3_placeIn 3 = .ok (.imul, 1) := by decide +kernel
theorem dX3_placeIn_4 : decode cX3_placeIn 4 = .ok (.aload_n 0, 1) := by decide +kernel
theorem dX3_placeIn_5 : decode cX3_placeIn 5 = .ok (.iload_n 1, 1) := by decide +kernel
theorem dX3_placeIn_6 : decode cX3_placeIn 6 = .ok (.iload_n 2, 1) := by decide +kernel
theorem dX3_placeIn_7 : decode cX3_placeIn 7 = .ok (.invokevirtual 87, 3) := by decide +kernel
theorem dX3_placeIn_10 : decode cX3_placeIn 10 = .ok (.iadd, 1) := by decide +kernel
theorem dX3_placeIn_11 : decode cX3_placeIn 11 = .ok (.ireturn, 1) := by decide +kernel
def X3_placeIn (k : Nat) (a1 : Int32) (a2 : Int32) (m : gM) : Option (Int32 × gM) :=
  gCall (X3_indexOf k a1 a2 m) (fun (r2 : Int32) (m1 : gM) => some ((a2 * 16) + r2, m1))
set_option maxRecDepth 100000 in
set_option maxHeartbeats 4000000 in
theorem c_X3_placeIn (k : Nat) (a1 : Int32) (a2 : Int32) (m : gM) : gCon eI yX3_placeIn cX3_placeIn 3 (some .int) 2 [.inr (3, k), .inl a1, .inl a2] m (X3_placeIn k a1 a2 m) := by
  refine gCon.of (lv := [some (.inr (3, k)), some (.inl a1), some (.inl a2)]) (by decide +kernel) (Nat.le_of_ble_eq_true rfl) rfl (fun X C => ?_)
  unfold X3_placeIn
  refine r_iload_n C dX3_placeIn_0 rfl rfl ?_
  refine r_bipush (v := 16) C dX3_placeIn_1 (by decide) ?_
  refine r_imul C dX3_placeIn_3 ?_
  refine r_aload_n C dX3_placeIn_4 rfl rfl ?_
  refine r_iload_n C dX3_placeIn_5 rfl rfl ?_
  refine r_iload_n C dX3_placeIn_6 rfl rfl ?_
  refine r_invI (t := 3) (kb := k) (As := [.inl a1, .inl a2]) (st := [.inl (a2 * 16)]) C il_X3_87 co_X3_indexOf (by decide) rfl (c_X3_indexOf k a1 a2 m) (by decide) (by decide) rfl rfl (Nat.le_of_ble_eq_true rfl) dX3_placeIn_7 (fun r2 m1 => ?_)
  refine r_iadd C dX3_placeIn_10 ?_
  exact r_ireturn C dX3_placeIn_11
theorem dX3_placeOf_0 : decode cX3_placeOf 0 = .ok (.iconst 0, 1) := by decide +kernel
theorem dX3_placeOf_1 : decode cX3_placeOf 1 = .ok (.istore_n 2, 1) := by decide +kernel
theorem dX3_placeOf_2 : decode cX3_placeOf 2 = .ok (.iload_n 2, 1) := by decide +kernel
theorem dX3_placeOf_3 : decode cX3_placeOf 3 = .ok (.aload_n 0, 1) := by decide +kernel
theorem dX3_placeOf_4 : decode cX3_placeOf 4 = .ok (.getfield 39, 3) := by decide +kernel
theorem dX3_placeOf_7 : decode cX3_placeOf 7 = .ok (.if_icmp .ge 28, 3) := by decide +kernel
theorem dX3_placeOf_10 : decode cX3_placeOf 10 = .ok (.aload_n 0, 1) := by decide +kernel
theorem dX3_placeOf_11 : decode cX3_placeOf 11 = .ok (.iload_n 1, 1) := by decide +kernel
theorem dX3_placeOf_12 : decode cX3_placeOf 12 = .ok (.iload_n 2, 1) := by decide +kernel
theorem dX3_placeOf_13 : decode cX3_placeOf 13 = .ok (.invokevirtual 90, 3) := by decide +kernel
theorem dX3_placeOf_16 : decode cX3_placeOf 16 = .ok (.istore_n 3, 1) := by decide +kernel
theorem dX3_placeOf_17 : decode cX3_placeOf 17 = .ok (.aload_n 0, 1) := by decide +kernel
theorem dX3_placeOf_18 : decode cX3_placeOf 18 = .ok (.getfield 24, 3) := by decide +kernel
theorem dX3_placeOf_21 : decode cX3_placeOf 21 = .ok (.iload_n 3, 1) := by decide +kernel
theorem dX3_placeOf_22 : decode cX3_placeOf 22 = .ok (.iaload, 1) := by decide +kernel
theorem dX3_placeOf_23 : decode cX3_placeOf 23 = .ok (.iload_n 1, 1) := by decide +kernel
theorem dX3_placeOf_24 : decode cX3_placeOf 24 = .ok (.if_icmp .ne 5, 3) := by decide +kernel
theorem dX3_placeOf_27 : decode cX3_placeOf 27 = .ok (.iload_n 3, 1) := by decide +kernel
theorem dX3_placeOf_28 : decode cX3_placeOf 28 = .ok (.ireturn, 1) := by decide +kernel
theorem dX3_placeOf_29 : decode cX3_placeOf 29 = .ok (.iinc 2 1, 3) := by decide +kernel
theorem dX3_placeOf_32 : decode cX3_placeOf 32 = .ok (.goto (-30), 3) := by decide +kernel
theorem dX3_placeOf_35 : decode cX3_placeOf 35 = .ok (.iconst (-1), 1) := by decide +kernel
theorem dX3_placeOf_36 : decode cX3_placeOf 36 = .ok (.ireturn, 1) := by decide +kernel
def X3_placeOf_b2 (k : Nat) (a1 : Int32) (v1 : Int32) (m2 : gM) (k2 : Int32 → gM → Option (Int32 × gM)) : Option (Int32 × gM) :=
  if (m2 3 k 0) ≤ v1 then (some ((-1), m2)) else (gCall (X3_placeIn k a1 v1 m2) (fun (r4 : Int32) (m3 : gM) => gAt m3 29 k r4 (fun (x5 : Int32) => if x5 = a1 then (some (r4, m3)) else (gLet (v1 + 1) (fun (x6 : Int32) => k2 x6 m3)))))
def X3_placeOf (k : Nat) (a1 : Int32) (m : gM) : Option (Int32 × gM) :=
  gL1 FU (X3_placeOf_b2 k a1) 0 m
set_option maxRecDepth 100000 in
set_option maxHeartbeats 4000000 in
theorem c_X3_placeOf (k : Nat) (a1 : Int32) (m : gM) : gCon eI yX3_placeOf cX3_placeOf 4 (some .int) 3 [.inr (3, k), .inl a1] m (X3_placeOf k a1 m) := by
  refine gCon.of (lv := [some (.inr (3, k)), some (.inl a1), none, none]) (by decide +kernel) (Nat.le_of_ble_eq_true rfl) rfl (fun X C => ?_)
  unfold X3_placeOf
  refine r_iconst (v := 0) C dX3_placeOf_0 (by decide) ?_
  refine r_istore_n (lv' := [some (.inr (3, k)), some (.inl a1), some (.inl 0), none]) C dX3_placeOf_1 rfl (by decide) rfl ?_
  refine r_weak (lv' := [some (.inr (3, k)), some (.inl a1), some (.inl 0), none]) ⟨rfl, rfl, rfl, trivial⟩ ?_
  refine r_l1 (pj := 2) (fun v1 => [some (.inr (3, k)), some (.inl a1), some (.inl v1), none]) (fun v1 m2 k2 hk2 => ?_) _ _ _
  unfold X3_placeOf_b2
  refine r_iload_n C dX3_placeOf_2 rfl rfl ?_
  refine r_aload_n C dX3_placeOf_3 rfl rfl ?_
  refine r_get (v := .inl (m2 3 k 0)) C fl_X3_39 dX3_placeOf_4 rfl ?_
  refine r_icmp_ge (tgt := 35) C dX3_placeOf_7 (by decide) ?_ ?_
  · refine r_iconst (v := (-1)) C dX3_placeOf_35 (by decide) ?_
    exact r_ireturn C dX3_placeOf_36
  refine r_aload_n C dX3_placeOf_10 rfl rfl ?_
  refine r_iload_n C dX3_placeOf_11 rfl rfl ?_
  refine r_iload_n C dX3_placeOf_12 rfl rfl ?_
  refine r_invI (t := 3) (kb := k) (As := [.inl a1, .inl v1]) (st := []) C il_X3_90 co_X3_placeIn (by decide) rfl (c_X3_placeIn k a1 v1 m2) (by decide) (by decide) rfl rfl (Nat.le_of_ble_eq_true rfl) dX3_placeOf_13 (fun r4 m3 => ?_)
  refine r_istore_n (lv' := [some (.inr (3, k)), some (.inl a1), some (.inl v1), some (.inl r4)]) C dX3_placeOf_16 rfl (by decide) rfl ?_
  refine r_aload_n C dX3_placeOf_17 rfl rfl ?_
  refine r_get (v := .inr (29, k)) C fl_X3_24 dX3_placeOf_18 rfl ?_
  refine r_iload_n C dX3_placeOf_21 rfl rfl ?_
  refine r_iald C rfl dX3_placeOf_22 (fun x5 => ?_)
  refine r_iload_n C dX3_placeOf_23 rfl rfl ?_
  refine r_icmp_ne (tgt := 29) C dX3_placeOf_24 (by decide) ?_ ?_
  · refine r_iinc (v := 1) C dX3_placeOf_29 (by decide) rfl (by decide) (fun x6 => ?_)
    show gw X eI _ [some (.inr (3, k)), some (.inl a1), some (.inl x6), some (.inl r4)] _ _ _
    refine r_goto (tgt := 2) C dX3_placeOf_32 (by decide) ?_
    exact r_weak (lv' := [some (.inr (3, k)), some (.inl a1), some (.inl x6), none]) ⟨rfl, rfl, rfl, trivial⟩ (hk2 _ _)
  refine r_iload_n C dX3_placeOf_27 rfl rfl ?_
  exact r_ireturn C dX3_placeOf_28
theorem dJ7_fill_53178_0 : decode cJ7_fill_53178 0 = .ok (.iconst 0, 1) := by decide +kernel
theorem dJ7_fill_53178_1 : decode cJ7_fill_53178 1 = .ok (.istore_n 2, 1) := by decide +kernel
theorem dJ7_fill_53178_2 : decode cJ7_fill_53178 2 = .ok (.aload_n 0, 1) := by decide +kernel
theorem dJ7_fill_53178_3 : decode cJ7_fill_53178 3 = .ok (.arraylength, 1) := by decide +kernel
theorem dJ7_fill_53178_4 : decode cJ7_fill_53178 4 = .ok (.istore_n 3, 1) := by decide +kernel
theorem dJ7_fill_53178_5 : decode cJ7_fill_53178 5 = .ok (.iload_n 2, 1) := by decide +kernel
theorem dJ7_fill_53178_6 : decode cJ7_fill_53178 6 = .ok (.iload_n 3, 1) := by decide +kernel
theorem dJ7_fill_53178_7 : decode cJ7_fill_53178 7 = .ok (.if_icmp .ge 13, 3) := by decide +kernel
theorem dJ7_fill_53178_10 : decode cJ7_fill_53178 10 = .ok (.aload_n 0, 1) := by decide +kernel
theorem dJ7_fill_53178_11 : decode cJ7_fill_53178 11 = .ok (.iload_n 2, 1) := by decide +kernel
theorem dJ7_fill_53178_12 : decode cJ7_fill_53178 12 = .ok (.iload_n 1, 1) := by decide +kernel
theorem dJ7_fill_53178_13 : decode cJ7_fill_53178 13 = .ok (.iastore, 1) := by decide +kernel
theorem dJ7_fill_53178_14 : decode cJ7_fill_53178 14 = .ok (.iinc 2 1, 3) := by decide +kernel
theorem dJ7_fill_53178_17 : decode cJ7_fill_53178 17 = .ok (.goto (-12), 3) := by decide +kernel
theorem dJ7_fill_53178_20 : decode cJ7_fill_53178 20 = .ok (.return_, 1) := by decide +kernel
def J7_fill_53178_b5 (t1 : Nat) (u1 : Nat) (a2 : Int32) (x1 : Int32) (v2 : Int32) (m3 : gM) (k5 : Int32 → gM → Option (Unit × gM)) : Option (Unit × gM) :=
  if x1 ≤ v2 then (some ((), m3)) else (gPut m3 t1 u1 v2 a2 (fun (m4 : gM) => gLet (v2 + 1) (fun (x5 : Int32) => k5 x5 m4)))
def J7_fill_53178 (t1 u1 : Nat) (a2 : Int32) (m : gM) : Option (Unit × gM) :=
  gLet (Int32.ofNat (glen t1)) (fun (x1 : Int32) => gL1 FU (J7_fill_53178_b5 t1 u1 a2 x1) 0 m)
set_option maxRecDepth 100000 in
set_option maxHeartbeats 4000000 in
theorem c_J7_fill_53178 (t1 u1 : Nat) (a2 : Int32) (ht1 : gia t1 = true) (m : gM) : gCon eU yJ7_fill_53178 cJ7_fill_53178 4 none 0 [.inr (t1, u1), .inl a2] m (J7_fill_53178 t1 u1 a2 m) := by
  refine gCon.of (lv := [some (.inr (t1, u1)), some (.inl a2), none, none]) (by decide +kernel) (Nat.le_of_ble_eq_true rfl) rfl (fun X C => ?_)
  unfold J7_fill_53178
  refine r_iconst (v := 0) C dJ7_fill_53178_0 (by decide) ?_
  refine r_istore_n (lv' := [some (.inr (t1, u1)), some (.inl a2), some (.inl 0), none]) C dJ7_fill_53178_1 rfl (by decide) rfl ?_
  refine r_aload_n C dJ7_fill_53178_2 rfl rfl ?_
  refine r_alen C (gia_spec ht1).1 rfl dJ7_fill_53178_3 ?_
  refine r_let (fun x1 => ?_)
  refine r_istore_n (lv' := [some (.inr (t1, u1)), some (.inl a2), some (.inl 0), some (.inl x1)]) C dJ7_fill_53178_4 rfl (by decide) rfl ?_
  refine r_weak (lv' := [some (.inr (t1, u1)), some (.inl a2), some (.inl 0), some (.inl x1)]) ⟨rfl, rfl, rfl, rfl, trivial⟩ ?_
  refine r_l1 (pj := 5) (fun v2 => [some (.inr (t1, u1)), some (.inl a2), some (.inl v2), some (.inl x1)]) (fun v2 m3 k5 hk5 => ?_) _ _ _
  unfold J7_fill_53178_b5
  refine r_iload_n C dJ7_fill_53178_5 rfl rfl ?_
  refine r_iload_n C dJ7_fill_53178_6 rfl rfl ?_
  refine r_icmp_ge (tgt := 20) C dJ7_fill_53178_7 (by decide) ?_ ?_
  · exact r_return C dJ7_fill_53178_20
  refine r_aload_n C dJ7_fill_53178_10 rfl rfl ?_
  refine r_iload_n C dJ7_fill_53178_11 rfl rfl ?_
  refine r_iload_n C dJ7_fill_53178_12 rfl rfl ?_
  refine r_iast C ht1 dJ7_fill_53178_13 (fun m4 => ?_)
  refine r_iinc (v := 1) C dJ7_fill_53178_14 (by decide) rfl (by decide) (fun x5 => ?_)
  show gw X eU _ [some (.inr (t1, u1)), some (.inl a2), some (.inl x5), some (.inl x1)] _ _ _
  refine r_goto (tgt := 5) C dJ7_fill_53178_17 (by decide) ?_
  exact r_weak (lv' := [some (.inr (t1, u1)), some (.inl a2), some (.inl x5), some (.inl x1)]) ⟨rfl, rfl, rfl, rfl, trivial⟩ (hk5 _ _)
theorem dX1_addSlotsOf_0 : decode cX1_addSlotsOf 0 = .ok (.iconst 0, 1) := by decide +kernel
theorem dX1_addSlotsOf_1 : decode cX1_addSlotsOf 1 = .ok (.istore 5, 2) := by decide +kernel
theorem dX1_addSlotsOf_3 : decode cX1_addSlotsOf 3 = .ok (.iload 5, 2) := by decide +kernel
theorem dX1_addSlotsOf_5 : decode cX1_addSlotsOf 5 = .ok (.aload_n 1, 1) := by decide +kernel
theorem dX1_addSlotsOf_6 : decode cX1_addSlotsOf 6 = .ok (.getfield 48, 3) := by decide +kernel
theorem dX1_addSlotsOf_9 : decode cX1_addSlotsOf 9 = .ok (.if_icmp .ge 111, 3) := by decide +kernel
theorem dX1_addSlotsOf_12 : decode cX1_addSlotsOf 12 = .ok (.iload 5, 2) := by decide +kernel
theorem dX1_addSlotsOf_14 : decode cX1_addSlotsOf 14 = .ok (.bipush 16, 2) := by decide +kernel
theorem dX1_addSlotsOf_16 : decode cX1_addSlotsOf 16 = .ok (.imul, 1) := by decide +kernel
theorem dX1_addSlotsOf_17 : decode cX1_addSlotsOf 17 = .ok (.aload_n 1, 1) := by decide +kernel
theorem dX1_addSlotsOf_18 : decode cX1_addSlotsOf 18 = .ok (.iload_n 2, 1) := by decide +kernel
theorem dX1_addSlotsOf_19 : decode cX1_addSlotsOf 19 = .ok (.iload 5, 2) := by decide +kernel
theorem dX1_addSlotsOf_21 : decode cX1_addSlotsOf 21 = .ok (.invokevirtual 51, 3) := by decide +kernel
theorem dX1_addSlotsOf_24 : decode cX1_addSlotsOf 24 = .ok (.iadd, 1) := by decide +kernel
theorem dX1_addSlotsOf_25 : decode cX1_addSlotsOf 25 = .ok (.istore 6, 2) := by decide +kernel
theorem dX1_addSlotsOf_27 : decode cX1_addSlotsOf 27 = .ok (.iload 5, 2) := by decide +kernel
theorem dX1_addSlotsOf_29 : decode cX1_addSlotsOf 29 = .ok (.iload_n 3, 1) := by decide +kernel
theorem dX1_addSlotsOf_30 : decode cX1_addSlotsOf 30 = .ok (.if_icmp .eq 27, 3) := by decide +kernel
theorem dX1_addSlotsOf_33 : decode cX1_addSlotsOf 33 = .ok (.aload_n 0, 1) := by decide +kernel
theorem dX1_addSlotsOf_34 : decode cX1_addSlotsOf 34 = .ok (.getfield 18, 3) := by decide +kernel
theorem dX1_addSlotsOf_37 : decode cX1_addSlotsOf 37 = .ok (.iload 6, 2) := by decide +kernel
theorem dX1_addSlotsOf_39 : decode cX1_addSlotsOf 39 = .ok (.iaload, 1) := by decide +kernel
theorem dX1_addSlotsOf_40 : decode cX1_addSlotsOf 40 = .ok (.ifCond .ne 17, 3) := by decide +kernel
theorem dX1_addSlotsOf_43 : decode cX1_addSlotsOf 43 = .ok (.aload_n 1, 1) := by decide +kernel
theorem dX1_addSlotsOf_44 : decode cX1_addSlotsOf 44 = .ok (.getfield 55, 3) := by decide +kernel
theorem dX1_addSlotsOf_47 : decode cX1_addSlotsOf 47 = .ok (.iload 6, 2) := by decide +kernel
theorem dX1_addSlotsOf_49 : decode cX1_addSlotsOf 49 = .ok (.iaload, 1) := by decide +kernel
theorem dX1_addSlotsOf_50 : decode cX1_addSlotsOf 50 = .ok (.ifCond .ne 7, 3) := by decide +kernel
theorem dX1_addSlotsOf_53 : decode cX1_addSlotsOf 53 = .ok (.iconst 1, 1) := by decide +kernel
theorem dX1_addSlotsOf_54 : decode cX1_addSlotsOf 54 = .ok (.goto 4, 3) := by decide +kernel
theorem dX1_addSlotsOf_57 : decode cX1_addSlotsOf 57 = .ok (.iconst 0, 1) := by decide +kernel
theorem dX1_addSlotsOf_58 : decode cX1_addSlotsOf 58 = .ok (.istore 7, 2) := by decide +kernel
theorem dX1_addSlotsOf_60 : decode cX1_addSlotsOf 60 = .ok (.iload 7, 2) := by decide +kernel
theorem dX1_addSlotsOf_62 : decode cX1_addSlotsOf 62 = .ok (.ifCond .eq 52, 3) := by decide +kernel
theorem dX1_addSlotsOf_65 : decode cX1_addSlotsOf 65 = .ok (.aload_n 0, 1) := by decide +kernel
theorem dX1_addSlotsOf_66 : decode cX1_addSlotsOf 66 = .ok (.getfield 31, 3) := by decide +kernel
theorem dX1_addSlotsOf_69 : decode cX1_addSlotsOf 69 = .ok (.bipush 64, 2) := by decide +kernel
theorem dX1_addSlotsOf_71 : decode cX1_addSlotsOf 71 = .ok (.if_icmp .ge 43, 3) := by decide +kernel
theorem dX1_addSlotsOf_74 : decode cX1_addSlotsOf 74 = .ok (.aload_n 0, 1) := by decide +kernel
theorem dX1_addSlotsOf_75 : decode cX1_addSlotsOf 75 = .ok (.getfield 18, 3) := by decide +kernel
theorem dX1_addSlotsOf_78 : decode cX1_addSlotsOf 78 = .ok (.iload 6, 2) := by decide +kernel
theorem dX1_addSlotsOf_80 : decode cX1_addSlotsOf 80 = .ok (.iconst 1, 1) := by decide +kernel
theorem dX1_addSlotsOf_81 : decode cX1_addSlotsOf 81 = .ok (.iastore, 1) := by decide +kernel
theorem dX1_addSlotsOf_82 : decode cX1_addSlotsOf 82 = .ok (.aload_n 0, 1) := by decide +kernel
theorem dX1_addSlotsOf_83 : decode cX1_addSlotsOf 83 = .ok (.getfield 9, 3) := by decide +kernel
theorem dX1_addSlotsOf_86 : decode cX1_addSlotsOf 86 = .ok (.aload_n 0, 1) := by decide +kernel
theorem dX1_addSlotsOf_87 : decode cX1_addSlotsOf 87 = .ok (.getfield 31, 3) := by decide +kernel
theorem dX1_addSlotsOf_90 : decode cX1_addSlotsOf 90 = .ok (.iload 6, 2) := by decide +kernel
theorem dX1_addSlotsOf_92 : decode cX1_addSlotsOf 92 = .ok (.iastore, 1) := by decide +kernel
theorem dX1_addSlotsOf_93 : decode cX1_addSlotsOf 93 = .ok (.aload_n 0, 1) := by decide +kernel
theorem dX1_addSlotsOf_94 : decode cX1_addSlotsOf 94 = .ok (.getfield 15, 3) := by decide +kernel
theorem dX1_addSlotsOf_97 : decode cX1_addSlotsOf 97 = .ok (.aload_n 0, 1) := by decide +kernel
theorem dX1_addSlotsOf_98 : decode cX1_addSlotsOf 98 = .ok (.getfield 31, 3) := by decide +kernel
theorem dX1_addSlotsOf_101 : decode cX1_addSlotsOf 101 = .ok (.iload 4, 2) := by decide +kernel
theorem dX1_addSlotsOf_103 : decode cX1_addSlotsOf 103 = .ok (.iastore, 1) := by decide +kernel
theorem dX1_addSlotsOf_104 : decode cX1_addSlotsOf 104 = .ok (.aload_n 0, 1) := by decide +kernel
theorem dX1_addSlotsOf_105 : decode cX1_addSlotsOf 105 = .ok (.dup, 1) := by decide +kernel
theorem dX1_addSlotsOf_106 : decode cX1_addSlotsOf 106 = .ok (.getfield 31, 3) := by decide +kernel
theorem dX1_addSlotsOf_109 : decode cX1_addSlotsOf 109 = .ok (.iconst 1, 1) := by decide +kernel
theorem dX1_addSlotsOf_110 : decode cX1_addSlotsOf 110 = .ok (.iadd, 1) := by decide +kernel
theorem dX1_addSlotsOf_111 : decode cX1_addSlotsOf 111 = .ok (.putfield 31, 3) := by decide +kernel
theorem dX1_addSlotsOf_114 : decode cX1_addSlotsOf 114 = .ok (.iinc 5 1, 3) := by decide +kernel
theorem dX1_addSlotsOf_117 : decode cX1_addSlotsOf 117 = .ok (.goto (-114), 3) := by decide +kernel
theorem dX1_addSlotsOf_120 : decode cX1_addSlotsOf 120 = .ok (.return_, 1) := by decide +kernel
def X1_addSlotsOf_b3 (o1 : Nat) (a2 : Int32) (a3 : Int32) (a4 : Int32) (v1 : Int32) (m2 : gM) (k3 : Int32 → gM → Option (Unit × gM)) : Option (Unit × gM) :=
  if (m2 3 o1 0) ≤ v1 then (some ((), m2)) else (gCall (X3_indexOf o1 a2 v1 m2) (fun (r4 : Int32) (m3 : gM) => gLet ((v1 * 16) + r4) (fun (x5 : Int32) => gJ1 (fun (w6 : Int32) (m7 : gM) => if w6 = 0 then (gLet (v1 + 1) (fun (x8 : Int32) => k3 x8 m7)) else (if 64 ≤ (m7 1 0 3) then (gLet (v1 + 1) (fun (x9 : Int32) => k3 x9 m7)) else (gPut m7 19 0 x5 1 (fun (m10 : gM) => gPut m10 17 0 (m10 1 0 3) x5 (fun (m11 : gM) => gPut m11 18 0 (m11 1 0 3) a4 (fun (m12 : gM) => gLet ((m12 1 0 3) + 1) (fun (x13 : Int32) => gSet m12 1 0 3 x13 (fun (m14 : gM) => gLet (v1 + 1) (fun (x15 : Int32) => k3 x15 m14))))))))) (fun (j58 : Int32 → gM → Option (Unit × gM)) => gJ0 (fun (m16 : gM) => j58 0 m16) (fun (j57 : gM → Option (Unit × gM)) => if v1 = a3 then (j57 m3) else (gAt m3 19 0 x5 (fun (x17 : Int32) => if x17 = 0 then (gAt m3 33 o1 x5 (fun (x18 : Int32) => if x18 = 0 then (j58 1 m3) else (j57 m3))) else (j57 m3))))))))
def X1_addSlotsOf (o1 : Nat) (a2 : Int32) (a3 : Int32) (a4 : Int32) (m : gM) : Option (Unit × gM) :=
  gL1 FU (X1_addSlotsOf_b3 o1 a2 a3 a4) 0 m
set_option maxRecDepth 100000 in
set_option maxHeartbeats 4000000 in
theorem c_X1_addSlotsOf (o1 : Nat) (a2 : Int32) (a3 : Int32) (a4 : Int32) (m : gM) : gCon eU yX1_addSlotsOf cX1_addSlotsOf 8 none 2 [.inr (1, 0), .inr (3, o1), .inl a2, .inl a3, .inl a4] m (X1_addSlotsOf o1 a2 a3 a4 m) := by
  refine gCon.of (lv := [some (.inr (1, 0)), some (.inr (3, o1)), some (.inl a2), some (.inl a3), some (.inl a4), none, none, none]) (by decide +kernel) (Nat.le_of_ble_eq_true rfl) rfl (fun X C => ?_)
  unfold X1_addSlotsOf
  refine r_iconst (v := 0) C dX1_addSlotsOf_0 (by decide) ?_
  refine r_istore (lv' := [some (.inr (1, 0)), some (.inr (3, o1)), some (.inl a2), some (.inl a3), some (.inl a4), some (.inl 0), none, none]) C dX1_addSlotsOf_1 (by decide) rfl ?_
  refine r_weak (lv' := [some (.inr (1, 0)), some (.inr (3, o1)), some (.inl a2), some (.inl a3), some (.inl a4), some (.inl 0), none, none]) ⟨rfl, rfl, rfl, rfl, rfl, rfl, trivial⟩ ?_
  refine r_l1 (pj := 3) (fun v1 => [some (.inr (1, 0)), some (.inr (3, o1)), some (.inl a2), some (.inl a3), some (.inl a4), some (.inl v1), none, none]) (fun v1 m2 k3 hk3 => ?_) _ _ _
  unfold X1_addSlotsOf_b3
  refine r_iload C dX1_addSlotsOf_3 rfl ?_
  refine r_aload_n C dX1_addSlotsOf_5 rfl rfl ?_
  refine r_get (v := .inl (m2 3 o1 0)) C fl_X1_48 dX1_addSlotsOf_6 rfl ?_
  refine r_icmp_ge (tgt := 120) C dX1_addSlotsOf_9 (by decide) ?_ ?_
  · exact r_return C dX1_addSlotsOf_120
  refine r_iload C dX1_addSlotsOf_12 rfl ?_
  refine r_bipush (v := 16) C dX1_addSlotsOf_14 (by decide) ?_
  refine r_imul C dX1_addSlotsOf_16 ?_
  refine r_aload_n C dX1_addSlotsOf_17 rfl rfl ?_
  refine r_iload_n C dX1_addSlotsOf_18 rfl rfl ?_
  refine r_iload C dX1_addSlotsOf_19 rfl ?_
  refine r_invI (t := 3) (kb := o1) (As := [.inl a2, .inl v1]) (st := [.inl (v1 * 16)]) C il_X1_51 co_X3_indexOf (by decide) rfl (c_X3_indexOf o1 a2 v1 m2) (by decide) (by decide) rfl rfl (Nat.le_of_ble_eq_true rfl) dX1_addSlotsOf_21 (fun r4 m3 => ?_)
  refine r_iadd C dX1_addSlotsOf_24 ?_
  refine r_let (fun x5 => ?_)
  refine r_istore (lv' := [some (.inr (1, 0)), some (.inr (3, o1)), some (.inl a2), some (.inl a3), some (.inl a4), some (.inl v1), some (.inl x5), none]) C dX1_addSlotsOf_25 (by decide) rfl ?_
  refine r_iload C dX1_addSlotsOf_27 rfl ?_
  refine r_iload_n C dX1_addSlotsOf_29 rfl rfl ?_
  refine r_j1 58 (fun w6 => [some (.inr (1, 0)), some (.inr (3, o1)), some (.inl a2), some (.inl a3), some (.inl a4), some (.inl v1), some (.inl x5), none]) (fun w6 => [.inl w6]) (fun w6 m7 => ?_) (fun j58 hj58 => ?_)
  · refine r_istore (lv' := [some (.inr (1, 0)), some (.inr (3, o1)), some (.inl a2), some (.inl a3), some (.inl a4), some (.inl v1), some (.inl x5), some (.inl w6)]) C dX1_addSlotsOf_58 (by decide) rfl ?_
    refine r_iload C dX1_addSlotsOf_60 rfl ?_
    refine r_if_eq (tgt := 114) C dX1_addSlotsOf_62 (by decide) ?_ ?_
    · refine r_iinc (v := 1) C dX1_addSlotsOf_114 (by decide) rfl (by decide) (fun x8 => ?_)
      show gw X eU _ [some (.inr (1, 0)), some (.inr (3, o1)), some (.inl a2), some (.inl a3), some (.inl a4), some (.inl x8), some (.inl x5), some (.inl w6)] _ _ _
      refine r_goto (tgt := 3) C dX1_addSlotsOf_117 (by decide) ?_
      exact r_weak (lv' := [some (.inr (1, 0)), some (.inr (3, o1)), some (.inl a2), some (.inl a3), some (.inl a4), some (.inl x8), none, none]) ⟨rfl, rfl, rfl, rfl, rfl, rfl, trivial⟩ (hk3 _ _)
    refine r_aload_n C dX1_addSlotsOf_65 rfl rfl ?_
    refine r_get (v := .inl (m7 1 0 3)) C fl_X1_31 dX1_addSlotsOf_66 rfl ?_
    refine r_bipush (v := 64) C dX1_addSlotsOf_69 (by decide) ?_
    refine r_icmp_ge (tgt := 114) C dX1_addSlotsOf_71 (by decide) ?_ ?_
    · refine r_iinc (v := 1) C dX1_addSlotsOf_114 (by decide) rfl (by decide) (fun x9 => ?_)
      show gw X eU _ [some (.inr (1, 0)), some (.inr (3, o1)), some (.inl a2), some (.inl a3), some (.inl a4), some (.inl x9), some (.inl x5), some (.inl w6)] _ _ _
      refine r_goto (tgt := 3) C dX1_addSlotsOf_117 (by decide) ?_
      exact r_weak (lv' := [some (.inr (1, 0)), some (.inr (3, o1)), some (.inl a2), some (.inl a3), some (.inl a4), some (.inl x9), none, none]) ⟨rfl, rfl, rfl, rfl, rfl, rfl, trivial⟩ (hk3 _ _)
    refine r_aload_n C dX1_addSlotsOf_74 rfl rfl ?_
    refine r_get (v := .inr (19, 0)) C fl_X1_18 dX1_addSlotsOf_75 rfl ?_
    refine r_iload C dX1_addSlotsOf_78 rfl ?_
    refine r_iconst (v := 1) C dX1_addSlotsOf_80 (by decide) ?_
    refine r_iast C rfl dX1_addSlotsOf_81 (fun m10 => ?_)
    refine r_aload_n C dX1_addSlotsOf_82 rfl rfl ?_
    refine r_get (v := .inr (17, 0)) C fl_X1_9 dX1_addSlotsOf_83 rfl ?_
    refine r_aload_n C dX1_addSlotsOf_86 rfl rfl ?_
    refine r_get (v := .inl (m10 1 0 3)) C fl_X1_31 dX1_addSlotsOf_87 rfl ?_
    refine r_iload C dX1_addSlotsOf_90 rfl ?_
    refine r_iast C rfl dX1_addSlotsOf_92 (fun m11 => ?_)
    refine r_aload_n C dX1_addSlotsOf_93 rfl rfl ?_
    refine r_get (v := .inr (18, 0)) C fl_X1_15 dX1_addSlotsOf_94 rfl ?_
    refine r_aload_n C dX1_addSlotsOf_97 rfl rfl ?_
    refine r_get (v := .inl (m11 1 0 3)) C fl_X1_31 dX1_addSlotsOf_98 rfl ?_
    refine r_iload C dX1_addSlotsOf_101 rfl ?_
    refine r_iast C rfl dX1_addSlotsOf_103 (fun m12 => ?_)
    refine r_aload_n C dX1_addSlotsOf_104 rfl rfl ?_
    refine r_dup C dX1_addSlotsOf_105 ?_
    refine r_get (v := .inl (m12 1 0 3)) C fl_X1_31 dX1_addSlotsOf_106 rfl ?_
    refine r_iconst (v := 1) C dX1_addSlotsOf_109 (by decide) ?_
    refine r_iadd C dX1_addSlotsOf_110 ?_
    refine r_let (fun x13 => ?_)
    refine r_put C fl_X1_31 rfl rfl rfl dX1_addSlotsOf_111 (fun m14 => ?_)
    refine r_iinc (v := 1) C dX1_addSlotsOf_114 (by decide) rfl (by decide) (fun x15 => ?_)
    show gw X eU _ [some (.inr (1, 0)), some (.inr (3, o1)), some (.inl a2), some (.inl a3), some (.inl a4), some (.inl x15), some (.inl x5), some (.inl w6)] _ _ _
    refine r_goto (tgt := 3) C dX1_addSlotsOf_117 (by decide) ?_
    exact r_weak (lv' := [some (.inr (1, 0)), some (.inr (3, o1)), some (.inl a2), some (.inl a3), some (.inl a4), some (.inl x15), none, none]) ⟨rfl, rfl, rfl, rfl, rfl, rfl, trivial⟩ (hk3 _ _)
  refine r_j0 57 [some (.inr (1, 0)), some (.inr (3, o1)), some (.inl a2), some (.inl a3), some (.inl a4), some (.inl v1), some (.inl x5), none] [] (fun m16 => ?_) (fun j57 hj57 => ?_)
  · refine r_iconst (v := 0) C dX1_addSlotsOf_57 (by decide) ?_
    exact r_weak (lv' := [some (.inr (1, 0)), some (.inr (3, o1)), some (.inl a2), some (.inl a3), some (.inl a4), some (.inl v1), some (.inl x5), none]) ⟨rfl, rfl, rfl, rfl, rfl, rfl, rfl, trivial⟩ (hj58 _ _)
  refine r_icmp_eq (tgt := 57) C dX1_addSlotsOf_30 (by decide) ?_ ?_
  · exact r_weak (lv' := [some (.inr (1, 0)), some (.inr (3, o1)), some (.inl a2), some (.inl a3), some (.inl a4), some (.inl v1), some (.inl x5), none]) ⟨rfl, rfl, rfl, rfl, rfl, rfl, rfl, trivial⟩ (hj57 _)
  refine r_aload_n C dX1_addSlotsOf_33 rfl rfl ?_
  refine r_get (v := .inr (19, 0)) C fl_X1_18 dX1_addSlotsOf_34 rfl ?_
  refine r_iload C dX1_addSlotsOf_37 rfl ?_
  refine r_iald C rfl dX1_addSlotsOf_39 (fun x17 => ?_)
  refine r_if_ne (tgt := 57) C dX1_addSlotsOf_40 (by decide) ?_ ?_
  · exact r_weak (lv' := [some (.inr (1, 0)), some (.inr (3, o1)), some (.inl a2), some (.inl a3), some (.inl a4), some (.inl v1), some (.inl x5), none]) ⟨rfl, rfl, rfl, rfl, rfl, rfl, rfl, trivial⟩ (hj57 _)
  refine r_aload_n C dX1_addSlotsOf_43 rfl rfl ?_
  refine r_get (v := .inr (33, o1)) C fl_X1_55 dX1_addSlotsOf_44 rfl ?_
  refine r_iload C dX1_addSlotsOf_47 rfl ?_
  refine r_iald C rfl dX1_addSlotsOf_49 (fun x18 => ?_)
  refine r_if_ne (tgt := 57) C dX1_addSlotsOf_50 (by decide) ?_ ?_
  · exact r_weak (lv' := [some (.inr (1, 0)), some (.inr (3, o1)), some (.inl a2), some (.inl a3), some (.inl a4), some (.inl v1), some (.inl x5), none]) ⟨rfl, rfl, rfl, rfl, rfl, rfl, rfl, trivial⟩ (hj57 _)
  refine r_iconst (v := 1) C dX1_addSlotsOf_53 (by decide) ?_
  refine r_goto (tgt := 58) C dX1_addSlotsOf_54 (by decide) ?_
  exact r_weak (lv' := [some (.inr (1, 0)), some (.inr (3, o1)), some (.inl a2), some (.inl a3), some (.inl a4), some (.inl v1), some (.inl x5), none]) ⟨rfl, rfl, rfl, rfl, rfl, rfl, rfl, trivial⟩ (hj58 _ _)
theorem dX1_look_0 : decode cX1_look 0 = .ok (.aload_n 0, 1) := by decide +kernel
theorem dX1_look_1 : decode cX1_look 1 = .ok (.iconst 0, 1) := by decide +kernel
theorem dX1_look_2 : decode cX1_look 2 = .ok (.putfield 31, 3) := by decide +kernel
theorem dX1_look_5 : decode cX1_look 5 = .ok (.aload_n 0, 1) := by decide +kernel
theorem dX1_look_6 : decode cX1_look 6 = .ok (.getfield 18, 3) := by decide +kernel
theorem dX1_look_9 : decode cX1_look 9 = .ok (.iconst 0, 1) := by decide +kernel
theorem dX1_look_10 : decode cX1_look 10 = .ok (.invokestatic 35, 3) := by decide +kernel
theorem dX1_look_13 : decode cX1_look 13 = .ok (.aload_n 0, 1) := by decide +kernel
theorem dX1_look_14 : decode cX1_look 14 = .ok (.aload_n 1, 1) := by decide +kernel
theorem dX1_look_15 : decode cX1_look 15 = .ok (.iload_n 2, 1) := by decide +kernel
theorem dX1_look_16 : decode cX1_look 16 = .ok (.iconst (-1), 1) := by decide +kernel
theorem dX1_look_17 : decode cX1_look 17 = .ok (.iconst (-1), 1) := by decide +kernel
theorem dX1_look_18 : decode cX1_look 18 = .ok (.invokevirtual 41, 3) := by decide +kernel
theorem dX1_look_21 : decode cX1_look 21 = .ok (.iconst 0, 1) := by decide +kernel
theorem dX1_look_22 : decode cX1_look 22 = .ok (.istore 4, 2) := by decide +kernel
theorem dX1_look_24 : decode cX1_look 24 = .ok (.iconst 1, 1) := by decide +kernel
theorem dX1_look_25 : decode cX1_look 25 = .ok (.istore 5, 2) := by decide +kernel
theorem dX1_look_27 : decode cX1_look 27 = .ok (.iload 5, 2) := by decide +kernel
theorem dX1_look_29 : decode cX1_look 29 = .ok (.iload_n 3, 1) := by decide +kernel
theorem dX1_look_30 : decode cX1_look 30 = .ok (.if_icmp .gt 75, 3) := by decide +kernel
theorem dX1_look_33 : decode cX1_look 33 = .ok (.aload_n 0, 1) := by decide +kernel
theorem dX1_look_34 : decode cX1_look 34 = .ok (.getfield 31, 3) := by decide +kernel
theorem dX1_look_37 : decode cX1_look 37 = .ok (.istore 6, 2) := by decide +kernel
theorem dX1_look_39 : decode cX1_look 39 = .ok (.iload 4, 2) := by decide +kernel
theorem dX1_look_41 : decode cX1_look 41 = .ok (.istore 7, 2) := by decide +kernel
theorem dX1_look_43 : decode cX1_look 43 = .ok (.iload 7, 2) := by decide +kernel
theorem dX1_look_45 : decode cX1_look 45 = .ok (.iload 6, 2) := by decide +kernel
theorem dX1_look_47 : decode cX1_look 47 = .ok (.if_icmp .ge 48, 3) := by decide +kernel
theorem dX1_look_50 : decode cX1_look 50 = .ok (.aload_n 1, 1) := by decide +kernel
theorem dX1_look_51 : decode cX1_look 51 = .ok (.getfield 45, 3) := by decide +kernel
theorem dX1_look_54 : decode cX1_look 54 = .ok (.aload_n 0, 1) := by decide +kernel
theorem dX1_look_55 : decode cX1_look 55 = .ok (.getfield 9, 3) := by decide +kernel
theorem dX1_look_58 : decode cX1_look 58 = .ok (.iload 7, 2) := by decide +kernel
theorem dX1_look_60 : decode cX1_look 60 = .ok (.iaload, 1) := by decide +kernel
theorem dX1_look_61 : decode cX1_look 61 = .ok (.iaload, 1) := by decide +kernel
theorem dX1_look_62 : decode cX1_look 62 = .ok (.istore 8, 2) := by decide +kernel
theorem dX1_look_64 : decode cX1_look 64 = .ok (.iload 8, 2) := by decide +kernel
theorem dX1_look_66 : decode cX1_look 66 = .ok (.iconst (-1), 1) := by decide +kernel
theorem dX1_look_67 : decode cX1_look 67 = .ok (.if_icmp .eq 22, 3) := by decide +kernel
theorem dX1_look_70 : decode cX1_look 70 = .ok (.aload_n 0, 1) := by decide +kernel
theorem dX1_look_71 : decode cX1_look 71 = .ok (.aload_n 1, 1) := by decide +kernel
theorem dX1_look_72 : decode cX1_look 72 = .ok (.iload 8, 2) := by decide +kernel
theorem dX1_look_74 : decode cX1_look 74 = .ok (.aload_n 0, 1) := by decide +kernel
theorem dX1_look_75 : decode cX1_look 75 = .ok (.getfield 9, 3) := by decide +kernel
theorem dX1_look_78 : decode cX1_look 78 = .ok (.iload 7, 2) := by decide +kernel
theorem dX1_look_80 : decode cX1_look 80 = .ok (.iaload, 1) := by decide +kernel
theorem dX1_look_81 : decode cX1_look 81 = .ok (.bipush 16, 2) := by decide +kernel
theorem dX1_look_83 : decode cX1_look 83 = .ok (.idiv, 1) := by decide +kernel
theorem dX1_look_84 : decode cX1_look 84 = .ok (.iload 7, 2) := by decide +kernel
theorem dX1_look_86 : decode cX1_look 86 = .ok (.invokevirtual 41, 3) := by decide +kernel
theorem dX1_look_89 : decode cX1_look 89 = .ok (.iinc 7 1, 3) := by decide +kernel
theorem dX1_look_92 : decode cX1_look 92 = .ok (.goto (-49), 3) := by decide +kernel
theorem dX1_look_95 : decode cX1_look 95 = .ok (.iload 6, 2) := by decide +kernel
theorem dX1_look_97 : decode cX1_look 97 = .ok (.istore 4, 2) := by decide +kernel
theorem dX1_look_99 : decode cX1_look 99 = .ok (.iinc 5 1, 3) := by decide +kernel
theorem dX1_look_102 : decode cX1_look 102 = .ok (.goto (-75), 3) := by decide +kernel
theorem dX1_look_105 : decode cX1_look 105 = .ok (.return_, 1) := by decide +kernel
def X1_look_b43 (o1 : Nat) (k27 : Int32 → Int32 → gM → Option (Unit × gM)) (m8 : gM) (v7 : Int32) (v9 : Int32) (m10 : gM) (k43 : Int32 → gM → Option (Unit × gM)) : Option (Unit × gM) :=
  if (m8 1 0 3) ≤ v9 then (gLet (v7 + 1) (fun (x11 : Int32) => k27 (m8 1 0 3) x11 m10)) else (gAt m10 17 0 v9 (fun (x12 : Int32) => gAt m10 29 o1 x12 (fun (x13 : Int32) => if x13 = (-1) then (gLet (v9 + 1) (fun (x14 : Int32) => k43 x14 m10)) else (gAt m10 17 0 v9 (fun (x15 : Int32) => gCall (X1_addSlotsOf o1 x13 (x15 / 16) v9 m10) (fun (r17 : Unit) (m16 : gM) => gLet (v9 + 1) (fun (x18 : Int32) => k43 x18 m16)))))))
def X1_look_b27 (o1 : Nat) (a3 : Int32) (v6 v7 : Int32) (m8 : gM) (k27 : Int32 → Int32 → gM → Option (Unit × gM)) : Option (Unit × gM) :=
  if a3 < v7 then (some ((), m8)) else (gL1 FU (X1_look_b43 o1 k27 m8 v7) v6 m8)
def X1_look (o1 : Nat) (a2 : Int32) (a3 : Int32) (m : gM) : Option (Unit × gM) :=
  gSet m 1 0 3 0 (fun (m1 : gM) => gCall (J7_fill_53178 19 0 0 m1) (fun (r3 : Unit) (m2 : gM) => gCall (X1_addSlotsOf o1 a2 (-1) (-1) m2) (fun (r5 : Unit) (m4 : gM) => gL2 FU (X1_look_b27 o1 a3) 0 1 m4)))
set_option maxRecDepth 100000 in
set_option maxHeartbeats 4000000 in
theorem c_X1_look (o1 : Nat) (a2 : Int32) (a3 : Int32) (m : gM) : gCon eU yX1_look cX1_look 9 none 3 [.inr (1, 0), .inr (3, o1), .inl a2, .inl a3] m (X1_look o1 a2 a3 m) := by
  refine gCon.of (lv := [some (.inr (1, 0)), some (.inr (3, o1)), some (.inl a2), some (.inl a3), none, none, none, none, none]) (by decide +kernel) (Nat.le_of_ble_eq_true rfl) rfl (fun X C => ?_)
  unfold X1_look
  refine r_aload_n C dX1_look_0 rfl rfl ?_
  refine r_iconst (v := 0) C dX1_look_1 (by decide) ?_
  refine r_put C fl_X1_31 rfl rfl rfl dX1_look_2 (fun m1 => ?_)
  refine r_aload_n C dX1_look_5 rfl rfl ?_
  refine r_get (v := .inr (19, 0)) C fl_X1_18 dX1_look_6 rfl ?_
  refine r_iconst (v := 0) C dX1_look_9 (by decide) ?_
  refine r_insU (As := [.inr (19, 0), .inl 0]) (st := []) C il_X1_35 co_J7_fill_53178 (c_J7_fill_53178 19 0 0 rfl m1) (by decide) (by decide) rfl rfl (Nat.le_of_ble_eq_true rfl) dX1_look_10 (fun r3 m2 => ?_)
  refine r_aload_n C dX1_look_13 rfl rfl ?_
  refine r_aload_n C dX1_look_14 rfl rfl ?_
  refine r_iload_n C dX1_look_15 rfl rfl ?_
  refine r_iconst (v := (-1)) C dX1_look_16 (by decide) ?_
  refine r_iconst (v := (-1)) C dX1_look_17 (by decide) ?_
  refine r_invU (t := 1) (kb := 0) (As := [.inr (3, o1), .inl a2, .inl (-1), .inl (-1)]) (st := []) C il_X1_41 co_X1_addSlotsOf (by decide) rfl (c_X1_addSlotsOf o1 a2 (-1) (-1) m2) (by decide) (by decide) rfl rfl (Nat.le_of_ble_eq_true rfl) dX1_look_18 (fun r5 m4 => ?_)
  refine r_iconst (v := 0) C dX1_look_21 (by decide) ?_
  refine r_istore (lv' := [some (.inr (1, 0)), some (.inr (3, o1)), some (.inl a2), some (.inl a3), some (.inl 0), none, none, none, none]) C dX1_look_22 (by decide) rfl ?_
  refine r_iconst (v := 1) C dX1_look_24 (by decide) ?_
  refine r_istore (lv' := [some (.inr (1, 0)), some (.inr (3, o1)), some (.inl a2), some (.inl a3), some (.inl 0), some (.inl 1), none, none, none]) C dX1_look_25 (by decide) rfl ?_
  refine r_weak (lv' := [some (.inr (1, 0)), some (.inr (3, o1)), none, some (.inl a3), some (.inl 0), some (.inl 1), none, none, none]) ⟨rfl, rfl, rfl, rfl, rfl, trivial⟩ ?_
  refine r_l2 (pj := 27) (fun v6 v7 => [some (.inr (1, 0)), some (.inr (3, o1)), none, some (.inl a3), some (.inl v6), some (.inl v7), none, none, none]) (fun v6 v7 m8 k27 hk27 => ?_) _ _ _ _
  unfold X1_look_b27
  refine r_iload C dX1_look_27 rfl ?_
  refine r_iload_n C dX1_look_29 rfl rfl ?_
  refine r_icmp_gt (tgt := 105) C dX1_look_30 (by decide) ?_ ?_
  · exact r_return C dX1_look_105
  refine r_aload_n C dX1_look_33 rfl rfl ?_
  refine r_get (v := .inl (m8 1 0 3)) C fl_X1_31 dX1_look_34 rfl ?_
  refine r_istore (lv' := [some (.inr (1, 0)), some (.inr (3, o1)), none, some (.inl a3), some (.inl v6), some (.inl v7), some (.inl (m8 1 0 3)), none, none]) C dX1_look_37 (by decide) rfl ?_
  refine r_iload C dX1_look_39 rfl ?_
  refine r_istore (lv' := [some (.inr (1, 0)), some (.inr (3, o1)), none, some (.inl a3), some (.inl v6), some (.inl v7), some (.inl (m8 1 0 3)), some (.inl v6), none]) C dX1_look_41 (by decide) rfl ?_
  refine r_weak (lv' := [some (.inr (1, 0)), some (.inr (3, o1)), none, some (.inl a3), none, some (.inl v7), some (.inl (m8 1 0 3)), some (.inl v6), none]) ⟨rfl, rfl, rfl, rfl, rfl, rfl, trivial⟩ ?_
  refine r_l1 (pj := 43) (fun v9 => [some (.inr (1, 0)), some (.inr (3, o1)), none, some (.inl a3), none, some (.inl v7), some (.inl (m8 1 0 3)), some (.inl v9), none]) (fun v9 m10 k43 hk43 => ?_) _ _ _
  unfold X1_look_b43
  refine r_iload C dX1_look_43 rfl ?_
  refine r_iload C dX1_look_45 rfl ?_
  refine r_icmp_ge (tgt := 95) C dX1_look_47 (by decide) ?_ ?_
  · refine r_iload C dX1_look_95 rfl ?_
    refine r_istore (lv' := [some (.inr (1, 0)), some (.inr (3, o1)), none, some (.inl a3), some (.inl (m8 1 0 3)), some (.inl v7), some (.inl (m8 1 0 3)), some (.inl v9), none]) C dX1_look_97 (by decide) rfl ?_
    refine r_iinc (v := 1) C dX1_look_99 (by decide) rfl (by decide) (fun x11 => ?_)
    show gw X eU _ [some (.inr (1, 0)), some (.inr (3, o1)), none, some (.inl a3), some (.inl (m8 1 0 3)), some (.inl x11), some (.inl (m8 1 0 3)), some (.inl v9), none] _ _ _
    refine r_goto (tgt := 27) C dX1_look_102 (by decide) ?_
    exact r_weak (lv' := [some (.inr (1, 0)), some (.inr (3, o1)), none, some (.inl a3), some (.inl (m8 1 0 3)), some (.inl x11), none, none, none]) ⟨rfl, rfl, rfl, rfl, rfl, trivial⟩ (hk27 _ _ _)
  refine r_aload_n C dX1_look_50 rfl rfl ?_
  refine r_get (v := .inr (29, o1)) C fl_X1_45 dX1_look_51 rfl ?_
  refine r_aload_n C dX1_look_54 rfl rfl ?_
  refine r_get (v := .inr (17, 0)) C fl_X1_9 dX1_look_55 rfl ?_
  refine r_iload C dX1_look_58 rfl ?_
  refine r_iald C rfl dX1_look_60 (fun x12 => ?_)
  refine r_iald C rfl dX1_look_61 (fun x13 => ?_)
  refine r_istore (lv' := [some (.inr (1, 0)), some (.inr (3, o1)), none, some (.inl a3), none, some (.inl v7), some (.inl (m8 1 0 3)), some (.inl v9), some (.inl x13)]) C dX1_look_62 (by decide) rfl ?_
  refine r_iload C dX1_look_64 rfl ?_
  refine r_iconst (v := (-1)) C dX1_look_66 (by decide) ?_
  refine r_icmp_eq (tgt := 89) C dX1_look_67 (by decide) ?_ ?_
  · refine r_iinc (v := 1) C dX1_look_89 (by decide) rfl (by decide) (fun x14 => ?_)
    show gw X eU _ [some (.inr (1, 0)), some (.inr (3, o1)), none, some (.inl a3), none, some (.inl v7), some (.inl (m8 1 0 3)), some (.inl x14), some (.inl x13)] _ _ _
    refine r_goto (tgt := 43) C dX1_look_92 (by decide) ?_
    exact r_weak (lv' := [some (.inr (1, 0)), some (.inr (3, o1)), none, some (.inl a3), none, some (.inl v7), some (.inl (m8 1 0 3)), some (.inl x14), none]) ⟨rfl, rfl, rfl, rfl, rfl, rfl, trivial⟩ (hk43 _ _)
  refine r_aload_n C dX1_look_70 rfl rfl ?_
  refine r_aload_n C dX1_look_71 rfl rfl ?_
  refine r_iload C dX1_look_72 rfl ?_
  refine r_aload_n C dX1_look_74 rfl rfl ?_
  refine r_get (v := .inr (17, 0)) C fl_X1_9 dX1_look_75 rfl ?_
  refine r_iload C dX1_look_78 rfl ?_
  refine r_iald C rfl dX1_look_80 (fun x15 => ?_)
  refine r_bipush (v := 16) C dX1_look_81 (by decide) ?_
  refine r_idiv C dX1_look_83 (by decide) ?_
  refine r_iload C dX1_look_84 rfl ?_
  refine r_invU (t := 1) (kb := 0) (As := [.inr (3, o1), .inl x13, .inl (x15 / 16), .inl v9]) (st := []) C il_X1_41 co_X1_addSlotsOf (by decide) rfl (c_X1_addSlotsOf o1 x13 (x15 / 16) v9 m10) (by decide) (by decide) rfl rfl (Nat.le_of_ble_eq_true rfl) dX1_look_86 (fun r17 m16 => ?_)
  refine r_iinc (v := 1) C dX1_look_89 (by decide) rfl (by decide) (fun x18 => ?_)
  show gw X eU _ [some (.inr (1, 0)), some (.inr (3, o1)), none, some (.inl a3), none, some (.inl v7), some (.inl (m8 1 0 3)), some (.inl x18), some (.inl x13)] _ _ _
  refine r_goto (tgt := 43) C dX1_look_92 (by decide) ?_
  exact r_weak (lv' := [some (.inr (1, 0)), some (.inr (3, o1)), none, some (.inl a3), none, some (.inl v7), some (.inl (m8 1 0 3)), some (.inl x18), none]) ⟨rfl, rfl, rfl, rfl, rfl, rfl, trivial⟩ (hk43 _ _)
theorem dX1_lookUnlessHeld_0 : decode cX1_lookUnlessHeld 0 = .ok (.aload_n 1, 1) := by decide +kernel
theorem dX1_lookUnlessHeld_1 : decode cX1_lookUnlessHeld 1 = .ok (.iload_n 2, 1) := by decide +kernel
theorem dX1_lookUnlessHeld_2 : decode cX1_lookUnlessHeld 2 = .ok (.invokevirtual 21, 3) := by decide +kernel
theorem dX1_lookUnlessHeld_5 : decode cX1_lookUnlessHeld 5 = .ok (.iconst (-1), 1) := by decide +kernel
theorem dX1_lookUnlessHeld_6 : decode cX1_lookUnlessHeld 6 = .ok (.if_icmp .ne 13, 3) := by decide +kernel
theorem dX1_lookUnlessHeld_9 : decode cX1_lookUnlessHeld 9 = .ok (.aload_n 0, 1) := by decide +kernel
theorem dX1_lookUnlessHeld_10 : decode cX1_lookUnlessHeld 10 = .ok (.aload_n 1, 1) := by decide +kernel
theorem dX1_lookUnlessHeld_11 : decode cX1_lookUnlessHeld 11 = .ok (.iload_n 2, 1) := by decide +kernel
theorem dX1_lookUnlessHeld_12 : decode cX1_lookUnlessHeld 12 = .ok (.iload_n 3, 1) := by decide +kernel
theorem dX1_lookUnlessHeld_13 : decode cX1_lookUnlessHeld 13 = .ok (.invokevirtual 27, 3) := by decide +kernel
theorem dX1_lookUnlessHeld_16 : decode cX1_lookUnlessHeld 16 = .ok (.goto 8, 3) := by decide +kernel
theorem dX1_lookUnlessHeld_19 : decode cX1_lookUnlessHeld 19 = .ok (.aload_n 0, 1) := by decide +kernel
theorem dX1_lookUnlessHeld_20 : decode cX1_lookUnlessHeld 20 = .ok (.iconst 0, 1) := by decide +kernel
theorem dX1_lookUnlessHeld_21 : decode cX1_lookUnlessHeld 21 = .ok (.putfield 31, 3) := by decide +kernel
theorem dX1_lookUnlessHeld_24 : decode cX1_lookUnlessHeld 24 = .ok (.return_, 1) := by decide +kernel
def X1_lookUnlessHeld (o1 : Nat) (a2 : Int32) (a3 : Int32) (m : gM) : Option (Unit × gM) :=
  gCall (X3_placeOf o1 a2 m) (fun (r2 : Int32) (m1 : gM) => if r2 = (-1) then (gCall (X1_look o1 a2 a3 m1) (fun (r5 : Unit) (m4 : gM) => some ((), m4))) else (gSet m1 1 0 3 0 (fun (m3 : gM) => some ((), m3))))
set_option maxRecDepth 100000 in
set_option maxHeartbeats 4000000 in
theorem c_X1_lookUnlessHeld (o1 : Nat) (a2 : Int32) (a3 : Int32) (m : gM) : gCon eU yX1_lookUnlessHeld cX1_lookUnlessHeld 4 none 4 [.inr (1, 0), .inr (3, o1), .inl a2, .inl a3] m (X1_lookUnlessHeld o1 a2 a3 m) := by
  refine gCon.of (lv := [some (.inr (1, 0)), some (.inr (3, o1)), some (.inl a2), some (.inl a3)]) (by decide +kernel) (Nat.le_of_ble_eq_true rfl) rfl (fun X C => ?_)
  unfold X1_lookUnlessHeld
  refine r_aload_n C dX1_lookUnlessHeld_0 rfl rfl ?_
  refine r_iload_n C dX1_lookUnlessHeld_1 rfl rfl ?_
  refine r_invI (t := 3) (kb := o1) (As := [.inl a2]) (st := []) C il_X1_21 co_X3_placeOf (by decide) rfl (c_X3_placeOf o1 a2 m) (by decide) (by decide) rfl rfl (Nat.le_of_ble_eq_true rfl) dX1_lookUnlessHeld_2 (fun r2 m1 => ?_)
  refine r_iconst (v := (-1)) C dX1_lookUnlessHeld_5 (by decide) ?_
  refine r_icmp_ne (tgt := 19) C dX1_lookUnlessHeld_6 (by decide) ?_ ?_
  · refine r_aload_n C dX1_lookUnlessHeld_19 rfl rfl ?_
    refine r_iconst (v := 0) C dX1_lookUnlessHeld_20 (by decide) ?_
    refine r_put C fl_X1_31 rfl rfl rfl dX1_lookUnlessHeld_21 (fun m3 => ?_)
    exact r_return C dX1_lookUnlessHeld_24
  refine r_aload_n C dX1_lookUnlessHeld_9 rfl rfl ?_
  refine r_aload_n C dX1_lookUnlessHeld_10 rfl rfl ?_
  refine r_iload_n C dX1_lookUnlessHeld_11 rfl rfl ?_
  refine r_iload_n C dX1_lookUnlessHeld_12 rfl rfl ?_
  refine r_invU (t := 1) (kb := 0) (As := [.inr (3, o1), .inl a2, .inl a3]) (st := []) C il_X1_27 co_X1_look (by decide) rfl (c_X1_look o1 a2 a3 m1) (by decide) (by decide) rfl rfl (Nat.le_of_ble_eq_true rfl) dX1_lookUnlessHeld_13 (fun r5 m4 => ?_)
  refine r_goto (tgt := 24) C dX1_lookUnlessHeld_16 (by decide) ?_
  exact r_return C dX1_lookUnlessHeld_24
theorem dX1_choose_0 : decode cX1_choose 0 = .ok (.iconst (-1), 1) := by decide +kernel
theorem dX1_choose_1 : decode cX1_choose 1 = .ok (.istore_n 2, 1) := by decide +kernel
theorem dX1_choose_2 : decode cX1_choose 2 = .ok (.iconst (-1), 1) := by decide +kernel
theorem dX1_choose_3 : decode cX1_choose 3 = .ok (.istore_n 3, 1) := by decide +kernel
theorem dX1_choose_4 : decode cX1_choose 4 = .ok (.iconst 0, 1) := by decide +kernel
theorem dX1_choose_5 : decode cX1_choose 5 = .ok (.istore 4, 2) := by decide +kernel
theorem dX1_choose_7 : decode cX1_choose 7 = .ok (.iload 4, 2) := by decide +kernel
theorem dX1_choose_9 : decode cX1_choose 9 = .ok (.aload_n 0, 1) := by decide +kernel
theorem dX1_choose_10 : decode cX1_choose 10 = .ok (.getfield 31, 3) := by decide +kernel
theorem dX1_choose_13 : decode cX1_choose 13 = .ok (.if_icmp .ge 54, 3) := by decide +kernel
theorem dX1_choose_16 : decode cX1_choose 16 = .ok (.aload_n 0, 1) := by decide +kernel
theorem dX1_choose_17 : decode cX1_choose 17 = .ok (.getfield 9, 3) := by decide +kernel
theorem dX1_choose_20 : decode cX1_choose 20 = .ok (.iload 4, 2) := by decide +kernel
theorem dX1_choose_22 : decode cX1_choose 22 = .ok (.iaload, 1) := by decide +kernel
theorem dX1_choose_23 : decode cX1_choose 23 = .ok (.istore 5, 2) := by decide +kernel
theorem dX1_choose_25 : decode cX1_choose 25 = .ok (.aload_n 1, 1) := by decide +kernel
theorem dX1_choose_26 : decode cX1_choose 26 = .ok (.getfield 45, 3) := by decide +kernel
theorem dX1_choose_29 : decode cX1_choose 29 = .ok (.iload 5, 2) := by decide +kernel
theorem dX1_choose_31 : decode cX1_choose 31 = .ok (.iaload, 1) := by decide +kernel
theorem dX1_choose_32 : decode cX1_choose 32 = .ok (.iconst (-1), 1) := by decide +kernel
theorem dX1_choose_33 : decode cX1_choose 33 = .ok (.if_icmp .ne 6, 3) := by decide +kernel
theorem dX1_choose_36 : decode cX1_choose 36 = .ok (.iload 4, 2) := by decide +kernel
theorem dX1_choose_38 : decode cX1_choose 38 = .ok (.ireturn, 1) := by decide +kernel
theorem dX1_choose_39 : decode cX1_choose 39 = .ok (.aload_n 1, 1) := by decide +kernel
theorem dX1_choose_40 : decode cX1_choose 40 = .ok (.getfield 58, 3) := by decide +kernel
theorem dX1_choose_43 : decode cX1_choose 43 = .ok (.iload 5, 2) := by decide +kernel
theorem dX1_choose_45 : decode cX1_choose 45 = .ok (.iaload, 1) := by decide +kernel
theorem dX1_choose_46 : decode cX1_choose 46 = .ok (.iload_n 3, 1) := by decide +kernel
theorem dX1_choose_47 : decode cX1_choose 47 = .ok (.if_icmp .le 14, 3) := by decide +kernel
theorem dX1_choose_50 : decode cX1_choose 50 = .ok (.aload_n 1, 1) := by decide +kernel
theorem dX1_choose_51 : decode cX1_choose 51 = .ok (.getfield 58, 3) := by decide +kernel
theorem dX1_choose_54 : decode cX1_choose 54 = .ok (.iload 5, 2) := by decide +kernel
theorem dX1_choose_56 : decode cX1_choose 56 = .ok (.iaload, 1) := by decide +kernel
theorem dX1_choose_57 : decode cX1_choose 57 = .ok (.istore_n 3, 1) := by decide +kernel
theorem dX1_choose_58 : decode cX1_choose 58 = .ok (.iload 4, 2) := by decide +kernel
theorem dX1_choose_60 : decode cX1_choose 60 = .ok (.istore_n 2, 1) := by decide +kernel
theorem dX1_choose_61 : decode cX1_choose 61 = .ok (.iinc 4 1, 3) := by decide +kernel
theorem dX1_choose_64 : decode cX1_choose 64 = .ok (.goto (-57), 3) := by decide +kernel
theorem dX1_choose_67 : decode cX1_choose 67 = .ok (.iload_n 2, 1) := by decide +kernel
theorem dX1_choose_68 : decode cX1_choose 68 = .ok (.ireturn, 1) := by decide +kernel
def X1_choose_b7 (o1 : Nat) (v1 v2 v3 : Int32) (m4 : gM) (k7 : Int32 → Int32 → Int32 → gM → Option (Int32 × gM)) : Option (Int32 × gM) :=
  if (m4 1 0 3) ≤ v3 then (some (v1, m4)) else (gAt m4 17 0 v3 (fun (x5 : Int32) => gAt m4 29 o1 x5 (fun (x6 : Int32) => if x6 = (-1) then (some (v3, m4)) else (gAt m4 32 o1 x5 (fun (x7 : Int32) => if x7 ≤ v2 then (gLet (v3 + 1) (fun (x8 : Int32) => k7 v1 v2 x8 m4)) else (gAt m4 32 o1 x5 (fun (x9 : Int32) => gLet (v3 + 1) (fun (x10 : Int32) => k7 v3 x9 x10 m4))))))))
def X1_choose (o1 : Nat) (m : gM) : Option (Int32 × gM) :=
  gL3 FU (X1_choose_b7 o1) (-1) (-1) 0 m
set_option maxRecDepth 100000 in
set_option maxHeartbeats 4000000 in
theorem c_X1_choose (o1 : Nat) (m : gM) : gCon eI yX1_choose cX1_choose 6 (some .int) 0 [.inr (1, 0), .inr (3, o1)] m (X1_choose o1 m) := by
  refine gCon.of (lv := [some (.inr (1, 0)), some (.inr (3, o1)), none, none, none, none]) (by decide +kernel) (Nat.le_of_ble_eq_true rfl) rfl (fun X C => ?_)
  unfold X1_choose
  refine r_iconst (v := (-1)) C dX1_choose_0 (by decide) ?_
  refine r_istore_n (lv' := [some (.inr (1, 0)), some (.inr (3, o1)), some (.inl (-1)), none, none, none]) C dX1_choose_1 rfl (by decide) rfl ?_
  refine r_iconst (v := (-1)) C dX1_choose_2 (by decide) ?_
  refine r_istore_n (lv' := [some (.inr (1, 0)), some (.inr (3, o1)), some (.inl (-1)), some (.inl (-1)), none, none]) C dX1_choose_3 rfl (by decide) rfl ?_
  refine r_iconst (v := 0) C dX1_choose_4 (by decide) ?_
  refine r_istore (lv' := [some (.inr (1, 0)), some (.inr (3, o1)), some (.inl (-1)), some (.inl (-1)), some (.inl 0), none]) C dX1_choose_5 (by decide) rfl ?_
  refine r_weak (lv' := [some (.inr (1, 0)), some (.inr (3, o1)), some (.inl (-1)), some (.inl (-1)), some (.inl 0), none]) ⟨rfl, rfl, rfl, rfl, rfl, trivial⟩ ?_
  refine r_l3 (pj := 7) (fun v1 v2 v3 => [some (.inr (1, 0)), some (.inr (3, o1)), some (.inl v1), some (.inl v2), some (.inl v3), none]) (fun v1 v2 v3 m4 k7 hk7 => ?_) _ _ _ _ _
  unfold X1_choose_b7
  refine r_iload C dX1_choose_7 rfl ?_
  refine r_aload_n C dX1_choose_9 rfl rfl ?_
  refine r_get (v := .inl (m4 1 0 3)) C fl_X1_31 dX1_choose_10 rfl ?_
  refine r_icmp_ge (tgt := 67) C dX1_choose_13 (by decide) ?_ ?_
  · refine r_iload_n C dX1_choose_67 rfl rfl ?_
    exact r_ireturn C dX1_choose_68
  refine r_aload_n C dX1_choose_16 rfl rfl ?_
  refine r_get (v := .inr (17, 0)) C fl_X1_9 dX1_choose_17 rfl ?_
  refine r_iload C dX1_choose_20 rfl ?_
  refine r_iald C rfl dX1_choose_22 (fun x5 => ?_)
  refine r_istore (lv' := [some (.inr (1, 0)), some (.inr (3, o1)), some (.inl v1), some (.inl v2), some (.inl v3), some (.inl x5)]) C dX1_choose_23 (by decide) rfl ?_
  refine r_aload_n C dX1_choose_25 rfl rfl ?_
  refine r_get (v := .inr (29, o1)) C fl_X1_45 dX1_choose_26 rfl ?_
  refine r_iload C dX1_choose_29 rfl ?_
  refine r_iald C rfl dX1_choose_31 (fun x6 => ?_)
  refine r_iconst (v := (-1)) C dX1_choose_32 (by decide) ?_
  refine r_icmp_ne (tgt := 39) C dX1_choose_33 (by decide) ?_ ?_
  · refine r_aload_n C dX1_choose_39 rfl rfl ?_
    refine r_get (v := .inr (32, o1)) C fl_X1_58 dX1_choose_40 rfl ?_
    refine r_iload C dX1_choose_43 rfl ?_
    refine r_iald C rfl dX1_choose_45 (fun x7 => ?_)
    refine r_iload_n C dX1_choose_46 rfl rfl ?_
    refine r_icmp_le (tgt := 61) C dX1_choose_47 (by decide) ?_ ?_
    · refine r_iinc (v := 1) C dX1_choose_61 (by decide) rfl (by decide) (fun x8 => ?_)
      show gw X eI _ [some (.inr (1, 0)), some (.inr (3, o1)), some (.inl v1), some (.inl v2), some (.inl x8), some (.inl x5)] _ _ _
      refine r_goto (tgt := 7) C dX1_choose_64 (by decide) ?_
      exact r_weak (lv' := [some (.inr (1, 0)), some (.inr (3, o1)), some (.inl v1), some (.inl v2), some (.inl x8), none]) ⟨rfl, rfl, rfl, rfl, rfl, trivial⟩ (hk7 _ _ _ _)
    refine r_aload_n C dX1_choose_50 rfl rfl ?_
    refine r_get (v := .inr (32, o1)) C fl_X1_58 dX1_choose_51 rfl ?_
    refine r_iload C dX1_choose_54 rfl ?_
    refine r_iald C rfl dX1_choose_56 (fun x9 => ?_)
    refine r_istore_n (lv' := [some (.inr (1, 0)), some (.inr (3, o1)), some (.inl v1), some (.inl x9), some (.inl v3), some (.inl x5)]) C dX1_choose_57 rfl (by decide) rfl ?_
    refine r_iload C dX1_choose_58 rfl ?_
    refine r_istore_n (lv' := [some (.inr (1, 0)), some (.inr (3, o1)), some (.inl v3), some (.inl x9), some (.inl v3), some (.inl x5)]) C dX1_choose_60 rfl (by decide) rfl ?_
    refine r_iinc (v := 1) C dX1_choose_61 (by decide) rfl (by decide) (fun x10 => ?_)
    show gw X eI _ [some (.inr (1, 0)), some (.inr (3, o1)), some (.inl v3), some (.inl x9), some (.inl x10), some (.inl x5)] _ _ _
    refine r_goto (tgt := 7) C dX1_choose_64 (by decide) ?_
    exact r_weak (lv' := [some (.inr (1, 0)), some (.inr (3, o1)), some (.inl v3), some (.inl x9), some (.inl x10), none]) ⟨rfl, rfl, rfl, rfl, rfl, trivial⟩ (hk7 _ _ _ _)
  refine r_iload C dX1_choose_36 rfl ?_
  exact r_ireturn C dX1_choose_38
theorem dX1_topOf_0 : decode cX1_topOf 0 = .ok (.iload_n 1, 1) := by decide +kernel
theorem dX1_topOf_1 : decode cX1_topOf 1 = .ok (.istore_n 2, 1) := by decide +kernel
theorem dX1_topOf_2 : decode cX1_topOf 2 = .ok (.iconst 0, 1) := by decide +kernel
theorem dX1_topOf_3 : decode cX1_topOf 3 = .ok (.istore_n 3, 1) := by decide +kernel
theorem dX1_topOf_4 : decode cX1_topOf 4 = .ok (.iload_n 3, 1) := by decide +kernel
theorem dX1_topOf_5 : decode cX1_topOf 5 = .ok (.iconst 3, 1) := by decide +kernel
theorem dX1_topOf_6 : decode cX1_topOf 6 = .ok (.if_icmp .ge 26, 3) := by decide +kernel
theorem dX1_topOf_9 : decode cX1_topOf 9 = .ok (.aload_n 0, 1) := by decide +kernel
theorem dX1_topOf_10 : decode cX1_topOf 10 = .ok (.getfield 15, 3) := by decide +kernel
theorem dX1_topOf_13 : decode cX1_topOf 13 = .ok (.iload_n 2, 1) := by decide +kernel
theorem dX1_topOf_14 : decode cX1_topOf 14 = .ok (.iaload, 1) := by decide +kernel
theorem dX1_topOf_15 : decode cX1_topOf 15 = .ok (.iconst (-1), 1) := by decide +kernel
theorem dX1_topOf_16 : decode cX1_topOf 16 = .ok (.if_icmp .eq 16, 3) := by decide +kernel
theorem dX1_topOf_19 : decode cX1_topOf 19 = .ok (.aload_n 0, 1) := by decide +kernel
theorem dX1_topOf_20 : decode cX1_topOf 20 = .ok (.getfield 15, 3) := by decide +kernel
theorem dX1_topOf_23 : decode cX1_topOf 23 = .ok (.iload_n 2, 1) := by decide +kernel
theorem dX1_topOf_24 : decode cX1_topOf 24 = .ok (.iaload, 1) := by decide +kernel
theorem dX1_topOf_25 : decode cX1_topOf 25 = .ok (.istore_n 2, 1) := by decide +kernel
theorem dX1_topOf_26 : decode cX1_topOf 26 = .ok (.iinc 3 1, 3) := by decide +kernel
theorem dX1_topOf_29 : decode cX1_topOf 29 = .ok (.goto (-25), 3) := by decide +kernel
theorem dX1_topOf_32 : decode cX1_topOf 32 = .ok (.iload_n 2, 1) := by decide +kernel
theorem dX1_topOf_33 : decode cX1_topOf 33 = .ok (.ireturn, 1) := by decide +kernel
def X1_topOf_b4 (v1 v2 : Int32) (m3 : gM) (k4 : Int32 → Int32 → gM → Option (Int32 × gM)) : Option (Int32 × gM) :=
  if 3 ≤ v2 then (some (v1, m3)) else (gAt m3 18 0 v1 (fun (x4 : Int32) => if x4 = (-1) then (some (v1, m3)) else (gAt m3 18 0 v1 (fun (x5 : Int32) => gLet (v2 + 1) (fun (x6 : Int32) => k4 x5 x6 m3)))))
def X1_topOf (a1 : Int32) (m : gM) : Option (Int32 × gM) :=
  gL2 FU X1_topOf_b4 a1 0 m
set_option maxRecDepth 100000 in
set_option maxHeartbeats 4000000 in
theorem c_X1_topOf (a1 : Int32) (m : gM) : gCon eI yX1_topOf cX1_topOf 4 (some .int) 0 [.inr (1, 0), .inl a1] m (X1_topOf a1 m) := by
  refine gCon.of (lv := [some (.inr (1, 0)), some (.inl a1), none, none]) (by decide +kernel) (Nat.le_of_ble_eq_true rfl) rfl (fun X C => ?_)
  unfold X1_topOf
  refine r_iload_n C dX1_topOf_0 rfl rfl ?_
  refine r_istore_n (lv' := [some (.inr (1, 0)), some (.inl a1), some (.inl a1), none]) C dX1_topOf_1 rfl (by decide) rfl ?_
  refine r_iconst (v := 0) C dX1_topOf_2 (by decide) ?_
  refine r_istore_n (lv' := [some (.inr (1, 0)), some (.inl a1), some (.inl a1), some (.inl 0)]) C dX1_topOf_3 rfl (by decide) rfl ?_
  refine r_weak (lv' := [some (.inr (1, 0)), none, some (.inl a1), some (.inl 0)]) ⟨rfl, rfl, rfl, trivial⟩ ?_
  refine r_l2 (pj := 4) (fun v1 v2 => [some (.inr (1, 0)), none, some (.inl v1), some (.inl v2)]) (fun v1 v2 m3 k4 hk4 => ?_) _ _ _ _
  unfold X1_topOf_b4
  refine r_iload_n C dX1_topOf_4 rfl rfl ?_
  refine r_iconst (v := 3) C dX1_topOf_5 (by decide) ?_
  refine r_icmp_ge (tgt := 32) C dX1_topOf_6 (by decide) ?_ ?_
  · refine r_iload_n C dX1_topOf_32 rfl rfl ?_
    exact r_ireturn C dX1_topOf_33
  refine r_aload_n C dX1_topOf_9 rfl rfl ?_
  refine r_get (v := .inr (18, 0)) C fl_X1_15 dX1_topOf_10 rfl ?_
  refine r_iload_n C dX1_topOf_13 rfl rfl ?_
  refine r_iald C rfl dX1_topOf_14 (fun x4 => ?_)
  refine r_iconst (v := (-1)) C dX1_topOf_15 (by decide) ?_
  refine r_icmp_eq (tgt := 32) C dX1_topOf_16 (by decide) ?_ ?_
  · refine r_iload_n C dX1_topOf_32 rfl rfl ?_
    exact r_ireturn C dX1_topOf_33
  refine r_aload_n C dX1_topOf_19 rfl rfl ?_
  refine r_get (v := .inr (18, 0)) C fl_X1_15 dX1_topOf_20 rfl ?_
  refine r_iload_n C dX1_topOf_23 rfl rfl ?_
  refine r_iald C rfl dX1_topOf_24 (fun x5 => ?_)
  refine r_istore_n (lv' := [some (.inr (1, 0)), none, some (.inl x5), some (.inl v2)]) C dX1_topOf_25 rfl (by decide) rfl ?_
  refine r_iinc (v := 1) C dX1_topOf_26 (by decide) rfl (by decide) (fun x6 => ?_)
  show gw X eI _ [some (.inr (1, 0)), none, some (.inl x5), some (.inl x6)] _ _ _
  refine r_goto (tgt := 4) C dX1_topOf_29 (by decide) ?_
  exact r_weak (lv' := [some (.inr (1, 0)), none, some (.inl x5), some (.inl x6)]) ⟨rfl, rfl, rfl, trivial⟩ (hk4 _ _ _)
theorem dX2_clear_0 : decode cX2_clear 0 = .ok (.aload_n 0, 1) := by decide +kernel
theorem dX2_clear_1 : decode cX2_clear 1 = .ok (.iconst 0, 1) := by decide +kernel
theorem dX2_clear_2 : decode cX2_clear 2 = .ok (.putfield 27, 3) := by decide +kernel
theorem dX2_clear_5 : decode cX2_clear 5 = .ok (.aload_n 0, 1) := by decide +kernel
theorem dX2_clear_6 : decode cX2_clear 6 = .ok (.getfield 18, 3) := by decide +kernel
theorem dX2_clear_9 : decode cX2_clear 9 = .ok (.iconst (-1), 1) := by decide +kernel
theorem dX2_clear_10 : decode cX2_clear 10 = .ok (.invokestatic 31, 3) := by decide +kernel
theorem dX2_clear_13 : decode cX2_clear 13 = .ok (.return_, 1) := by decide +kernel
def X2_clear (m : gM) : Option (Unit × gM) :=
  gSet m 2 0 5 0 (fun (m1 : gM) => gCall (J7_fill_53178 22 0 (-1) m1) (fun (r3 : Unit) (m2 : gM) => some ((), m2)))
set_option maxRecDepth 100000 in
set_option maxHeartbeats 4000000 in
theorem c_X2_clear (m : gM) : gCon eU yX2_clear cX2_clear 1 none 1 [.inr (2, 0)] m (X2_clear m) := by
  refine gCon.of (lv := [some (.inr (2, 0))]) (by decide +kernel) (Nat.le_of_ble_eq_true rfl) rfl (fun X C => ?_)
  unfold X2_clear
  refine r_aload_n C dX2_clear_0 rfl rfl ?_
  refine r_iconst (v := 0) C dX2_clear_1 (by decide) ?_
  refine r_put C fl_X2_27 rfl rfl rfl dX2_clear_2 (fun m1 => ?_)
  refine r_aload_n C dX2_clear_5 rfl rfl ?_
  refine r_get (v := .inr (22, 0)) C fl_X2_18 dX2_clear_6 rfl ?_
  refine r_iconst (v := (-1)) C dX2_clear_9 (by decide) ?_
  refine r_insU (As := [.inr (22, 0), .inl (-1)]) (st := []) C il_X2_31 co_J7_fill_53178 (c_J7_fill_53178 22 0 (-1) rfl m1) (by decide) (by decide) rfl rfl (Nat.le_of_ble_eq_true rfl) dX2_clear_10 (fun r3 m2 => ?_)
  exact r_return C dX2_clear_13
theorem dX2_shiftTo_0 : decode cX2_shiftTo 0 = .ok (.iload_n 1, 1) := by decide +kernel
theorem dX2_shiftTo_1 : decode cX2_shiftTo 1 = .ok (.istore_n 2, 1) := by decide +kernel
theorem dX2_shiftTo_2 : decode cX2_shiftTo 2 = .ok (.iconst 0, 1) := by decide +kernel
theorem dX2_shiftTo_3 : decode cX2_shiftTo 3 = .ok (.istore_n 3, 1) := by decide +kernel
theorem dX2_shiftTo_4 : decode cX2_shiftTo 4 = .ok (.iload_n 3, 1) := by decide +kernel
theorem dX2_shiftTo_5 : decode cX2_shiftTo 5 = .ok (.bipush 64, 2) := by decide +kernel
theorem dX2_shiftTo_7 : decode cX2_shiftTo 7 = .ok (.if_icmp .ge 50, 3) := by decide +kernel
theorem dX2_shiftTo_10 : decode cX2_shiftTo 10 = .ok (.iload_n 2, 1) := by decide +kernel
theorem dX2_shiftTo_11 : decode cX2_shiftTo 11 = .ok (.iconst (-1), 1) := by decide +kernel
theorem dX2_shiftTo_12 : decode cX2_shiftTo 12 = .ok (.if_icmp .eq 45, 3) := by decide +kernel
theorem dX2_shiftTo_15 : decode cX2_shiftTo 15 = .ok (.aload_n 0, 1) := by decide +kernel
theorem dX2_shiftTo_16 : decode cX2_shiftTo 16 = .ok (.getfield 21, 3) := by decide +kernel
theorem dX2_shiftTo_19 : decode cX2_shiftTo 19 = .ok (.iload_n 2, 1) := by decide +kernel
theorem dX2_shiftTo_20 : decode cX2_shiftTo 20 = .ok (.iaload, 1) := by decide +kernel
theorem dX2_shiftTo_21 : decode cX2_shiftTo 21 = .ok (.istore 4, 2) := by decide +kernel
theorem dX2_shiftTo_23 : decode cX2_shiftTo 23 = .ok (.aload_n 0, 1) := by decide +kernel
theorem dX2_shiftTo_24 : decode cX2_shiftTo 24 = .ok (.getfield 15, 3) := by decide +kernel
theorem dX2_shiftTo_27 : decode cX2_shiftTo 27 = .ok (.iload 4, 2) := by decide +kernel
theorem dX2_shiftTo_29 : decode cX2_shiftTo 29 = .ok (.iaload, 1) := by decide +kernel
theorem dX2_shiftTo_30 : decode cX2_shiftTo 30 = .ok (.istore 5, 2) := by decide +kernel
theorem dX2_shiftTo_32 : decode cX2_shiftTo 32 = .ok (.aload_n 0, 1) := by decide +kernel
theorem dX2_shiftTo_33 : decode cX2_shiftTo 33 = .ok (.getfield 18, 3) := by decide +kernel
theorem dX2_shiftTo_36 : decode cX2_shiftTo 36 = .ok (.iload_n 2, 1) := by decide +kernel
theorem dX2_shiftTo_37 : decode cX2_shiftTo 37 = .ok (.iload 4, 2) := by decide +kernel
theorem dX2_shiftTo_39 : decode cX2_shiftTo 39 = .ok (.iastore, 1) := by decide +kernel
theorem dX2_shiftTo_40 : decode cX2_shiftTo 40 = .ok (.aload_n 0, 1) := by decide +kernel
theorem dX2_shiftTo_41 : decode cX2_shiftTo 41 = .ok (.getfield 15, 3) := by decide +kernel
theorem dX2_shiftTo_44 : decode cX2_shiftTo 44 = .ok (.iload 4, 2) := by decide +kernel
theorem dX2_shiftTo_46 : decode cX2_shiftTo 46 = .ok (.iload_n 2, 1) := by decide +kernel
theorem dX2_shiftTo_47 : decode cX2_shiftTo 47 = .ok (.iastore, 1) := by decide +kernel
theorem dX2_shiftTo_48 : decode cX2_shiftTo 48 = .ok (.iload 5, 2) := by decide +kernel
theorem dX2_shiftTo_50 : decode cX2_shiftTo 50 = .ok (.istore_n 2, 1) := by decide +kernel
theorem dX2_shiftTo_51 : decode cX2_shiftTo 51 = .ok (.iinc 3 1, 3) := by decide +kernel
theorem dX2_shiftTo_54 : decode cX2_shiftTo 54 = .ok (.goto (-50), 3) := by decide +kernel
theorem dX2_shiftTo_57 : decode cX2_shiftTo 57 = .ok (.return_, 1) := by decide +kernel
def X2_shiftTo_b4 (v1 v2 : Int32) (m3 : gM) (k4 : Int32 → Int32 → gM → Option (Unit × gM)) : Option (Unit × gM) :=
  if 64 ≤ v2 then (some ((), m3)) else (if v1 = (-1) then (some ((), m3)) else (gAt m3 23 0 v1 (fun (x4 : Int32) => gAt m3 21 0 x4 (fun (x5 : Int32) => gPut m3 22 0 v1 x4 (fun (m6 : gM) => gPut m6 21 0 x4 v1 (fun (m7 : gM) => gLet (v2 + 1) (fun (x8 : Int32) => k4 x5 x8 m7)))))))
def X2_shiftTo (a1 : Int32) (m : gM) : Option (Unit × gM) :=
  gL2 FU X2_shiftTo_b4 a1 0 m
set_option maxRecDepth 100000 in
set_option maxHeartbeats 4000000 in
theorem c_X2_shiftTo (a1 : Int32) (m : gM) : gCon eU yX2_shiftTo cX2_shiftTo 6 none 0 [.inr (2, 0), .inl a1] m (X2_shiftTo a1 m) := by
  refine gCon.of (lv := [some (.inr (2, 0)), some (.inl a1), none, none, none, none]) (by decide +kernel) (Nat.le_of_ble_eq_true rfl) rfl (fun X C => ?_)
  unfold X2_shiftTo
  refine r_iload_n C dX2_shiftTo_0 rfl rfl ?_
  refine r_istore_n (lv' := [some (.inr (2, 0)), some (.inl a1), some (.inl a1), none, none, none]) C dX2_shiftTo_1 rfl (by decide) rfl ?_
  refine r_iconst (v := 0) C dX2_shiftTo_2 (by decide) ?_
  refine r_istore_n (lv' := [some (.inr (2, 0)), some (.inl a1), some (.inl a1), some (.inl 0), none, none]) C dX2_shiftTo_3 rfl (by decide) rfl ?_
  refine r_weak (lv' := [some (.inr (2, 0)), none, some (.inl a1), some (.inl 0), none, none]) ⟨rfl, rfl, rfl, trivial⟩ ?_
  refine r_l2 (pj := 4) (fun v1 v2 => [some (.inr (2, 0)), none, some (.inl v1), some (.inl v2), none, none]) (fun v1 v2 m3 k4 hk4 => ?_) _ _ _ _
  unfold X2_shiftTo_b4
  refine r_iload_n C dX2_shiftTo_4 rfl rfl ?_
  refine r_bipush (v := 64) C dX2_shiftTo_5 (by decide) ?_
  refine r_icmp_ge (tgt := 57) C dX2_shiftTo_7 (by decide) ?_ ?_
  · exact r_return C dX2_shiftTo_57
  refine r_iload_n C dX2_shiftTo_10 rfl rfl ?_
  refine r_iconst (v := (-1)) C dX2_shiftTo_11 (by decide) ?_
  refine r_icmp_eq (tgt := 57) C dX2_shiftTo_12 (by decide) ?_ ?_
  · exact r_return C dX2_shiftTo_57
  refine r_aload_n C dX2_shiftTo_15 rfl rfl ?_
  refine r_get (v := .inr (23, 0)) C fl_X2_21 dX2_shiftTo_16 rfl ?_
  refine r_iload_n C dX2_shiftTo_19 rfl rfl ?_
  refine r_iald C rfl dX2_shiftTo_20 (fun x4 => ?_)
  refine r_istore (lv' := [some (.inr (2, 0)), none, some (.inl v1), some (.inl v2), some (.inl x4), none]) C dX2_shiftTo_21 (by decide) rfl ?_
  refine r_aload_n C dX2_shiftTo_23 rfl rfl ?_
  refine r_get (v := .inr (21, 0)) C fl_X2_15 dX2_shiftTo_24 rfl ?_
  refine r_iload C dX2_shiftTo_27 rfl ?_
  refine r_iald C rfl dX2_shiftTo_29 (fun x5 => ?_)
  refine r_istore (lv' := [some (.inr (2, 0)), none, some (.inl v1), some (.inl v2), some (.inl x4), some (.inl x5)]) C dX2_shiftTo_30 (by decide) rfl ?_
  refine r_aload_n C dX2_shiftTo_32 rfl rfl ?_
  refine r_get (v := .inr (22, 0)) C fl_X2_18 dX2_shiftTo_33 rfl ?_
  refine r_iload_n C dX2_shiftTo_36 rfl rfl ?_
  refine r_iload C dX2_shiftTo_37 rfl ?_
  refine r_iast C rfl dX2_shiftTo_39 (fun m6 => ?_)
  refine r_aload_n C dX2_shiftTo_40 rfl rfl ?_
  refine r_get (v := .inr (21, 0)) C fl_X2_15 dX2_shiftTo_41 rfl ?_
  refine r_iload C dX2_shiftTo_44 rfl ?_
  refine r_iload_n C dX2_shiftTo_46 rfl rfl ?_
  refine r_iast C rfl dX2_shiftTo_47 (fun m7 => ?_)
  refine r_iload C dX2_shiftTo_48 rfl ?_
  refine r_istore_n (lv' := [some (.inr (2, 0)), none, some (.inl x5), some (.inl v2), some (.inl x4), some (.inl x5)]) C dX2_shiftTo_50 rfl (by decide) rfl ?_
  refine r_iinc (v := 1) C dX2_shiftTo_51 (by decide) rfl (by decide) (fun x8 => ?_)
  show gw X eU _ [some (.inr (2, 0)), none, some (.inl x5), some (.inl x8), some (.inl x4), some (.inl x5)] _ _ _
  refine r_goto (tgt := 4) C dX2_shiftTo_54 (by decide) ?_
  exact r_weak (lv' := [some (.inr (2, 0)), none, some (.inl x5), some (.inl x8), none, none]) ⟨rfl, rfl, rfl, trivial⟩ (hk4 _ _ _)
theorem dX2_admit_0 : decode cX2_admit 0 = .ok (.aload_n 0, 1) := by decide +kernel
theorem dX2_admit_1 : decode cX2_admit 1 = .ok (.getfield 27, 3) := by decide +kernel
theorem dX2_admit_4 : decode cX2_admit 4 = .ok (.bipush 64, 2) := by decide +kernel
theorem dX2_admit_6 : decode cX2_admit 6 = .ok (.if_icmp .lt 5, 3) := by decide +kernel
theorem dX2_admit_9 : decode cX2_admit 9 = .ok (.iconst 0, 1) := by decide +kernel
theorem dX2_admit_10 : decode cX2_admit 10 = .ok (.ireturn, 1) := by decide +kernel
theorem dX2_admit_11 : decode cX2_admit 11 = .ok (.aload_n 0, 1) := by decide +kernel
theorem dX2_admit_12 : decode cX2_admit 12 = .ok (.getfield 9, 3) := by decide +kernel
theorem dX2_admit_15 : decode cX2_admit 15 = .ok (.aload_n 0, 1) := by decide +kernel
theorem dX2_admit_16 : decode cX2_admit 16 = .ok (.getfield 27, 3) := by decide +kernel
theorem dX2_admit_19 : decode cX2_admit 19 = .ok (.iload_n 2, 1) := by decide +kernel
theorem dX2_admit_20 : decode cX2_admit 20 = .ok (.iastore, 1) := by decide +kernel
theorem dX2_admit_21 : decode cX2_admit 21 = .ok (.aload_n 0, 1) := by decide +kernel
theorem dX2_admit_22 : decode cX2_admit 22 = .ok (.getfield 15, 3) := by decide +kernel
theorem dX2_admit_25 : decode cX2_admit 25 = .ok (.aload_n 0, 1) := by decide +kernel
theorem dX2_admit_26 : decode cX2_admit 26 = .ok (.getfield 27, 3) := by decide +kernel
theorem dX2_admit_29 : decode cX2_admit 29 = .ok (.iconst (-1), 1) := by decide +kernel
theorem dX2_admit_30 : decode cX2_admit 30 = .ok (.iastore, 1) := by decide +kernel
theorem dX2_admit_31 : decode cX2_admit 31 = .ok (.aload_n 0, 1) := by decide +kernel
theorem dX2_admit_32 : decode cX2_admit 32 = .ok (.getfield 24, 3) := by decide +kernel
theorem dX2_admit_35 : decode cX2_admit 35 = .ok (.iconst 0, 1) := by decide +kernel
theorem dX2_admit_36 : decode cX2_admit 36 = .ok (.aload_n 0, 1) := by decide +kernel
theorem dX2_admit_37 : decode cX2_admit 37 = .ok (.getfield 27, 3) := by decide +kernel
theorem dX2_admit_40 : decode cX2_admit 40 = .ok (.iastore, 1) := by decide +kernel
theorem dX2_admit_41 : decode cX2_admit 41 = .ok (.aload_n 0, 1) := by decide +kernel
theorem dX2_admit_42 : decode cX2_admit 42 = .ok (.getfield 21, 3) := by decide +kernel
theorem dX2_admit_45 : decode cX2_admit 45 = .ok (.iconst (-1), 1) := by decide +kernel
theorem dX2_admit_46 : decode cX2_admit 46 = .ok (.invokestatic 31, 3) := by decide +kernel
theorem dX2_admit_49 : decode cX2_admit 49 = .ok (.iconst 1, 1) := by decide +kernel
theorem dX2_admit_50 : decode cX2_admit 50 = .ok (.istore_n 3, 1) := by decide +kernel
theorem dX2_admit_51 : decode cX2_admit 51 = .ok (.iconst 0, 1) := by decide +kernel
theorem dX2_admit_52 : decode cX2_admit 52 = .ok (.istore 4, 2) := by decide +kernel
theorem dX2_admit_54 : decode cX2_admit 54 = .ok (.iload 4, 2) := by decide +kernel
theorem dX2_admit_56 : decode cX2_admit 56 = .ok (.iload_n 3, 1) := by decide +kernel
theorem dX2_admit_57 : decode cX2_admit 57 = .ok (.if_icmp .ge 129, 3) := by decide +kernel
theorem dX2_admit_60 : decode cX2_admit 60 = .ok (.iload 4, 2) := by decide +kernel
theorem dX2_admit_62 : decode cX2_admit 62 = .ok (.bipush 64, 2) := by decide +kernel
theorem dX2_admit_64 : decode cX2_admit 64 = .ok (.if_icmp .ge 122, 3) := by decide +kernel
theorem dX2_admit_67 : decode cX2_admit 67 = .ok (.aload_n 0, 1) := by decide +kernel
theorem dX2_admit_68 : decode cX2_admit 68 = .ok (.getfield 24, 3) := by decide +kernel
theorem dX2_admit_71 : decode cX2_admit 71 = .ok (.iload 4, 2) := by decide +kernel
theorem dX2_admit_73 : decode cX2_admit 73 = .ok (.iaload, 1) := by decide +kernel
theorem dX2_admit_74 : decode cX2_admit 74 = .ok (.istore 5, 2) := by decide +kernel
theorem dX2_admit_76 : decode cX2_admit 76 = .ok (.iconst 0, 1) := by decide +kernel
theorem dX2_admit_77 : decode cX2_admit 77 = .ok (.istore 6, 2) := by decide +kernel
theorem dX2_admit_79 : decode cX2_admit 79 = .ok (.iload 6, 2) := by decide +kernel
theorem dX2_admit_81 : decode cX2_admit 81 = .ok (.aload_n 1, 1) := by decide +kernel
theorem dX2_admit_82 : decode cX2_admit 82 = .ok (.getfield 37, 3) := by decide +kernel
theorem dX2_admit_85 : decode cX2_admit 85 = .ok (.if_icmp .ge 95, 3) := by decide +kernel
theorem dX2_admit_88 : decode cX2_admit 88 = .ok (.aload_n 1, 1) := by decide +kernel
theorem dX2_admit_89 : decode cX2_admit 89 = .ok (.aload_n 0, 1) := by decide +kernel
theorem dX2_admit_90 : decode cX2_admit 90 = .ok (.getfield 9, 3) := by decide +kernel
theorem dX2_admit_93 : decode cX2_admit 93 = .ok (.iload 5, 2) := by decide +kernel
theorem dX2_admit_95 : decode cX2_admit 95 = .ok (.iaload, 1) := by decide +kernel
theorem dX2_admit_96 : decode cX2_admit 96 = .ok (.iload 6, 2) := by decide +kernel
theorem dX2_admit_98 : decode cX2_admit 98 = .ok (.invokevirtual 42, 3) := by decide +kernel
theorem dX2_admit_101 : decode cX2_admit 101 = .ok (.istore 7, 2) := by decide +kernel
theorem dX2_admit_103 : decode cX2_admit 103 = .ok (.aload_n 0, 1) := by decide +kernel
theorem dX2_admit_104 : decode cX2_admit 104 = .ok (.getfield 21, 3) := by decide +kernel
theorem dX2_admit_107 : decode cX2_admit 107 = .ok (.iload 7, 2) := by decide +kernel
theorem dX2_admit_109 : decode cX2_admit 109 = .ok (.iaload, 1) := by decide +kernel
theorem dX2_admit_110 : decode cX2_admit 110 = .ok (.iconst (-1), 1) := by decide +kernel
theorem dX2_admit_111 : decode cX2_admit 111 = .ok (.if_icmp .ne 63, 3) := by decide +kernel
theorem dX2_admit_114 : decode cX2_admit 114 = .ok (.aload_n 0, 1) := by decide +kernel
theorem dX2_admit_115 : decode cX2_admit 115 = .ok (.getfield 21, 3) := by decide +kernel
theorem dX2_admit_118 : decode cX2_admit 118 = .ok (.iload 7, 2) := by decide +kernel
theorem dX2_admit_120 : decode cX2_admit 120 = .ok (.iload 5, 2) := by decide +kernel
theorem dX2_admit_122 : decode cX2_admit 122 = .ok (.iastore, 1) := by decide +kernel
theorem dX2_admit_123 : decode cX2_admit 123 = .ok (.aload_n 0, 1) := by decide +kernel
theorem dX2_admit_124 : decode cX2_admit 124 = .ok (.getfield 18, 3) := by decide +kernel
theorem dX2_admit_127 : decode cX2_admit 127 = .ok (.iload 7, 2) := by decide +kernel
theorem dX2_admit_129 : decode cX2_admit 129 = .ok (.iaload, 1) := by decide +kernel
theorem dX2_admit_130 : decode cX2_admit 130 = .ok (.iconst (-1), 1) := by decide +kernel
theorem dX2_admit_131 : decode cX2_admit 131 = .ok (.if_icmp .ne 21, 3) := by decide +kernel
theorem dX2_admit_134 : decode cX2_admit 134 = .ok (.aload_n 0, 1) := by decide +kernel
theorem dX2_admit_135 : decode cX2_admit 135 = .ok (.iload 7, 2) := by decide +kernel
theorem dX2_admit_137 : decode cX2_admit 137 = .ok (.invokevirtual 46, 3) := by decide +kernel
theorem dX2_admit_140 : decode cX2_admit 140 = .ok (.aload_n 0, 1) := by decide +kernel
theorem dX2_admit_141 : decode cX2_admit 141 = .ok (.dup, 1) := by decide +kernel
theorem dX2_admit_142 : decode cX2_admit 142 = .ok (.getfield 27, 3) := by decide +kernel
theorem dX2_admit_145 : decode cX2_admit 145 = .ok (.iconst 1, 1) := by decide +kernel
theorem dX2_admit_146 : decode cX2_admit 146 = .ok (.iadd, 1) := by decide +kernel
theorem dX2_admit_147 : decode cX2_admit 147 = .ok (.putfield 27, 3) := by decide +kernel
theorem dX2_admit_150 : decode cX2_admit 150 = .ok (.iconst 1, 1) := by decide +kernel
theorem dX2_admit_151 : decode cX2_admit 151 = .ok (.ireturn, 1) := by decide +kernel
theorem dX2_admit_152 : decode cX2_admit 152 = .ok (.iload_n 3, 1) := by decide +kernel
theorem dX2_admit_153 : decode cX2_admit 153 = .ok (.bipush 64, 2) := by decide +kernel
theorem dX2_admit_155 : decode cX2_admit 155 = .ok (.if_icmp .ge 19, 3) := by decide +kernel
theorem dX2_admit_158 : decode cX2_admit 158 = .ok (.aload_n 0, 1) := by decide +kernel
theorem dX2_admit_159 : decode cX2_admit 159 = .ok (.getfield 24, 3) := by decide +kernel
theorem dX2_admit_162 : decode cX2_admit 162 = .ok (.iload_n 3, 1) := by decide +kernel
theorem dX2_admit_163 : decode cX2_admit 163 = .ok (.aload_n 0, 1) := by decide +kernel
theorem dX2_admit_164 : decode cX2_admit 164 = .ok (.getfield 18, 3) := by decide +kernel
theorem dX2_admit_167 : decode cX2_admit 167 = .ok (.iload 7, 2) := by decide +kernel
theorem dX2_admit_169 : decode cX2_admit 169 = .ok (.iaload, 1) := by decide +kernel
theorem dX2_admit_170 : decode cX2_admit 170 = .ok (.iastore, 1) := by decide +kernel
theorem dX2_admit_171 : decode cX2_admit 171 = .ok (.iinc 3 1, 3) := by decide +kernel
theorem dX2_admit_174 : decode cX2_admit 174 = .ok (.iinc 6 1, 3) := by decide +kernel
theorem dX2_admit_177 : decode cX2_admit 177 = .ok (.goto (-98), 3) := by decide +kernel
theorem dX2_admit_180 : decode cX2_admit 180 = .ok (.iinc 4 1, 3) := by decide +kernel
theorem dX2_admit_183 : decode cX2_admit 183 = .ok (.goto (-129), 3) := by decide +kernel
theorem dX2_admit_186 : decode cX2_admit 186 = .ok (.iconst 0, 1) := by decide +kernel
theorem dX2_admit_187 : decode cX2_admit 187 = .ok (.ireturn, 1) := by decide +kernel
def X2_admit_b79 (o1 : Nat) (k54 : Int32 → Int32 → gM → Option (Bool × gM)) (j134 : Int32 → gM → Option (Bool × gM)) (v13 : Int32) (x15 : Int32) (v16 v17 : Int32) (m18 : gM) (k79 : Int32 → Int32 → gM → Option (Bool × gM)) : Option (Bool × gM) :=
  if (m18 3 o1 0) ≤ v17 then (gLet (v13 + 1) (fun (x19 : Int32) => k54 v16 x19 m18)) else (gAt m18 20 0 x15 (fun (x20 : Int32) => gCall (X3_placeIn o1 x20 v17 m18) (fun (r22 : Int32) (m21 : gM) => gAt m21 23 0 r22 (fun (x23 : Int32) => if x23 = (-1) then (gPut m21 23 0 r22 x15 (fun (m25 : gM) => gAt m25 22 0 r22 (fun (x26 : Int32) => if x26 = (-1) then (j134 r22 m25) else (if 64 ≤ v16 then (gLet (v17 + 1) (fun (x27 : Int32) => k79 v16 x27 m25)) else (gAt m25 22 0 r22 (fun (x28 : Int32) => gPut m25 24 0 v16 x28 (fun (m29 : gM) => gLet (v16 + 1) (fun (x30 : Int32) => gLet (v17 + 1) (fun (x31 : Int32) => k79 x30 x31 m29))))))))) else (gLet (v17 + 1) (fun (x24 : Int32) => k79 v16 x24 m21))))))
def X2_admit_b54 (o1 : Nat) (j134 : Int32 → gM → Option (Bool × gM)) (v12 v13 : Int32) (m14 : gM) (k54 : Int32 → Int32 → gM → Option (Bool × gM)) : Option (Bool × gM) :=
  if v12 ≤ v13 then (some (false, m14)) else (if 64 ≤ v13 then (some (false, m14)) else (gAt m14 24 0 v13 (fun (x15 : Int32) => gL2 FU (X2_admit_b79 o1 k54 j134 v13 x15) v12 0 m14)))
def X2_admit (o1 : Nat) (a2 : Int32) (m : gM) : Option (Bool × gM) :=
  if (m 2 0 5) < 64 then (gPut m 20 0 (m 2 0 5) a2 (fun (m1 : gM) => gPut m1 21 0 (m1 2 0 5) (-1) (fun (m2 : gM) => gPut m2 24 0 0 (m2 2 0 5) (fun (m3 : gM) => gCall (J7_fill_53178 23 0 (-1) m3) (fun (r5 : Unit) (m4 : gM) => gJ1 (fun (v6 : Int32) (m7 : gM) => gCall (X2_shiftTo v6 m7) (fun (r9 : Unit) (m8 : gM) => gLet ((m8 2 0 5) + 1) (fun (x10 : Int32) => gSet m8 2 0 5 x10 (fun (m11 : gM) => some (true, m11))))) (fun (j134 : Int32 → gM → Option (Bool × gM)) => gL2 FU (X2_admit_b54 o1 j134) 1 0 m4)))))) else (some (false, m))
set_option maxRecDepth 100000 in
set_option maxHeartbeats 4000000 in
theorem c_X2_admit (o1 : Nat) (a2 : Int32) (m : gM) : gCon eB yX2_admit cX2_admit 8 (some .boolean) 3 [.inr (2, 0), .inr (3, o1), .inl a2] m (X2_admit o1 a2 m) := by
  refine gCon.of (lv := [some (.inr (2, 0)), some (.inr (3, o1)), some (.inl a2), none, none, none, none, none]) (by decide +kernel) (Nat.le_of_ble_eq_true rfl) rfl (fun X C => ?_)
  unfold X2_admit
  refine r_aload_n C dX2_admit_0 rfl rfl ?_
  refine r_get (v := .inl (m 2 0 5)) C fl_X2_27 dX2_admit_1 rfl ?_
  refine r_bipush (v := 64) C dX2_admit_4 (by decide) ?_
  refine r_icmp_lt (tgt := 11) C dX2_admit_6 (by decide) ?_ ?_
  · refine r_aload_n C dX2_admit_11 rfl rfl ?_
    refine r_get (v := .inr (20, 0)) C fl_X2_9 dX2_admit_12 rfl ?_
    refine r_aload_n C dX2_admit_15 rfl rfl ?_
    refine r_get (v := .inl (m 2 0 5)) C fl_X2_27 dX2_admit_16 rfl ?_
    refine r_iload_n C dX2_admit_19 rfl rfl ?_
    refine r_iast C rfl dX2_admit_20 (fun m1 => ?_)
    refine r_aload_n C dX2_admit_21 rfl rfl ?_
    refine r_get (v := .inr (21, 0)) C fl_X2_15 dX2_admit_22 rfl ?_
    refine r_aload_n C dX2_admit_25 rfl rfl ?_
    refine r_get (v := .inl (m1 2 0 5)) C fl_X2_27 dX2_admit_26 rfl ?_
    refine r_iconst (v := (-1)) C dX2_admit_29 (by decide) ?_
    refine r_iast C rfl dX2_admit_30 (fun m2 => ?_)
    refine r_aload_n C dX2_admit_31 rfl rfl ?_
    refine r_get (v := .inr (24, 0)) C fl_X2_24 dX2_admit_32 rfl ?_
    refine r_iconst (v := 0) C dX2_admit_35 (by decide) ?_
    refine r_aload_n C dX2_admit_36 rfl rfl ?_
    refine r_get (v := .inl (m2 2 0 5)) C fl_X2_27 dX2_admit_37 rfl ?_
    refine r_iast C rfl dX2_admit_40 (fun m3 => ?_)
    refine r_aload_n C dX2_admit_41 rfl rfl ?_
    refine r_get (v := .inr (23, 0)) C fl_X2_21 dX2_admit_42 rfl ?_
    refine r_iconst (v := (-1)) C dX2_admit_45 (by decide) ?_
    refine r_insU (As := [.inr (23, 0), .inl (-1)]) (st := []) C il_X2_31 co_J7_fill_53178 (c_J7_fill_53178 23 0 (-1) rfl m3) (by decide) (by decide) rfl rfl (Nat.le_of_ble_eq_true rfl) dX2_admit_46 (fun r5 m4 => ?_)
    refine r_iconst (v := 1) C dX2_admit_49 (by decide) ?_
    refine r_istore_n (lv' := [some (.inr (2, 0)), some (.inr (3, o1)), some (.inl a2), some (.inl 1), none, none, none, none]) C dX2_admit_50 rfl (by decide) rfl ?_
    refine r_iconst (v := 0) C dX2_admit_51 (by decide) ?_
    refine r_istore (lv' := [some (.inr (2, 0)), some (.inr (3, o1)), some (.inl a2), some (.inl 1), some (.inl 0), none, none, none]) C dX2_admit_52 (by decide) rfl ?_
    refine r_j1 134 (fun v6 => [some (.inr (2, 0)), none, none, none, none, none, none, some (.inl v6)]) (fun v6 => []) (fun v6 m7 => ?_) (fun j134 hj134 => ?_)
    · refine r_aload_n C dX2_admit_134 rfl rfl ?_
      refine r_iload C dX2_admit_135 rfl ?_
      refine r_invU (t := 2) (kb := 0) (As := [.inl v6]) (st := []) C il_X2_46 co_X2_shiftTo (by decide) rfl (c_X2_shiftTo v6 m7) (by decide) (by decide) rfl rfl (Nat.le_of_ble_eq_true rfl) dX2_admit_137 (fun r9 m8 => ?_)
      refine r_aload_n C dX2_admit_140 rfl rfl ?_
      refine r_dup C dX2_admit_141 ?_
      refine r_get (v := .inl (m8 2 0 5)) C fl_X2_27 dX2_admit_142 rfl ?_
      refine r_iconst (v := 1) C dX2_admit_145 (by decide) ?_
      refine r_iadd C dX2_admit_146 ?_
      refine r_let (fun x10 => ?_)
      refine r_put C fl_X2_27 rfl rfl rfl dX2_admit_147 (fun m11 => ?_)
      refine r_iconst (v := 1) C dX2_admit_150 (by decide) ?_
      exact r_zret1 C dX2_admit_151
    refine r_weak (lv' := [some (.inr (2, 0)), some (.inr (3, o1)), none, some (.inl 1), some (.inl 0), none, none, none]) ⟨rfl, rfl, rfl, rfl, trivial⟩ ?_
    refine r_l2 (pj := 54) (fun v12 v13 => [some (.inr (2, 0)), some (.inr (3, o1)), none, some (.inl v12), some (.inl v13), none, none, none]) (fun v12 v13 m14 k54 hk54 => ?_) _ _ _ _
    unfold X2_admit_b54
    refine r_iload C dX2_admit_54 rfl ?_
    refine r_iload_n C dX2_admit_56 rfl rfl ?_
    refine r_icmp_ge (tgt := 186) C dX2_admit_57 (by decide) ?_ ?_
    · refine r_iconst (v := 0) C dX2_admit_186 (by decide) ?_
      exact r_zret0 C dX2_admit_187
    refine r_iload C dX2_admit_60 rfl ?_
    refine r_bipush (v := 64) C dX2_admit_62 (by decide) ?_
    refine r_icmp_ge (tgt := 186) C dX2_admit_64 (by decide) ?_ ?_
    · refine r_iconst (v := 0) C dX2_admit_186 (by decide) ?_
      exact r_zret0 C dX2_admit_187
    refine r_aload_n C dX2_admit_67 rfl rfl ?_
    refine r_get (v := .inr (24, 0)) C fl_X2_24 dX2_admit_68 rfl ?_
    refine r_iload C dX2_admit_71 rfl ?_
    refine r_iald C rfl dX2_admit_73 (fun x15 => ?_)
    refine r_istore (lv' := [some (.inr (2, 0)), some (.inr (3, o1)), none, some (.inl v12), some (.inl v13), some (.inl x15), none, none]) C dX2_admit_74 (by decide) rfl ?_
    refine r_iconst (v := 0) C dX2_admit_76 (by decide) ?_
    refine r_istore (lv' := [some (.inr (2, 0)), some (.inr (3, o1)), none, some (.inl v12), some (.inl v13), some (.inl x15), some (.inl 0), none]) C dX2_admit_77 (by decide) rfl ?_
    refine r_weak (lv' := [some (.inr (2, 0)), some (.inr (3, o1)), none, some (.inl v12), some (.inl v13), some (.inl x15), some (.inl 0), none]) ⟨rfl, rfl, rfl, rfl, rfl, rfl, trivial⟩ ?_
    refine r_l2 (pj := 79) (fun v16 v17 => [some (.inr (2, 0)), some (.inr (3, o1)), none, some (.inl v16), some (.inl v13), some (.inl x15), some (.inl v17), none]) (fun v16 v17 m18 k79 hk79 => ?_) _ _ _ _
    unfold X2_admit_b79
    refine r_iload C dX2_admit_79 rfl ?_
    refine r_aload_n C dX2_admit_81 rfl rfl ?_
    refine r_get (v := .inl (m18 3 o1 0)) C fl_X2_37 dX2_admit_82 rfl ?_
    refine r_icmp_ge (tgt := 180) C dX2_admit_85 (by decide) ?_ ?_
    · refine r_iinc (v := 1) C dX2_admit_180 (by decide) rfl (by decide) (fun x19 => ?_)
      show gw X eB _ [some (.inr (2, 0)), some (.inr (3, o1)), none, some (.inl v16), some (.inl x19), some (.inl x15), some (.inl v17), none] _ _ _
      refine r_goto (tgt := 54) C dX2_admit_183 (by decide) ?_
      exact r_weak (lv' := [some (.inr (2, 0)), some (.inr (3, o1)), none, some (.inl v16), some (.inl x19), none, none, none]) ⟨rfl, rfl, rfl, rfl, trivial⟩ (hk54 _ _ _)
    refine r_aload_n C dX2_admit_88 rfl rfl ?_
    refine r_aload_n C dX2_admit_89 rfl rfl ?_
    refine r_get (v := .inr (20, 0)) C fl_X2_9 dX2_admit_90 rfl ?_
    refine r_iload C dX2_admit_93 rfl ?_
    refine r_iald C rfl dX2_admit_95 (fun x20 => ?_)
    refine r_iload C dX2_admit_96 rfl ?_
    refine r_invI (t := 3) (kb := o1) (As := [.inl x20, .inl v17]) (st := []) C il_X2_42 co_X3_placeIn (by decide) rfl (c_X3_placeIn o1 x20 v17 m18) (by decide) (by decide) rfl rfl (Nat.le_of_ble_eq_true rfl) dX2_admit_98 (fun r22 m21 => ?_)
    refine r_istore (lv' := [some (.inr (2, 0)), some (.inr (3, o1)), none, some (.inl v16), some (.inl v13), some (.inl x15), some (.inl v17), some (.inl r22)]) C dX2_admit_101 (by decide) rfl ?_
    refine r_aload_n C dX2_admit_103 rfl rfl ?_
    refine r_get (v := .inr (23, 0)) C fl_X2_21 dX2_admit_104 rfl ?_
    refine r_iload C dX2_admit_107 rfl ?_
    refine r_iald C rfl dX2_admit_109 (fun x23 => ?_)
    refine r_iconst (v := (-1)) C dX2_admit_110 (by decide) ?_
    refine r_icmp_ne (tgt := 174) C dX2_admit_111 (by decide) ?_ ?_
    · refine r_iinc (v := 1) C dX2_admit_174 (by decide) rfl (by decide) (fun x24 => ?_)
      show gw X eB _ [some (.inr (2, 0)), some (.inr (3, o1)), none, some (.inl v16), some (.inl v13), some (.inl x15), some (.inl x24), some (.inl r22)] _ _ _
      refine r_goto (tgt := 79) C dX2_admit_177 (by decide) ?_
      exact r_weak (lv' := [some (.inr (2, 0)), some (.inr (3, o1)), none, some (.inl v16), some (.inl v13), some (.inl x15), some (.inl x24), none]) ⟨rfl, rfl, rfl, rfl, rfl, rfl, trivial⟩ (hk79 _ _ _)
    refine r_aload_n C dX2_admit_114 rfl rfl ?_
    refine r_get (v := .inr (23, 0)) C fl_X2_21 dX2_admit_115 rfl ?_
    refine r_iload C dX2_admit_118 rfl ?_
    refine r_iload C dX2_admit_120 rfl ?_
    refine r_iast C rfl dX2_admit_122 (fun m25 => ?_)
    refine r_aload_n C dX2_admit_123 rfl rfl ?_
    refine r_get (v := .inr (22, 0)) C fl_X2_18 dX2_admit_124 rfl ?_
    refine r_iload C dX2_admit_127 rfl ?_
    refine r_iald C rfl dX2_admit_129 (fun x26 => ?_)
    refine r_iconst (v := (-1)) C dX2_admit_130 (by decide) ?_
    refine r_icmp_ne (tgt := 152) C dX2_admit_131 (by decide) ?_ ?_
    · refine r_iload_n C dX2_admit_152 rfl rfl ?_
      refine r_bipush (v := 64) C dX2_admit_153 (by decide) ?_
      refine r_icmp_ge (tgt := 174) C dX2_admit_155 (by decide) ?_ ?_
      · refine r_iinc (v := 1) C dX2_admit_174 (by decide) rfl (by decide) (fun x27 => ?_)
        show gw X eB _ [some (.inr (2, 0)), some (.inr (3, o1)), none, some (.inl v16), some (.inl v13), some (.inl x15), some (.inl x27), some (.inl r22)] _ _ _
        refine r_goto (tgt := 79) C dX2_admit_177 (by decide) ?_
        exact r_weak (lv' := [some (.inr (2, 0)), some (.inr (3, o1)), none, some (.inl v16), some (.inl v13), some (.inl x15), some (.inl x27), none]) ⟨rfl, rfl, rfl, rfl, rfl, rfl, trivial⟩ (hk79 _ _ _)
      refine r_aload_n C dX2_admit_158 rfl rfl ?_
      refine r_get (v := .inr (24, 0)) C fl_X2_24 dX2_admit_159 rfl ?_
      refine r_iload_n C dX2_admit_162 rfl rfl ?_
      refine r_aload_n C dX2_admit_163 rfl rfl ?_
      refine r_get (v := .inr (22, 0)) C fl_X2_18 dX2_admit_164 rfl ?_
      refine r_iload C dX2_admit_167 rfl ?_
      refine r_iald C rfl dX2_admit_169 (fun x28 => ?_)
      refine r_iast C rfl dX2_admit_170 (fun m29 => ?_)
      refine r_iinc (v := 1) C dX2_admit_171 (by decide) rfl (by decide) (fun x30 => ?_)
      show gw X eB _ [some (.inr (2, 0)), some (.inr (3, o1)), none, some (.inl x30), some (.inl v13), some (.inl x15), some (.inl v17), some (.inl r22)] _ _ _
      refine r_iinc (v := 1) C dX2_admit_174 (by decide) rfl (by decide) (fun x31 => ?_)
      show gw X eB _ [some (.inr (2, 0)), some (.inr (3, o1)), none, some (.inl x30), some (.inl v13), some (.inl x15), some (.inl x31), some (.inl r22)] _ _ _
      refine r_goto (tgt := 79) C dX2_admit_177 (by decide) ?_
      exact r_weak (lv' := [some (.inr (2, 0)), some (.inr (3, o1)), none, some (.inl x30), some (.inl v13), some (.inl x15), some (.inl x31), none]) ⟨rfl, rfl, rfl, rfl, rfl, rfl, trivial⟩ (hk79 _ _ _)
    exact r_weak (lv' := [some (.inr (2, 0)), none, none, none, none, none, none, some (.inl r22)]) ⟨rfl, rfl, trivial⟩ (hj134 _ _)
  refine r_iconst (v := 0) C dX2_admit_9 (by decide) ?_
  exact r_zret0 C dX2_admit_10
theorem dX8_maskAt_0 : decode cX8_maskAt 0 = .ok (.iload_n 0, 1) := by decide +kernel
theorem dX8_maskAt_1 : decode cX8_maskAt 1 = .ok (.iconst 4, 1) := by decide +kernel
theorem dX8_maskAt_2 : decode cX8_maskAt 2 = .ok (.imul, 1) := by decide +kernel
theorem dX8_maskAt_3 : decode cX8_maskAt 3 = .ok (.iload_n 1, 1) := by decide +kernel
theorem dX8_maskAt_4 : decode cX8_maskAt 4 = .ok (.iadd, 1) := by decide +kernel
theorem dX8_maskAt_5 : decode cX8_maskAt 5 = .ok (.ireturn, 1) := by decide +kernel
def X8_maskAt (a1 : Int32) (a2 : Int32) (m : gM) : Option (Int32 × gM) :=
  some ((a1 * 4) + a2, m)
set_option maxRecDepth 100000 in
set_option maxHeartbeats 4000000 in
theorem c_X8_maskAt (a1 : Int32) (a2 : Int32) (m : gM) : gCon eI yX8_maskAt cX8_maskAt 2 (some .int) 0 [.inl a1, .inl a2] m (X8_maskAt a1 a2 m) := by
  refine gCon.of (lv := [some (.inl a1), some (.inl a2)]) (by decide +kernel) (Nat.le_of_ble_eq_true rfl) rfl (fun X C => ?_)
  unfold X8_maskAt
  refine r_iload_n C dX8_maskAt_0 rfl rfl ?_
  refine r_iconst (v := 4) C dX8_maskAt_1 (by decide) ?_
  refine r_imul C dX8_maskAt_2 ?_
  refine r_iload_n C dX8_maskAt_3 rfl rfl ?_
  refine r_iadd C dX8_maskAt_4 ?_
  exact r_ireturn C dX8_maskAt_5
theorem dX3_maskOfFamily_0 : decode cX3_maskOfFamily 0 = .ok (.iload_n 1, 1) := by decide +kernel
theorem dX3_maskOfFamily_1 : decode cX3_maskOfFamily 1 = .ok (.iconst 2, 1) := by decide +kernel
theorem dX3_maskOfFamily_2 : decode cX3_maskOfFamily 2 = .ok (.if_icmp .ne 32, 3) := by decide +kernel
theorem dX3_maskOfFamily_5 : decode cX3_maskOfFamily 5 = .ok (.aload_n 0, 1) := by decide +kernel
theorem dX3_maskOfFamily_6 : decode cX3_maskOfFamily 6 = .ok (.aload_n 0, 1) := by decide +kernel
theorem dX3_maskOfFamily_7 : decode cX3_maskOfFamily 7 = .ok (.getfield 46, 3) := by decide +kernel
theorem dX3_maskOfFamily_10 : decode cX3_maskOfFamily 10 = .ok (.sipush 853, 3) := by decide +kernel
theorem dX3_maskOfFamily_13 : decode cX3_maskOfFamily 13 = .ok (.imul, 1) := by decide +kernel
theorem dX3_maskOfFamily_14 : decode cX3_maskOfFamily 14 = .ok (.sipush 461, 3) := by decide +kernel
theorem dX3_maskOfFamily_17 : decode cX3_maskOfFamily 17 = .ok (.iadd, 1) := by decide +kernel
theorem dX3_maskOfFamily_18 : decode cX3_maskOfFamily 18 = .ok (.sipush 30047, 3) := by decide +kernel
theorem dX3_maskOfFamily_21 : decode cX3_maskOfFamily 21 = .ok (.irem, 1) := by decide +kernel
theorem dX3_maskOfFamily_22 : decode cX3_maskOfFamily 22 = .ok (.putfield 46, 3) := by decide +kernel
theorem dX3_maskOfFamily_25 : decode cX3_maskOfFamily 25 = .ok (.aload_n 0, 1) := by decide +kernel
theorem dX3_maskOfFamily_26 : decode cX3_maskOfFamily 26 = .ok (.getfield 46, 3) := by decide +kernel
theorem dX3_maskOfFamily_29 : decode cX3_maskOfFamily 29 = .ok (.sipush 1024, 3) := by decide +kernel
theorem dX3_maskOfFamily_32 : decode cX3_maskOfFamily 32 = .ok (.irem, 1) := by decide +kernel
theorem dX3_maskOfFamily_33 : decode cX3_maskOfFamily 33 = .ok (.ireturn, 1) := by decide +kernel
theorem dX3_maskOfFamily_34 : decode cX3_maskOfFamily 34 = .ok (.iconst 1, 1) := by decide +kernel
theorem dX3_maskOfFamily_35 : decode cX3_maskOfFamily 35 = .ok (.iload_n 3, 1) := by decide +kernel
theorem dX3_maskOfFamily_36 : decode cX3_maskOfFamily 36 = .ok (.ishl, 1) := by decide +kernel
theorem dX3_maskOfFamily_37 : decode cX3_maskOfFamily 37 = .ok (.istore 4, 2) := by decide +kernel
theorem dX3_maskOfFamily_39 : decode cX3_maskOfFamily 39 = .ok (.iload_n 1, 1) := by decide +kernel
theorem dX3_maskOfFamily_40 : decode cX3_maskOfFamily 40 = .ok (.iconst 1, 1) := by decide +kernel
theorem dX3_maskOfFamily_41 : decode cX3_maskOfFamily 41 = .ok (.if_icmp .ne 24, 3) := by decide +kernel
theorem dX3_maskOfFamily_44 : decode cX3_maskOfFamily 44 = .ok (.iload 4, 2) := by decide +kernel
theorem dX3_maskOfFamily_46 : decode cX3_maskOfFamily 46 = .ok (.iconst 1, 1) := by decide +kernel
theorem dX3_maskOfFamily_47 : decode cX3_maskOfFamily 47 = .ok (.aload_n 0, 1) := by decide +kernel
theorem dX3_maskOfFamily_48 : decode cX3_maskOfFamily 48 = .ok (.getfield 43, 3) := by decide +kernel
theorem dX3_maskOfFamily_51 : decode cX3_maskOfFamily 51 = .ok (.iload_n 3, 1) := by decide +kernel
theorem dX3_maskOfFamily_52 : decode cX3_maskOfFamily 52 = .ok (.iload_n 2, 1) := by decide +kernel
theorem dX3_maskOfFamily_53 : decode cX3_maskOfFamily 53 = .ok (.iadd, 1) := by decide +kernel
theorem dX3_maskOfFamily_54 : decode cX3_maskOfFamily 54 = .ok (.aload_n 0, 1) := by decide +kernel
theorem dX3_maskOfFamily_55 : decode cX3_maskOfFamily 55 = .ok (.getfield 43, 3) := by decide +kernel
theorem dX3_maskOfFamily_58 : decode cX3_maskOfFamily 58 = .ok (.irem, 1) := by decide +kernel
theorem dX3_maskOfFamily_59 : decode cX3_maskOfFamily 59 = .ok (.iadd, 1) := by decide +kernel
theorem dX3_maskOfFamily_60 : decode cX3_maskOfFamily 60 = .ok (.ishl, 1) := by decide +kernel
theorem dX3_maskOfFamily_61 : decode cX3_maskOfFamily 61 = .ok (.ior, 1) := by decide +kernel
theorem dX3_maskOfFamily_62 : decode cX3_maskOfFamily 62 = .ok (.goto 5, 3) := by decide +kernel
theorem dX3_maskOfFamily_65 : decode cX3_maskOfFamily 65 = .ok (.iload 4, 2) := by decide +kernel
theorem dX3_maskOfFamily_67 : decode cX3_maskOfFamily 67 = .ok (.ireturn, 1) := by decide +kernel
def X3_maskOfFamily (k : Nat) (a1 : Int32) (a2 : Int32) (a3 : Int32) (m : gM) : Option (Int32 × gM) :=
  if a1 = 2 then (gLet (gRem (((m 3 k 3) * 853) + 461) 30047) (fun (x2 : Int32) => gSet m 3 k 3 x2 (fun (m3 : gM) => some (gRem (m3 3 k 3) 1024, m3)))) else (gLet (1 <<< (a3 &&& 31)) (fun (x1 : Int32) => if a1 = 1 then (if (m 3 k 1) = 0 then none else (some (x1 ||| (1 <<< (((m 3 k 1) + (gRem (a3 + a2) (m 3 k 1))) &&& 31)), m))) else (some (x1, m))))
set_option maxRecDepth 100000 in
set_option maxHeartbeats 4000000 in
theorem c_X3_maskOfFamily (k : Nat) (a1 : Int32) (a2 : Int32) (a3 : Int32) (m : gM) : gCon eI yX3_maskOfFamily cX3_maskOfFamily 5 (some .int) 0 [.inr (3, k), .inl a1, .inl a2, .inl a3] m (X3_maskOfFamily k a1 a2 a3 m) := by
  refine gCon.of (lv := [some (.inr (3, k)), some (.inl a1), some (.inl a2), some (.inl a3), none]) (by decide +kernel) (Nat.le_of_ble_eq_true rfl) rfl (fun X C => ?_)
  unfold X3_maskOfFamily
  refine r_iload_n C dX3_maskOfFamily_0 rfl rfl ?_
  refine r_iconst (v := 2) C dX3_maskOfFamily_1 (by decide) ?_
  refine r_icmp_ne (tgt := 34) C dX3_maskOfFamily_2 (by decide) ?_ ?_
  · refine r_iconst (v := 1) C dX3_maskOfFamily_34 (by decide) ?_
    refine r_iload_n C dX3_maskOfFamily_35 rfl rfl ?_
    refine r_ishl C dX3_maskOfFamily_36 ?_
    refine r_let (fun x1 => ?_)
    refine r_istore (lv' := [some (.inr (3, k)), some (.inl a1), some (.inl a2), some (.inl a3), some (.inl x1)]) C dX3_maskOfFamily_37 (by decide) rfl ?_
    refine r_iload_n C dX3_maskOfFamily_39 rfl rfl ?_
    refine r_iconst (v := 1) C dX3_maskOfFamily_40 (by decide) ?_
    refine r_icmp_ne (tgt := 65) C dX3_maskOfFamily_41 (by decide) ?_ ?_
    · refine r_iload C dX3_maskOfFamily_65 rfl ?_
      exact r_ireturn C dX3_maskOfFamily_67
    refine r_iload C dX3_maskOfFamily_44 rfl ?_
    refine r_iconst (v := 1) C dX3_maskOfFamily_46 (by decide) ?_
    refine r_aload_n C dX3_maskOfFamily_47 rfl rfl ?_
    refine r_get (v := .inl (m 3 k 1)) C fl_X3_43 dX3_maskOfFamily_48 rfl ?_
    refine r_iload_n C dX3_maskOfFamily_51 rfl rfl ?_
    refine r_iload_n C dX3_maskOfFamily_52 rfl rfl ?_
    refine r_iadd C dX3_maskOfFamily_53 ?_
    refine r_aload_n C dX3_maskOfFamily_54 rfl rfl ?_
    refine r_get (v := .inl (m 3 k 1)) C fl_X3_43 dX3_maskOfFamily_55 rfl ?_
    refine r_iremN C dX3_maskOfFamily_58 ?_
    refine r_iadd C dX3_maskOfFamily_59 ?_
    refine r_ishl C dX3_maskOfFamily_60 ?_
    refine r_ior C dX3_maskOfFamily_61 ?_
    refine r_goto (tgt := 67) C dX3_maskOfFamily_62 (by decide) ?_
    exact r_ireturn C dX3_maskOfFamily_67
  refine r_aload_n C dX3_maskOfFamily_5 rfl rfl ?_
  refine r_aload_n C dX3_maskOfFamily_6 rfl rfl ?_
  refine r_get (v := .inl (m 3 k 3)) C fl_X3_46 dX3_maskOfFamily_7 rfl ?_
  refine r_sipush (v := 853) C dX3_maskOfFamily_10 (by decide) ?_
  refine r_imul C dX3_maskOfFamily_13 ?_
  refine r_sipush (v := 461) C dX3_maskOfFamily_14 (by decide) ?_
  refine r_iadd C dX3_maskOfFamily_17 ?_
  refine r_sipush (v := 30047) C dX3_maskOfFamily_18 (by decide) ?_
  refine r_irem C dX3_maskOfFamily_21 (by decide) ?_
  refine r_let (fun x2 => ?_)
  refine r_put C fl_X3_46 rfl rfl rfl dX3_maskOfFamily_22 (fun m3 => ?_)
  refine r_aload_n C dX3_maskOfFamily_25 rfl rfl ?_
  refine r_get (v := .inl (m3 3 k 3)) C fl_X3_46 dX3_maskOfFamily_26 rfl ?_
  refine r_sipush (v := 1024) C dX3_maskOfFamily_29 (by decide) ?_
  refine r_irem C dX3_maskOfFamily_32 (by decide) ?_
  exact r_ireturn C dX3_maskOfFamily_33
theorem dX3_setFamily_0 : decode cX3_setFamily 0 = .ok (.iconst 0, 1) := by decide +kernel
theorem dX3_setFamily_1 : decode cX3_setFamily 1 = .ok (.istore_n 2, 1) := by decide +kernel
theorem dX3_setFamily_2 : decode cX3_setFamily 2 = .ok (.iload_n 2, 1) := by decide +kernel
theorem dX3_setFamily_3 : decode cX3_setFamily 3 = .ok (.aload_n 0, 1) := by decide +kernel
theorem dX3_setFamily_4 : decode cX3_setFamily 4 = .ok (.getfield 39, 3) := by decide +kernel
theorem dX3_setFamily_7 : decode cX3_setFamily 7 = .ok (.if_icmp .ge 42, 3) := by decide +kernel
theorem dX3_setFamily_10 : decode cX3_setFamily 10 = .ok (.iconst 0, 1) := by decide +kernel
theorem dX3_setFamily_11 : decode cX3_setFamily 11 = .ok (.istore_n 3, 1) := by decide +kernel
theorem dX3_setFamily_12 : decode cX3_setFamily 12 = .ok (.iload_n 3, 1) := by decide +kernel
theorem dX3_setFamily_13 : decode cX3_setFamily 13 = .ok (.aload_n 0, 1) := by decide +kernel
theorem dX3_setFamily_14 : decode cX3_setFamily 14 = .ok (.getfield 43, 3) := by decide +kernel
theorem dX3_setFamily_17 : decode cX3_setFamily 17 = .ok (.if_icmp .ge 26, 3) := by decide +kernel
theorem dX3_setFamily_20 : decode cX3_setFamily 20 = .ok (.aload_n 0, 1) := by decide +kernel
theorem dX3_setFamily_21 : decode cX3_setFamily 21 = .ok (.getfield 9, 3) := by decide +kernel
theorem dX3_setFamily_24 : decode cX3_setFamily 24 = .ok (.iload_n 2, 1) := by decide +kernel
theorem dX3_setFamily_25 : decode cX3_setFamily 25 = .ok (.iload_n 3, 1) := by decide +kernel
theorem dX3_setFamily_26 : decode cX3_setFamily 26 = .ok (.invokestatic 93, 3) := by decide +kernel
theorem dX3_setFamily_29 : decode cX3_setFamily 29 = .ok (.aload_n 0, 1) := by decide +kernel
theorem dX3_setFamily_30 : decode cX3_setFamily 30 = .ok (.iload_n 1, 1) := by decide +kernel
theorem dX3_setFamily_31 : decode cX3_setFamily 31 = .ok (.iload_n 2, 1) := by decide +kernel
theorem dX3_setFamily_32 : decode cX3_setFamily 32 = .ok (.iload_n 3, 1) := by decide +kernel
theorem dX3_setFamily_33 : decode cX3_setFamily 33 = .ok (.invokevirtual 96, 3) := by decide +kernel
theorem dX3_setFamily_36 : decode cX3_setFamily 36 = .ok (.iastore, 1) := by decide +kernel
theorem dX3_setFamily_37 : decode cX3_setFamily 37 = .ok (.iinc 3 1, 3) := by decide +kernel
theorem dX3_setFamily_40 : decode cX3_setFamily 40 = .ok (.goto (-28), 3) := by decide +kernel
theorem dX3_setFamily_43 : decode cX3_setFamily 43 = .ok (.iinc 2 1, 3) := by decide +kernel
theorem dX3_setFamily_46 : decode cX3_setFamily 46 = .ok (.goto (-44), 3) := by decide +kernel
theorem dX3_setFamily_49 : decode cX3_setFamily 49 = .ok (.return_, 1) := by decide +kernel
def X3_setFamily_b12 (k : Nat) (a1 : Int32) (k2 : Int32 → gM → Option (Unit × gM)) (v1 : Int32) (v3 : Int32) (m4 : gM) (k12 : Int32 → gM → Option (Unit × gM)) : Option (Unit × gM) :=
  if (m4 3 k 1) ≤ v3 then (gLet (v1 + 1) (fun (x5 : Int32) => k2 x5 m4)) else (gCall (X8_maskAt v1 v3 m4) (fun (r7 : Int32) (m6 : gM) => gCall (X3_maskOfFamily k a1 v1 v3 m6) (fun (r9 : Int32) (m8 : gM) => gPut m8 25 k r7 r9 (fun (m10 : gM) => gLet (v3 + 1) (fun (x11 : Int32) => k12 x11 m10)))))
def X3_setFamily_b2 (k : Nat) (a1 : Int32) (v1 : Int32) (m2 : gM) (k2 : Int32 → gM → Option (Unit × gM)) : Option (Unit × gM) :=
  if (m2 3 k 0) ≤ v1 then (some ((), m2)) else (gL1 FU (X3_setFamily_b12 k a1 k2 v1) 0 m2)
def X3_setFamily (k : Nat) (a1 : Int32) (m : gM) : Option (Unit × gM) :=
  gL1 FU (X3_setFamily_b2 k a1) 0 m
set_option maxRecDepth 100000 in
set_option maxHeartbeats 4000000 in
theorem c_X3_setFamily (k : Nat) (a1 : Int32) (m : gM) : gCon eU yX3_setFamily cX3_setFamily 4 none 1 [.inr (3, k), .inl a1] m (X3_setFamily k a1 m) := by
  refine gCon.of (lv := [some (.inr (3, k)), some (.inl a1), none, none]) (by decide +kernel) (Nat.le_of_ble_eq_true rfl) rfl (fun X C => ?_)
  unfold X3_setFamily
  refine r_iconst (v := 0) C dX3_setFamily_0 (by decide) ?_
  refine r_istore_n (lv' := [some (.inr (3, k)), some (.inl a1), some (.inl 0), none]) C dX3_setFamily_1 rfl (by decide) rfl ?_
  refine r_weak (lv' := [some (.inr (3, k)), some (.inl a1), some (.inl 0), none]) ⟨rfl, rfl, rfl, trivial⟩ ?_
  refine r_l1 (pj := 2) (fun v1 => [some (.inr (3, k)), some (.inl a1), some (.inl v1), none]) (fun v1 m2 k2 hk2 => ?_) _ _ _
  unfold X3_setFamily_b2
  refine r_iload_n C dX3_setFamily_2 rfl rfl ?_
  refine r_aload_n C dX3_setFamily_3 rfl rfl ?_
  refine r_get (v := .inl (m2 3 k 0)) C fl_X3_39 dX3_setFamily_4 rfl ?_
  refine r_icmp_ge (tgt := 49) C dX3_setFamily_7 (by decide) ?_ ?_
  · exact r_return C dX3_setFamily_49
  refine r_iconst (v := 0) C dX3_setFamily_10 (by decide) ?_
  refine r_istore_n (lv' := [some (.inr (3, k)), some (.inl a1), some (.inl v1), some (.inl 0)]) C dX3_setFamily_11 rfl (by decide) rfl ?_
  refine r_weak (lv' := [some (.inr (3, k)), some (.inl a1), some (.inl v1), some (.inl 0)]) ⟨rfl, rfl, rfl, rfl, trivial⟩ ?_
  refine r_l1 (pj := 12) (fun v3 => [some (.inr (3, k)), some (.inl a1), some (.inl v1), some (.inl v3)]) (fun v3 m4 k12 hk12 => ?_) _ _ _
  unfold X3_setFamily_b12
  refine r_iload_n C dX3_setFamily_12 rfl rfl ?_
  refine r_aload_n C dX3_setFamily_13 rfl rfl ?_
  refine r_get (v := .inl (m4 3 k 1)) C fl_X3_43 dX3_setFamily_14 rfl ?_
  refine r_icmp_ge (tgt := 43) C dX3_setFamily_17 (by decide) ?_ ?_
  · refine r_iinc (v := 1) C dX3_setFamily_43 (by decide) rfl (by decide) (fun x5 => ?_)
    show gw X eU _ [some (.inr (3, k)), some (.inl a1), some (.inl x5), some (.inl v3)] _ _ _
    refine r_goto (tgt := 2) C dX3_setFamily_46 (by decide) ?_
    exact r_weak (lv' := [some (.inr (3, k)), some (.inl a1), some (.inl x5), none]) ⟨rfl, rfl, rfl, trivial⟩ (hk2 _ _)
  refine r_aload_n C dX3_setFamily_20 rfl rfl ?_
  refine r_get (v := .inr (25, k)) C fl_X3_9 dX3_setFamily_21 rfl ?_
  refine r_iload_n C dX3_setFamily_24 rfl rfl ?_
  refine r_iload_n C dX3_setFamily_25 rfl rfl ?_
  refine r_insI (As := [.inl v1, .inl v3]) (st := [.inr (25, k)]) C il_X3_93 co_X8_maskAt (c_X8_maskAt v1 v3 m4) (by decide) (by decide) rfl rfl (Nat.le_of_ble_eq_true rfl) dX3_setFamily_26 (fun r7 m6 => ?_)
  refine r_aload_n C dX3_setFamily_29 rfl rfl ?_
  refine r_iload_n C dX3_setFamily_30 rfl rfl ?_
  refine r_iload_n C dX3_setFamily_31 rfl rfl ?_
  refine r_iload_n C dX3_setFamily_32 rfl rfl ?_
  refine r_invI (t := 3) (kb := k) (As := [.inl a1, .inl v1, .inl v3]) (st := [.inl r7, .inr (25, k)]) C il_X3_96 co_X3_maskOfFamily (by decide) rfl (c_X3_maskOfFamily k a1 v1 v3 m6) (by decide) (by decide) rfl rfl (Nat.le_of_ble_eq_true rfl) dX3_setFamily_33 (fun r9 m8 => ?_)
  refine r_iast C rfl dX3_setFamily_36 (fun m10 => ?_)
  refine r_iinc (v := 1) C dX3_setFamily_37 (by decide) rfl (by decide) (fun x11 => ?_)
  show gw X eU _ [some (.inr (3, k)), some (.inl a1), some (.inl v1), some (.inl x11)] _ _ _
  refine r_goto (tgt := 12) C dX3_setFamily_40 (by decide) ?_
  exact r_weak (lv' := [some (.inr (3, k)), some (.inl a1), some (.inl v1), some (.inl x11)]) ⟨rfl, rfl, rfl, rfl, trivial⟩ (hk12 _ _)
theorem dX3_begin_0 : decode cX3_begin 0 = .ok (.aload_n 0, 1) := by decide +kernel
theorem dX3_begin_1 : decode cX3_begin 1 = .ok (.iconst 2, 1) := by decide +kernel
theorem dX3_begin_2 : decode cX3_begin 2 = .ok (.putfield 39, 3) := by decide +kernel
theorem dX3_begin_5 : decode cX3_begin 5 = .ok (.aload_n 0, 1) := by decide +kernel
theorem dX3_begin_6 : decode cX3_begin 6 = .ok (.iconst 2, 1) := by decide +kernel
theorem dX3_begin_7 : decode cX3_begin 7 = .ok (.putfield 43, 3) := by decide +kernel
theorem dX3_begin_10 : decode cX3_begin 10 = .ok (.aload_n 0, 1) := by decide +kernel
theorem dX3_begin_11 : decode cX3_begin 11 = .ok (.sipush 431, 3) := by decide +kernel
theorem dX3_begin_14 : decode cX3_begin 14 = .ok (.putfield 46, 3) := by decide +kernel
theorem dX3_begin_17 : decode cX3_begin 17 = .ok (.aload_n 0, 1) := by decide +kernel
theorem dX3_begin_18 : decode cX3_begin 18 = .ok (.iconst 0, 1) := by decide +kernel
theorem dX3_begin_19 : decode cX3_begin 19 = .ok (.invokevirtual 49, 3) := by decide +kernel
theorem dX3_begin_22 : decode cX3_begin 22 = .ok (.iconst 0, 1) := by decide +kernel
theorem dX3_begin_23 : decode cX3_begin 23 = .ok (.istore_n 1, 1) := by decide +kernel
theorem dX3_begin_24 : decode cX3_begin 24 = .ok (.iload_n 1, 1) := by decide +kernel
theorem dX3_begin_25 : decode cX3_begin 25 = .ok (.sipush 1024, 3) := by decide +kernel
theorem dX3_begin_28 : decode cX3_begin 28 = .ok (.if_icmp .ge 22, 3) := by decide +kernel
theorem dX3_begin_31 : decode cX3_begin 31 = .ok (.aload_n 0, 1) := by decide +kernel
theorem dX3_begin_32 : decode cX3_begin 32 = .ok (.getfield 21, 3) := by decide +kernel
theorem dX3_begin_35 : decode cX3_begin 35 = .ok (.iload_n 1, 1) := by decide +kernel
theorem dX3_begin_36 : decode cX3_begin 36 = .ok (.iload_n 1, 1) := by decide +kernel
theorem dX3_begin_37 : decode cX3_begin 37 = .ok (.bipush 7, 2) := by decide +kernel
theorem dX3_begin_39 : decode cX3_begin 39 = .ok (.imul, 1) := by decide +kernel
theorem dX3_begin_40 : decode cX3_begin 40 = .ok (.bipush 100, 2) := by decide +kernel
theorem dX3_begin_42 : decode cX3_begin 42 = .ok (.irem, 1) := by decide +kernel
theorem dX3_begin_43 : decode cX3_begin 43 = .ok (.iastore, 1) := by decide +kernel
theorem dX3_begin_44 : decode cX3_begin 44 = .ok (.iinc 1 1, 3) := by decide +kernel
theorem dX3_begin_47 : decode cX3_begin 47 = .ok (.goto (-23), 3) := by decide +kernel
theorem dX3_begin_50 : decode cX3_begin 50 = .ok (.aload_n 0, 1) := by decide +kernel
theorem dX3_begin_51 : decode cX3_begin 51 = .ok (.getfield 24, 3) := by decide +kernel
theorem dX3_begin_54 : decode cX3_begin 54 = .ok (.iconst (-1), 1) := by decide +kernel
theorem dX3_begin_55 : decode cX3_begin 55 = .ok (.invokestatic 53, 3) := by decide +kernel
theorem dX3_begin_58 : decode cX3_begin 58 = .ok (.return_, 1) := by decide +kernel
def X3_begin_b24 (k : Nat) (j50 : gM → Option (Unit × gM)) (v9 : Int32) (m10 : gM) (k24 : Int32 → gM → Option (Unit × gM)) : Option (Unit × gM) :=
  if 1024 ≤ v9 then (j50 m10) else (gPut m10 28 k v9 (gRem (v9 * 7) 100) (fun (m11 : gM) => gLet (v9 + 1) (fun (x12 : Int32) => k24 x12 m11)))
def X3_begin (k : Nat) (m : gM) : Option (Unit × gM) :=
  gSet m 3 k 0 2 (fun (m1 : gM) => gSet m1 3 k 1 2 (fun (m2 : gM) => gSet m2 3 k 3 431 (fun (m3 : gM) => gCall (X3_setFamily k 0 m3) (fun (r5 : Unit) (m4 : gM) => gJ0 (fun (m6 : gM) => gCall (J7_fill_53178 29 k (-1) m6) (fun (r8 : Unit) (m7 : gM) => some ((), m7))) (fun (j50 : gM → Option (Unit × gM)) => gL1 FU (X3_begin_b24 k j50) 0 m4)))))
set_option maxRecDepth 100000 in
set_option maxHeartbeats 4000000 in
theorem c_X3_begin (k : Nat) (m : gM) : gCon eU yX3_begin cX3_begin 2 none 2 [.inr (3, k)] m (X3_begin k m) := by
  refine gCon.of (lv := [some (.inr (3, k)), none]) (by decide +kernel) (Nat.le_of_ble_eq_true rfl) rfl (fun X C => ?_)
  unfold X3_begin
  refine r_aload_n C dX3_begin_0 rfl rfl ?_
  refine r_iconst (v := 2) C dX3_begin_1 (by decide) ?_
  refine r_put C fl_X3_39 rfl rfl rfl dX3_begin_2 (fun m1 => ?_)
  refine r_aload_n C dX3_begin_5 rfl rfl ?_
  refine r_iconst (v := 2) C dX3_begin_6 (by decide) ?_
  refine r_put C fl_X3_43 rfl rfl rfl dX3_begin_7 (fun m2 => ?_)
  refine r_aload_n C dX3_begin_10 rfl rfl ?_
  refine r_sipush (v := 431) C dX3_begin_11 (by decide) ?_
  refine r_put C fl_X3_46 rfl rfl rfl dX3_begin_14 (fun m3 => ?_)
  refine r_aload_n C dX3_begin_17 rfl rfl ?_
  refine r_iconst (v := 0) C dX3_begin_18 (by decide) ?_
  refine r_invU (t := 3) (kb := k) (As := [.inl 0]) (st := []) C il_X3_49 co_X3_setFamily (by decide) rfl (c_X3_setFamily k 0 m3) (by decide) (by decide) rfl rfl (Nat.le_of_ble_eq_true rfl) dX3_begin_19 (fun r5 m4 => ?_)
  refine r_iconst (v := 0) C dX3_begin_22 (by decide) ?_
  refine r_istore_n (lv' := [some (.inr (3, k)), some (.inl 0)]) C dX3_begin_23 rfl (by decide) rfl ?_
  refine r_j0 50 [some (.inr (3, k)), none] [] (fun m6 => ?_) (fun j50 hj50 => ?_)
  · refine r_aload_n C dX3_begin_50 rfl rfl ?_
    refine r_get (v := .inr (29, k)) C fl_X3_24 dX3_begin_51 rfl ?_
    refine r_iconst (v := (-1)) C dX3_begin_54 (by decide) ?_
    refine r_insU (As := [.inr (29, k), .inl (-1)]) (st := []) C il_X3_53 co_J7_fill_53178 (c_J7_fill_53178 29 k (-1) rfl m6) (by decide) (by decide) rfl rfl (Nat.le_of_ble_eq_true rfl) dX3_begin_55 (fun r8 m7 => ?_)
    exact r_return C dX3_begin_58
  refine r_weak (lv' := [some (.inr (3, k)), some (.inl 0)]) ⟨rfl, rfl, trivial⟩ ?_
  refine r_l1 (pj := 24) (fun v9 => [some (.inr (3, k)), some (.inl v9)]) (fun v9 m10 k24 hk24 => ?_) _ _ _
  unfold X3_begin_b24
  refine r_iload_n C dX3_begin_24 rfl rfl ?_
  refine r_sipush (v := 1024) C dX3_begin_25 (by decide) ?_
  refine r_icmp_ge (tgt := 50) C dX3_begin_28 (by decide) ?_ ?_
  · exact r_weak (lv' := [some (.inr (3, k)), none]) ⟨rfl, trivial⟩ (hj50 _)
  refine r_aload_n C dX3_begin_31 rfl rfl ?_
  refine r_get (v := .inr (28, k)) C fl_X3_21 dX3_begin_32 rfl ?_
  refine r_iload_n C dX3_begin_35 rfl rfl ?_
  refine r_iload_n C dX3_begin_36 rfl rfl ?_
  refine r_bipush (v := 7) C dX3_begin_37 (by decide) ?_
  refine r_imul C dX3_begin_39 ?_
  refine r_bipush (v := 100) C dX3_begin_40 (by decide) ?_
  refine r_irem C dX3_begin_42 (by decide) ?_
  refine r_iast C rfl dX3_begin_43 (fun m11 => ?_)
  refine r_iinc (v := 1) C dX3_begin_44 (by decide) rfl (by decide) (fun x12 => ?_)
  show gw X eU _ [some (.inr (3, k)), some (.inl x12)] _ _ _
  refine r_goto (tgt := 24) C dX3_begin_47 (by decide) ?_
  exact r_weak (lv' := [some (.inr (3, k)), some (.inl x12)]) ⟨rfl, rfl, trivial⟩ (hk24 _ _)
theorem dX3_takeRow_0 : decode cX3_takeRow 0 = .ok (.aload_n 0, 1) := by decide +kernel
theorem dX3_takeRow_1 : decode cX3_takeRow 1 = .ok (.iconst 0, 1) := by decide +kernel
theorem dX3_takeRow_2 : decode cX3_takeRow 2 = .ok (.aload_n 1, 1) := by decide +kernel
theorem dX3_takeRow_3 : decode cX3_takeRow 3 = .ok (.iconst 0, 1) := by decide +kernel
theorem dX3_takeRow_4 : decode cX3_takeRow 4 = .ok (.aload_n 0, 1) := by decide +kernel
theorem dX3_takeRow_5 : decode cX3_takeRow 5 = .ok (.arraylength, 1) := by decide +kernel
theorem dX3_takeRow_6 : decode cX3_takeRow 6 = .ok (.aload_n 1, 1) := by decide +kernel
theorem dX3_takeRow_7 : decode cX3_takeRow 7 = .ok (.arraylength, 1) := by decide +kernel
theorem dX3_takeRow_8 : decode cX3_takeRow 8 = .ok (.invokestatic 69, 3) := by decide +kernel
theorem dX3_takeRow_11 : decode cX3_takeRow 11 = .ok (.invokestatic 75, 3) := by decide +kernel
theorem dX3_takeRow_14 : decode cX3_takeRow 14 = .ok (.return_, 1) := by decide +kernel
def X3_takeRow (t1 u1 : Nat) (t2 u2 : Nat) (m : gM) : Option (Unit × gM) :=
  gCopy m t1 u1 t2 u2 0 0 (gMin (Int32.ofNat (glen t1)) (Int32.ofNat (glen t2))) (fun (m1 : gM) => some ((), m1))
set_option maxRecDepth 100000 in
set_option maxHeartbeats 4000000 in
theorem c_X3_takeRow (t1 u1 : Nat) (t2 u2 : Nat) (ht1 : gia t1 = true) (ht2 : gia t2 = true) (m : gM) : gCon eU yX3_takeRow cX3_takeRow 2 none 1 [.inr (t1, u1), .inr (t2, u2)] m (X3_takeRow t1 u1 t2 u2 m) := by
  refine gCon.of (lv := [some (.inr (t1, u1)), some (.inr (t2, u2))]) (by decide +kernel) (Nat.le_of_ble_eq_true rfl) rfl (fun X C => ?_)
  unfold X3_takeRow
  refine r_aload_n C dX3_takeRow_0 rfl rfl ?_
  refine r_iconst (v := 0) C dX3_takeRow_1 (by decide) ?_
  refine r_aload_n C dX3_takeRow_2 rfl rfl ?_
  refine r_iconst (v := 0) C dX3_takeRow_3 (by decide) ?_
  refine r_aload_n C dX3_takeRow_4 rfl rfl ?_
  refine r_alen C (gia_spec ht1).1 rfl dX3_takeRow_5 ?_
  refine r_aload_n C dX3_takeRow_6 rfl rfl ?_
  refine r_alen C (gia_spec ht2).1 rfl dX3_takeRow_7 ?_
  refine r_mmin C im_X3_69 (by decide) (Nat.le_of_ble_eq_true rfl) dX3_takeRow_8 ?_
  refine r_copy C ht1 ht2 ia_X3_75 (by decide) (by decide +kernel) dX3_takeRow_11 (fun m1 => ?_)
  exact r_return C dX3_takeRow_14
theorem dX3_takeStore_0 : decode cX3_takeStore 0 = .ok (.aload_n 0, 1) := by decide +kernel
theorem dX3_takeStore_1 : decode cX3_takeStore 1 = .ok (.aload_n 1, 1) := by decide +kernel
theorem dX3_takeStore_2 : decode cX3_takeStore 2 = .ok (.getfield 39, 3) := by decide +kernel
theorem dX3_takeStore_5 : decode cX3_takeStore 5 = .ok (.putfield 39, 3) := by decide +kernel
theorem dX3_takeStore_8 : decode cX3_takeStore 8 = .ok (.aload_n 0, 1) := by decide +kernel
theorem dX3_takeStore_9 : decode cX3_takeStore 9 = .ok (.aload_n 1, 1) := by decide +kernel
theorem dX3_takeStore_10 : decode cX3_takeStore 10 = .ok (.getfield 43, 3) := by decide +kernel
theorem dX3_takeStore_13 : decode cX3_takeStore 13 = .ok (.putfield 43, 3) := by decide +kernel
theorem dX3_takeStore_16 : decode cX3_takeStore 16 = .ok (.aload_n 0, 1) := by decide +kernel
theorem dX3_takeStore_17 : decode cX3_takeStore 17 = .ok (.aload_n 1, 1) := by decide +kernel
theorem dX3_takeStore_18 : decode cX3_takeStore 18 = .ok (.getfield 59, 3) := by decide +kernel
theorem dX3_takeStore_21 : decode cX3_takeStore 21 = .ok (.putfield 59, 3) := by decide +kernel
theorem dX3_takeStore_24 : decode cX3_takeStore 24 = .ok (.aload_n 0, 1) := by decide +kernel
theorem dX3_takeStore_25 : decode cX3_takeStore 25 = .ok (.aload_n 1, 1) := by decide +kernel
theorem dX3_takeStore_26 : decode cX3_takeStore 26 = .ok (.getfield 46, 3) := by decide +kernel
theorem dX3_takeStore_29 : decode cX3_takeStore 29 = .ok (.putfield 46, 3) := by decide +kernel
theorem dX3_takeStore_32 : decode cX3_takeStore 32 = .ok (.aload_n 0, 1) := by decide +kernel
theorem dX3_takeStore_33 : decode cX3_takeStore 33 = .ok (.aload_n 1, 1) := by decide +kernel
theorem dX3_takeStore_34 : decode cX3_takeStore 34 = .ok (.getfield 62, 3) := by decide +kernel
theorem dX3_takeStore_37 : decode cX3_takeStore 37 = .ok (.putfield 62, 3) := by decide +kernel
theorem dX3_takeStore_40 : decode cX3_takeStore 40 = .ok (.aload_n 1, 1) := by decide +kernel
theorem dX3_takeStore_41 : decode cX3_takeStore 41 = .ok (.getfield 9, 3) := by decide +kernel
theorem dX3_takeStore_44 : decode cX3_takeStore 44 = .ok (.aload_n 0, 1) := by decide +kernel
theorem dX3_takeStore_45 : decode cX3_takeStore 45 = .ok (.getfield 9, 3) := by decide +kernel
theorem dX3_takeStore_48 : decode cX3_takeStore 48 = .ok (.invokestatic 65, 3) := by decide +kernel
theorem dX3_takeStore_51 : decode cX3_takeStore 51 = .ok (.aload_n 1, 1) := by decide +kernel
theorem dX3_takeStore_52 : decode cX3_takeStore 52 = .ok (.getfield 15, 3) := by decide +kernel
theorem dX3_takeStore_55 : decode cX3_takeStore 55 = .ok (.aload_n 0, 1) := by decide +kernel
theorem dX3_takeStore_56 : decode cX3_takeStore 56 = .ok (.getfield 15, 3) := by decide +kernel
theorem dX3_takeStore_59 : decode cX3_takeStore 59 = .ok (.invokestatic 65, 3) := by decide +kernel
theorem dX3_takeStore_62 : decode cX3_takeStore 62 = .ok (.aload_n 1, 1) := by decide +kernel
theorem dX3_takeStore_63 : decode cX3_takeStore 63 = .ok (.getfield 18, 3) := by decide +kernel
theorem dX3_takeStore_66 : decode cX3_takeStore 66 = .ok (.aload_n 0, 1) := by decide +kernel
theorem dX3_takeStore_67 : decode cX3_takeStore 67 = .ok (.getfield 18, 3) := by decide +kernel
theorem dX3_takeStore_70 : decode cX3_takeStore 70 = .ok (.invokestatic 65, 3) := by decide +kernel
theorem dX3_takeStore_73 : decode cX3_takeStore 73 = .ok (.aload_n 1, 1) := by decide +kernel
theorem dX3_takeStore_74 : decode cX3_takeStore 74 = .ok (.getfield 21, 3) := by decide +kernel
theorem dX3_takeStore_77 : decode cX3_takeStore 77 = .ok (.aload_n 0, 1) := by decide +kernel
theorem dX3_takeStore_78 : decode cX3_takeStore 78 = .ok (.getfield 21, 3) := by decide +kernel
theorem dX3_takeStore_81 : decode cX3_takeStore 81 = .ok (.invokestatic 65, 3) := by decide +kernel
theorem dX3_takeStore_84 : decode cX3_takeStore 84 = .ok (.aload_n 1, 1) := by decide +kernel
theorem dX3_takeStore_85 : decode cX3_takeStore 85 = .ok (.getfield 24, 3) := by decide +kernel
theorem dX3_takeStore_88 : decode cX3_takeStore 88 = .ok (.aload_n 0, 1) := by decide +kernel
theorem dX3_takeStore_89 : decode cX3_takeStore 89 = .ok (.getfield 24, 3) := by decide +kernel
theorem dX3_takeStore_92 : decode cX3_takeStore 92 = .ok (.invokestatic 65, 3) := by decide +kernel
theorem dX3_takeStore_95 : decode cX3_takeStore 95 = .ok (.aload_n 1, 1) := by decide +kernel
theorem dX3_takeStore_96 : decode cX3_takeStore 96 = .ok (.getfield 27, 3) := by decide +kernel
theorem dX3_takeStore_99 : decode cX3_takeStore 99 = .ok (.aload_n 0, 1) := by decide +kernel
theorem dX3_takeStore_100 : decode cX3_takeStore 100 = .ok (.getfield 27, 3) := by decide +kernel
theorem dX3_takeStore_103 : decode cX3_takeStore 103 = .ok (.invokestatic 65, 3) := by decide +kernel
theorem dX3_takeStore_106 : decode cX3_takeStore 106 = .ok (.aload_n 1, 1) := by decide +kernel
theorem dX3_takeStore_107 : decode cX3_takeStore 107 = .ok (.getfield 30, 3) := by decide +kernel
theorem dX3_takeStore_110 : decode cX3_takeStore 110 = .ok (.aload_n 0, 1) := by decide +kernel
theorem dX3_takeStore_111 : decode cX3_takeStore 111 = .ok (.getfield 30, 3) := by decide +kernel
theorem dX3_takeStore_114 : decode cX3_takeStore 114 = .ok (.invokestatic 65, 3) := by decide +kernel
theorem dX3_takeStore_117 : decode cX3_takeStore 117 = .ok (.aload_n 1, 1) := by decide +kernel
theorem dX3_takeStore_118 : decode cX3_takeStore 118 = .ok (.getfield 33, 3) := by decide +kernel
theorem dX3_takeStore_121 : decode cX3_takeStore 121 = .ok (.aload_n 0, 1) := by decide +kernel
theorem dX3_takeStore_122 : decode cX3_takeStore 122 = .ok (.getfield 33, 3) := by decide +kernel
theorem dX3_takeStore_125 : decode cX3_takeStore 125 = .ok (.invokestatic 65, 3) := by decide +kernel
theorem dX3_takeStore_128 : decode cX3_takeStore 128 = .ok (.aload_n 1, 1) := by decide +kernel
theorem dX3_takeStore_129 : decode cX3_takeStore 129 = .ok (.getfield 36, 3) := by decide +kernel
theorem dX3_takeStore_132 : decode cX3_takeStore 132 = .ok (.aload_n 0, 1) := by decide +kernel
theorem dX3_takeStore_133 : decode cX3_takeStore 133 = .ok (.getfield 36, 3) := by decide +kernel
theorem dX3_takeStore_136 : decode cX3_takeStore 136 = .ok (.invokestatic 65, 3) := by decide +kernel
theorem dX3_takeStore_139 : decode cX3_takeStore 139 = .ok (.return_, 1) := by decide +kernel
def X3_takeStore (k : Nat) (o1 : Nat) (m : gM) : Option (Unit × gM) :=
  gSet m 3 k 0 (m 3 o1 0) (fun (m1 : gM) => gSet m1 3 k 1 (m1 3 o1 1) (fun (m2 : gM) => gSet m2 3 k 2 (m2 3 o1 2) (fun (m3 : gM) => gSet m3 3 k 3 (m3 3 o1 3) (fun (m4 : gM) => gSet m4 3 k 4 (m4 3 o1 4) (fun (m5 : gM) => gCall (X3_takeRow 25 o1 25 k m5) (fun (r7 : Unit) (m6 : gM) => gCall (X3_takeRow 26 o1 26 k m6) (fun (r9 : Unit) (m8 : gM) => gCall (X3_takeRow 27 o1 27 k m8) (fun (r11 : Unit) (m10 : gM) => gCall (X3_takeRow 28 o1 28 k m10) (fun (r13 : Unit) (m12 : gM) => gCall (X3_takeRow 29 o1 29 k m12) (fun (r15 : Unit) (m14 : gM) => gCall (X3_takeRow 30 o1 30 k m14) (fun (r17 : Unit) (m16 : gM) => gCall (X3_takeRow 31 o1 31 k m16) (fun (r19 : Unit) (m18 : gM) => gCall (X3_takeRow 32 o1 32 k m18) (fun (r21 : Unit) (m20 : gM) => gCall (X3_takeRow 33 o1 33 k m20) (fun (r23 : Unit) (m22 : gM) => some ((), m22)))))))))))))))
set_option maxRecDepth 100000 in
set_option maxHeartbeats 4000000 in
theorem c_X3_takeStore (k : Nat) (o1 : Nat) (m : gM) : gCon eU yX3_takeStore cX3_takeStore 2 none 2 [.inr (3, k), .inr (3, o1)] m (X3_takeStore k o1 m) := by
  refine gCon.of (lv := [some (.inr (3, k)), some (.inr (3, o1))]) (by decide +kernel) (Nat.le_of_ble_eq_true rfl) rfl (fun X C => ?_)
  unfold X3_takeStore
  refine r_aload_n C dX3_takeStore_0 rfl rfl ?_
  refine r_aload_n C dX3_takeStore_1 rfl rfl ?_
  refine r_get (v := .inl (m 3 o1 0)) C fl_X3_39 dX3_takeStore_2 rfl ?_
  refine r_put C fl_X3_39 rfl rfl rfl dX3_takeStore_5 (fun m1 => ?_)
  refine r_aload_n C dX3_takeStore_8 rfl rfl ?_
  refine r_aload_n C dX3_takeStore_9 rfl rfl ?_
  refine r_get (v := .inl (m1 3 o1 1)) C fl_X3_43 dX3_takeStore_10 rfl ?_
  refine r_put C fl_X3_43 rfl rfl rfl dX3_takeStore_13 (fun m2 => ?_)
  refine r_aload_n C dX3_takeStore_16 rfl rfl ?_
  refine r_aload_n C dX3_takeStore_17 rfl rfl ?_
  refine r_get (v := .inl (m2 3 o1 2)) C fl_X3_59 dX3_takeStore_18 rfl ?_
  refine r_put C fl_X3_59 rfl rfl rfl dX3_takeStore_21 (fun m3 => ?_)
  refine r_aload_n C dX3_takeStore_24 rfl rfl ?_
  refine r_aload_n C dX3_takeStore_25 rfl rfl ?_
  refine r_get (v := .inl (m3 3 o1 3)) C fl_X3_46 dX3_takeStore_26 rfl ?_
  refine r_put C fl_X3_46 rfl rfl rfl dX3_takeStore_29 (fun m4 => ?_)
  refine r_aload_n C dX3_takeStore_32 rfl rfl ?_
  refine r_aload_n C dX3_takeStore_33 rfl rfl ?_
  refine r_get (v := .inl (m4 3 o1 4)) C fl_X3_62 dX3_takeStore_34 rfl ?_
  refine r_put C fl_X3_62 rfl rfl rfl dX3_takeStore_37 (fun m5 => ?_)
  refine r_aload_n C dX3_takeStore_40 rfl rfl ?_
  refine r_get (v := .inr (25, o1)) C fl_X3_9 dX3_takeStore_41 rfl ?_
  refine r_aload_n C dX3_takeStore_44 rfl rfl ?_
  refine r_get (v := .inr (25, k)) C fl_X3_9 dX3_takeStore_45 rfl ?_
  refine r_insU (As := [.inr (25, o1), .inr (25, k)]) (st := []) C il_X3_65 co_X3_takeRow (c_X3_takeRow 25 o1 25 k rfl rfl m5) (by decide) (by decide) rfl rfl (Nat.le_of_ble_eq_true rfl) dX3_takeStore_48 (fun r7 m6 => ?_)
  refine r_aload_n C dX3_takeStore_51 rfl rfl ?_
  refine r_get (v := .inr (26, o1)) C fl_X3_15 dX3_takeStore_52 rfl ?_
  refine r_aload_n C dX3_takeStore_55 rfl rfl ?_
  refine r_get (v := .inr (26, k)) C fl_X3_15 dX3_takeStore_56 rfl ?_
  refine r_insU (As := [.inr (26, o1), .inr (26, k)]) (st := []) C il_X3_65 co_X3_takeRow (c_X3_takeRow 26 o1 26 k rfl rfl m6) (by decide) (by decide) rfl rfl (Nat.le_of_ble_eq_true rfl) dX3_takeStore_59 (fun r9 m8 => ?_)
  refine r_aload_n C dX3_takeStore_62 rfl rfl ?_
  refine r_get (v := .inr (27, o1)) C fl_X3_18 dX3_takeStore_63 rfl ?_
  refine r_aload_n C dX3_takeStore_66 rfl rfl ?_
  refine r_get (v := .inr (27, k)) C fl_X3_18 dX3_takeStore_67 rfl ?_
  refine r_insU (As := [.inr (27, o1), .inr (27, k)]) (st := []) C il_X3_65 co_X3_takeRow (c_X3_takeRow 27 o1 27 k rfl rfl m8) (by decide) (by decide) rfl rfl (Nat.le_of_ble_eq_true rfl) dX3_takeStore_70 (fun r11 m10 => ?_)
  refine r_aload_n C dX3_takeStore_73 rfl rfl ?_
  refine r_get (v := .inr (28, o1)) C fl_X3_21 dX3_takeStore_74 rfl ?_
  refine r_aload_n C dX3_takeStore_77 rfl rfl ?_
  refine r_get (v := .inr (28, k)) C fl_X3_21 dX3_takeStore_78 rfl ?_
  refine r_insU (As := [.inr (28, o1), .inr (28, k)]) (st := []) C il_X3_65 co_X3_takeRow (c_X3_takeRow 28 o1 28 k rfl rfl m10) (by decide) (by decide) rfl rfl (Nat.le_of_ble_eq_true rfl) dX3_takeStore_81 (fun r13 m12 => ?_)
  refine r_aload_n C dX3_takeStore_84 rfl rfl ?_
  refine r_get (v := .inr (29, o1)) C fl_X3_24 dX3_takeStore_85 rfl ?_
  refine r_aload_n C dX3_takeStore_88 rfl rfl ?_
  refine r_get (v := .inr (29, k)) C fl_X3_24 dX3_takeStore_89 rfl ?_
  refine r_insU (As := [.inr (29, o1), .inr (29, k)]) (st := []) C il_X3_65 co_X3_takeRow (c_X3_takeRow 29 o1 29 k rfl rfl m12) (by decide) (by decide) rfl rfl (Nat.le_of_ble_eq_true rfl) dX3_takeStore_92 (fun r15 m14 => ?_)
  refine r_aload_n C dX3_takeStore_95 rfl rfl ?_
  refine r_get (v := .inr (30, o1)) C fl_X3_27 dX3_takeStore_96 rfl ?_
  refine r_aload_n C dX3_takeStore_99 rfl rfl ?_
  refine r_get (v := .inr (30, k)) C fl_X3_27 dX3_takeStore_100 rfl ?_
  refine r_insU (As := [.inr (30, o1), .inr (30, k)]) (st := []) C il_X3_65 co_X3_takeRow (c_X3_takeRow 30 o1 30 k rfl rfl m14) (by decide) (by decide) rfl rfl (Nat.le_of_ble_eq_true rfl) dX3_takeStore_103 (fun r17 m16 => ?_)
  refine r_aload_n C dX3_takeStore_106 rfl rfl ?_
  refine r_get (v := .inr (31, o1)) C fl_X3_30 dX3_takeStore_107 rfl ?_
  refine r_aload_n C dX3_takeStore_110 rfl rfl ?_
  refine r_get (v := .inr (31, k)) C fl_X3_30 dX3_takeStore_111 rfl ?_
  refine r_insU (As := [.inr (31, o1), .inr (31, k)]) (st := []) C il_X3_65 co_X3_takeRow (c_X3_takeRow 31 o1 31 k rfl rfl m16) (by decide) (by decide) rfl rfl (Nat.le_of_ble_eq_true rfl) dX3_takeStore_114 (fun r19 m18 => ?_)
  refine r_aload_n C dX3_takeStore_117 rfl rfl ?_
  refine r_get (v := .inr (32, o1)) C fl_X3_33 dX3_takeStore_118 rfl ?_
  refine r_aload_n C dX3_takeStore_121 rfl rfl ?_
  refine r_get (v := .inr (32, k)) C fl_X3_33 dX3_takeStore_122 rfl ?_
  refine r_insU (As := [.inr (32, o1), .inr (32, k)]) (st := []) C il_X3_65 co_X3_takeRow (c_X3_takeRow 32 o1 32 k rfl rfl m18) (by decide) (by decide) rfl rfl (Nat.le_of_ble_eq_true rfl) dX3_takeStore_125 (fun r21 m20 => ?_)
  refine r_aload_n C dX3_takeStore_128 rfl rfl ?_
  refine r_get (v := .inr (33, o1)) C fl_X3_36 dX3_takeStore_129 rfl ?_
  refine r_aload_n C dX3_takeStore_132 rfl rfl ?_
  refine r_get (v := .inr (33, k)) C fl_X3_36 dX3_takeStore_133 rfl ?_
  refine r_insU (As := [.inr (33, o1), .inr (33, k)]) (st := []) C il_X3_65 co_X3_takeRow (c_X3_takeRow 33 o1 33 k rfl rfl m20) (by decide) (by decide) rfl rfl (Nat.le_of_ble_eq_true rfl) dX3_takeStore_136 (fun r23 m22 => ?_)
  exact r_return C dX3_takeStore_139
theorem dX3_slotsOfWay_0 : decode cX3_slotsOfWay 0 = .ok (.iconst 1, 1) := by decide +kernel
theorem dX3_slotsOfWay_1 : decode cX3_slotsOfWay 1 = .ok (.aload_n 0, 1) := by decide +kernel
theorem dX3_slotsOfWay_2 : decode cX3_slotsOfWay 2 = .ok (.getfield 43, 3) := by decide +kernel
theorem dX3_slotsOfWay_5 : decode cX3_slotsOfWay 5 = .ok (.ishl, 1) := by decide +kernel
theorem dX3_slotsOfWay_6 : decode cX3_slotsOfWay 6 = .ok (.ireturn, 1) := by decide +kernel
def X3_slotsOfWay (k : Nat) (m : gM) : Option (Int32 × gM) :=
  some (1 <<< ((m 3 k 1) &&& 31), m)
set_option maxRecDepth 100000 in
set_option maxHeartbeats 4000000 in
theorem c_X3_slotsOfWay (k : Nat) (m : gM) : gCon eI yX3_slotsOfWay cX3_slotsOfWay 1 (some .int) 0 [.inr (3, k)] m (X3_slotsOfWay k m) := by
  refine gCon.of (lv := [some (.inr (3, k))]) (by decide +kernel) (Nat.le_of_ble_eq_true rfl) rfl (fun X C => ?_)
  unfold X3_slotsOfWay
  refine r_iconst (v := 1) C dX3_slotsOfWay_0 (by decide) ?_
  refine r_aload_n C dX3_slotsOfWay_1 rfl rfl ?_
  refine r_get (v := .inl (m 3 k 1)) C fl_X3_43 dX3_slotsOfWay_2 rfl ?_
  refine r_ishl C dX3_slotsOfWay_5 ?_
  exact r_ireturn C dX3_slotsOfWay_6
theorem dX3_slotsInAll_0 : decode cX3_slotsInAll 0 = .ok (.aload_n 0, 1) := by decide +kernel
theorem dX3_slotsInAll_1 : decode cX3_slotsInAll 1 = .ok (.getfield 39, 3) := by decide +kernel
theorem dX3_slotsInAll_4 : decode cX3_slotsInAll 4 = .ok (.aload_n 0, 1) := by decide +kernel
theorem dX3_slotsInAll_5 : decode cX3_slotsInAll 5 = .ok (.getfield 43, 3) := by decide +kernel
theorem dX3_slotsInAll_8 : decode cX3_slotsInAll 8 = .ok (.ishl, 1) := by decide +kernel
theorem dX3_slotsInAll_9 : decode cX3_slotsInAll 9 = .ok (.ireturn, 1) := by decide +kernel
def X3_slotsInAll (k : Nat) (m : gM) : Option (Int32 × gM) :=
  some ((m 3 k 0) <<< ((m 3 k 1) &&& 31), m)
set_option maxRecDepth 100000 in
set_option maxHeartbeats 4000000 in
theorem c_X3_slotsInAll (k : Nat) (m : gM) : gCon eI yX3_slotsInAll cX3_slotsInAll 1 (some .int) 0 [.inr (3, k)] m (X3_slotsInAll k m) := by
  refine gCon.of (lv := [some (.inr (3, k))]) (by decide +kernel) (Nat.le_of_ble_eq_true rfl) rfl (fun X C => ?_)
  unfold X3_slotsInAll
  refine r_aload_n C dX3_slotsInAll_0 rfl rfl ?_
  refine r_get (v := .inl (m 3 k 0)) C fl_X3_39 dX3_slotsInAll_1 rfl ?_
  refine r_aload_n C dX3_slotsInAll_4 rfl rfl ?_
  refine r_get (v := .inl (m 3 k 1)) C fl_X3_43 dX3_slotsInAll_5 rfl ?_
  refine r_ishl C dX3_slotsInAll_8 ?_
  exact r_ireturn C dX3_slotsInAll_9
theorem dX3_linesHeld_0 : decode cX3_linesHeld 0 = .ok (.iconst 0, 1) := by decide +kernel
theorem dX3_linesHeld_1 : decode cX3_linesHeld 1 = .ok (.istore_n 1, 1) := by decide +kernel
theorem dX3_linesHeld_2 : decode cX3_linesHeld 2 = .ok (.iconst 0, 1) := by decide +kernel
theorem dX3_linesHeld_3 : decode cX3_linesHeld 3 = .ok (.istore_n 2, 1) := by decide +kernel
theorem dX3_linesHeld_4 : decode cX3_linesHeld 4 = .ok (.iload_n 2, 1) := by decide +kernel
theorem dX3_linesHeld_5 : decode cX3_linesHeld 5 = .ok (.bipush 64, 2) := by decide +kernel
theorem dX3_linesHeld_7 : decode cX3_linesHeld 7 = .ok (.if_icmp .ge 22, 3) := by decide +kernel
theorem dX3_linesHeld_10 : decode cX3_linesHeld 10 = .ok (.aload_n 0, 1) := by decide +kernel
theorem dX3_linesHeld_11 : decode cX3_linesHeld 11 = .ok (.getfield 24, 3) := by decide +kernel
theorem dX3_linesHeld_14 : decode cX3_linesHeld 14 = .ok (.iload_n 2, 1) := by decide +kernel
theorem dX3_linesHeld_15 : decode cX3_linesHeld 15 = .ok (.iaload, 1) := by decide +kernel
theorem dX3_linesHeld_16 : decode cX3_linesHeld 16 = .ok (.iconst (-1), 1) := by decide +kernel
theorem dX3_linesHeld_17 : decode cX3_linesHeld 17 = .ok (.if_icmp .eq 6, 3) := by decide +kernel
theorem dX3_linesHeld_20 : decode cX3_linesHeld 20 = .ok (.iinc 1 1, 3) := by decide +kernel
theorem dX3_linesHeld_23 : decode cX3_linesHeld 23 = .ok (.iinc 2 1, 3) := by decide +kernel
theorem dX3_linesHeld_26 : decode cX3_linesHeld 26 = .ok (.goto (-22), 3) := by decide +kernel
theorem dX3_linesHeld_29 : decode cX3_linesHeld 29 = .ok (.iload_n 1, 1) := by decide +kernel
theorem dX3_linesHeld_30 : decode cX3_linesHeld 30 = .ok (.ireturn, 1) := by decide +kernel
def X3_linesHeld_b4 (k : Nat) (v1 v2 : Int32) (m3 : gM) (k4 : Int32 → Int32 → gM → Option (Int32 × gM)) : Option (Int32 × gM) :=
  if 64 ≤ v2 then (some (v1, m3)) else (gAt m3 29 k v2 (fun (x4 : Int32) => if x4 = (-1) then (gLet (v2 + 1) (fun (x5 : Int32) => k4 v1 x5 m3)) else (gLet (v1 + 1) (fun (x6 : Int32) => gLet (v2 + 1) (fun (x7 : Int32) => k4 x6 x7 m3)))))
def X3_linesHeld (k : Nat) (m : gM) : Option (Int32 × gM) :=
  gL2 FU (X3_linesHeld_b4 k) 0 0 m
set_option maxRecDepth 100000 in
set_option maxHeartbeats 4000000 in
theorem c_X3_linesHeld (k : Nat) (m : gM) : gCon eI yX3_linesHeld cX3_linesHeld 3 (some .int) 0 [.inr (3, k)] m (X3_linesHeld k m) := by
  refine gCon.of (lv := [some (.inr (3, k)), none, none]) (by decide +kernel) (Nat.le_of_ble_eq_true rfl) rfl (fun X C => ?_)
  unfold X3_linesHeld
  refine r_iconst (v := 0) C dX3_linesHeld_0 (by decide) ?_
  refine r_istore_n (lv' := [some (.inr (3, k)), some (.inl 0), none]) C dX3_linesHeld_1 rfl (by decide) rfl ?_
  refine r_iconst (v := 0) C dX3_linesHeld_2 (by decide) ?_
  refine r_istore_n (lv' := [some (.inr (3, k)), some (.inl 0), some (.inl 0)]) C dX3_linesHeld_3 rfl (by decide) rfl ?_
  refine r_weak (lv' := [some (.inr (3, k)), some (.inl 0), some (.inl 0)]) ⟨rfl, rfl, rfl, trivial⟩ ?_
  refine r_l2 (pj := 4) (fun v1 v2 => [some (.inr (3, k)), some (.inl v1), some (.inl v2)]) (fun v1 v2 m3 k4 hk4 => ?_) _ _ _ _
  unfold X3_linesHeld_b4
  refine r_iload_n C dX3_linesHeld_4 rfl rfl ?_
  refine r_bipush (v := 64) C dX3_linesHeld_5 (by decide) ?_
  refine r_icmp_ge (tgt := 29) C dX3_linesHeld_7 (by decide) ?_ ?_
  · refine r_iload_n C dX3_linesHeld_29 rfl rfl ?_
    exact r_ireturn C dX3_linesHeld_30
  refine r_aload_n C dX3_linesHeld_10 rfl rfl ?_
  refine r_get (v := .inr (29, k)) C fl_X3_24 dX3_linesHeld_11 rfl ?_
  refine r_iload_n C dX3_linesHeld_14 rfl rfl ?_
  refine r_iald C rfl dX3_linesHeld_15 (fun x4 => ?_)
  refine r_iconst (v := (-1)) C dX3_linesHeld_16 (by decide) ?_
  refine r_icmp_eq (tgt := 23) C dX3_linesHeld_17 (by decide) ?_ ?_
  · refine r_iinc (v := 1) C dX3_linesHeld_23 (by decide) rfl (by decide) (fun x5 => ?_)
    show gw X eI _ [some (.inr (3, k)), some (.inl v1), some (.inl x5)] _ _ _
    refine r_goto (tgt := 4) C dX3_linesHeld_26 (by decide) ?_
    exact r_weak (lv' := [some (.inr (3, k)), some (.inl v1), some (.inl x5)]) ⟨rfl, rfl, rfl, trivial⟩ (hk4 _ _ _)
  refine r_iinc (v := 1) C dX3_linesHeld_20 (by decide) rfl (by decide) (fun x6 => ?_)
  show gw X eI _ [some (.inr (3, k)), some (.inl x6), some (.inl v2)] _ _ _
  refine r_iinc (v := 1) C dX3_linesHeld_23 (by decide) rfl (by decide) (fun x7 => ?_)
  show gw X eI _ [some (.inr (3, k)), some (.inl x6), some (.inl x7)] _ _ _
  refine r_goto (tgt := 4) C dX3_linesHeld_26 (by decide) ?_
  exact r_weak (lv' := [some (.inr (3, k)), some (.inl x6), some (.inl x7)]) ⟨rfl, rfl, rfl, trivial⟩ (hk4 _ _ _)
theorem dX3_linesPinned_0 : decode cX3_linesPinned 0 = .ok (.iconst 0, 1) := by decide +kernel
theorem dX3_linesPinned_1 : decode cX3_linesPinned 1 = .ok (.istore_n 1, 1) := by decide +kernel
theorem dX3_linesPinned_2 : decode cX3_linesPinned 2 = .ok (.iconst 0, 1) := by decide +kernel
theorem dX3_linesPinned_3 : decode cX3_linesPinned 3 = .ok (.istore_n 2, 1) := by decide +kernel
theorem dX3_linesPinned_4 : decode cX3_linesPinned 4 = .ok (.iload_n 2, 1) := by decide +kernel
theorem dX3_linesPinned_5 : decode cX3_linesPinned 5 = .ok (.bipush 64, 2) := by decide +kernel
theorem dX3_linesPinned_7 : decode cX3_linesPinned 7 = .ok (.if_icmp .ge 18, 3) := by decide +kernel
theorem dX3_linesPinned_10 : decode cX3_linesPinned 10 = .ok (.iload_n 1, 1) := by decide +kernel
theorem dX3_linesPinned_11 : decode cX3_linesPinned 11 = .ok (.aload_n 0, 1) := by decide +kernel
theorem dX3_linesPinned_12 : decode cX3_linesPinned 12 = .ok (.getfield 36, 3) := by decide +kernel
theorem dX3_linesPinned_15 : decode cX3_linesPinned 15 = .ok (.iload_n 2, 1) := by decide +kernel
theorem dX3_linesPinned_16 : decode cX3_linesPinned 16 = .ok (.iaload, 1) := by decide +kernel
theorem dX3_linesPinned_17 : decode cX3_linesPinned 17 = .ok (.iadd, 1) := by decide +kernel
theorem dX3_linesPinned_18 : decode cX3_linesPinned 18 = .ok (.istore_n 1, 1) := by decide +kernel
theorem dX3_linesPinned_19 : decode cX3_linesPinned 19 = .ok (.iinc 2 1, 3) := by decide +kernel
theorem dX3_linesPinned_22 : decode cX3_linesPinned 22 = .ok (.goto (-18), 3) := by decide +kernel
theorem dX3_linesPinned_25 : decode cX3_linesPinned 25 = .ok (.iload_n 1, 1) := by decide +kernel
theorem dX3_linesPinned_26 : decode cX3_linesPinned 26 = .ok (.ireturn, 1) := by decide +kernel
def X3_linesPinned_b4 (k : Nat) (v1 v2 : Int32) (m3 : gM) (k4 : Int32 → Int32 → gM → Option (Int32 × gM)) : Option (Int32 × gM) :=
  if 64 ≤ v2 then (some (v1, m3)) else (gAt m3 33 k v2 (fun (x4 : Int32) => gLet (v1 + x4) (fun (x5 : Int32) => gLet (v2 + 1) (fun (x6 : Int32) => k4 x5 x6 m3))))
def X3_linesPinned (k : Nat) (m : gM) : Option (Int32 × gM) :=
  gL2 FU (X3_linesPinned_b4 k) 0 0 m
set_option maxRecDepth 100000 in
set_option maxHeartbeats 4000000 in
theorem c_X3_linesPinned (k : Nat) (m : gM) : gCon eI yX3_linesPinned cX3_linesPinned 3 (some .int) 0 [.inr (3, k)] m (X3_linesPinned k m) := by
  refine gCon.of (lv := [some (.inr (3, k)), none, none]) (by decide +kernel) (Nat.le_of_ble_eq_true rfl) rfl (fun X C => ?_)
  unfold X3_linesPinned
  refine r_iconst (v := 0) C dX3_linesPinned_0 (by decide) ?_
  refine r_istore_n (lv' := [some (.inr (3, k)), some (.inl 0), none]) C dX3_linesPinned_1 rfl (by decide) rfl ?_
  refine r_iconst (v := 0) C dX3_linesPinned_2 (by decide) ?_
  refine r_istore_n (lv' := [some (.inr (3, k)), some (.inl 0), some (.inl 0)]) C dX3_linesPinned_3 rfl (by decide) rfl ?_
  refine r_weak (lv' := [some (.inr (3, k)), some (.inl 0), some (.inl 0)]) ⟨rfl, rfl, rfl, trivial⟩ ?_
  refine r_l2 (pj := 4) (fun v1 v2 => [some (.inr (3, k)), some (.inl v1), some (.inl v2)]) (fun v1 v2 m3 k4 hk4 => ?_) _ _ _ _
  unfold X3_linesPinned_b4
  refine r_iload_n C dX3_linesPinned_4 rfl rfl ?_
  refine r_bipush (v := 64) C dX3_linesPinned_5 (by decide) ?_
  refine r_icmp_ge (tgt := 25) C dX3_linesPinned_7 (by decide) ?_ ?_
  · refine r_iload_n C dX3_linesPinned_25 rfl rfl ?_
    exact r_ireturn C dX3_linesPinned_26
  refine r_iload_n C dX3_linesPinned_10 rfl rfl ?_
  refine r_aload_n C dX3_linesPinned_11 rfl rfl ?_
  refine r_get (v := .inr (33, k)) C fl_X3_36 dX3_linesPinned_12 rfl ?_
  refine r_iload_n C dX3_linesPinned_15 rfl rfl ?_
  refine r_iald C rfl dX3_linesPinned_16 (fun x4 => ?_)
  refine r_iadd C dX3_linesPinned_17 ?_
  refine r_let (fun x5 => ?_)
  refine r_istore_n (lv' := [some (.inr (3, k)), some (.inl x5), some (.inl v2)]) C dX3_linesPinned_18 rfl (by decide) rfl ?_
  refine r_iinc (v := 1) C dX3_linesPinned_19 (by decide) rfl (by decide) (fun x6 => ?_)
  show gw X eI _ [some (.inr (3, k)), some (.inl x5), some (.inl x6)] _ _ _
  refine r_goto (tgt := 4) C dX3_linesPinned_22 (by decide) ?_
  exact r_weak (lv' := [some (.inr (3, k)), some (.inl x5), some (.inl x6)]) ⟨rfl, rfl, rfl, trivial⟩ (hk4 _ _ _)
theorem dX3_waysShared_0 : decode cX3_waysShared 0 = .ok (.iconst 0, 1) := by decide +kernel
theorem dX3_waysShared_1 : decode cX3_waysShared 1 = .ok (.istore_n 3, 1) := by decide +kernel
theorem dX3_waysShared_2 : decode cX3_waysShared 2 = .ok (.iconst 0, 1) := by decide +kernel
theorem dX3_waysShared_3 : decode cX3_waysShared 3 = .ok (.istore 4, 2) := by decide +kernel
theorem dX3_waysShared_5 : decode cX3_waysShared 5 = .ok (.iload 4, 2) := by decide +kernel
theorem dX3_waysShared_7 : decode cX3_waysShared 7 = .ok (.aload_n 0, 1) := by decide +kernel
theorem dX3_waysShared_8 : decode cX3_waysShared 8 = .ok (.getfield 39, 3) := by decide +kernel
theorem dX3_waysShared_11 : decode cX3_waysShared 11 = .ok (.if_icmp .ge 29, 3) := by decide +kernel
theorem dX3_waysShared_14 : decode cX3_waysShared 14 = .ok (.aload_n 0, 1) := by decide +kernel
theorem dX3_waysShared_15 : decode cX3_waysShared 15 = .ok (.iload_n 1, 1) := by decide +kernel
theorem dX3_waysShared_16 : decode cX3_waysShared 16 = .ok (.iload 4, 2) := by decide +kernel
theorem dX3_waysShared_18 : decode cX3_waysShared 18 = .ok (.invokevirtual 87, 3) := by decide +kernel
theorem dX3_waysShared_21 : decode cX3_waysShared 21 = .ok (.aload_n 0, 1) := by decide +kernel
theorem dX3_waysShared_22 : decode cX3_waysShared 22 = .ok (.iload_n 2, 1) := by decide +kernel
theorem dX3_waysShared_23 : decode cX3_waysShared 23 = .ok (.iload 4, 2) := by decide +kernel
theorem dX3_waysShared_25 : decode cX3_waysShared 25 = .ok (.invokevirtual 87, 3) := by decide +kernel
theorem dX3_waysShared_28 : decode cX3_waysShared 28 = .ok (.if_icmp .ne 6, 3) := by decide +kernel
theorem dX3_waysShared_31 : decode cX3_waysShared 31 = .ok (.iinc 3 1, 3) := by decide +kernel
theorem dX3_waysShared_34 : decode cX3_waysShared 34 = .ok (.iinc 4 1, 3) := by decide +kernel
theorem dX3_waysShared_37 : decode cX3_waysShared 37 = .ok (.goto (-32), 3) := by decide +kernel
theorem dX3_waysShared_40 : decode cX3_waysShared 40 = .ok (.iload_n 3, 1) := by decide +kernel
theorem dX3_waysShared_41 : decode cX3_waysShared 41 = .ok (.ireturn, 1) := by decide +kernel
def X3_waysShared_b5 (k : Nat) (a1 : Int32) (a2 : Int32) (v1 v2 : Int32) (m3 : gM) (k5 : Int32 → Int32 → gM → Option (Int32 × gM)) : Option (Int32 × gM) :=
  if (m3 3 k 0) ≤ v2 then (some (v1, m3)) else (gCall (X3_indexOf k a1 v2 m3) (fun (r5 : Int32) (m4 : gM) => gCall (X3_indexOf k a2 v2 m4) (fun (r7 : Int32) (m6 : gM) => if r5 = r7 then (gLet (v1 + 1) (fun (x9 : Int32) => gLet (v2 + 1) (fun (x10 : Int32) => k5 x9 x10 m6))) else (gLet (v2 + 1) (fun (x8 : Int32) => k5 v1 x8 m6)))))
def X3_waysShared (k : Nat) (a1 : Int32) (a2 : Int32) (m : gM) : Option (Int32 × gM) :=
  gL2 FU (X3_waysShared_b5 k a1 a2) 0 0 m
set_option maxRecDepth 100000 in
set_option maxHeartbeats 4000000 in
theorem c_X3_waysShared (k : Nat) (a1 : Int32) (a2 : Int32) (m : gM) : gCon eI yX3_waysShared cX3_waysShared 5 (some .int) 2 [.inr (3, k), .inl a1, .inl a2] m (X3_waysShared k a1 a2 m) := by
  refine gCon.of (lv := [some (.inr (3, k)), some (.inl a1), some (.inl a2), none, none]) (by decide +kernel) (Nat.le_of_ble_eq_true rfl) rfl (fun X C => ?_)
  unfold X3_waysShared
  refine r_iconst (v := 0) C dX3_waysShared_0 (by decide) ?_
  refine r_istore_n (lv' := [some (.inr (3, k)), some (.inl a1), some (.inl a2), some (.inl 0), none]) C dX3_waysShared_1 rfl (by decide) rfl ?_
  refine r_iconst (v := 0) C dX3_waysShared_2 (by decide) ?_
  refine r_istore (lv' := [some (.inr (3, k)), some (.inl a1), some (.inl a2), some (.inl 0), some (.inl 0)]) C dX3_waysShared_3 (by decide) rfl ?_
  refine r_weak (lv' := [some (.inr (3, k)), some (.inl a1), some (.inl a2), some (.inl 0), some (.inl 0)]) ⟨rfl, rfl, rfl, rfl, rfl, trivial⟩ ?_
  refine r_l2 (pj := 5) (fun v1 v2 => [some (.inr (3, k)), some (.inl a1), some (.inl a2), some (.inl v1), some (.inl v2)]) (fun v1 v2 m3 k5 hk5 => ?_) _ _ _ _
  unfold X3_waysShared_b5
  refine r_iload C dX3_waysShared_5 rfl ?_
  refine r_aload_n C dX3_waysShared_7 rfl rfl ?_
  refine r_get (v := .inl (m3 3 k 0)) C fl_X3_39 dX3_waysShared_8 rfl ?_
  refine r_icmp_ge (tgt := 40) C dX3_waysShared_11 (by decide) ?_ ?_
  · refine r_iload_n C dX3_waysShared_40 rfl rfl ?_
    exact r_ireturn C dX3_waysShared_41
  refine r_aload_n C dX3_waysShared_14 rfl rfl ?_
  refine r_iload_n C dX3_waysShared_15 rfl rfl ?_
  refine r_iload C dX3_waysShared_16 rfl ?_
  refine r_invI (t := 3) (kb := k) (As := [.inl a1, .inl v2]) (st := []) C il_X3_87 co_X3_indexOf (by decide) rfl (c_X3_indexOf k a1 v2 m3) (by decide) (by decide) rfl rfl (Nat.le_of_ble_eq_true rfl) dX3_waysShared_18 (fun r5 m4 => ?_)
  refine r_aload_n C dX3_waysShared_21 rfl rfl ?_
  refine r_iload_n C dX3_waysShared_22 rfl rfl ?_
  refine r_iload C dX3_waysShared_23 rfl ?_
  refine r_invI (t := 3) (kb := k) (As := [.inl a2, .inl v2]) (st := [.inl r5]) C il_X3_87 co_X3_indexOf (by decide) rfl (c_X3_indexOf k a2 v2 m4) (by decide) (by decide) rfl rfl (Nat.le_of_ble_eq_true rfl) dX3_waysShared_25 (fun r7 m6 => ?_)
  refine r_icmp_ne (tgt := 34) C dX3_waysShared_28 (by decide) ?_ ?_
  · refine r_iinc (v := 1) C dX3_waysShared_34 (by decide) rfl (by decide) (fun x8 => ?_)
    show gw X eI _ [some (.inr (3, k)), some (.inl a1), some (.inl a2), some (.inl v1), some (.inl x8)] _ _ _
    refine r_goto (tgt := 5) C dX3_waysShared_37 (by decide) ?_
    exact r_weak (lv' := [some (.inr (3, k)), some (.inl a1), some (.inl a2), some (.inl v1), some (.inl x8)]) ⟨rfl, rfl, rfl, rfl, rfl, trivial⟩ (hk5 _ _ _)
  refine r_iinc (v := 1) C dX3_waysShared_31 (by decide) rfl (by decide) (fun x9 => ?_)
  show gw X eI _ [some (.inr (3, k)), some (.inl a1), some (.inl a2), some (.inl x9), some (.inl v2)] _ _ _
  refine r_iinc (v := 1) C dX3_waysShared_34 (by decide) rfl (by decide) (fun x10 => ?_)
  show gw X eI _ [some (.inr (3, k)), some (.inl a1), some (.inl a2), some (.inl x9), some (.inl x10)] _ _ _
  refine r_goto (tgt := 5) C dX3_waysShared_37 (by decide) ?_
  exact r_weak (lv' := [some (.inr (3, k)), some (.inl a1), some (.inl a2), some (.inl x9), some (.inl x10)]) ⟨rfl, rfl, rfl, rfl, rfl, trivial⟩ (hk5 _ _ _)
theorem dX3_areTwins_0 : decode cX3_areTwins 0 = .ok (.iconst 0, 1) := by decide +kernel
theorem dX3_areTwins_1 : decode cX3_areTwins 1 = .ok (.istore_n 3, 1) := by decide +kernel
theorem dX3_areTwins_2 : decode cX3_areTwins 2 = .ok (.iload_n 3, 1) := by decide +kernel
theorem dX3_areTwins_3 : decode cX3_areTwins 3 = .ok (.aload_n 0, 1) := by decide +kernel
theorem dX3_areTwins_4 : decode cX3_areTwins 4 = .ok (.getfield 39, 3) := by decide +kernel
theorem dX3_areTwins_7 : decode cX3_areTwins 7 = .ok (.if_icmp .ge 22, 3) := by decide +kernel
theorem dX3_areTwins_10 : decode cX3_areTwins 10 = .ok (.aload_n 0, 1) := by decide +kernel
theorem dX3_areTwins_11 : decode cX3_areTwins 11 = .ok (.iload_n 1, 1) := by decide +kernel
theorem dX3_areTwins_12 : decode cX3_areTwins 12 = .ok (.iload_n 2, 1) := by decide +kernel
theorem dX3_areTwins_13 : decode cX3_areTwins 13 = .ok (.ixor, 1) := by decide +kernel
theorem dX3_areTwins_14 : decode cX3_areTwins 14 = .ok (.iload_n 3, 1) := by decide +kernel
theorem dX3_areTwins_15 : decode cX3_areTwins 15 = .ok (.invokevirtual 87, 3) := by decide +kernel
theorem dX3_areTwins_18 : decode cX3_areTwins 18 = .ok (.ifCond .eq 5, 3) := by decide +kernel
theorem dX3_areTwins_21 : decode cX3_areTwins 21 = .ok (.iconst 0, 1) := by decide +kernel
theorem dX3_areTwins_22 : decode cX3_areTwins 22 = .ok (.ireturn, 1) := by decide +kernel
theorem dX3_areTwins_23 : decode cX3_areTwins 23 = .ok (.iinc 3 1, 3) := by decide +kernel
theorem dX3_areTwins_26 : decode cX3_areTwins 26 = .ok (.goto (-24), 3) := by decide +kernel
theorem dX3_areTwins_29 : decode cX3_areTwins 29 = .ok (.iconst 1, 1) := by decide +kernel
theorem dX3_areTwins_30 : decode cX3_areTwins 30 = .ok (.ireturn, 1) := by decide +kernel
def X3_areTwins_b2 (k : Nat) (a1 : Int32) (a2 : Int32) (v1 : Int32) (m2 : gM) (k2 : Int32 → gM → Option (Bool × gM)) : Option (Bool × gM) :=
  if (m2 3 k 0) ≤ v1 then (some (true, m2)) else (gCall (X3_indexOf k (a1 ^^^ a2) v1 m2) (fun (r4 : Int32) (m3 : gM) => if r4 = 0 then (gLet (v1 + 1) (fun (x5 : Int32) => k2 x5 m3)) else (some (false, m3))))
def X3_areTwins (k : Nat) (a1 : Int32) (a2 : Int32) (m : gM) : Option (Bool × gM) :=
  gL1 FU (X3_areTwins_b2 k a1 a2) 0 m
set_option maxRecDepth 100000 in
set_option maxHeartbeats 4000000 in
theorem c_X3_areTwins (k : Nat) (a1 : Int32) (a2 : Int32) (m : gM) : gCon eB yX3_areTwins cX3_areTwins 4 (some .boolean) 2 [.inr (3, k), .inl a1, .inl a2] m (X3_areTwins k a1 a2 m) := by
  refine gCon.of (lv := [some (.inr (3, k)), some (.inl a1), some (.inl a2), none]) (by decide +kernel) (Nat.le_of_ble_eq_true rfl) rfl (fun X C => ?_)
  unfold X3_areTwins
  refine r_iconst (v := 0) C dX3_areTwins_0 (by decide) ?_
  refine r_istore_n (lv' := [some (.inr (3, k)), some (.inl a1), some (.inl a2), some (.inl 0)]) C dX3_areTwins_1 rfl (by decide) rfl ?_
  refine r_weak (lv' := [some (.inr (3, k)), some (.inl a1), some (.inl a2), some (.inl 0)]) ⟨rfl, rfl, rfl, rfl, trivial⟩ ?_
  refine r_l1 (pj := 2) (fun v1 => [some (.inr (3, k)), some (.inl a1), some (.inl a2), some (.inl v1)]) (fun v1 m2 k2 hk2 => ?_) _ _ _
  unfold X3_areTwins_b2
  refine r_iload_n C dX3_areTwins_2 rfl rfl ?_
  refine r_aload_n C dX3_areTwins_3 rfl rfl ?_
  refine r_get (v := .inl (m2 3 k 0)) C fl_X3_39 dX3_areTwins_4 rfl ?_
  refine r_icmp_ge (tgt := 29) C dX3_areTwins_7 (by decide) ?_ ?_
  · refine r_iconst (v := 1) C dX3_areTwins_29 (by decide) ?_
    exact r_zret1 C dX3_areTwins_30
  refine r_aload_n C dX3_areTwins_10 rfl rfl ?_
  refine r_iload_n C dX3_areTwins_11 rfl rfl ?_
  refine r_iload_n C dX3_areTwins_12 rfl rfl ?_
  refine r_ixor C dX3_areTwins_13 ?_
  refine r_iload_n C dX3_areTwins_14 rfl rfl ?_
  refine r_invI (t := 3) (kb := k) (As := [.inl (a1 ^^^ a2), .inl v1]) (st := []) C il_X3_87 co_X3_indexOf (by decide) rfl (c_X3_indexOf k (a1 ^^^ a2) v1 m2) (by decide) (by decide) rfl rfl (Nat.le_of_ble_eq_true rfl) dX3_areTwins_15 (fun r4 m3 => ?_)
  refine r_if_eq (tgt := 23) C dX3_areTwins_18 (by decide) ?_ ?_
  · refine r_iinc (v := 1) C dX3_areTwins_23 (by decide) rfl (by decide) (fun x5 => ?_)
    show gw X eB _ [some (.inr (3, k)), some (.inl a1), some (.inl a2), some (.inl x5)] _ _ _
    refine r_goto (tgt := 2) C dX3_areTwins_26 (by decide) ?_
    exact r_weak (lv' := [some (.inr (3, k)), some (.inl a1), some (.inl a2), some (.inl x5)]) ⟨rfl, rfl, rfl, rfl, trivial⟩ (hk2 _ _)
  refine r_iconst (v := 0) C dX3_areTwins_21 (by decide) ?_
  exact r_zret0 C dX3_areTwins_22
theorem dX3_valueOf_0 : decode cX3_valueOf 0 = .ok (.aload_n 0, 1) := by decide +kernel
theorem dX3_valueOf_1 : decode cX3_valueOf 1 = .ok (.iload_n 1, 1) := by decide +kernel
theorem dX3_valueOf_2 : decode cX3_valueOf 2 = .ok (.invokevirtual 100, 3) := by decide +kernel
theorem dX3_valueOf_5 : decode cX3_valueOf 5 = .ok (.istore_n 2, 1) := by decide +kernel
theorem dX3_valueOf_6 : decode cX3_valueOf 6 = .ok (.iload_n 2, 1) := by decide +kernel
theorem dX3_valueOf_7 : decode cX3_valueOf 7 = .ok (.iconst (-1), 1) := by decide +kernel
theorem dX3_valueOf_8 : decode cX3_valueOf 8 = .ok (.if_icmp .ne 12, 3) := by decide +kernel
theorem dX3_valueOf_11 : decode cX3_valueOf 11 = .ok (.aload_n 0, 1) := by decide +kernel
theorem dX3_valueOf_12 : decode cX3_valueOf 12 = .ok (.getfield 21, 3) := by decide +kernel
theorem dX3_valueOf_15 : decode cX3_valueOf 15 = .ok (.iload_n 1, 1) := by decide +kernel
theorem dX3_valueOf_16 : decode cX3_valueOf 16 = .ok (.iaload, 1) := by decide +kernel
theorem dX3_valueOf_17 : decode cX3_valueOf 17 = .ok (.goto 9, 3) := by decide +kernel
theorem dX3_valueOf_20 : decode cX3_valueOf 20 = .ok (.aload_n 0, 1) := by decide +kernel
theorem dX3_valueOf_21 : decode cX3_valueOf 21 = .ok (.getfield 27, 3) := by decide +kernel
theorem dX3_valueOf_24 : decode cX3_valueOf 24 = .ok (.iload_n 2, 1) := by decide +kernel
theorem dX3_valueOf_25 : decode cX3_valueOf 25 = .ok (.iaload, 1) := by decide +kernel
theorem dX3_valueOf_26 : decode cX3_valueOf 26 = .ok (.ireturn, 1) := by decide +kernel
def X3_valueOf (k : Nat) (a1 : Int32) (m : gM) : Option (Int32 × gM) :=
  gCall (X3_placeOf k a1 m) (fun (r2 : Int32) (m1 : gM) => if r2 = (-1) then (gAt m1 28 k a1 (fun (x4 : Int32) => some (x4, m1))) else (gAt m1 30 k r2 (fun (x3 : Int32) => some (x3, m1))))
set_option maxRecDepth 100000 in
set_option maxHeartbeats 4000000 in
theorem c_X3_valueOf (k : Nat) (a1 : Int32) (m : gM) : gCon eI yX3_valueOf cX3_valueOf 3 (some .int) 4 [.inr (3, k), .inl a1] m (X3_valueOf k a1 m) := by
  refine gCon.of (lv := [some (.inr (3, k)), some (.inl a1), none]) (by decide +kernel) (Nat.le_of_ble_eq_true rfl) rfl (fun X C => ?_)
  unfold X3_valueOf
  refine r_aload_n C dX3_valueOf_0 rfl rfl ?_
  refine r_iload_n C dX3_valueOf_1 rfl rfl ?_
  refine r_invI (t := 3) (kb := k) (As := [.inl a1]) (st := []) C il_X3_100 co_X3_placeOf (by decide) rfl (c_X3_placeOf k a1 m) (by decide) (by decide) rfl rfl (Nat.le_of_ble_eq_true rfl) dX3_valueOf_2 (fun r2 m1 => ?_)
  refine r_istore_n (lv' := [some (.inr (3, k)), some (.inl a1), some (.inl r2)]) C dX3_valueOf_5 rfl (by decide) rfl ?_
  refine r_iload_n C dX3_valueOf_6 rfl rfl ?_
  refine r_iconst (v := (-1)) C dX3_valueOf_7 (by decide) ?_
  refine r_icmp_ne (tgt := 20) C dX3_valueOf_8 (by decide) ?_ ?_
  · refine r_aload_n C dX3_valueOf_20 rfl rfl ?_
    refine r_get (v := .inr (30, k)) C fl_X3_27 dX3_valueOf_21 rfl ?_
    refine r_iload_n C dX3_valueOf_24 rfl rfl ?_
    refine r_iald C rfl dX3_valueOf_25 (fun x3 => ?_)
    exact r_ireturn C dX3_valueOf_26
  refine r_aload_n C dX3_valueOf_11 rfl rfl ?_
  refine r_get (v := .inr (28, k)) C fl_X3_21 dX3_valueOf_12 rfl ?_
  refine r_iload_n C dX3_valueOf_15 rfl rfl ?_
  refine r_iald C rfl dX3_valueOf_16 (fun x4 => ?_)
  refine r_goto (tgt := 26) C dX3_valueOf_17 (by decide) ?_
  exact r_ireturn C dX3_valueOf_26
theorem dX3_note_0 : decode cX3_note 0 = .ok (.aload_n 0, 1) := by decide +kernel
theorem dX3_note_1 : decode cX3_note 1 = .ok (.getfield 62, 3) := by decide +kernel
theorem dX3_note_4 : decode cX3_note 4 = .ok (.bipush 24, 2) := by decide +kernel
theorem dX3_note_6 : decode cX3_note 6 = .ok (.irem, 1) := by decide +kernel
theorem dX3_note_7 : decode cX3_note 7 = .ok (.iconst 4, 1) := by decide +kernel
theorem dX3_note_8 : decode cX3_note 8 = .ok (.imul, 1) := by decide +kernel
theorem dX3_note_9 : decode cX3_note 9 = .ok (.istore 5, 2) := by decide +kernel
theorem dX3_note_11 : decode cX3_note 11 = .ok (.aload_n 0, 1) := by decide +kernel
theorem dX3_note_12 : decode cX3_note 12 = .ok (.getfield 18, 3) := by decide +kernel
theorem dX3_note_15 : decode cX3_note 15 = .ok (.iload 5, 2) := by decide +kernel
theorem dX3_note_17 : decode cX3_note 17 = .ok (.iload_n 1, 1) := by decide +kernel
theorem dX3_note_18 : decode cX3_note 18 = .ok (.iastore, 1) := by decide +kernel
theorem dX3_note_19 : decode cX3_note 19 = .ok (.aload_n 0, 1) := by decide +kernel
theorem dX3_note_20 : decode cX3_note 20 = .ok (.getfield 18, 3) := by decide +kernel
theorem dX3_note_23 : decode cX3_note 23 = .ok (.iload 5, 2) := by decide +kernel
theorem dX3_note_25 : decode cX3_note 25 = .ok (.iconst 1, 1) := by decide +kernel
theorem dX3_note_26 : decode cX3_note 26 = .ok (.iadd, 1) := by decide +kernel
theorem dX3_note_27 : decode cX3_note 27 = .ok (.iload_n 2, 1) := by decide +kernel
theorem dX3_note_28 : decode cX3_note 28 = .ok (.iastore, 1) := by decide +kernel
theorem dX3_note_29 : decode cX3_note 29 = .ok (.aload_n 0, 1) := by decide +kernel
theorem dX3_note_30 : decode cX3_note 30 = .ok (.getfield 18, 3) := by decide +kernel
theorem dX3_note_33 : decode cX3_note 33 = .ok (.iload 5, 2) := by decide +kernel
theorem dX3_note_35 : decode cX3_note 35 = .ok (.iconst 2, 1) := by decide +kernel
theorem dX3_note_36 : decode cX3_note 36 = .ok (.iadd, 1) := by decide +kernel
theorem dX3_note_37 : decode cX3_note 37 = .ok (.iload_n 3, 1) := by decide +kernel
theorem dX3_note_38 : decode cX3_note 38 = .ok (.iastore, 1) := by decide +kernel
theorem dX3_note_39 : decode cX3_note 39 = .ok (.aload_n 0, 1) := by decide +kernel
theorem dX3_note_40 : decode cX3_note 40 = .ok (.getfield 18, 3) := by decide +kernel
theorem dX3_note_43 : decode cX3_note 43 = .ok (.iload 5, 2) := by decide +kernel
theorem dX3_note_45 : decode cX3_note 45 = .ok (.iconst 3, 1) := by decide +kernel
theorem dX3_note_46 : decode cX3_note 46 = .ok (.iadd, 1) := by decide +kernel
theorem dX3_note_47 : decode cX3_note 47 = .ok (.iload 4, 2) := by decide +kernel
theorem dX3_note_49 : decode cX3_note 49 = .ok (.iastore, 1) := by decide +kernel
theorem dX3_note_50 : decode cX3_note 50 = .ok (.aload_n 0, 1) := by decide +kernel
theorem dX3_note_51 : decode cX3_note 51 = .ok (.dup, 1) := by decide +kernel
theorem dX3_note_52 : decode cX3_note 52 = .ok (.getfield 62, 3) := by decide +kernel
theorem dX3_note_55 : decode cX3_note 55 = .ok (.iconst 1, 1) := by decide +kernel
theorem dX3_note_56 : decode cX3_note 56 = .ok (.iadd, 1) := by decide +kernel
theorem dX3_note_57 : decode cX3_note 57 = .ok (.putfield 62, 3) := by decide +kernel
theorem dX3_note_60 : decode cX3_note 60 = .ok (.return_, 1) := by decide +kernel
def X3_note (k : Nat) (a1 : Int32) (a2 : Int32) (a3 : Int32) (a4 : Int32) (m : gM) : Option (Unit × gM) :=
  gLet ((gRem (m 3 k 4) 24) * 4) (fun (x1 : Int32) => gPut m 27 k x1 a1 (fun (m2 : gM) => gPut m2 27 k (x1 + 1) a2 (fun (m3 : gM) => gPut m3 27 k (x1 + 2) a3 (fun (m4 : gM) => gPut m4 27 k (x1 + 3) a4 (fun (m5 : gM) => gLet ((m5 3 k 4) + 1) (fun (x6 : Int32) => gSet m5 3 k 4 x6 (fun (m7 : gM) => some ((), m7))))))))
set_option maxRecDepth 100000 in
set_option maxHeartbeats 4000000 in
theorem c_X3_note (k : Nat) (a1 : Int32) (a2 : Int32) (a3 : Int32) (a4 : Int32) (m : gM) : gCon eU yX3_note cX3_note 6 none 0 [.inr (3, k), .inl a1, .inl a2, .inl a3, .inl a4] m (X3_note k a1 a2 a3 a4 m) := by
  refine gCon.of (lv := [some (.inr (3, k)), some (.inl a1), some (.inl a2), some (.inl a3), some (.inl a4), none]) (by decide +kernel) (Nat.le_of_ble_eq_true rfl) rfl (fun X C => ?_)
  unfold X3_note
  refine r_aload_n C dX3_note_0 rfl rfl ?_
  refine r_get (v := .inl (m 3 k 4)) C fl_X3_62 dX3_note_1 rfl ?_
  refine r_bipush (v := 24) C dX3_note_4 (by decide) ?_
  refine r_irem C dX3_note_6 (by decide) ?_
  refine r_iconst (v := 4) C dX3_note_7 (by decide) ?_
  refine r_imul C dX3_note_8 ?_
  refine r_let (fun x1 => ?_)
  refine r_istore (lv' := [some (.inr (3, k)), some (.inl a1), some (.inl a2), some (.inl a3), some (.inl a4), some (.inl x1)]) C dX3_note_9 (by decide) rfl ?_
  refine r_aload_n C dX3_note_11 rfl rfl ?_
  refine r_get (v := .inr (27, k)) C fl_X3_18 dX3_note_12 rfl ?_
  refine r_iload C dX3_note_15 rfl ?_
  refine r_iload_n C dX3_note_17 rfl rfl ?_
  refine r_iast C rfl dX3_note_18 (fun m2 => ?_)
  refine r_aload_n C dX3_note_19 rfl rfl ?_
  refine r_get (v := .inr (27, k)) C fl_X3_18 dX3_note_20 rfl ?_
  refine r_iload C dX3_note_23 rfl ?_
  refine r_iconst (v := 1) C dX3_note_25 (by decide) ?_
  refine r_iadd C dX3_note_26 ?_
  refine r_iload_n C dX3_note_27 rfl rfl ?_
  refine r_iast C rfl dX3_note_28 (fun m3 => ?_)
  refine r_aload_n C dX3_note_29 rfl rfl ?_
  refine r_get (v := .inr (27, k)) C fl_X3_18 dX3_note_30 rfl ?_
  refine r_iload C dX3_note_33 rfl ?_
  refine r_iconst (v := 2) C dX3_note_35 (by decide) ?_
  refine r_iadd C dX3_note_36 ?_
  refine r_iload_n C dX3_note_37 rfl rfl ?_
  refine r_iast C rfl dX3_note_38 (fun m4 => ?_)
  refine r_aload_n C dX3_note_39 rfl rfl ?_
  refine r_get (v := .inr (27, k)) C fl_X3_18 dX3_note_40 rfl ?_
  refine r_iload C dX3_note_43 rfl ?_
  refine r_iconst (v := 3) C dX3_note_45 (by decide) ?_
  refine r_iadd C dX3_note_46 ?_
  refine r_iload C dX3_note_47 rfl ?_
  refine r_iast C rfl dX3_note_49 (fun m5 => ?_)
  refine r_aload_n C dX3_note_50 rfl rfl ?_
  refine r_dup C dX3_note_51 ?_
  refine r_get (v := .inl (m5 3 k 4)) C fl_X3_62 dX3_note_52 rfl ?_
  refine r_iconst (v := 1) C dX3_note_55 (by decide) ?_
  refine r_iadd C dX3_note_56 ?_
  refine r_let (fun x6 => ?_)
  refine r_put C fl_X3_62 rfl rfl rfl dX3_note_57 (fun m7 => ?_)
  exact r_return C dX3_note_60
